/-! calls, Math, arraycopy, switches -/
def jYV (y : MethodName) (cc : ByteArray) (maxL : Nat) (ret : Option FieldType) (n : Nat) : Prop :=
  Cond.instanceMethod y ∈ lwG ∧ Cond.selects y.cls y y ∈ lwG ∧ Cond.initialized y.cls ∈ lwG ∧ Cond.code y cc maxL ret ∈ lwG ∧ (y.cls ≠ "java/lang/invoke/MethodHandle" ∧ y.cls ≠ "java/lang/invoke/VarHandle" ∧ (parseMethodDescriptor y.desc).map (fun d => d.parameters.length) = some n)
def jYS (y : MethodName) (cc : ByteArray) (maxL : Nat) (ret : Option FieldType) (n : Nat) : Prop :=
  Cond.static y ∈ lwG ∧ Cond.initialized y.cls ∈ lwG ∧ Cond.code y cc maxL ret ∈ lwG ∧ (y.cls ≠ "java/lang/invoke/MethodHandle" ∧ y.cls ≠ "java/lang/invoke/VarHandle" ∧ (parseMethodDescriptor y.desc).map (fun d => d.parameters.length) = some n)
theorem good_G {w0 : Cond} (h0 : w0 ∈ lwG) : GoodIn lwG (w0 :: lwG) := fun w hw => by
  have h : w ∈ lwG := (List.mem_cons.mp hw).elim (fun q => by rw [q]; exact h0) id
  exact ⟨h, good_of_word (lwG_good h)⟩
section JC
variable {p : Program} {l : Launch} {e : Env} {R : Room} {s : State} {m : MethodId} {args : Array Value} {below : List Frame} {meth : Method} {c : Code} {H : Heap} {locs : List Loc} {cells slots : Nat} {Q : State → Prop}
variable {cc : ByteArray} {nL : Nat} {own : String} {E : jE} {z : Nat} {Ly : jLy} {M : Mem} {pc : Nat} {ls : Array Slot} {rest : List Value}
theorem j_pre (C : Cx E p c cc nL s args own m) (hM : HS E z Ly M s H locs) (As : List Value) {U : State} (hU : U.heap = H) (hW : s.WarmedH U.vm) : jPre E z Ly As M As.toArray U :=
  ⟨rfl, by rw [hU]; exact hM.1, va_K.moved hW.alike C.2.1, by rw [hU]; exact (C.2.2.1.kept hM.2.1.2.1).warm hW, fun q hq => C.2.2.2 q (Nat.le_trans hM.2.1.1 (by rw [hU] at hq; exact hq)), hM.2.2.1, hM.2.2.2⟩
theorem recvW (C : Cx E p c cc nL s args own m) (hM : HS E z Ly M s H locs) {ci N a : Nat} {Cn : String} {T : u_T} {ty : Nat → FieldType} (jc : jCl ci Cn T N ty) {kd : Nat × Nat} {fs : List Value} (ha : a < Ly.1) (hl : Ly.2 a = kd) (he : cellOf (eC E) z a kd (M a) = .inr (ci, fs)) : ∃ cell : Cell, H[z + a]? = some cell ∧ cell.vm.isStatics = false ∧ s.vm.findClass Cn = some cell.cls :=
  va_recv C.2.1 hM.1 jc.1 (q0 := a) (ci := ci) (fs := fs) (by rw [Wd_get ha, hl, he])
theorem recvK (C : Cx E p c cc nL s args own m) (hM : HS E z Ly M s H locs) {i : Nat} (hi : i < nST) : ∃ cell : Cell, H[eK E i]? = some cell ∧ cell.vm.isStatics = false ∧ s.vm.findClass "java/lang/String" = some cell.cls := vk_recv C.2.2.1.1 hi hM.2.1
set_option maxHeartbeats 4000000 in
theorem r_callI (C : Cx E p c cc nL s args own m) (hM : HS E z Ly M s H locs) {y : MethodName} {bytes : ByteArray} {maxL n index b : Nat} {ret : Option FieldType} {rm : Room} {As : List Value} {r : Int} {M' : Mem} {st : List Value} (ct : CtI l y bytes maxL ret rm E z Ly (.ref b :: As) M r M') (jy : jYV y bytes maxL ret n) (hlink : Cond.methodLink own index y ∈ lwG) (hdg : decode cc pc = .ok (.invokevirtual index, 3)) (rc : ∃ cell : Cell, H[b]? = some cell ∧ cell.vm.isStatics = false ∧ s.vm.findClass y.cls = some cell.cls) (hst : st = As.reverse ++ .ref b :: rest) (hn : As.length = n) (hsz : ls.size = nL) (hroom : (rest.map fun v => v.category).sum ≤ 8) (hR : rm.frames + 1 ≤ R.frames ∧ 8 + (maxL + 11) + rm.locals ≤ R.locals) (h0 : rm.cells = 0 ∧ rm.slots = 0) (hc : cells ≤ R.cells ∧ slots ≤ R.slots)
    (kk : ∀ (H1 : Heap) (locs1 : List Loc), inR r → HS E z Ly M' s H1 locs1 → W p l e R s m args below meth c H1 locs1 cells slots Q (F0 m (pc + 3) ls (.int (jI r) :: rest))) : W p l e R s m args below meth c H locs cells slots Q (F0 m pc ls st) := by
  refine va_calli (va_runV (As := As) (rest := rest) C.1 ct ⟨callB_of n C.1.2.2.2.2 (good_G jy.2.2.2.1) rfl rfl rfl (C.1.2.2.2.2 _ jy.2.2.1) (C.1.2.2.2.2 _ hlink) jy.2.2.2.2 hR, C.1.2.2.2.2 _ jy.1, C.1.2.2.2.2 _ jy.2.1⟩ ⟨jPre_blind, rc, fun U hU hW => j_pre C hM _ hU hW⟩ rfl hn hsz hst (lv_room hroom) hdg (by rw [h0.1, h0.2]; exact hc)) hM.2.1 (fun q _ h => h) (fun q h => h) (fun v u t H1 locs1 ht hvm hw hB hz1 hk1 hS => ?_)
  obtain ⟨rfl, hr, hMk⟩ := hw
  have hB : va_P (eD E) vwCl (Wd (eC E) z Ly M') t.heap := hB
  rw [ht] at hB
  rw [h0.1, h0.2]
  exact kk H1 locs1 hr ⟨hB, hS, hMk, hM.2.2.2⟩
set_option maxHeartbeats 4000000 in
theorem r_callV (C : Cx E p c cc nL s args own m) (hM : HS E z Ly M s H locs) {y : MethodName} {bytes : ByteArray} {maxL n index b : Nat} {ret : Option FieldType} {rm : Room} {As : List Value} {M' : Mem} {st : List Value} (ct : CtV l y bytes maxL ret rm E z Ly (.ref b :: As) M M') (jy : jYV y bytes maxL ret n) (hlink : Cond.methodLink own index y ∈ lwG) (hdg : decode cc pc = .ok (.invokevirtual index, 3)) (rc : ∃ cell : Cell, H[b]? = some cell ∧ cell.vm.isStatics = false ∧ s.vm.findClass y.cls = some cell.cls) (hst : st = As.reverse ++ .ref b :: rest) (hn : As.length = n) (hsz : ls.size = nL) (hroom : (rest.map fun v => v.category).sum ≤ 8) (hR : rm.frames + 1 ≤ R.frames ∧ 8 + (maxL + 11) + rm.locals ≤ R.locals) (h0 : rm.cells = 0 ∧ rm.slots = 0) (hc : cells ≤ R.cells ∧ slots ≤ R.slots)
    (kk : ∀ (H1 : Heap) (locs1 : List Loc), HS E z Ly M' s H1 locs1 → W p l e R s m args below meth c H1 locs1 cells slots Q (F0 m (pc + 3) ls rest)) : W p l e R s m args below meth c H locs cells slots Q (F0 m pc ls st) := by
  refine va_callv (va_runV (As := As) (rest := rest) C.1 ct ⟨callB_of n C.1.2.2.2.2 (good_G jy.2.2.2.1) rfl rfl rfl (C.1.2.2.2.2 _ jy.2.2.1) (C.1.2.2.2.2 _ hlink) jy.2.2.2.2 hR, C.1.2.2.2.2 _ jy.1, C.1.2.2.2.2 _ jy.2.1⟩ ⟨jPre_blind, rc, fun U hU hW => j_pre C hM _ hU hW⟩ rfl hn hsz hst (lv_room hroom) hdg (by rw [h0.1, h0.2]; exact hc)) hM.2.1 (fun q _ h => h) (fun q h => h) (fun u t H1 locs1 ht hvm hw hB hz1 hk1 hS => ?_)
  have hB : va_P (eD E) vwCl (Wd (eC E) z Ly M') t.heap := hB
  rw [ht] at hB
  rw [h0.1, h0.2]
  exact kk H1 locs1 ⟨hB, hS, hw, hM.2.2.2⟩
set_option maxHeartbeats 4000000 in
theorem r_callSI (C : Cx E p c cc nL s args own m) (hM : HS E z Ly M s H locs) {y : MethodName} {bytes : ByteArray} {maxL n index : Nat} {ret : Option FieldType} {rm : Room} {As : List Value} {r : Int} {M' : Mem} {st : List Value} (ct : CtI l y bytes maxL ret rm E z Ly As M r M') (jy : jYS y bytes maxL ret n) (hlink : Cond.methodLink own index y ∈ lwG) (hdg : decode cc pc = .ok (.invokestatic index, 3)) (hst : st = As.reverse ++ rest) (hn : As.length = n) (hsz : ls.size = nL) (hroom : (rest.map fun v => v.category).sum ≤ 8) (hR : rm.frames + 1 ≤ R.frames ∧ 8 + (maxL + 11) + rm.locals ≤ R.locals) (h0 : rm.cells = 0 ∧ rm.slots = 0) (hc : cells ≤ R.cells ∧ slots ≤ R.slots)
    (kk : ∀ (H1 : Heap) (locs1 : List Loc), inR r → HS E z Ly M' s H1 locs1 → W p l e R s m args below meth c H1 locs1 cells slots Q (F0 m (pc + 3) ls (.int (jI r) :: rest))) : W p l e R s m args below meth c H locs cells slots Q (F0 m pc ls st) := by
  refine va_calli (va_runS (As := As) (rest := rest) C.1 ct ⟨callB_of n C.1.2.2.2.2 (good_G jy.2.2.1) rfl rfl rfl (C.1.2.2.2.2 _ jy.2.1) (C.1.2.2.2.2 _ hlink) jy.2.2.2 hR, C.1.2.2.2.2 _ jy.1⟩ ⟨jPre_blind, fun U hU hW => j_pre C hM _ hU hW⟩ rfl hn hsz hst (lv_room hroom) hdg (by rw [h0.1, h0.2]; exact hc)) hM.2.1 (fun q _ h => h) (fun q h => h) (fun v u t H1 locs1 ht hvm hw hB hz1 hk1 hS => ?_)
  obtain ⟨rfl, hr, hMk⟩ := hw
  have hB : va_P (eD E) vwCl (Wd (eC E) z Ly M') t.heap := hB
  rw [ht] at hB
  rw [h0.1, h0.2]
  exact kk H1 locs1 hr ⟨hB, hS, hMk, hM.2.2.2⟩
set_option maxHeartbeats 4000000 in
theorem r_callSV (C : Cx E p c cc nL s args own m) (hM : HS E z Ly M s H locs) {y : MethodName} {bytes : ByteArray} {maxL n index : Nat} {ret : Option FieldType} {rm : Room} {As : List Value} {M' : Mem} {st : List Value} (ct : CtV l y bytes maxL ret rm E z Ly As M M') (jy : jYS y bytes maxL ret n) (hlink : Cond.methodLink own index y ∈ lwG) (hdg : decode cc pc = .ok (.invokestatic index, 3)) (hst : st = As.reverse ++ rest) (hn : As.length = n) (hsz : ls.size = nL) (hroom : (rest.map fun v => v.category).sum ≤ 8) (hR : rm.frames + 1 ≤ R.frames ∧ 8 + (maxL + 11) + rm.locals ≤ R.locals) (h0 : rm.cells = 0 ∧ rm.slots = 0) (hc : cells ≤ R.cells ∧ slots ≤ R.slots)
    (kk : ∀ (H1 : Heap) (locs1 : List Loc), HS E z Ly M' s H1 locs1 → W p l e R s m args below meth c H1 locs1 cells slots Q (F0 m (pc + 3) ls rest)) : W p l e R s m args below meth c H locs cells slots Q (F0 m pc ls st) := by
  refine va_callv (va_runS (As := As) (rest := rest) C.1 ct ⟨callB_of n C.1.2.2.2.2 (good_G jy.2.2.1) rfl rfl rfl (C.1.2.2.2.2 _ jy.2.1) (C.1.2.2.2.2 _ hlink) jy.2.2.2 hR, C.1.2.2.2.2 _ jy.1⟩ ⟨jPre_blind, fun U hU hW => j_pre C hM _ hU hW⟩ rfl hn hsz hst (lv_room hroom) hdg (by rw [h0.1, h0.2]; exact hc)) hM.2.1 (fun q _ h => h) (fun q h => h) (fun u t H1 locs1 ht hvm hw hB hz1 hk1 hS => ?_)
  have hB : va_P (eD E) vwCl (Wd (eC E) z Ly M') t.heap := hB
  rw [ht] at hB
  rw [h0.1, h0.2]
  exact kk H1 locs1 ⟨hB, hS, hw, hM.2.2.2⟩
/-! Math -/
theorem r_min (C : Cx E p c cc nL s args own m) {x y : Int} {index : Nat} (hx : inR x) (hy : inR y) (hlink : Cond.methodLink own index Lib.Math.min.name ∈ lwG) (hdg : decode cc pc = .ok (.invokestatic index, 3)) (hsz : ls.size = nL) (hroom : 1 ≤ R.frames ∧ (rest.map fun v => v.category).sum + 13 ≤ R.locals) (hc : cells ≤ R.cells ∧ slots ≤ R.slots)
    (kk : W p l e R s m args below meth c H locs cells slots Q (F0 m (pc + 3) ls (.int (jI (min x y)) :: rest))) : W p l e R s m args below meth c H locs cells slots Q (F0 m pc ls (.int (jI y) :: .int (jI x) :: rest)) := by
  refine va_mmin C.1.1 C.1.2.1 (by rw [C.1.2.2.1, hsz]) C.1.2.2.2.1 (C.1.2.2.2.2 _ hlink) (C.1.2.2.2.2 _ gw_min.1) (C.1.2.2.2.2 _ gw_math) (C.1.2.2.2.2 _ gw_min.2) hroom.1 hroom.2 hc.1 hc.2 hdg ?_
  rw [show (if jI y < jI x then jI y else jI x) = jI (min x y) from ?_]
  · exact kk
  · by_cases h : y < x
    · rw [if_pos ((jI_lt hy hx).mpr h), Int.min_eq_right (by omega)]
    · rw [if_neg (fun q => h ((jI_lt hy hx).mp q)), Int.min_eq_left (by omega)]
theorem r_max (C : Cx E p c cc nL s args own m) {x y : Int} {index : Nat} (hx : inR x) (hy : inR y) (hlink : Cond.methodLink own index Lib.Math.max.name ∈ lwG) (hdg : decode cc pc = .ok (.invokestatic index, 3)) (hsz : ls.size = nL) (hroom : 1 ≤ R.frames ∧ (rest.map fun v => v.category).sum + 13 ≤ R.locals) (hc : cells ≤ R.cells ∧ slots ≤ R.slots)
    (kk : W p l e R s m args below meth c H locs cells slots Q (F0 m (pc + 3) ls (.int (jI (max x y)) :: rest))) : W p l e R s m args below meth c H locs cells slots Q (F0 m pc ls (.int (jI y) :: .int (jI x) :: rest)) := by
  refine va_mmax C.1.1 C.1.2.1 (by rw [C.1.2.2.1, hsz]) C.1.2.2.2.1 (C.1.2.2.2.2 _ hlink) (C.1.2.2.2.2 _ gw_max.1) (C.1.2.2.2.2 _ gw_math) (C.1.2.2.2.2 _ gw_max.2) hroom.1 hroom.2 hc.1 hc.2 hdg ?_
  rw [show (if jI x < jI y then jI y else jI x) = jI (max x y) from ?_]
  · exact kk
  · by_cases h : x < y
    · rw [if_pos ((jI_lt hx hy).mpr h), Int.max_eq_right (by omega)]
    · rw [if_neg (fun q => h ((jI_lt hx hy).mp q)), Int.max_eq_left (by omega)]
theorem r_abs (C : Cx E p c cc nL s args own m) {x : Int} {index : Nat} (hx : inR x) (hlink : Cond.methodLink own index Lib.Math.abs.name ∈ lwG) (hdg : decode cc pc = .ok (.invokestatic index, 3)) (hsz : ls.size = nL) (hroom : 1 ≤ R.frames ∧ (rest.map fun v => v.category).sum + 13 ≤ R.locals) (hc : cells ≤ R.cells ∧ slots ≤ R.slots)
    (kk : W p l e R s m args below meth c H locs cells slots Q (F0 m (pc + 3) ls (.int (jI (max x (-x))) :: rest))) : W p l e R s m args below meth c H locs cells slots Q (F0 m pc ls (.int (jI x) :: rest)) := by
  refine va_mabs C.1.1 C.1.2.1 (by rw [C.1.2.2.1, hsz]) C.1.2.2.2.1 (C.1.2.2.2.2 _ hlink) (C.1.2.2.2.2 _ gw_abs.1) (C.1.2.2.2.2 _ gw_math) (C.1.2.2.2.2 _ gw_abs.2) hroom.1 hroom.2 hc.1 hc.2 hdg ?_
  have h0 : inR 0 := ⟨by decide, by decide⟩
  rw [show (if 0 ≤ jI x then jI x else 0 - jI x) = jI (max x (-x)) from ?_]
  · exact kk
  · by_cases h : 0 ≤ x
    · rw [if_pos (show (0 : Int32) ≤ jI x from (jI_le h0 hx).mpr h), Int.max_eq_left (by omega)]
    · rw [if_neg (fun q : (0 : Int32) ≤ jI x => h ((jI_le h0 hx).mp q)), Int.max_eq_right (by omega)]
      show 0 - jI x = jI (-x)
      rw [show (-x : Int) = 0 - x by omega]
      exact (Int32.ofInt_sub 0 x).symm
/-! System.arraycopy -/
theorem inK_fit {kd : Nat} {ty : FieldType} {x : Int} (hk : kd = 20 ∧ ty = .int ∨ kd = 21 ∧ ty = .byte ∨ kd = 22 ∧ ty = .boolean) (h : inK kd x) : fits ty (.int (jI x)) = true := by
  have hx := inK_R h
  rcases hk with ⟨h1, h2⟩ | ⟨h1, h2⟩ | ⟨h1, h2⟩ <;> subst h1 h2
  · rfl
  · have h : -128 ≤ x ∧ x ≤ 127 := h
    show (decide (-128 ≤ jI x) && decide (jI x ≤ 127)) = true
    rw [Bool.and_eq_true, decide_eq_true_eq, decide_eq_true_eq]
    exact ⟨(jI_le (x := -128) ⟨by decide, by decide⟩ hx).mpr h.1, (jI_le (y := 127) hx ⟨by decide, by decide⟩).mpr h.2⟩
  · have h : x = 0 ∨ x = 1 := h
    rcases h with h | h <;> subst h <;> rfl
theorem cpy_row (f g : Nat → Int) (sp dp n : Nat) : va_cpy (fun j => jI (f j)) (fun j => jI (g j)) sp dp n = fun j => jI (cpr f g sp dp n j) := by
  funext j
  unfold va_cpy cpr
  by_cases hj : dp ≤ j ∧ j < dp + n
  · rw [if_pos hj, if_pos hj]
  · rw [if_neg hj, if_neg hj]
theorem r_copy (C : Cx E p c cc nL s args own m) (hM : HS E z Ly M s H locs) {a b n0 n1 kd t : Nat} {ty : FieldType} {sp dp n : Int} {index : Nat} (hlink : Cond.methodLink own index arraycopyName ∈ lwG) (hdg : decode cc pc = .ok (.invokestatic index, 3)) (hkd : kd = 20 ∧ ty = .int ∨ kd = 21 ∧ ty = .byte ∨ kd = 22 ∧ ty = .boolean) (ht : kd = 20 + t) (ha : a < Ly.1) (hb : b < Ly.1) (hla : Ly.2 a = (kd, n0)) (hlb : Ly.2 b = (kd, n1)) (hsp : inR sp) (hdp : inR dp) (hn : inR n) (h : 0 ≤ sp ∧ 0 ≤ dp ∧ 0 ≤ n ∧ sp + n ≤ (n0 : Int) ∧ dp + n ≤ (n1 : Int)) (hsz : ls.size = nL) (hroom : 1 ≤ R.frames ∧ (rest.map fun v => v.category).sum + (nativeFrameWords "java/lang/System" "arraycopy" 5 + 11) ≤ R.locals)
    (kk : ∀ (H1 : Heap) (locs1 : List Loc), HS E z Ly (cpm M a sp.toNat b dp.toNat n.toNat) s H1 locs1 → W p l e R s m args below meth c H1 locs1 cells slots Q (F0 m (pc + 3) ls rest)) : W p l e R s m args below meth c H locs cells slots Q (F0 m pc ls (.int (jI n) :: .int (jI dp) :: .ref (z + b) :: .int (jI sp) :: .ref (z + a) :: rest)) := by
  have h0 : inR 0 := ⟨by decide, by decide⟩
  have ht' : (eT E)[t]? = some (eC E t, ty) := by
    rcases hkd with ⟨h1, h2⟩ | ⟨h1, h2⟩ | ⟨h1, h2⟩ <;> subst h2
    · have : t = 0 := by omega
      subst this; rfl
    · have : t = 1 := by omega
      subst this; rfl
    · have : t = 2 := by omega
      subst this; rfl
  have hcell : ∀ (q k : Nat), cellOf (eC E) z q (kd, k) (M q) = .inl (eC E t, k, .inl (fun j => jI (M q j))) := by
    intro q k
    rcases hkd with ⟨h1, h2⟩ | ⟨h1, h2⟩ | ⟨h1, h2⟩ <;> subst h1
    · have : t = 0 := by omega
      subst this; rfl
    · have : t = 1 := by omega
      subst this; rfl
    · have : t = 2 := by omega
      subst this; rfl
  have hcell' : ∀ (q k : Nat) (f : Nat → Int), cellOf (eC E) z q (kd, k) f = .inl (eC E t, k, .inl (fun j => jI (f j))) := by
    intro q k f
    rcases hkd with ⟨h1, h2⟩ | ⟨h1, h2⟩ | ⟨h1, h2⟩ <;> subst h1
    · have : t = 0 := by omega
      subst this; rfl
    · have : t = 1 := by omega
      subst this; rfl
    · have : t = 2 := by omega
      subst this; rfl
  have neg : ∀ {x : Int}, inR x → 0 ≤ x → ¬ jI x < 0 := fun hx h q => by
    have := (jI_lt hx h0).mp (show jI _ < jI 0 from q)
    omega
  refine va_copyi C.1.1 C.1.2.1 (by rw [C.1.2.2.1, hsz]) C.1.2.2.2.1 (C.1.2.2.2.2 _ hlink) (C.1.2.2.2.2 _ gw_copy.1) (C.1.2.2.2.2 _ gw_copy.2.1) (C.1.2.2.2.2 _ gw_copy.2.2) C.2.1 hM.1 (Wd_D hM.2.2.2) hM.2.1 a b t t (f := fun j => jI (M a j)) (g := fun j => jI (M b j)) (n0 := n0) (n1 := n1) (ty := ty) (by rw [Wd_get ha, hla, hcell]) (by rw [Wd_get hb, hlb, hcell]) ht' ht' (by rcases hkd with ⟨h1, h2⟩ | ⟨h1, h2⟩ | ⟨h1, h2⟩ <;> subst h2 <;> rfl) (neg hsp h.1) (neg hdp h.2.1) (neg hn h.2.2.1) (by rw [jI_nat hsp, jI_nat hn]; omega) (by rw [jI_nat hdp, jI_nat hn]; omega) (fun i hi => inK_fit hkd (by have := hM.2.2.1 a ((jI sp).toNatClampNeg + i); rw [hla] at this; exact this)) hroom.1 hroom.2 hdg (fun H1 locs1 hP hD hS => ?_)
  rw [jI_nat hsp, jI_nat hdp, jI_nat hn, cpy_row, Wd_set hb (M' := cpm M a sp.toNat b dp.toNat n.toNat) (by rw [hlb, hcell']; simp [cpm]) (fun q hq => by simp [cpm, hq])] at hP
  exact kk H1 locs1 ⟨hP, hS, cpm_ok (by rw [hla, hlb]) hM.2.2.1, hM.2.2.2⟩
/-! switches -/
def jsw (pc : Nat) (lo hi dflt : Int) (offs : Array Int) (x : Int) : Int := if x < lo ∨ hi < x then pc + dflt else pc + offs.getD (x - lo).toNat dflt
theorem r_table (C : Cx E p c cc nL s args own m) {dflt lo hi : Int} {offs : Array Int} {len : Nat} {x : Int} (tgt : Nat) (hx : inR x) (hdg : decode cc pc = .ok (.tableswitch dflt lo hi offs, len)) (hsz : hi - lo < (offs.size : Int)) (h : jsw pc lo hi dflt offs x = (tgt : Int)) (k : W p l e R s m args below meth c H locs cells slots Q (F0 m tgt ls rest)) : W p l e R s m args below meth c H locs cells slots Q (F0 m pc ls (.int (jI x) :: rest)) := by
  unfold jsw at h
  by_cases ho : x < lo ∨ hi < x
  · rw [if_pos ho] at h
    exact lv_tableOut C.1.1 C.1.2.1 hdg (by rw [jI_toInt hx]; exact ho) h k
  · rw [if_neg ho] at h
    refine lv_tableIn C.1.1 C.1.2.1 hdg (by rw [jI_toInt hx]; omega) (by rw [jI_toInt hx]; omega) (off := offs.getD (x - lo).toNat dflt) ?_ h k
    rw [jI_toInt hx]
    have : (x - lo).toNat < offs.size := by omega
    simp [Array.getD, this]
theorem r_lookup (C : Cx E p c cc nL s args own m) {dflt : Int} {ps : Array (Int × Int)} {len : Nat} {x : Int} (tgt : Nat) (off : Int) (hx : inR x) (hdg : decode cc pc = .ok (.lookupswitch dflt ps, len)) (hp : (ps.toList.zip (ps.toList.drop 1)).all (fun (a, next) => a.1 < next.1) = true) (ho : Op.lookupswitch.offset ps.toList dflt x = off) (ht : (pc : Int) + off = (tgt : Int)) (k : W p l e R s m args below meth c H locs cells slots Q (F0 m tgt ls rest)) : W p l e R s m args below meth c H locs cells slots Q (F0 m pc ls (.int (jI x) :: rest)) :=
  lv_lookup C.1.1 C.1.2.1 hdg hp (by rw [jI_toInt hx]; exact ho) ht k
end JC
theorem ifp {α : Type} {p : Prop} [Decidable p] {a b r : α} (c : p) (h : (if p then a else b) = r) : a = r := by rw [if_pos c] at h; exact h
theorem ifn {α : Type} {p : Prop} [Decidable p] {a b r : α} (c : ¬ p) (h : (if p then a else b) = r) : b = r := by rw [if_neg c] at h; exact h
theorem jn_some {α β : Type} {k : α} {b : α → Option β} {r : β} (h : jn k b = some r) : ∃ k', k' = k ∧ b k' = some r := ⟨k, rfl, h⟩
theorem jTab_R (t i : Nat) : inR ((jTab t).getD i 0) := by
  have h : ∀ l : List Int, (∀ x ∈ l, inR x) → inR (l.getD i 0) := by
    intro l hl
    rw [List.getD_eq_getElem?_getD]
    cases hi : l[i]? with
    | none => exact ⟨by decide, by decide⟩
    | some v => exact hl v (List.mem_of_getElem? hi)
  unfold jTab
  split <;> exact h _ (by decide)
theorem min_R {x y : Int} (hx : inR x) (hy : inR y) : inR (min x y) := ⟨by have := hx.1; have := hy.1; omega, by have := hx.2; have := hy.2; omega⟩
theorem max_R {x y : Int} (hx : inR x) (hy : inR y) : inR (max x y) := ⟨by have := hx.1; have := hy.1; omega, by have := hx.2; have := hy.2; omega⟩
def jFuel : Nat := 10000000
/-! the two layouts -/
def layC : List (Nat × Nat) := [(10, 0), (8, 0), (21, 500), (4, 0), (21, 1000), (7, 0), (3, 0), (20, 12), (20, 12), (21, 48), (20, 6), (20, 10), (20, 10), (20, 10), (20, 5), (22, 5), (9, 0), (21, 500), (20, 60), (20, 60), (20, 60), (22, 60), (2, 0), (20, 30), (20, 30), (20, 30), (20, 30), (20, 30), (20, 5), (7, 0), (3, 0), (20, 12), (20, 12), (21, 48), (20, 6), (20, 10), (20, 10), (20, 10), (20, 5), (22, 5), (9, 0), (21, 500), (20, 60), (20, 60), (20, 60), (22, 60), (2, 0), (20, 30), (20, 30), (20, 30), (20, 30), (20, 30), (20, 5), (23, 8), (24, 2), (22, 2), (5, 0), (20, 60), (20, 60), (20, 60), (20, 60), (20, 60), (20, 60), (20, 5), (6, 0), (20, 60), (20, 60), (20, 60), (1, 0), (20, 241), (20, 241), (0, 0), (20, 4096), (20, 7), (7, 0), (3, 0), (20, 12), (20, 12), (21, 48), (20, 6), (20, 10), (20, 10), (20, 10), (20, 5), (22, 5), (9, 0), (21, 500), (20, 60), (20, 60), (20, 60), (22, 60), (2, 0), (20, 30), (20, 30), (20, 30), (20, 30), (20, 30), (20, 5), (7, 0), (3, 0), (20, 12), (20, 12), (21, 48), (20, 6), (20, 10), (20, 10), (20, 10), (20, 5), (22, 5), (9, 0), (21, 500), (20, 60), (20, 60), (20, 60), (22, 60), (2, 0), (20, 30), (20, 30), (20, 30), (20, 30), (20, 30), (20, 5), (7, 0), (3, 0), (20, 12), (20, 12), (21, 48), (20, 6), (20, 10), (20, 10), (20, 10), (20, 5), (22, 5), (9, 0), (21, 500), (20, 60), (20, 60), (20, 60), (22, 60), (2, 0), (20, 30), (20, 30), (20, 30), (20, 30), (20, 30), (20, 5), (7, 0), (3, 0), (20, 12), (20, 12), (21, 48), (20, 6), (20, 10), (20, 10), (20, 10), (20, 5), (22, 5), (9, 0), (21, 500), (20, 60), (20, 60), (20, 60), (22, 60), (2, 0), (20, 30), (20, 30), (20, 30), (20, 30), (20, 30), (20, 5), (7, 0), (3, 0), (20, 12), (20, 12), (21, 48), (20, 6), (20, 10), (20, 10), (20, 10), (20, 5), (22, 5), (9, 0), (21, 500), (20, 60), (20, 60), (20, 60), (22, 60), (2, 0), (20, 30), (20, 30), (20, 30), (20, 30), (20, 30), (20, 5), (7, 0), (3, 0), (20, 12), (20, 12), (21, 48), (20, 6), (20, 10), (20, 10), (20, 10), (20, 5), (22, 5), (9, 0), (21, 500), (20, 60), (20, 60), (20, 60), (22, 60), (2, 0), (20, 30), (20, 30), (20, 30), (20, 30), (20, 30), (20, 5), (7, 0), (3, 0), (20, 12), (20, 12), (21, 48), (20, 6), (20, 10), (20, 10), (20, 10), (20, 5), (22, 5), (9, 0), (21, 500), (20, 60), (20, 60), (20, 60), (22, 60), (2, 0), (20, 30), (20, 30), (20, 30), (20, 30), (20, 30), (20, 5), (7, 0), (3, 0), (20, 12), (20, 12), (21, 48), (20, 6), (20, 10), (20, 10), (20, 10), (20, 5), (22, 5), (9, 0), (21, 500), (20, 60), (20, 60), (20, 60), (22, 60), (2, 0), (20, 30), (20, 30), (20, 30), (20, 30), (20, 30), (20, 5), (7, 0), (3, 0), (20, 12), (20, 12), (21, 48), (20, 6), (20, 10), (20, 10), (20, 10), (20, 5), (22, 5), (9, 0), (21, 500), (20, 60), (20, 60), (20, 60), (22, 60), (2, 0), (20, 30), (20, 30), (20, 30), (20, 30), (20, 30), (20, 5), (7, 0), (3, 0), (20, 12), (20, 12), (21, 48), (20, 6), (20, 10), (20, 10), (20, 10), (20, 5), (22, 5), (9, 0), (21, 500), (20, 60), (20, 60), (20, 60), (22, 60), (2, 0), (20, 30), (20, 30), (20, 30), (20, 30), (20, 30), (20, 5)]
def layR : List (Nat × Nat) := [(11, 0), (20, 1062), (20, 1062), (20, 8496), (20, 2124), (20, 7), (22, 2), (20, 64), (20, 64), (20, 64), (20, 64), (20, 64), (20, 64), (20, 64), (20, 256), (20, 256), (20, 8), (20, 8), (20, 8), (20, 64), (20, 64), (20, 4096), (20, 500), (20, 256), (20, 500), (20, 64), (20, 64), (20, 64), (20, 256), (20, 1200)]
def LyC : jLy := (314, fun a => layC.getD a (99, 0))
def LyR : jLy := (30, fun a => layR.getD a (99, 0))
def jSt : List Nat := [5, 29, 74, 98, 122, 146, 170, 194, 218, 242, 266, 290]
abbrev isSt (s : Nat) : Prop := s ∈ jSt
def layS : List (Nat × Nat) := [(7, 0), (3, 0), (20, 12), (20, 12), (21, 48), (20, 6), (20, 10), (20, 10), (20, 10), (20, 5), (22, 5), (9, 0), (21, 500), (20, 60), (20, 60), (20, 60), (22, 60), (2, 0), (20, 30), (20, 30), (20, 30), (20, 30), (20, 30), (20, 5)]
theorem st_lay : ∀ s ∈ jSt, ∀ k, k < 24 → s + k < LyC.1 ∧ LyC.2 (s + k) = layS.getD k (99, 0) := by decide +kernel
theorem ls_0 {s : Nat} (hs : isSt s) : s + 0 < LyC.1 ∧ LyC.2 (s + 0) = (7, 0) := st_lay s hs 0 (by decide)
theorem ls_1 {s : Nat} (hs : isSt s) : s + 1 < LyC.1 ∧ LyC.2 (s + 1) = (3, 0) := st_lay s hs 1 (by decide)
theorem ls_2 {s : Nat} (hs : isSt s) : s + 2 < LyC.1 ∧ LyC.2 (s + 2) = (20, 12) := st_lay s hs 2 (by decide)
theorem ls_3 {s : Nat} (hs : isSt s) : s + 3 < LyC.1 ∧ LyC.2 (s + 3) = (20, 12) := st_lay s hs 3 (by decide)
theorem ls_4 {s : Nat} (hs : isSt s) : s + 4 < LyC.1 ∧ LyC.2 (s + 4) = (21, 48) := st_lay s hs 4 (by decide)
theorem ls_5 {s : Nat} (hs : isSt s) : s + 5 < LyC.1 ∧ LyC.2 (s + 5) = (20, 6) := st_lay s hs 5 (by decide)
theorem ls_6 {s : Nat} (hs : isSt s) : s + 6 < LyC.1 ∧ LyC.2 (s + 6) = (20, 10) := st_lay s hs 6 (by decide)
theorem ls_7 {s : Nat} (hs : isSt s) : s + 7 < LyC.1 ∧ LyC.2 (s + 7) = (20, 10) := st_lay s hs 7 (by decide)
theorem ls_8 {s : Nat} (hs : isSt s) : s + 8 < LyC.1 ∧ LyC.2 (s + 8) = (20, 10) := st_lay s hs 8 (by decide)
theorem ls_9 {s : Nat} (hs : isSt s) : s + 9 < LyC.1 ∧ LyC.2 (s + 9) = (20, 5) := st_lay s hs 9 (by decide)
theorem ls_10 {s : Nat} (hs : isSt s) : s + 10 < LyC.1 ∧ LyC.2 (s + 10) = (22, 5) := st_lay s hs 10 (by decide)
theorem ls_11 {s : Nat} (hs : isSt s) : s + 11 < LyC.1 ∧ LyC.2 (s + 11) = (9, 0) := st_lay s hs 11 (by decide)
theorem ls_12 {s : Nat} (hs : isSt s) : s + 12 < LyC.1 ∧ LyC.2 (s + 12) = (21, 500) := st_lay s hs 12 (by decide)
theorem ls_13 {s : Nat} (hs : isSt s) : s + 13 < LyC.1 ∧ LyC.2 (s + 13) = (20, 60) := st_lay s hs 13 (by decide)
theorem ls_14 {s : Nat} (hs : isSt s) : s + 14 < LyC.1 ∧ LyC.2 (s + 14) = (20, 60) := st_lay s hs 14 (by decide)
theorem ls_15 {s : Nat} (hs : isSt s) : s + 15 < LyC.1 ∧ LyC.2 (s + 15) = (20, 60) := st_lay s hs 15 (by decide)
theorem ls_16 {s : Nat} (hs : isSt s) : s + 16 < LyC.1 ∧ LyC.2 (s + 16) = (22, 60) := st_lay s hs 16 (by decide)
theorem ls_17 {s : Nat} (hs : isSt s) : s + 17 < LyC.1 ∧ LyC.2 (s + 17) = (2, 0) := st_lay s hs 17 (by decide)
theorem ls_18 {s : Nat} (hs : isSt s) : s + 18 < LyC.1 ∧ LyC.2 (s + 18) = (20, 30) := st_lay s hs 18 (by decide)
theorem ls_19 {s : Nat} (hs : isSt s) : s + 19 < LyC.1 ∧ LyC.2 (s + 19) = (20, 30) := st_lay s hs 19 (by decide)
theorem ls_20 {s : Nat} (hs : isSt s) : s + 20 < LyC.1 ∧ LyC.2 (s + 20) = (20, 30) := st_lay s hs 20 (by decide)
theorem ls_21 {s : Nat} (hs : isSt s) : s + 21 < LyC.1 ∧ LyC.2 (s + 21) = (20, 30) := st_lay s hs 21 (by decide)
theorem ls_22 {s : Nat} (hs : isSt s) : s + 22 < LyC.1 ∧ LyC.2 (s + 22) = (20, 30) := st_lay s hs 22 (by decide)
theorem ls_23 {s : Nat} (hs : isSt s) : s + 23 < LyC.1 ∧ LyC.2 (s + 23) = (20, 5) := st_lay s hs 23 (by decide)
theorem lc_0 : 0 < LyC.1 ∧ LyC.2 0 = (10, 0) := ⟨by decide, by decide +kernel⟩
theorem lc_1 : 1 < LyC.1 ∧ LyC.2 1 = (8, 0) := ⟨by decide, by decide +kernel⟩
theorem lc_2 : 2 < LyC.1 ∧ LyC.2 2 = (21, 500) := ⟨by decide, by decide +kernel⟩
theorem lc_3 : 3 < LyC.1 ∧ LyC.2 3 = (4, 0) := ⟨by decide, by decide +kernel⟩
theorem lc_4 : 4 < LyC.1 ∧ LyC.2 4 = (21, 1000) := ⟨by decide, by decide +kernel⟩
theorem lc_5 : 5 < LyC.1 ∧ LyC.2 5 = (7, 0) := ⟨by decide, by decide +kernel⟩
theorem lc_6 : 6 < LyC.1 ∧ LyC.2 6 = (3, 0) := ⟨by decide, by decide +kernel⟩
theorem lc_7 : 7 < LyC.1 ∧ LyC.2 7 = (20, 12) := ⟨by decide, by decide +kernel⟩
theorem lc_8 : 8 < LyC.1 ∧ LyC.2 8 = (20, 12) := ⟨by decide, by decide +kernel⟩
theorem lc_9 : 9 < LyC.1 ∧ LyC.2 9 = (21, 48) := ⟨by decide, by decide +kernel⟩
theorem lc_10 : 10 < LyC.1 ∧ LyC.2 10 = (20, 6) := ⟨by decide, by decide +kernel⟩
theorem lc_11 : 11 < LyC.1 ∧ LyC.2 11 = (20, 10) := ⟨by decide, by decide +kernel⟩
theorem lc_12 : 12 < LyC.1 ∧ LyC.2 12 = (20, 10) := ⟨by decide, by decide +kernel⟩
theorem lc_13 : 13 < LyC.1 ∧ LyC.2 13 = (20, 10) := ⟨by decide, by decide +kernel⟩
theorem lc_14 : 14 < LyC.1 ∧ LyC.2 14 = (20, 5) := ⟨by decide, by decide +kernel⟩
theorem lc_15 : 15 < LyC.1 ∧ LyC.2 15 = (22, 5) := ⟨by decide, by decide +kernel⟩
theorem lc_16 : 16 < LyC.1 ∧ LyC.2 16 = (9, 0) := ⟨by decide, by decide +kernel⟩
theorem lc_17 : 17 < LyC.1 ∧ LyC.2 17 = (21, 500) := ⟨by decide, by decide +kernel⟩
theorem lc_18 : 18 < LyC.1 ∧ LyC.2 18 = (20, 60) := ⟨by decide, by decide +kernel⟩
theorem lc_19 : 19 < LyC.1 ∧ LyC.2 19 = (20, 60) := ⟨by decide, by decide +kernel⟩
theorem lc_20 : 20 < LyC.1 ∧ LyC.2 20 = (20, 60) := ⟨by decide, by decide +kernel⟩
theorem lc_21 : 21 < LyC.1 ∧ LyC.2 21 = (22, 60) := ⟨by decide, by decide +kernel⟩
theorem lc_22 : 22 < LyC.1 ∧ LyC.2 22 = (2, 0) := ⟨by decide, by decide +kernel⟩
theorem lc_23 : 23 < LyC.1 ∧ LyC.2 23 = (20, 30) := ⟨by decide, by decide +kernel⟩
theorem lc_24 : 24 < LyC.1 ∧ LyC.2 24 = (20, 30) := ⟨by decide, by decide +kernel⟩
theorem lc_25 : 25 < LyC.1 ∧ LyC.2 25 = (20, 30) := ⟨by decide, by decide +kernel⟩
theorem lc_26 : 26 < LyC.1 ∧ LyC.2 26 = (20, 30) := ⟨by decide, by decide +kernel⟩
theorem lc_27 : 27 < LyC.1 ∧ LyC.2 27 = (20, 30) := ⟨by decide, by decide +kernel⟩
theorem lc_28 : 28 < LyC.1 ∧ LyC.2 28 = (20, 5) := ⟨by decide, by decide +kernel⟩
theorem lc_29 : 29 < LyC.1 ∧ LyC.2 29 = (7, 0) := ⟨by decide, by decide +kernel⟩
theorem lc_30 : 30 < LyC.1 ∧ LyC.2 30 = (3, 0) := ⟨by decide, by decide +kernel⟩
theorem lc_31 : 31 < LyC.1 ∧ LyC.2 31 = (20, 12) := ⟨by decide, by decide +kernel⟩
theorem lc_32 : 32 < LyC.1 ∧ LyC.2 32 = (20, 12) := ⟨by decide, by decide +kernel⟩
theorem lc_33 : 33 < LyC.1 ∧ LyC.2 33 = (21, 48) := ⟨by decide, by decide +kernel⟩
theorem lc_34 : 34 < LyC.1 ∧ LyC.2 34 = (20, 6) := ⟨by decide, by decide +kernel⟩
theorem lc_35 : 35 < LyC.1 ∧ LyC.2 35 = (20, 10) := ⟨by decide, by decide +kernel⟩
theorem lc_36 : 36 < LyC.1 ∧ LyC.2 36 = (20, 10) := ⟨by decide, by decide +kernel⟩
theorem lc_37 : 37 < LyC.1 ∧ LyC.2 37 = (20, 10) := ⟨by decide, by decide +kernel⟩
theorem lc_38 : 38 < LyC.1 ∧ LyC.2 38 = (20, 5) := ⟨by decide, by decide +kernel⟩
theorem lc_39 : 39 < LyC.1 ∧ LyC.2 39 = (22, 5) := ⟨by decide, by decide +kernel⟩
theorem lc_40 : 40 < LyC.1 ∧ LyC.2 40 = (9, 0) := ⟨by decide, by decide +kernel⟩
theorem lc_41 : 41 < LyC.1 ∧ LyC.2 41 = (21, 500) := ⟨by decide, by decide +kernel⟩
theorem lc_42 : 42 < LyC.1 ∧ LyC.2 42 = (20, 60) := ⟨by decide, by decide +kernel⟩
theorem lc_43 : 43 < LyC.1 ∧ LyC.2 43 = (20, 60) := ⟨by decide, by decide +kernel⟩
theorem lc_44 : 44 < LyC.1 ∧ LyC.2 44 = (20, 60) := ⟨by decide, by decide +kernel⟩
theorem lc_45 : 45 < LyC.1 ∧ LyC.2 45 = (22, 60) := ⟨by decide, by decide +kernel⟩
theorem lc_46 : 46 < LyC.1 ∧ LyC.2 46 = (2, 0) := ⟨by decide, by decide +kernel⟩
theorem lc_47 : 47 < LyC.1 ∧ LyC.2 47 = (20, 30) := ⟨by decide, by decide +kernel⟩
theorem lc_48 : 48 < LyC.1 ∧ LyC.2 48 = (20, 30) := ⟨by decide, by decide +kernel⟩
theorem lc_49 : 49 < LyC.1 ∧ LyC.2 49 = (20, 30) := ⟨by decide, by decide +kernel⟩
theorem lc_50 : 50 < LyC.1 ∧ LyC.2 50 = (20, 30) := ⟨by decide, by decide +kernel⟩
theorem lc_51 : 51 < LyC.1 ∧ LyC.2 51 = (20, 30) := ⟨by decide, by decide +kernel⟩
theorem lc_52 : 52 < LyC.1 ∧ LyC.2 52 = (20, 5) := ⟨by decide, by decide +kernel⟩
theorem lc_53 : 53 < LyC.1 ∧ LyC.2 53 = (23, 8) := ⟨by decide, by decide +kernel⟩
theorem lc_54 : 54 < LyC.1 ∧ LyC.2 54 = (24, 2) := ⟨by decide, by decide +kernel⟩
theorem lc_55 : 55 < LyC.1 ∧ LyC.2 55 = (22, 2) := ⟨by decide, by decide +kernel⟩
theorem lc_56 : 56 < LyC.1 ∧ LyC.2 56 = (5, 0) := ⟨by decide, by decide +kernel⟩
theorem lc_57 : 57 < LyC.1 ∧ LyC.2 57 = (20, 60) := ⟨by decide, by decide +kernel⟩
theorem lc_58 : 58 < LyC.1 ∧ LyC.2 58 = (20, 60) := ⟨by decide, by decide +kernel⟩
theorem lc_59 : 59 < LyC.1 ∧ LyC.2 59 = (20, 60) := ⟨by decide, by decide +kernel⟩
theorem lc_60 : 60 < LyC.1 ∧ LyC.2 60 = (20, 60) := ⟨by decide, by decide +kernel⟩
theorem lc_61 : 61 < LyC.1 ∧ LyC.2 61 = (20, 60) := ⟨by decide, by decide +kernel⟩
theorem lc_62 : 62 < LyC.1 ∧ LyC.2 62 = (20, 60) := ⟨by decide, by decide +kernel⟩
theorem lc_63 : 63 < LyC.1 ∧ LyC.2 63 = (20, 5) := ⟨by decide, by decide +kernel⟩
theorem lc_64 : 64 < LyC.1 ∧ LyC.2 64 = (6, 0) := ⟨by decide, by decide +kernel⟩
theorem lc_65 : 65 < LyC.1 ∧ LyC.2 65 = (20, 60) := ⟨by decide, by decide +kernel⟩
theorem lc_66 : 66 < LyC.1 ∧ LyC.2 66 = (20, 60) := ⟨by decide, by decide +kernel⟩
theorem lc_67 : 67 < LyC.1 ∧ LyC.2 67 = (20, 60) := ⟨by decide, by decide +kernel⟩
theorem lc_68 : 68 < LyC.1 ∧ LyC.2 68 = (1, 0) := ⟨by decide, by decide +kernel⟩
theorem lc_69 : 69 < LyC.1 ∧ LyC.2 69 = (20, 241) := ⟨by decide, by decide +kernel⟩
theorem lc_70 : 70 < LyC.1 ∧ LyC.2 70 = (20, 241) := ⟨by decide, by decide +kernel⟩
theorem lc_71 : 71 < LyC.1 ∧ LyC.2 71 = (0, 0) := ⟨by decide, by decide +kernel⟩
theorem lc_72 : 72 < LyC.1 ∧ LyC.2 72 = (20, 4096) := ⟨by decide, by decide +kernel⟩
theorem lc_73 : 73 < LyC.1 ∧ LyC.2 73 = (20, 7) := ⟨by decide, by decide +kernel⟩
theorem lr_0 : 0 < LyR.1 ∧ LyR.2 0 = (11, 0) := ⟨by decide, by decide +kernel⟩
theorem lr_1 : 1 < LyR.1 ∧ LyR.2 1 = (20, 1062) := ⟨by decide, by decide +kernel⟩
theorem lr_2 : 2 < LyR.1 ∧ LyR.2 2 = (20, 1062) := ⟨by decide, by decide +kernel⟩
theorem lr_3 : 3 < LyR.1 ∧ LyR.2 3 = (20, 8496) := ⟨by decide, by decide +kernel⟩
theorem lr_4 : 4 < LyR.1 ∧ LyR.2 4 = (20, 2124) := ⟨by decide, by decide +kernel⟩
theorem lr_5 : 5 < LyR.1 ∧ LyR.2 5 = (20, 7) := ⟨by decide, by decide +kernel⟩
theorem lr_6 : 6 < LyR.1 ∧ LyR.2 6 = (22, 2) := ⟨by decide, by decide +kernel⟩
theorem lr_7 : 7 < LyR.1 ∧ LyR.2 7 = (20, 64) := ⟨by decide, by decide +kernel⟩
theorem lr_8 : 8 < LyR.1 ∧ LyR.2 8 = (20, 64) := ⟨by decide, by decide +kernel⟩
theorem lr_9 : 9 < LyR.1 ∧ LyR.2 9 = (20, 64) := ⟨by decide, by decide +kernel⟩
theorem lr_10 : 10 < LyR.1 ∧ LyR.2 10 = (20, 64) := ⟨by decide, by decide +kernel⟩
theorem lr_11 : 11 < LyR.1 ∧ LyR.2 11 = (20, 64) := ⟨by decide, by decide +kernel⟩
theorem lr_12 : 12 < LyR.1 ∧ LyR.2 12 = (20, 64) := ⟨by decide, by decide +kernel⟩
theorem lr_13 : 13 < LyR.1 ∧ LyR.2 13 = (20, 64) := ⟨by decide, by decide +kernel⟩
theorem lr_14 : 14 < LyR.1 ∧ LyR.2 14 = (20, 256) := ⟨by decide, by decide +kernel⟩
theorem lr_15 : 15 < LyR.1 ∧ LyR.2 15 = (20, 256) := ⟨by decide, by decide +kernel⟩
theorem lr_16 : 16 < LyR.1 ∧ LyR.2 16 = (20, 8) := ⟨by decide, by decide +kernel⟩
theorem lr_17 : 17 < LyR.1 ∧ LyR.2 17 = (20, 8) := ⟨by decide, by decide +kernel⟩
theorem lr_18 : 18 < LyR.1 ∧ LyR.2 18 = (20, 8) := ⟨by decide, by decide +kernel⟩
theorem lr_19 : 19 < LyR.1 ∧ LyR.2 19 = (20, 64) := ⟨by decide, by decide +kernel⟩
theorem lr_20 : 20 < LyR.1 ∧ LyR.2 20 = (20, 64) := ⟨by decide, by decide +kernel⟩
theorem lr_21 : 21 < LyR.1 ∧ LyR.2 21 = (20, 4096) := ⟨by decide, by decide +kernel⟩
theorem lr_22 : 22 < LyR.1 ∧ LyR.2 22 = (20, 500) := ⟨by decide, by decide +kernel⟩
theorem lr_23 : 23 < LyR.1 ∧ LyR.2 23 = (20, 256) := ⟨by decide, by decide +kernel⟩
theorem lr_24 : 24 < LyR.1 ∧ LyR.2 24 = (20, 500) := ⟨by decide, by decide +kernel⟩
theorem lr_25 : 25 < LyR.1 ∧ LyR.2 25 = (20, 64) := ⟨by decide, by decide +kernel⟩
theorem lr_26 : 26 < LyR.1 ∧ LyR.2 26 = (20, 64) := ⟨by decide, by decide +kernel⟩
theorem lr_27 : 27 < LyR.1 ∧ LyR.2 27 = (20, 64) := ⟨by decide, by decide +kernel⟩
theorem lr_28 : 28 < LyR.1 ∧ LyR.2 28 = (20, 256) := ⟨by decide, by decide +kernel⟩
theorem lr_29 : 29 < LyR.1 ∧ LyR.2 29 = (20, 1200) := ⟨by decide, by decide +kernel⟩
theorem st_past {i : Int} (h : 0 ≤ i ∧ i < 8) : isSt (74 + i.toNat * 24) := by
  have : i.toNat = 0 ∨ i.toNat = 1 ∨ i.toNat = 2 ∨ i.toNat = 3 ∨ i.toNat = 4 ∨ i.toNat = 5 ∨ i.toNat = 6 ∨ i.toNat = 7 := by omega
  rcases this with h | h | h | h | h | h | h | h <;> rw [h] <;> decide
theorem st_saved {i : Int} (h : 0 ≤ i ∧ i < 2) : isSt (266 + i.toNat * 24) := by
  have : i.toNat = 0 ∨ i.toNat = 1 := by omega
  rcases this with h | h <;> rw [h] <;> decide
theorem r_ireturnM {p : Program} {l : Launch} {e : Env} {R : Room} {s : State} {m : MethodId} {args : Array Value} {below : List Frame} {meth : Method} {c : Code} {H : Heap} {locs : List Loc} {cells slots : Nat} {cc : ByteArray} {nL : Nat} {own : String} {E : jE} {z : Nat} {Ly : jLy} {M : Mem} {pc : Nat} {ls : Array Slot} (C : Cx E p c cc nL s args own m) (hM : HS E z Ly M s H locs) {v r : Int} {M' : Mem} (hr : meth.sig.returnType = some .int) (hlk : meth.locks = false) (hv : inR v) (h : some (v, M) = some (r, M')) (hdg : decode cc pc = .ok (.ireturn, 1)) :
    W p l e R s m args below meth c H locs cells slots (MQ below (va_Qi (fun (w : Int32) (_ : Unit) => w = jI r ∧ inR r ∧ Mok Ly M') (fun _ t => va_P (eD E) vwCl (Wd (eC E) z Ly M') t.heap) (eA E)) args s cells slots (eA E)) (F0 m pc ls [.int (jI v)]) := by
  cases h
  exact r_ireturn C hM hr hlk hv rfl rfl hdg
theorem r_zreturnM {p : Program} {l : Launch} {e : Env} {R : Room} {s : State} {m : MethodId} {args : Array Value} {below : List Frame} {meth : Method} {c : Code} {H : Heap} {locs : List Loc} {cells slots : Nat} {cc : ByteArray} {nL : Nat} {own : String} {E : jE} {z : Nat} {Ly : jLy} {M : Mem} {pc : Nat} {ls : Array Slot} (C : Cx E p c cc nL s args own m) (hM : HS E z Ly M s H locs) {v r : Int} {M' : Mem} (hr : meth.sig.returnType = some .boolean) (hlk : meth.locks = false) (hv : v = 0 ∨ v = 1) (h : some (v, M) = some (r, M')) (hdg : decode cc pc = .ok (.ireturn, 1)) :
    W p l e R s m args below meth c H locs cells slots (MQ below (va_Qi (fun (w : Int32) (_ : Unit) => w = jI r ∧ inR r ∧ Mok Ly M') (fun _ t => va_P (eD E) vwCl (Wd (eC E) z Ly M') t.heap) (eA E)) args s cells slots (eA E)) (F0 m pc ls [.int (jI v)]) := by
  cases h
  exact r_zreturn C hM hr hlk hv rfl rfl hdg
