/-! calls, Math, arraycopy, switches -/
def jYV (y : MethodName) (cc : ByteArray) (maxL : Nat) (ret : Option FieldType) (n : Nat) : Prop :=
  Cond.instanceMethod y ∈ lwG ∧ Cond.selects y.cls y y ∈ lwG ∧ Cond.initialized y.cls ∈ lwG ∧ Cond.code y cc maxL ret ∈ lwG ∧ (y.cls ≠ "java/lang/invoke/MethodHandle" ∧ y.cls ≠ "java/lang/invoke/VarHandle" ∧ (parseMethodDescriptor y.desc).map (fun d => d.parameters.length) = some n)
def jYS (y : MethodName) (cc : ByteArray) (maxL : Nat) (ret : Option FieldType) (n : Nat) : Prop :=
  Cond.static y ∈ lwG ∧ Cond.initialized y.cls ∈ lwG ∧ Cond.code y cc maxL ret ∈ lwG ∧ (y.cls ≠ "java/lang/invoke/MethodHandle" ∧ y.cls ≠ "java/lang/invoke/VarHandle" ∧ (parseMethodDescriptor y.desc).map (fun d => d.parameters.length) = some n)
theorem good_G {w0 : Cond} (h0 : w0 ∈ lwG) : GoodIn lwG (w0 :: lwG) := fun w hw => by
  have h : w ∈ lwG := (List.mem_cons.mp hw).elim (fun q => by rw [q]; exact h0) id
  exact ⟨h, good_of_word (lwG_good h)⟩
section JC
variable {p : Program} {l : Launch} {e : Env} {R : Room} {s : State} {m : MethodId} {args : Array Value} {below : List Frame} {meth : Method} {c : Code} {H : Heap} {locs : List Loc} {cells slots : Nat} {Q : State → Prop}
variable {cc : ByteArray} {nL : Nat} {own : String} {E : jE} {z : Nat} {Ly : jLy} {M : Mem} {pc : Nat} {ls : Array Slot} {rest : List Value}
theorem j_pre (C : Cx E p c cc nL s args own m) (hM : HS E z Ly M s H locs) (As : List Value) {U : State} (hU : U.heap = H) (hW : s.WarmedH U.vm) : jPre E z Ly As M As.toArray U :=
  ⟨rfl, by rw [hU]; exact hM.1, va_K.moved hW.alike C.2.1, by rw [hU]; exact (C.2.2.1.kept hM.2.1.2.1).warm hW, fun q hq => C.2.2.2 q (Nat.le_trans hM.2.1.1 (by rw [hU] at hq; exact hq)), hM.2.2.1, hM.2.2.2⟩
theorem recvW (C : Cx E p c cc nL s args own m) (hM : HS E z Ly M s H locs) {ci N a : Nat} {Cn : String} {T : u_T} {ty : Nat → FieldType} (jc : jCl ci Cn T N ty) {kd : Nat × Nat} {fs : List Value} (ha : a < Ly.1) (hl : Ly.2 a = kd) (he : cellOf (eC E) z a kd (M a) = .inr (ci, fs)) : ∃ cell : Cell, H[z + a]? = some cell ∧ cell.vm.isStatics = false ∧ s.vm.findClass Cn = some cell.cls :=
  va_recv C.2.1 hM.1 jc.1 (q0 := a) (ci := ci) (fs := fs) (by rw [Wd_get ha, hl, he])
theorem recvK (C : Cx E p c cc nL s args own m) (hM : HS E z Ly M s H locs) {i : Nat} (hi : i < nST) : ∃ cell : Cell, H[eK E i]? = some cell ∧ cell.vm.isStatics = false ∧ s.vm.findClass "java/lang/String" = some cell.cls := vk_recv C.2.2.1.1 hi hM.2.1
set_option maxHeartbeats 4000000 in
theorem r_callI (C : Cx E p c cc nL s args own m) (hM : HS E z Ly M s H locs) {y : MethodName} {bytes : ByteArray} {maxL n index b : Nat} {ret : Option FieldType} {rm : Room} {As : List Value} {r : Int} {M' : Mem} {st : List Value} (ct : CtI l y bytes maxL ret rm E z Ly (.ref b :: As) M r M') (jy : jYV y bytes maxL ret n) (hlink : Cond.methodLink own index y ∈ lwG) (hdg : decode cc pc = .ok (.invokevirtual index, 3)) (rc : ∃ cell : Cell, H[b]? = some cell ∧ cell.vm.isStatics = false ∧ s.vm.findClass y.cls = some cell.cls) (hst : st = As.reverse ++ .ref b :: rest) (hn : As.length = n) (hsz : ls.size = nL) (hroom : (rest.map fun v => v.category).sum ≤ 8) (hR : rm.frames + 1 ≤ R.frames ∧ 8 + (maxL + 11) + rm.locals ≤ R.locals) (h0 : rm.cells = 0 ∧ rm.slots = 0) (hc : cells ≤ R.cells ∧ slots ≤ R.slots)
    (kk : ∀ (H1 : Heap) (locs1 : List Loc), inR r → HS E z Ly M' s H1 locs1 → W p l e R s m args below meth c H1 locs1 cells slots Q (F0 m (pc + 3) ls (.int (jI r) :: rest))) : W p l e R s m args below meth c H locs cells slots Q (F0 m pc ls st) := by
  refine va_calli (va_runV (As := As) (rest := rest) C.1 ct ⟨callB_of n C.1.2.2.2.2 (good_G jy.2.2.2.1) rfl rfl rfl (C.1.2.2.2.2 _ jy.2.2.1) (C.1.2.2.2.2 _ hlink) jy.2.2.2.2 hR, C.1.2.2.2.2 _ jy.1, C.1.2.2.2.2 _ jy.2.1⟩ ⟨jPre_blind, rc, fun U hU hW => j_pre C hM _ hU hW⟩ rfl hn hsz hst (lv_room hroom) hdg (by rw [h0.1, h0.2]; exact hc)) hM.2.1 (fun q _ h => h) (fun q h => h) (fun v u t H1 locs1 ht hvm hw hB hz1 hk1 hS => ?_)
  obtain ⟨rfl, hr, hMk⟩ := hw
  have hB : va_P (eD E) vwCl (Wd (eC E) z Ly M') t.heap := hB
  rw [ht] at hB
  rw [h0.1, h0.2]
  exact kk H1 locs1 hr ⟨hB, hS, hMk, hM.2.2.2⟩
set_option maxHeartbeats 4000000 in
theorem r_callV (C : Cx E p c cc nL s args own m) (hM : HS E z Ly M s H locs) {y : MethodName} {bytes : ByteArray} {maxL n index b : Nat} {ret : Option FieldType} {rm : Room} {As : List Value} {M' : Mem} {st : List Value} (ct : CtV l y bytes maxL ret rm E z Ly (.ref b :: As) M M') (jy : jYV y bytes maxL ret n) (hlink : Cond.methodLink own index y ∈ lwG) (hdg : decode cc pc = .ok (.invokevirtual index, 3)) (rc : ∃ cell : Cell, H[b]? = some cell ∧ cell.vm.isStatics = false ∧ s.vm.findClass y.cls = some cell.cls) (hst : st = As.reverse ++ .ref b :: rest) (hn : As.length = n) (hsz : ls.size = nL) (hroom : (rest.map fun v => v.category).sum ≤ 8) (hR : rm.frames + 1 ≤ R.frames ∧ 8 + (maxL + 11) + rm.locals ≤ R.locals) (h0 : rm.cells = 0 ∧ rm.slots = 0) (hc : cells ≤ R.cells ∧ slots ≤ R.slots)
    (kk : ∀ (H1 : Heap) (locs1 : List Loc), HS E z Ly M' s H1 locs1 → W p l e R s m args below meth c H1 locs1 cells slots Q (F0 m (pc + 3) ls rest)) : W p l e R s m args below meth c H locs cells slots Q (F0 m pc ls st) := by
  refine va_callv (va_runV (As := As) (rest := rest) C.1 ct ⟨callB_of n C.1.2.2.2.2 (good_G jy.2.2.2.1) rfl rfl rfl (C.1.2.2.2.2 _ jy.2.2.1) (C.1.2.2.2.2 _ hlink) jy.2.2.2.2 hR, C.1.2.2.2.2 _ jy.1, C.1.2.2.2.2 _ jy.2.1⟩ ⟨jPre_blind, rc, fun U hU hW => j_pre C hM _ hU hW⟩ rfl hn hsz hst (lv_room hroom) hdg (by rw [h0.1, h0.2]; exact hc)) hM.2.1 (fun q _ h => h) (fun q h => h) (fun u t H1 locs1 ht hvm hw hB hz1 hk1 hS => ?_)
  have hB : va_P (eD E) vwCl (Wd (eC E) z Ly M') t.heap := hB
  rw [ht] at hB
  rw [h0.1, h0.2]
  exact kk H1 locs1 ⟨hB, hS, hw, hM.2.2.2⟩
set_option maxHeartbeats 4000000 in
theorem r_callSI (C : Cx E p c cc nL s args own m) (hM : HS E z Ly M s H locs) {y : MethodName} {bytes : ByteArray} {maxL n index : Nat} {ret : Option FieldType} {rm : Room} {As : List Value} {r : Int} {M' : Mem} {st : List Value} (ct : CtI l y bytes maxL ret rm E z Ly As M r M') (jy : jYS y bytes maxL ret n) (hlink : Cond.methodLink own index y ∈ lwG) (hdg : decode cc pc = .ok (.invokestatic index, 3)) (hst : st = As.reverse ++ rest) (hn : As.length = n) (hsz : ls.size = nL) (hroom : (rest.map fun v => v.category).sum ≤ 8) (hR : rm.frames + 1 ≤ R.frames ∧ 8 + (maxL + 11) + rm.locals ≤ R.locals) (h0 : rm.cells = 0 ∧ rm.slots = 0) (hc : cells ≤ R.cells ∧ slots ≤ R.slots)
    (kk : ∀ (H1 : Heap) (locs1 : List Loc), inR r → HS E z Ly M' s H1 locs1 → W p l e R s m args below meth c H1 locs1 cells slots Q (F0 m (pc + 3) ls (.int (jI r) :: rest))) : W p l e R s m args below meth c H locs cells slots Q (F0 m pc ls st) := by
  refine va_calli (va_runS (As := As) (rest := rest) C.1 ct ⟨callB_of n C.1.2.2.2.2 (good_G jy.2.2.1) rfl rfl rfl (C.1.2.2.2.2 _ jy.2.1) (C.1.2.2.2.2 _ hlink) jy.2.2.2 hR, C.1.2.2.2.2 _ jy.1⟩ ⟨jPre_blind, fun U hU hW => j_pre C hM _ hU hW⟩ rfl hn hsz hst (lv_room hroom) hdg (by rw [h0.1, h0.2]; exact hc)) hM.2.1 (fun q _ h => h) (fun q h => h) (fun v u t H1 locs1 ht hvm hw hB hz1 hk1 hS => ?_)
  obtain ⟨rfl, hr, hMk⟩ := hw
  have hB : va_P (eD E) vwCl (Wd (eC E) z Ly M') t.heap := hB
  rw [ht] at hB
  rw [h0.1, h0.2]
  exact kk H1 locs1 hr ⟨hB, hS, hMk, hM.2.2.2⟩
set_option maxHeartbeats 4000000 in
theorem r_callSV (C : Cx E p c cc nL s args own m) (hM : HS E z Ly M s H locs) {y : MethodName} {bytes : ByteArray} {maxL n index : Nat} {ret : Option FieldType} {rm : Room} {As : List Value} {M' : Mem} {st : List Value} (ct : CtV l y bytes maxL ret rm E z Ly As M M') (jy : jYS y bytes maxL ret n) (hlink : Cond.methodLink own index y ∈ lwG) (hdg : decode cc pc = .ok (.invokestatic index, 3)) (hst : st = As.reverse ++ rest) (hn : As.length = n) (hsz : ls.size = nL) (hroom : (rest.map fun v => v.category).sum ≤ 8) (hR : rm.frames + 1 ≤ R.frames ∧ 8 + (maxL + 11) + rm.locals ≤ R.locals) (h0 : rm.cells = 0 ∧ rm.slots = 0) (hc : cells ≤ R.cells ∧ slots ≤ R.slots)
    (kk : ∀ (H1 : Heap) (locs1 : List Loc), HS E z Ly M' s H1 locs1 → W p l e R s m args below meth c H1 locs1 cells slots Q (F0 m (pc + 3) ls rest)) : W p l e R s m args below meth c H locs cells slots Q (F0 m pc ls st) := by
  refine va_callv (va_runS (As := As) (rest := rest) C.1 ct ⟨callB_of n C.1.2.2.2.2 (good_G jy.2.2.1) rfl rfl rfl (C.1.2.2.2.2 _ jy.2.1) (C.1.2.2.2.2 _ hlink) jy.2.2.2 hR, C.1.2.2.2.2 _ jy.1⟩ ⟨jPre_blind, fun U hU hW => j_pre C hM _ hU hW⟩ rfl hn hsz hst (lv_room hroom) hdg (by rw [h0.1, h0.2]; exact hc)) hM.2.1 (fun q _ h => h) (fun q h => h) (fun u t H1 locs1 ht hvm hw hB hz1 hk1 hS => ?_)
  have hB : va_P (eD E) vwCl (Wd (eC E) z Ly M') t.heap := hB
  rw [ht] at hB
  rw [h0.1, h0.2]
  exact kk H1 locs1 ⟨hB, hS, hw, hM.2.2.2⟩
/-! Math -/
theorem r_min (C : Cx E p c cc nL s args own m) {x y : Int} {index : Nat} (hx : inR x) (hy : inR y) (hlink : Cond.methodLink own index Lib.Math.min.name ∈ lwG) (hdg : decode cc pc = .ok (.invokestatic index, 3)) (hsz : ls.size = nL) (hroom : 1 ≤ R.frames ∧ (rest.map fun v => v.category).sum + 13 ≤ R.locals) (hc : cells ≤ R.cells ∧ slots ≤ R.slots)
    (kk : W p l e R s m args below meth c H locs cells slots Q (F0 m (pc + 3) ls (.int (jI (min x y)) :: rest))) : W p l e R s m args below meth c H locs cells slots Q (F0 m pc ls (.int (jI y) :: .int (jI x) :: rest)) := by
  refine va_mmin C.1.1 C.1.2.1 (by rw [C.1.2.2.1, hsz]) C.1.2.2.2.1 (C.1.2.2.2.2 _ hlink) (C.1.2.2.2.2 _ gw_min.1) (C.1.2.2.2.2 _ gw_math) (C.1.2.2.2.2 _ gw_min.2) hroom.1 hroom.2 hc.1 hc.2 hdg ?_
  rw [show (if jI y < jI x then jI y else jI x) = jI (min x y) from ?_]
  · exact kk
  · by_cases h : y < x
    · rw [if_pos ((jI_lt hy hx).mpr h), Int.min_eq_right (by omega)]
    · rw [if_neg (fun q => h ((jI_lt hy hx).mp q)), Int.min_eq_left (by omega)]
theorem r_max (C : Cx E p c cc nL s args own m) {x y : Int} {index : Nat} (hx : inR x) (hy : inR y) (hlink : Cond.methodLink own index Lib.Math.max.name ∈ lwG) (hdg : decode cc pc = .ok (.invokestatic index, 3)) (hsz : ls.size = nL) (hroom : 1 ≤ R.frames ∧ (rest.map fun v => v.category).sum + 13 ≤ R.locals) (hc : cells ≤ R.cells ∧ slots ≤ R.slots)
    (kk : W p l e R s m args below meth c H locs cells slots Q (F0 m (pc + 3) ls (.int (jI (max x y)) :: rest))) : W p l e R s m args below meth c H locs cells slots Q (F0 m pc ls (.int (jI y) :: .int (jI x) :: rest)) := by
  refine va_mmax C.1.1 C.1.2.1 (by rw [C.1.2.2.1, hsz]) C.1.2.2.2.1 (C.1.2.2.2.2 _ hlink) (C.1.2.2.2.2 _ gw_max.1) (C.1.2.2.2.2 _ gw_math) (C.1.2.2.2.2 _ gw_max.2) hroom.1 hroom.2 hc.1 hc.2 hdg ?_
  rw [show (if jI x < jI y then jI y else jI x) = jI (max x y) from ?_]
  · exact kk
  · by_cases h : x < y
    · rw [if_pos ((jI_lt hx hy).mpr h), Int.max_eq_right (by omega)]
    · rw [if_neg (fun q => h ((jI_lt hx hy).mp q)), Int.max_eq_left (by omega)]
theorem r_abs (C : Cx E p c cc nL s args own m) {x : Int} {index : Nat} (hx : inR x) (hlink : Cond.methodLink own index Lib.Math.abs.name ∈ lwG) (hdg : decode cc pc = .ok (.invokestatic index, 3)) (hsz : ls.size = nL) (hroom : 1 ≤ R.frames ∧ (rest.map fun v => v.category).sum + 13 ≤ R.locals) (hc : cells ≤ R.cells ∧ slots ≤ R.slots)
    (kk : W p l e R s m args below meth c H locs cells slots Q (F0 m (pc + 3) ls (.int (jI (max x (-x))) :: rest))) : W p l e R s m args below meth c H locs cells slots Q (F0 m pc ls (.int (jI x) :: rest)) := by
  refine va_mabs C.1.1 C.1.2.1 (by rw [C.1.2.2.1, hsz]) C.1.2.2.2.1 (C.1.2.2.2.2 _ hlink) (C.1.2.2.2.2 _ gw_abs.1) (C.1.2.2.2.2 _ gw_math) (C.1.2.2.2.2 _ gw_abs.2) hroom.1 hroom.2 hc.1 hc.2 hdg ?_
  have h0 : inR 0 := ⟨by decide, by decide⟩
  rw [show (if 0 ≤ jI x then jI x else 0 - jI x) = jI (max x (-x)) from ?_]
  · exact kk
  · by_cases h : 0 ≤ x
    · rw [if_pos (show (0 : Int32) ≤ jI x from (jI_le h0 hx).mpr h), Int.max_eq_left (by omega)]
    · rw [if_neg (fun q : (0 : Int32) ≤ jI x => h ((jI_le h0 hx).mp q)), Int.max_eq_right (by omega)]
      show 0 - jI x = jI (-x)
      rw [show (-x : Int) = 0 - x by omega]
      exact (Int32.ofInt_sub 0 x).symm
/-! System.arraycopy -/
theorem inK_fit {kd : Nat} {ty : FieldType} {x : Int} (hk : kd = 20 ∧ ty = .int ∨ kd = 21 ∧ ty = .byte ∨ kd = 22 ∧ ty = .boolean) (h : inK kd x) : fits ty (.int (jI x)) = true := by
  have hx := inK_R h
  rcases hk with ⟨h1, h2⟩ | ⟨h1, h2⟩ | ⟨h1, h2⟩ <;> subst h1 h2
  · rfl
  · have h : -128 ≤ x ∧ x ≤ 127 := h
    show (decide (-128 ≤ jI x) && decide (jI x ≤ 127)) = true
    rw [Bool.and_eq_true, decide_eq_true_eq, decide_eq_true_eq]
    exact ⟨(jI_le (x := -128) ⟨by decide, by decide⟩ hx).mpr h.1, (jI_le (y := 127) hx ⟨by decide, by decide⟩).mpr h.2⟩
  · have h : x = 0 ∨ x = 1 := h
    rcases h with h | h <;> subst h <;> rfl
theorem cpy_row (f g : Nat → Int) (sp dp n : Nat) : va_cpy (fun j => jI (f j)) (fun j => jI (g j)) sp dp n = fun j => jI (cpr f g sp dp n j) := by
  funext j
  unfold va_cpy cpr
  by_cases hj : dp ≤ j ∧ j < dp + n
  · rw [if_pos hj, if_pos hj]
  · rw [if_neg hj, if_neg hj]
theorem r_copy (C : Cx E p c cc nL s args own m) (hM : HS E z Ly M s H locs) {a b n0 n1 kd t : Nat} {ty : FieldType} {sp dp n : Int} {index : Nat} (hlink : Cond.methodLink own index arraycopyName ∈ lwG) (hdg : decode cc pc = .ok (.invokestatic index, 3)) (hkd : kd = 20 ∧ ty = .int ∨ kd = 21 ∧ ty = .byte ∨ kd = 22 ∧ ty = .boolean) (ht : kd = 20 + t) (ha : a < Ly.1) (hb : b < Ly.1) (hla : Ly.2 a = (kd, n0)) (hlb : Ly.2 b = (kd, n1)) (hsp : inR sp) (hdp : inR dp) (hn : inR n) (h : 0 ≤ sp ∧ 0 ≤ dp ∧ 0 ≤ n ∧ sp + n ≤ (n0 : Int) ∧ dp + n ≤ (n1 : Int)) (hsz : ls.size = nL) (hroom : 1 ≤ R.frames ∧ (rest.map fun v => v.category).sum + (nativeFrameWords "java/lang/System" "arraycopy" 5 + 11) ≤ R.locals)
    (kk : ∀ (H1 : Heap) (locs1 : List Loc), HS E z Ly (cpm M a sp.toNat b dp.toNat n.toNat) s H1 locs1 → W p l e R s m args below meth c H1 locs1 cells slots Q (F0 m (pc + 3) ls rest)) : W p l e R s m args below meth c H locs cells slots Q (F0 m pc ls (.int (jI n) :: .int (jI dp) :: .ref (z + b) :: .int (jI sp) :: .ref (z + a) :: rest)) := by
  have h0 : inR 0 := ⟨by decide, by decide⟩
  have ht' : (eT E)[t]? = some (eC E t, ty) := by
    rcases hkd with ⟨h1, h2⟩ | ⟨h1, h2⟩ | ⟨h1, h2⟩ <;> subst h2
    · have : t = 0 := by omega
      subst this; rfl
    · have : t = 1 := by omega
      subst this; rfl
    · have : t = 2 := by omega
      subst this; rfl
  have hcell : ∀ (q k : Nat), cellOf (eC E) z q (kd, k) (M q) = .inl (eC E t, k, .inl (fun j => jI (M q j))) := by
    intro q k
    rcases hkd with ⟨h1, h2⟩ | ⟨h1, h2⟩ | ⟨h1, h2⟩ <;> subst h1
    · have : t = 0 := by omega
      subst this; rfl
    · have : t = 1 := by omega
      subst this; rfl
    · have : t = 2 := by omega
      subst this; rfl
  have hcell' : ∀ (q k : Nat) (f : Nat → Int), cellOf (eC E) z q (kd, k) f = .inl (eC E t, k, .inl (fun j => jI (f j))) := by
    intro q k f
    rcases hkd with ⟨h1, h2⟩ | ⟨h1, h2⟩ | ⟨h1, h2⟩ <;> subst h1
    · have : t = 0 := by omega
      subst this; rfl
    · have : t = 1 := by omega
      subst this; rfl
    · have : t = 2 := by omega
      subst this; rfl
  have neg : ∀ {x : Int}, inR x → 0 ≤ x → ¬ jI x < 0 := fun hx h q => by
    have := (jI_lt hx h0).mp (show jI _ < jI 0 from q)
    omega
  refine va_copyi C.1.1 C.1.2.1 (by rw [C.1.2.2.1, hsz]) C.1.2.2.2.1 (C.1.2.2.2.2 _ hlink) (C.1.2.2.2.2 _ gw_copy.1) (C.1.2.2.2.2 _ gw_copy.2.1) (C.1.2.2.2.2 _ gw_copy.2.2) C.2.1 hM.1 (Wd_D hM.2.2.2) hM.2.1 a b t t (f := fun j => jI (M a j)) (g := fun j => jI (M b j)) (n0 := n0) (n1 := n1) (ty := ty) (by rw [Wd_get ha, hla, hcell]) (by rw [Wd_get hb, hlb, hcell]) ht' ht' (by rcases hkd with ⟨h1, h2⟩ | ⟨h1, h2⟩ | ⟨h1, h2⟩ <;> subst h2 <;> rfl) (neg hsp h.1) (neg hdp h.2.1) (neg hn h.2.2.1) (by rw [jI_nat hsp, jI_nat hn]; omega) (by rw [jI_nat hdp, jI_nat hn]; omega) (fun i hi => inK_fit hkd (by have := hM.2.2.1 a ((jI sp).toNatClampNeg + i); rw [hla] at this; exact this)) hroom.1 hroom.2 hdg (fun H1 locs1 hP hD hS => ?_)
  rw [jI_nat hsp, jI_nat hdp, jI_nat hn, cpy_row, Wd_set hb (M' := cpm M a sp.toNat b dp.toNat n.toNat) (by rw [hlb, hcell']; simp [cpm]) (fun q hq => by simp [cpm, hq])] at hP
  exact kk H1 locs1 ⟨hP, hS, cpm_ok (by rw [hla, hlb]) hM.2.2.1, hM.2.2.2⟩
/-! switches -/
def jsw (pc : Nat) (lo hi dflt : Int) (offs : Array Int) (x : Int) : Int := if x < lo ∨ hi < x then pc + dflt else pc + offs.getD (x - lo).toNat dflt
theorem r_table (C : Cx E p c cc nL s args own m) {dflt lo hi : Int} {offs : Array Int} {len : Nat} {x : Int} (tgt : Nat) (hx : inR x) (hdg : decode cc pc = .ok (.tableswitch dflt lo hi offs, len)) (hsz : hi - lo < (offs.size : Int)) (h : jsw pc lo hi dflt offs x = (tgt : Int)) (k : W p l e R s m args below meth c H locs cells slots Q (F0 m tgt ls rest)) : W p l e R s m args below meth c H locs cells slots Q (F0 m pc ls (.int (jI x) :: rest)) := by
  unfold jsw at h
  by_cases ho : x < lo ∨ hi < x
  · rw [if_pos ho] at h
    exact lv_tableOut C.1.1 C.1.2.1 hdg (by rw [jI_toInt hx]; exact ho) h k
  · rw [if_neg ho] at h
    refine lv_tableIn C.1.1 C.1.2.1 hdg (by rw [jI_toInt hx]; omega) (by rw [jI_toInt hx]; omega) (off := offs.getD (x - lo).toNat dflt) ?_ h k
    rw [jI_toInt hx]
    have : (x - lo).toNat < offs.size := by omega
    simp [Array.getD, this]
theorem r_lookup (C : Cx E p c cc nL s args own m) {dflt : Int} {ps : Array (Int × Int)} {len : Nat} {x : Int} (tgt : Nat) (off : Int) (hx : inR x) (hdg : decode cc pc = .ok (.lookupswitch dflt ps, len)) (hp : (ps.toList.zip (ps.toList.drop 1)).all (fun (a, next) => a.1 < next.1) = true) (ho : Op.lookupswitch.offset ps.toList dflt x = off) (ht : (pc : Int) + off = (tgt : Int)) (k : W p l e R s m args below meth c H locs cells slots Q (F0 m tgt ls rest)) : W p l e R s m args below meth c H locs cells slots Q (F0 m pc ls (.int (jI x) :: rest)) :=
  lv_lookup C.1.1 C.1.2.1 hdg hp (by rw [jI_toInt hx]; exact ho) ht k
end JC
theorem r_ireturnM {p : Program} {l : Launch} {e : Env} {R : Room} {s : State} {m : MethodId} {args : Array Value} {below : List Frame} {meth : Method} {c : Code} {H : Heap} {locs : List Loc} {cells slots : Nat} {cc : ByteArray} {nL : Nat} {own : String} {E : jE} {z : Nat} {Ly : jLy} {M : Mem} {pc : Nat} {ls : Array Slot} (C : Cx E p c cc nL s args own m) (hM : HS E z Ly M s H locs) {v r : Int} {M' : Mem} (hr : meth.sig.returnType = some .int) (hlk : meth.locks = false) (hv : inR v) (h : some (v, M) = some (r, M')) (hdg : decode cc pc = .ok (.ireturn, 1)) :
    W p l e R s m args below meth c H locs cells slots (MQ below (va_Qi (fun (w : Int32) (_ : Unit) => w = jI r ∧ inR r ∧ Mok Ly M') (fun _ t => va_P (eD E) vwCl (Wd (eC E) z Ly M') t.heap) (eA E)) args s cells slots (eA E)) (F0 m pc ls [.int (jI v)]) := by
  cases h
  exact r_ireturn C hM hr hlk hv rfl rfl hdg
theorem r_zreturnM {p : Program} {l : Launch} {e : Env} {R : Room} {s : State} {m : MethodId} {args : Array Value} {below : List Frame} {meth : Method} {c : Code} {H : Heap} {locs : List Loc} {cells slots : Nat} {cc : ByteArray} {nL : Nat} {own : String} {E : jE} {z : Nat} {Ly : jLy} {M : Mem} {pc : Nat} {ls : Array Slot} (C : Cx E p c cc nL s args own m) (hM : HS E z Ly M s H locs) {v r : Int} {M' : Mem} (hr : meth.sig.returnType = some .boolean) (hlk : meth.locks = false) (hv : v = 0 ∨ v = 1) (h : some (v, M) = some (r, M')) (hdg : decode cc pc = .ok (.ireturn, 1)) :
    W p l e R s m args below meth c H locs cells slots (MQ below (va_Qi (fun (w : Int32) (_ : Unit) => w = jI r ∧ inR r ∧ Mok Ly M') (fun _ t => va_P (eD E) vwCl (Wd (eC E) z Ly M') t.heap) (eA E)) args s cells slots (eA E)) (F0 m pc ls [.int (jI v)]) := by
  cases h
  exact r_zreturn C hM hr hlk hv rfl rfl hdg
