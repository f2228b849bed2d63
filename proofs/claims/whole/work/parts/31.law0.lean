/-! the law's own helpers: one call of the class, its answer laid into a row of one -/
abbrev outL (E : jE) (f : Nat → Int64) : va_E := .inl (eC E 4, 1, .inr (.inl f))
abbrev outD (E : jE) (f : Nat → UInt64) : va_E := .inl (eC E 5, 1, .inr (.inr (.inr (.inl f))))
def StL (U : State) : Prop := StX U ∧ va_Nc (exN 2) (exN 1) U ∧ va_Nc (exN 3) (exN 2) U
theorem StL.warm {s U : State} (hW : s.WarmedH U.vm) (h : StL s) : StL U := ⟨h.1.warm hW, va_Nc.moved hW.alike h.2.1, va_Nc.moved hW.alike h.2.2⟩
theorem StL.same {u U : State} (hv : u.vm = U.vm) (h : StL u) : StL U := ⟨StX.same hv h.1, va_Nc.moved (by rw [hv]; exact Vm.Alike.refl U.vm) h.2.1, va_Nc.moved (by rw [hv]; exact Vm.Alike.refl U.vm) h.2.2⟩
/-- the surroundings without the row for the answer -/
def eO (E : jE) (zo : Nat) : jE := (E.1, E.2.1, (fun q => eA E q ∧ q ≠ zo), E.2.2.2)
def HL (E : jE) (z zo : Nat) (x : va_E) (M : Mem) (s : State) (H : Heap) (locs : List Loc) : Prop :=
  va_P (eD E) vwCl ((zo, x) :: Wd (eC E) z LyC M) H ∧ va_S (eA E) s.heap H locs ∧ Mok LyC M ∧ (∀ k : Nat, k < LyC.1 → eA E (z + k)) ∧ eA E zo ∧ ∀ k : Nat, k < LyC.1 → zo ≠ z + k
def jPreL (E : jE) (z zo : Nat) (x : va_E) (As : List Value) (M : Mem) : Array Value → State → Prop :=
  va_Pc As (fun U => va_P (eD E) vwCl ((zo, x) :: Wd (eC E) z LyC M) U.heap ∧ va_K (eD E) vwCl (eT E) U ∧ Sta E U U.heap ∧ (∀ q : Nat, U.heap.size ≤ q → eA E q) ∧ Mok LyC M ∧ (∀ k : Nat, k < LyC.1 → eA E (z + k)) ∧ eA E zo ∧ (∀ k : Nat, k < LyC.1 → zo ≠ z + k) ∧ StL U)
theorem jPreL_blind {E : jE} {z zo : Nat} {x : va_E} {As : List Value} {M : Mem} : FrameBlind (jPreL E z zo x As M) := fun a U g mk q => by
  obtain ⟨q0, qP, qK, qS, qA, qM, qZ, qO, qN, qX⟩ := q
  exact ⟨q0, qP, va_K.moved (u := U) (U := U.calling g mk a) (Vm.Alike.refl U.vm) qK, Sta.same (u := U) rfl qS, qA, qM, qZ, qO, qN, StL.same (u := U) rfl qX⟩
abbrev XF (E : jE) : String → State → State → Prop := vx_X (fun (_ : Unit) => False) (fun _ _ _ => True) (eA E)
abbrev QW (E : jE) (z zo : Nat) (r : Int) (x' : va_E) (M' : Mem) : Array Value → State → Outcome → State → Prop := va_Qi (fun (v : Int32) (_ : Unit) => v = jI r ∧ inR r ∧ Mok LyC M') (fun _ t => va_P (eD E) vwCl ((zo, x') :: Wd (eC E) z LyC M') t.heap) (eA E)
def CtW (l : Launch) (y : MethodName) (cc : ByteArray) (maxL : Nat) (hh : List (Nat × Nat × Nat × Nat)) (rm : Room) (E : jE) (z zo : Nat) (x : va_E) (As : List Value) (M : Mem) (r : Int) (x' : va_E) (M' : Mem) : Prop :=
  vx_Met l y (.codeWith y cc maxL (some .int) hh :: lwG) rm (jPreL E z zo x As M) (QW E z zo r x' M') (XF E) rm.cells rm.slots (eA E)
set_option maxHeartbeats 4000000 in
theorem jmW {l : Launch} {y : MethodName} {cc : ByteArray} {maxL : Nat} {hh : List (Nat × Nat × Nat × Nat)} {rm : Room} {E : jE} {z zo : Nat} {x x' : va_E} {As : List Value} {M M' : Mem} {r : Int} (hy : plainName y.cls = true) (hn : (lg_sl As).length ≤ maxL)
    (body : ∀ (p : Program) (e : Env) (s : State) (m : MethodId) (below : List Frame) (meth : Method) (c : Code), Cx E p c cc maxL s As.toArray y.cls m → HL E z zo x M s s.heap [] → StL s → meth.sig.returnType = some .int → meth.locks = false → c.maxLocals = maxL → c.exceptionTable.toList = tableOf hh → ∀ ls : Array Slot, lv_has ls maxL (lv_args 0 As) →
      W p l e rm s m As.toArray below meth c s.heap [] 0 0 (vx_MQ below (QW E z zo r x' M') (XF E) As.toArray s rm.cells rm.slots (eA E)) (F0 m 0 ls [])) :
    CtW l y cc maxL hh rm E z zo x As M r x' M' := by
  refine vx_ofWH (cc := cc) (maxL := maxL) (ret := some .int) (hh := hh) hy rfl ?_
  intro p e s m args below meth c s₁ B hml hv
  obtain ⟨rfl, hP, hK, hSt, hA, hM, hZ, hO, hNo, hX⟩ := hv
  have hts := atoms_spec (ws := Cond.codeWith y cc maxL (some .int) hh :: lwG) B.pre
  have hown : s.vm.findClass y.cls = some m.cls := findClass_of_methodNamed B.named
  have hl := lv_entry As (n := maxL) hn
  rw [lg_entry_eq]
  exact body p e s m below meth c ⟨⟨B.exec, B.bytes, hml, hown, fun w hw => hts w (List.mem_cons_of_mem _ hw)⟩, hK, hSt, hA⟩ ⟨hP, va_S.rf, hM, hZ, hO, hNo⟩ hX B.returns B.notSynchronized hml (vx_table (x := y) B (hts _ List.mem_cons_self)) _ hl
section JW
variable {p : Program} {l : Launch} {e : Env} {R : Room} {s : State} {m : MethodId} {args : Array Value} {below : List Frame} {meth : Method} {c : Code} {H : Heap} {locs : List Loc} {cells slots : Nat} {Q : State → Prop}
variable {cc : ByteArray} {nL : Nat} {own : String} {E : jE} {z zo : Nat} {x : va_E} {M M' : Mem} {pc : Nat} {ls : Array Slot} {rest : List Value}
theorem wd_tail {ws : va_W} {q : Nat × va_E} {D : va_G} {cl : List vw_C} (h : va_P D cl (q :: ws) H) : va_P D cl ws H := fun k q hk => h (k + 1) q hk
theorem wd_cons {ws : va_W} {q : Nat × va_E} {D : va_G} {cl : List vw_C} (h0 : va_at D cl q H) (h : va_P D cl ws H) : va_P D cl (q :: ws) H := fun k q' hk => by
  cases k with
  | zero => cases hk; exact h0
  | succ k => exact h k q' hk
theorem hl_D (hL : HL E z zo x M s H locs) : va_D (eA E) ((zo, x) :: Wd (eC E) z LyC M) := by
  have hW := Wd_D (E := E) (M := M) hL.2.2.2.1
  refine ⟨fun i j a b ha hb hab => ?_, fun k q hq => ?_⟩
  · cases i with
    | zero =>
      cases j with
      | zero => rfl
      | succ j =>
        cases ha
        have hb : (Wd (eC E) z LyC M)[j]? = some b := hb
        have hj : j < LyC.1 := by
          have := (List.getElem?_eq_some_iff.mp hb).1
          simpa [Wd] using this
        rw [Wd_get hj] at hb
        cases hb
        exact absurd hab (hL.2.2.2.2.2 j hj)
    | succ i =>
      have ha : (Wd (eC E) z LyC M)[i]? = some a := ha
      cases j with
      | zero =>
        cases hb
        have hi : i < LyC.1 := by
          have := (List.getElem?_eq_some_iff.mp ha).1
          simpa [Wd] using this
        rw [Wd_get hi] at ha
        cases ha
        exact absurd hab.symm (hL.2.2.2.2.2 i hi)
      | succ j => rw [hW.1 i j a b ha hb hab]
  · cases k with
    | zero => cases hq; exact hL.2.2.2.2.1
    | succ k => exact hW.2 k q hq
theorem hl_C (C : Cx E p c cc nL s args own m) (hL : HL E z zo x M s s.heap []) : Cx (eO E zo) p c cc nL s args own m :=
  ⟨C.1, C.2.1, C.2.2.1.narrow (B := fun q => eA E q ∧ q ≠ zo) (fun q h => h.1), fun q hq => ⟨C.2.2.2 q hq, fun he => by
    have := (hL.1 0 _ rfl).lt
    simp only at this
    omega⟩⟩
theorem hl_H (hL : HL E z zo x M s s.heap []) : HS (eO E zo) z LyC M s s.heap [] :=
  ⟨wd_tail hL.1, va_S.rf, hL.2.2.1, fun k hk => ⟨hL.2.2.2.1 k hk, fun he => hL.2.2.2.2.2 k hk he.symm⟩⟩
/-- behind a call -/
theorem hl_back (hL : HL E z zo x M s s.heap []) {M1 : Mem} {H1 : Heap} {locs1 : List Loc} (hP : va_P (eD E) vwCl (Wd (eC E) z LyC M1) H1) (hS : va_S (eA (eO E zo)) s.heap H1 locs1) (hk : Mok LyC M1) : HL E z zo x M1 s H1 locs1 := by
  have h0 := hL.1 0 _ rfl
  refine ⟨wd_cons (h0.kept (hS.2.1 zo h0.lt (fun h => h.2 rfl))) hP, ⟨hS.1, fun q h1 h2 => hS.2.1 q h1 (fun h => h2 h.1), fun y hy => (hS.2.2 y hy).1⟩, hk, hL.2.2.2⟩
theorem r_wI (C : Cx E p c cc nL s args own m) (hL : HL E z zo x M s s.heap []) {y : MethodName} {bytes : ByteArray} {maxL n index : Nat} {ret : Option FieldType} {rm : Room} {As : List Value} {r : Int} {st : List Value} (ct : ∀ E' : jE, CtI l y bytes maxL ret rm E' z LyC (.ref (z + 0) :: As) M r M') (jy : jYV y bytes maxL ret n) (hyc : y.cls = "NewsReel") (hlink : Cond.methodLink own index y ∈ lwG) (hdg : decode cc pc = .ok (.invokevirtual index, 3)) (hst : st = As.reverse ++ .ref (z + 0) :: rest) (hn : As.length = n) (hsz : ls.size = nL) (hroom : (rest.map fun v => v.category).sum ≤ 8) (hR : rm.frames + 1 ≤ R.frames ∧ 8 + (maxL + 11) + rm.locals ≤ R.locals) (h0 : rm.cells = 0 ∧ rm.slots = 0)
    (kk : ∀ (H1 : Heap) (locs1 : List Loc), inR r → HL E z zo x M' s H1 locs1 → W p l e R s m args below meth c H1 locs1 0 0 Q (F0 m (pc + 3) ls (.int (jI r) :: rest))) : W p l e R s m args below meth c s.heap [] 0 0 Q (F0 m pc ls st) := by
  have C1 := hl_C C hL
  have hM1 := hl_H hL
  have rc := recvW C1 hM1 jc10 lc_0.1 lc_0.2 rfl
  refine r_callI (E := eO E zo) C1 hM1 (ct _) jy hlink hdg (by rw [hyc]; exact rc) hst hn hsz hroom hR h0 ⟨Nat.zero_le _, Nat.zero_le _⟩ (fun H1 locs1 hr hM2 => kk H1 locs1 hr (hl_back hL hM2.1 hM2.2.1 hM2.2.2.1))
theorem r_wV (C : Cx E p c cc nL s args own m) (hL : HL E z zo x M s s.heap []) {y : MethodName} {bytes : ByteArray} {maxL n index : Nat} {ret : Option FieldType} {rm : Room} {As : List Value} {st : List Value} (ct : ∀ E' : jE, CtV l y bytes maxL ret rm E' z LyC (.ref (z + 0) :: As) M M') (jy : jYV y bytes maxL ret n) (hyc : y.cls = "NewsReel") (hlink : Cond.methodLink own index y ∈ lwG) (hdg : decode cc pc = .ok (.invokevirtual index, 3)) (hst : st = As.reverse ++ .ref (z + 0) :: rest) (hn : As.length = n) (hsz : ls.size = nL) (hroom : (rest.map fun v => v.category).sum ≤ 8) (hR : rm.frames + 1 ≤ R.frames ∧ 8 + (maxL + 11) + rm.locals ≤ R.locals) (h0 : rm.cells = 0 ∧ rm.slots = 0)
    (kk : ∀ (H1 : Heap) (locs1 : List Loc), HL E z zo x M' s H1 locs1 → W p l e R s m args below meth c H1 locs1 0 0 Q (F0 m (pc + 3) ls rest)) : W p l e R s m args below meth c s.heap [] 0 0 Q (F0 m pc ls st) := by
  have C1 := hl_C C hL
  have hM1 := hl_H hL
  have rc := recvW C1 hM1 jc10 lc_0.1 lc_0.2 rfl
  refine r_callV (E := eO E zo) C1 hM1 (ct _) jy hlink hdg (by rw [hyc]; exact rc) hst hn hsz hroom hR h0 ⟨Nat.zero_le _, Nat.zero_le _⟩ (fun H1 locs1 hM2 => kk H1 locs1 (hl_back hL hM2.1 hM2.2.1 hM2.2.2.1))
set_option maxHeartbeats 4000000 in
theorem r_wD (C : Cx E p c cc nL s args own m) (hL : HL E z zo x M s s.heap []) {y : MethodName} {bytes : ByteArray} {maxL n index : Nat} {ret : Option FieldType} {rm : Room} {As : List Value} {r : UInt64} {st : List Value} (ct : ∀ E' : jE, CtD l y bytes maxL ret rm E' z LyC (.ref (z + 0) :: As) M r M') (jy : jYV y bytes maxL ret n) (hyc : y.cls = "NewsReel") (hlink : Cond.methodLink own index y ∈ lwG) (hdg : decode cc pc = .ok (.invokevirtual index, 3)) (hst : st = As.reverse ++ .ref (z + 0) :: rest) (hn : As.length = n) (hsz : ls.size = nL) (hroom : (rest.map fun v => v.category).sum ≤ 8) (hR : rm.frames + 1 ≤ R.frames ∧ 8 + (maxL + 11) + rm.locals ≤ R.locals) (h0 : rm.cells = 0 ∧ rm.slots = 0)
    (kk : ∀ (H1 : Heap) (locs1 : List Loc), HL E z zo x M' s H1 locs1 → W p l e R s m args below meth c H1 locs1 0 0 Q (F0 m (pc + 3) ls (.double r :: rest))) : W p l e R s m args below meth c s.heap [] 0 0 Q (F0 m pc ls st) := by
  have C1 := hl_C C hL
  have hM1 := hl_H hL
  have rc := recvW C1 hM1 jc10 lc_0.1 lc_0.2 rfl
  refine va_calld (va_runV (As := As) (rest := rest) C.1 (ct (eO E zo)) ⟨callB_of n C.1.2.2.2.2 (good_G jy.2.2.2.1) rfl rfl rfl (C.1.2.2.2.2 _ jy.2.2.1) (C.1.2.2.2.2 _ hlink) jy.2.2.2.2 hR, C.1.2.2.2.2 _ jy.1, C.1.2.2.2.2 _ jy.2.1⟩ ⟨jPre_blind, by rw [hyc]; exact rc, fun U hU hW => j_pre C1 hM1 _ hU hW⟩ rfl hn hsz hst (lv_room hroom) hdg (by rw [h0.1, h0.2]; exact ⟨Nat.zero_le _, Nat.zero_le _⟩)) hM1.2.1 (fun q _ h => h) (fun q h => h) (fun v u t H1 locs1 ht hvm hw hB hz1 hk1 hS => ?_)
  obtain ⟨rfl, hMk⟩ := hw
  have hB : va_P (eD E) vwCl (Wd (eC E) z LyC M') t.heap := hB
  rw [ht] at hB
  rw [h0.1, h0.2]
  exact kk H1 locs1 (hl_back hL hB hS hMk)
set_option maxHeartbeats 4000000 in
theorem r_wXI (C : Cx E p c cc nL s args own m) (hL : HL E z zo x M s s.heap []) (hX : StL s) {k : Nat} {y : MethodName} {bytes : ByteArray} {maxL n index : Nat} {ret : Option FieldType} {rm : Room} {As : List Value} {st : List Value} (ct : ∀ E' : jE, CtX (QXi E') l y bytes maxL ret rm E' z LyC (.ref (z + 0) :: As) M k M') (jy : jYV y bytes maxL ret n) (hyc : y.cls = "NewsReel") (hlink : Cond.methodLink own index y ∈ lwG) (hdg : decode cc pc = .ok (.invokevirtual index, 3)) (hst : st = As.reverse ++ .ref (z + 0) :: rest) (hn : As.length = n) (hsz : ls.size = nL) (hroom : (rest.map fun v => v.category).sum ≤ 8) (hR : rm.frames + 1 ≤ R.frames ∧ 8 + (maxL + 11) + rm.locals ≤ R.locals) (hc : 0 + rm.cells ≤ R.cells ∧ 0 + rm.slots ≤ R.slots)
    (kk : ∀ (ce : Cell) (q9 : Nat) (H1 : Heap) (locs1 : List Loc), HL E z zo x M' s H1 locs1 → H1[q9]? = some ce → ce.vm = .none → s.vm.findClass (exN k) = some ce.cls → vx_W p l e R s m args below meth c H1 locs1 (0 + rm.cells) (0 + rm.slots) Q (F0 m pc ls rest) q9) : W p l e R s m args below meth c s.heap [] 0 0 Q (F0 m pc ls st) := by
  have C1 := hl_C C hL
  have hM1 := hl_H hL
  have rc := recvW C1 hM1 jc10 lc_0.1 lc_0.2 rfl
  refine vx_calli (vx_runV (As := As) (rest := rest) C.1 (ct (eO E zo)) ⟨callB_of n C.1.2.2.2.2 (good_G jy.2.2.2.1) rfl rfl rfl (C.1.2.2.2.2 _ jy.2.2.1) (C.1.2.2.2.2 _ hlink) jy.2.2.2.2 hR, C.1.2.2.2.2 _ jy.1, C.1.2.2.2.2 _ jy.2.1⟩ ⟨jPreX_blind, by rw [hyc]; exact rc, fun U hU hW => ⟨j_pre C1 hM1 _ hU hW, hX.1.warm hW⟩⟩ rfl hn hsz hst (lv_room hroom) hdg hc) hM1.2.1 (fun q _ h => h) (fun q h => h) (fun q _ h => h) (fun En ce q9 u t H1 locs1 ht1 hvm hp hB hz1 hk1 hS hce hcv hcl => ?_) (fun v u t H1 locs1 ht1 hvm hw hB hz1 hk1 hS => hw.elim)
  obtain ⟨hB1, hB2⟩ := hB
  subst hB1
  have hB2 : va_P (eD E) vwCl (Wd (eC E) z LyC M') t.heap := hB2
  rw [ht1] at hB2
  exact kk ce q9 H1 locs1 (hl_back hL hB2 hS hp) hce hcv hcl
set_option maxHeartbeats 4000000 in
theorem r_wXV (C : Cx E p c cc nL s args own m) (hL : HL E z zo x M s s.heap []) (hX : StL s) {k : Nat} {y : MethodName} {bytes : ByteArray} {maxL n index : Nat} {ret : Option FieldType} {rm : Room} {As : List Value} {st : List Value} (ct : ∀ E' : jE, CtX (QXv E') l y bytes maxL ret rm E' z LyC (.ref (z + 0) :: As) M k M') (jy : jYV y bytes maxL ret n) (hyc : y.cls = "NewsReel") (hlink : Cond.methodLink own index y ∈ lwG) (hdg : decode cc pc = .ok (.invokevirtual index, 3)) (hst : st = As.reverse ++ .ref (z + 0) :: rest) (hn : As.length = n) (hsz : ls.size = nL) (hroom : (rest.map fun v => v.category).sum ≤ 8) (hR : rm.frames + 1 ≤ R.frames ∧ 8 + (maxL + 11) + rm.locals ≤ R.locals) (hc : 0 + rm.cells ≤ R.cells ∧ 0 + rm.slots ≤ R.slots)
    (kk : ∀ (ce : Cell) (q9 : Nat) (H1 : Heap) (locs1 : List Loc), HL E z zo x M' s H1 locs1 → H1[q9]? = some ce → ce.vm = .none → s.vm.findClass (exN k) = some ce.cls → vx_W p l e R s m args below meth c H1 locs1 (0 + rm.cells) (0 + rm.slots) Q (F0 m pc ls rest) q9) : W p l e R s m args below meth c s.heap [] 0 0 Q (F0 m pc ls st) := by
  have C1 := hl_C C hL
  have hM1 := hl_H hL
  have rc := recvW C1 hM1 jc10 lc_0.1 lc_0.2 rfl
  refine vx_callv (vx_runV (As := As) (rest := rest) C.1 (ct (eO E zo)) ⟨callB_of n C.1.2.2.2.2 (good_G jy.2.2.2.1) rfl rfl rfl (C.1.2.2.2.2 _ jy.2.2.1) (C.1.2.2.2.2 _ hlink) jy.2.2.2.2 hR, C.1.2.2.2.2 _ jy.1, C.1.2.2.2.2 _ jy.2.1⟩ ⟨jPreX_blind, by rw [hyc]; exact rc, fun U hU hW => ⟨j_pre C1 hM1 _ hU hW, hX.1.warm hW⟩⟩ rfl hn hsz hst (lv_room hroom) hdg hc) hM1.2.1 (fun q _ h => h) (fun q h => h) (fun q _ h => h) (fun En ce q9 u t H1 locs1 ht1 hvm hp hB hz1 hk1 hS hce hcv hcl => ?_) (fun u t H1 locs1 ht1 hvm hw hB hz1 hk1 hS => hw.elim)
  obtain ⟨hB1, hB2⟩ := hB
  subst hB1
  have hB2 : va_P (eD E) vwCl (Wd (eC E) z LyC M') t.heap := hB2
  rw [ht1] at hB2
  exact kk ce q9 H1 locs1 (hl_back hL hB2 hS hp) hce hcv hcl
set_option maxHeartbeats 4000000 in
theorem r_wXD (C : Cx E p c cc nL s args own m) (hL : HL E z zo x M s s.heap []) (hX : StL s) {k : Nat} {y : MethodName} {bytes : ByteArray} {maxL n index : Nat} {ret : Option FieldType} {rm : Room} {As : List Value} {st : List Value} (ct : ∀ E' : jE, CtX (QXd E') l y bytes maxL ret rm E' z LyC (.ref (z + 0) :: As) M k M') (jy : jYV y bytes maxL ret n) (hyc : y.cls = "NewsReel") (hlink : Cond.methodLink own index y ∈ lwG) (hdg : decode cc pc = .ok (.invokevirtual index, 3)) (hst : st = As.reverse ++ .ref (z + 0) :: rest) (hn : As.length = n) (hsz : ls.size = nL) (hroom : (rest.map fun v => v.category).sum ≤ 8) (hR : rm.frames + 1 ≤ R.frames ∧ 8 + (maxL + 11) + rm.locals ≤ R.locals) (hc : 0 + rm.cells ≤ R.cells ∧ 0 + rm.slots ≤ R.slots)
    (kk : ∀ (ce : Cell) (q9 : Nat) (H1 : Heap) (locs1 : List Loc), HL E z zo x M' s H1 locs1 → H1[q9]? = some ce → ce.vm = .none → s.vm.findClass (exN k) = some ce.cls → vx_W p l e R s m args below meth c H1 locs1 (0 + rm.cells) (0 + rm.slots) Q (F0 m pc ls rest) q9) : W p l e R s m args below meth c s.heap [] 0 0 Q (F0 m pc ls st) := by
  have C1 := hl_C C hL
  have hM1 := hl_H hL
  have rc := recvW C1 hM1 jc10 lc_0.1 lc_0.2 rfl
  refine vx_calld (vx_runV (As := As) (rest := rest) C.1 (ct (eO E zo)) ⟨callB_of n C.1.2.2.2.2 (good_G jy.2.2.2.1) rfl rfl rfl (C.1.2.2.2.2 _ jy.2.2.1) (C.1.2.2.2.2 _ hlink) jy.2.2.2.2 hR, C.1.2.2.2.2 _ jy.1, C.1.2.2.2.2 _ jy.2.1⟩ ⟨jPreX_blind, by rw [hyc]; exact rc, fun U hU hW => ⟨j_pre C1 hM1 _ hU hW, hX.1.warm hW⟩⟩ rfl hn hsz hst (lv_room hroom) hdg hc) hM1.2.1 (fun q _ h => h) (fun q h => h) (fun q _ h => h) (fun En ce q9 u t H1 locs1 ht1 hvm hp hB hz1 hk1 hS hce hcv hcl => ?_) (fun v u t H1 locs1 ht1 hvm hw hB hz1 hk1 hS => hw.elim)
  obtain ⟨hB1, hB2⟩ := hB
  subst hB1
  have hB2 : va_P (eD E) vwCl (Wd (eC E) z LyC M') t.heap := hB2
  rw [ht1] at hB2
  exact kk ce q9 H1 locs1 (hl_back hL hB2 hS hp) hce hcv hcl
theorem r_catch1 (C : Cx E p c cc nL s args own m) (hX : StL s) {k q9 s0 e0 h0 t0 : Nat} {hs : List (Nat × Nat × Nat × Nat)} {ce : Cell} (hex : c.exceptionTable.toList = tableOf ((s0, e0, h0, t0) :: hs)) (hcv : covers ⟨s0, e0, h0, t0⟩ pc = true) (ht : t0 ≠ 0) (hk : (exN k, exN k) ∈ xWc) (hlink : Cond.classLink own t0 (exN k) ∈ lwG) (h1 : H[q9]? = some ce) (h2 : ce.vm = .none) (h3 : s.vm.findClass (exN k) = some ce.cls)
    (kk : W p l e R s m args below meth c H locs cells slots Q (F0 m h0 ls [.ref q9])) : vx_W p l e R s m args below meth c H locs cells slots Q (F0 m pc ls rest) q9 :=
  vx_catch C.1.2.2.2.1 [] ⟨s0, e0, h0, t0⟩ (tableOf hs) hex (fun z hz => nomatch hz) hcv ht (C.1.2.2.2.2 _ hlink) (va_Nw.use rfl (hX.1.2 _ hk)) h1 h2 h3 kk
theorem r_catch2 (C : Cx E p c cc nL s args own m) (hX : StL s) {k q9 s0 e0 h0 t0 s1 e1 h1 t1 : Nat} {nm : String} {hs : List (Nat × Nat × Nat × Nat)} {ce : Cell} (hex : c.exceptionTable.toList = tableOf ((s1, e1, h1, t1) :: (s0, e0, h0, t0) :: hs)) (ht1 : t1 ≠ 0) (hlink1 : Cond.classLink own t1 nm ∈ lwG) (hnc : va_Nc (exN k) nm s) (hcv : covers ⟨s0, e0, h0, t0⟩ pc = true) (ht : t0 ≠ 0) (hk : (exN k, exN k) ∈ xWc) (hlink : Cond.classLink own t0 (exN k) ∈ lwG) (g1 : H[q9]? = some ce) (g2 : ce.vm = .none) (g3 : s.vm.findClass (exN k) = some ce.cls)
    (kk : W p l e R s m args below meth c H locs cells slots Q (F0 m h0 ls [.ref q9])) : vx_W p l e R s m args below meth c H locs cells slots Q (F0 m pc ls rest) q9 :=
  vx_catch C.1.2.2.2.1 [⟨s1, e1, h1, t1⟩] ⟨s0, e0, h0, t0⟩ (tableOf hs) hex (fun z hz => by
    rcases List.mem_cons.mp hz with rfl | hz
    · exact Or.inr ⟨ht1, nm, C.1.2.2.2.2 _ hlink1, hnc⟩
    · exact nomatch hz) hcv ht (C.1.2.2.2.2 _ hlink) (va_Nw.use rfl (hX.1.2 _ hk)) g1 g2 g3 kk
theorem r_last (C : Cx E p c cc nL s args own m) {f : Nat → Int64} (hL : HL E z zo (outL E f) M s H locs) {v : Int64} (hdg : decode cc pc = .ok (.lastore, 1))
    (kk : ∀ (H1 : Heap) (locs1 : List Loc), HL E z zo (outL E (vp_updL f 0 v)) M s H1 locs1 → W p l e R s m args below meth c H1 locs1 cells slots Q (F0 m (pc + 1) ls rest)) : W p l e R s m args below meth c H locs cells slots Q (F0 m pc ls (.long v :: .int (jI 0) :: .ref zo :: rest)) :=
  va_last C.1.1 C.1.2.1 C.2.1 hL.1 (hl_D hL) hL.2.1 0 4 (f := f) (n := 1) rfl rfl (jI_in (n := 1) ⟨by decide, by decide⟩ ⟨by decide, by decide⟩) hdg (fun H1 locs1 hP hD hS => kk H1 locs1 ⟨hP, hS, hL.2.2⟩)
theorem r_dast (C : Cx E p c cc nL s args own m) {f : Nat → UInt64} (hL : HL E z zo (outD E f) M s H locs) {v : UInt64} (hdg : decode cc pc = .ok (.dastore, 1))
    (kk : ∀ (H1 : Heap) (locs1 : List Loc), HL E z zo (outD E (vf_upd f 0 v)) M s H1 locs1 → W p l e R s m args below meth c H1 locs1 cells slots Q (F0 m (pc + 1) ls rest)) : W p l e R s m args below meth c H locs cells slots Q (F0 m pc ls (.double v :: .int (jI 0) :: .ref zo :: rest)) :=
  va_dast C.1.1 C.1.2.1 C.2.1 hL.1 (hl_D hL) hL.2.1 0 5 (f := f) (n := 1) rfl rfl (jI_in (n := 1) ⟨by decide, by decide⟩ ⟨by decide, by decide⟩) hdg (fun H1 locs1 hP hD hS => kk H1 locs1 ⟨hP, hS, hL.2.2⟩)
theorem r_wret (C : Cx E p c cc nL s args own m) {x' : va_E} (hL : HL E z zo x' M' s H locs) {r : Int} {mc ms : Nat} (hr : meth.sig.returnType = some .int) (hlk : meth.locks = false) (hrr : inR r) (hdg : decode cc pc = .ok (.ireturn, 1)) (hc : cells ≤ mc) (hs : slots ≤ ms) :
    W p l e R s m args below meth c H locs cells slots (vx_MQ below (QW E z zo r x' M') (XF E) args s mc ms (eA E)) (F0 m pc ls [.int (jI r)]) :=
  vx_ret (W.widen hc hs (W.iret C.1.1 C.1.2.1 hr (fun t ht hW => ⟨⟨jI r, (), rfl, ⟨rfl, hrr, hL.2.2.1⟩, by show va_P _ _ _ t.heap; rw [ht]; exact hL.1⟩, hL.2.1.F ht⟩) hL.2.1.2.2 hdg hlk))
end JW
