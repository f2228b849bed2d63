/-! the law's body: worlds of the class, of the reference and of the two rows for answers, side by side -/
abbrev eRg (E : jE) (P : Nat → Prop) : jE := (E.1, E.2.1, P, E.2.2.2)
abbrev PC (zC zE : Nat) : Nat → Prop := fun q => (zC ≤ q ∧ q < zC + 314) ∨ zE ≤ q
abbrev PO (zC zo zE : Nat) : Nat → Prop := fun q => (zC ≤ q ∧ q < zC + 314) ∨ q = zo ∨ zE ≤ q
abbrev PR (zR zE : Nat) : Nat → Prop := fun q => (zR ≤ q ∧ q < zR + 30) ∨ zE ≤ q
/-- what stays all the way: the script, the places, the words of the throws -/
def LAt (E0 : jE) (b L : Nat) (xs : Nat → Int32) (zC zR zoL zoD zE : Nat) (s : State) : Prop :=
  va_X b L xs s s.heap ∧ b < s.heap.size ∧ s.heap.size ≤ zC ∧ zC + 314 ≤ zR ∧ zR + 30 ≤ zoL ∧ zoL < zoD ∧ zoD < zE ∧ StL s ∧ ∀ q : Nat, eA E0 q ↔ s.heap.size ≤ q
def LStt (E0 : jE) (zC zR zoL zoD zE : Nat) (Mc Mr : Mem) (fL : Nat → Int64) (fD : Nat → UInt64) (s : State) (H : Heap) (locs : List Loc) : Prop :=
  va_P (eD E0) vwCl (Wd (eC E0) zC LyC Mc) H ∧ va_P (eD E0) vwCl (Wd (eC E0) zR LyR Mr) H ∧ va_at (eD E0) vwCl (zoL, outL E0 fL) H ∧ va_at (eD E0) vwCl (zoD, outD E0 fD) H ∧ va_S (eA E0) s.heap H locs ∧ Mok LyC Mc ∧ Mok LyR Mr ∧ zE ≤ H.size
section JL
variable {p : Program} {l : Launch} {e : Env} {R : Room} {s : State} {m : MethodId} {args : Array Value} {below : List Frame} {meth : Method} {c : Code} {H : Heap} {locs : List Loc} {cells slots : Nat} {Q : State → Prop}
variable {cc : ByteArray} {nL : Nat} {own : String} {E0 : jE} {b L zC zR zoL zoD zE : Nat} {xs : Nat → Int32} {Mc Mr : Mem} {fL : Nat → Int64} {fD : Nat → UInt64} {pc : Nat} {ls : Array Slot} {rest : List Value}
theorem la_sta (C : Cx E0 p c cc nL s args own m) (A : LAt E0 b L xs zC zR zoL zoD zE s) (hS : LStt E0 zC zR zoL zoD zE Mc Mr fL fD s H locs) {P : Nat → Prop} (hP : ∀ q, P q → zC ≤ q) {U : State} (hU : U.heap = H) (hW : s.WarmedH U.vm) : Sta (eRg E0 P) U U.heap := by
  rw [hU]
  exact Sta.narrow ((C.2.2.1.kept hS.2.2.2.2.1.2.1).warm hW) (fun q hq => (A.2.2.2.2.2.2.2.2 q).mpr (Nat.le_trans A.2.2.1 (hP q hq)))
theorem la_wd {z : Nat} {Ly : jLy} {M : Mem} {H1 : Heap} {P : Nat → Prop} (h : va_P (eD E0) vwCl (Wd (eC E0) z Ly M) H) (hk : ∀ q : Nat, q < H.size → ¬ P q → H1[q]? = H[q]?) (hn : ∀ k, k < Ly.1 → ¬ P (z + k)) : va_P (eD E0) vwCl (Wd (eC E0) z Ly M) H1 :=
  h.kept (fun k q hq => by
    have hj : k < Ly.1 := by
      have := (List.getElem?_eq_some_iff.mp hq).1
      simpa [Wd] using this
    have hq' := hq
    rw [Wd_get hj] at hq'
    have h1 := (h k q hq).lt
    refine hk q.1 h1 ?_
    cases hq'
    exact hn k hj)
theorem la_at {x : va_E} {zo : Nat} {H1 : Heap} {P : Nat → Prop} (h : va_at (eD E0) vwCl (zo, x) H) (hk : ∀ q : Nat, q < H.size → ¬ P q → H1[q]? = H[q]?) (hn : ¬ P zo) : va_at (eD E0) vwCl (zo, x) H1 := h.kept (hk zo h.lt hn)
/-- behind a call of the class -/
theorem ls_C (A : LAt E0 b L xs zC zR zoL zoD zE s) (hS : LStt E0 zC zR zoL zoD zE Mc Mr fL fD s H locs) {M1 : Mem} {H1 : Heap} {locs1 : List Loc} (hP : va_P (eD E0) vwCl (Wd (eC E0) zC LyC M1) H1) (hk : ∀ q : Nat, q < H.size → ¬ PC zC zE q → H1[q]? = H[q]?) (hz : H.size ≤ H1.size) (hSS : va_S (eA E0) s.heap H1 locs1) (hok : Mok LyC M1) : LStt E0 zC zR zoL zoD zE M1 Mr fL fD s H1 locs1 := by
  obtain ⟨a1, a2, a3, a4, a5, a6, a7, a8, a9⟩ := A
  obtain ⟨s1, s2, s3, s4, s5, s6, s7, s8⟩ := hS
  exact ⟨hP, la_wd s2 hk (fun k hk2 h => by have : k < 30 := hk2; rcases h with h | h <;> omega), la_at s3 hk (fun h => by rcases h with h | h <;> omega), la_at s4 hk (fun h => by rcases h with h | h <;> omega), hSS, hok, s7, by omega⟩
theorem ls_R (A : LAt E0 b L xs zC zR zoL zoD zE s) (hS : LStt E0 zC zR zoL zoD zE Mc Mr fL fD s H locs) {M1 : Mem} {H1 : Heap} {locs1 : List Loc} (hP : va_P (eD E0) vwCl (Wd (eC E0) zR LyR M1) H1) (hk : ∀ q : Nat, q < H.size → ¬ PR zR zE q → H1[q]? = H[q]?) (hz : H.size ≤ H1.size) (hSS : va_S (eA E0) s.heap H1 locs1) (hok : Mok LyR M1) : LStt E0 zC zR zoL zoD zE Mc M1 fL fD s H1 locs1 := by
  obtain ⟨a1, a2, a3, a4, a5, a6, a7, a8, a9⟩ := A
  obtain ⟨s1, s2, s3, s4, s5, s6, s7, s8⟩ := hS
  exact ⟨la_wd s1 hk (fun k hk2 h => by have : k < 314 := hk2; rcases h with h | h <;> omega), hP, la_at s3 hk (fun h => by rcases h with h | h <;> omega), la_at s4 hk (fun h => by rcases h with h | h <;> omega), hSS, s6, hok, by omega⟩
theorem la_pC (C : Cx E0 p c cc nL s args own m) (A : LAt E0 b L xs zC zR zoL zoD zE s) (hS : LStt E0 zC zR zoL zoD zE Mc Mr fL fD s H locs) (As : List Value) {U : State} (hU : U.heap = H) (hW : s.WarmedH U.vm) : jPre (eRg E0 (PC zC zE)) zC LyC As Mc As.toArray U :=
  ⟨rfl, by rw [hU]; exact hS.1, va_K.moved hW.alike C.2.1, la_sta C A hS (fun q h => by have := A.2.2.2.1; have := A.2.2.2.2.1; have := A.2.2.2.2.2.1; have := A.2.2.2.2.2.2.1; rcases h with h | h <;> omega) hU hW, fun q hq => Or.inr (by rw [hU] at hq; exact Nat.le_trans hS.2.2.2.2.2.2.2 hq), hS.2.2.2.2.2.1, fun k hk => Or.inl ⟨by omega, by have : k < 314 := hk; omega⟩⟩
theorem la_pR (C : Cx E0 p c cc nL s args own m) (A : LAt E0 b L xs zC zR zoL zoD zE s) (hS : LStt E0 zC zR zoL zoD zE Mc Mr fL fD s H locs) (As : List Value) {U : State} (hU : U.heap = H) (hW : s.WarmedH U.vm) : jPre (eRg E0 (PR zR zE)) zR LyR As Mr As.toArray U :=
  ⟨rfl, by rw [hU]; exact hS.2.1, va_K.moved hW.alike C.2.1, la_sta C A hS (fun q h => by have := A.2.2.2.1; have := A.2.2.2.2.1; have := A.2.2.2.2.2.1; have := A.2.2.2.2.2.2.1; rcases h with h | h <;> omega) hU hW, fun q hq => Or.inr (by rw [hU] at hq; exact Nat.le_trans hS.2.2.2.2.2.2.2 hq), hS.2.2.2.2.2.2.1, fun k hk => Or.inl ⟨by omega, by have : k < 30 := hk; omega⟩⟩
theorem la_A0 (A : LAt E0 b L xs zC zR zoL zoD zE s) {q : Nat} (h : zC ≤ q) : eA E0 q := (A.2.2.2.2.2.2.2.2 q).mpr (Nat.le_trans A.2.2.1 h)
theorem la_PC (A : LAt E0 b L xs zC zR zoL zoD zE s) {q : Nat} (h : PC zC zE q) : eA E0 q := la_A0 A (by obtain ⟨a1, a2, a3, a4, a5, a6, a7, a8⟩ := A; rcases h with h | h <;> omega)
theorem la_PR (A : LAt E0 b L xs zC zR zoL zoD zE s) {q : Nat} (h : PR zR zE q) : eA E0 q := la_A0 A (by obtain ⟨a1, a2, a3, a4, a5, a6, a7, a8⟩ := A; rcases h with h | h <;> omega)
set_option maxHeartbeats 4000000 in
theorem rl_CI (C : Cx E0 p c cc nL s args own m) (A : LAt E0 b L xs zC zR zoL zoD zE s) (hS : LStt E0 zC zR zoL zoD zE Mc Mr fL fD s H locs) {y : MethodName} {bytes : ByteArray} {maxL n index : Nat} {ret : Option FieldType} {rm : Room} {As : List Value} {st : List Value} {r : Int} {M' : Mem} (ct : ∀ E' : jE, CtI l y bytes maxL ret rm E' zC LyC (.ref (zC + 0) :: As) Mc r M') (jy : jYV y bytes maxL ret n) (hyc : y.cls = "NewsReel") (hlink : Cond.methodLink own index y ∈ lwG) (hdg : decode cc pc = .ok (.invokevirtual index, 3)) (hst : st = As.reverse ++ .ref (zC + 0) :: rest) (hn : As.length = n) (hsz : ls.size = nL) (hroom : (rest.map fun v => v.category).sum ≤ 8) (hR : rm.frames + 1 ≤ R.frames ∧ 8 + (maxL + 11) + rm.locals ≤ R.locals) (h0 : rm.cells = 0 ∧ rm.slots = 0) (hc : cells ≤ R.cells ∧ slots ≤ R.slots)
    (kk : ∀ (H1 : Heap) (locs1 : List Loc), inR r → LStt E0 zC zR zoL zoD zE M' Mr fL fD s H1 locs1 → W p l e R s m args below meth c H1 locs1 cells slots Q (F0 m (pc + 3) ls (.int (jI r) :: rest))) : W p l e R s m args below meth c H locs cells slots Q (F0 m pc ls st) := by
  have rc : ∃ cell : Cell, H[zC + 0]? = some cell ∧ cell.vm.isStatics = false ∧ s.vm.findClass "NewsReel" = some cell.cls := va_recv C.2.1 hS.1 jc10.1 (q0 := 0) (ci := 10) (by rw [Wd_get (by decide), show LyC.2 0 = (10, 0) from by decide +kernel]; rfl)
  refine va_calli (va_runV (As := As) (rest := rest) C.1 (ct (eRg E0 (PC zC zE))) ⟨callB_of n C.1.2.2.2.2 (good_G jy.2.2.2.1) rfl rfl rfl (C.1.2.2.2.2 _ jy.2.2.1) (C.1.2.2.2.2 _ hlink) jy.2.2.2.2 hR, C.1.2.2.2.2 _ jy.1, C.1.2.2.2.2 _ jy.2.1⟩ ⟨jPre_blind, by rw [hyc]; exact rc, fun U hU hW => la_pC C A hS _ hU hW⟩ rfl hn hsz hst (lv_room hroom) hdg (by rw [h0.1, h0.2]; exact hc)) hS.2.2.2.2.1 (fun q _ h => la_PC A h) (fun q h => la_PC A h) (fun v u t H1 locs1 ht hvm hw hB hz1 hk1 hS1 => ?_)
  obtain ⟨rfl, hr, hMk⟩ := hw
  have hB : va_P (eD E0) vwCl (Wd (eC E0) zC LyC M') t.heap := hB
  rw [ht] at hB
  rw [h0.1, h0.2]
  exact kk H1 locs1 hr (ls_C A hS hB hk1 hz1 hS1 hMk)
set_option maxHeartbeats 4000000 in
theorem rl_CF (C : Cx E0 p c cc nL s args own m) (A : LAt E0 b L xs zC zR zoL zoD zE s) (hS : LStt E0 zC zR zoL zoD zE Mc Mr fL fD s H locs) {y : MethodName} {bytes : ByteArray} {maxL n index : Nat} {ret : Option FieldType} {rm : Room} {As : List Value} {st : List Value} {r : UInt32} {M' : Mem} (ct : ∀ E' : jE, CtF l y bytes maxL ret rm E' zC LyC (.ref (zC + 0) :: As) Mc r M') (jy : jYV y bytes maxL ret n) (hyc : y.cls = "NewsReel") (hlink : Cond.methodLink own index y ∈ lwG) (hdg : decode cc pc = .ok (.invokevirtual index, 3)) (hst : st = As.reverse ++ .ref (zC + 0) :: rest) (hn : As.length = n) (hsz : ls.size = nL) (hroom : (rest.map fun v => v.category).sum ≤ 8) (hR : rm.frames + 1 ≤ R.frames ∧ 8 + (maxL + 11) + rm.locals ≤ R.locals) (h0 : rm.cells = 0 ∧ rm.slots = 0) (hc : cells ≤ R.cells ∧ slots ≤ R.slots)
    (kk : ∀ (H1 : Heap) (locs1 : List Loc), LStt E0 zC zR zoL zoD zE M' Mr fL fD s H1 locs1 → W p l e R s m args below meth c H1 locs1 cells slots Q (F0 m (pc + 3) ls (.float r :: rest))) : W p l e R s m args below meth c H locs cells slots Q (F0 m pc ls st) := by
  have rc : ∃ cell : Cell, H[zC + 0]? = some cell ∧ cell.vm.isStatics = false ∧ s.vm.findClass "NewsReel" = some cell.cls := va_recv C.2.1 hS.1 jc10.1 (q0 := 0) (ci := 10) (by rw [Wd_get (by decide), show LyC.2 0 = (10, 0) from by decide +kernel]; rfl)
  refine va_callf (va_runV (As := As) (rest := rest) C.1 (ct (eRg E0 (PC zC zE))) ⟨callB_of n C.1.2.2.2.2 (good_G jy.2.2.2.1) rfl rfl rfl (C.1.2.2.2.2 _ jy.2.2.1) (C.1.2.2.2.2 _ hlink) jy.2.2.2.2 hR, C.1.2.2.2.2 _ jy.1, C.1.2.2.2.2 _ jy.2.1⟩ ⟨jPre_blind, by rw [hyc]; exact rc, fun U hU hW => la_pC C A hS _ hU hW⟩ rfl hn hsz hst (lv_room hroom) hdg (by rw [h0.1, h0.2]; exact hc)) hS.2.2.2.2.1 (fun q _ h => la_PC A h) (fun q h => la_PC A h) (fun v u t H1 locs1 ht hvm hw hB hz1 hk1 hS1 => ?_)
  obtain ⟨rfl, hMk⟩ := hw
  have hB : va_P (eD E0) vwCl (Wd (eC E0) zC LyC M') t.heap := hB
  rw [ht] at hB
  rw [h0.1, h0.2]
  exact kk H1 locs1 (ls_C A hS hB hk1 hz1 hS1 hMk)
set_option maxHeartbeats 4000000 in
theorem rl_RI (C : Cx E0 p c cc nL s args own m) (A : LAt E0 b L xs zC zR zoL zoD zE s) (hS : LStt E0 zC zR zoL zoD zE Mc Mr fL fD s H locs) {y : MethodName} {bytes : ByteArray} {maxL n index : Nat} {ret : Option FieldType} {rm : Room} {As : List Value} {st : List Value} {r : Int} {M' : Mem} (ct : ∀ E' : jE, CtI l y bytes maxL ret rm E' zR LyR (.ref (zR + 0) :: As) Mr r M') (jy : jYV y bytes maxL ret n) (hyc : y.cls = "NewsReelModel") (hlink : Cond.methodLink own index y ∈ lwG) (hdg : decode cc pc = .ok (.invokevirtual index, 3)) (hst : st = As.reverse ++ .ref (zR + 0) :: rest) (hn : As.length = n) (hsz : ls.size = nL) (hroom : (rest.map fun v => v.category).sum ≤ 8) (hR : rm.frames + 1 ≤ R.frames ∧ 8 + (maxL + 11) + rm.locals ≤ R.locals) (h0 : rm.cells = 0 ∧ rm.slots = 0) (hc : cells ≤ R.cells ∧ slots ≤ R.slots)
    (kk : ∀ (H1 : Heap) (locs1 : List Loc), inR r → LStt E0 zC zR zoL zoD zE Mc M' fL fD s H1 locs1 → W p l e R s m args below meth c H1 locs1 cells slots Q (F0 m (pc + 3) ls (.int (jI r) :: rest))) : W p l e R s m args below meth c H locs cells slots Q (F0 m pc ls st) := by
  have rc : ∃ cell : Cell, H[zR + 0]? = some cell ∧ cell.vm.isStatics = false ∧ s.vm.findClass "NewsReelModel" = some cell.cls := va_recv C.2.1 hS.2.1 jc11.1 (q0 := 0) (ci := 11) (by rw [Wd_get (by decide), show LyR.2 0 = (11, 0) from by decide +kernel]; rfl)
  refine va_calli (va_runV (As := As) (rest := rest) C.1 (ct (eRg E0 (PR zR zE))) ⟨callB_of n C.1.2.2.2.2 (good_G jy.2.2.2.1) rfl rfl rfl (C.1.2.2.2.2 _ jy.2.2.1) (C.1.2.2.2.2 _ hlink) jy.2.2.2.2 hR, C.1.2.2.2.2 _ jy.1, C.1.2.2.2.2 _ jy.2.1⟩ ⟨jPre_blind, by rw [hyc]; exact rc, fun U hU hW => la_pR C A hS _ hU hW⟩ rfl hn hsz hst (lv_room hroom) hdg (by rw [h0.1, h0.2]; exact hc)) hS.2.2.2.2.1 (fun q _ h => la_PR A h) (fun q h => la_PR A h) (fun v u t H1 locs1 ht hvm hw hB hz1 hk1 hS1 => ?_)
  obtain ⟨rfl, hr, hMk⟩ := hw
  have hB : va_P (eD E0) vwCl (Wd (eC E0) zR LyR M') t.heap := hB
  rw [ht] at hB
  rw [h0.1, h0.2]
  exact kk H1 locs1 hr (ls_R A hS hB hk1 hz1 hS1 hMk)
set_option maxHeartbeats 4000000 in
theorem rl_RV (C : Cx E0 p c cc nL s args own m) (A : LAt E0 b L xs zC zR zoL zoD zE s) (hS : LStt E0 zC zR zoL zoD zE Mc Mr fL fD s H locs) {y : MethodName} {bytes : ByteArray} {maxL n index : Nat} {ret : Option FieldType} {rm : Room} {As : List Value} {st : List Value} {M' : Mem} (ct : ∀ E' : jE, CtV l y bytes maxL ret rm E' zR LyR (.ref (zR + 0) :: As) Mr M') (jy : jYV y bytes maxL ret n) (hyc : y.cls = "NewsReelModel") (hlink : Cond.methodLink own index y ∈ lwG) (hdg : decode cc pc = .ok (.invokevirtual index, 3)) (hst : st = As.reverse ++ .ref (zR + 0) :: rest) (hn : As.length = n) (hsz : ls.size = nL) (hroom : (rest.map fun v => v.category).sum ≤ 8) (hR : rm.frames + 1 ≤ R.frames ∧ 8 + (maxL + 11) + rm.locals ≤ R.locals) (h0 : rm.cells = 0 ∧ rm.slots = 0) (hc : cells ≤ R.cells ∧ slots ≤ R.slots)
    (kk : ∀ (H1 : Heap) (locs1 : List Loc), LStt E0 zC zR zoL zoD zE Mc M' fL fD s H1 locs1 → W p l e R s m args below meth c H1 locs1 cells slots Q (F0 m (pc + 3) ls rest)) : W p l e R s m args below meth c H locs cells slots Q (F0 m pc ls st) := by
  have rc : ∃ cell : Cell, H[zR + 0]? = some cell ∧ cell.vm.isStatics = false ∧ s.vm.findClass "NewsReelModel" = some cell.cls := va_recv C.2.1 hS.2.1 jc11.1 (q0 := 0) (ci := 11) (by rw [Wd_get (by decide), show LyR.2 0 = (11, 0) from by decide +kernel]; rfl)
  refine va_callv (va_runV (As := As) (rest := rest) C.1 (ct (eRg E0 (PR zR zE))) ⟨callB_of n C.1.2.2.2.2 (good_G jy.2.2.2.1) rfl rfl rfl (C.1.2.2.2.2 _ jy.2.2.1) (C.1.2.2.2.2 _ hlink) jy.2.2.2.2 hR, C.1.2.2.2.2 _ jy.1, C.1.2.2.2.2 _ jy.2.1⟩ ⟨jPre_blind, by rw [hyc]; exact rc, fun U hU hW => la_pR C A hS _ hU hW⟩ rfl hn hsz hst (lv_room hroom) hdg (by rw [h0.1, h0.2]; exact hc)) hS.2.2.2.2.1 (fun q _ h => la_PR A h) (fun q h => la_PR A h) (fun u t H1 locs1 ht hvm hw hB hz1 hk1 hS1 => ?_)
  have hMk := hw
  have hB : va_P (eD E0) vwCl (Wd (eC E0) zR LyR M') t.heap := hB
  rw [ht] at hB
  rw [h0.1, h0.2]
  exact kk H1 locs1 (ls_R A hS hB hk1 hz1 hS1 hMk)
set_option maxHeartbeats 4000000 in
theorem rl_RD (C : Cx E0 p c cc nL s args own m) (A : LAt E0 b L xs zC zR zoL zoD zE s) (hS : LStt E0 zC zR zoL zoD zE Mc Mr fL fD s H locs) {y : MethodName} {bytes : ByteArray} {maxL n index : Nat} {ret : Option FieldType} {rm : Room} {As : List Value} {st : List Value} {r : UInt64} {M' : Mem} (ct : ∀ E' : jE, CtD l y bytes maxL ret rm E' zR LyR (.ref (zR + 0) :: As) Mr r M') (jy : jYV y bytes maxL ret n) (hyc : y.cls = "NewsReelModel") (hlink : Cond.methodLink own index y ∈ lwG) (hdg : decode cc pc = .ok (.invokevirtual index, 3)) (hst : st = As.reverse ++ .ref (zR + 0) :: rest) (hn : As.length = n) (hsz : ls.size = nL) (hroom : (rest.map fun v => v.category).sum ≤ 8) (hR : rm.frames + 1 ≤ R.frames ∧ 8 + (maxL + 11) + rm.locals ≤ R.locals) (h0 : rm.cells = 0 ∧ rm.slots = 0) (hc : cells ≤ R.cells ∧ slots ≤ R.slots)
    (kk : ∀ (H1 : Heap) (locs1 : List Loc), LStt E0 zC zR zoL zoD zE Mc M' fL fD s H1 locs1 → W p l e R s m args below meth c H1 locs1 cells slots Q (F0 m (pc + 3) ls (.double r :: rest))) : W p l e R s m args below meth c H locs cells slots Q (F0 m pc ls st) := by
  have rc : ∃ cell : Cell, H[zR + 0]? = some cell ∧ cell.vm.isStatics = false ∧ s.vm.findClass "NewsReelModel" = some cell.cls := va_recv C.2.1 hS.2.1 jc11.1 (q0 := 0) (ci := 11) (by rw [Wd_get (by decide), show LyR.2 0 = (11, 0) from by decide +kernel]; rfl)
  refine va_calld (va_runV (As := As) (rest := rest) C.1 (ct (eRg E0 (PR zR zE))) ⟨callB_of n C.1.2.2.2.2 (good_G jy.2.2.2.1) rfl rfl rfl (C.1.2.2.2.2 _ jy.2.2.1) (C.1.2.2.2.2 _ hlink) jy.2.2.2.2 hR, C.1.2.2.2.2 _ jy.1, C.1.2.2.2.2 _ jy.2.1⟩ ⟨jPre_blind, by rw [hyc]; exact rc, fun U hU hW => la_pR C A hS _ hU hW⟩ rfl hn hsz hst (lv_room hroom) hdg (by rw [h0.1, h0.2]; exact hc)) hS.2.2.2.2.1 (fun q _ h => la_PR A h) (fun q h => la_PR A h) (fun v u t H1 locs1 ht hvm hw hB hz1 hk1 hS1 => ?_)
  obtain ⟨rfl, hMk⟩ := hw
  have hB : va_P (eD E0) vwCl (Wd (eC E0) zR LyR M') t.heap := hB
  rw [ht] at hB
  rw [h0.1, h0.2]
  exact kk H1 locs1 (ls_R A hS hB hk1 hz1 hS1 hMk)
set_option maxHeartbeats 4000000 in
theorem rl_RF (C : Cx E0 p c cc nL s args own m) (A : LAt E0 b L xs zC zR zoL zoD zE s) (hS : LStt E0 zC zR zoL zoD zE Mc Mr fL fD s H locs) {y : MethodName} {bytes : ByteArray} {maxL n index : Nat} {ret : Option FieldType} {rm : Room} {As : List Value} {st : List Value} {r : UInt32} {M' : Mem} (ct : ∀ E' : jE, CtF l y bytes maxL ret rm E' zR LyR (.ref (zR + 0) :: As) Mr r M') (jy : jYV y bytes maxL ret n) (hyc : y.cls = "NewsReelModel") (hlink : Cond.methodLink own index y ∈ lwG) (hdg : decode cc pc = .ok (.invokevirtual index, 3)) (hst : st = As.reverse ++ .ref (zR + 0) :: rest) (hn : As.length = n) (hsz : ls.size = nL) (hroom : (rest.map fun v => v.category).sum ≤ 8) (hR : rm.frames + 1 ≤ R.frames ∧ 8 + (maxL + 11) + rm.locals ≤ R.locals) (h0 : rm.cells = 0 ∧ rm.slots = 0) (hc : cells ≤ R.cells ∧ slots ≤ R.slots)
    (kk : ∀ (H1 : Heap) (locs1 : List Loc), LStt E0 zC zR zoL zoD zE Mc M' fL fD s H1 locs1 → W p l e R s m args below meth c H1 locs1 cells slots Q (F0 m (pc + 3) ls (.float r :: rest))) : W p l e R s m args below meth c H locs cells slots Q (F0 m pc ls st) := by
  have rc : ∃ cell : Cell, H[zR + 0]? = some cell ∧ cell.vm.isStatics = false ∧ s.vm.findClass "NewsReelModel" = some cell.cls := va_recv C.2.1 hS.2.1 jc11.1 (q0 := 0) (ci := 11) (by rw [Wd_get (by decide), show LyR.2 0 = (11, 0) from by decide +kernel]; rfl)
  refine va_callf (va_runV (As := As) (rest := rest) C.1 (ct (eRg E0 (PR zR zE))) ⟨callB_of n C.1.2.2.2.2 (good_G jy.2.2.2.1) rfl rfl rfl (C.1.2.2.2.2 _ jy.2.2.1) (C.1.2.2.2.2 _ hlink) jy.2.2.2.2 hR, C.1.2.2.2.2 _ jy.1, C.1.2.2.2.2 _ jy.2.1⟩ ⟨jPre_blind, by rw [hyc]; exact rc, fun U hU hW => la_pR C A hS _ hU hW⟩ rfl hn hsz hst (lv_room hroom) hdg (by rw [h0.1, h0.2]; exact hc)) hS.2.2.2.2.1 (fun q _ h => la_PR A h) (fun q h => la_PR A h) (fun v u t H1 locs1 ht hvm hw hB hz1 hk1 hS1 => ?_)
  obtain ⟨rfl, hMk⟩ := hw
  have hB : va_P (eD E0) vwCl (Wd (eC E0) zR LyR M') t.heap := hB
  rw [ht] at hB
  rw [h0.1, h0.2]
  exact kk H1 locs1 (ls_R A hS hB hk1 hz1 hS1 hMk)
set_option maxHeartbeats 4000000 in
theorem rl_HL (C : Cx E0 p c cc nL s args own m) (A : LAt E0 b L xs zC zR zoL zoD zE s) (hS : LStt E0 zC zR zoL zoD zE Mc Mr fL fD s H locs) {y : MethodName} {bytes : ByteArray} {maxL n index : Nat} {hh : List (Nat × Nat × Nat × Nat)} {rm : Room} {As st : List Value} {r : Int} {M' : Mem} {f1 : Nat → Int64} (ct : CtW l y bytes maxL hh rm (eRg E0 (PO zC zoL zE)) zC zoL (outL E0 fL) As Mc r (outL E0 f1) M') (hcw : Cond.codeWith y bytes maxL (some .int) hh ∈ lwG) (hst0 : Cond.static y ∈ lwG) (hini : Cond.initialized y.cls ∈ lwG) (hd : y.cls ≠ "java/lang/invoke/MethodHandle" ∧ y.cls ≠ "java/lang/invoke/VarHandle" ∧ (parseMethodDescriptor y.desc).map (fun d => d.parameters.length) = some n) (hlink : Cond.methodLink own index y ∈ lwG) (hdg : decode cc pc = .ok (.invokestatic index, 3)) (hst : st = As.reverse ++ rest) (hn : As.length = n) (hsz : ls.size = nL) (hroom : (rest.map fun v => v.category).sum ≤ 8) (hR : rm.frames + 1 ≤ R.frames ∧ 8 + (maxL + 11) + rm.locals ≤ R.locals) (hc : cells + rm.cells ≤ R.cells ∧ slots + rm.slots ≤ R.slots)
    (kk : ∀ (H1 : Heap) (locs1 : List Loc), inR r → LStt E0 zC zR zoL zoD zE M' Mr f1 fD s H1 locs1 → W p l e R s m args below meth c H1 locs1 (cells + rm.cells) (slots + rm.slots) Q (F0 m (pc + 3) ls (.int (jI r) :: rest))) : W p l e R s m args below meth c H locs cells slots Q (F0 m pc ls st) := by
  have hPO : ∀ {q : Nat}, PO zC zoL zE q → eA E0 q := fun {q} h => la_A0 A (by obtain ⟨a1, a2, a3, a4, a5, a6, a7, a8⟩ := A; rcases h with h | h | h <;> omega)
  have hsig : ∀ sig, parseMethodDescriptor y.desc = some sig → n = sig.parameters.length := fun sig h => by
    have h2 := hd.2.2
    rw [h] at h2
    exact (Option.some.inj h2).symm
  have cw : vx_CSW R s args own index y bytes maxL (some .int) hh (.codeWith y bytes maxL (some .int) hh :: lwG) rm rm.cells rm.slots n := ⟨⟨rfl, rfl, hR.1, hR.2, pay_in C.1.2.2.2.2 (good_G hcw), List.mem_cons_self⟩, C.1.2.2.2.2 _ hcw, C.1.2.2.2.2 _ hini, ⟨hd.1, hd.2.1⟩, hsig, C.1.2.2.2.2 _ hlink, C.1.2.2.2.2 _ hst0⟩
  refine vx_calli (vx_runSX (As := As) (rest := rest) C.1 ct cw ⟨jPreL_blind, fun U hU hW => ⟨rfl, ?_, va_K.moved hW.alike C.2.1, la_sta C A hS (fun q h => by obtain ⟨a1, a2, a3, a4, a5, a6, a7, a8⟩ := A; rcases h with h | h | h <;> omega) hU hW, fun q hq => Or.inr (Or.inr (by rw [hU] at hq; exact Nat.le_trans hS.2.2.2.2.2.2.2 hq)), hS.2.2.2.2.2.1, fun k hk => Or.inl ⟨by omega, by have : k < 314 := hk; omega⟩, Or.inr (Or.inl rfl), fun k hk => by obtain ⟨a1, a2, a3, a4, a5, a6, a7, a8⟩ := A; have : k < 314 := hk; omega, A.2.2.2.2.2.2.2.1.warm hW⟩⟩ rfl hn hsz hst (lv_room hroom) hdg hc) hS.2.2.2.2.1 (fun q _ h => hPO h) (fun q h => hPO h) (fun q _ h => hPO h) (fun En ce q9 u t H1 locs1 ht1 hvm hp hB hz1 hk1 hS hce hcv hcl => hp.elim) (fun v u t H1 locs1 ht hvm hw hB hz1 hk1 hS1 => ?_)
  · rw [hU]; exact wd_cons hS.2.2.1 hS.1
  · obtain ⟨rfl, hr, hMk⟩ := hw
    have hB : va_P (eD E0) vwCl ((zoL, (outL E0 f1)) :: Wd (eC E0) zC LyC M') t.heap := hB
    rw [ht] at hB
    have hB : va_at (eD E0) vwCl (zoL, (outL E0 f1)) H1 ∧ va_P (eD E0) vwCl (Wd (eC E0) zC LyC M') H1 := ⟨hB 0 _ rfl, wd_tail hB⟩
    obtain ⟨a1, a2, a3, a4, a5, a6, a7, a8, a9⟩ := A
    obtain ⟨s1, s2, s3, s4, s5, s6, s7, s8⟩ := hS
    exact kk H1 locs1 hr ⟨hB.2, la_wd s2 hk1 (fun k hk2 h => by have : k < 30 := hk2; rcases h with h | h | h <;> omega), hB.1, la_at s4 hk1 (fun h => by rcases h with h | h | h <;> omega), hS1, hMk, s7, by omega⟩
set_option maxHeartbeats 4000000 in
theorem rl_HD (C : Cx E0 p c cc nL s args own m) (A : LAt E0 b L xs zC zR zoL zoD zE s) (hS : LStt E0 zC zR zoL zoD zE Mc Mr fL fD s H locs) {y : MethodName} {bytes : ByteArray} {maxL n index : Nat} {hh : List (Nat × Nat × Nat × Nat)} {rm : Room} {As st : List Value} {r : Int} {M' : Mem} {f1 : Nat → UInt64} (ct : CtW l y bytes maxL hh rm (eRg E0 (PO zC zoD zE)) zC zoD (outD E0 fD) As Mc r (outD E0 f1) M') (hcw : Cond.codeWith y bytes maxL (some .int) hh ∈ lwG) (hst0 : Cond.static y ∈ lwG) (hini : Cond.initialized y.cls ∈ lwG) (hd : y.cls ≠ "java/lang/invoke/MethodHandle" ∧ y.cls ≠ "java/lang/invoke/VarHandle" ∧ (parseMethodDescriptor y.desc).map (fun d => d.parameters.length) = some n) (hlink : Cond.methodLink own index y ∈ lwG) (hdg : decode cc pc = .ok (.invokestatic index, 3)) (hst : st = As.reverse ++ rest) (hn : As.length = n) (hsz : ls.size = nL) (hroom : (rest.map fun v => v.category).sum ≤ 8) (hR : rm.frames + 1 ≤ R.frames ∧ 8 + (maxL + 11) + rm.locals ≤ R.locals) (hc : cells + rm.cells ≤ R.cells ∧ slots + rm.slots ≤ R.slots)
    (kk : ∀ (H1 : Heap) (locs1 : List Loc), inR r → LStt E0 zC zR zoL zoD zE M' Mr fL f1 s H1 locs1 → W p l e R s m args below meth c H1 locs1 (cells + rm.cells) (slots + rm.slots) Q (F0 m (pc + 3) ls (.int (jI r) :: rest))) : W p l e R s m args below meth c H locs cells slots Q (F0 m pc ls st) := by
  have hPO : ∀ {q : Nat}, PO zC zoD zE q → eA E0 q := fun {q} h => la_A0 A (by obtain ⟨a1, a2, a3, a4, a5, a6, a7, a8⟩ := A; rcases h with h | h | h <;> omega)
  have hsig : ∀ sig, parseMethodDescriptor y.desc = some sig → n = sig.parameters.length := fun sig h => by
    have h2 := hd.2.2
    rw [h] at h2
    exact (Option.some.inj h2).symm
  have cw : vx_CSW R s args own index y bytes maxL (some .int) hh (.codeWith y bytes maxL (some .int) hh :: lwG) rm rm.cells rm.slots n := ⟨⟨rfl, rfl, hR.1, hR.2, pay_in C.1.2.2.2.2 (good_G hcw), List.mem_cons_self⟩, C.1.2.2.2.2 _ hcw, C.1.2.2.2.2 _ hini, ⟨hd.1, hd.2.1⟩, hsig, C.1.2.2.2.2 _ hlink, C.1.2.2.2.2 _ hst0⟩
  refine vx_calli (vx_runSX (As := As) (rest := rest) C.1 ct cw ⟨jPreL_blind, fun U hU hW => ⟨rfl, ?_, va_K.moved hW.alike C.2.1, la_sta C A hS (fun q h => by obtain ⟨a1, a2, a3, a4, a5, a6, a7, a8⟩ := A; rcases h with h | h | h <;> omega) hU hW, fun q hq => Or.inr (Or.inr (by rw [hU] at hq; exact Nat.le_trans hS.2.2.2.2.2.2.2 hq)), hS.2.2.2.2.2.1, fun k hk => Or.inl ⟨by omega, by have : k < 314 := hk; omega⟩, Or.inr (Or.inl rfl), fun k hk => by obtain ⟨a1, a2, a3, a4, a5, a6, a7, a8⟩ := A; have : k < 314 := hk; omega, A.2.2.2.2.2.2.2.1.warm hW⟩⟩ rfl hn hsz hst (lv_room hroom) hdg hc) hS.2.2.2.2.1 (fun q _ h => hPO h) (fun q h => hPO h) (fun q _ h => hPO h) (fun En ce q9 u t H1 locs1 ht1 hvm hp hB hz1 hk1 hS hce hcv hcl => hp.elim) (fun v u t H1 locs1 ht hvm hw hB hz1 hk1 hS1 => ?_)
  · rw [hU]; exact wd_cons hS.2.2.2.1 hS.1
  · obtain ⟨rfl, hr, hMk⟩ := hw
    have hB : va_P (eD E0) vwCl ((zoD, (outD E0 f1)) :: Wd (eC E0) zC LyC M') t.heap := hB
    rw [ht] at hB
    have hB : va_at (eD E0) vwCl (zoD, (outD E0 f1)) H1 ∧ va_P (eD E0) vwCl (Wd (eC E0) zC LyC M') H1 := ⟨hB 0 _ rfl, wd_tail hB⟩
    obtain ⟨a1, a2, a3, a4, a5, a6, a7, a8, a9⟩ := A
    obtain ⟨s1, s2, s3, s4, s5, s6, s7, s8⟩ := hS
    exact kk H1 locs1 hr ⟨hB.2, la_wd s2 hk1 (fun k hk2 h => by have : k < 30 := hk2; rcases h with h | h | h <;> omega), la_at s3 hk1 (fun h => by rcases h with h | h | h <;> omega), hB.1, hS1, hMk, s7, by omega⟩
set_option maxHeartbeats 4000000 in
theorem rl_HN (C : Cx E0 p c cc nL s args own m) (A : LAt E0 b L xs zC zR zoL zoD zE s) (hS : LStt E0 zC zR zoL zoD zE Mc Mr fL fD s H locs) {y : MethodName} {bytes : ByteArray} {maxL n index : Nat} {hh : List (Nat × Nat × Nat × Nat)} {rm : Room} {As st : List Value} {r : Int} {M' : Mem} (ct : CtW l y bytes maxL hh rm (eRg E0 (PO zC zoL zE)) zC zoL (outL E0 fL) As Mc r (outL E0 fL) M') (hcw : Cond.codeWith y bytes maxL (some .int) hh ∈ lwG) (hst0 : Cond.static y ∈ lwG) (hini : Cond.initialized y.cls ∈ lwG) (hd : y.cls ≠ "java/lang/invoke/MethodHandle" ∧ y.cls ≠ "java/lang/invoke/VarHandle" ∧ (parseMethodDescriptor y.desc).map (fun d => d.parameters.length) = some n) (hlink : Cond.methodLink own index y ∈ lwG) (hdg : decode cc pc = .ok (.invokestatic index, 3)) (hst : st = As.reverse ++ rest) (hn : As.length = n) (hsz : ls.size = nL) (hroom : (rest.map fun v => v.category).sum ≤ 8) (hR : rm.frames + 1 ≤ R.frames ∧ 8 + (maxL + 11) + rm.locals ≤ R.locals) (hc : cells + rm.cells ≤ R.cells ∧ slots + rm.slots ≤ R.slots)
    (kk : ∀ (H1 : Heap) (locs1 : List Loc), inR r → LStt E0 zC zR zoL zoD zE M' Mr fL fD s H1 locs1 → W p l e R s m args below meth c H1 locs1 (cells + rm.cells) (slots + rm.slots) Q (F0 m (pc + 3) ls (.int (jI r) :: rest))) : W p l e R s m args below meth c H locs cells slots Q (F0 m pc ls st) := by
  have hPO : ∀ {q : Nat}, PO zC zoL zE q → eA E0 q := fun {q} h => la_A0 A (by obtain ⟨a1, a2, a3, a4, a5, a6, a7, a8⟩ := A; rcases h with h | h | h <;> omega)
  have hsig : ∀ sig, parseMethodDescriptor y.desc = some sig → n = sig.parameters.length := fun sig h => by
    have h2 := hd.2.2
    rw [h] at h2
    exact (Option.some.inj h2).symm
  have cw : vx_CSW R s args own index y bytes maxL (some .int) hh (.codeWith y bytes maxL (some .int) hh :: lwG) rm rm.cells rm.slots n := ⟨⟨rfl, rfl, hR.1, hR.2, pay_in C.1.2.2.2.2 (good_G hcw), List.mem_cons_self⟩, C.1.2.2.2.2 _ hcw, C.1.2.2.2.2 _ hini, ⟨hd.1, hd.2.1⟩, hsig, C.1.2.2.2.2 _ hlink, C.1.2.2.2.2 _ hst0⟩
  refine vx_calli (vx_runSX (As := As) (rest := rest) C.1 ct cw ⟨jPreL_blind, fun U hU hW => ⟨rfl, ?_, va_K.moved hW.alike C.2.1, la_sta C A hS (fun q h => by obtain ⟨a1, a2, a3, a4, a5, a6, a7, a8⟩ := A; rcases h with h | h | h <;> omega) hU hW, fun q hq => Or.inr (Or.inr (by rw [hU] at hq; exact Nat.le_trans hS.2.2.2.2.2.2.2 hq)), hS.2.2.2.2.2.1, fun k hk => Or.inl ⟨by omega, by have : k < 314 := hk; omega⟩, Or.inr (Or.inl rfl), fun k hk => by obtain ⟨a1, a2, a3, a4, a5, a6, a7, a8⟩ := A; have : k < 314 := hk; omega, A.2.2.2.2.2.2.2.1.warm hW⟩⟩ rfl hn hsz hst (lv_room hroom) hdg hc) hS.2.2.2.2.1 (fun q _ h => hPO h) (fun q h => hPO h) (fun q _ h => hPO h) (fun En ce q9 u t H1 locs1 ht1 hvm hp hB hz1 hk1 hS hce hcv hcl => hp.elim) (fun v u t H1 locs1 ht hvm hw hB hz1 hk1 hS1 => ?_)
  · rw [hU]; exact wd_cons hS.2.2.1 hS.1
  · obtain ⟨rfl, hr, hMk⟩ := hw
    have hB : va_P (eD E0) vwCl ((zoL, (outL E0 fL)) :: Wd (eC E0) zC LyC M') t.heap := hB
    rw [ht] at hB
    have hB : va_at (eD E0) vwCl (zoL, (outL E0 fL)) H1 ∧ va_P (eD E0) vwCl (Wd (eC E0) zC LyC M') H1 := ⟨hB 0 _ rfl, wd_tail hB⟩
    obtain ⟨a1, a2, a3, a4, a5, a6, a7, a8, a9⟩ := A
    obtain ⟨s1, s2, s3, s4, s5, s6, s7, s8⟩ := hS
    exact kk H1 locs1 hr ⟨hB.2, la_wd s2 hk1 (fun k hk2 h => by have : k < 30 := hk2; rcases h with h | h | h <;> omega), hB.1, la_at s4 hk1 (fun h => by rcases h with h | h | h <;> omega), hS1, hMk, s7, by omega⟩
/-! the law's own instructions -/
theorem r_sld (C : Cx E0 p c cc nL s args own m) (A : LAt E0 b L xs zC zR zoL zoD zE s) (hS : LStt E0 zC zR zoL zoD zE Mc Mr fL fD s H locs) {i v : Int} (hi : inR i) (h : 0 ≤ i ∧ i < (L : Int)) (hv : xs i.toNat = jI v) (hdg : decode cc pc = .ok (.iaload, 1))
    (kk : W p l e R s m args below meth c H locs cells slots Q (F0 m (pc + 1) ls (.int (jI v) :: rest))) : W p l e R s m args below meth c H locs cells slots Q (F0 m pc ls (.int (jI i) :: .ref b :: rest)) :=
  va_sld C.1.1 C.1.2.1 A.1 A.2.1 (fun h => by have := (A.2.2.2.2.2.2.2.2 b).mp h; have := A.2.1; omega) hS.2.2.2.2.1 (jI_in h hi) hdg (by rw [jI_nat hi, hv]; exact kk)
theorem r_lald (C : Cx E0 p c cc nL s args own m) (hS : LStt E0 zC zR zoL zoD zE Mc Mr fL fD s H locs) (hdg : decode cc pc = .ok (.laload, 1))
    (kk : W p l e R s m args below meth c H locs cells slots Q (F0 m (pc + 1) ls (.long (fL 0) :: rest))) : W p l e R s m args below meth c H locs cells slots Q (F0 m pc ls (.int (jI 0) :: .ref zoL :: rest)) :=
  va_lald C.1.1 C.1.2.1 C.2.1 (ws := [(zoL, outL E0 fL)]) (fun k q hk => by cases k with | zero => cases hk; exact hS.2.2.1 | succ k => exact nomatch hk) 0 4 rfl rfl (jI_in (n := 1) ⟨by decide, by decide⟩ ⟨by decide, by decide⟩) hdg kk
theorem r_dald (C : Cx E0 p c cc nL s args own m) (hS : LStt E0 zC zR zoL zoD zE Mc Mr fL fD s H locs) (hdg : decode cc pc = .ok (.daload, 1))
    (kk : W p l e R s m args below meth c H locs cells slots Q (F0 m (pc + 1) ls (.double (fD 0) :: rest))) : W p l e R s m args below meth c H locs cells slots Q (F0 m pc ls (.int (jI 0) :: .ref zoD :: rest)) :=
  va_dald C.1.1 C.1.2.1 C.2.1 (ws := [(zoD, outD E0 fD)]) (fun k q hk => by cases k with | zero => cases hk; exact hS.2.2.2.1 | succ k => exact nomatch hk) 0 5 rfl rfl (jI_in (n := 1) ⟨by decide, by decide⟩ ⟨by decide, by decide⟩) hdg kk
end JL
