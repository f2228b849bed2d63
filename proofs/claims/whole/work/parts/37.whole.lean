/-! THE CLAIM OUT OF ONE WALK OF THE LAW'S BODY. Your part is whole_start (and what it stands on); all else here is the same for every law, but numbers. -/
def R_law : String := "NewsReelLaw"
def lw_P (b : Addr) (xs : List Int32) (args : Array Value) (s : State) : Prop := args = #[.ref b] ∧ s.IntsAt b xs ∧ xs.length ≤ 2048 ∧ (Jvm.Cond.and given_1 narrow_1).before args s = true
/-- what a walk over the start with the record d0 says of its end, said of the start itself -/
theorem lw_closed {s t : State} {o : Outcome} {d0 : Drawn} {L : List Loc} {k n : Nat} (hd0 : s.drawn.sameBut d0 lw_cs) (hv : ∃ v, o = .returned v) (hW : (s.setDrawn d0).WarmedH t.vm) (hs : (s.setDrawn d0).sameButNew ({ t with vm := s.vm } : State) L k n) : State.butDraws s t lw_cs (fun t1 => Framed s o t1 L k n) := by
  have h2 : t.drawn = d0 := congrArg State.drawn hs.1
  refine ⟨⟨hv, hW, State.sameButNew.setDrawn hs s.drawn⟩, ?_, by decide⟩
  rw [h2]
  exact hd0
def lw_Q (_ : Array Value) (s : State) (o : Outcome) (t : State) : Prop := o = .returned (some (.int 1)) ∧ State.butDraws s t lw_cs (fun t1 => Framed s o t1 [] 601024 7293034)
def lw_Z (below : List Frame) (a : Array Value) (s : State) : State → Prop := fun t => ∃ o, t.status = .running ∧ Ended t below o ∧ lw_Q a s o t
/-- the law's own end, with 1 on the stack, nothing written that was there before, its room as the claim has it; d0: the record of draws at this point (at the entry s.drawn: begin with 'refine W.base ?_' and 'have hd0 := Drawn.sameBut.refl s.drawn lw_cs') -/
theorem lw_ret {p : Program} {l : Launch} {e : Env} {s : State} {m : MethodId} {below : List Frame} {meth : Method} {c : Code} {b : Nat} {d0 : Drawn} (hd0 : s.drawn.sameBut d0 lw_cs) (hx : p.tables.exec = Jvm.exec) (hb : c.code = code) (hr : meth.sig.returnType = ret) (hlocks : meth.locks = false) {pc : Nat} {H : Heap} {ls : Array Slot} (hdg : decode code pc = .ok (.ireturn, 1)) : W p l e room_1 (s.setDrawn d0) m #[Value.ref b] below meth c H [] 601024 7293034 (lw_Z below #[Value.ref b] s) (F0 m pc ls [.int 1]) := by
  intro T hT X
  obtain ⟨fs, hret, hrun, hended, hW, hframe⟩ := X.leave (v := some (.int 1)) (hlocks := hlocks) (fun h => by rw [hr] at h; cases h)
  have hmeth' : T.vm.method? m = some meth := X.method'
  refine ⟨T.setFrames fs, ?_, .returned (some (.int 1)), hrun, hended, rfl, lw_closed hd0 ⟨_, rfl⟩ hW hframe⟩
  jvm_step X.here [X.here.top, hx, hb, hdg, hmeth', hr, ret, narrow_b1]
  (try refine ⟨rfl, ?_⟩); (try refine ⟨rfl, ?_⟩)
  first | (intro acts; rw [hret _ acts rfl rfl rfl]) | rw [hret _ _ rfl rfl rfl]
  exact Steps.refl _
/-- what holds at the law's entry: the machine, the code, the tables' words (any of lw_tbl by 'hts w (by decide +kernel)'), the script of L ints xs at the cell b, what the Statement gives of the start (any of its parts by flat_of_before) -/
def lw_At (p : Program) (s : State) (m : MethodId) (meth : Method) (c : Code) (b L : Nat) (xs : Nat → Int32) : Prop :=
  p.tables.exec = Jvm.exec ∧ c.code = code ∧ meth.sig.returnType = ret ∧ c.maxLocals = 10 ∧ s.vm.findClass R_law = some m.cls ∧ (∀ w ∈ lw_tbl, w.before #[Value.ref b] s = true) ∧ va_X b L xs s s.heap ∧ b < s.heap.size ∧ meth.locks = false ∧ (Jvm.Cond.and given_1 narrow_1).before #[Value.ref b] s = true
theorem wl_new1 : Cond.classLink RL 8 RX10 ∈ lwG := gmem 158 (by decide +kernel) (by decide +kernel)
theorem wl_new2 : Cond.classLink RL 90 RX11 ∈ lwG := gmem 1448 (by decide +kernel) (by decide +kernel)
theorem wl_ini1 : Cond.methodLink RL 89 yX10_init ∈ lwG := gmem 160 (by decide +kernel) (by decide +kernel)
theorem wl_ini2 : Cond.methodLink RL 92 yX11_init ∈ lwG := gmem 1450 (by decide +kernel) (by decide +kernel)
theorem gw_aL : Cond.arrayClass .long ∈ lwG := gmem 2185 (by decide +kernel) (by decide +kernel)
theorem gw_aD : Cond.arrayClass .double ∈ lwG := gmem 2186 (by decide +kernel) (by decide +kernel)
theorem st_flags {l : Launch} (h : l.flags = flags0) : l.stackTraces = false := by
  unfold Launch.stackTraces
  rw [h]
  decide +kernel
section JV
variable {p : Program} {l : Launch} {e : Env} {R : Room} {s : State} {m : MethodId} {args : Array Value} {below : List Frame} {meth : Method} {c : Code} {H : Heap} {locs : List Loc} {cells slots : Nat} {Q : State → Prop}
variable {cc : ByteArray} {nL : Nat} {own : String} {E0 : jE} {pc : Nat} {ls : Array Slot} {rest : List Value}
/-- a new cell: what was there stays -/
theorem vs_push {A : Nat → Prop} {H0 H1 : Heap} (hS : va_S A H0 H locs) (z1 : H1.size = H.size + 1) (o1 : ∀ q, q < H.size → H1[q]? = H[q]?) : va_S A H0 H1 locs :=
  ⟨Nat.le_trans hS.1 (by omega), fun q h1 h2 => (o1 q (Nat.lt_of_lt_of_le h1 hS.1)).trans (hS.2.1 q h1 h2), hS.2.2⟩
theorem r_newL (C : Cx E0 p c cc nL s args own m) (hc : cells + 1 ≤ R.cells) (hs : slots + 1 ≤ R.slots) (hdg : decode cc pc = .ok (.newarray .long, 2))
    (kk : ∀ H1 : Heap, va_at (eD E0) vwCl (H.size, outL E0 (fun _ => 0)) H1 → H1.size = H.size + 1 → (∀ q, q < H.size → H1[q]? = H[q]?) → W p l e R s m args below meth c H1 locs (cells + 1) (slots + 1) Q (F0 m (pc + 2) ls (.ref H.size :: rest))) : W p l e R s m args below meth c H locs cells slots Q (F0 m pc ls (.int (jI 1) :: rest)) := by
  refine va_newaK (atype := .long) (h := H.size) (N := 1) C.1.1 C.1.2.1 (C.1.2.2.2.2 _ gw_aL) rfl hdg rfl (by decide) (jI_nat ⟨by decide, by decide⟩) (by decide) hc hs rfl (fun H1 cA e1 z1 o1 hAr hNm => ?_)
  have hcA : cA = eC E0 4 := Option.some.inj (hNm.symm.trans (C.2.1.2 4 _ rfl).2)
  subst hcA
  exact W.eq (g2 := F0 m (pc + 2) ls (.ref H.size :: rest)) rfl (kk H1 (by show H1[H.size]? = some (vp_cell _ _); rw [e1]; rfl) z1 o1)
theorem r_newD (C : Cx E0 p c cc nL s args own m) (hc : cells + 1 ≤ R.cells) (hs : slots + 1 ≤ R.slots) (hdg : decode cc pc = .ok (.newarray .double, 2))
    (kk : ∀ H1 : Heap, va_at (eD E0) vwCl (H.size, outD E0 (fun _ => 0)) H1 → H1.size = H.size + 1 → (∀ q, q < H.size → H1[q]? = H[q]?) → W p l e R s m args below meth c H1 locs (cells + 1) (slots + 1) Q (F0 m (pc + 2) ls (.ref H.size :: rest))) : W p l e R s m args below meth c H locs cells slots Q (F0 m pc ls (.int (jI 1) :: rest)) := by
  refine va_newaK (atype := .double) (h := H.size) (N := 1) C.1.1 C.1.2.1 (C.1.2.2.2.2 _ gw_aD) rfl hdg rfl (by decide) (jI_nat ⟨by decide, by decide⟩) (by decide) hc hs rfl (fun H1 cA e1 z1 o1 hAr hNm => ?_)
  have hcA : cA = eC E0 5 := Option.some.inj (hNm.symm.trans (C.2.1.2 5 _ rfl).2)
  subst hcA
  exact W.eq (g2 := F0 m (pc + 2) ls (.ref H.size :: rest)) rfl (kk H1 (by show H1[H.size]? = some (vp_cell _ _); rw [e1]; rfl) z1 o1)
end JV
set_option maxRecDepth 100000 in
set_option maxHeartbeats 16000000 in
theorem whole_of {Rel : Nat → Mem → Mem → Prop} (hPure : PureOK Rel) {M0 Mr0 : Mem} (hM0 : ∀ j, j < 314 → M0 (0 + j) = im_C j) (hok : Mok LyC M0) (hf : f_X11_clears M0R = some Mr0) (hR0 : Rel 0 M0 Mr0) {p : Program} {e : Env} {s : State} {m : MethodId} {below : List Frame} {meth : Method} {c : Code} (l : Launch) (hflags : l.flags = flags0) {b L : Nat} {xs : Nat → Int32} (hL : L ≤ 2048) (C0 : lw_At p s m meth c b L xs) : W p l e room_1 s m #[Value.ref b] below meth c s.heap [] 0 0 (lw_Z below #[Value.ref b] s) (entryFrame m ([Value.ref b] : List Value).toArray 10) := by
  obtain ⟨hx, hb, hr, hml, hown, hts, hX, hbl, hlocks, hgv⟩ := id C0
  have hst := st_flags hflags
  obtain ⟨E0, hA0, hK, hSt, hXL, hXN⟩ := st_all hts hgv
  have C : Cx E0 p c cL_law 10 s #[Value.ref b] RL m := ⟨⟨hx, hb, hml, hown, fun w hw => hts w (lwG_tbl hw)⟩, hK, hSt, fun q hq => (hA0 q).mpr hq⟩
  have hl := lv_entry ([.ref b]) (n := 10) (Nat.le_of_ble_eq_true rfl)
  rw [lg_entry_eq]
  generalize (lg_sl ([.ref b]) ++ List.replicate (10 - (lg_sl ([.ref b])).length) Slot.unset).toArray = ls at hl ⊢
  have hl : lv_has ls 10 [(0, .ref b)] := hl
  have hN0 : HN E0 s.heap.size 0 0 [] s s.heap [] := ⟨(fun k q h => nomatch h), ⟨(fun i j p q h => nomatch h), (fun k q h => nomatch h)⟩, va_S.rf, rfl, Nat.le_refl _, fun q hq => (hA0 q).mpr hq⟩
  refine r_mkN (nK := 314) C hN0 jc10 (fs := [.null, .null, .null, .null, .null, .int 0, .int 0, .null, .null, .null, .null, .null, .null, .null]) (fun j hj => ?_) (cn_X10_init l E0 s.heap.size M0 hM0) yi_X10_init wl_new1 xi_X10 xn_X10 hXN (Or.inl wl_ini1) dL_law_0 dL_law_3 dL_law_4 hl.1 (Nat.le_of_ble_eq_true rfl) ⟨Nat.le_of_ble_eq_true rfl, Nat.le_of_ble_eq_true rfl⟩ ⟨Nat.le_of_ble_eq_true rfl, Nat.le_of_ble_eq_true rfl⟩ (fun H locs hN => ?_)
  · have hq : j = 0 ∨ j = 1 ∨ j = 2 ∨ j = 3 ∨ j = 4 ∨ j = 5 ∨ j = 6 ∨ j = 7 ∨ j = 8 ∨ j = 9 ∨ j = 10 ∨ j = 11 ∨ j = 12 ∨ j = 13 := by omega
    rcases hq with rfl | rfl | rfl | rfl | rfl | rfl | rfl | rfl | rfl | rfl | rfl | rfl | rfl | rfl <;> rfl
  have hPC : va_P (eD E0) vwCl (Wd (eC E0) s.heap.size LyC M0) H := by rw [seg_Wd]; exact hN.1
  have hSz : va_S (eA E0) s.heap H locs := hn_S hN
  have hHz : H.size = s.heap.size + (0 + (0 + 314)) := hN.2.2.2.1
  obtain ⟨zC, hzC⟩ : ∃ z : Nat, z = s.heap.size := ⟨_, rfl⟩
  rw [← hzC] at hPC hHz ⊢
  obtain ⟨zR, hzR⟩ : ∃ z : Nat, z = H.size := ⟨_, rfl⟩
  refine lv_astore_n C.1.1 C.1.2.1 dL_law_7 rfl hl (by decide) (lv' := [(1, .ref (zC + 0)), (0, .ref b)]) rfl (fun ls hl => ?_)
  have hKn := hK.1 11 _ jc11.1
  refine W.newcK (h := zR) C.1.1 C.1.2.1 C.1.2.2.2.1 (C.1.2.2.2.2 _ wl_new2) (C.1.2.2.2.2 _ xi_X11) (C.1.2.2.2.2 _ xn_X11) rfl dL_law_8 (Nat.le_of_ble_eq_true rfl) (Nat.le_of_ble_eq_true rfl) hKn.2.1 hzR.symm fun H1 kC hkC e1 z1 o1 => ?_
  have hS1 : va_S (eA E0) s.heap H1 locs := vs_push hSz (by rw [z1, hzR]) (fun q hq => o1 q (by omega))
  have hC1 : va_P (eD E0) vwCl (Wd (eC E0) zC LyC M0) H1 := hPC.kept (fun k q hq => o1 q.1 (by have := (hPC k q hq).lt; omega))
  have hM1 : va_at (eD E0) vwCl (zR + 0, .inr (11, [.null, .null, .null, .null, .null, .null, .int 0, .int 0, .null, .null, .null, .null, .null, .null, .null, .null, .null, .int 0, .null, .null, .null, .int 0, .int 0, .null, .null, .null, .int 0, .int 0, .null, .int 0, .int 0, .int 0, .int 0, .int 0, .int 0, .int 0, .int 0, .int 0, .int 0, .null, .int 0, .int 0, .int 0, .null, .null, .null, .null, .int 0, .int 0, .null, .null, .int 0])) H1 := ⟨_, jc11.1, (u_born tyX11 C.1.2.2.2.2 jc11.2.1 hKn hkC e1 jc11.2.2.1).to (fun j hj => by
    have hq : j = 0 ∨ j = 1 ∨ j = 2 ∨ j = 3 ∨ j = 4 ∨ j = 5 ∨ j = 6 ∨ j = 7 ∨ j = 8 ∨ j = 9 ∨ j = 10 ∨ j = 11 ∨ j = 12 ∨ j = 13 ∨ j = 14 ∨ j = 15 ∨ j = 16 ∨ j = 17 ∨ j = 18 ∨ j = 19 ∨ j = 20 ∨ j = 21 ∨ j = 22 ∨ j = 23 ∨ j = 24 ∨ j = 25 ∨ j = 26 ∨ j = 27 ∨ j = 28 ∨ j = 29 ∨ j = 30 ∨ j = 31 ∨ j = 32 ∨ j = 33 ∨ j = 34 ∨ j = 35 ∨ j = 36 ∨ j = 37 ∨ j = 38 ∨ j = 39 ∨ j = 40 ∨ j = 41 ∨ j = 42 ∨ j = 43 ∨ j = 44 ∨ j = 45 ∨ j = 46 ∨ j = 47 ∨ j = 48 ∨ j = 49 ∨ j = 50 ∨ j = 51 := by omega
    rcases hq with rfl | rfl | rfl | rfl | rfl | rfl | rfl | rfl | rfl | rfl | rfl | rfl | rfl | rfl | rfl | rfl | rfl | rfl | rfl | rfl | rfl | rfl | rfl | rfl | rfl | rfl | rfl | rfl | rfl | rfl | rfl | rfl | rfl | rfl | rfl | rfl | rfl | rfl | rfl | rfl | rfl | rfl | rfl | rfl | rfl | rfl | rfl | rfl | rfl | rfl | rfl | rfl <;> rfl)⟩
  refine W.eq (g2 := F0 m 11 ls [.ref zR]) rfl ?_
  refine r_dup C dL_law_11 rfl ?_
  have hpre0 : PreS s H1 (jPreN E0 (zR + 0) (.inr (11, [.null, .null, .null, .null, .null, .null, .int 0, .int 0, .null, .null, .null, .null, .null, .null, .null, .null, .null, .int 0, .null, .null, .null, .int 0, .int 0, .null, .null, .null, .int 0, .int 0, .null, .int 0, .int 0, .int 0, .int 0, .int 0, .int 0, .int 0, .int 0, .int 0, .int 0, .null, .int 0, .int 0, .int 0, .null, .null, .null, .null, .int 0, .int 0, .null, .null, .int 0]))) [Value.ref (zR + 0)] := by
    refine ⟨jPreN_blind, fun U hU hW => ⟨rfl, ?_, va_K.moved hW.alike hK, ?_, fun q hq => (hA0 q).mpr (by omega), by rw [hU, z1], hXN.warm hW⟩⟩
    · rw [hU]
      intro k q hk
      cases k with
      | zero => cases hk; exact hM1
      | succ k => exact nomatch hk
    · rw [hU]
      exact (hSt.kept hS1.2.1).warm hW
  refine va_callv (va_runI (b := zR + 0) (As := []) (rest := [.ref zR]) C.1 (cn_X11_init l E0 zR hf) ⟨callB_of 0 C.1.2.2.2.2 (good_G yi_X11_init.2.2.2.1) rfl rfl rfl (C.1.2.2.2.2 _ yi_X11_init.2.2.1) (C.1.2.2.2.2 _ wl_ini2) yi_X11_init.2.2.2.2 ⟨Nat.le_of_ble_eq_true rfl, Nat.le_of_ble_eq_true rfl⟩, yi_X11_init.2.1, C.1.2.2.2.2 _ yi_X11_init.1⟩ hpre0 rfl rfl hl.1 rfl (Nat.le_of_ble_eq_true rfl) dL_law_12 ⟨Nat.le_of_ble_eq_true rfl, Nat.le_of_ble_eq_true rfl⟩) hS1 (fun q _ hq => (hA0 q).mpr (by omega)) (fun q hq => (hA0 q).mpr (by omega)) (fun u t H2 locs1 ht hvm hokR hB hz2 hk2 hS2 => ?_)
  have hR2 : va_P (eD E0) vwCl (Wd (eC E0) zR LyR Mr0) t.heap := hB
  rw [ht] at hR2
  have hC2 : va_P (eD E0) vwCl (Wd (eC E0) zC LyC M0) H2 := hC1.kept (fun k q hq => hk2 q.1 (hC1 k q hq).lt (by
    have := (hPC k q hq).lt
    omega))
  have hlt2 : zR + 30 ≤ H2.size := by
    have h := (hR2 29 _ (Wd_get (show 29 < LyR.1 by decide))).lt
    have h : zR + 29 < H2.size := h
    omega
  refine lv_astore_n C.1.1 C.1.2.1 dL_law_15 rfl hl (by decide) (lv' := [(2, .ref (zR + 0)), (1, .ref (zC + 0)), (0, .ref b)]) rfl (fun ls hl => ?_)
  refine r_iconst C dL_law_16 ?_
  refine r_newL C (Nat.le_of_ble_eq_true rfl) (Nat.le_of_ble_eq_true rfl) dL_law_17 (fun H3 a3 z3 o3 => ?_)
  obtain ⟨zoL, hzoL⟩ : ∃ z : Nat, z = H2.size := ⟨_, rfl⟩
  rw [← hzoL] at a3 z3 o3 ⊢
  refine lv_astore_n C.1.1 C.1.2.1 dL_law_19 rfl hl (by decide) (lv' := [(3, .ref zoL), (2, .ref (zR + 0)), (1, .ref (zC + 0)), (0, .ref b)]) rfl (fun ls hl => ?_)
  refine r_iconst C dL_law_20 ?_
  refine r_newD C (Nat.le_of_ble_eq_true rfl) (Nat.le_of_ble_eq_true rfl) dL_law_21 (fun H4 a4 z4 o4 => ?_)
  obtain ⟨zoD, hzoD⟩ : ∃ z : Nat, z = H3.size := ⟨_, rfl⟩
  rw [← hzoD] at a4 z4 o4 ⊢
  refine lv_astore C.1.1 C.1.2.1 dL_law_23 hl (by decide) (lv' := [(4, .ref zoD), (3, .ref zoL), (2, .ref (zR + 0)), (1, .ref (zC + 0)), (0, .ref b)]) rfl (fun ls hl => ?_)
  refine r_iconst C dL_law_25 ?_
  refine r_istore C [(5, .int (jI 0)), (4, .ref zoD), (3, .ref zoL), (2, .ref (zR + 0)), (1, .ref (zC + 0)), (0, .ref b)] dL_law_26 hl (by decide) rfl (fun ls hl => ?_)
  have hS3 : va_S (eA E0) s.heap H3 locs1 := vs_push hS2 (by omega) (fun q hq => o3 q (by omega))
  have hS4 : va_S (eA E0) s.heap H4 locs1 := vs_push hS3 (by omega) (fun q hq => o4 q (by omega))
  have up : ∀ q, q < H2.size → H4[q]? = H2[q]? := fun q hq => (o4 q (by omega)).trans (o3 q (by omega))
  have A : LAt E0 b L xs zC zR zoL zoD H4.size s := ⟨hX, hbl, by omega, by omega, by omega, by omega, by omega, hXL, hA0⟩
  have hS : LStt E0 zC zR zoL zoD H4.size M0 Mr0 (fun _ => 0) (fun _ => 0) s H4 locs1 := ⟨hC2.kept (fun k q hq => up q.1 (hC2 k q hq).lt), hR2.kept (fun k q hq => up q.1 (hR2 k q hq).lt), a3.kept (o4 zoL (by omega)), a4, hS4, hok, hokR, Nat.le_refl _⟩
  refine law_loop hPure hst C A hL (fun H5 locs5 ls5 c5 s5 k1 k2 k3 => ?_) 512 0 M0 Mr0 _ _ H4 locs1 ls _ _ 0 (Nat.le_refl _) hR0 hS (by decide) (by omega) (by decide) hl (Nat.le_of_ble_eq_true rfl) (Nat.le_of_ble_eq_true rfl)
  refine va_forget (fun q hq => (hA0 _).mp (k3.2.2 q hq)) ?_
  refine W.widen k1 k2 ?_
  refine lv_iconst C.1.1 C.1.2.1 dL_law_1897 rfl ?_
  exact W.base (lw_ret (d0 := s.drawn) (Drawn.sameBut.refl _ _) hx hb hr hlocks dL_law_1898)
