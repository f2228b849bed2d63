set_option maxRecDepth 100000 in
set_option maxHeartbeats 4000000 in
theorem cx_X10_requireIndex (l : Launch) (hst : l.stackTraces = false) (E : jE) (z : Nat) {x0 : Int} {x1 : Int} {M M' : Mem} {k : Nat} (hx0 : inR x0) (hx1 : inR x1) (h : x_X10_requireIndex x0 x1 M = some (k, M')) : CtX (QXv E) l yX10_requireIndex cX10_requireIndex 2 none { frames := 6, cells := 1, slots := 6, locals := 100 } E z LyC [.int (jI x0), .int (jI x1)] M k M' := by
  refine jmX (by decide +kernel) (Nat.le_of_ble_eq_true rfl) ?_
  intro p e sM m below meth c C hM0 hX hlk hml ht ls hl
  replace hl : lv_has ls 2 [(0, .int (jI x0)), (1, .int (jI x1))] := hl
  unfold x_X10_requireIndex at h
  refine r_iload_n C dX10_requireIndex_0 rfl hl 0 rfl ?_
  replace h := jn_some h
  obtain ⟨k9, hk9, h⟩ := h
  have hJ9 : ∀ (_ : Unit), ∀ (H : Heap) (locs : List Loc) (ls : Array Slot), k9 () = some (k, M') → HS E z LyC M sM H locs → lv_has ls 2 [] → W p l e ({ frames := 6, cells := 1, slots := 6, locals := 100 } : Room) sM m (([.int (jI x0), .int (jI x1)] : List Value).toArray) below meth c H locs 0 0 (vx_MQ below (QXv E) (XX E z LyC M' k) (([.int (jI x0), .int (jI x1)] : List Value).toArray) sM 1 6 (eA E)) (F0 m 9 ls []) := by
    intro _ H locs ls h hMj9 hl
    subst hk9
    try dsimp only at h
    cases h
    exact r_throwSW C hMj9 hX hst 1 xk_1.1 xk_1.2 (List.mem_of_getElem? (i := 22) rfl) ex_at_1 ex_ot_1 (by decide +kernel) dX10_requireIndex_9 dX10_requireIndex_12 dX10_requireIndex_13 dX10_requireIndex_16 dX10_requireIndex_19 ht hlk (hl.1.trans hml.symm) ⟨Nat.le_of_ble_eq_true rfl, Nat.le_of_ble_eq_true rfl, Nat.le_of_ble_eq_true rfl, Nat.le_of_ble_eq_true rfl⟩ (Nat.le_of_ble_eq_true rfl) (Nat.le_of_ble_eq_true rfl)
  refine r_if_lt C 9 hx0 dX10_requireIndex_1 (by decide) (fun cq => ?_) (fun cq => ?_)
  · replace h := ifp cq h
    exact hJ9 () _ _ _ h hM0 (lv_sub hl [] rfl)
  · replace h := ifn cq h
    refine r_iload_n C dX10_requireIndex_4 rfl hl 0 rfl ?_
    refine r_iload_n C dX10_requireIndex_5 rfl hl 1 rfl ?_
    refine r_icmp_lt C 20 hx0 hx1 dX10_requireIndex_6 (by decide) (fun cq => ?_) (fun cq => ?_)
    · replace h := ifp cq h
      exact nomatch h
    · replace h := ifn cq h
      exact hJ9 () _ _ _ h hM0 (lv_sub hl [] rfl)
set_option maxRecDepth 100000 in
set_option maxHeartbeats 4000000 in
theorem cx_X10_requireRange (l : Launch) (hst : l.stackTraces = false) (E : jE) (z : Nat) {x0 : Int} {x1 : Int} {x2 : Int} {M M' : Mem} {k : Nat} (hx0 : inR x0) (hx1 : inR x1) (hx2 : inR x2) (h : x_X10_requireRange x0 x1 x2 M = some (k, M')) : CtX (QXv E) l yX10_requireRange cX10_requireRange 3 none { frames := 6, cells := 1, slots := 6, locals := 100 } E z LyC [.int (jI x0), .int (jI x1), .int (jI x2)] M k M' := by
  refine jmX (by decide +kernel) (Nat.le_of_ble_eq_true rfl) ?_
  intro p e sM m below meth c C hM0 hX hlk hml ht ls hl
  replace hl : lv_has ls 3 [(0, .int (jI x0)), (1, .int (jI x1)), (2, .int (jI x2))] := hl
  unfold x_X10_requireRange at h
  refine r_iload_n C dX10_requireRange_0 rfl hl 0 rfl ?_
  refine r_iload_n C dX10_requireRange_1 rfl hl 1 rfl ?_
  replace h := jn_some h
  obtain ⟨k10, hk10, h⟩ := h
  have hJ10 : ∀ (_ : Unit), ∀ (H : Heap) (locs : List Loc) (ls : Array Slot), k10 () = some (k, M') → HS E z LyC M sM H locs → lv_has ls 3 [] → W p l e ({ frames := 6, cells := 1, slots := 6, locals := 100 } : Room) sM m (([.int (jI x0), .int (jI x1), .int (jI x2)] : List Value).toArray) below meth c H locs 0 0 (vx_MQ below (QXv E) (XX E z LyC M' k) (([.int (jI x0), .int (jI x1), .int (jI x2)] : List Value).toArray) sM 1 6 (eA E)) (F0 m 10 ls []) := by
    intro _ H locs ls h hMj10 hl
    subst hk10
    try dsimp only at h
    cases h
    exact r_throwSW C hMj10 hX hst 2 xk_2.1 xk_2.2 (List.mem_of_getElem? (i := 21) rfl) ex_at_2 ex_ot_2 (by decide +kernel) dX10_requireRange_10 dX10_requireRange_13 dX10_requireRange_14 dX10_requireRange_17 dX10_requireRange_20 ht hlk (hl.1.trans hml.symm) ⟨Nat.le_of_ble_eq_true rfl, Nat.le_of_ble_eq_true rfl, Nat.le_of_ble_eq_true rfl, Nat.le_of_ble_eq_true rfl⟩ (Nat.le_of_ble_eq_true rfl) (Nat.le_of_ble_eq_true rfl)
  refine r_icmp_lt C 10 hx0 hx1 dX10_requireRange_2 (by decide) (fun cq => ?_) (fun cq => ?_)
  · replace h := ifp cq h
    exact hJ10 () _ _ _ h hM0 (lv_sub hl [] rfl)
  · replace h := ifn cq h
    refine r_iload_n C dX10_requireRange_5 rfl hl 0 rfl ?_
    refine r_iload_n C dX10_requireRange_6 rfl hl 2 rfl ?_
    refine r_icmp_le C 21 hx0 hx2 dX10_requireRange_7 (by decide) (fun cq => ?_) (fun cq => ?_)
    · replace h := ifp cq h
      exact nomatch h
    · replace h := ifn cq h
      exact hJ10 () _ _ _ h hM0 (lv_sub hl [] rfl)
set_option maxRecDepth 100000 in
set_option maxHeartbeats 4000000 in
theorem cx_X10_requireSetting (l : Launch) (hst : l.stackTraces = false) (E : jE) (z : Nat) {x0 : Int} {x1 : Int} {M M' : Mem} {k : Nat} (hx0 : inR x0) (hx1 : inR x1) (h : x_X10_requireSetting x0 x1 M = some (k, M')) : CtX (QXv E) l yX10_requireSetting cX10_requireSetting 2 none { frames := 7, cells := 1, slots := 6, locals := 122 } E z LyC [.int (jI x0), .int (jI x1)] M k M' := by
  refine jmX (by decide +kernel) (Nat.le_of_ble_eq_true rfl) ?_
  intro p e sM m below meth c C hM0 hX hlk hml ht ls hl
  replace hl : lv_has ls 2 [(0, .int (jI x0)), (1, .int (jI x1))] := hl
  unfold x_X10_requireSetting at h
  refine r_iload_n C dX10_requireSetting_0 rfl hl 0 rfl ?_
  refine r_if_lt C 9 hx0 dX10_requireSetting_1 (by decide) (fun cq => ?_) (fun cq => ?_)
  · replace h := ifp cq h
    exact nomatch h
  · replace h := ifn cq h
    refine r_iload_n C dX10_requireSetting_4 rfl hl 0 rfl ?_
    refine r_iconst C dX10_requireSetting_5 ?_
    refine r_icmp_lt C 10 hx0 ⟨by decide, by decide⟩ dX10_requireSetting_6 (by decide) (fun cq => ?_) (fun cq => ?_)
    · replace h := ifp cq h
      refine r_iload_n C dX10_requireSetting_10 rfl hl 1 rfl ?_
      refine r_gets C hM0 1 (by decide) rfl lk_X10_381 dX10_requireSetting_11 ?_
      refine r_iload_n C dX10_requireSetting_14 rfl hl 0 rfl ?_
      replace h := ck_some h
      obtain ⟨hc1, h⟩ := h
      refine r_tald C hM0 1 (by decide) hc1 hx0 dX10_requireSetting_15 ?_
      refine r_gets C hM0 2 (by decide) rfl lk_X10_384 dX10_requireSetting_16 ?_
      refine r_iload_n C dX10_requireSetting_19 rfl hl 0 rfl ?_
      refine r_tald C hM0 2 (by decide) hc1 hx0 dX10_requireSetting_20 ?_
      rcases xo_some h with h | ⟨_, h⟩
      · exact r_callSVX (As := [.int (jI x1), .int (jI ((jTab 1).getD x0.toNat 0)), .int (jI ((jTab 2).getD x0.toNat 0))]) (rest := []) C hM0 hX (cx_X10_requireRange l hst E z hx1 (jTab_R _ _) (jTab_R _ _) h) jy_X10_requireRange lk_X10_97 dX10_requireSetting_21 ht hlk rfl rfl hl.1 (Nat.le_of_ble_eq_true rfl) ⟨Nat.le_of_ble_eq_true rfl, Nat.le_of_ble_eq_true rfl⟩ ⟨Nat.le_of_ble_eq_true rfl, Nat.le_of_ble_eq_true rfl⟩ ⟨Nat.le_of_ble_eq_true rfl, Nat.le_of_ble_eq_true rfl⟩
      replace h := bd_some h
      obtain ⟨_, hf21, h⟩ := h
      refine r_callSV (As := [.int (jI x1), .int (jI ((jTab 1).getD x0.toNat 0)), .int (jI ((jTab 2).getD x0.toNat 0))]) (rest := []) C hM0 (c_X10_requireRange l E z hx1 (jTab_R _ _) (jTab_R _ _) hf21) jy_X10_requireRange lk_X10_97 dX10_requireSetting_21 rfl rfl hl.1 (Nat.le_of_ble_eq_true rfl) ⟨Nat.le_of_ble_eq_true rfl, Nat.le_of_ble_eq_true rfl⟩ ⟨rfl, rfl⟩ ⟨Nat.zero_le _, Nat.zero_le _⟩ (fun H locs hM2 => ?_)
      exact nomatch h
    · replace h := ifn cq h
      exact nomatch h
set_option maxRecDepth 100000 in
set_option maxHeartbeats 4000000 in
theorem cx_X10_appendText (l : Launch) (hst : l.stackTraces = false) (E : jE) (z : Nat) {x1 : Int} {M M' : Mem} {k : Nat} (hx1 : inR x1) (h : x_X10_appendText x1 M = some (k, M')) : CtX (QXi E) l yX10_appendText cX10_appendText 2 (some .int) { frames := 6, cells := 1, slots := 6, locals := 100 } E z LyC [.ref (z + 0), .int (jI x1)] M k M' := by
  refine jmX (by decide +kernel) (Nat.le_of_ble_eq_true rfl) ?_
  intro p e sM m below meth c C hM0 hX hlk hml ht ls hl
  replace hl : lv_has ls 2 [(0, .ref (z + 0)), (1, .int (jI x1))] := hl
  unfold x_X10_appendText at h
  refine r_aload_n C dX10_appendText_0 rfl hl 0 rfl ?_
  refine r_getR C hM0 jc10 0 1 dX10_appendText_1 lk_X10_12 lc_0.1 lc_0.2 rfl rfl (by decide) rfl ?_
  refine r_getI C hM0 jc8 1 rfl dX10_appendText_4 lk_X10_83 lc_1.1 lc_1.2 rfl rfl (by decide) rfl ?_
  refine r_sipush C dX10_appendText_7 rfl ?_
  refine r_icmp_le C 23 (hM0.ok _ _) ⟨by decide, by decide⟩ dX10_appendText_10 (by decide) (fun cq => ?_) (fun cq => ?_)
  · replace h := ifp cq h
    exact nomatch h
  · replace h := ifn cq h
    cases h
    exact r_throwS C hM0 hX hst 3 xk_3.1 xk_3.2 (List.mem_of_getElem? (i := 20) rfl) ex_at_3 ex_ot_3 (by decide +kernel) dX10_appendText_13 dX10_appendText_16 dX10_appendText_17 dX10_appendText_19 dX10_appendText_22 ht hlk (hl.1.trans hml.symm) ⟨Nat.le_of_ble_eq_true rfl, Nat.le_of_ble_eq_true rfl, Nat.le_of_ble_eq_true rfl, Nat.le_of_ble_eq_true rfl⟩ (Nat.le_of_ble_eq_true rfl) (Nat.le_of_ble_eq_true rfl)
set_option maxRecDepth 100000 in
set_option maxHeartbeats 4000000 in
theorem cx_X10_truncateText (l : Launch) (hst : l.stackTraces = false) (E : jE) (z : Nat) {x1 : Int} {M M' : Mem} {k : Nat} (hx1 : inR x1) (h : x_X10_truncateText x1 M = some (k, M')) : CtX (QXi E) l yX10_truncateText cX10_truncateText 2 (some .int) { frames := 7, cells := 1, slots := 6, locals := 122 } E z LyC [.ref (z + 0), .int (jI x1)] M k M' := by
  refine jmX (by decide +kernel) (Nat.le_of_ble_eq_true rfl) ?_
  intro p e sM m below meth c C hM0 hX hlk hml ht ls hl
  replace hl : lv_has ls 2 [(0, .ref (z + 0)), (1, .int (jI x1))] := hl
  unfold x_X10_truncateText at h
  refine r_iload_n C dX10_truncateText_0 rfl hl 1 rfl ?_
  refine r_iconst C dX10_truncateText_1 ?_
  refine r_aload_n C dX10_truncateText_2 rfl hl 0 rfl ?_
  refine r_getR C hM0 jc10 0 1 dX10_truncateText_3 lk_X10_12 lc_0.1 lc_0.2 rfl rfl (by decide) rfl ?_
  refine r_getI C hM0 jc8 1 rfl dX10_truncateText_6 lk_X10_83 lc_1.1 lc_1.2 rfl rfl (by decide) rfl ?_
  rcases xo_some h with h | ⟨_, h⟩
  · exact r_callSVX (As := [.int (jI x1), .int (jI 0), .int (jI (M 1 1))]) (rest := []) C hM0 hX (cx_X10_requireRange l hst E z hx1 ⟨by decide, by decide⟩ (hM0.ok _ _) h) jy_X10_requireRange lk_X10_97 dX10_truncateText_9 ht hlk rfl rfl hl.1 (Nat.le_of_ble_eq_true rfl) ⟨Nat.le_of_ble_eq_true rfl, Nat.le_of_ble_eq_true rfl⟩ ⟨Nat.le_of_ble_eq_true rfl, Nat.le_of_ble_eq_true rfl⟩ ⟨Nat.le_of_ble_eq_true rfl, Nat.le_of_ble_eq_true rfl⟩
  replace h := bd_some h
  obtain ⟨_, hf9, h⟩ := h
  refine r_callSV (As := [.int (jI x1), .int (jI 0), .int (jI (M 1 1))]) (rest := []) C hM0 (c_X10_requireRange l E z hx1 ⟨by decide, by decide⟩ (hM0.ok _ _) hf9) jy_X10_requireRange lk_X10_97 dX10_truncateText_9 rfl rfl hl.1 (Nat.le_of_ble_eq_true rfl) ⟨Nat.le_of_ble_eq_true rfl, Nat.le_of_ble_eq_true rfl⟩ ⟨rfl, rfl⟩ ⟨Nat.zero_le _, Nat.zero_le _⟩ (fun H locs hM1 => ?_)
  exact nomatch h
set_option maxRecDepth 100000 in
set_option maxHeartbeats 4000000 in
theorem cx_X10_count (l : Launch) (hst : l.stackTraces = false) (E : jE) (z : Nat) {x1 : Int} {M M' : Mem} {k : Nat} (hx1 : inR x1) (h : x_X10_count x1 M = some (k, M')) : CtX (QXi E) l yX10_count cX10_count 2 (some .int) { frames := 7, cells := 1, slots := 6, locals := 122 } E z LyC [.ref (z + 0), .int (jI x1)] M k M' := by
  refine jmX (by decide +kernel) (Nat.le_of_ble_eq_true rfl) ?_
  intro p e sM m below meth c C hM0 hX hlk hml ht ls hl
  replace hl : lv_has ls 2 [(0, .ref (z + 0)), (1, .int (jI x1))] := hl
  unfold x_X10_count at h
  refine r_iload_n C dX10_count_0 rfl hl 1 rfl ?_
  refine r_iconst C dX10_count_1 ?_
  refine r_bipush C dX10_count_2 rfl ?_
  rcases xo_some h with h | ⟨_, h⟩
  · exact r_callSVX (As := [.int (jI x1), .int (jI 0), .int (jI 13)]) (rest := []) C hM0 hX (cx_X10_requireRange l hst E z hx1 ⟨by decide, by decide⟩ ⟨by decide, by decide⟩ h) jy_X10_requireRange lk_X10_97 dX10_count_4 ht hlk rfl rfl hl.1 (Nat.le_of_ble_eq_true rfl) ⟨Nat.le_of_ble_eq_true rfl, Nat.le_of_ble_eq_true rfl⟩ ⟨Nat.le_of_ble_eq_true rfl, Nat.le_of_ble_eq_true rfl⟩ ⟨Nat.le_of_ble_eq_true rfl, Nat.le_of_ble_eq_true rfl⟩
  replace h := bd_some h
  obtain ⟨_, hf4, h⟩ := h
  refine r_callSV (As := [.int (jI x1), .int (jI 0), .int (jI 13)]) (rest := []) C hM0 (c_X10_requireRange l E z hx1 ⟨by decide, by decide⟩ ⟨by decide, by decide⟩ hf4) jy_X10_requireRange lk_X10_97 dX10_count_4 rfl rfl hl.1 (Nat.le_of_ble_eq_true rfl) ⟨Nat.le_of_ble_eq_true rfl, Nat.le_of_ble_eq_true rfl⟩ ⟨rfl, rfl⟩ ⟨Nat.zero_le _, Nat.zero_le _⟩ (fun H locs hM1 => ?_)
  exact nomatch h
set_option maxRecDepth 100000 in
set_option maxHeartbeats 4000000 in
theorem cx_X10_shot (l : Launch) (hst : l.stackTraces = false) (E : jE) (z : Nat) {x1 : Int} {x2 : Int} {M M' : Mem} {k : Nat} (hx1 : inR x1) (hx2 : inR x2) (h : x_X10_shot x1 x2 M = some (k, M')) : CtX (QXi E) l yX10_shot cX10_shot 3 (some .int) { frames := 7, cells := 1, slots := 6, locals := 122 } E z LyC [.ref (z + 0), .int (jI x1), .int (jI x2)] M k M' := by
  refine jmX (by decide +kernel) (Nat.le_of_ble_eq_true rfl) ?_
  intro p e sM m below meth c C hM0 hX hlk hml ht ls hl
  replace hl : lv_has ls 3 [(0, .ref (z + 0)), (1, .int (jI x1)), (2, .int (jI x2))] := hl
  unfold x_X10_shot at h
  refine r_iload_n C dX10_shot_0 rfl hl 1 rfl ?_
  refine r_aload_n C dX10_shot_1 rfl hl 0 rfl ?_
  refine r_getR C hM0 jc10 2 5 dX10_shot_2 lk_X10_26 lc_0.1 lc_0.2 rfl rfl (by decide) rfl ?_
  refine r_getR C hM0 jc7 0 6 dX10_shot_5 lk_X10_101 lc_5.1 lc_5.2 rfl rfl (by decide) rfl ?_
  refine r_getI C hM0 jc3 0 rfl dX10_shot_8 lk_X10_137 lc_6.1 lc_6.2 rfl rfl (by decide) rfl ?_
  rcases xo_some h with h | ⟨_, h⟩
  · exact r_callSVX (As := [.int (jI x1), .int (jI (M 6 0))]) (rest := []) C hM0 hX (cx_X10_requireIndex l hst E z hx1 (hM0.ok _ _) h) jy_X10_requireIndex lk_X10_172 dX10_shot_11 ht hlk rfl rfl hl.1 (Nat.le_of_ble_eq_true rfl) ⟨Nat.le_of_ble_eq_true rfl, Nat.le_of_ble_eq_true rfl⟩ ⟨Nat.le_of_ble_eq_true rfl, Nat.le_of_ble_eq_true rfl⟩ ⟨Nat.le_of_ble_eq_true rfl, Nat.le_of_ble_eq_true rfl⟩
  replace h := bd_some h
  obtain ⟨_, hf11, h⟩ := h
  refine r_callSV (As := [.int (jI x1), .int (jI (M 6 0))]) (rest := []) C hM0 (c_X10_requireIndex l E z hx1 (hM0.ok _ _) hf11) jy_X10_requireIndex lk_X10_172 dX10_shot_11 rfl rfl hl.1 (Nat.le_of_ble_eq_true rfl) ⟨Nat.le_of_ble_eq_true rfl, Nat.le_of_ble_eq_true rfl⟩ ⟨rfl, rfl⟩ ⟨Nat.zero_le _, Nat.zero_le _⟩ (fun H locs hM1 => ?_)
  refine r_iload_n C dX10_shot_14 rfl hl 2 rfl ?_
  refine r_iconst C dX10_shot_15 ?_
  refine r_iconst C dX10_shot_16 ?_
  rcases xo_some h with h | ⟨_, h⟩
  · exact r_callSVX (As := [.int (jI x2), .int (jI 0), .int (jI 4)]) (rest := []) C hM1 hX (cx_X10_requireRange l hst E z hx2 ⟨by decide, by decide⟩ ⟨by decide, by decide⟩ h) jy_X10_requireRange lk_X10_97 dX10_shot_17 ht hlk rfl rfl hl.1 (Nat.le_of_ble_eq_true rfl) ⟨Nat.le_of_ble_eq_true rfl, Nat.le_of_ble_eq_true rfl⟩ ⟨Nat.le_of_ble_eq_true rfl, Nat.le_of_ble_eq_true rfl⟩ ⟨Nat.le_of_ble_eq_true rfl, Nat.le_of_ble_eq_true rfl⟩
  replace h := bd_some h
  obtain ⟨_, hf17, h⟩ := h
  refine r_callSV (As := [.int (jI x2), .int (jI 0), .int (jI 4)]) (rest := []) C hM1 (c_X10_requireRange l E z hx2 ⟨by decide, by decide⟩ ⟨by decide, by decide⟩ hf17) jy_X10_requireRange lk_X10_97 dX10_shot_17 rfl rfl hl.1 (Nat.le_of_ble_eq_true rfl) ⟨Nat.le_of_ble_eq_true rfl, Nat.le_of_ble_eq_true rfl⟩ ⟨rfl, rfl⟩ ⟨Nat.zero_le _, Nat.zero_le _⟩ (fun H locs hM2 => ?_)
  exact nomatch h
set_option maxRecDepth 100000 in
set_option maxHeartbeats 4000000 in
theorem cx_X10_map (l : Launch) (hst : l.stackTraces = false) (E : jE) (z : Nat) {x1 : Int} {x2 : Int} {M M' : Mem} {k : Nat} (hx1 : inR x1) (hx2 : inR x2) (h : x_X10_map x1 x2 M = some (k, M')) : CtX (QXi E) l yX10_map cX10_map 3 (some .int) { frames := 7, cells := 1, slots := 6, locals := 122 } E z LyC [.ref (z + 0), .int (jI x1), .int (jI x2)] M k M' := by
  refine jmX (by decide +kernel) (Nat.le_of_ble_eq_true rfl) ?_
  intro p e sM m below meth c C hM0 hX hlk hml ht ls hl
  replace hl : lv_has ls 3 [(0, .ref (z + 0)), (1, .int (jI x1)), (2, .int (jI x2))] := hl
  unfold x_X10_map at h
  refine r_iload_n C dX10_map_0 rfl hl 1 rfl ?_
  refine r_aload_n C dX10_map_1 rfl hl 0 rfl ?_
  refine r_getR C hM0 jc10 2 5 dX10_map_2 lk_X10_26 lc_0.1 lc_0.2 rfl rfl (by decide) rfl ?_
  refine r_getR C hM0 jc7 0 6 dX10_map_5 lk_X10_101 lc_5.1 lc_5.2 rfl rfl (by decide) rfl ?_
  refine r_getI C hM0 jc3 3 rfl dX10_map_8 lk_X10_146 lc_6.1 lc_6.2 rfl rfl (by decide) rfl ?_
  rcases xo_some h with h | ⟨_, h⟩
  · exact r_callSVX (As := [.int (jI x1), .int (jI (M 6 3))]) (rest := []) C hM0 hX (cx_X10_requireIndex l hst E z hx1 (hM0.ok _ _) h) jy_X10_requireIndex lk_X10_172 dX10_map_11 ht hlk rfl rfl hl.1 (Nat.le_of_ble_eq_true rfl) ⟨Nat.le_of_ble_eq_true rfl, Nat.le_of_ble_eq_true rfl⟩ ⟨Nat.le_of_ble_eq_true rfl, Nat.le_of_ble_eq_true rfl⟩ ⟨Nat.le_of_ble_eq_true rfl, Nat.le_of_ble_eq_true rfl⟩
  replace h := bd_some h
  obtain ⟨_, hf11, h⟩ := h
  refine r_callSV (As := [.int (jI x1), .int (jI (M 6 3))]) (rest := []) C hM0 (c_X10_requireIndex l E z hx1 (hM0.ok _ _) hf11) jy_X10_requireIndex lk_X10_172 dX10_map_11 rfl rfl hl.1 (Nat.le_of_ble_eq_true rfl) ⟨Nat.le_of_ble_eq_true rfl, Nat.le_of_ble_eq_true rfl⟩ ⟨rfl, rfl⟩ ⟨Nat.zero_le _, Nat.zero_le _⟩ (fun H locs hM1 => ?_)
  refine r_iload_n C dX10_map_14 rfl hl 2 rfl ?_
  refine r_iconst C dX10_map_15 ?_
  refine r_iconst C dX10_map_16 ?_
  rcases xo_some h with h | ⟨_, h⟩
  · exact r_callSVX (As := [.int (jI x2), .int (jI 0), .int (jI 3)]) (rest := []) C hM1 hX (cx_X10_requireRange l hst E z hx2 ⟨by decide, by decide⟩ ⟨by decide, by decide⟩ h) jy_X10_requireRange lk_X10_97 dX10_map_17 ht hlk rfl rfl hl.1 (Nat.le_of_ble_eq_true rfl) ⟨Nat.le_of_ble_eq_true rfl, Nat.le_of_ble_eq_true rfl⟩ ⟨Nat.le_of_ble_eq_true rfl, Nat.le_of_ble_eq_true rfl⟩ ⟨Nat.le_of_ble_eq_true rfl, Nat.le_of_ble_eq_true rfl⟩
  replace h := bd_some h
  obtain ⟨_, hf17, h⟩ := h
  refine r_callSV (As := [.int (jI x2), .int (jI 0), .int (jI 3)]) (rest := []) C hM1 (c_X10_requireRange l E z hx2 ⟨by decide, by decide⟩ ⟨by decide, by decide⟩ hf17) jy_X10_requireRange lk_X10_97 dX10_map_17 rfl rfl hl.1 (Nat.le_of_ble_eq_true rfl) ⟨Nat.le_of_ble_eq_true rfl, Nat.le_of_ble_eq_true rfl⟩ ⟨rfl, rfl⟩ ⟨Nat.zero_le _, Nat.zero_le _⟩ (fun H locs hM2 => ?_)
  exact nomatch h
set_option maxRecDepth 100000 in
set_option maxHeartbeats 4000000 in
theorem cx_X10_ban (l : Launch) (hst : l.stackTraces = false) (E : jE) (z : Nat) {x1 : Int} {x2 : Int} {M M' : Mem} {k : Nat} (hx1 : inR x1) (hx2 : inR x2) (h : x_X10_ban x1 x2 M = some (k, M')) : CtX (QXi E) l yX10_ban cX10_ban 3 (some .int) { frames := 7, cells := 1, slots := 6, locals := 122 } E z LyC [.ref (z + 0), .int (jI x1), .int (jI x2)] M k M' := by
  refine jmX (by decide +kernel) (Nat.le_of_ble_eq_true rfl) ?_
  intro p e sM m below meth c C hM0 hX hlk hml ht ls hl
  replace hl : lv_has ls 3 [(0, .ref (z + 0)), (1, .int (jI x1)), (2, .int (jI x2))] := hl
  unfold x_X10_ban at h
  refine r_iload_n C dX10_ban_0 rfl hl 1 rfl ?_
  refine r_aload_n C dX10_ban_1 rfl hl 0 rfl ?_
  refine r_getR C hM0 jc10 2 5 dX10_ban_2 lk_X10_26 lc_0.1 lc_0.2 rfl rfl (by decide) rfl ?_
  refine r_getR C hM0 jc7 0 6 dX10_ban_5 lk_X10_101 lc_5.1 lc_5.2 rfl rfl (by decide) rfl ?_
  refine r_getI C hM0 jc3 6 rfl dX10_ban_8 lk_X10_149 lc_6.1 lc_6.2 rfl rfl (by decide) rfl ?_
  rcases xo_some h with h | ⟨_, h⟩
  · exact r_callSVX (As := [.int (jI x1), .int (jI (M 6 6))]) (rest := []) C hM0 hX (cx_X10_requireIndex l hst E z hx1 (hM0.ok _ _) h) jy_X10_requireIndex lk_X10_172 dX10_ban_11 ht hlk rfl rfl hl.1 (Nat.le_of_ble_eq_true rfl) ⟨Nat.le_of_ble_eq_true rfl, Nat.le_of_ble_eq_true rfl⟩ ⟨Nat.le_of_ble_eq_true rfl, Nat.le_of_ble_eq_true rfl⟩ ⟨Nat.le_of_ble_eq_true rfl, Nat.le_of_ble_eq_true rfl⟩
  replace h := bd_some h
  obtain ⟨_, hf11, h⟩ := h
  refine r_callSV (As := [.int (jI x1), .int (jI (M 6 6))]) (rest := []) C hM0 (c_X10_requireIndex l E z hx1 (hM0.ok _ _) hf11) jy_X10_requireIndex lk_X10_172 dX10_ban_11 rfl rfl hl.1 (Nat.le_of_ble_eq_true rfl) ⟨Nat.le_of_ble_eq_true rfl, Nat.le_of_ble_eq_true rfl⟩ ⟨rfl, rfl⟩ ⟨Nat.zero_le _, Nat.zero_le _⟩ (fun H locs hM1 => ?_)
  refine r_iload_n C dX10_ban_14 rfl hl 2 rfl ?_
  refine r_iconst C dX10_ban_15 ?_
  refine r_iconst C dX10_ban_16 ?_
  rcases xo_some h with h | ⟨_, h⟩
  · exact r_callSVX (As := [.int (jI x2), .int (jI 0), .int (jI 3)]) (rest := []) C hM1 hX (cx_X10_requireRange l hst E z hx2 ⟨by decide, by decide⟩ ⟨by decide, by decide⟩ h) jy_X10_requireRange lk_X10_97 dX10_ban_17 ht hlk rfl rfl hl.1 (Nat.le_of_ble_eq_true rfl) ⟨Nat.le_of_ble_eq_true rfl, Nat.le_of_ble_eq_true rfl⟩ ⟨Nat.le_of_ble_eq_true rfl, Nat.le_of_ble_eq_true rfl⟩ ⟨Nat.le_of_ble_eq_true rfl, Nat.le_of_ble_eq_true rfl⟩
  replace h := bd_some h
  obtain ⟨_, hf17, h⟩ := h
  refine r_callSV (As := [.int (jI x2), .int (jI 0), .int (jI 3)]) (rest := []) C hM1 (c_X10_requireRange l E z hx2 ⟨by decide, by decide⟩ ⟨by decide, by decide⟩ hf17) jy_X10_requireRange lk_X10_97 dX10_ban_17 rfl rfl hl.1 (Nat.le_of_ble_eq_true rfl) ⟨Nat.le_of_ble_eq_true rfl, Nat.le_of_ble_eq_true rfl⟩ ⟨rfl, rfl⟩ ⟨Nat.zero_le _, Nat.zero_le _⟩ (fun H locs hM2 => ?_)
  exact nomatch h
set_option maxRecDepth 100000 in
set_option maxHeartbeats 4000000 in
theorem cx_X10_word (l : Launch) (hst : l.stackTraces = false) (E : jE) (z : Nat) {x1 : Int} {x2 : Int} {M M' : Mem} {k : Nat} (hx1 : inR x1) (hx2 : inR x2) (h : x_X10_word x1 x2 M = some (k, M')) : CtX (QXi E) l yX10_word cX10_word 3 (some .int) { frames := 7, cells := 1, slots := 6, locals := 122 } E z LyC [.ref (z + 0), .int (jI x1), .int (jI x2)] M k M' := by
  refine jmX (by decide +kernel) (Nat.le_of_ble_eq_true rfl) ?_
  intro p e sM m below meth c C hM0 hX hlk hml ht ls hl
  replace hl : lv_has ls 3 [(0, .ref (z + 0)), (1, .int (jI x1)), (2, .int (jI x2))] := hl
  unfold x_X10_word at h
  refine r_iload_n C dX10_word_0 rfl hl 1 rfl ?_
  refine r_aload_n C dX10_word_1 rfl hl 0 rfl ?_
  refine r_getR C hM0 jc10 2 5 dX10_word_2 lk_X10_26 lc_0.1 lc_0.2 rfl rfl (by decide) rfl ?_
  refine r_getR C hM0 jc7 1 16 dX10_word_5 lk_X10_120 lc_5.1 lc_5.2 rfl rfl (by decide) rfl ?_
  refine r_getI C hM0 jc9 0 rfl dX10_word_8 lk_X10_159 lc_16.1 lc_16.2 rfl rfl (by decide) rfl ?_
  rcases xo_some h with h | ⟨_, h⟩
  · exact r_callSVX (As := [.int (jI x1), .int (jI (M 16 0))]) (rest := []) C hM0 hX (cx_X10_requireIndex l hst E z hx1 (hM0.ok _ _) h) jy_X10_requireIndex lk_X10_172 dX10_word_11 ht hlk rfl rfl hl.1 (Nat.le_of_ble_eq_true rfl) ⟨Nat.le_of_ble_eq_true rfl, Nat.le_of_ble_eq_true rfl⟩ ⟨Nat.le_of_ble_eq_true rfl, Nat.le_of_ble_eq_true rfl⟩ ⟨Nat.le_of_ble_eq_true rfl, Nat.le_of_ble_eq_true rfl⟩
  replace h := bd_some h
  obtain ⟨_, hf11, h⟩ := h
  refine r_callSV (As := [.int (jI x1), .int (jI (M 16 0))]) (rest := []) C hM0 (c_X10_requireIndex l E z hx1 (hM0.ok _ _) hf11) jy_X10_requireIndex lk_X10_172 dX10_word_11 rfl rfl hl.1 (Nat.le_of_ble_eq_true rfl) ⟨Nat.le_of_ble_eq_true rfl, Nat.le_of_ble_eq_true rfl⟩ ⟨rfl, rfl⟩ ⟨Nat.zero_le _, Nat.zero_le _⟩ (fun H locs hM1 => ?_)
  refine r_iload_n C dX10_word_14 rfl hl 2 rfl ?_
  refine r_iconst C dX10_word_15 ?_
  refine r_iconst C dX10_word_16 ?_
  rcases xo_some h with h | ⟨_, h⟩
  · exact r_callSVX (As := [.int (jI x2), .int (jI 0), .int (jI 5)]) (rest := []) C hM1 hX (cx_X10_requireRange l hst E z hx2 ⟨by decide, by decide⟩ ⟨by decide, by decide⟩ h) jy_X10_requireRange lk_X10_97 dX10_word_17 ht hlk rfl rfl hl.1 (Nat.le_of_ble_eq_true rfl) ⟨Nat.le_of_ble_eq_true rfl, Nat.le_of_ble_eq_true rfl⟩ ⟨Nat.le_of_ble_eq_true rfl, Nat.le_of_ble_eq_true rfl⟩ ⟨Nat.le_of_ble_eq_true rfl, Nat.le_of_ble_eq_true rfl⟩
  replace h := bd_some h
  obtain ⟨_, hf17, h⟩ := h
  refine r_callSV (As := [.int (jI x2), .int (jI 0), .int (jI 5)]) (rest := []) C hM1 (c_X10_requireRange l E z hx2 ⟨by decide, by decide⟩ ⟨by decide, by decide⟩ hf17) jy_X10_requireRange lk_X10_97 dX10_word_17 rfl rfl hl.1 (Nat.le_of_ble_eq_true rfl) ⟨Nat.le_of_ble_eq_true rfl, Nat.le_of_ble_eq_true rfl⟩ ⟨rfl, rfl⟩ ⟨Nat.zero_le _, Nat.zero_le _⟩ (fun H locs hM2 => ?_)
  exact nomatch h
set_option maxRecDepth 100000 in
set_option maxHeartbeats 4000000 in
theorem cx_X10_piece (l : Launch) (hst : l.stackTraces = false) (E : jE) (z : Nat) {x1 : Int} {x2 : Int} {M M' : Mem} {k : Nat} (hx1 : inR x1) (hx2 : inR x2) (h : x_X10_piece x1 x2 M = some (k, M')) : CtX (QXi E) l yX10_piece cX10_piece 3 (some .int) { frames := 7, cells := 1, slots := 6, locals := 122 } E z LyC [.ref (z + 0), .int (jI x1), .int (jI x2)] M k M' := by
  refine jmX (by decide +kernel) (Nat.le_of_ble_eq_true rfl) ?_
  intro p e sM m below meth c C hM0 hX hlk hml ht ls hl
  replace hl : lv_has ls 3 [(0, .ref (z + 0)), (1, .int (jI x1)), (2, .int (jI x2))] := hl
  unfold x_X10_piece at h
  refine r_iload_n C dX10_piece_0 rfl hl 1 rfl ?_
  refine r_aload_n C dX10_piece_1 rfl hl 0 rfl ?_
  refine r_getR C hM0 jc10 9 56 dX10_piece_2 lk_X10_54 lc_0.1 lc_0.2 rfl rfl (by decide) rfl ?_
  refine r_getI C hM0 jc5 0 rfl dX10_piece_5 lk_X10_230 lc_56.1 lc_56.2 rfl rfl (by decide) rfl ?_
  rcases xo_some h with h | ⟨_, h⟩
  · exact r_callSVX (As := [.int (jI x1), .int (jI (M 56 0))]) (rest := []) C hM0 hX (cx_X10_requireIndex l hst E z hx1 (hM0.ok _ _) h) jy_X10_requireIndex lk_X10_172 dX10_piece_8 ht hlk rfl rfl hl.1 (Nat.le_of_ble_eq_true rfl) ⟨Nat.le_of_ble_eq_true rfl, Nat.le_of_ble_eq_true rfl⟩ ⟨Nat.le_of_ble_eq_true rfl, Nat.le_of_ble_eq_true rfl⟩ ⟨Nat.le_of_ble_eq_true rfl, Nat.le_of_ble_eq_true rfl⟩
  replace h := bd_some h
  obtain ⟨_, hf8, h⟩ := h
  refine r_callSV (As := [.int (jI x1), .int (jI (M 56 0))]) (rest := []) C hM0 (c_X10_requireIndex l E z hx1 (hM0.ok _ _) hf8) jy_X10_requireIndex lk_X10_172 dX10_piece_8 rfl rfl hl.1 (Nat.le_of_ble_eq_true rfl) ⟨Nat.le_of_ble_eq_true rfl, Nat.le_of_ble_eq_true rfl⟩ ⟨rfl, rfl⟩ ⟨Nat.zero_le _, Nat.zero_le _⟩ (fun H locs hM1 => ?_)
  refine r_iload_n C dX10_piece_11 rfl hl 2 rfl ?_
  refine r_iconst C dX10_piece_12 ?_
  refine r_bipush C dX10_piece_13 rfl ?_
  rcases xo_some h with h | ⟨_, h⟩
  · exact r_callSVX (As := [.int (jI x2), .int (jI 0), .int (jI 6)]) (rest := []) C hM1 hX (cx_X10_requireRange l hst E z hx2 ⟨by decide, by decide⟩ ⟨by decide, by decide⟩ h) jy_X10_requireRange lk_X10_97 dX10_piece_15 ht hlk rfl rfl hl.1 (Nat.le_of_ble_eq_true rfl) ⟨Nat.le_of_ble_eq_true rfl, Nat.le_of_ble_eq_true rfl⟩ ⟨Nat.le_of_ble_eq_true rfl, Nat.le_of_ble_eq_true rfl⟩ ⟨Nat.le_of_ble_eq_true rfl, Nat.le_of_ble_eq_true rfl⟩
  replace h := bd_some h
  obtain ⟨_, hf15, h⟩ := h
  refine r_callSV (As := [.int (jI x2), .int (jI 0), .int (jI 6)]) (rest := []) C hM1 (c_X10_requireRange l E z hx2 ⟨by decide, by decide⟩ ⟨by decide, by decide⟩ hf15) jy_X10_requireRange lk_X10_97 dX10_piece_15 rfl rfl hl.1 (Nat.le_of_ble_eq_true rfl) ⟨Nat.le_of_ble_eq_true rfl, Nat.le_of_ble_eq_true rfl⟩ ⟨rfl, rfl⟩ ⟨Nat.zero_le _, Nat.zero_le _⟩ (fun H locs hM2 => ?_)
  exact nomatch h
set_option maxRecDepth 100000 in
set_option maxHeartbeats 4000000 in
theorem cx_X10_reel (l : Launch) (hst : l.stackTraces = false) (E : jE) (z : Nat) {x1 : Int} {M M' : Mem} {k : Nat} (hx1 : inR x1) (h : x_X10_reel x1 M = some (k, M')) : CtX (QXi E) l yX10_reel cX10_reel 2 (some .int) { frames := 7, cells := 1, slots := 6, locals := 122 } E z LyC [.ref (z + 0), .int (jI x1)] M k M' := by
  refine jmX (by decide +kernel) (Nat.le_of_ble_eq_true rfl) ?_
  intro p e sM m below meth c C hM0 hX hlk hml ht ls hl
  replace hl : lv_has ls 2 [(0, .ref (z + 0)), (1, .int (jI x1))] := hl
  unfold x_X10_reel at h
  refine r_iload_n C dX10_reel_0 rfl hl 1 rfl ?_
  refine r_iconst C dX10_reel_1 ?_
  refine r_bipush C dX10_reel_2 rfl ?_
  rcases xo_some h with h | ⟨_, h⟩
  · exact r_callSVX (As := [.int (jI x1), .int (jI 0), .int (jI 6)]) (rest := []) C hM0 hX (cx_X10_requireRange l hst E z hx1 ⟨by decide, by decide⟩ ⟨by decide, by decide⟩ h) jy_X10_requireRange lk_X10_97 dX10_reel_4 ht hlk rfl rfl hl.1 (Nat.le_of_ble_eq_true rfl) ⟨Nat.le_of_ble_eq_true rfl, Nat.le_of_ble_eq_true rfl⟩ ⟨Nat.le_of_ble_eq_true rfl, Nat.le_of_ble_eq_true rfl⟩ ⟨Nat.le_of_ble_eq_true rfl, Nat.le_of_ble_eq_true rfl⟩
  replace h := bd_some h
  obtain ⟨_, hf4, h⟩ := h
  refine r_callSV (As := [.int (jI x1), .int (jI 0), .int (jI 6)]) (rest := []) C hM0 (c_X10_requireRange l E z hx1 ⟨by decide, by decide⟩ ⟨by decide, by decide⟩ hf4) jy_X10_requireRange lk_X10_97 dX10_reel_4 rfl rfl hl.1 (Nat.le_of_ble_eq_true rfl) ⟨Nat.le_of_ble_eq_true rfl, Nat.le_of_ble_eq_true rfl⟩ ⟨rfl, rfl⟩ ⟨Nat.zero_le _, Nat.zero_le _⟩ (fun H locs hM1 => ?_)
  exact nomatch h
set_option maxRecDepth 100000 in
set_option maxHeartbeats 4000000 in
theorem cx_X10_account (l : Launch) (hst : l.stackTraces = false) (E : jE) (z : Nat) {x1 : Int} {M M' : Mem} {k : Nat} (hx1 : inR x1) (h : x_X10_account x1 M = some (k, M')) : CtX (QXi E) l yX10_account cX10_account 2 (some .int) { frames := 7, cells := 1, slots := 6, locals := 122 } E z LyC [.ref (z + 0), .int (jI x1)] M k M' := by
  refine jmX (by decide +kernel) (Nat.le_of_ble_eq_true rfl) ?_
  intro p e sM m below meth c C hM0 hX hlk hml ht ls hl
  replace hl : lv_has ls 2 [(0, .ref (z + 0)), (1, .int (jI x1))] := hl
  unfold x_X10_account at h
  refine r_iload_n C dX10_account_0 rfl hl 1 rfl ?_
  refine r_iconst C dX10_account_1 ?_
  refine r_bipush C dX10_account_2 rfl ?_
  rcases xo_some h with h | ⟨_, h⟩
  · exact r_callSVX (As := [.int (jI x1), .int (jI 0), .int (jI 6)]) (rest := []) C hM0 hX (cx_X10_requireRange l hst E z hx1 ⟨by decide, by decide⟩ ⟨by decide, by decide⟩ h) jy_X10_requireRange lk_X10_97 dX10_account_4 ht hlk rfl rfl hl.1 (Nat.le_of_ble_eq_true rfl) ⟨Nat.le_of_ble_eq_true rfl, Nat.le_of_ble_eq_true rfl⟩ ⟨Nat.le_of_ble_eq_true rfl, Nat.le_of_ble_eq_true rfl⟩ ⟨Nat.le_of_ble_eq_true rfl, Nat.le_of_ble_eq_true rfl⟩
  replace h := bd_some h
  obtain ⟨_, hf4, h⟩ := h
  refine r_callSV (As := [.int (jI x1), .int (jI 0), .int (jI 6)]) (rest := []) C hM0 (c_X10_requireRange l E z hx1 ⟨by decide, by decide⟩ ⟨by decide, by decide⟩ hf4) jy_X10_requireRange lk_X10_97 dX10_account_4 rfl rfl hl.1 (Nat.le_of_ble_eq_true rfl) ⟨Nat.le_of_ble_eq_true rfl, Nat.le_of_ble_eq_true rfl⟩ ⟨rfl, rfl⟩ ⟨Nat.zero_le _, Nat.zero_le _⟩ (fun H locs hM1 => ?_)
  exact nomatch h
set_option maxRecDepth 100000 in
set_option maxHeartbeats 4000000 in
theorem cx_X10_faults (l : Launch) (hst : l.stackTraces = false) (E : jE) (z : Nat) {x1 : Int} {M M' : Mem} {k : Nat} (hx1 : inR x1) (h : x_X10_faults x1 M = some (k, M')) : CtX (QXi E) l yX10_faults cX10_faults 2 (some .int) { frames := 7, cells := 1, slots := 6, locals := 122 } E z LyC [.ref (z + 0), .int (jI x1)] M k M' := by
  refine jmX (by decide +kernel) (Nat.le_of_ble_eq_true rfl) ?_
  intro p e sM m below meth c C hM0 hX hlk hml ht ls hl
  replace hl : lv_has ls 2 [(0, .ref (z + 0)), (1, .int (jI x1))] := hl
  unfold x_X10_faults at h
  refine r_iload_n C dX10_faults_0 rfl hl 1 rfl ?_
  refine r_iconst C dX10_faults_1 ?_
  refine r_iconst C dX10_faults_2 ?_
  rcases xo_some h with h | ⟨_, h⟩
  · exact r_callSVX (As := [.int (jI x1), .int (jI 0), .int (jI 5)]) (rest := []) C hM0 hX (cx_X10_requireRange l hst E z hx1 ⟨by decide, by decide⟩ ⟨by decide, by decide⟩ h) jy_X10_requireRange lk_X10_97 dX10_faults_3 ht hlk rfl rfl hl.1 (Nat.le_of_ble_eq_true rfl) ⟨Nat.le_of_ble_eq_true rfl, Nat.le_of_ble_eq_true rfl⟩ ⟨Nat.le_of_ble_eq_true rfl, Nat.le_of_ble_eq_true rfl⟩ ⟨Nat.le_of_ble_eq_true rfl, Nat.le_of_ble_eq_true rfl⟩
  replace h := bd_some h
  obtain ⟨_, hf3, h⟩ := h
  refine r_callSV (As := [.int (jI x1), .int (jI 0), .int (jI 5)]) (rest := []) C hM0 (c_X10_requireRange l E z hx1 ⟨by decide, by decide⟩ ⟨by decide, by decide⟩ hf3) jy_X10_requireRange lk_X10_97 dX10_faults_3 rfl rfl hl.1 (Nat.le_of_ble_eq_true rfl) ⟨Nat.le_of_ble_eq_true rfl, Nat.le_of_ble_eq_true rfl⟩ ⟨rfl, rfl⟩ ⟨Nat.zero_le _, Nat.zero_le _⟩ (fun H locs hM1 => ?_)
  exact nomatch h
set_option maxRecDepth 100000 in
set_option maxHeartbeats 4000000 in
theorem cx_X10_fault (l : Launch) (hst : l.stackTraces = false) (E : jE) (z : Nat) {x1 : Int} {x2 : Int} {M M' : Mem} {k : Nat} (hx1 : inR x1) (hx2 : inR x2) (h : x_X10_fault x1 x2 M = some (k, M')) : CtX (QXi E) l yX10_fault cX10_fault 3 (some .int) { frames := 7, cells := 1, slots := 6, locals := 122 } E z LyC [.ref (z + 0), .int (jI x1), .int (jI x2)] M k M' := by
  refine jmX (by decide +kernel) (Nat.le_of_ble_eq_true rfl) ?_
  intro p e sM m below meth c C hM0 hX hlk hml ht ls hl
  replace hl : lv_has ls 3 [(0, .ref (z + 0)), (1, .int (jI x1)), (2, .int (jI x2))] := hl
  unfold x_X10_fault at h
  refine r_aload_n C dX10_fault_0 rfl hl 0 rfl ?_
  refine r_getR C hM0 jc10 11 68 dX10_fault_1 lk_X10_68 lc_0.1 lc_0.2 rfl rfl (by decide) rfl ?_
  refine r_aload_n C dX10_fault_4 rfl hl 0 rfl ?_
  refine r_getR C hM0 jc10 2 5 dX10_fault_5 lk_X10_26 lc_0.1 lc_0.2 rfl rfl (by decide) rfl ?_
  refine r_aload_n C dX10_fault_8 rfl hl 0 rfl ?_
  refine r_getR C hM0 jc10 9 56 dX10_fault_9 lk_X10_54 lc_0.1 lc_0.2 rfl rfl (by decide) rfl ?_
  refine r_aload_n C dX10_fault_12 rfl hl 0 rfl ?_
  refine r_getR C hM0 jc10 10 64 dX10_fault_13 lk_X10_61 lc_0.1 lc_0.2 rfl rfl (by decide) rfl ?_
  replace h := bd_some h
  obtain ⟨M16, hf16, h⟩ := h
  refine r_callV (As := [.ref (z + 5), .ref (z + 56), .ref (z + 64)]) (rest := []) C hM0 (c_X1_find l E z (show isSt 5 by decide) hf16) jy_X1_find lk_X10_269 dX10_fault_16 (recvW C hM0 jc1 lc_68.1 lc_68.2 rfl) rfl rfl hl.1 (Nat.le_of_ble_eq_true rfl) ⟨Nat.le_of_ble_eq_true rfl, Nat.le_of_ble_eq_true rfl⟩ ⟨rfl, rfl⟩ ⟨Nat.zero_le _, Nat.zero_le _⟩ (fun H locs hM1 => ?_)
  refine r_iload_n C dX10_fault_19 rfl hl 1 rfl ?_
  refine r_aload_n C dX10_fault_20 rfl hl 0 rfl ?_
  refine r_getR C hM1 jc10 11 68 dX10_fault_21 lk_X10_68 lc_0.1 lc_0.2 rfl rfl (by decide) rfl ?_
  refine r_getI C hM1 jc1 0 rfl dX10_fault_24 lk_X10_273 lc_68.1 lc_68.2 rfl rfl (by decide) rfl ?_
  rcases xo_some h with h | ⟨_, h⟩
  · exact r_callSVX (As := [.int (jI x1), .int (jI (M16 68 0))]) (rest := []) C hM1 hX (cx_X10_requireIndex l hst E z hx1 (hM1.ok _ _) h) jy_X10_requireIndex lk_X10_172 dX10_fault_27 ht hlk rfl rfl hl.1 (Nat.le_of_ble_eq_true rfl) ⟨Nat.le_of_ble_eq_true rfl, Nat.le_of_ble_eq_true rfl⟩ ⟨Nat.le_of_ble_eq_true rfl, Nat.le_of_ble_eq_true rfl⟩ ⟨Nat.le_of_ble_eq_true rfl, Nat.le_of_ble_eq_true rfl⟩
  replace h := bd_some h
  obtain ⟨_, hf27, h⟩ := h
  refine r_callSV (As := [.int (jI x1), .int (jI (M16 68 0))]) (rest := []) C hM1 (c_X10_requireIndex l E z hx1 (hM1.ok _ _) hf27) jy_X10_requireIndex lk_X10_172 dX10_fault_27 rfl rfl hl.1 (Nat.le_of_ble_eq_true rfl) ⟨Nat.le_of_ble_eq_true rfl, Nat.le_of_ble_eq_true rfl⟩ ⟨rfl, rfl⟩ ⟨Nat.zero_le _, Nat.zero_le _⟩ (fun H locs hM2 => ?_)
  refine r_iload_n C dX10_fault_30 rfl hl 2 rfl ?_
  refine r_iconst C dX10_fault_31 ?_
  refine r_iconst C dX10_fault_32 ?_
  rcases xo_some h with h | ⟨_, h⟩
  · exact r_callSVX (As := [.int (jI x2), .int (jI 0), .int (jI 1)]) (rest := []) C hM2 hX (cx_X10_requireRange l hst E z hx2 ⟨by decide, by decide⟩ ⟨by decide, by decide⟩ h) jy_X10_requireRange lk_X10_97 dX10_fault_33 ht hlk rfl rfl hl.1 (Nat.le_of_ble_eq_true rfl) ⟨Nat.le_of_ble_eq_true rfl, Nat.le_of_ble_eq_true rfl⟩ ⟨Nat.le_of_ble_eq_true rfl, Nat.le_of_ble_eq_true rfl⟩ ⟨Nat.le_of_ble_eq_true rfl, Nat.le_of_ble_eq_true rfl⟩
  replace h := bd_some h
  obtain ⟨_, hf33, h⟩ := h
  refine r_callSV (As := [.int (jI x2), .int (jI 0), .int (jI 1)]) (rest := []) C hM2 (c_X10_requireRange l E z hx2 ⟨by decide, by decide⟩ ⟨by decide, by decide⟩ hf33) jy_X10_requireRange lk_X10_97 dX10_fault_33 rfl rfl hl.1 (Nat.le_of_ble_eq_true rfl) ⟨Nat.le_of_ble_eq_true rfl, Nat.le_of_ble_eq_true rfl⟩ ⟨rfl, rfl⟩ ⟨Nat.zero_le _, Nat.zero_le _⟩ (fun H locs hM3 => ?_)
  exact nomatch h
set_option maxRecDepth 100000 in
set_option maxHeartbeats 4000000 in
theorem cx_X10_share (l : Launch) (hst : l.stackTraces = false) (E : jE) (z : Nat) {x1 : Int} {M M' : Mem} {k : Nat} (hx1 : inR x1) (h : x_X10_share x1 M = some (k, M')) : CtX (QXd E) l yX10_share cX10_share 4 (some .double) { frames := 7, cells := 1, slots := 6, locals := 121 } E z LyC [.ref (z + 0), .int (jI x1)] M k M' := by
  refine jmX (by decide +kernel) (Nat.le_of_ble_eq_true rfl) ?_
  intro p e sM m below meth c C hM0 hX hlk hml ht ls hl
  replace hl : lv_has ls 4 [(0, .ref (z + 0)), (1, .int (jI x1))] := hl
  unfold x_X10_share at h
  refine r_iload_n C dX10_share_0 rfl hl 1 rfl ?_
  refine r_bipush C dX10_share_1 rfl ?_
  rcases xo_some h with h | ⟨_, h⟩
  · exact r_callSVX (As := [.int (jI x1), .int (jI 6)]) (rest := []) C hM0 hX (cx_X10_requireIndex l hst E z hx1 ⟨by decide, by decide⟩ h) jy_X10_requireIndex lk_X10_172 dX10_share_3 ht hlk rfl rfl hl.1 (Nat.le_of_ble_eq_true rfl) ⟨Nat.le_of_ble_eq_true rfl, Nat.le_of_ble_eq_true rfl⟩ ⟨Nat.le_of_ble_eq_true rfl, Nat.le_of_ble_eq_true rfl⟩ ⟨Nat.le_of_ble_eq_true rfl, Nat.le_of_ble_eq_true rfl⟩
  replace h := bd_some h
  obtain ⟨_, hf3, h⟩ := h
  refine r_callSV (As := [.int (jI x1), .int (jI 6)]) (rest := []) C hM0 (c_X10_requireIndex l E z hx1 ⟨by decide, by decide⟩ hf3) jy_X10_requireIndex lk_X10_172 dX10_share_3 rfl rfl hl.1 (Nat.le_of_ble_eq_true rfl) ⟨Nat.le_of_ble_eq_true rfl, Nat.le_of_ble_eq_true rfl⟩ ⟨rfl, rfl⟩ ⟨Nat.zero_le _, Nat.zero_le _⟩ (fun H locs hM1 => ?_)
  exact nomatch h
set_option maxRecDepth 100000 in
set_option maxHeartbeats 4000000 in
theorem cx_X10_best (l : Launch) (hst : l.stackTraces = false) (E : jE) (z : Nat) {x1 : Int} {M M' : Mem} {k : Nat} (hx1 : inR x1) (h : x_X10_best x1 M = some (k, M')) : CtX (QXi E) l yX10_best cX10_best 2 (some .int) { frames := 7, cells := 1, slots := 6, locals := 122 } E z LyC [.ref (z + 0), .int (jI x1)] M k M' := by
  refine jmX (by decide +kernel) (Nat.le_of_ble_eq_true rfl) ?_
  intro p e sM m below meth c C hM0 hX hlk hml ht ls hl
  replace hl : lv_has ls 2 [(0, .ref (z + 0)), (1, .int (jI x1))] := hl
  unfold x_X10_best at h
  refine r_iload_n C dX10_best_0 rfl hl 1 rfl ?_
  refine r_iconst C dX10_best_1 ?_
  refine r_iconst C dX10_best_2 ?_
  rcases xo_some h with h | ⟨_, h⟩
  · exact r_callSVX (As := [.int (jI x1), .int (jI 0), .int (jI 2)]) (rest := []) C hM0 hX (cx_X10_requireRange l hst E z hx1 ⟨by decide, by decide⟩ ⟨by decide, by decide⟩ h) jy_X10_requireRange lk_X10_97 dX10_best_3 ht hlk rfl rfl hl.1 (Nat.le_of_ble_eq_true rfl) ⟨Nat.le_of_ble_eq_true rfl, Nat.le_of_ble_eq_true rfl⟩ ⟨Nat.le_of_ble_eq_true rfl, Nat.le_of_ble_eq_true rfl⟩ ⟨Nat.le_of_ble_eq_true rfl, Nat.le_of_ble_eq_true rfl⟩
  replace h := bd_some h
  obtain ⟨_, hf3, h⟩ := h
  refine r_callSV (As := [.int (jI x1), .int (jI 0), .int (jI 2)]) (rest := []) C hM0 (c_X10_requireRange l E z hx1 ⟨by decide, by decide⟩ ⟨by decide, by decide⟩ hf3) jy_X10_requireRange lk_X10_97 dX10_best_3 rfl rfl hl.1 (Nat.le_of_ble_eq_true rfl) ⟨Nat.le_of_ble_eq_true rfl, Nat.le_of_ble_eq_true rfl⟩ ⟨rfl, rfl⟩ ⟨Nat.zero_le _, Nat.zero_le _⟩ (fun H locs hM1 => ?_)
  exact nomatch h
set_option maxRecDepth 100000 in
set_option maxHeartbeats 4000000 in
theorem cx_X10_insert (l : Launch) (hst : l.stackTraces = false) (E : jE) (z : Nat) {x1 : Int} {x2 : Int} {x3 : Int} {M M' : Mem} {k : Nat} (hx1 : inR x1) (hx2 : inR x2) (hx3 : inR x3) (h : x_X10_insert x1 x2 x3 M = some (k, M')) : CtX (QXi E) l yX10_insert cX10_insert 6 (some .int) { frames := 7, cells := 1, slots := 6, locals := 122 } E z LyC [.ref (z + 0), .int (jI x1), .int (jI x2), .int (jI x3)] M k M' := by
  refine jmX (by decide +kernel) (Nat.le_of_ble_eq_true rfl) ?_
  intro p e sM m below meth c C hM0 hX hlk hml ht ls hl
  replace hl : lv_has ls 6 [(0, .ref (z + 0)), (1, .int (jI x1)), (2, .int (jI x2)), (3, .int (jI x3))] := hl
  unfold x_X10_insert at h
  refine r_aload_n C dX10_insert_0 rfl hl 0 rfl ?_
  refine r_getR C hM0 jc10 2 5 dX10_insert_1 lk_X10_26 lc_0.1 lc_0.2 rfl rfl (by decide) rfl ?_
  refine r_getR C hM0 jc7 2 22 dX10_insert_4 lk_X10_111 lc_5.1 lc_5.2 rfl rfl (by decide) rfl ?_
  replace h := bd_some h
  obtain ⟨r7, hf7, h⟩ := h
  refine r_callI (As := []) (rest := []) C hM0 (c_X2_topCount l E z (show isSt 5 by decide) hf7) jy_X2_topCount lk_X10_152 dX10_insert_7 (recvW C hM0 jc2 lc_22.1 lc_22.2 rfl) rfl rfl hl.1 (Nat.le_of_ble_eq_true rfl) ⟨Nat.le_of_ble_eq_true rfl, Nat.le_of_ble_eq_true rfl⟩ ⟨rfl, rfl⟩ ⟨Nat.zero_le _, Nat.zero_le _⟩ (fun H locs hr7 hM1 => ?_)
  refine r_istore C [(4, .int (jI r7)), (0, .ref (z + 0)), (1, .int (jI x1)), (2, .int (jI x2)), (3, .int (jI x3))] dX10_insert_10 hl (by decide) rfl (fun ls hl => ?_)
  refine r_iload_n C dX10_insert_12 rfl hl 2 rfl ?_
  refine r_iload C dX10_insert_13 hl 0 rfl ?_
  refine r_iconst C dX10_insert_15 ?_
  replace h := ck_some h
  obtain ⟨hc2, h⟩ := h
  refine r_iadd C dX10_insert_16 ?_
  rcases xo_some h with h | ⟨_, h⟩
  · exact r_callSVX (As := [.int (jI x1), .int (jI (r7 + 1))]) (rest := []) C hM1 hX (cx_X10_requireIndex l hst E z hx1 hc2 h) jy_X10_requireIndex lk_X10_172 dX10_insert_17 ht hlk rfl rfl hl.1 (Nat.le_of_ble_eq_true rfl) ⟨Nat.le_of_ble_eq_true rfl, Nat.le_of_ble_eq_true rfl⟩ ⟨Nat.le_of_ble_eq_true rfl, Nat.le_of_ble_eq_true rfl⟩ ⟨Nat.le_of_ble_eq_true rfl, Nat.le_of_ble_eq_true rfl⟩
  replace h := bd_some h
  obtain ⟨_, hf17, h⟩ := h
  refine r_callSV (As := [.int (jI x1), .int (jI (r7 + 1))]) (rest := []) C hM1 (c_X10_requireIndex l E z hx1 hc2 hf17) jy_X10_requireIndex lk_X10_172 dX10_insert_17 rfl rfl hl.1 (Nat.le_of_ble_eq_true rfl) ⟨Nat.le_of_ble_eq_true rfl, Nat.le_of_ble_eq_true rfl⟩ ⟨rfl, rfl⟩ ⟨Nat.zero_le _, Nat.zero_le _⟩ (fun H locs hM3 => ?_)
  refine r_iload_n C dX10_insert_20 rfl hl 3 rfl ?_
  refine r_aload_n C dX10_insert_21 rfl hl 1 rfl ?_
  refine r_getR C hM3 jc10 2 5 dX10_insert_22 lk_X10_26 lc_0.1 lc_0.2 rfl rfl (by decide) rfl ?_
  refine r_getR C hM3 jc7 0 6 dX10_insert_25 lk_X10_101 lc_5.1 lc_5.2 rfl rfl (by decide) rfl ?_
  refine r_getI C hM3 jc3 3 rfl dX10_insert_28 lk_X10_146 lc_6.1 lc_6.2 rfl rfl (by decide) rfl ?_
  rcases xo_some h with h | ⟨_, h⟩
  · exact r_callSVX (As := [.int (jI x2), .int (jI (M 6 3))]) (rest := []) C hM3 hX (cx_X10_requireIndex l hst E z hx2 (hM0.ok _ _) h) jy_X10_requireIndex lk_X10_172 dX10_insert_31 ht hlk rfl rfl hl.1 (Nat.le_of_ble_eq_true rfl) ⟨Nat.le_of_ble_eq_true rfl, Nat.le_of_ble_eq_true rfl⟩ ⟨Nat.le_of_ble_eq_true rfl, Nat.le_of_ble_eq_true rfl⟩ ⟨Nat.le_of_ble_eq_true rfl, Nat.le_of_ble_eq_true rfl⟩
  replace h := bd_some h
  obtain ⟨_, hf31, h⟩ := h
  refine r_callSV (As := [.int (jI x2), .int (jI (M 6 3))]) (rest := []) C hM3 (c_X10_requireIndex l E z hx2 (hM0.ok _ _) hf31) jy_X10_requireIndex lk_X10_172 dX10_insert_31 rfl rfl hl.1 (Nat.le_of_ble_eq_true rfl) ⟨Nat.le_of_ble_eq_true rfl, Nat.le_of_ble_eq_true rfl⟩ ⟨rfl, rfl⟩ ⟨Nat.zero_le _, Nat.zero_le _⟩ (fun H locs hM4 => ?_)
  refine r_iload_n C dX10_insert_34 rfl hl 4 rfl ?_
  refine r_iconst C dX10_insert_35 ?_
  refine r_sipush C dX10_insert_36 rfl ?_
  rcases xo_some h with h | ⟨_, h⟩
  · exact r_callSVX (As := [.int (jI x3), .int (jI 1), .int (jI 400)]) (rest := []) C hM4 hX (cx_X10_requireRange l hst E z hx3 ⟨by decide, by decide⟩ ⟨by decide, by decide⟩ h) jy_X10_requireRange lk_X10_97 dX10_insert_39 ht hlk rfl rfl hl.1 (Nat.le_of_ble_eq_true rfl) ⟨Nat.le_of_ble_eq_true rfl, Nat.le_of_ble_eq_true rfl⟩ ⟨Nat.le_of_ble_eq_true rfl, Nat.le_of_ble_eq_true rfl⟩ ⟨Nat.le_of_ble_eq_true rfl, Nat.le_of_ble_eq_true rfl⟩
  replace h := bd_some h
  obtain ⟨_, hf39, h⟩ := h
  refine r_callSV (As := [.int (jI x3), .int (jI 1), .int (jI 400)]) (rest := []) C hM4 (c_X10_requireRange l E z hx3 ⟨by decide, by decide⟩ ⟨by decide, by decide⟩ hf39) jy_X10_requireRange lk_X10_97 dX10_insert_39 rfl rfl hl.1 (Nat.le_of_ble_eq_true rfl) ⟨Nat.le_of_ble_eq_true rfl, Nat.le_of_ble_eq_true rfl⟩ ⟨rfl, rfl⟩ ⟨Nat.zero_le _, Nat.zero_le _⟩ (fun H locs hM5 => ?_)
  exact nomatch h
set_option maxRecDepth 100000 in
set_option maxHeartbeats 4000000 in
theorem cx_X10_trim (l : Launch) (hst : l.stackTraces = false) (E : jE) (z : Nat) {x1 : Int} {x2 : Int} {M M' : Mem} {k : Nat} (hx1 : inR x1) (hx2 : inR x2) (h : x_X10_trim x1 x2 M = some (k, M')) : CtX (QXi E) l yX10_trim cX10_trim 4 (some .int) { frames := 7, cells := 1, slots := 6, locals := 122 } E z LyC [.ref (z + 0), .int (jI x1), .int (jI x2)] M k M' := by
  refine jmX (by decide +kernel) (Nat.le_of_ble_eq_true rfl) ?_
  intro p e sM m below meth c C hM0 hX hlk hml ht ls hl
  replace hl : lv_has ls 4 [(0, .ref (z + 0)), (1, .int (jI x1)), (2, .int (jI x2))] := hl
  unfold x_X10_trim at h
  refine r_iload_n C dX10_trim_0 rfl hl 1 rfl ?_
  refine r_aload_n C dX10_trim_1 rfl hl 0 rfl ?_
  refine r_getR C hM0 jc10 2 5 dX10_trim_2 lk_X10_26 lc_0.1 lc_0.2 rfl rfl (by decide) rfl ?_
  refine r_getR C hM0 jc7 2 22 dX10_trim_5 lk_X10_111 lc_5.1 lc_5.2 rfl rfl (by decide) rfl ?_
  replace h := bd_some h
  obtain ⟨r8, hf8, h⟩ := h
  refine r_callI (As := []) (rest := [.int (jI x1)]) C hM0 (c_X2_topCount l E z (show isSt 5 by decide) hf8) jy_X2_topCount lk_X10_152 dX10_trim_8 (recvW C hM0 jc2 lc_22.1 lc_22.2 rfl) rfl rfl hl.1 (Nat.le_of_ble_eq_true rfl) ⟨Nat.le_of_ble_eq_true rfl, Nat.le_of_ble_eq_true rfl⟩ ⟨rfl, rfl⟩ ⟨Nat.zero_le _, Nat.zero_le _⟩ (fun H locs hr8 hM1 => ?_)
  rcases xo_some h with h | ⟨_, h⟩
  · exact r_callSVX (As := [.int (jI x1), .int (jI r8)]) (rest := []) C hM1 hX (cx_X10_requireIndex l hst E z hx1 hr8 h) jy_X10_requireIndex lk_X10_172 dX10_trim_11 ht hlk rfl rfl hl.1 (Nat.le_of_ble_eq_true rfl) ⟨Nat.le_of_ble_eq_true rfl, Nat.le_of_ble_eq_true rfl⟩ ⟨Nat.le_of_ble_eq_true rfl, Nat.le_of_ble_eq_true rfl⟩ ⟨Nat.le_of_ble_eq_true rfl, Nat.le_of_ble_eq_true rfl⟩
  replace h := bd_some h
  obtain ⟨_, hf11, h⟩ := h
  refine r_callSV (As := [.int (jI x1), .int (jI r8)]) (rest := []) C hM1 (c_X10_requireIndex l E z hx1 hr8 hf11) jy_X10_requireIndex lk_X10_172 dX10_trim_11 rfl rfl hl.1 (Nat.le_of_ble_eq_true rfl) ⟨Nat.le_of_ble_eq_true rfl, Nat.le_of_ble_eq_true rfl⟩ ⟨rfl, rfl⟩ ⟨Nat.zero_le _, Nat.zero_le _⟩ (fun H locs hM2 => ?_)
  refine r_iload_n C dX10_trim_14 rfl hl 2 rfl ?_
  refine r_iconst C dX10_trim_15 ?_
  refine r_sipush C dX10_trim_16 rfl ?_
  rcases xo_some h with h | ⟨_, h⟩
  · exact r_callSVX (As := [.int (jI x2), .int (jI 1), .int (jI 399)]) (rest := []) C hM2 hX (cx_X10_requireRange l hst E z hx2 ⟨by decide, by decide⟩ ⟨by decide, by decide⟩ h) jy_X10_requireRange lk_X10_97 dX10_trim_19 ht hlk rfl rfl hl.1 (Nat.le_of_ble_eq_true rfl) ⟨Nat.le_of_ble_eq_true rfl, Nat.le_of_ble_eq_true rfl⟩ ⟨Nat.le_of_ble_eq_true rfl, Nat.le_of_ble_eq_true rfl⟩ ⟨Nat.le_of_ble_eq_true rfl, Nat.le_of_ble_eq_true rfl⟩
  replace h := bd_some h
  obtain ⟨_, hf19, h⟩ := h
  refine r_callSV (As := [.int (jI x2), .int (jI 1), .int (jI 399)]) (rest := []) C hM2 (c_X10_requireRange l E z hx2 ⟨by decide, by decide⟩ ⟨by decide, by decide⟩ hf19) jy_X10_requireRange lk_X10_97 dX10_trim_19 rfl rfl hl.1 (Nat.le_of_ble_eq_true rfl) ⟨Nat.le_of_ble_eq_true rfl, Nat.le_of_ble_eq_true rfl⟩ ⟨rfl, rfl⟩ ⟨Nat.zero_le _, Nat.zero_le _⟩ (fun H locs hM3 => ?_)
  exact nomatch h
set_option maxRecDepth 100000 in
set_option maxHeartbeats 4000000 in
theorem cx_X10_remove (l : Launch) (hst : l.stackTraces = false) (E : jE) (z : Nat) {x1 : Int} {M M' : Mem} {k : Nat} (hx1 : inR x1) (h : x_X10_remove x1 M = some (k, M')) : CtX (QXi E) l yX10_remove cX10_remove 4 (some .int) { frames := 7, cells := 1, slots := 6, locals := 121 } E z LyC [.ref (z + 0), .int (jI x1)] M k M' := by
  refine jmX (by decide +kernel) (Nat.le_of_ble_eq_true rfl) ?_
  intro p e sM m below meth c C hM0 hX hlk hml ht ls hl
  replace hl : lv_has ls 4 [(0, .ref (z + 0)), (1, .int (jI x1))] := hl
  unfold x_X10_remove at h
  refine r_aload_n C dX10_remove_0 rfl hl 0 rfl ?_
  refine r_getR C hM0 jc10 2 5 dX10_remove_1 lk_X10_26 lc_0.1 lc_0.2 rfl rfl (by decide) rfl ?_
  refine r_getR C hM0 jc7 2 22 dX10_remove_4 lk_X10_111 lc_5.1 lc_5.2 rfl rfl (by decide) rfl ?_
  replace h := bd_some h
  obtain ⟨r7, hf7, h⟩ := h
  refine r_callI (As := []) (rest := []) C hM0 (c_X2_topCount l E z (show isSt 5 by decide) hf7) jy_X2_topCount lk_X10_152 dX10_remove_7 (recvW C hM0 jc2 lc_22.1 lc_22.2 rfl) rfl rfl hl.1 (Nat.le_of_ble_eq_true rfl) ⟨Nat.le_of_ble_eq_true rfl, Nat.le_of_ble_eq_true rfl⟩ ⟨rfl, rfl⟩ ⟨Nat.zero_le _, Nat.zero_le _⟩ (fun H locs hr7 hM1 => ?_)
  refine r_istore_n C [(2, .int (jI r7)), (0, .ref (z + 0)), (1, .int (jI x1))] dX10_remove_10 rfl hl (by decide) rfl (fun ls hl => ?_)
  refine r_iload_n C dX10_remove_11 rfl hl 2 rfl ?_
  refine r_iload_n C dX10_remove_12 rfl hl 0 rfl ?_
  rcases xo_some h with h | ⟨_, h⟩
  · exact r_callSVX (As := [.int (jI x1), .int (jI r7)]) (rest := []) C hM1 hX (cx_X10_requireIndex l hst E z hx1 hr7 h) jy_X10_requireIndex lk_X10_172 dX10_remove_13 ht hlk rfl rfl hl.1 (Nat.le_of_ble_eq_true rfl) ⟨Nat.le_of_ble_eq_true rfl, Nat.le_of_ble_eq_true rfl⟩ ⟨Nat.le_of_ble_eq_true rfl, Nat.le_of_ble_eq_true rfl⟩ ⟨Nat.le_of_ble_eq_true rfl, Nat.le_of_ble_eq_true rfl⟩
  replace h := bd_some h
  obtain ⟨_, hf13, h⟩ := h
  refine r_callSV (As := [.int (jI x1), .int (jI r7)]) (rest := []) C hM1 (c_X10_requireIndex l E z hx1 hr7 hf13) jy_X10_requireIndex lk_X10_172 dX10_remove_13 rfl rfl hl.1 (Nat.le_of_ble_eq_true rfl) ⟨Nat.le_of_ble_eq_true rfl, Nat.le_of_ble_eq_true rfl⟩ ⟨rfl, rfl⟩ ⟨Nat.zero_le _, Nat.zero_le _⟩ (fun H locs hM2 => ?_)
  exact nomatch h
set_option maxRecDepth 100000 in
set_option maxHeartbeats 4000000 in
theorem cx_X10_move (l : Launch) (hst : l.stackTraces = false) (E : jE) (z : Nat) {x1 : Int} {x2 : Int} {M M' : Mem} {k : Nat} (hx1 : inR x1) (hx2 : inR x2) (h : x_X10_move x1 x2 M = some (k, M')) : CtX (QXi E) l yX10_move cX10_move 5 (some .int) { frames := 7, cells := 1, slots := 6, locals := 121 } E z LyC [.ref (z + 0), .int (jI x1), .int (jI x2)] M k M' := by
  refine jmX (by decide +kernel) (Nat.le_of_ble_eq_true rfl) ?_
  intro p e sM m below meth c C hM0 hX hlk hml ht ls hl
  replace hl : lv_has ls 5 [(0, .ref (z + 0)), (1, .int (jI x1)), (2, .int (jI x2))] := hl
  unfold x_X10_move at h
  refine r_aload_n C dX10_move_0 rfl hl 0 rfl ?_
  refine r_getR C hM0 jc10 2 5 dX10_move_1 lk_X10_26 lc_0.1 lc_0.2 rfl rfl (by decide) rfl ?_
  refine r_getR C hM0 jc7 2 22 dX10_move_4 lk_X10_111 lc_5.1 lc_5.2 rfl rfl (by decide) rfl ?_
  replace h := bd_some h
  obtain ⟨r7, hf7, h⟩ := h
  refine r_callI (As := []) (rest := []) C hM0 (c_X2_topCount l E z (show isSt 5 by decide) hf7) jy_X2_topCount lk_X10_152 dX10_move_7 (recvW C hM0 jc2 lc_22.1 lc_22.2 rfl) rfl rfl hl.1 (Nat.le_of_ble_eq_true rfl) ⟨Nat.le_of_ble_eq_true rfl, Nat.le_of_ble_eq_true rfl⟩ ⟨rfl, rfl⟩ ⟨Nat.zero_le _, Nat.zero_le _⟩ (fun H locs hr7 hM1 => ?_)
  refine r_istore_n C [(3, .int (jI r7)), (0, .ref (z + 0)), (1, .int (jI x1)), (2, .int (jI x2))] dX10_move_10 rfl hl (by decide) rfl (fun ls hl => ?_)
  refine r_iload_n C dX10_move_11 rfl hl 2 rfl ?_
  refine r_iload_n C dX10_move_12 rfl hl 0 rfl ?_
  rcases xo_some h with h | ⟨_, h⟩
  · exact r_callSVX (As := [.int (jI x1), .int (jI r7)]) (rest := []) C hM1 hX (cx_X10_requireIndex l hst E z hx1 hr7 h) jy_X10_requireIndex lk_X10_172 dX10_move_13 ht hlk rfl rfl hl.1 (Nat.le_of_ble_eq_true rfl) ⟨Nat.le_of_ble_eq_true rfl, Nat.le_of_ble_eq_true rfl⟩ ⟨Nat.le_of_ble_eq_true rfl, Nat.le_of_ble_eq_true rfl⟩ ⟨Nat.le_of_ble_eq_true rfl, Nat.le_of_ble_eq_true rfl⟩
  replace h := bd_some h
  obtain ⟨_, hf13, h⟩ := h
  refine r_callSV (As := [.int (jI x1), .int (jI r7)]) (rest := []) C hM1 (c_X10_requireIndex l E z hx1 hr7 hf13) jy_X10_requireIndex lk_X10_172 dX10_move_13 rfl rfl hl.1 (Nat.le_of_ble_eq_true rfl) ⟨Nat.le_of_ble_eq_true rfl, Nat.le_of_ble_eq_true rfl⟩ ⟨rfl, rfl⟩ ⟨Nat.zero_le _, Nat.zero_le _⟩ (fun H locs hM2 => ?_)
  refine r_iload_n C dX10_move_16 rfl hl 3 rfl ?_
  refine r_iload_n C dX10_move_17 rfl hl 0 rfl ?_
  rcases xo_some h with h | ⟨_, h⟩
  · exact r_callSVX (As := [.int (jI x2), .int (jI r7)]) (rest := []) C hM2 hX (cx_X10_requireIndex l hst E z hx2 hr7 h) jy_X10_requireIndex lk_X10_172 dX10_move_18 ht hlk rfl rfl hl.1 (Nat.le_of_ble_eq_true rfl) ⟨Nat.le_of_ble_eq_true rfl, Nat.le_of_ble_eq_true rfl⟩ ⟨Nat.le_of_ble_eq_true rfl, Nat.le_of_ble_eq_true rfl⟩ ⟨Nat.le_of_ble_eq_true rfl, Nat.le_of_ble_eq_true rfl⟩
  replace h := bd_some h
  obtain ⟨_, hf18, h⟩ := h
  refine r_callSV (As := [.int (jI x2), .int (jI r7)]) (rest := []) C hM2 (c_X10_requireIndex l E z hx2 hr7 hf18) jy_X10_requireIndex lk_X10_172 dX10_move_18 rfl rfl hl.1 (Nat.le_of_ble_eq_true rfl) ⟨Nat.le_of_ble_eq_true rfl, Nat.le_of_ble_eq_true rfl⟩ ⟨rfl, rfl⟩ ⟨Nat.zero_le _, Nat.zero_le _⟩ (fun H locs hM3 => ?_)
  exact nomatch h
set_option maxRecDepth 100000 in
set_option maxHeartbeats 4000000 in
theorem cx_X10_setWeek (l : Launch) (hst : l.stackTraces = false) (E : jE) (z : Nat) {x1 : Int} {M M' : Mem} {k : Nat} (hx1 : inR x1) (h : x_X10_setWeek x1 M = some (k, M')) : CtX (QXi E) l yX10_setWeek cX10_setWeek 2 (some .int) { frames := 8, cells := 1, slots := 6, locals := 143 } E z LyC [.ref (z + 0), .int (jI x1)] M k M' := by
  refine jmX (by decide +kernel) (Nat.le_of_ble_eq_true rfl) ?_
  intro p e sM m below meth c C hM0 hX hlk hml ht ls hl
  replace hl : lv_has ls 2 [(0, .ref (z + 0)), (1, .int (jI x1))] := hl
  unfold x_X10_setWeek at h
  refine r_iconst C dX10_setWeek_0 ?_
  refine r_iload_n C dX10_setWeek_1 rfl hl 1 rfl ?_
  rcases xo_some h with h | ⟨_, h⟩
  · exact r_callSVX (As := [.int (jI 0), .int (jI x1)]) (rest := []) C hM0 hX (cx_X10_requireSetting l hst E z ⟨by decide, by decide⟩ hx1 h) jy_X10_requireSetting lk_X10_348 dX10_setWeek_2 ht hlk rfl rfl hl.1 (Nat.le_of_ble_eq_true rfl) ⟨Nat.le_of_ble_eq_true rfl, Nat.le_of_ble_eq_true rfl⟩ ⟨Nat.le_of_ble_eq_true rfl, Nat.le_of_ble_eq_true rfl⟩ ⟨Nat.le_of_ble_eq_true rfl, Nat.le_of_ble_eq_true rfl⟩
  replace h := bd_some h
  obtain ⟨_, hf2, h⟩ := h
  refine r_callSV (As := [.int (jI 0), .int (jI x1)]) (rest := []) C hM0 (c_X10_requireSetting l E z ⟨by decide, by decide⟩ hx1 hf2) jy_X10_requireSetting lk_X10_348 dX10_setWeek_2 rfl rfl hl.1 (Nat.le_of_ble_eq_true rfl) ⟨Nat.le_of_ble_eq_true rfl, Nat.le_of_ble_eq_true rfl⟩ ⟨rfl, rfl⟩ ⟨Nat.zero_le _, Nat.zero_le _⟩ (fun H locs hM1 => ?_)
  exact nomatch h
set_option maxRecDepth 100000 in
set_option maxHeartbeats 4000000 in
theorem cx_X10_setVoice (l : Launch) (hst : l.stackTraces = false) (E : jE) (z : Nat) {x1 : Int} {x2 : Int} {M M' : Mem} {k : Nat} (hx1 : inR x1) (hx2 : inR x2) (h : x_X10_setVoice x1 x2 M = some (k, M')) : CtX (QXi E) l yX10_setVoice cX10_setVoice 3 (some .int) { frames := 8, cells := 1, slots := 6, locals := 143 } E z LyC [.ref (z + 0), .int (jI x1), .int (jI x2)] M k M' := by
  refine jmX (by decide +kernel) (Nat.le_of_ble_eq_true rfl) ?_
  intro p e sM m below meth c C hM0 hX hlk hml ht ls hl
  replace hl : lv_has ls 3 [(0, .ref (z + 0)), (1, .int (jI x1)), (2, .int (jI x2))] := hl
  unfold x_X10_setVoice at h
  refine r_iconst C dX10_setVoice_0 ?_
  refine r_iload_n C dX10_setVoice_1 rfl hl 1 rfl ?_
  rcases xo_some h with h | ⟨_, h⟩
  · exact r_callSVX (As := [.int (jI 1), .int (jI x1)]) (rest := []) C hM0 hX (cx_X10_requireSetting l hst E z ⟨by decide, by decide⟩ hx1 h) jy_X10_requireSetting lk_X10_348 dX10_setVoice_2 ht hlk rfl rfl hl.1 (Nat.le_of_ble_eq_true rfl) ⟨Nat.le_of_ble_eq_true rfl, Nat.le_of_ble_eq_true rfl⟩ ⟨Nat.le_of_ble_eq_true rfl, Nat.le_of_ble_eq_true rfl⟩ ⟨Nat.le_of_ble_eq_true rfl, Nat.le_of_ble_eq_true rfl⟩
  replace h := bd_some h
  obtain ⟨_, hf2, h⟩ := h
  refine r_callSV (As := [.int (jI 1), .int (jI x1)]) (rest := []) C hM0 (c_X10_requireSetting l E z ⟨by decide, by decide⟩ hx1 hf2) jy_X10_requireSetting lk_X10_348 dX10_setVoice_2 rfl rfl hl.1 (Nat.le_of_ble_eq_true rfl) ⟨Nat.le_of_ble_eq_true rfl, Nat.le_of_ble_eq_true rfl⟩ ⟨rfl, rfl⟩ ⟨Nat.zero_le _, Nat.zero_le _⟩ (fun H locs hM1 => ?_)
  refine r_iconst C dX10_setVoice_5 ?_
  refine r_iload_n C dX10_setVoice_6 rfl hl 2 rfl ?_
  rcases xo_some h with h | ⟨_, h⟩
  · exact r_callSVX (As := [.int (jI 2), .int (jI x2)]) (rest := []) C hM1 hX (cx_X10_requireSetting l hst E z ⟨by decide, by decide⟩ hx2 h) jy_X10_requireSetting lk_X10_348 dX10_setVoice_7 ht hlk rfl rfl hl.1 (Nat.le_of_ble_eq_true rfl) ⟨Nat.le_of_ble_eq_true rfl, Nat.le_of_ble_eq_true rfl⟩ ⟨Nat.le_of_ble_eq_true rfl, Nat.le_of_ble_eq_true rfl⟩ ⟨Nat.le_of_ble_eq_true rfl, Nat.le_of_ble_eq_true rfl⟩
  replace h := bd_some h
  obtain ⟨_, hf7, h⟩ := h
  refine r_callSV (As := [.int (jI 2), .int (jI x2)]) (rest := []) C hM1 (c_X10_requireSetting l E z ⟨by decide, by decide⟩ hx2 hf7) jy_X10_requireSetting lk_X10_348 dX10_setVoice_7 rfl rfl hl.1 (Nat.le_of_ble_eq_true rfl) ⟨Nat.le_of_ble_eq_true rfl, Nat.le_of_ble_eq_true rfl⟩ ⟨rfl, rfl⟩ ⟨Nat.zero_le _, Nat.zero_le _⟩ (fun H locs hM2 => ?_)
  exact nomatch h
set_option maxRecDepth 100000 in
set_option maxHeartbeats 4000000 in
theorem cx_X10_setSlack (l : Launch) (hst : l.stackTraces = false) (E : jE) (z : Nat) {x1 : Int} {M M' : Mem} {k : Nat} (hx1 : inR x1) (h : x_X10_setSlack x1 M = some (k, M')) : CtX (QXi E) l yX10_setSlack cX10_setSlack 3 (some .int) { frames := 8, cells := 1, slots := 6, locals := 143 } E z LyC [.ref (z + 0), .int (jI x1)] M k M' := by
  refine jmX (by decide +kernel) (Nat.le_of_ble_eq_true rfl) ?_
  intro p e sM m below meth c C hM0 hX hlk hml ht ls hl
  replace hl : lv_has ls 3 [(0, .ref (z + 0)), (1, .int (jI x1))] := hl
  unfold x_X10_setSlack at h
  refine r_iconst C dX10_setSlack_0 ?_
  refine r_iload_n C dX10_setSlack_1 rfl hl 1 rfl ?_
  rcases xo_some h with h | ⟨_, h⟩
  · exact r_callSVX (As := [.int (jI 4), .int (jI x1)]) (rest := []) C hM0 hX (cx_X10_requireSetting l hst E z ⟨by decide, by decide⟩ hx1 h) jy_X10_requireSetting lk_X10_348 dX10_setSlack_2 ht hlk rfl rfl hl.1 (Nat.le_of_ble_eq_true rfl) ⟨Nat.le_of_ble_eq_true rfl, Nat.le_of_ble_eq_true rfl⟩ ⟨Nat.le_of_ble_eq_true rfl, Nat.le_of_ble_eq_true rfl⟩ ⟨Nat.le_of_ble_eq_true rfl, Nat.le_of_ble_eq_true rfl⟩
  replace h := bd_some h
  obtain ⟨_, hf2, h⟩ := h
  refine r_callSV (As := [.int (jI 4), .int (jI x1)]) (rest := []) C hM0 (c_X10_requireSetting l E z ⟨by decide, by decide⟩ hx1 hf2) jy_X10_requireSetting lk_X10_348 dX10_setSlack_2 rfl rfl hl.1 (Nat.le_of_ble_eq_true rfl) ⟨Nat.le_of_ble_eq_true rfl, Nat.le_of_ble_eq_true rfl⟩ ⟨rfl, rfl⟩ ⟨Nat.zero_le _, Nat.zero_le _⟩ (fun H locs hM1 => ?_)
  exact nomatch h
set_option maxRecDepth 100000 in
set_option maxHeartbeats 4000000 in
theorem cx_X10_save (l : Launch) (hst : l.stackTraces = false) (E : jE) (z : Nat) {x1 : Int} {M M' : Mem} {k : Nat} (hx1 : inR x1) (h : x_X10_save x1 M = some (k, M')) : CtX (QXv E) l yX10_save cX10_save 2 none { frames := 7, cells := 1, slots := 6, locals := 122 } E z LyC [.ref (z + 0), .int (jI x1)] M k M' := by
  refine jmX (by decide +kernel) (Nat.le_of_ble_eq_true rfl) ?_
  intro p e sM m below meth c C hM0 hX hlk hml ht ls hl
  replace hl : lv_has ls 2 [(0, .ref (z + 0)), (1, .int (jI x1))] := hl
  unfold x_X10_save at h
  refine r_iload_n C dX10_save_0 rfl hl 1 rfl ?_
  refine r_iconst C dX10_save_1 ?_
  refine r_iconst C dX10_save_2 ?_
  rcases xo_some h with h | ⟨_, h⟩
  · exact r_callSVX (As := [.int (jI x1), .int (jI 0), .int (jI 1)]) (rest := []) C hM0 hX (cx_X10_requireRange l hst E z hx1 ⟨by decide, by decide⟩ ⟨by decide, by decide⟩ h) jy_X10_requireRange lk_X10_97 dX10_save_3 ht hlk rfl rfl hl.1 (Nat.le_of_ble_eq_true rfl) ⟨Nat.le_of_ble_eq_true rfl, Nat.le_of_ble_eq_true rfl⟩ ⟨Nat.le_of_ble_eq_true rfl, Nat.le_of_ble_eq_true rfl⟩ ⟨Nat.le_of_ble_eq_true rfl, Nat.le_of_ble_eq_true rfl⟩
  replace h := bd_some h
  obtain ⟨_, hf3, h⟩ := h
  refine r_callSV (As := [.int (jI x1), .int (jI 0), .int (jI 1)]) (rest := []) C hM0 (c_X10_requireRange l E z hx1 ⟨by decide, by decide⟩ ⟨by decide, by decide⟩ hf3) jy_X10_requireRange lk_X10_97 dX10_save_3 rfl rfl hl.1 (Nat.le_of_ble_eq_true rfl) ⟨Nat.le_of_ble_eq_true rfl, Nat.le_of_ble_eq_true rfl⟩ ⟨rfl, rfl⟩ ⟨Nat.zero_le _, Nat.zero_le _⟩ (fun H locs hM1 => ?_)
  exact nomatch h
set_option maxRecDepth 100000 in
set_option maxHeartbeats 4000000 in
theorem cx_X10_restore (l : Launch) (hst : l.stackTraces = false) (E : jE) (z : Nat) {x1 : Int} {M M' : Mem} {k : Nat} (hx1 : inR x1) (h : x_X10_restore x1 M = some (k, M')) : CtX (QXv E) l yX10_restore cX10_restore 2 none { frames := 7, cells := 1, slots := 6, locals := 122 } E z LyC [.ref (z + 0), .int (jI x1)] M k M' := by
  refine jmX (by decide +kernel) (Nat.le_of_ble_eq_true rfl) ?_
  intro p e sM m below meth c C hM0 hX hlk hml ht ls hl
  replace hl : lv_has ls 2 [(0, .ref (z + 0)), (1, .int (jI x1))] := hl
  unfold x_X10_restore at h
  refine r_iload_n C dX10_restore_0 rfl hl 1 rfl ?_
  refine r_iconst C dX10_restore_1 ?_
  refine r_iconst C dX10_restore_2 ?_
  rcases xo_some h with h | ⟨_, h⟩
  · exact r_callSVX (As := [.int (jI x1), .int (jI 0), .int (jI 1)]) (rest := []) C hM0 hX (cx_X10_requireRange l hst E z hx1 ⟨by decide, by decide⟩ ⟨by decide, by decide⟩ h) jy_X10_requireRange lk_X10_97 dX10_restore_3 ht hlk rfl rfl hl.1 (Nat.le_of_ble_eq_true rfl) ⟨Nat.le_of_ble_eq_true rfl, Nat.le_of_ble_eq_true rfl⟩ ⟨Nat.le_of_ble_eq_true rfl, Nat.le_of_ble_eq_true rfl⟩ ⟨Nat.le_of_ble_eq_true rfl, Nat.le_of_ble_eq_true rfl⟩
  replace h := bd_some h
  obtain ⟨_, hf3, h⟩ := h
  refine r_callSV (As := [.int (jI x1), .int (jI 0), .int (jI 1)]) (rest := []) C hM0 (c_X10_requireRange l E z hx1 ⟨by decide, by decide⟩ ⟨by decide, by decide⟩ hf3) jy_X10_requireRange lk_X10_97 dX10_restore_3 rfl rfl hl.1 (Nat.le_of_ble_eq_true rfl) ⟨Nat.le_of_ble_eq_true rfl, Nat.le_of_ble_eq_true rfl⟩ ⟨rfl, rfl⟩ ⟨Nat.zero_le _, Nat.zero_le _⟩ (fun H locs hM1 => ?_)
  refine r_aload_n C dX10_restore_6 rfl hl 0 rfl ?_
  refine r_getR C hM1 jc10 8 55 dX10_restore_7 lk_X10_47 lc_0.1 lc_0.2 rfl rfl (by decide) rfl ?_
  refine r_iload_n C dX10_restore_10 rfl hl 1 rfl ?_
  replace h := ck_some h
  obtain ⟨hc2, h⟩ := h
  refine r_zald C hM1 rfl dX10_restore_11 lc_55.1 lc_55.2 hc2 hx1 ?_
  refine r_if_ne C 26 (hM0.ok _ _) dX10_restore_12 (by decide) (fun cq => ?_) (fun cq => ?_)
  · replace h := ifn cq h
    exact nomatch h
  · replace h := ifp cq h
    cases h
    exact r_throwSW C hM1 hX hst 3 xk_3.1 xk_3.2 (List.mem_of_getElem? (i := 23) rfl) ex_at_3 ex_ot_3 (by decide +kernel) dX10_restore_15 dX10_restore_18 dX10_restore_19 dX10_restore_22 dX10_restore_25 ht hlk (hl.1.trans hml.symm) ⟨Nat.le_of_ble_eq_true rfl, Nat.le_of_ble_eq_true rfl, Nat.le_of_ble_eq_true rfl, Nat.le_of_ble_eq_true rfl⟩ (Nat.le_of_ble_eq_true rfl) (Nat.le_of_ble_eq_true rfl)
