set_option maxRecDepth 100000 in
set_option maxHeartbeats 4000000 in
theorem c_X10_appendText (l : Launch) (E : jE) (z : Nat) {x1 : Int} {M M' : Mem} {r : Int} (hx1 : inR x1) (h : f_X10_appendText x1 M = some (r, M')) : CtI l yX10_appendText cX10_appendText 2 (some .int) { frames := 1, cells := 0, slots := 0, locals := 22 } E z LyC [.ref (z + 0), .int (jI x1)] M r M' := by
  refine jm (by decide +kernel) (Nat.le_of_ble_eq_true rfl) ?_
  intro p e sM m below meth c C hM0 hr hlk ls hl
  replace hl : lv_has ls 2 [(0, .ref (z + 0)), (1, .int (jI x1))] := hl
  unfold f_X10_appendText at h
  refine r_aload_n C dX10_appendText_0 rfl hl 0 rfl ?_
  refine r_getR C hM0 jc10 0 1 dX10_appendText_1 lk_X10_12 lc_0.1 lc_0.2 rfl rfl (by decide) rfl ?_
  refine r_getI C hM0 jc8 1 rfl dX10_appendText_4 lk_X10_83 lc_1.1 lc_1.2 rfl rfl (by decide) rfl ?_
  refine r_sipush C dX10_appendText_7 rfl ?_
  refine r_icmp_le C 23 (hM0.ok _ _) ⟨by decide, by decide⟩ dX10_appendText_10 (by decide) (fun cq => ?_) (fun cq => ?_)
  · replace h := ifp cq h
    refine r_aload_n C dX10_appendText_23 rfl hl 0 rfl ?_
    refine r_getR C hM0 jc10 0 1 dX10_appendText_24 lk_X10_12 lc_0.1 lc_0.2 rfl rfl (by decide) rfl ?_
    refine r_iload_n C dX10_appendText_27 rfl hl 1 rfl ?_
    replace h := bd_some h
    obtain ⟨M28, hf28, h⟩ := h
    refine r_callV (As := [.int (jI x1)]) (rest := []) C hM0 (c_X8_append l E z hx1 hf28) jy_X8_append lk_X10_93 dX10_appendText_28 (recvW C hM0 jc8 lc_1.1 lc_1.2 rfl) rfl rfl hl.1 (Nat.le_of_ble_eq_true rfl) ⟨Nat.le_of_ble_eq_true rfl, Nat.le_of_ble_eq_true rfl⟩ ⟨rfl, rfl⟩ ⟨Nat.zero_le _, Nat.zero_le _⟩ (fun H locs hM1 => ?_)
    refine r_aload_n C dX10_appendText_31 rfl hl 0 rfl ?_
    refine r_getR C hM1 jc10 0 1 dX10_appendText_32 lk_X10_12 lc_0.1 lc_0.2 rfl rfl (by decide) rfl ?_
    refine r_getI C hM1 jc8 1 rfl dX10_appendText_35 lk_X10_83 lc_1.1 lc_1.2 rfl rfl (by decide) rfl ?_
    exact r_ireturnM C hM1 hr hlk (hM1.ok _ _) h dX10_appendText_38
  · replace h := ifn cq h
    cases h
set_option maxRecDepth 100000 in
set_option maxHeartbeats 4000000 in
theorem c_X10_requireRange (l : Launch) (E : jE) (z : Nat) {x0 : Int} {x1 : Int} {x2 : Int} {M : Mem} (hx0 : inR x0) (hx1 : inR x1) (hx2 : inR x2) (h : f_X10_requireRange x0 x1 x2 M = some ()) : CtV l yX10_requireRange cX10_requireRange 3 none { frames := 0, cells := 0, slots := 0, locals := 0 } E z LyC [.int (jI x0), .int (jI x1), .int (jI x2)] M M := by
  refine jm (by decide +kernel) (Nat.le_of_ble_eq_true rfl) ?_
  intro p e sM m below meth c C hM0 hr hlk ls hl
  replace hl : lv_has ls 3 [(0, .int (jI x0)), (1, .int (jI x1)), (2, .int (jI x2))] := hl
  unfold f_X10_requireRange at h
  refine r_iload_n C dX10_requireRange_0 rfl hl 0 rfl ?_
  refine r_iload_n C dX10_requireRange_1 rfl hl 1 rfl ?_
  replace h := jn_some h
  obtain ⟨k10, hk10, h⟩ := h
  have hJ10 : ∀ (_ : Unit), ∀ (H : Heap) (locs : List Loc) (ls : Array Slot), k10 () = some () → HS E z LyC M sM H locs → lv_has ls 3 [] → W p l e ({ frames := 0, cells := 0, slots := 0, locals := 0 } : Room) sM m (([.int (jI x0), .int (jI x1), .int (jI x2)] : List Value).toArray) below meth c H locs 0 0 (MQ below (va_Qv (fun (_ : Unit) => Mok LyC M) (fun _ t => va_P (eD E) vwCl (Wd (eC E) z LyC M) t.heap) (eA E)) (([.int (jI x0), .int (jI x1), .int (jI x2)] : List Value).toArray) sM 0 0 (eA E)) (F0 m 10 ls []) := by
    intro _ H locs ls h hMj10 hl
    subst hk10
    try dsimp only at h
    cases h
  refine r_icmp_lt C 10 hx0 hx1 dX10_requireRange_2 (by decide) (fun cq => ?_) (fun cq => ?_)
  · replace h := ifp cq h
    exact hJ10 () _ _ _ h hM0 (lv_sub hl [] rfl)
  · replace h := ifn cq h
    refine r_iload_n C dX10_requireRange_5 rfl hl 0 rfl ?_
    refine r_iload_n C dX10_requireRange_6 rfl hl 2 rfl ?_
    refine r_icmp_le C 21 hx0 hx2 dX10_requireRange_7 (by decide) (fun cq => ?_) (fun cq => ?_)
    · replace h := ifp cq h
      exact r_return C hM0 hr hlk rfl dX10_requireRange_21
    · replace h := ifn cq h
      exact hJ10 () _ _ _ h hM0 (lv_sub hl [] rfl)
set_option maxRecDepth 100000 in
set_option maxHeartbeats 4000000 in
theorem c_X10_truncateText (l : Launch) (E : jE) (z : Nat) {x1 : Int} {M M' : Mem} {r : Int} (hx1 : inR x1) (h : f_X10_truncateText x1 M = some (r, M')) : CtI l yX10_truncateText cX10_truncateText 2 (some .int) { frames := 1, cells := 0, slots := 0, locals := 22 } E z LyC [.ref (z + 0), .int (jI x1)] M r M' := by
  refine jm (by decide +kernel) (Nat.le_of_ble_eq_true rfl) ?_
  intro p e sM m below meth c C hM0 hr hlk ls hl
  replace hl : lv_has ls 2 [(0, .ref (z + 0)), (1, .int (jI x1))] := hl
  unfold f_X10_truncateText at h
  refine r_iload_n C dX10_truncateText_0 rfl hl 1 rfl ?_
  refine r_iconst C dX10_truncateText_1 ?_
  refine r_aload_n C dX10_truncateText_2 rfl hl 0 rfl ?_
  refine r_getR C hM0 jc10 0 1 dX10_truncateText_3 lk_X10_12 lc_0.1 lc_0.2 rfl rfl (by decide) rfl ?_
  refine r_getI C hM0 jc8 1 rfl dX10_truncateText_6 lk_X10_83 lc_1.1 lc_1.2 rfl rfl (by decide) rfl ?_
  replace h := bd_some h
  obtain ⟨_, hf9, h⟩ := h
  refine r_callSV (As := [.int (jI x1), .int (jI 0), .int (jI (M 1 1))]) (rest := []) C hM0 (c_X10_requireRange l E z hx1 ⟨by decide, by decide⟩ (hM0.ok _ _) hf9) jy_X10_requireRange lk_X10_97 dX10_truncateText_9 rfl rfl hl.1 (Nat.le_of_ble_eq_true rfl) ⟨Nat.le_of_ble_eq_true rfl, Nat.le_of_ble_eq_true rfl⟩ ⟨rfl, rfl⟩ ⟨Nat.zero_le _, Nat.zero_le _⟩ (fun H locs hM1 => ?_)
  refine r_aload_n C dX10_truncateText_12 rfl hl 0 rfl ?_
  refine r_getR C hM1 jc10 0 1 dX10_truncateText_13 lk_X10_12 lc_0.1 lc_0.2 rfl rfl (by decide) rfl ?_
  refine r_iload_n C dX10_truncateText_16 rfl hl 1 rfl ?_
  refine r_putI C hM1 jc8 1 hx1 dX10_truncateText_17 lk_X10_83 lc_1.1 lc_1.2 rfl rfl (by decide) rfl rfl rfl (Nat.le_of_ble_eq_true rfl) (by decide) (fun H locs hM2 => ?_)
  replace h := lt_some h
  obtain ⟨N3, eN3, h⟩ := h
  rw [← eN3] at hM2
  refine r_iload_n C dX10_truncateText_20 rfl hl 1 rfl ?_
  exact r_ireturnM C hM2 hr hlk hx1 h dX10_truncateText_21
set_option maxRecDepth 100000 in
set_option maxHeartbeats 4000000 in
theorem c_X10_forgetActs (l : Launch) (E : jE) (z : Nat) {M M' : Mem} (h : f_X10_forgetActs M = some M') : CtV l yX10_forgetActs cX10_forgetActs 1 none { frames := 0, cells := 0, slots := 0, locals := 0 } E z LyC [.ref (z + 0)] M M' := by
  refine jm (by decide +kernel) (Nat.le_of_ble_eq_true rfl) ?_
  intro p e sM m below meth c C hM0 hr hlk ls hl
  replace hl : lv_has ls 1 [(0, .ref (z + 0))] := hl
  unfold f_X10_forgetActs at h
  refine r_aload_n C dX10_forgetActs_0 rfl hl 0 rfl ?_
  refine r_iconst C dX10_forgetActs_1 ?_
  refine r_putI C hM0 jc10 5 ⟨by decide, by decide⟩ dX10_forgetActs_2 lk_X10_37 lc_0.1 lc_0.2 rfl rfl (by decide) rfl rfl rfl (Nat.le_of_ble_eq_true rfl) (by decide) (fun H locs hM1 => ?_)
  replace h := lt_some h
  obtain ⟨N2, eN2, h⟩ := h
  rw [← eN2] at hM1
  refine r_aload_n C dX10_forgetActs_5 rfl hl 0 rfl ?_
  refine r_iconst C dX10_forgetActs_6 ?_
  refine r_putI C hM1 jc10 6 ⟨by decide, by decide⟩ dX10_forgetActs_7 lk_X10_41 lc_0.1 lc_0.2 rfl rfl (by decide) rfl rfl rfl (Nat.le_of_ble_eq_true rfl) (by decide) (fun H locs hM3 => ?_)
  replace h := lt_some h
  obtain ⟨N4, eN4, h⟩ := h
  rw [← eN4] at hM3
  exact r_return C hM3 hr hlk h dX10_forgetActs_10
set_option maxRecDepth 100000 in
set_option maxHeartbeats 4000000 in
theorem c_X10_settle (l : Launch) (E : jE) (z : Nat) {M M' : Mem} (h : f_X10_settle M = some M') : CtV l yX10_settle cX10_settle 1 none { frames := 26, cells := 0, slots := 0, locals := 803 } E z LyC [.ref (z + 0)] M M' := by
  refine jm (by decide +kernel) (Nat.le_of_ble_eq_true rfl) ?_
  intro p e sM m below meth c C hM0 hr hlk ls hl
  replace hl : lv_has ls 1 [(0, .ref (z + 0))] := hl
  unfold f_X10_settle at h
  refine r_aload_n C dX10_settle_0 rfl hl 0 rfl ?_
  refine r_getR C hM0 jc10 9 56 dX10_settle_1 lk_X10_54 lc_0.1 lc_0.2 rfl rfl (by decide) rfl ?_
  refine r_aload_n C dX10_settle_4 rfl hl 0 rfl ?_
  refine r_getR C hM0 jc10 2 5 dX10_settle_5 lk_X10_26 lc_0.1 lc_0.2 rfl rfl (by decide) rfl ?_
  refine r_getR C hM0 jc7 2 22 dX10_settle_8 lk_X10_111 lc_5.1 lc_5.2 rfl rfl (by decide) rfl ?_
  replace h := bd_some h
  obtain ⟨M11, hf11, h⟩ := h
  refine r_callV (As := [.ref (z + 22)]) (rest := []) C hM0 (c_X5_cutFrom l E z (show isSt 5 by decide) hf11) jy_X5_cutFrom lk_X10_392 dX10_settle_11 (recvW C hM0 jc5 lc_56.1 lc_56.2 rfl) rfl rfl hl.1 (Nat.le_of_ble_eq_true rfl) ⟨Nat.le_of_ble_eq_true rfl, Nat.le_of_ble_eq_true rfl⟩ ⟨rfl, rfl⟩ ⟨Nat.zero_le _, Nat.zero_le _⟩ (fun H locs hM1 => ?_)
  refine r_aload_n C dX10_settle_14 rfl hl 0 rfl ?_
  refine r_getR C hM1 jc10 10 64 dX10_settle_15 lk_X10_61 lc_0.1 lc_0.2 rfl rfl (by decide) rfl ?_
  refine r_aload_n C dX10_settle_18 rfl hl 0 rfl ?_
  refine r_getR C hM1 jc10 2 5 dX10_settle_19 lk_X10_26 lc_0.1 lc_0.2 rfl rfl (by decide) rfl ?_
  refine r_getR C hM1 jc7 1 16 dX10_settle_22 lk_X10_120 lc_5.1 lc_5.2 rfl rfl (by decide) rfl ?_
  refine r_aload_n C dX10_settle_25 rfl hl 0 rfl ?_
  refine r_getR C hM1 jc10 2 5 dX10_settle_26 lk_X10_26 lc_0.1 lc_0.2 rfl rfl (by decide) rfl ?_
  refine r_getR C hM1 jc7 0 6 dX10_settle_29 lk_X10_101 lc_5.1 lc_5.2 rfl rfl (by decide) rfl ?_
  replace h := bd_some h
  obtain ⟨M32, hf32, h⟩ := h
  refine r_callV (As := [.ref (z + 16), .ref (z + 6)]) (rest := []) C hM1 (c_X6_timeFrom l E z (show isSt 5 by decide) (show isSt 5 by decide) hf32) jy_X6_timeFrom lk_X10_395 dX10_settle_32 (recvW C hM1 jc6 lc_64.1 lc_64.2 rfl) rfl rfl hl.1 (Nat.le_of_ble_eq_true rfl) ⟨Nat.le_of_ble_eq_true rfl, Nat.le_of_ble_eq_true rfl⟩ ⟨rfl, rfl⟩ ⟨Nat.zero_le _, Nat.zero_le _⟩ (fun H locs hM2 => ?_)
  exact r_return C hM2 hr hlk h dX10_settle_35
set_option maxRecDepth 100000 in
set_option maxHeartbeats 4000000 in
theorem c_X10_load (l : Launch) (E : jE) (z : Nat) {M M' : Mem} {r : Int} (h : f_X10_load M = some (r, M')) : CtI l yX10_load cX10_load 2 (some .int) { frames := 27, cells := 0, slots := 0, locals := 823 } E z LyC [.ref (z + 0)] M r M' := by
  refine jm (by decide +kernel) (Nat.le_of_ble_eq_true rfl) ?_
  intro p e sM m below meth c C hM0 hr hlk ls hl
  replace hl : lv_has ls 2 [(0, .ref (z + 0))] := hl
  unfold f_X10_load at h
  refine r_aload_n C dX10_load_0 rfl hl 0 rfl ?_
  refine r_getR C hM0 jc10 3 29 dX10_load_1 lk_X10_30 lc_0.1 lc_0.2 rfl rfl (by decide) rfl ?_
  refine r_getR C hM0 jc7 0 30 dX10_load_4 lk_X10_101 lc_29.1 lc_29.2 rfl rfl (by decide) rfl ?_
  refine r_aload_n C dX10_load_7 rfl hl 0 rfl ?_
  refine r_getR C hM0 jc10 0 1 dX10_load_8 lk_X10_12 lc_0.1 lc_0.2 rfl rfl (by decide) rfl ?_
  replace h := bd_some h
  obtain ⟨⟨r11, M11⟩, hf11, h⟩ := h
  try dsimp only at h
  refine r_callI (As := [.ref (z + 1)]) (rest := []) C hM0 (c_X3_readFrom l E z (show isSt 29 by decide) hf11) jy_X3_readFrom lk_X10_105 dX10_load_11 (recvW C hM0 jc3 lc_30.1 lc_30.2 rfl) rfl rfl hl.1 (Nat.le_of_ble_eq_true rfl) ⟨Nat.le_of_ble_eq_true rfl, Nat.le_of_ble_eq_true rfl⟩ ⟨rfl, rfl⟩ ⟨Nat.zero_le _, Nat.zero_le _⟩ (fun H locs hr11 hM1 => ?_)
  refine r_istore_n C [(1, .int (jI r11)), (0, .ref (z + 0))] dX10_load_14 rfl hl (by decide) rfl (fun ls hl => ?_)
  refine r_aload_n C dX10_load_15 rfl hl 1 rfl ?_
  refine r_getR C hM1 jc10 0 1 dX10_load_16 lk_X10_12 lc_0.1 lc_0.2 rfl rfl (by decide) rfl ?_
  refine r_iconst C dX10_load_19 ?_
  refine r_putI C hM1 jc8 1 ⟨by decide, by decide⟩ dX10_load_20 lk_X10_83 lc_1.1 lc_1.2 rfl rfl (by decide) rfl rfl rfl (Nat.le_of_ble_eq_true rfl) (by decide) (fun H locs hM2 => ?_)
  replace h := lt_some h
  obtain ⟨N3, eN3, h⟩ := h
  rw [← eN3] at hM2
  refine r_iload_n C dX10_load_23 rfl hl 0 rfl ?_
  refine r_if_ne C 29 hr11 dX10_load_24 (by decide) (fun cq => ?_) (fun cq => ?_)
  · replace h := ifn cq h
    refine r_aload_n C dX10_load_29 rfl hl 1 rfl ?_
    refine r_getR C hM2 jc10 3 29 dX10_load_30 lk_X10_30 lc_0.1 lc_0.2 rfl rfl (by decide) rfl ?_
    refine r_getR C hM2 jc7 2 46 dX10_load_33 lk_X10_111 lc_29.1 lc_29.2 rfl rfl (by decide) rfl ?_
    replace h := bd_some h
    obtain ⟨M36, hf36, h⟩ := h
    refine r_callV (As := []) (rest := []) C hM2 (c_X2_clear l E z (show isSt 29 by decide) hf36) jy_X2_clear lk_X10_115 dX10_load_36 (recvW C hM2 jc2 lc_46.1 lc_46.2 rfl) rfl rfl hl.1 (Nat.le_of_ble_eq_true rfl) ⟨Nat.le_of_ble_eq_true rfl, Nat.le_of_ble_eq_true rfl⟩ ⟨rfl, rfl⟩ ⟨Nat.zero_le _, Nat.zero_le _⟩ (fun H locs hM4 => ?_)
    refine r_aload_n C dX10_load_39 rfl hl 1 rfl ?_
    refine r_getR C hM4 jc10 3 29 dX10_load_40 lk_X10_30 lc_0.1 lc_0.2 rfl rfl (by decide) rfl ?_
    refine r_getR C hM4 jc7 1 40 dX10_load_43 lk_X10_120 lc_29.1 lc_29.2 rfl rfl (by decide) rfl ?_
    replace h := bd_some h
    obtain ⟨M46, hf46, h⟩ := h
    refine r_callV (As := []) (rest := []) C hM4 (c_X9_clear l E z (show isSt 29 by decide) hf46) jy_X9_clear lk_X10_124 dX10_load_46 (recvW C hM4 jc9 lc_40.1 lc_40.2 rfl) rfl rfl hl.1 (Nat.le_of_ble_eq_true rfl) ⟨Nat.le_of_ble_eq_true rfl, Nat.le_of_ble_eq_true rfl⟩ ⟨rfl, rfl⟩ ⟨Nat.zero_le _, Nat.zero_le _⟩ (fun H locs hM5 => ?_)
    refine r_aload_n C dX10_load_49 rfl hl 1 rfl ?_
    refine r_getR C hM5 jc10 2 5 dX10_load_50 lk_X10_26 lc_0.1 lc_0.2 rfl rfl (by decide) rfl ?_
    refine r_aload_n C dX10_load_53 rfl hl 1 rfl ?_
    refine r_getR C hM5 jc10 3 29 dX10_load_54 lk_X10_30 lc_0.1 lc_0.2 rfl rfl (by decide) rfl ?_
    replace h := bd_some h
    obtain ⟨M57, hf57, h⟩ := h
    refine r_callV (As := [.ref (z + 29)]) (rest := []) C hM5 (c_X7_copyFrom l E z (show isSt 5 by decide) (show isSt 29 by decide) hf57) jy_X7_copyFrom lk_X10_127 dX10_load_57 (recvW C hM5 jc7 lc_5.1 lc_5.2 rfl) rfl rfl hl.1 (Nat.le_of_ble_eq_true rfl) ⟨Nat.le_of_ble_eq_true rfl, Nat.le_of_ble_eq_true rfl⟩ ⟨rfl, rfl⟩ ⟨Nat.zero_le _, Nat.zero_le _⟩ (fun H locs hM6 => ?_)
    refine r_aload_n C dX10_load_60 rfl hl 1 rfl ?_
    replace h := bd_some h
    obtain ⟨M61, hf61, h⟩ := h
    refine r_callV (As := []) (rest := []) C hM6 (c_X10_forgetActs l E z hf61) jy_X10_forgetActs lk_X10_131 dX10_load_61 (recvW C hM6 jc10 lc_0.1 lc_0.2 rfl) rfl rfl hl.1 (Nat.le_of_ble_eq_true rfl) ⟨Nat.le_of_ble_eq_true rfl, Nat.le_of_ble_eq_true rfl⟩ ⟨rfl, rfl⟩ ⟨Nat.zero_le _, Nat.zero_le _⟩ (fun H locs hM7 => ?_)
    refine r_aload_n C dX10_load_64 rfl hl 1 rfl ?_
    replace h := bd_some h
    obtain ⟨M65, hf65, h⟩ := h
    refine r_callV (As := []) (rest := []) C hM7 (c_X10_settle l E z hf65) jy_X10_settle lk_X10_134 dX10_load_65 (recvW C hM7 jc10 lc_0.1 lc_0.2 rfl) rfl rfl hl.1 (Nat.le_of_ble_eq_true rfl) ⟨Nat.le_of_ble_eq_true rfl, Nat.le_of_ble_eq_true rfl⟩ ⟨rfl, rfl⟩ ⟨Nat.zero_le _, Nat.zero_le _⟩ (fun H locs hM8 => ?_)
    refine r_aload_n C dX10_load_68 rfl hl 1 rfl ?_
    refine r_getR C hM8 jc10 2 5 dX10_load_69 lk_X10_26 lc_0.1 lc_0.2 rfl rfl (by decide) rfl ?_
    refine r_getR C hM8 jc7 0 6 dX10_load_72 lk_X10_101 lc_5.1 lc_5.2 rfl rfl (by decide) rfl ?_
    refine r_getI C hM8 jc3 0 rfl dX10_load_75 lk_X10_137 lc_6.1 lc_6.2 rfl rfl (by decide) rfl ?_
    exact r_ireturnM C hM8 hr hlk (hM8.ok _ _) h dX10_load_78
  · replace h := ifp cq h
    refine r_iconst C dX10_load_27 ?_
    exact r_ireturnM C hM2 hr hlk ⟨by decide, by decide⟩ h dX10_load_28
set_option maxRecDepth 100000 in
set_option maxHeartbeats 4000000 in
theorem c_X10_errorCode (l : Launch) (E : jE) (z : Nat) {M : Mem} {r : Int} (h : f_X10_errorCode M = some r) : CtI l yX10_errorCode cX10_errorCode 1 (some .int) { frames := 0, cells := 0, slots := 0, locals := 0 } E z LyC [.ref (z + 0)] M r M := by
  refine jm (by decide +kernel) (Nat.le_of_ble_eq_true rfl) ?_
  intro p e sM m below meth c C hM0 hr hlk ls hl
  replace hl : lv_has ls 1 [(0, .ref (z + 0))] := hl
  unfold f_X10_errorCode at h
  refine r_aload_n C dX10_errorCode_0 rfl hl 0 rfl ?_
  refine r_getR C hM0 jc10 0 1 dX10_errorCode_1 lk_X10_12 lc_0.1 lc_0.2 rfl rfl (by decide) rfl ?_
  refine r_getI C hM0 jc8 7 rfl dX10_errorCode_4 lk_X10_140 lc_1.1 lc_1.2 rfl rfl (by decide) rfl ?_
  exact r_ireturn C hM0 hr hlk (hM0.ok _ _) h rfl dX10_errorCode_7
set_option maxRecDepth 100000 in
set_option maxHeartbeats 4000000 in
theorem c_X10_errorPosition (l : Launch) (E : jE) (z : Nat) {M : Mem} {r : Int} (h : f_X10_errorPosition M = some r) : CtI l yX10_errorPosition cX10_errorPosition 1 (some .int) { frames := 0, cells := 0, slots := 0, locals := 0 } E z LyC [.ref (z + 0)] M r M := by
  refine jm (by decide +kernel) (Nat.le_of_ble_eq_true rfl) ?_
  intro p e sM m below meth c C hM0 hr hlk ls hl
  replace hl : lv_has ls 1 [(0, .ref (z + 0))] := hl
  unfold f_X10_errorPosition at h
  refine r_aload_n C dX10_errorPosition_0 rfl hl 0 rfl ?_
  refine r_getR C hM0 jc10 0 1 dX10_errorPosition_1 lk_X10_12 lc_0.1 lc_0.2 rfl rfl (by decide) rfl ?_
  refine r_getI C hM0 jc8 8 rfl dX10_errorPosition_4 lk_X10_143 lc_1.1 lc_1.2 rfl rfl (by decide) rfl ?_
  exact r_ireturn C hM0 hr hlk (hM0.ok _ _) h rfl dX10_errorPosition_7
set_option maxRecDepth 100000 in
set_option maxHeartbeats 4000000 in
theorem c_X10_count (l : Launch) (E : jE) (z : Nat) {x1 : Int} {M : Mem} {r : Int} (hx1 : inR x1) (h : f_X10_count x1 M = some r) : CtI l yX10_count cX10_count 2 (some .int) { frames := 2, cells := 0, slots := 0, locals := 43 } E z LyC [.ref (z + 0), .int (jI x1)] M r M := by
  refine jm (by decide +kernel) (Nat.le_of_ble_eq_true rfl) ?_
  intro p e sM m below meth c C hM0 hr hlk ls hl
  replace hl : lv_has ls 2 [(0, .ref (z + 0)), (1, .int (jI x1))] := hl
  unfold f_X10_count at h
  refine r_iload_n C dX10_count_0 rfl hl 1 rfl ?_
  refine r_iconst C dX10_count_1 ?_
  refine r_bipush C dX10_count_2 rfl ?_
  replace h := bd_some h
  obtain ⟨_, hf4, h⟩ := h
  refine r_callSV (As := [.int (jI x1), .int (jI 0), .int (jI 13)]) (rest := []) C hM0 (c_X10_requireRange l E z hx1 ⟨by decide, by decide⟩ ⟨by decide, by decide⟩ hf4) jy_X10_requireRange lk_X10_97 dX10_count_4 rfl rfl hl.1 (Nat.le_of_ble_eq_true rfl) ⟨Nat.le_of_ble_eq_true rfl, Nat.le_of_ble_eq_true rfl⟩ ⟨rfl, rfl⟩ ⟨Nat.zero_le _, Nat.zero_le _⟩ (fun H locs hM1 => ?_)
  refine r_iload_n C dX10_count_7 rfl hl 1 rfl ?_
  by_cases cq : x1 = 0
  · replace h := ifp cq h
    refine r_table C 80 hx1 dX10_count_8 (by decide) (by rw [cq]; rfl) ?_
    refine r_aload_n C dX10_count_80 rfl hl 0 rfl ?_
    refine r_getR C hM1 jc10 2 5 dX10_count_81 lk_X10_26 lc_0.1 lc_0.2 rfl rfl (by decide) rfl ?_
    refine r_getR C hM1 jc7 0 6 dX10_count_84 lk_X10_101 lc_5.1 lc_5.2 rfl rfl (by decide) rfl ?_
    refine r_getI C hM1 jc3 0 rfl dX10_count_87 lk_X10_137 lc_6.1 lc_6.2 rfl rfl (by decide) rfl ?_
    exact r_ireturn C hM1 hr hlk (hM0.ok _ _) h rfl dX10_count_90
  · replace h := ifn cq h
    have c8_0 := cq
    by_cases cq : x1 = 1
    · replace h := ifp cq h
      refine r_table C 91 hx1 dX10_count_8 (by decide) (by rw [cq]; rfl) ?_
      refine r_aload_n C dX10_count_91 rfl hl 0 rfl ?_
      refine r_getR C hM1 jc10 2 5 dX10_count_92 lk_X10_26 lc_0.1 lc_0.2 rfl rfl (by decide) rfl ?_
      refine r_getR C hM1 jc7 0 6 dX10_count_95 lk_X10_101 lc_5.1 lc_5.2 rfl rfl (by decide) rfl ?_
      refine r_getI C hM1 jc3 3 rfl dX10_count_98 lk_X10_146 lc_6.1 lc_6.2 rfl rfl (by decide) rfl ?_
      exact r_ireturn C hM1 hr hlk (hM0.ok _ _) h rfl dX10_count_101
    · replace h := ifn cq h
      have c8_1 := cq
      by_cases cq : x1 = 2
      · replace h := ifp cq h
        refine r_table C 102 hx1 dX10_count_8 (by decide) (by rw [cq]; rfl) ?_
        refine r_aload_n C dX10_count_102 rfl hl 0 rfl ?_
        refine r_getR C hM1 jc10 2 5 dX10_count_103 lk_X10_26 lc_0.1 lc_0.2 rfl rfl (by decide) rfl ?_
        refine r_getR C hM1 jc7 0 6 dX10_count_106 lk_X10_101 lc_5.1 lc_5.2 rfl rfl (by decide) rfl ?_
        refine r_getI C hM1 jc3 6 rfl dX10_count_109 lk_X10_149 lc_6.1 lc_6.2 rfl rfl (by decide) rfl ?_
        exact r_ireturn C hM1 hr hlk (hM0.ok _ _) h rfl dX10_count_112
      · replace h := ifn cq h
        have c8_2 := cq
        by_cases cq : x1 = 8
        · replace h := ifp cq h
          refine r_table C 113 hx1 dX10_count_8 (by decide) (by rw [cq]; rfl) ?_
          refine r_aload_n C dX10_count_113 rfl hl 0 rfl ?_
          refine r_getR C hM1 jc10 2 5 dX10_count_114 lk_X10_26 lc_0.1 lc_0.2 rfl rfl (by decide) rfl ?_
          refine r_getR C hM1 jc7 2 22 dX10_count_117 lk_X10_111 lc_5.1 lc_5.2 rfl rfl (by decide) rfl ?_
          replace h := bd_some h
          obtain ⟨r120, hf120, h⟩ := h
          refine r_callI (As := []) (rest := []) C hM1 (c_X2_topCount l E z (show isSt 5 by decide) hf120) jy_X2_topCount lk_X10_152 dX10_count_120 (recvW C hM1 jc2 lc_22.1 lc_22.2 rfl) rfl rfl hl.1 (Nat.le_of_ble_eq_true rfl) ⟨Nat.le_of_ble_eq_true rfl, Nat.le_of_ble_eq_true rfl⟩ ⟨rfl, rfl⟩ ⟨Nat.zero_le _, Nat.zero_le _⟩ (fun H locs hr120 hM2 => ?_)
          exact r_ireturn C hM2 hr hlk hr120 h rfl dX10_count_123
        · replace h := ifn cq h
          have c8_8 := cq
          by_cases cq : x1 = 9
          · replace h := ifp cq h
            refine r_table C 124 hx1 dX10_count_8 (by decide) (by rw [cq]; rfl) ?_
            refine r_aload_n C dX10_count_124 rfl hl 0 rfl ?_
            refine r_getR C hM1 jc10 2 5 dX10_count_125 lk_X10_26 lc_0.1 lc_0.2 rfl rfl (by decide) rfl ?_
            refine r_getR C hM1 jc7 2 22 dX10_count_128 lk_X10_111 lc_5.1 lc_5.2 rfl rfl (by decide) rfl ?_
            refine r_getI C hM1 jc2 0 rfl dX10_count_131 lk_X10_156 lc_22.1 lc_22.2 rfl rfl (by decide) rfl ?_
            exact r_ireturn C hM1 hr hlk (hM0.ok _ _) h rfl dX10_count_134
          · replace h := ifn cq h
            have c8_9 := cq
            by_cases cq : x1 = 10
            · replace h := ifp cq h
              refine r_table C 135 hx1 dX10_count_8 (by decide) (by rw [cq]; rfl) ?_
              refine r_aload_n C dX10_count_135 rfl hl 0 rfl ?_
              refine r_getR C hM1 jc10 2 5 dX10_count_136 lk_X10_26 lc_0.1 lc_0.2 rfl rfl (by decide) rfl ?_
              refine r_getR C hM1 jc7 1 16 dX10_count_139 lk_X10_120 lc_5.1 lc_5.2 rfl rfl (by decide) rfl ?_
              refine r_getI C hM1 jc9 0 rfl dX10_count_142 lk_X10_159 lc_16.1 lc_16.2 rfl rfl (by decide) rfl ?_
              exact r_ireturn C hM1 hr hlk (hM0.ok _ _) h rfl dX10_count_145
            · replace h := ifn cq h
              have c8_10 := cq
              by_cases cq : x1 = 11
              · replace h := ifp cq h
                refine r_table C 146 hx1 dX10_count_8 (by decide) (by rw [cq]; rfl) ?_
                refine r_aload_n C dX10_count_146 rfl hl 0 rfl ?_
                refine r_getR C hM1 jc10 2 5 dX10_count_147 lk_X10_26 lc_0.1 lc_0.2 rfl rfl (by decide) rfl ?_
                refine r_getR C hM1 jc7 1 16 dX10_count_150 lk_X10_120 lc_5.1 lc_5.2 rfl rfl (by decide) rfl ?_
                replace h := bd_some h
                obtain ⟨r153, hf153, h⟩ := h
                refine r_callI (As := []) (rest := []) C hM1 (c_X9_allSyllables l E z (show isSt 5 by decide) hf153) jy_X9_allSyllables lk_X10_162 dX10_count_153 (recvW C hM1 jc9 lc_16.1 lc_16.2 rfl) rfl rfl hl.1 (Nat.le_of_ble_eq_true rfl) ⟨Nat.le_of_ble_eq_true rfl, Nat.le_of_ble_eq_true rfl⟩ ⟨rfl, rfl⟩ ⟨Nat.zero_le _, Nat.zero_le _⟩ (fun H locs hr153 hM3 => ?_)
                exact r_ireturn C hM3 hr hlk hr153 h rfl dX10_count_156
              · replace h := ifn cq h
                have c8_11 := cq
                by_cases cq : x1 = 12
                · replace h := ifp cq h
                  refine r_table C 157 hx1 dX10_count_8 (by decide) (by rw [cq]; rfl) ?_
                  refine r_aload_n C dX10_count_157 rfl hl 0 rfl ?_
                  refine r_getR C hM1 jc10 2 5 dX10_count_158 lk_X10_26 lc_0.1 lc_0.2 rfl rfl (by decide) rfl ?_
                  refine r_getR C hM1 jc7 1 16 dX10_count_161 lk_X10_120 lc_5.1 lc_5.2 rfl rfl (by decide) rfl ?_
                  replace h := bd_some h
                  obtain ⟨r164, hf164, h⟩ := h
                  refine r_callI (As := []) (rest := []) C hM1 (c_X9_sentences l E z (show isSt 5 by decide) hf164) jy_X9_sentences lk_X10_165 dX10_count_164 (recvW C hM1 jc9 lc_16.1 lc_16.2 rfl) rfl rfl hl.1 (Nat.le_of_ble_eq_true rfl) ⟨Nat.le_of_ble_eq_true rfl, Nat.le_of_ble_eq_true rfl⟩ ⟨rfl, rfl⟩ ⟨Nat.zero_le _, Nat.zero_le _⟩ (fun H locs hr164 hM4 => ?_)
                  exact r_ireturn C hM4 hr hlk hr164 h rfl dX10_count_167
                · replace h := ifn cq h
                  have c8_12 := cq
                  by_cases cq : x1 = 13
                  · replace h := ifp cq h
                    refine r_table C 168 hx1 dX10_count_8 (by decide) (by rw [cq]; rfl) ?_
                    refine r_aload_n C dX10_count_168 rfl hl 0 rfl ?_
                    refine r_getI C hM1 jc10 5 rfl dX10_count_169 lk_X10_37 lc_0.1 lc_0.2 rfl rfl (by decide) rfl ?_
                    exact r_ireturn C hM1 hr hlk (hM0.ok _ _) h rfl dX10_count_172
                  · replace h := ifn cq h
                    have c8_13 := cq
                    have cd : jsw 8 0 13 (165) #[(72), (83), (94), (165), (165), (165), (165), (165), (105), (116), (127), (138), (149), (160)] x1 = (173 : Int) := by
                      have cz : (x1 < 0 ∨ 13 < x1) ∨ x1 = 3 ∨ x1 = 4 ∨ x1 = 5 ∨ x1 = 6 ∨ x1 = 7 := by omega
                      rcases cz with cz | cz | cz | cz | cz | cz
                      · unfold jsw; rw [if_pos cz]; rfl
                      · rw [cz]; rfl
                      · rw [cz]; rfl
                      · rw [cz]; rfl
                      · rw [cz]; rfl
                      · rw [cz]; rfl
                    refine r_table C 173 hx1 dX10_count_8 (by decide) cd ?_
                    refine r_aload_n C dX10_count_173 rfl hl 0 rfl ?_
                    refine r_getR C hM1 jc10 2 5 dX10_count_174 lk_X10_26 lc_0.1 lc_0.2 rfl rfl (by decide) rfl ?_
                    refine r_getR C hM1 jc7 0 6 dX10_count_177 lk_X10_101 lc_5.1 lc_5.2 rfl rfl (by decide) rfl ?_
                    refine r_iload_n C dX10_count_180 rfl hl 1 rfl ?_
                    refine r_iconst C dX10_count_181 ?_
                    replace h := ck_some h
                    obtain ⟨hc5, h⟩ := h
                    refine r_isub C dX10_count_182 ?_
                    replace h := bd_some h
                    obtain ⟨r183, hf183, h⟩ := h
                    refine r_callI (As := [.int (jI (x1 - 3))]) (rest := []) C hM1 (c_X3_setting l E z (show isSt 5 by decide) hc5 hf183) jy_X3_setting lk_X10_168 dX10_count_183 (recvW C hM1 jc3 lc_6.1 lc_6.2 rfl) rfl rfl hl.1 (Nat.le_of_ble_eq_true rfl) ⟨Nat.le_of_ble_eq_true rfl, Nat.le_of_ble_eq_true rfl⟩ ⟨rfl, rfl⟩ ⟨Nat.zero_le _, Nat.zero_le _⟩ (fun H locs hr183 hM6 => ?_)
                    exact r_ireturn C hM6 hr hlk hr183 h rfl dX10_count_186
set_option maxRecDepth 100000 in
set_option maxHeartbeats 4000000 in
theorem c_X10_isBanned (l : Launch) (E : jE) (z : Nat) {x1 : Int} {M : Mem} {r : Int} (hx1 : inR x1) (h : f_X10_isBanned x1 M = some r) : CtI l yX10_isBanned cX10_isBanned 3 (some .boolean) { frames := 2, cells := 0, slots := 0, locals := 46 } E z LyC [.ref (z + 0), .int (jI x1)] M r M := by
  refine jm (by decide +kernel) (Nat.le_of_ble_eq_true rfl) ?_
  intro p e sM m below meth c C hM0 hr hlk ls hl
  replace hl : lv_has ls 3 [(0, .ref (z + 0)), (1, .int (jI x1))] := hl
  unfold f_X10_isBanned at h
  refine r_aload_n C dX10_isBanned_0 rfl hl 0 rfl ?_
  refine r_getR C hM0 jc10 2 5 dX10_isBanned_1 lk_X10_26 lc_0.1 lc_0.2 rfl rfl (by decide) rfl ?_
  refine r_getR C hM0 jc7 0 6 dX10_isBanned_4 lk_X10_101 lc_5.1 lc_5.2 rfl rfl (by decide) rfl ?_
  refine r_aload_n C dX10_isBanned_7 rfl hl 0 rfl ?_
  refine r_getR C hM0 jc10 2 5 dX10_isBanned_8 lk_X10_26 lc_0.1 lc_0.2 rfl rfl (by decide) rfl ?_
  refine r_getR C hM0 jc7 0 6 dX10_isBanned_11 lk_X10_101 lc_5.1 lc_5.2 rfl rfl (by decide) rfl ?_
  refine r_iconst C dX10_isBanned_14 ?_
  replace h := bd_some h
  obtain ⟨r15, hf15, h⟩ := h
  refine r_callI (As := [.int (jI 0)]) (rest := [.ref (z + 6)]) C hM0 (c_X3_setting l E z (show isSt 5 by decide) ⟨by decide, by decide⟩ hf15) jy_X3_setting lk_X10_168 dX10_isBanned_15 (recvW C hM0 jc3 lc_6.1 lc_6.2 rfl) rfl rfl hl.1 (Nat.le_of_ble_eq_true rfl) ⟨Nat.le_of_ble_eq_true rfl, Nat.le_of_ble_eq_true rfl⟩ ⟨rfl, rfl⟩ ⟨Nat.zero_le _, Nat.zero_le _⟩ (fun H locs hr15 hM1 => ?_)
  replace h := bd_some h
  obtain ⟨r18, hf18, h⟩ := h
  refine r_callI (As := [.int (jI r15)]) (rest := []) C hM1 (c_X3_allowedShots l E z (show isSt 5 by decide) hr15 hf18) jy_X3_allowedShots lk_X10_297 dX10_isBanned_18 (recvW C hM1 jc3 lc_6.1 lc_6.2 rfl) rfl rfl hl.1 (Nat.le_of_ble_eq_true rfl) ⟨Nat.le_of_ble_eq_true rfl, Nat.le_of_ble_eq_true rfl⟩ ⟨rfl, rfl⟩ ⟨Nat.zero_le _, Nat.zero_le _⟩ (fun H locs hr18 hM2 => ?_)
  refine r_istore_n C [(2, .int (jI r18)), (0, .ref (z + 0)), (1, .int (jI x1))] dX10_isBanned_21 rfl hl (by decide) rfl (fun ls hl => ?_)
  refine r_iload_n C dX10_isBanned_22 rfl hl 0 rfl ?_
  refine r_iload_n C dX10_isBanned_23 rfl hl 2 rfl ?_
  refine r_ishr C dX10_isBanned_24 ?_
  refine r_iconst C dX10_isBanned_25 ?_
  refine r_iand C dX10_isBanned_26 ?_
  refine r_if_ne C 34 (iand_R _ _) dX10_isBanned_27 (by decide) (fun cq => ?_) (fun cq => ?_)
  · replace h := ifn cq h
    refine r_iconst C dX10_isBanned_34 ?_
    exact r_zreturn C hM2 hr hlk (Or.inl rfl) h rfl dX10_isBanned_35
  · replace h := ifp cq h
    refine r_iconst C dX10_isBanned_30 ?_
    refine r_goto C 35 dX10_isBanned_31 (by decide) ?_
    exact r_zreturn C hM2 hr hlk (Or.inr rfl) h rfl dX10_isBanned_35
set_option maxRecDepth 100000 in
set_option maxHeartbeats 4000000 in
theorem c_X10_requireIndex (l : Launch) (E : jE) (z : Nat) {x0 : Int} {x1 : Int} {M : Mem} (hx0 : inR x0) (hx1 : inR x1) (h : f_X10_requireIndex x0 x1 M = some ()) : CtV l yX10_requireIndex cX10_requireIndex 2 none { frames := 0, cells := 0, slots := 0, locals := 0 } E z LyC [.int (jI x0), .int (jI x1)] M M := by
  refine jm (by decide +kernel) (Nat.le_of_ble_eq_true rfl) ?_
  intro p e sM m below meth c C hM0 hr hlk ls hl
  replace hl : lv_has ls 2 [(0, .int (jI x0)), (1, .int (jI x1))] := hl
  unfold f_X10_requireIndex at h
  refine r_iload_n C dX10_requireIndex_0 rfl hl 0 rfl ?_
  replace h := jn_some h
  obtain ⟨k9, hk9, h⟩ := h
  have hJ9 : ∀ (_ : Unit), ∀ (H : Heap) (locs : List Loc) (ls : Array Slot), k9 () = some () → HS E z LyC M sM H locs → lv_has ls 2 [] → W p l e ({ frames := 0, cells := 0, slots := 0, locals := 0 } : Room) sM m (([.int (jI x0), .int (jI x1)] : List Value).toArray) below meth c H locs 0 0 (MQ below (va_Qv (fun (_ : Unit) => Mok LyC M) (fun _ t => va_P (eD E) vwCl (Wd (eC E) z LyC M) t.heap) (eA E)) (([.int (jI x0), .int (jI x1)] : List Value).toArray) sM 0 0 (eA E)) (F0 m 9 ls []) := by
    intro _ H locs ls h hMj9 hl
    subst hk9
    try dsimp only at h
    cases h
  refine r_if_lt C 9 hx0 dX10_requireIndex_1 (by decide) (fun cq => ?_) (fun cq => ?_)
  · replace h := ifp cq h
    exact hJ9 () _ _ _ h hM0 (lv_sub hl [] rfl)
  · replace h := ifn cq h
    refine r_iload_n C dX10_requireIndex_4 rfl hl 0 rfl ?_
    refine r_iload_n C dX10_requireIndex_5 rfl hl 1 rfl ?_
    refine r_icmp_lt C 20 hx0 hx1 dX10_requireIndex_6 (by decide) (fun cq => ?_) (fun cq => ?_)
    · replace h := ifp cq h
      exact r_return C hM0 hr hlk rfl dX10_requireIndex_20
    · replace h := ifn cq h
      exact hJ9 () _ _ _ h hM0 (lv_sub hl [] rfl)
set_option maxRecDepth 100000 in
set_option maxHeartbeats 4000000 in
theorem c_X10_shot (l : Launch) (E : jE) (z : Nat) {x1 : Int} {x2 : Int} {M : Mem} {r : Int} (hx1 : inR x1) (hx2 : inR x2) (h : f_X10_shot x1 x2 M = some r) : CtI l yX10_shot cX10_shot 3 (some .int) { frames := 3, cells := 0, slots := 0, locals := 68 } E z LyC [.ref (z + 0), .int (jI x1), .int (jI x2)] M r M := by
  refine jm (by decide +kernel) (Nat.le_of_ble_eq_true rfl) ?_
  intro p e sM m below meth c C hM0 hr hlk ls hl
  replace hl : lv_has ls 3 [(0, .ref (z + 0)), (1, .int (jI x1)), (2, .int (jI x2))] := hl
  unfold f_X10_shot at h
  refine r_iload_n C dX10_shot_0 rfl hl 1 rfl ?_
  refine r_aload_n C dX10_shot_1 rfl hl 0 rfl ?_
  refine r_getR C hM0 jc10 2 5 dX10_shot_2 lk_X10_26 lc_0.1 lc_0.2 rfl rfl (by decide) rfl ?_
  refine r_getR C hM0 jc7 0 6 dX10_shot_5 lk_X10_101 lc_5.1 lc_5.2 rfl rfl (by decide) rfl ?_
  refine r_getI C hM0 jc3 0 rfl dX10_shot_8 lk_X10_137 lc_6.1 lc_6.2 rfl rfl (by decide) rfl ?_
  replace h := bd_some h
  obtain ⟨_, hf11, h⟩ := h
  refine r_callSV (As := [.int (jI x1), .int (jI (M 6 0))]) (rest := []) C hM0 (c_X10_requireIndex l E z hx1 (hM0.ok _ _) hf11) jy_X10_requireIndex lk_X10_172 dX10_shot_11 rfl rfl hl.1 (Nat.le_of_ble_eq_true rfl) ⟨Nat.le_of_ble_eq_true rfl, Nat.le_of_ble_eq_true rfl⟩ ⟨rfl, rfl⟩ ⟨Nat.zero_le _, Nat.zero_le _⟩ (fun H locs hM1 => ?_)
  refine r_iload_n C dX10_shot_14 rfl hl 2 rfl ?_
  refine r_iconst C dX10_shot_15 ?_
  refine r_iconst C dX10_shot_16 ?_
  replace h := bd_some h
  obtain ⟨_, hf17, h⟩ := h
  refine r_callSV (As := [.int (jI x2), .int (jI 0), .int (jI 4)]) (rest := []) C hM1 (c_X10_requireRange l E z hx2 ⟨by decide, by decide⟩ ⟨by decide, by decide⟩ hf17) jy_X10_requireRange lk_X10_97 dX10_shot_17 rfl rfl hl.1 (Nat.le_of_ble_eq_true rfl) ⟨Nat.le_of_ble_eq_true rfl, Nat.le_of_ble_eq_true rfl⟩ ⟨rfl, rfl⟩ ⟨Nat.zero_le _, Nat.zero_le _⟩ (fun H locs hM2 => ?_)
  refine r_iload_n C dX10_shot_20 rfl hl 2 rfl ?_
  by_cases cq : x2 = 0
  · replace h := ifp cq h
    refine r_table C 52 hx2 dX10_shot_21 (by decide) (by rw [cq]; rfl) ?_
    refine r_aload_n C dX10_shot_52 rfl hl 0 rfl ?_
    refine r_getR C hM2 jc10 2 5 dX10_shot_53 lk_X10_26 lc_0.1 lc_0.2 rfl rfl (by decide) rfl ?_
    refine r_getR C hM2 jc7 0 6 dX10_shot_56 lk_X10_101 lc_5.1 lc_5.2 rfl rfl (by decide) rfl ?_
    refine r_iload_n C dX10_shot_59 rfl hl 1 rfl ?_
    replace h := bd_some h
    obtain ⟨r60, hf60, h⟩ := h
    refine r_callI (As := [.int (jI x1)]) (rest := []) C hM2 (c_X3_cameraOf l E z (show isSt 5 by decide) hx1 hf60) jy_X3_cameraOf lk_X10_176 dX10_shot_60 (recvW C hM2 jc3 lc_6.1 lc_6.2 rfl) rfl rfl hl.1 (Nat.le_of_ble_eq_true rfl) ⟨Nat.le_of_ble_eq_true rfl, Nat.le_of_ble_eq_true rfl⟩ ⟨rfl, rfl⟩ ⟨Nat.zero_le _, Nat.zero_le _⟩ (fun H locs hr60 hM3 => ?_)
    exact r_ireturn C hM3 hr hlk hr60 h rfl dX10_shot_63
  · replace h := ifn cq h
    have c21_0 := cq
    by_cases cq : x2 = 1
    · replace h := ifp cq h
      refine r_table C 64 hx2 dX10_shot_21 (by decide) (by rw [cq]; rfl) ?_
      refine r_aload_n C dX10_shot_64 rfl hl 0 rfl ?_
      refine r_getR C hM2 jc10 2 5 dX10_shot_65 lk_X10_26 lc_0.1 lc_0.2 rfl rfl (by decide) rfl ?_
      refine r_getR C hM2 jc7 0 6 dX10_shot_68 lk_X10_101 lc_5.1 lc_5.2 rfl rfl (by decide) rfl ?_
      refine r_iload_n C dX10_shot_71 rfl hl 1 rfl ?_
      replace h := bd_some h
      obtain ⟨r72, hf72, h⟩ := h
      refine r_callI (As := [.int (jI x1)]) (rest := []) C hM2 (c_X3_lengthOf l E z (show isSt 5 by decide) hx1 hf72) jy_X3_lengthOf lk_X10_179 dX10_shot_72 (recvW C hM2 jc3 lc_6.1 lc_6.2 rfl) rfl rfl hl.1 (Nat.le_of_ble_eq_true rfl) ⟨Nat.le_of_ble_eq_true rfl, Nat.le_of_ble_eq_true rfl⟩ ⟨rfl, rfl⟩ ⟨Nat.zero_le _, Nat.zero_le _⟩ (fun H locs hr72 hM4 => ?_)
      exact r_ireturn C hM4 hr hlk hr72 h rfl dX10_shot_75
    · replace h := ifn cq h
      have c21_1 := cq
      by_cases cq : x2 = 2
      · replace h := ifp cq h
        refine r_table C 76 hx2 dX10_shot_21 (by decide) (by rw [cq]; rfl) ?_
        refine r_aload_n C dX10_shot_76 rfl hl 0 rfl ?_
        refine r_iload_n C dX10_shot_77 rfl hl 1 rfl ?_
        replace h := bd_some h
        obtain ⟨r78, hf78, h⟩ := h
        refine r_callI (As := [.int (jI x1)]) (rest := []) C hM2 (c_X10_isBanned l E z hx1 hf78) jy_X10_isBanned lk_X10_182 dX10_shot_78 (recvW C hM2 jc10 lc_0.1 lc_0.2 rfl) rfl rfl hl.1 (Nat.le_of_ble_eq_true rfl) ⟨Nat.le_of_ble_eq_true rfl, Nat.le_of_ble_eq_true rfl⟩ ⟨rfl, rfl⟩ ⟨Nat.zero_le _, Nat.zero_le _⟩ (fun H locs hr78 hM5 => ?_)
        refine r_if_eq C 88 hr78 dX10_shot_81 (by decide) (fun cq => ?_) (fun cq => ?_)
        · replace h := ifp cq h
          refine r_iconst C dX10_shot_88 ?_
          exact r_ireturn C hM5 hr hlk ⟨by decide, by decide⟩ h rfl dX10_shot_89
        · replace h := ifn cq h
          refine r_iconst C dX10_shot_84 ?_
          refine r_goto C 89 dX10_shot_85 (by decide) ?_
          exact r_ireturn C hM5 hr hlk ⟨by decide, by decide⟩ h rfl dX10_shot_89
      · replace h := ifn cq h
        have c21_2 := cq
        by_cases cq : x2 = 3
        · replace h := ifp cq h
          refine r_table C 90 hx2 dX10_shot_21 (by decide) (by rw [cq]; rfl) ?_
          refine r_aload_n C dX10_shot_90 rfl hl 0 rfl ?_
          refine r_getR C hM2 jc10 9 56 dX10_shot_91 lk_X10_54 lc_0.1 lc_0.2 rfl rfl (by decide) rfl ?_
          refine r_iconst C dX10_shot_94 ?_
          refine r_iload_n C dX10_shot_95 rfl hl 1 rfl ?_
          replace h := bd_some h
          obtain ⟨r96, hf96, h⟩ := h
          refine r_callI (As := [.int (jI 0), .int (jI x1)]) (rest := []) C hM2 (c_X5_countOf l E z ⟨by decide, by decide⟩ hx1 hf96) jy_X5_countOf lk_X10_186 dX10_shot_96 (recvW C hM2 jc5 lc_56.1 lc_56.2 rfl) rfl rfl hl.1 (Nat.le_of_ble_eq_true rfl) ⟨Nat.le_of_ble_eq_true rfl, Nat.le_of_ble_eq_true rfl⟩ ⟨rfl, rfl⟩ ⟨Nat.zero_le _, Nat.zero_le _⟩ (fun H locs hr96 hM6 => ?_)
          exact r_ireturn C hM6 hr hlk hr96 h rfl dX10_shot_99
        · replace h := ifn cq h
          have c21_3 := cq
          have cd : jsw 21 0 3 (79) #[(31), (43), (55), (69)] x2 = (100 : Int) := by
            have cz : (x2 < 0 ∨ 3 < x2) := by omega
            · unfold jsw; rw [if_pos cz]; rfl
          refine r_table C 100 hx2 dX10_shot_21 (by decide) cd ?_
          refine r_aload_n C dX10_shot_100 rfl hl 0 rfl ?_
          refine r_getR C hM2 jc10 9 56 dX10_shot_101 lk_X10_54 lc_0.1 lc_0.2 rfl rfl (by decide) rfl ?_
          refine r_iconst C dX10_shot_104 ?_
          refine r_iload_n C dX10_shot_105 rfl hl 1 rfl ?_
          replace h := bd_some h
          obtain ⟨r106, hf106, h⟩ := h
          refine r_callI (As := [.int (jI 0), .int (jI x1)]) (rest := []) C hM2 (c_X5_framesOf l E z ⟨by decide, by decide⟩ hx1 hf106) jy_X5_framesOf lk_X10_190 dX10_shot_106 (recvW C hM2 jc5 lc_56.1 lc_56.2 rfl) rfl rfl hl.1 (Nat.le_of_ble_eq_true rfl) ⟨Nat.le_of_ble_eq_true rfl, Nat.le_of_ble_eq_true rfl⟩ ⟨rfl, rfl⟩ ⟨Nat.zero_le _, Nat.zero_le _⟩ (fun H locs hr106 hM7 => ?_)
          exact r_ireturn C hM7 hr hlk hr106 h rfl dX10_shot_109
set_option maxRecDepth 100000 in
set_option maxHeartbeats 4000000 in
theorem c_X10_shownWords (l : Launch) (E : jE) (z : Nat) {x1 : Int} {M : Mem} {r : Int} (hx1 : inR x1) (h : f_X10_shownWords x1 M = some r) : CtI l yX10_shownWords cX10_shownWords 4 (some .int) { frames := 3, cells := 0, slots := 0, locals := 66 } E z LyC [.ref (z + 0), .int (jI x1)] M r M := by
  refine jm (by decide +kernel) (Nat.le_of_ble_eq_true rfl) ?_
  intro p e sM m below meth c C hM0 hr hlk ls hl
  replace hl : lv_has ls 4 [(0, .ref (z + 0)), (1, .int (jI x1))] := hl
  unfold f_X10_shownWords at h
  refine r_iconst C dX10_shownWords_0 ?_
  refine r_istore_n C [(2, .int (jI 0)), (0, .ref (z + 0)), (1, .int (jI x1))] dX10_shownWords_1 rfl hl (by decide) rfl (fun ls hl => ?_)
  refine r_iconst C dX10_shownWords_2 ?_
  refine r_istore_n C [(3, .int (jI 0)), (2, .int (jI 0)), (0, .ref (z + 0)), (1, .int (jI x1))] dX10_shownWords_3 rfl hl (by decide) rfl (fun ls hl => ?_)
  have hL4 : ∀ n4 : Nat, ∀ (x2 : Int) (x3 : Int), inR x2 → inR x3 → ∀ (H : Heap) (locs : List Loc) (ls : Array Slot), f_X10_shownWords_L4 x1 M n4  x2 x3 = some r → HS E z LyC M sM H locs → lv_has ls 4 [(0, .ref (z + 0)), (1, .int (jI x1)), (2, .int (jI x2)), (3, .int (jI x3))] → W p l e ({ frames := 3, cells := 0, slots := 0, locals := 66 } : Room) sM m (([.ref (z + 0), .int (jI x1)] : List Value).toArray) below meth c H locs 0 0 (MQ below (va_Qi (fun (w : Int32) (_ : Unit) => w = jI r ∧ inR r ∧ Mok LyC M) (fun _ t => va_P (eD E) vwCl (Wd (eC E) z LyC M) t.heap) (eA E)) (([.ref (z + 0), .int (jI x1)] : List Value).toArray) sM 0 0 (eA E)) (F0 m 4 ls []) := by
    intro n4
    induction n4 with
    | zero =>
      intro x2 x3 hx2 hx3 H locs ls h hM hl
      exact absurd h (by simp [f_X10_shownWords_L4])
    | succ n4 ih4 =>
      intro x2 x3 hx2 hx3 H locs ls h hM hl
      rw [f_X10_shownWords_L4] at h
      refine r_iload_n C dX10_shownWords_4 rfl hl 3 rfl ?_
      refine r_aload_n C dX10_shownWords_5 rfl hl 0 rfl ?_
      refine r_getR C hM jc10 10 64 dX10_shownWords_6 lk_X10_61 lc_0.1 lc_0.2 rfl rfl (by decide) rfl ?_
      refine r_getI C hM jc6 0 rfl dX10_shownWords_9 lk_X10_399 lc_64.1 lc_64.2 rfl rfl (by decide) rfl ?_
      refine r_icmp_ge C 57 hx3 (hM.ok _ _) dX10_shownWords_12 (by decide) (fun cq => ?_) (fun cq => ?_)
      · replace h := ifp cq h
        refine r_iload_n C dX10_shownWords_57 rfl hl 2 rfl ?_
        exact r_ireturn C hM hr hlk hx2 h rfl dX10_shownWords_58
      · replace h := ifn cq h
        refine r_aload_n C dX10_shownWords_15 rfl hl 0 rfl ?_
        refine r_getR C hM jc10 10 64 dX10_shownWords_16 lk_X10_61 lc_0.1 lc_0.2 rfl rfl (by decide) rfl ?_
        refine r_getR C hM jc6 4 67 dX10_shownWords_19 lk_X10_225 lc_64.1 lc_64.2 rfl rfl (by decide) rfl ?_
        refine r_iload_n C dX10_shownWords_22 rfl hl 3 rfl ?_
        replace h := ck_some h
        obtain ⟨hc1, h⟩ := h
        refine r_iald C hM rfl dX10_shownWords_23 lc_67.1 lc_67.2 hc1 hx3 ?_
        refine r_iload_n C dX10_shownWords_24 rfl hl 1 rfl ?_
        refine r_icmp_ne C 51 (hM.ok _ _) hx1 dX10_shownWords_25 (by decide) (fun cq => ?_) (fun cq => ?_)
        · replace h := ifn cq h
          replace h := ck_some h
          obtain ⟨hc2, h⟩ := h
          refine r_iinc (j := 3) (x := x3) C [(3, .int (jI (x3 + 1))), (0, .ref (z + 0)), (1, .int (jI x1)), (2, .int (jI x2))] dX10_shownWords_51 hl rfl (by decide) rfl (fun ls hl => ?_)
          refine r_goto C 4 dX10_shownWords_54 (by decide) ?_
          exact ih4 _ _ hx2 hc2 _ _ _ h hM (lv_sub hl [1, 2, 3, 0] rfl)
        · replace h := ifp cq h
          refine r_aload_n C dX10_shownWords_28 rfl hl 0 rfl ?_
          refine r_getR C hM jc10 9 56 dX10_shownWords_29 lk_X10_54 lc_0.1 lc_0.2 rfl rfl (by decide) rfl ?_
          refine r_iload_n C dX10_shownWords_32 rfl hl 1 rfl ?_
          refine r_aload_n C dX10_shownWords_33 rfl hl 0 rfl ?_
          refine r_getR C hM jc10 10 64 dX10_shownWords_34 lk_X10_61 lc_0.1 lc_0.2 rfl rfl (by decide) rfl ?_
          refine r_getR C hM jc6 2 65 dX10_shownWords_37 lk_X10_219 lc_64.1 lc_64.2 rfl rfl (by decide) rfl ?_
          refine r_iload_n C dX10_shownWords_40 rfl hl 3 rfl ?_
          refine r_iald C hM rfl dX10_shownWords_41 lc_65.1 lc_65.2 hc1 hx3 ?_
          replace h := bd_some h
          obtain ⟨r42, hf42, h⟩ := h
          refine r_callI (As := [.int (jI x1), .int (jI (M 65 x3.toNat))]) (rest := []) C hM (c_X5_shows l E z hx1 (hM.ok _ _) hf42) jy_X5_shows lk_X10_400 dX10_shownWords_42 (recvW C hM jc5 lc_56.1 lc_56.2 rfl) rfl rfl hl.1 (Nat.le_of_ble_eq_true rfl) ⟨Nat.le_of_ble_eq_true rfl, Nat.le_of_ble_eq_true rfl⟩ ⟨rfl, rfl⟩ ⟨Nat.zero_le _, Nat.zero_le _⟩ (fun H locs hr42 hM3 => ?_)
          refine r_if_eq C 51 hr42 dX10_shownWords_45 (by decide) (fun cq => ?_) (fun cq => ?_)
          · replace h := ifp cq h
            replace h := ck_some h
            obtain ⟨hc4, h⟩ := h
            refine r_iinc (j := 3) (x := x3) C [(3, .int (jI (x3 + 1))), (0, .ref (z + 0)), (1, .int (jI x1)), (2, .int (jI x2))] dX10_shownWords_51 hl rfl (by decide) rfl (fun ls hl => ?_)
            refine r_goto C 4 dX10_shownWords_54 (by decide) ?_
            exact ih4 _ _ hx2 hc4 _ _ _ h hM3 (lv_sub hl [1, 2, 3, 0] rfl)
          · replace h := ifn cq h
            replace h := ck_some h
            obtain ⟨hc5, h⟩ := h
            refine r_iinc (j := 2) (x := x2) C [(2, .int (jI (x2 + 1))), (0, .ref (z + 0)), (1, .int (jI x1)), (3, .int (jI x3))] dX10_shownWords_48 hl rfl (by decide) rfl (fun ls hl => ?_)
            replace h := ck_some h
            obtain ⟨hc6, h⟩ := h
            refine r_iinc (j := 3) (x := x3) C [(3, .int (jI (x3 + 1))), (2, .int (jI (x2 + 1))), (0, .ref (z + 0)), (1, .int (jI x1))] dX10_shownWords_51 hl rfl (by decide) rfl (fun ls hl => ?_)
            refine r_goto C 4 dX10_shownWords_54 (by decide) ?_
            exact ih4 _ _ hc5 hc6 _ _ _ h hM3 (lv_sub hl [2, 3, 1, 0] rfl)
  exact hL4 jFuel _ _ ⟨by decide, by decide⟩ ⟨by decide, by decide⟩ _ _ _ h hM0 (lv_sub hl [2, 3, 1, 0] rfl)
set_option maxRecDepth 100000 in
set_option maxHeartbeats 4000000 in
theorem c_X10_map (l : Launch) (E : jE) (z : Nat) {x1 : Int} {x2 : Int} {M : Mem} {r : Int} (hx1 : inR x1) (hx2 : inR x2) (h : f_X10_map x1 x2 M = some r) : CtI l yX10_map cX10_map 3 (some .int) { frames := 4, cells := 0, slots := 0, locals := 89 } E z LyC [.ref (z + 0), .int (jI x1), .int (jI x2)] M r M := by
  refine jm (by decide +kernel) (Nat.le_of_ble_eq_true rfl) ?_
  intro p e sM m below meth c C hM0 hr hlk ls hl
  replace hl : lv_has ls 3 [(0, .ref (z + 0)), (1, .int (jI x1)), (2, .int (jI x2))] := hl
  unfold f_X10_map at h
  refine r_iload_n C dX10_map_0 rfl hl 1 rfl ?_
  refine r_aload_n C dX10_map_1 rfl hl 0 rfl ?_
  refine r_getR C hM0 jc10 2 5 dX10_map_2 lk_X10_26 lc_0.1 lc_0.2 rfl rfl (by decide) rfl ?_
  refine r_getR C hM0 jc7 0 6 dX10_map_5 lk_X10_101 lc_5.1 lc_5.2 rfl rfl (by decide) rfl ?_
  refine r_getI C hM0 jc3 3 rfl dX10_map_8 lk_X10_146 lc_6.1 lc_6.2 rfl rfl (by decide) rfl ?_
  replace h := bd_some h
  obtain ⟨_, hf11, h⟩ := h
  refine r_callSV (As := [.int (jI x1), .int (jI (M 6 3))]) (rest := []) C hM0 (c_X10_requireIndex l E z hx1 (hM0.ok _ _) hf11) jy_X10_requireIndex lk_X10_172 dX10_map_11 rfl rfl hl.1 (Nat.le_of_ble_eq_true rfl) ⟨Nat.le_of_ble_eq_true rfl, Nat.le_of_ble_eq_true rfl⟩ ⟨rfl, rfl⟩ ⟨Nat.zero_le _, Nat.zero_le _⟩ (fun H locs hM1 => ?_)
  refine r_iload_n C dX10_map_14 rfl hl 2 rfl ?_
  refine r_iconst C dX10_map_15 ?_
  refine r_iconst C dX10_map_16 ?_
  replace h := bd_some h
  obtain ⟨_, hf17, h⟩ := h
  refine r_callSV (As := [.int (jI x2), .int (jI 0), .int (jI 3)]) (rest := []) C hM1 (c_X10_requireRange l E z hx2 ⟨by decide, by decide⟩ ⟨by decide, by decide⟩ hf17) jy_X10_requireRange lk_X10_97 dX10_map_17 rfl rfl hl.1 (Nat.le_of_ble_eq_true rfl) ⟨Nat.le_of_ble_eq_true rfl, Nat.le_of_ble_eq_true rfl⟩ ⟨rfl, rfl⟩ ⟨Nat.zero_le _, Nat.zero_le _⟩ (fun H locs hM2 => ?_)
  refine r_iload_n C dX10_map_20 rfl hl 2 rfl ?_
  by_cases cq : x2 = 0
  · replace h := ifp cq h
    refine r_table C 48 hx2 dX10_map_21 (by decide) (by rw [cq]; rfl) ?_
    refine r_aload_n C dX10_map_48 rfl hl 0 rfl ?_
    refine r_getR C hM2 jc10 2 5 dX10_map_49 lk_X10_26 lc_0.1 lc_0.2 rfl rfl (by decide) rfl ?_
    refine r_getR C hM2 jc7 0 6 dX10_map_52 lk_X10_101 lc_5.1 lc_5.2 rfl rfl (by decide) rfl ?_
    refine r_iload_n C dX10_map_55 rfl hl 1 rfl ?_
    replace h := bd_some h
    obtain ⟨r56, hf56, h⟩ := h
    refine r_callI (As := [.int (jI x1)]) (rest := []) C hM2 (c_X3_nameLengthOf l E z (show isSt 5 by decide) hx1 hf56) jy_X3_nameLengthOf lk_X10_193 dX10_map_56 (recvW C hM2 jc3 lc_6.1 lc_6.2 rfl) rfl rfl hl.1 (Nat.le_of_ble_eq_true rfl) ⟨Nat.le_of_ble_eq_true rfl, Nat.le_of_ble_eq_true rfl⟩ ⟨rfl, rfl⟩ ⟨Nat.zero_le _, Nat.zero_le _⟩ (fun H locs hr56 hM3 => ?_)
    exact r_ireturn C hM3 hr hlk hr56 h rfl dX10_map_59
  · replace h := ifn cq h
    have c21_0 := cq
    by_cases cq : x2 = 1
    · replace h := ifp cq h
      refine r_table C 60 hx2 dX10_map_21 (by decide) (by rw [cq]; rfl) ?_
      refine r_aload_n C dX10_map_60 rfl hl 0 rfl ?_
      refine r_getR C hM2 jc10 10 64 dX10_map_61 lk_X10_61 lc_0.1 lc_0.2 rfl rfl (by decide) rfl ?_
      refine r_iload_n C dX10_map_64 rfl hl 1 rfl ?_
      replace h := bd_some h
      obtain ⟨r65, hf65, h⟩ := h
      refine r_callI (As := [.int (jI x1)]) (rest := []) C hM2 (c_X6_countOf l E z hx1 hf65) jy_X6_countOf lk_X10_196 dX10_map_65 (recvW C hM2 jc6 lc_64.1 lc_64.2 rfl) rfl rfl hl.1 (Nat.le_of_ble_eq_true rfl) ⟨Nat.le_of_ble_eq_true rfl, Nat.le_of_ble_eq_true rfl⟩ ⟨rfl, rfl⟩ ⟨Nat.zero_le _, Nat.zero_le _⟩ (fun H locs hr65 hM4 => ?_)
      exact r_ireturn C hM4 hr hlk hr65 h rfl dX10_map_68
    · replace h := ifn cq h
      have c21_1 := cq
      by_cases cq : x2 = 2
      · replace h := ifp cq h
        refine r_table C 69 hx2 dX10_map_21 (by decide) (by rw [cq]; rfl) ?_
        refine r_aload_n C dX10_map_69 rfl hl 0 rfl ?_
        refine r_getR C hM2 jc10 9 56 dX10_map_70 lk_X10_54 lc_0.1 lc_0.2 rfl rfl (by decide) rfl ?_
        refine r_iconst C dX10_map_73 ?_
        refine r_iload_n C dX10_map_74 rfl hl 1 rfl ?_
        replace h := bd_some h
        obtain ⟨r75, hf75, h⟩ := h
        refine r_callI (As := [.int (jI 1), .int (jI x1)]) (rest := []) C hM2 (c_X5_countOf l E z ⟨by decide, by decide⟩ hx1 hf75) jy_X5_countOf lk_X10_186 dX10_map_75 (recvW C hM2 jc5 lc_56.1 lc_56.2 rfl) rfl rfl hl.1 (Nat.le_of_ble_eq_true rfl) ⟨Nat.le_of_ble_eq_true rfl, Nat.le_of_ble_eq_true rfl⟩ ⟨rfl, rfl⟩ ⟨Nat.zero_le _, Nat.zero_le _⟩ (fun H locs hr75 hM5 => ?_)
        exact r_ireturn C hM5 hr hlk hr75 h rfl dX10_map_78
      · replace h := ifn cq h
        have c21_2 := cq
        have cd : jsw 21 0 2 (58) #[(27), (39), (48)] x2 = (79 : Int) := by
          have cz : (x2 < 0 ∨ 2 < x2) := by omega
          · unfold jsw; rw [if_pos cz]; rfl
        refine r_table C 79 hx2 dX10_map_21 (by decide) cd ?_
        refine r_aload_n C dX10_map_79 rfl hl 0 rfl ?_
        refine r_iload_n C dX10_map_80 rfl hl 1 rfl ?_
        replace h := bd_some h
        obtain ⟨r81, hf81, h⟩ := h
        refine r_callI (As := [.int (jI x1)]) (rest := []) C hM2 (c_X10_shownWords l E z hx1 hf81) jy_X10_shownWords lk_X10_198 dX10_map_81 (recvW C hM2 jc10 lc_0.1 lc_0.2 rfl) rfl rfl hl.1 (Nat.le_of_ble_eq_true rfl) ⟨Nat.le_of_ble_eq_true rfl, Nat.le_of_ble_eq_true rfl⟩ ⟨rfl, rfl⟩ ⟨Nat.zero_le _, Nat.zero_le _⟩ (fun H locs hr81 hM6 => ?_)
        exact r_ireturn C hM6 hr hlk hr81 h rfl dX10_map_84
set_option maxRecDepth 100000 in
set_option maxHeartbeats 4000000 in
theorem c_X10_ban (l : Launch) (E : jE) (z : Nat) {x1 : Int} {x2 : Int} {M : Mem} {r : Int} (hx1 : inR x1) (hx2 : inR x2) (h : f_X10_ban x1 x2 M = some r) : CtI l yX10_ban cX10_ban 3 (some .int) { frames := 1, cells := 0, slots := 0, locals := 23 } E z LyC [.ref (z + 0), .int (jI x1), .int (jI x2)] M r M := by
  refine jm (by decide +kernel) (Nat.le_of_ble_eq_true rfl) ?_
  intro p e sM m below meth c C hM0 hr hlk ls hl
  replace hl : lv_has ls 3 [(0, .ref (z + 0)), (1, .int (jI x1)), (2, .int (jI x2))] := hl
  unfold f_X10_ban at h
  refine r_iload_n C dX10_ban_0 rfl hl 1 rfl ?_
  refine r_aload_n C dX10_ban_1 rfl hl 0 rfl ?_
  refine r_getR C hM0 jc10 2 5 dX10_ban_2 lk_X10_26 lc_0.1 lc_0.2 rfl rfl (by decide) rfl ?_
  refine r_getR C hM0 jc7 0 6 dX10_ban_5 lk_X10_101 lc_5.1 lc_5.2 rfl rfl (by decide) rfl ?_
  refine r_getI C hM0 jc3 6 rfl dX10_ban_8 lk_X10_149 lc_6.1 lc_6.2 rfl rfl (by decide) rfl ?_
  replace h := bd_some h
  obtain ⟨_, hf11, h⟩ := h
  refine r_callSV (As := [.int (jI x1), .int (jI (M 6 6))]) (rest := []) C hM0 (c_X10_requireIndex l E z hx1 (hM0.ok _ _) hf11) jy_X10_requireIndex lk_X10_172 dX10_ban_11 rfl rfl hl.1 (Nat.le_of_ble_eq_true rfl) ⟨Nat.le_of_ble_eq_true rfl, Nat.le_of_ble_eq_true rfl⟩ ⟨rfl, rfl⟩ ⟨Nat.zero_le _, Nat.zero_le _⟩ (fun H locs hM1 => ?_)
  refine r_iload_n C dX10_ban_14 rfl hl 2 rfl ?_
  refine r_iconst C dX10_ban_15 ?_
  refine r_iconst C dX10_ban_16 ?_
  replace h := bd_some h
  obtain ⟨_, hf17, h⟩ := h
  refine r_callSV (As := [.int (jI x2), .int (jI 0), .int (jI 3)]) (rest := []) C hM1 (c_X10_requireRange l E z hx2 ⟨by decide, by decide⟩ ⟨by decide, by decide⟩ hf17) jy_X10_requireRange lk_X10_97 dX10_ban_17 rfl rfl hl.1 (Nat.le_of_ble_eq_true rfl) ⟨Nat.le_of_ble_eq_true rfl, Nat.le_of_ble_eq_true rfl⟩ ⟨rfl, rfl⟩ ⟨Nat.zero_le _, Nat.zero_le _⟩ (fun H locs hM2 => ?_)
  refine r_iload_n C dX10_ban_20 rfl hl 2 rfl ?_
  by_cases cq : x2 = 0
  · replace h := ifp cq h
    refine r_table C 48 hx2 dX10_ban_21 (by decide) (by rw [cq]; rfl) ?_
    refine r_aload_n C dX10_ban_48 rfl hl 0 rfl ?_
    refine r_getR C hM2 jc10 2 5 dX10_ban_49 lk_X10_26 lc_0.1 lc_0.2 rfl rfl (by decide) rfl ?_
    refine r_getR C hM2 jc7 0 6 dX10_ban_52 lk_X10_101 lc_5.1 lc_5.2 rfl rfl (by decide) rfl ?_
    refine r_getR C hM2 jc3 7 11 dX10_ban_55 lk_X10_201 lc_6.1 lc_6.2 rfl rfl (by decide) rfl ?_
    refine r_iload_n C dX10_ban_58 rfl hl 1 rfl ?_
    replace h := ck_some h
    obtain ⟨hc3, h⟩ := h
    refine r_iald C hM2 rfl dX10_ban_59 lc_11.1 lc_11.2 hc3 hx1 ?_
    exact r_ireturn C hM2 hr hlk (hM0.ok _ _) h rfl dX10_ban_60
  · replace h := ifn cq h
    have c21_0 := cq
    by_cases cq : x2 = 1
    · replace h := ifp cq h
      refine r_table C 61 hx2 dX10_ban_21 (by decide) (by rw [cq]; rfl) ?_
      refine r_aload_n C dX10_ban_61 rfl hl 0 rfl ?_
      refine r_getR C hM2 jc10 2 5 dX10_ban_62 lk_X10_26 lc_0.1 lc_0.2 rfl rfl (by decide) rfl ?_
      refine r_getR C hM2 jc7 0 6 dX10_ban_65 lk_X10_101 lc_5.1 lc_5.2 rfl rfl (by decide) rfl ?_
      refine r_getR C hM2 jc3 8 12 dX10_ban_68 lk_X10_204 lc_6.1 lc_6.2 rfl rfl (by decide) rfl ?_
      refine r_iload_n C dX10_ban_71 rfl hl 1 rfl ?_
      replace h := ck_some h
      obtain ⟨hc4, h⟩ := h
      refine r_iald C hM2 rfl dX10_ban_72 lc_12.1 lc_12.2 hc4 hx1 ?_
      exact r_ireturn C hM2 hr hlk (hM0.ok _ _) h rfl dX10_ban_73
    · replace h := ifn cq h
      have c21_1 := cq
      by_cases cq : x2 = 2
      · replace h := ifp cq h
        refine r_table C 74 hx2 dX10_ban_21 (by decide) (by rw [cq]; rfl) ?_
        refine r_aload_n C dX10_ban_74 rfl hl 0 rfl ?_
        refine r_getR C hM2 jc10 2 5 dX10_ban_75 lk_X10_26 lc_0.1 lc_0.2 rfl rfl (by decide) rfl ?_
        refine r_getR C hM2 jc7 0 6 dX10_ban_78 lk_X10_101 lc_5.1 lc_5.2 rfl rfl (by decide) rfl ?_
        refine r_getR C hM2 jc3 9 13 dX10_ban_81 lk_X10_207 lc_6.1 lc_6.2 rfl rfl (by decide) rfl ?_
        refine r_iload_n C dX10_ban_84 rfl hl 1 rfl ?_
        replace h := ck_some h
        obtain ⟨hc5, h⟩ := h
        refine r_iald C hM2 rfl dX10_ban_85 lc_13.1 lc_13.2 hc5 hx1 ?_
        exact r_ireturn C hM2 hr hlk (hM0.ok _ _) h rfl dX10_ban_86
      · replace h := ifn cq h
        have c21_2 := cq
        have cd : jsw 21 0 2 (66) #[(27), (40), (53)] x2 = (87 : Int) := by
          have cz : (x2 < 0 ∨ 2 < x2) := by omega
          · unfold jsw; rw [if_pos cz]; rfl
        refine r_table C 87 hx2 dX10_ban_21 (by decide) cd ?_
        refine r_aload_n C dX10_ban_87 rfl hl 0 rfl ?_
        refine r_getR C hM2 jc10 2 5 dX10_ban_88 lk_X10_26 lc_0.1 lc_0.2 rfl rfl (by decide) rfl ?_
        refine r_getR C hM2 jc7 0 6 dX10_ban_91 lk_X10_101 lc_5.1 lc_5.2 rfl rfl (by decide) rfl ?_
        refine r_aload_n C dX10_ban_94 rfl hl 0 rfl ?_
        refine r_getR C hM2 jc10 2 5 dX10_ban_95 lk_X10_26 lc_0.1 lc_0.2 rfl rfl (by decide) rfl ?_
        refine r_getR C hM2 jc7 0 6 dX10_ban_98 lk_X10_101 lc_5.1 lc_5.2 rfl rfl (by decide) rfl ?_
        refine r_getR C hM2 jc3 7 11 dX10_ban_101 lk_X10_201 lc_6.1 lc_6.2 rfl rfl (by decide) rfl ?_
        refine r_iload_n C dX10_ban_104 rfl hl 1 rfl ?_
        replace h := ck_some h
        obtain ⟨hc6, h⟩ := h
        refine r_iald C hM2 rfl dX10_ban_105 lc_11.1 lc_11.2 hc6 hx1 ?_
        replace h := bd_some h
        obtain ⟨r106, hf106, h⟩ := h
        refine r_callI (As := [.int (jI (M 11 x1.toNat))]) (rest := []) C hM2 (c_X3_shotsOf l E z (show isSt 5 by decide) (hM0.ok _ _) hf106) jy_X3_shotsOf lk_X10_210 dX10_ban_106 (recvW C hM2 jc3 lc_6.1 lc_6.2 rfl) rfl rfl hl.1 (Nat.le_of_ble_eq_true rfl) ⟨Nat.le_of_ble_eq_true rfl, Nat.le_of_ble_eq_true rfl⟩ ⟨rfl, rfl⟩ ⟨Nat.zero_le _, Nat.zero_le _⟩ (fun H locs hr106 hM7 => ?_)
        exact r_ireturn C hM7 hr hlk hr106 h rfl dX10_ban_109
set_option maxRecDepth 100000 in
set_option maxHeartbeats 4000000 in
theorem c_X10_word (l : Launch) (E : jE) (z : Nat) {x1 : Int} {x2 : Int} {M : Mem} {r : Int} (hx1 : inR x1) (hx2 : inR x2) (h : f_X10_word x1 x2 M = some r) : CtI l yX10_word cX10_word 3 (some .int) { frames := 1, cells := 0, slots := 0, locals := 23 } E z LyC [.ref (z + 0), .int (jI x1), .int (jI x2)] M r M := by
  refine jm (by decide +kernel) (Nat.le_of_ble_eq_true rfl) ?_
  intro p e sM m below meth c C hM0 hr hlk ls hl
  replace hl : lv_has ls 3 [(0, .ref (z + 0)), (1, .int (jI x1)), (2, .int (jI x2))] := hl
  unfold f_X10_word at h
  refine r_iload_n C dX10_word_0 rfl hl 1 rfl ?_
  refine r_aload_n C dX10_word_1 rfl hl 0 rfl ?_
  refine r_getR C hM0 jc10 2 5 dX10_word_2 lk_X10_26 lc_0.1 lc_0.2 rfl rfl (by decide) rfl ?_
  refine r_getR C hM0 jc7 1 16 dX10_word_5 lk_X10_120 lc_5.1 lc_5.2 rfl rfl (by decide) rfl ?_
  refine r_getI C hM0 jc9 0 rfl dX10_word_8 lk_X10_159 lc_16.1 lc_16.2 rfl rfl (by decide) rfl ?_
  replace h := bd_some h
  obtain ⟨_, hf11, h⟩ := h
  refine r_callSV (As := [.int (jI x1), .int (jI (M 16 0))]) (rest := []) C hM0 (c_X10_requireIndex l E z hx1 (hM0.ok _ _) hf11) jy_X10_requireIndex lk_X10_172 dX10_word_11 rfl rfl hl.1 (Nat.le_of_ble_eq_true rfl) ⟨Nat.le_of_ble_eq_true rfl, Nat.le_of_ble_eq_true rfl⟩ ⟨rfl, rfl⟩ ⟨Nat.zero_le _, Nat.zero_le _⟩ (fun H locs hM1 => ?_)
  refine r_iload_n C dX10_word_14 rfl hl 2 rfl ?_
  refine r_iconst C dX10_word_15 ?_
  refine r_iconst C dX10_word_16 ?_
  replace h := bd_some h
  obtain ⟨_, hf17, h⟩ := h
  refine r_callSV (As := [.int (jI x2), .int (jI 0), .int (jI 5)]) (rest := []) C hM1 (c_X10_requireRange l E z hx2 ⟨by decide, by decide⟩ ⟨by decide, by decide⟩ hf17) jy_X10_requireRange lk_X10_97 dX10_word_17 rfl rfl hl.1 (Nat.le_of_ble_eq_true rfl) ⟨Nat.le_of_ble_eq_true rfl, Nat.le_of_ble_eq_true rfl⟩ ⟨rfl, rfl⟩ ⟨Nat.zero_le _, Nat.zero_le _⟩ (fun H locs hM2 => ?_)
  refine r_iload_n C dX10_word_20 rfl hl 2 rfl ?_
  by_cases cq : x2 = 0
  · replace h := ifp cq h
    refine r_table C 56 hx2 dX10_word_21 (by decide) (by rw [cq]; rfl) ?_
    refine r_aload_n C dX10_word_56 rfl hl 0 rfl ?_
    refine r_getR C hM2 jc10 2 5 dX10_word_57 lk_X10_26 lc_0.1 lc_0.2 rfl rfl (by decide) rfl ?_
    refine r_getR C hM2 jc7 1 16 dX10_word_60 lk_X10_120 lc_5.1 lc_5.2 rfl rfl (by decide) rfl ?_
    refine r_getR C hM2 jc9 4 19 dX10_word_63 lk_X10_213 lc_16.1 lc_16.2 rfl rfl (by decide) rfl ?_
    refine r_iload_n C dX10_word_66 rfl hl 1 rfl ?_
    replace h := ck_some h
    obtain ⟨hc3, h⟩ := h
    refine r_iald C hM2 rfl dX10_word_67 lc_19.1 lc_19.2 hc3 hx1 ?_
    exact r_ireturn C hM2 hr hlk (hM0.ok _ _) h rfl dX10_word_68
  · replace h := ifn cq h
    have c21_0 := cq
    by_cases cq : x2 = 1
    · replace h := ifp cq h
      refine r_table C 69 hx2 dX10_word_21 (by decide) (by rw [cq]; rfl) ?_
      refine r_aload_n C dX10_word_69 rfl hl 0 rfl ?_
      refine r_getR C hM2 jc10 2 5 dX10_word_70 lk_X10_26 lc_0.1 lc_0.2 rfl rfl (by decide) rfl ?_
      refine r_getR C hM2 jc7 1 16 dX10_word_73 lk_X10_120 lc_5.1 lc_5.2 rfl rfl (by decide) rfl ?_
      refine r_getR C hM2 jc9 5 20 dX10_word_76 lk_X10_216 lc_16.1 lc_16.2 rfl rfl (by decide) rfl ?_
      refine r_iload_n C dX10_word_79 rfl hl 1 rfl ?_
      replace h := ck_some h
      obtain ⟨hc4, h⟩ := h
      refine r_iald C hM2 rfl dX10_word_80 lc_20.1 lc_20.2 hc4 hx1 ?_
      exact r_ireturn C hM2 hr hlk (hM0.ok _ _) h rfl dX10_word_81
    · replace h := ifn cq h
      have c21_1 := cq
      by_cases cq : x2 = 2
      · replace h := ifp cq h
        refine r_table C 82 hx2 dX10_word_21 (by decide) (by rw [cq]; rfl) ?_
        refine r_aload_n C dX10_word_82 rfl hl 0 rfl ?_
        refine r_getR C hM2 jc10 10 64 dX10_word_83 lk_X10_61 lc_0.1 lc_0.2 rfl rfl (by decide) rfl ?_
        refine r_getR C hM2 jc6 2 65 dX10_word_86 lk_X10_219 lc_64.1 lc_64.2 rfl rfl (by decide) rfl ?_
        refine r_iload_n C dX10_word_89 rfl hl 1 rfl ?_
        replace h := ck_some h
        obtain ⟨hc5, h⟩ := h
        refine r_iald C hM2 rfl dX10_word_90 lc_65.1 lc_65.2 hc5 hx1 ?_
        exact r_ireturn C hM2 hr hlk (hM0.ok _ _) h rfl dX10_word_91
      · replace h := ifn cq h
        have c21_2 := cq
        by_cases cq : x2 = 3
        · replace h := ifp cq h
          refine r_table C 92 hx2 dX10_word_21 (by decide) (by rw [cq]; rfl) ?_
          refine r_aload_n C dX10_word_92 rfl hl 0 rfl ?_
          refine r_getR C hM2 jc10 10 64 dX10_word_93 lk_X10_61 lc_0.1 lc_0.2 rfl rfl (by decide) rfl ?_
          refine r_getR C hM2 jc6 3 66 dX10_word_96 lk_X10_222 lc_64.1 lc_64.2 rfl rfl (by decide) rfl ?_
          refine r_iload_n C dX10_word_99 rfl hl 1 rfl ?_
          replace h := ck_some h
          obtain ⟨hc6, h⟩ := h
          refine r_iald C hM2 rfl dX10_word_100 lc_66.1 lc_66.2 hc6 hx1 ?_
          exact r_ireturn C hM2 hr hlk (hM0.ok _ _) h rfl dX10_word_101
        · replace h := ifn cq h
          have c21_3 := cq
          by_cases cq : x2 = 4
          · replace h := ifp cq h
            refine r_table C 102 hx2 dX10_word_21 (by decide) (by rw [cq]; rfl) ?_
            refine r_aload_n C dX10_word_102 rfl hl 0 rfl ?_
            refine r_getR C hM2 jc10 10 64 dX10_word_103 lk_X10_61 lc_0.1 lc_0.2 rfl rfl (by decide) rfl ?_
            refine r_getR C hM2 jc6 4 67 dX10_word_106 lk_X10_225 lc_64.1 lc_64.2 rfl rfl (by decide) rfl ?_
            refine r_iload_n C dX10_word_109 rfl hl 1 rfl ?_
            replace h := ck_some h
            obtain ⟨hc7, h⟩ := h
            refine r_iald C hM2 rfl dX10_word_110 lc_67.1 lc_67.2 hc7 hx1 ?_
            exact r_ireturn C hM2 hr hlk (hM0.ok _ _) h rfl dX10_word_111
          · replace h := ifn cq h
            have c21_4 := cq
            have cd : jsw 21 0 4 (91) #[(35), (48), (61), (71), (81)] x2 = (112 : Int) := by
              have cz : (x2 < 0 ∨ 4 < x2) := by omega
              · unfold jsw; rw [if_pos cz]; rfl
            refine r_table C 112 hx2 dX10_word_21 (by decide) cd ?_
            refine r_aload_n C dX10_word_112 rfl hl 0 rfl ?_
            refine r_getR C hM2 jc10 2 5 dX10_word_113 lk_X10_26 lc_0.1 lc_0.2 rfl rfl (by decide) rfl ?_
            refine r_getR C hM2 jc7 1 16 dX10_word_116 lk_X10_120 lc_5.1 lc_5.2 rfl rfl (by decide) rfl ?_
            refine r_iload_n C dX10_word_119 rfl hl 1 rfl ?_
            replace h := bd_some h
            obtain ⟨r120, hf120, h⟩ := h
            refine r_callI (As := [.int (jI x1)]) (rest := []) C hM2 (c_X9_sentenceOf l E z (show isSt 5 by decide) hx1 hf120) jy_X9_sentenceOf lk_X10_227 dX10_word_120 (recvW C hM2 jc9 lc_16.1 lc_16.2 rfl) rfl rfl hl.1 (Nat.le_of_ble_eq_true rfl) ⟨Nat.le_of_ble_eq_true rfl, Nat.le_of_ble_eq_true rfl⟩ ⟨rfl, rfl⟩ ⟨Nat.zero_le _, Nat.zero_le _⟩ (fun H locs hr120 hM8 => ?_)
            exact r_ireturn C hM8 hr hlk hr120 h rfl dX10_word_123
set_option maxRecDepth 100000 in
set_option maxHeartbeats 4000000 in
theorem c_X10_piece (l : Launch) (E : jE) (z : Nat) {x1 : Int} {x2 : Int} {M : Mem} {r : Int} (hx1 : inR x1) (hx2 : inR x2) (h : f_X10_piece x1 x2 M = some r) : CtI l yX10_piece cX10_piece 3 (some .int) { frames := 1, cells := 0, slots := 0, locals := 22 } E z LyC [.ref (z + 0), .int (jI x1), .int (jI x2)] M r M := by
  refine jm (by decide +kernel) (Nat.le_of_ble_eq_true rfl) ?_
  intro p e sM m below meth c C hM0 hr hlk ls hl
  replace hl : lv_has ls 3 [(0, .ref (z + 0)), (1, .int (jI x1)), (2, .int (jI x2))] := hl
  unfold f_X10_piece at h
  refine r_iload_n C dX10_piece_0 rfl hl 1 rfl ?_
  refine r_aload_n C dX10_piece_1 rfl hl 0 rfl ?_
  refine r_getR C hM0 jc10 9 56 dX10_piece_2 lk_X10_54 lc_0.1 lc_0.2 rfl rfl (by decide) rfl ?_
  refine r_getI C hM0 jc5 0 rfl dX10_piece_5 lk_X10_230 lc_56.1 lc_56.2 rfl rfl (by decide) rfl ?_
  replace h := bd_some h
  obtain ⟨_, hf8, h⟩ := h
  refine r_callSV (As := [.int (jI x1), .int (jI (M 56 0))]) (rest := []) C hM0 (c_X10_requireIndex l E z hx1 (hM0.ok _ _) hf8) jy_X10_requireIndex lk_X10_172 dX10_piece_8 rfl rfl hl.1 (Nat.le_of_ble_eq_true rfl) ⟨Nat.le_of_ble_eq_true rfl, Nat.le_of_ble_eq_true rfl⟩ ⟨rfl, rfl⟩ ⟨Nat.zero_le _, Nat.zero_le _⟩ (fun H locs hM1 => ?_)
  refine r_iload_n C dX10_piece_11 rfl hl 2 rfl ?_
  refine r_iconst C dX10_piece_12 ?_
  refine r_bipush C dX10_piece_13 rfl ?_
  replace h := bd_some h
  obtain ⟨_, hf15, h⟩ := h
  refine r_callSV (As := [.int (jI x2), .int (jI 0), .int (jI 6)]) (rest := []) C hM1 (c_X10_requireRange l E z hx2 ⟨by decide, by decide⟩ ⟨by decide, by decide⟩ hf15) jy_X10_requireRange lk_X10_97 dX10_piece_15 rfl rfl hl.1 (Nat.le_of_ble_eq_true rfl) ⟨Nat.le_of_ble_eq_true rfl, Nat.le_of_ble_eq_true rfl⟩ ⟨rfl, rfl⟩ ⟨Nat.zero_le _, Nat.zero_le _⟩ (fun H locs hM2 => ?_)
  refine r_iload_n C dX10_piece_18 rfl hl 2 rfl ?_
  by_cases cq : x2 = 0
  · replace h := ifp cq h
    refine r_table C 56 hx2 dX10_piece_19 (by decide) (by rw [cq]; rfl) ?_
    refine r_aload_n C dX10_piece_56 rfl hl 0 rfl ?_
    refine r_getR C hM2 jc10 9 56 dX10_piece_57 lk_X10_54 lc_0.1 lc_0.2 rfl rfl (by decide) rfl ?_
    refine r_getR C hM2 jc5 2 57 dX10_piece_60 lk_X10_231 lc_56.1 lc_56.2 rfl rfl (by decide) rfl ?_
    refine r_iload_n C dX10_piece_63 rfl hl 1 rfl ?_
    replace h := ck_some h
    obtain ⟨hc3, h⟩ := h
    refine r_iald C hM2 rfl dX10_piece_64 lc_57.1 lc_57.2 hc3 hx1 ?_
    exact r_ireturn C hM2 hr hlk (hM0.ok _ _) h rfl dX10_piece_65
  · replace h := ifn cq h
    have c19_0 := cq
    by_cases cq : x2 = 1
    · replace h := ifp cq h
      refine r_table C 66 hx2 dX10_piece_19 (by decide) (by rw [cq]; rfl) ?_
      refine r_aload_n C dX10_piece_66 rfl hl 0 rfl ?_
      refine r_getR C hM2 jc10 9 56 dX10_piece_67 lk_X10_54 lc_0.1 lc_0.2 rfl rfl (by decide) rfl ?_
      refine r_getR C hM2 jc5 3 58 dX10_piece_70 lk_X10_234 lc_56.1 lc_56.2 rfl rfl (by decide) rfl ?_
      refine r_iload_n C dX10_piece_73 rfl hl 1 rfl ?_
      replace h := ck_some h
      obtain ⟨hc4, h⟩ := h
      refine r_iald C hM2 rfl dX10_piece_74 lc_58.1 lc_58.2 hc4 hx1 ?_
      exact r_ireturn C hM2 hr hlk (hM0.ok _ _) h rfl dX10_piece_75
    · replace h := ifn cq h
      have c19_1 := cq
      by_cases cq : x2 = 2
      · replace h := ifp cq h
        refine r_table C 76 hx2 dX10_piece_19 (by decide) (by rw [cq]; rfl) ?_
        refine r_aload_n C dX10_piece_76 rfl hl 0 rfl ?_
        refine r_getR C hM2 jc10 9 56 dX10_piece_77 lk_X10_54 lc_0.1 lc_0.2 rfl rfl (by decide) rfl ?_
        refine r_getR C hM2 jc5 4 59 dX10_piece_80 lk_X10_237 lc_56.1 lc_56.2 rfl rfl (by decide) rfl ?_
        refine r_iload_n C dX10_piece_83 rfl hl 1 rfl ?_
        replace h := ck_some h
        obtain ⟨hc5, h⟩ := h
        refine r_iald C hM2 rfl dX10_piece_84 lc_59.1 lc_59.2 hc5 hx1 ?_
        exact r_ireturn C hM2 hr hlk (hM0.ok _ _) h rfl dX10_piece_85
      · replace h := ifn cq h
        have c19_2 := cq
        by_cases cq : x2 = 3
        · replace h := ifp cq h
          refine r_table C 86 hx2 dX10_piece_19 (by decide) (by rw [cq]; rfl) ?_
          refine r_aload_n C dX10_piece_86 rfl hl 0 rfl ?_
          refine r_getR C hM2 jc10 9 56 dX10_piece_87 lk_X10_54 lc_0.1 lc_0.2 rfl rfl (by decide) rfl ?_
          refine r_getR C hM2 jc5 5 60 dX10_piece_90 lk_X10_240 lc_56.1 lc_56.2 rfl rfl (by decide) rfl ?_
          refine r_iload_n C dX10_piece_93 rfl hl 1 rfl ?_
          replace h := ck_some h
          obtain ⟨hc6, h⟩ := h
          refine r_iald C hM2 rfl dX10_piece_94 lc_60.1 lc_60.2 hc6 hx1 ?_
          exact r_ireturn C hM2 hr hlk (hM0.ok _ _) h rfl dX10_piece_95
        · replace h := ifn cq h
          have c19_3 := cq
          by_cases cq : x2 = 4
          · replace h := ifp cq h
            refine r_table C 96 hx2 dX10_piece_19 (by decide) (by rw [cq]; rfl) ?_
            refine r_aload_n C dX10_piece_96 rfl hl 0 rfl ?_
            refine r_getR C hM2 jc10 9 56 dX10_piece_97 lk_X10_54 lc_0.1 lc_0.2 rfl rfl (by decide) rfl ?_
            refine r_getR C hM2 jc5 6 61 dX10_piece_100 lk_X10_243 lc_56.1 lc_56.2 rfl rfl (by decide) rfl ?_
            refine r_iload_n C dX10_piece_103 rfl hl 1 rfl ?_
            replace h := ck_some h
            obtain ⟨hc7, h⟩ := h
            refine r_iald C hM2 rfl dX10_piece_104 lc_61.1 lc_61.2 hc7 hx1 ?_
            exact r_ireturn C hM2 hr hlk (hM0.ok _ _) h rfl dX10_piece_105
          · replace h := ifn cq h
            have c19_4 := cq
            by_cases cq : x2 = 5
            · replace h := ifp cq h
              refine r_table C 106 hx2 dX10_piece_19 (by decide) (by rw [cq]; rfl) ?_
              refine r_aload_n C dX10_piece_106 rfl hl 0 rfl ?_
              refine r_getR C hM2 jc10 9 56 dX10_piece_107 lk_X10_54 lc_0.1 lc_0.2 rfl rfl (by decide) rfl ?_
              refine r_iload_n C dX10_piece_110 rfl hl 1 rfl ?_
              replace h := bd_some h
              obtain ⟨r111, hf111, h⟩ := h
              refine r_callI (As := [.int (jI x1)]) (rest := []) C hM2 (c_X5_endOf l E z hx1 hf111) jy_X5_endOf lk_X10_244 dX10_piece_111 (recvW C hM2 jc5 lc_56.1 lc_56.2 rfl) rfl rfl hl.1 (Nat.le_of_ble_eq_true rfl) ⟨Nat.le_of_ble_eq_true rfl, Nat.le_of_ble_eq_true rfl⟩ ⟨rfl, rfl⟩ ⟨Nat.zero_le _, Nat.zero_le _⟩ (fun H locs hr111 hM8 => ?_)
              exact r_ireturn C hM8 hr hlk hr111 h rfl dX10_piece_114
            · replace h := ifn cq h
              have c19_5 := cq
              have cd : jsw 19 0 5 (96) #[(37), (47), (57), (67), (77), (87)] x2 = (115 : Int) := by
                have cz : (x2 < 0 ∨ 5 < x2) := by omega
                · unfold jsw; rw [if_pos cz]; rfl
              refine r_table C 115 hx2 dX10_piece_19 (by decide) cd ?_
              refine r_aload_n C dX10_piece_115 rfl hl 0 rfl ?_
              refine r_getR C hM2 jc10 9 56 dX10_piece_116 lk_X10_54 lc_0.1 lc_0.2 rfl rfl (by decide) rfl ?_
              refine r_getR C hM2 jc5 7 62 dX10_piece_119 lk_X10_247 lc_56.1 lc_56.2 rfl rfl (by decide) rfl ?_
              refine r_iload_n C dX10_piece_122 rfl hl 1 rfl ?_
              replace h := ck_some h
              obtain ⟨hc9, h⟩ := h
              refine r_iald C hM2 rfl dX10_piece_123 lc_62.1 lc_62.2 hc9 hx1 ?_
              exact r_ireturn C hM2 hr hlk (hM0.ok _ _) h rfl dX10_piece_124
set_option maxRecDepth 100000 in
set_option maxHeartbeats 4000000 in
theorem c_X10_reel (l : Launch) (E : jE) (z : Nat) {x1 : Int} {M : Mem} {r : Int} (hx1 : inR x1) (h : f_X10_reel x1 M = some r) : CtI l yX10_reel cX10_reel 2 (some .int) { frames := 2, cells := 0, slots := 0, locals := 43 } E z LyC [.ref (z + 0), .int (jI x1)] M r M := by
  refine jm (by decide +kernel) (Nat.le_of_ble_eq_true rfl) ?_
  intro p e sM m below meth c C hM0 hr hlk ls hl
  replace hl : lv_has ls 2 [(0, .ref (z + 0)), (1, .int (jI x1))] := hl
  unfold f_X10_reel at h
  refine r_iload_n C dX10_reel_0 rfl hl 1 rfl ?_
  refine r_iconst C dX10_reel_1 ?_
  refine r_bipush C dX10_reel_2 rfl ?_
  replace h := bd_some h
  obtain ⟨_, hf4, h⟩ := h
  refine r_callSV (As := [.int (jI x1), .int (jI 0), .int (jI 6)]) (rest := []) C hM0 (c_X10_requireRange l E z hx1 ⟨by decide, by decide⟩ ⟨by decide, by decide⟩ hf4) jy_X10_requireRange lk_X10_97 dX10_reel_4 rfl rfl hl.1 (Nat.le_of_ble_eq_true rfl) ⟨Nat.le_of_ble_eq_true rfl, Nat.le_of_ble_eq_true rfl⟩ ⟨rfl, rfl⟩ ⟨Nat.zero_le _, Nat.zero_le _⟩ (fun H locs hM1 => ?_)
  refine r_iload_n C dX10_reel_7 rfl hl 1 rfl ?_
  by_cases cq : x1 = 0
  · replace h := ifp cq h
    refine r_table C 48 hx1 dX10_reel_8 (by decide) (by rw [cq]; rfl) ?_
    refine r_aload_n C dX10_reel_48 rfl hl 0 rfl ?_
    refine r_getR C hM1 jc10 9 56 dX10_reel_49 lk_X10_54 lc_0.1 lc_0.2 rfl rfl (by decide) rfl ?_
    refine r_getI C hM1 jc5 0 rfl dX10_reel_52 lk_X10_230 lc_56.1 lc_56.2 rfl rfl (by decide) rfl ?_
    exact r_ireturn C hM1 hr hlk (hM0.ok _ _) h rfl dX10_reel_55
  · replace h := ifn cq h
    have c8_0 := cq
    by_cases cq : x1 = 1
    · replace h := ifp cq h
      refine r_table C 56 hx1 dX10_reel_8 (by decide) (by rw [cq]; rfl) ?_
      refine r_aload_n C dX10_reel_56 rfl hl 0 rfl ?_
      refine r_getR C hM1 jc10 9 56 dX10_reel_57 lk_X10_54 lc_0.1 lc_0.2 rfl rfl (by decide) rfl ?_
      refine r_getI C hM1 jc5 1 rfl dX10_reel_60 lk_X10_250 lc_56.1 lc_56.2 rfl rfl (by decide) rfl ?_
      exact r_ireturn C hM1 hr hlk (hM0.ok _ _) h rfl dX10_reel_63
    · replace h := ifn cq h
      have c8_1 := cq
      by_cases cq : x1 = 2
      · replace h := ifp cq h
        refine r_table C 64 hx1 dX10_reel_8 (by decide) (by rw [cq]; rfl) ?_
        refine r_aload_n C dX10_reel_64 rfl hl 0 rfl ?_
        refine r_getR C hM1 jc10 10 64 dX10_reel_65 lk_X10_61 lc_0.1 lc_0.2 rfl rfl (by decide) rfl ?_
        refine r_getI C hM1 jc6 1 rfl dX10_reel_68 lk_X10_253 lc_64.1 lc_64.2 rfl rfl (by decide) rfl ?_
        exact r_ireturn C hM1 hr hlk (hM0.ok _ _) h rfl dX10_reel_71
      · replace h := ifn cq h
        have c8_2 := cq
        by_cases cq : x1 = 3
        · replace h := ifp cq h
          refine r_table C 72 hx1 dX10_reel_8 (by decide) (by rw [cq]; rfl) ?_
          refine r_aload_n C dX10_reel_72 rfl hl 0 rfl ?_
          refine r_getR C hM1 jc10 9 56 dX10_reel_73 lk_X10_54 lc_0.1 lc_0.2 rfl rfl (by decide) rfl ?_
          refine r_getI C hM1 jc5 1 rfl dX10_reel_76 lk_X10_250 lc_56.1 lc_56.2 rfl rfl (by decide) rfl ?_
          refine r_aload_n C dX10_reel_79 rfl hl 0 rfl ?_
          refine r_getR C hM1 jc10 10 64 dX10_reel_80 lk_X10_61 lc_0.1 lc_0.2 rfl rfl (by decide) rfl ?_
          refine r_getI C hM1 jc6 1 rfl dX10_reel_83 lk_X10_253 lc_64.1 lc_64.2 rfl rfl (by decide) rfl ?_
          replace h := ck_some h
          obtain ⟨hc2, h⟩ := h
          refine r_isub C dX10_reel_86 ?_
          exact r_ireturn C hM1 hr hlk hc2 h rfl dX10_reel_87
        · replace h := ifn cq h
          have c8_3 := cq
          by_cases cq : x1 = 4
          · replace h := ifp cq h
            refine r_table C 88 hx1 dX10_reel_8 (by decide) (by rw [cq]; rfl) ?_
            refine r_aload_n C dX10_reel_88 rfl hl 0 rfl ?_
            refine r_getR C hM1 jc10 2 5 dX10_reel_89 lk_X10_26 lc_0.1 lc_0.2 rfl rfl (by decide) rfl ?_
            refine r_getR C hM1 jc7 2 22 dX10_reel_92 lk_X10_111 lc_5.1 lc_5.2 rfl rfl (by decide) rfl ?_
            replace h := bd_some h
            obtain ⟨r95, hf95, h⟩ := h
            refine r_callI (As := []) (rest := []) C hM1 (c_X2_deepest l E z (show isSt 5 by decide) hf95) jy_X2_deepest lk_X10_254 dX10_reel_95 (recvW C hM1 jc2 lc_22.1 lc_22.2 rfl) rfl rfl hl.1 (Nat.le_of_ble_eq_true rfl) ⟨Nat.le_of_ble_eq_true rfl, Nat.le_of_ble_eq_true rfl⟩ ⟨rfl, rfl⟩ ⟨Nat.zero_le _, Nat.zero_le _⟩ (fun H locs hr95 hM3 => ?_)
            exact r_ireturn C hM3 hr hlk hr95 h rfl dX10_reel_98
          · replace h := ifn cq h
            have c8_4 := cq
            by_cases cq : x1 = 5
            · replace h := ifp cq h
              refine r_table C 99 hx1 dX10_reel_8 (by decide) (by rw [cq]; rfl) ?_
              refine r_aload_n C dX10_reel_99 rfl hl 0 rfl ?_
              refine r_getR C hM1 jc10 9 56 dX10_reel_100 lk_X10_54 lc_0.1 lc_0.2 rfl rfl (by decide) rfl ?_
              replace h := bd_some h
              obtain ⟨r103, hf103, h⟩ := h
              refine r_callI (As := []) (rest := []) C hM1 (c_X5_longest l E z hf103) jy_X5_longest lk_X10_257 dX10_reel_103 (recvW C hM1 jc5 lc_56.1 lc_56.2 rfl) rfl rfl hl.1 (Nat.le_of_ble_eq_true rfl) ⟨Nat.le_of_ble_eq_true rfl, Nat.le_of_ble_eq_true rfl⟩ ⟨rfl, rfl⟩ ⟨Nat.zero_le _, Nat.zero_le _⟩ (fun H locs hr103 hM4 => ?_)
              exact r_ireturn C hM4 hr hlk hr103 h rfl dX10_reel_106
            · replace h := ifn cq h
              have c8_5 := cq
              have cd : jsw 8 0 5 (99) #[(40), (48), (56), (64), (80), (91)] x1 = (107 : Int) := by
                have cz : (x1 < 0 ∨ 5 < x1) := by omega
                · unfold jsw; rw [if_pos cz]; rfl
              refine r_table C 107 hx1 dX10_reel_8 (by decide) cd ?_
              refine r_aload_n C dX10_reel_107 rfl hl 0 rfl ?_
              refine r_getR C hM1 jc10 9 56 dX10_reel_108 lk_X10_54 lc_0.1 lc_0.2 rfl rfl (by decide) rfl ?_
              replace h := bd_some h
              obtain ⟨r111, hf111, h⟩ := h
              refine r_callI (As := []) (rest := []) C hM1 (c_X5_allOverlaps l E z hf111) jy_X5_allOverlaps lk_X10_260 dX10_reel_111 (recvW C hM1 jc5 lc_56.1 lc_56.2 rfl) rfl rfl hl.1 (Nat.le_of_ble_eq_true rfl) ⟨Nat.le_of_ble_eq_true rfl, Nat.le_of_ble_eq_true rfl⟩ ⟨rfl, rfl⟩ ⟨Nat.zero_le _, Nat.zero_le _⟩ (fun H locs hr111 hM5 => ?_)
              exact r_ireturn C hM5 hr hlk hr111 h rfl dX10_reel_114
set_option maxRecDepth 100000 in
set_option maxHeartbeats 4000000 in
theorem c_X10_screen (l : Launch) (E : jE) (z : Nat) {x1 : Int} {M : Mem} {r : Int} (hx1 : inR x1) (h : f_X10_screen x1 M = some r) : CtI l yX10_screen cX10_screen 2 (some .int) { frames := 2, cells := 0, slots := 0, locals := 43 } E z LyC [.ref (z + 0), .int (jI x1)] M r M := by
  refine jm (by decide +kernel) (Nat.le_of_ble_eq_true rfl) ?_
  intro p e sM m below meth c C hM0 hr hlk ls hl
  replace hl : lv_has ls 2 [(0, .ref (z + 0)), (1, .int (jI x1))] := hl
  unfold f_X10_screen at h
  refine r_aload_n C dX10_screen_0 rfl hl 0 rfl ?_
  refine r_getR C hM0 jc10 9 56 dX10_screen_1 lk_X10_54 lc_0.1 lc_0.2 rfl rfl (by decide) rfl ?_
  refine r_iload_n C dX10_screen_4 rfl hl 1 rfl ?_
  replace h := bd_some h
  obtain ⟨r5, hf5, h⟩ := h
  refine r_callI (As := [.int (jI x1)]) (rest := []) C hM0 (c_X5_onScreen l E z hx1 hf5) jy_X5_onScreen lk_X10_263 dX10_screen_5 (recvW C hM0 jc5 lc_56.1 lc_56.2 rfl) rfl rfl hl.1 (Nat.le_of_ble_eq_true rfl) ⟨Nat.le_of_ble_eq_true rfl, Nat.le_of_ble_eq_true rfl⟩ ⟨rfl, rfl⟩ ⟨Nat.zero_le _, Nat.zero_le _⟩ (fun H locs hr5 hM1 => ?_)
  exact r_ireturn C hM1 hr hlk hr5 h rfl dX10_screen_8
set_option maxRecDepth 100000 in
set_option maxHeartbeats 4000000 in
theorem c_X10_spoken (l : Launch) (E : jE) (z : Nat) {x1 : Int} {M : Mem} {r : Int} (hx1 : inR x1) (h : f_X10_spoken x1 M = some r) : CtI l yX10_spoken cX10_spoken 2 (some .int) { frames := 1, cells := 0, slots := 0, locals := 22 } E z LyC [.ref (z + 0), .int (jI x1)] M r M := by
  refine jm (by decide +kernel) (Nat.le_of_ble_eq_true rfl) ?_
  intro p e sM m below meth c C hM0 hr hlk ls hl
  replace hl : lv_has ls 2 [(0, .ref (z + 0)), (1, .int (jI x1))] := hl
  unfold f_X10_spoken at h
  refine r_aload_n C dX10_spoken_0 rfl hl 0 rfl ?_
  refine r_getR C hM0 jc10 10 64 dX10_spoken_1 lk_X10_61 lc_0.1 lc_0.2 rfl rfl (by decide) rfl ?_
  refine r_iload_n C dX10_spoken_4 rfl hl 1 rfl ?_
  replace h := bd_some h
  obtain ⟨r5, hf5, h⟩ := h
  refine r_callI (As := [.int (jI x1)]) (rest := []) C hM0 (c_X6_wordAt l E z hx1 hf5) jy_X6_wordAt lk_X10_266 dX10_spoken_5 (recvW C hM0 jc6 lc_64.1 lc_64.2 rfl) rfl rfl hl.1 (Nat.le_of_ble_eq_true rfl) ⟨Nat.le_of_ble_eq_true rfl, Nat.le_of_ble_eq_true rfl⟩ ⟨rfl, rfl⟩ ⟨Nat.zero_le _, Nat.zero_le _⟩ (fun H locs hr5 hM1 => ?_)
  exact r_ireturn C hM1 hr hlk hr5 h rfl dX10_spoken_8
set_option maxRecDepth 100000 in
set_option maxHeartbeats 4000000 in
theorem c_X10_account (l : Launch) (E : jE) (z : Nat) {x1 : Int} {M : Mem} {r : Int} (hx1 : inR x1) (h : f_X10_account x1 M = some r) : CtI l yX10_account cX10_account 2 (some .int) { frames := 1, cells := 0, slots := 0, locals := 22 } E z LyC [.ref (z + 0), .int (jI x1)] M r M := by
  refine jm (by decide +kernel) (Nat.le_of_ble_eq_true rfl) ?_
  intro p e sM m below meth c C hM0 hr hlk ls hl
  replace hl : lv_has ls 2 [(0, .ref (z + 0)), (1, .int (jI x1))] := hl
  unfold f_X10_account at h
  refine r_iload_n C dX10_account_0 rfl hl 1 rfl ?_
  refine r_iconst C dX10_account_1 ?_
  refine r_bipush C dX10_account_2 rfl ?_
  replace h := bd_some h
  obtain ⟨_, hf4, h⟩ := h
  refine r_callSV (As := [.int (jI x1), .int (jI 0), .int (jI 6)]) (rest := []) C hM0 (c_X10_requireRange l E z hx1 ⟨by decide, by decide⟩ ⟨by decide, by decide⟩ hf4) jy_X10_requireRange lk_X10_97 dX10_account_4 rfl rfl hl.1 (Nat.le_of_ble_eq_true rfl) ⟨Nat.le_of_ble_eq_true rfl, Nat.le_of_ble_eq_true rfl⟩ ⟨rfl, rfl⟩ ⟨Nat.zero_le _, Nat.zero_le _⟩ (fun H locs hM1 => ?_)
  refine r_aload_n C dX10_account_7 rfl hl 0 rfl ?_
  refine r_getR C hM1 jc10 13 73 dX10_account_8 lk_X10_79 lc_0.1 lc_0.2 rfl rfl (by decide) rfl ?_
  refine r_iload_n C dX10_account_11 rfl hl 1 rfl ?_
  replace h := ck_some h
  obtain ⟨hc2, h⟩ := h
  refine r_iald C hM1 rfl dX10_account_12 lc_73.1 lc_73.2 hc2 hx1 ?_
  exact r_ireturn C hM1 hr hlk (hM0.ok _ _) h rfl dX10_account_13
set_option maxRecDepth 100000 in
set_option maxHeartbeats 4000000 in
theorem c_X10_faults (l : Launch) (E : jE) (z : Nat) {x1 : Int} {M M' : Mem} {r : Int} (hx1 : inR x1) (h : f_X10_faults x1 M = some (r, M')) : CtI l yX10_faults cX10_faults 2 (some .int) { frames := 5, cells := 0, slots := 0, locals := 113 } E z LyC [.ref (z + 0), .int (jI x1)] M r M' := by
  refine jm (by decide +kernel) (Nat.le_of_ble_eq_true rfl) ?_
  intro p e sM m below meth c C hM0 hr hlk ls hl
  replace hl : lv_has ls 2 [(0, .ref (z + 0)), (1, .int (jI x1))] := hl
  unfold f_X10_faults at h
  refine r_iload_n C dX10_faults_0 rfl hl 1 rfl ?_
  refine r_iconst C dX10_faults_1 ?_
  refine r_iconst C dX10_faults_2 ?_
  replace h := bd_some h
  obtain ⟨_, hf3, h⟩ := h
  refine r_callSV (As := [.int (jI x1), .int (jI 0), .int (jI 5)]) (rest := []) C hM0 (c_X10_requireRange l E z hx1 ⟨by decide, by decide⟩ ⟨by decide, by decide⟩ hf3) jy_X10_requireRange lk_X10_97 dX10_faults_3 rfl rfl hl.1 (Nat.le_of_ble_eq_true rfl) ⟨Nat.le_of_ble_eq_true rfl, Nat.le_of_ble_eq_true rfl⟩ ⟨rfl, rfl⟩ ⟨Nat.zero_le _, Nat.zero_le _⟩ (fun H locs hM1 => ?_)
  refine r_aload_n C dX10_faults_6 rfl hl 0 rfl ?_
  refine r_getR C hM1 jc10 11 68 dX10_faults_7 lk_X10_68 lc_0.1 lc_0.2 rfl rfl (by decide) rfl ?_
  refine r_aload_n C dX10_faults_10 rfl hl 0 rfl ?_
  refine r_getR C hM1 jc10 2 5 dX10_faults_11 lk_X10_26 lc_0.1 lc_0.2 rfl rfl (by decide) rfl ?_
  refine r_aload_n C dX10_faults_14 rfl hl 0 rfl ?_
  refine r_getR C hM1 jc10 9 56 dX10_faults_15 lk_X10_54 lc_0.1 lc_0.2 rfl rfl (by decide) rfl ?_
  refine r_aload_n C dX10_faults_18 rfl hl 0 rfl ?_
  refine r_getR C hM1 jc10 10 64 dX10_faults_19 lk_X10_61 lc_0.1 lc_0.2 rfl rfl (by decide) rfl ?_
  replace h := bd_some h
  obtain ⟨M22, hf22, h⟩ := h
  refine r_callV (As := [.ref (z + 5), .ref (z + 56), .ref (z + 64)]) (rest := []) C hM1 (c_X1_find l E z (show isSt 5 by decide) hf22) jy_X1_find lk_X10_269 dX10_faults_22 (recvW C hM1 jc1 lc_68.1 lc_68.2 rfl) rfl rfl hl.1 (Nat.le_of_ble_eq_true rfl) ⟨Nat.le_of_ble_eq_true rfl, Nat.le_of_ble_eq_true rfl⟩ ⟨rfl, rfl⟩ ⟨Nat.zero_le _, Nat.zero_le _⟩ (fun H locs hM2 => ?_)
  refine r_iload_n C dX10_faults_25 rfl hl 1 rfl ?_
  refine r_if_ne C 39 hx1 dX10_faults_26 (by decide) (fun cq => ?_) (fun cq => ?_)
  · replace h := ifn cq h
    refine r_aload_n C dX10_faults_39 rfl hl 0 rfl ?_
    refine r_getR C hM2 jc10 11 68 dX10_faults_40 lk_X10_68 lc_0.1 lc_0.2 rfl rfl (by decide) rfl ?_
    refine r_iload_n C dX10_faults_43 rfl hl 1 rfl ?_
    replace h := bd_some h
    obtain ⟨r44, hf44, h⟩ := h
    refine r_callI (As := [.int (jI x1)]) (rest := []) C hM2 (c_X1_countOf l E z hx1 hf44) jy_X1_countOf lk_X10_274 dX10_faults_44 (recvW C hM2 jc1 lc_68.1 lc_68.2 rfl) rfl rfl hl.1 (Nat.le_of_ble_eq_true rfl) ⟨Nat.le_of_ble_eq_true rfl, Nat.le_of_ble_eq_true rfl⟩ ⟨rfl, rfl⟩ ⟨Nat.zero_le _, Nat.zero_le _⟩ (fun H locs hr44 hM3 => ?_)
    exact r_ireturnM C hM3 hr hlk hr44 h dX10_faults_47
  · replace h := ifp cq h
    refine r_aload_n C dX10_faults_29 rfl hl 0 rfl ?_
    refine r_getR C hM2 jc10 11 68 dX10_faults_30 lk_X10_68 lc_0.1 lc_0.2 rfl rfl (by decide) rfl ?_
    refine r_getI C hM2 jc1 0 rfl dX10_faults_33 lk_X10_273 lc_68.1 lc_68.2 rfl rfl (by decide) rfl ?_
    refine r_goto C 47 dX10_faults_36 (by decide) ?_
    exact r_ireturnM C hM2 hr hlk (hM2.ok _ _) h dX10_faults_47
set_option maxRecDepth 100000 in
set_option maxHeartbeats 4000000 in
theorem c_X10_fault (l : Launch) (E : jE) (z : Nat) {x1 : Int} {x2 : Int} {M M' : Mem} {r : Int} (hx1 : inR x1) (hx2 : inR x2) (h : f_X10_fault x1 x2 M = some (r, M')) : CtI l yX10_fault cX10_fault 3 (some .int) { frames := 5, cells := 0, slots := 0, locals := 113 } E z LyC [.ref (z + 0), .int (jI x1), .int (jI x2)] M r M' := by
  refine jm (by decide +kernel) (Nat.le_of_ble_eq_true rfl) ?_
  intro p e sM m below meth c C hM0 hr hlk ls hl
  replace hl : lv_has ls 3 [(0, .ref (z + 0)), (1, .int (jI x1)), (2, .int (jI x2))] := hl
  unfold f_X10_fault at h
  refine r_aload_n C dX10_fault_0 rfl hl 0 rfl ?_
  refine r_getR C hM0 jc10 11 68 dX10_fault_1 lk_X10_68 lc_0.1 lc_0.2 rfl rfl (by decide) rfl ?_
  refine r_aload_n C dX10_fault_4 rfl hl 0 rfl ?_
  refine r_getR C hM0 jc10 2 5 dX10_fault_5 lk_X10_26 lc_0.1 lc_0.2 rfl rfl (by decide) rfl ?_
  refine r_aload_n C dX10_fault_8 rfl hl 0 rfl ?_
  refine r_getR C hM0 jc10 9 56 dX10_fault_9 lk_X10_54 lc_0.1 lc_0.2 rfl rfl (by decide) rfl ?_
  refine r_aload_n C dX10_fault_12 rfl hl 0 rfl ?_
  refine r_getR C hM0 jc10 10 64 dX10_fault_13 lk_X10_61 lc_0.1 lc_0.2 rfl rfl (by decide) rfl ?_
  replace h := bd_some h
  obtain ⟨M16, hf16, h⟩ := h
  refine r_callV (As := [.ref (z + 5), .ref (z + 56), .ref (z + 64)]) (rest := []) C hM0 (c_X1_find l E z (show isSt 5 by decide) hf16) jy_X1_find lk_X10_269 dX10_fault_16 (recvW C hM0 jc1 lc_68.1 lc_68.2 rfl) rfl rfl hl.1 (Nat.le_of_ble_eq_true rfl) ⟨Nat.le_of_ble_eq_true rfl, Nat.le_of_ble_eq_true rfl⟩ ⟨rfl, rfl⟩ ⟨Nat.zero_le _, Nat.zero_le _⟩ (fun H locs hM1 => ?_)
  refine r_iload_n C dX10_fault_19 rfl hl 1 rfl ?_
  refine r_aload_n C dX10_fault_20 rfl hl 0 rfl ?_
  refine r_getR C hM1 jc10 11 68 dX10_fault_21 lk_X10_68 lc_0.1 lc_0.2 rfl rfl (by decide) rfl ?_
  refine r_getI C hM1 jc1 0 rfl dX10_fault_24 lk_X10_273 lc_68.1 lc_68.2 rfl rfl (by decide) rfl ?_
  replace h := bd_some h
  obtain ⟨_, hf27, h⟩ := h
  refine r_callSV (As := [.int (jI x1), .int (jI (M16 68 0))]) (rest := []) C hM1 (c_X10_requireIndex l E z hx1 (hM1.ok _ _) hf27) jy_X10_requireIndex lk_X10_172 dX10_fault_27 rfl rfl hl.1 (Nat.le_of_ble_eq_true rfl) ⟨Nat.le_of_ble_eq_true rfl, Nat.le_of_ble_eq_true rfl⟩ ⟨rfl, rfl⟩ ⟨Nat.zero_le _, Nat.zero_le _⟩ (fun H locs hM2 => ?_)
  refine r_iload_n C dX10_fault_30 rfl hl 2 rfl ?_
  refine r_iconst C dX10_fault_31 ?_
  refine r_iconst C dX10_fault_32 ?_
  replace h := bd_some h
  obtain ⟨_, hf33, h⟩ := h
  refine r_callSV (As := [.int (jI x2), .int (jI 0), .int (jI 1)]) (rest := []) C hM2 (c_X10_requireRange l E z hx2 ⟨by decide, by decide⟩ ⟨by decide, by decide⟩ hf33) jy_X10_requireRange lk_X10_97 dX10_fault_33 rfl rfl hl.1 (Nat.le_of_ble_eq_true rfl) ⟨Nat.le_of_ble_eq_true rfl, Nat.le_of_ble_eq_true rfl⟩ ⟨rfl, rfl⟩ ⟨Nat.zero_le _, Nat.zero_le _⟩ (fun H locs hM3 => ?_)
  refine r_iload_n C dX10_fault_36 rfl hl 2 rfl ?_
  refine r_if_ne C 52 hx2 dX10_fault_37 (by decide) (fun cq => ?_) (fun cq => ?_)
  · replace h := ifn cq h
    refine r_aload_n C dX10_fault_52 rfl hl 0 rfl ?_
    refine r_getR C hM3 jc10 11 68 dX10_fault_53 lk_X10_68 lc_0.1 lc_0.2 rfl rfl (by decide) rfl ?_
    refine r_getR C hM3 jc1 2 70 dX10_fault_56 lk_X10_276 lc_68.1 lc_68.2 rfl rfl (by decide) rfl ?_
    refine r_iload_n C dX10_fault_59 rfl hl 1 rfl ?_
    replace h := ck_some h
    obtain ⟨hc4, h⟩ := h
    refine r_iald C hM3 rfl dX10_fault_60 lc_70.1 lc_70.2 hc4 hx1 ?_
    exact r_ireturnM C hM3 hr hlk (hM1.ok _ _) h dX10_fault_61
  · replace h := ifp cq h
    refine r_aload_n C dX10_fault_40 rfl hl 0 rfl ?_
    refine r_getR C hM3 jc10 11 68 dX10_fault_41 lk_X10_68 lc_0.1 lc_0.2 rfl rfl (by decide) rfl ?_
    refine r_getR C hM3 jc1 1 69 dX10_fault_44 lk_X10_275 lc_68.1 lc_68.2 rfl rfl (by decide) rfl ?_
    refine r_iload_n C dX10_fault_47 rfl hl 1 rfl ?_
    replace h := ck_some h
    obtain ⟨hc5, h⟩ := h
    refine r_iald C hM3 rfl dX10_fault_48 lc_69.1 lc_69.2 hc5 hx1 ?_
    refine r_goto C 61 dX10_fault_49 (by decide) ?_
    exact r_ireturnM C hM3 hr hlk (hM1.ok _ _) h dX10_fault_61
set_option maxRecDepth 100000 in
set_option maxHeartbeats 4000000 in
theorem c_X10_fits (l : Launch) (E : jE) (z : Nat) {M M' : Mem} {r : Int} (h : f_X10_fits M = some (r, M')) : CtI l yX10_fits cX10_fits 1 (some .boolean) { frames := 5, cells := 0, slots := 0, locals := 113 } E z LyC [.ref (z + 0)] M r M' := by
  refine jm (by decide +kernel) (Nat.le_of_ble_eq_true rfl) ?_
  intro p e sM m below meth c C hM0 hr hlk ls hl
  replace hl : lv_has ls 1 [(0, .ref (z + 0))] := hl
  unfold f_X10_fits at h
  refine r_aload_n C dX10_fits_0 rfl hl 0 rfl ?_
  refine r_getR C hM0 jc10 11 68 dX10_fits_1 lk_X10_68 lc_0.1 lc_0.2 rfl rfl (by decide) rfl ?_
  refine r_aload_n C dX10_fits_4 rfl hl 0 rfl ?_
  refine r_getR C hM0 jc10 2 5 dX10_fits_5 lk_X10_26 lc_0.1 lc_0.2 rfl rfl (by decide) rfl ?_
  refine r_aload_n C dX10_fits_8 rfl hl 0 rfl ?_
  refine r_getR C hM0 jc10 9 56 dX10_fits_9 lk_X10_54 lc_0.1 lc_0.2 rfl rfl (by decide) rfl ?_
  refine r_aload_n C dX10_fits_12 rfl hl 0 rfl ?_
  refine r_getR C hM0 jc10 10 64 dX10_fits_13 lk_X10_61 lc_0.1 lc_0.2 rfl rfl (by decide) rfl ?_
  replace h := bd_some h
  obtain ⟨M16, hf16, h⟩ := h
  refine r_callV (As := [.ref (z + 5), .ref (z + 56), .ref (z + 64)]) (rest := []) C hM0 (c_X1_find l E z (show isSt 5 by decide) hf16) jy_X1_find lk_X10_269 dX10_fits_16 (recvW C hM0 jc1 lc_68.1 lc_68.2 rfl) rfl rfl hl.1 (Nat.le_of_ble_eq_true rfl) ⟨Nat.le_of_ble_eq_true rfl, Nat.le_of_ble_eq_true rfl⟩ ⟨rfl, rfl⟩ ⟨Nat.zero_le _, Nat.zero_le _⟩ (fun H locs hM1 => ?_)
  refine r_aload_n C dX10_fits_19 rfl hl 0 rfl ?_
  refine r_getR C hM1 jc10 11 68 dX10_fits_20 lk_X10_68 lc_0.1 lc_0.2 rfl rfl (by decide) rfl ?_
  refine r_getI C hM1 jc1 0 rfl dX10_fits_23 lk_X10_273 lc_68.1 lc_68.2 rfl rfl (by decide) rfl ?_
  refine r_if_ne C 33 (hM1.ok _ _) dX10_fits_26 (by decide) (fun cq => ?_) (fun cq => ?_)
  · replace h := ifn cq h
    refine r_iconst C dX10_fits_33 ?_
    exact r_zreturnM C hM1 hr hlk (Or.inl rfl) h dX10_fits_34
  · replace h := ifp cq h
    refine r_iconst C dX10_fits_29 ?_
    refine r_goto C 34 dX10_fits_30 (by decide) ?_
    exact r_zreturnM C hM1 hr hlk (Or.inr rfl) h dX10_fits_34
set_option maxRecDepth 100000 in
set_option maxHeartbeats 4000000 in
theorem c_X10_findChoice (l : Launch) (E : jE) (z : Nat) {x1 : Int} {M M' : Mem} (hx1 : inR x1) (h : f_X10_findChoice x1 M = some M') : CtV l yX10_findChoice cX10_findChoice 2 none { frames := 3, cells := 0, slots := 0, locals := 72 } E z LyC [.ref (z + 0), .int (jI x1)] M M' := by
  refine jm (by decide +kernel) (Nat.le_of_ble_eq_true rfl) ?_
  intro p e sM m below meth c C hM0 hr hlk ls hl
  replace hl : lv_has ls 2 [(0, .ref (z + 0)), (1, .int (jI x1))] := hl
  unfold f_X10_findChoice at h
  refine r_aload_n C dX10_findChoice_0 rfl hl 0 rfl ?_
  refine r_getR C hM0 jc10 12 71 dX10_findChoice_1 lk_X10_75 lc_0.1 lc_0.2 rfl rfl (by decide) rfl ?_
  refine r_aload_n C dX10_findChoice_4 rfl hl 0 rfl ?_
  refine r_getR C hM0 jc10 2 5 dX10_findChoice_5 lk_X10_26 lc_0.1 lc_0.2 rfl rfl (by decide) rfl ?_
  refine r_getR C hM0 jc7 0 6 dX10_findChoice_8 lk_X10_101 lc_5.1 lc_5.2 rfl rfl (by decide) rfl ?_
  refine r_aload_n C dX10_findChoice_11 rfl hl 0 rfl ?_
  refine r_getR C hM0 jc10 2 5 dX10_findChoice_12 lk_X10_26 lc_0.1 lc_0.2 rfl rfl (by decide) rfl ?_
  refine r_getR C hM0 jc7 0 6 dX10_findChoice_15 lk_X10_101 lc_5.1 lc_5.2 rfl rfl (by decide) rfl ?_
  refine r_iload_n C dX10_findChoice_18 rfl hl 1 rfl ?_
  replace h := bd_some h
  obtain ⟨r19, hf19, h⟩ := h
  refine r_callI (As := [.int (jI x1)]) (rest := [.ref (z + 6), .ref (z + 71)]) C hM0 (c_X3_allowedShots l E z (show isSt 5 by decide) hx1 hf19) jy_X3_allowedShots lk_X10_297 dX10_findChoice_19 (recvW C hM0 jc3 lc_6.1 lc_6.2 rfl) rfl rfl hl.1 (Nat.le_of_ble_eq_true rfl) ⟨Nat.le_of_ble_eq_true rfl, Nat.le_of_ble_eq_true rfl⟩ ⟨rfl, rfl⟩ ⟨Nat.zero_le _, Nat.zero_le _⟩ (fun H locs hr19 hM1 => ?_)
  refine r_aload_n C dX10_findChoice_22 rfl hl 0 rfl ?_
  refine r_getR C hM1 jc10 10 64 dX10_findChoice_23 lk_X10_61 lc_0.1 lc_0.2 rfl rfl (by decide) rfl ?_
  refine r_getI C hM1 jc6 1 rfl dX10_findChoice_26 lk_X10_253 lc_64.1 lc_64.2 rfl rfl (by decide) rfl ?_
  replace h := bd_some h
  obtain ⟨M29, hf29, h⟩ := h
  refine r_callV (As := [.ref (z + 6), .int (jI r19), .int (jI (M 64 1))]) (rest := []) C hM1 (c_X0_find l E z (show isSt 5 by decide) hr19 (hM0.ok _ _) hf29) jy_X0_find lk_X10_404 dX10_findChoice_29 (recvW C hM1 jc0 lc_71.1 lc_71.2 rfl) rfl rfl hl.1 (Nat.le_of_ble_eq_true rfl) ⟨Nat.le_of_ble_eq_true rfl, Nat.le_of_ble_eq_true rfl⟩ ⟨rfl, rfl⟩ ⟨Nat.zero_le _, Nat.zero_le _⟩ (fun H locs hM2 => ?_)
  exact r_return C hM2 hr hlk h dX10_findChoice_32
set_option maxRecDepth 100000 in
set_option maxHeartbeats 4000000 in
theorem c_X10_best (l : Launch) (E : jE) (z : Nat) {x1 : Int} {M M' : Mem} {r : Int} (hx1 : inR x1) (h : f_X10_best x1 M = some (r, M')) : CtI l yX10_best cX10_best 2 (some .int) { frames := 4, cells := 0, slots := 0, locals := 93 } E z LyC [.ref (z + 0), .int (jI x1)] M r M' := by
  refine jm (by decide +kernel) (Nat.le_of_ble_eq_true rfl) ?_
  intro p e sM m below meth c C hM0 hr hlk ls hl
  replace hl : lv_has ls 2 [(0, .ref (z + 0)), (1, .int (jI x1))] := hl
  unfold f_X10_best at h
  refine r_iload_n C dX10_best_0 rfl hl 1 rfl ?_
  refine r_iconst C dX10_best_1 ?_
  refine r_iconst C dX10_best_2 ?_
  replace h := bd_some h
  obtain ⟨_, hf3, h⟩ := h
  refine r_callSV (As := [.int (jI x1), .int (jI 0), .int (jI 2)]) (rest := []) C hM0 (c_X10_requireRange l E z hx1 ⟨by decide, by decide⟩ ⟨by decide, by decide⟩ hf3) jy_X10_requireRange lk_X10_97 dX10_best_3 rfl rfl hl.1 (Nat.le_of_ble_eq_true rfl) ⟨Nat.le_of_ble_eq_true rfl, Nat.le_of_ble_eq_true rfl⟩ ⟨rfl, rfl⟩ ⟨Nat.zero_le _, Nat.zero_le _⟩ (fun H locs hM1 => ?_)
  refine r_aload_n C dX10_best_6 rfl hl 0 rfl ?_
  refine r_aload_n C dX10_best_7 rfl hl 0 rfl ?_
  refine r_getR C hM1 jc10 2 5 dX10_best_8 lk_X10_26 lc_0.1 lc_0.2 rfl rfl (by decide) rfl ?_
  refine r_getR C hM1 jc7 0 6 dX10_best_11 lk_X10_101 lc_5.1 lc_5.2 rfl rfl (by decide) rfl ?_
  refine r_iconst C dX10_best_14 ?_
  replace h := bd_some h
  obtain ⟨r15, hf15, h⟩ := h
  refine r_callI (As := [.int (jI 0)]) (rest := [.ref (z + 0)]) C hM1 (c_X3_setting l E z (show isSt 5 by decide) ⟨by decide, by decide⟩ hf15) jy_X3_setting lk_X10_168 dX10_best_15 (recvW C hM1 jc3 lc_6.1 lc_6.2 rfl) rfl rfl hl.1 (Nat.le_of_ble_eq_true rfl) ⟨Nat.le_of_ble_eq_true rfl, Nat.le_of_ble_eq_true rfl⟩ ⟨rfl, rfl⟩ ⟨Nat.zero_le _, Nat.zero_le _⟩ (fun H locs hr15 hM2 => ?_)
  replace h := bd_some h
  obtain ⟨M18, hf18, h⟩ := h
  refine r_callV (As := [.int (jI r15)]) (rest := []) C hM2 (c_X10_findChoice l E z hr15 hf18) jy_X10_findChoice lk_X10_285 dX10_best_18 (recvW C hM2 jc10 lc_0.1 lc_0.2 rfl) rfl rfl hl.1 (Nat.le_of_ble_eq_true rfl) ⟨Nat.le_of_ble_eq_true rfl, Nat.le_of_ble_eq_true rfl⟩ ⟨rfl, rfl⟩ ⟨Nat.zero_le _, Nat.zero_le _⟩ (fun H locs hM3 => ?_)
  refine r_iload_n C dX10_best_21 rfl hl 1 rfl ?_
  by_cases cq : x1 = 0
  · replace h := ifp cq h
    refine r_lookup C 48 (26) hx1 dX10_best_22 (by decide) (by rw [cq]; rfl) (by decide) ?_
    refine r_aload_n C dX10_best_48 rfl hl 0 rfl ?_
    refine r_getR C hM3 jc10 12 71 dX10_best_49 lk_X10_75 lc_0.1 lc_0.2 rfl rfl (by decide) rfl ?_
    refine r_getI C hM3 jc0 0 rfl dX10_best_52 lk_X10_288 lc_71.1 lc_71.2 rfl rfl (by decide) rfl ?_
    exact r_ireturnM C hM3 hr hlk (hM3.ok _ _) h dX10_best_55
  · replace h := ifn cq h
    have c22_0 := cq
    by_cases cq : x1 = 1
    · replace h := ifp cq h
      refine r_lookup C 56 (34) hx1 dX10_best_22 (by decide) (by rw [cq]; rfl) (by decide) ?_
      refine r_aload_n C dX10_best_56 rfl hl 0 rfl ?_
      refine r_getR C hM3 jc10 12 71 dX10_best_57 lk_X10_75 lc_0.1 lc_0.2 rfl rfl (by decide) rfl ?_
      refine r_getI C hM3 jc0 1 rfl dX10_best_60 lk_X10_291 lc_71.1 lc_71.2 rfl rfl (by decide) rfl ?_
      exact r_ireturnM C hM3 hr hlk (hM3.ok _ _) h dX10_best_63
    · replace h := ifn cq h
      have c22_1 := cq
      refine r_lookup C 64 (42) hx1 dX10_best_22 (by decide) ?_ (by decide) ?_
      · simp only [Op.lookupswitch.offset, List.find?]
        (repeat' split) <;> first | rfl | omega | simp_all
      · refine r_aload_n C dX10_best_64 rfl hl 0 rfl ?_
        refine r_getR C hM3 jc10 12 71 dX10_best_65 lk_X10_75 lc_0.1 lc_0.2 rfl rfl (by decide) rfl ?_
        refine r_getI C hM3 jc0 2 rfl dX10_best_68 lk_X10_294 lc_71.1 lc_71.2 rfl rfl (by decide) rfl ?_
        exact r_ireturnM C hM3 hr hlk (hM3.ok _ _) h dX10_best_71
set_option maxRecDepth 100000 in
set_option maxHeartbeats 4000000 in
theorem c_X10_bestWeek (l : Launch) (E : jE) (z : Nat) {M M' : Mem} {r : Int} (h : f_X10_bestWeek M = some (r, M')) : CtI l yX10_bestWeek cX10_bestWeek 6 (some .int) { frames := 4, cells := 0, slots := 0, locals := 93 } E z LyC [.ref (z + 0)] M r M' := by
  refine jm (by decide +kernel) (Nat.le_of_ble_eq_true rfl) ?_
  intro p e sM m below meth c C hM0 hr hlk ls hl
  replace hl : lv_has ls 6 [(0, .ref (z + 0))] := hl
  unfold f_X10_bestWeek at h
  refine r_iconst C dX10_bestWeek_0 ?_
  refine r_istore_n C [(1, .int (jI (-1))), (0, .ref (z + 0))] dX10_bestWeek_1 rfl hl (by decide) rfl (fun ls hl => ?_)
  refine r_iconst C dX10_bestWeek_2 ?_
  refine r_istore_n C [(2, .int (jI (-1))), (1, .int (jI (-1))), (0, .ref (z + 0))] dX10_bestWeek_3 rfl hl (by decide) rfl (fun ls hl => ?_)
  refine r_iconst C dX10_bestWeek_4 ?_
  refine r_istore_n C [(3, .int (jI (-1))), (2, .int (jI (-1))), (1, .int (jI (-1))), (0, .ref (z + 0))] dX10_bestWeek_5 rfl hl (by decide) rfl (fun ls hl => ?_)
  refine r_aload_n C dX10_bestWeek_6 rfl hl 3 rfl ?_
  refine r_getR C hM0 jc10 2 5 dX10_bestWeek_7 lk_X10_26 lc_0.1 lc_0.2 rfl rfl (by decide) rfl ?_
  refine r_getR C hM0 jc7 0 6 dX10_bestWeek_10 lk_X10_101 lc_5.1 lc_5.2 rfl rfl (by decide) rfl ?_
  refine r_iconst C dX10_bestWeek_13 ?_
  replace h := bd_some h
  obtain ⟨r14, hf14, h⟩ := h
  refine r_callI (As := [.int (jI 0)]) (rest := []) C hM0 (c_X3_setting l E z (show isSt 5 by decide) ⟨by decide, by decide⟩ hf14) jy_X3_setting lk_X10_168 dX10_bestWeek_14 (recvW C hM0 jc3 lc_6.1 lc_6.2 rfl) rfl rfl hl.1 (Nat.le_of_ble_eq_true rfl) ⟨Nat.le_of_ble_eq_true rfl, Nat.le_of_ble_eq_true rfl⟩ ⟨rfl, rfl⟩ ⟨Nat.zero_le _, Nat.zero_le _⟩ (fun H locs hr14 hM1 => ?_)
  refine r_istore C [(4, .int (jI r14)), (3, .int (jI (-1))), (2, .int (jI (-1))), (1, .int (jI (-1))), (0, .ref (z + 0))] dX10_bestWeek_17 hl (by decide) rfl (fun ls hl => ?_)
  have hL19 : ∀ n19 : Nat, ∀ (x1 : Int) (x2 : Int) (x3 : Int) (x4 : Int) (M : Mem), inR x1 → inR x2 → inR x3 → inR x4 → ∀ (H : Heap) (locs : List Loc) (ls : Array Slot), f_X10_bestWeek_L19 n19  x1 x2 x3 x4 M = some (r, M') → HS E z LyC M sM H locs → lv_has ls 6 [(0, .ref (z + 0)), (1, .int (jI x1)), (2, .int (jI x2)), (3, .int (jI x3)), (4, .int (jI x4))] → W p l e ({ frames := 4, cells := 0, slots := 0, locals := 93 } : Room) sM m (([.ref (z + 0)] : List Value).toArray) below meth c H locs 0 0 (MQ below (va_Qi (fun (w : Int32) (_ : Unit) => w = jI r ∧ inR r ∧ Mok LyC M') (fun _ t => va_P (eD E) vwCl (Wd (eC E) z LyC M') t.heap) (eA E)) (([.ref (z + 0)] : List Value).toArray) sM 0 0 (eA E)) (F0 m 19 ls []) := by
    intro n19
    induction n19 with
    | zero =>
      intro x1 x2 x3 x4 M hx1 hx2 hx3 hx4 H locs ls h hM hl
      exact absurd h (by simp [f_X10_bestWeek_L19])
    | succ n19 ih19 =>
      intro x1 x2 x3 x4 M hx1 hx2 hx3 hx4 H locs ls h hM hl
      rw [f_X10_bestWeek_L19] at h
      refine r_iload C dX10_bestWeek_19 hl 4 rfl ?_
      refine r_bipush C dX10_bestWeek_21 rfl ?_
      refine r_icmp_gt C 99 hx4 ⟨by decide, by decide⟩ dX10_bestWeek_23 (by decide) (fun cq => ?_) (fun cq => ?_)
      · replace h := ifp cq h
        refine r_iload_n C dX10_bestWeek_99 rfl hl 1 rfl ?_
        exact r_ireturnM C hM hr hlk hx1 h dX10_bestWeek_100
      · replace h := ifn cq h
        refine r_aload_n C dX10_bestWeek_26 rfl hl 0 rfl ?_
        refine r_getR C hM jc10 2 5 dX10_bestWeek_27 lk_X10_26 lc_0.1 lc_0.2 rfl rfl (by decide) rfl ?_
        refine r_getR C hM jc7 0 6 dX10_bestWeek_30 lk_X10_101 lc_5.1 lc_5.2 rfl rfl (by decide) rfl ?_
        refine r_iload C dX10_bestWeek_33 hl 4 rfl ?_
        replace h := bd_some h
        obtain ⟨r35, hf35, h⟩ := h
        refine r_callI (As := [.int (jI x4)]) (rest := []) C hM (c_X3_allowedShots l E z (show isSt 5 by decide) hx4 hf35) jy_X3_allowedShots lk_X10_297 dX10_bestWeek_35 (recvW C hM jc3 lc_6.1 lc_6.2 rfl) rfl rfl hl.1 (Nat.le_of_ble_eq_true rfl) ⟨Nat.le_of_ble_eq_true rfl, Nat.le_of_ble_eq_true rfl⟩ ⟨rfl, rfl⟩ ⟨Nat.zero_le _, Nat.zero_le _⟩ (fun H locs hr35 hM2 => ?_)
        refine r_istore C [(5, .int (jI r35)), (0, .ref (z + 0)), (1, .int (jI x1)), (2, .int (jI x2)), (3, .int (jI x3)), (4, .int (jI x4))] dX10_bestWeek_38 hl (by decide) rfl (fun ls hl => ?_)
        refine r_iload C dX10_bestWeek_40 hl 0 rfl ?_
        refine r_iload_n C dX10_bestWeek_42 rfl hl 4 rfl ?_
        refine r_icmp_eq C 90 hr35 hx3 dX10_bestWeek_43 (by decide) (fun cq => ?_) (fun cq => ?_)
        · replace h := ifp cq h
          refine r_iload C dX10_bestWeek_90 hl 0 rfl ?_
          refine r_istore_n C [(3, .int (jI r35)), (5, .int (jI r35)), (0, .ref (z + 0)), (1, .int (jI x1)), (2, .int (jI x2)), (4, .int (jI x4))] dX10_bestWeek_92 rfl hl (by decide) rfl (fun ls hl => ?_)
          replace h := ck_some h
          obtain ⟨hc3, h⟩ := h
          refine r_iinc (j := 5) (x := x4) C [(4, .int (jI (x4 + 1))), (3, .int (jI r35)), (5, .int (jI r35)), (0, .ref (z + 0)), (1, .int (jI x1)), (2, .int (jI x2))] dX10_bestWeek_93 hl rfl (by decide) rfl (fun ls hl => ?_)
          refine r_goto C 19 dX10_bestWeek_96 (by decide) ?_
          exact ih19 _ _ _ _ _ hx1 hx2 hr35 hc3 _ _ _ h hM2 (lv_sub hl [3, 4, 5, 1, 0] rfl)
        · replace h := ifn cq h
          refine r_aload_n C dX10_bestWeek_46 rfl hl 1 rfl ?_
          refine r_iload C dX10_bestWeek_47 hl 5 rfl ?_
          replace h := bd_some h
          obtain ⟨M49, hf49, h⟩ := h
          refine r_callV (As := [.int (jI x4)]) (rest := []) C hM2 (c_X10_findChoice l E z hx4 hf49) jy_X10_findChoice lk_X10_285 dX10_bestWeek_49 (recvW C hM2 jc10 lc_0.1 lc_0.2 rfl) rfl rfl hl.1 (Nat.le_of_ble_eq_true rfl) ⟨Nat.le_of_ble_eq_true rfl, Nat.le_of_ble_eq_true rfl⟩ ⟨rfl, rfl⟩ ⟨Nat.zero_le _, Nat.zero_le _⟩ (fun H locs hM4 => ?_)
          refine r_aload_n C dX10_bestWeek_52 rfl hl 1 rfl ?_
          refine r_getR C hM4 jc10 12 71 dX10_bestWeek_53 lk_X10_75 lc_0.1 lc_0.2 rfl rfl (by decide) rfl ?_
          refine r_getI C hM4 jc0 0 rfl dX10_bestWeek_56 lk_X10_288 lc_71.1 lc_71.2 rfl rfl (by decide) rfl ?_
          refine r_iconst C dX10_bestWeek_59 ?_
          refine r_icmp_eq C 90 (hM4.ok _ _) ⟨by decide, by decide⟩ dX10_bestWeek_60 (by decide) (fun cq => ?_) (fun cq => ?_)
          · replace h := ifp cq h
            refine r_iload C dX10_bestWeek_90 hl 0 rfl ?_
            refine r_istore_n C [(3, .int (jI r35)), (5, .int (jI r35)), (0, .ref (z + 0)), (1, .int (jI x1)), (2, .int (jI x2)), (4, .int (jI x4))] dX10_bestWeek_92 rfl hl (by decide) rfl (fun ls hl => ?_)
            replace h := ck_some h
            obtain ⟨hc5, h⟩ := h
            refine r_iinc (j := 5) (x := x4) C [(4, .int (jI (x4 + 1))), (3, .int (jI r35)), (5, .int (jI r35)), (0, .ref (z + 0)), (1, .int (jI x1)), (2, .int (jI x2))] dX10_bestWeek_93 hl rfl (by decide) rfl (fun ls hl => ?_)
            refine r_goto C 19 dX10_bestWeek_96 (by decide) ?_
            exact ih19 _ _ _ _ _ hx1 hx2 hr35 hc5 _ _ _ h hM4 (lv_sub hl [3, 4, 5, 1, 0] rfl)
          · replace h := ifn cq h
            refine r_iload_n C dX10_bestWeek_63 rfl hl 2 rfl ?_
            refine r_iconst C dX10_bestWeek_64 ?_
            replace h := jn_some h
            obtain ⟨k79, hk79, h⟩ := h
            have hJ79 : ∀ (_ : Unit), ∀ (H : Heap) (locs : List Loc) (ls : Array Slot), k79 () = some (r, M') → HS E z LyC M49 sM H locs → lv_has ls 6 [(0, .ref (z + 0)), (4, .int (jI x4)), (5, .int (jI r35))] → W p l e ({ frames := 4, cells := 0, slots := 0, locals := 93 } : Room) sM m (([.ref (z + 0)] : List Value).toArray) below meth c H locs 0 0 (MQ below (va_Qi (fun (w : Int32) (_ : Unit) => w = jI r ∧ inR r ∧ Mok LyC M') (fun _ t => va_P (eD E) vwCl (Wd (eC E) z LyC M') t.heap) (eA E)) (([.ref (z + 0)] : List Value).toArray) sM 0 0 (eA E)) (F0 m 79 ls []) := by
              intro _ H locs ls h hMj79 hl
              subst hk79
              try dsimp only at h
              refine r_iload C dX10_bestWeek_79 hl 1 rfl ?_
              refine r_istore_n C [(1, .int (jI x4)), (0, .ref (z + 0)), (4, .int (jI x4)), (5, .int (jI r35))] dX10_bestWeek_81 rfl hl (by decide) rfl (fun ls hl => ?_)
              refine r_aload_n C dX10_bestWeek_82 rfl hl 1 rfl ?_
              refine r_getR C hMj79 jc10 12 71 dX10_bestWeek_83 lk_X10_75 lc_0.1 lc_0.2 rfl rfl (by decide) rfl ?_
              refine r_getI C hMj79 jc0 1 rfl dX10_bestWeek_86 lk_X10_291 lc_71.1 lc_71.2 rfl rfl (by decide) rfl ?_
              refine r_istore_n C [(2, .int (jI (M49 71 1))), (1, .int (jI x4)), (0, .ref (z + 0)), (4, .int (jI x4)), (5, .int (jI r35))] dX10_bestWeek_89 rfl hl (by decide) rfl (fun ls hl => ?_)
              refine r_iload C dX10_bestWeek_90 hl 4 rfl ?_
              refine r_istore_n C [(3, .int (jI r35)), (2, .int (jI (M49 71 1))), (1, .int (jI x4)), (0, .ref (z + 0)), (4, .int (jI x4)), (5, .int (jI r35))] dX10_bestWeek_92 rfl hl (by decide) rfl (fun ls hl => ?_)
              replace h := ck_some h
              obtain ⟨hc6, h⟩ := h
              refine r_iinc (j := 4) (x := x4) C [(4, .int (jI (x4 + 1))), (3, .int (jI r35)), (2, .int (jI (M49 71 1))), (1, .int (jI x4)), (0, .ref (z + 0)), (5, .int (jI r35))] dX10_bestWeek_93 hl rfl (by decide) rfl (fun ls hl => ?_)
              refine r_goto C 19 dX10_bestWeek_96 (by decide) ?_
              exact ih19 _ _ _ _ _ hx4 (hM4.ok _ _) hr35 hc6 _ _ _ h hMj79 (lv_sub hl [4, 3, 2, 1, 0] rfl)
            refine r_icmp_eq C 79 hx1 ⟨by decide, by decide⟩ dX10_bestWeek_65 (by decide) (fun cq => ?_) (fun cq => ?_)
            · replace h := ifp cq h
              exact hJ79 () _ _ _ h hM4 (lv_sub hl [1, 5, 0] rfl)
            · replace h := ifn cq h
              refine r_aload_n C dX10_bestWeek_68 rfl hl 1 rfl ?_
              refine r_getR C hM4 jc10 12 71 dX10_bestWeek_69 lk_X10_75 lc_0.1 lc_0.2 rfl rfl (by decide) rfl ?_
              refine r_getI C hM4 jc0 1 rfl dX10_bestWeek_72 lk_X10_291 lc_71.1 lc_71.2 rfl rfl (by decide) rfl ?_
              refine r_iload_n C dX10_bestWeek_75 rfl hl 3 rfl ?_
              refine r_icmp_ge C 90 (hM4.ok _ _) hx2 dX10_bestWeek_76 (by decide) (fun cq => ?_) (fun cq => ?_)
              · replace h := ifp cq h
                refine r_iload C dX10_bestWeek_90 hl 0 rfl ?_
                refine r_istore_n C [(3, .int (jI r35)), (5, .int (jI r35)), (0, .ref (z + 0)), (1, .int (jI x1)), (2, .int (jI x2)), (4, .int (jI x4))] dX10_bestWeek_92 rfl hl (by decide) rfl (fun ls hl => ?_)
                replace h := ck_some h
                obtain ⟨hc7, h⟩ := h
                refine r_iinc (j := 5) (x := x4) C [(4, .int (jI (x4 + 1))), (3, .int (jI r35)), (5, .int (jI r35)), (0, .ref (z + 0)), (1, .int (jI x1)), (2, .int (jI x2))] dX10_bestWeek_93 hl rfl (by decide) rfl (fun ls hl => ?_)
                refine r_goto C 19 dX10_bestWeek_96 (by decide) ?_
                exact ih19 _ _ _ _ _ hx1 hx2 hr35 hc7 _ _ _ h hM4 (lv_sub hl [3, 4, 5, 1, 0] rfl)
              · replace h := ifn cq h
                exact hJ79 () _ _ _ h hM4 (lv_sub hl [1, 5, 0] rfl)
  exact hL19 jFuel _ _ _ _ _ ⟨by decide, by decide⟩ ⟨by decide, by decide⟩ ⟨by decide, by decide⟩ hr14 _ _ _ h hM1 (lv_sub hl [4, 3, 2, 1, 0] rfl)
set_option maxRecDepth 100000 in
set_option maxHeartbeats 4000000 in
theorem c_X10_gapAtSpeed (l : Launch) (E : jE) (z : Nat) {x1 : Int} {M : Mem} {r : Int} (hx1 : inR x1) (h : f_X10_gapAtSpeed x1 M = some r) : CtI l yX10_gapAtSpeed cX10_gapAtSpeed 3 (some .int) { frames := 3, cells := 0, slots := 0, locals := 65 } E z LyC [.ref (z + 0), .int (jI x1)] M r M := by
  refine jm (by decide +kernel) (Nat.le_of_ble_eq_true rfl) ?_
  intro p e sM m below meth c C hM0 hr hlk ls hl
  replace hl : lv_has ls 3 [(0, .ref (z + 0)), (1, .int (jI x1))] := hl
  unfold f_X10_gapAtSpeed at h
  refine r_aload_n C dX10_gapAtSpeed_0 rfl hl 0 rfl ?_
  refine r_getR C hM0 jc10 2 5 dX10_gapAtSpeed_1 lk_X10_26 lc_0.1 lc_0.2 rfl rfl (by decide) rfl ?_
  refine r_getR C hM0 jc7 1 16 dX10_gapAtSpeed_4 lk_X10_120 lc_5.1 lc_5.2 rfl rfl (by decide) rfl ?_
  refine r_iload_n C dX10_gapAtSpeed_7 rfl hl 1 rfl ?_
  refine r_aload_n C dX10_gapAtSpeed_8 rfl hl 0 rfl ?_
  refine r_getR C hM0 jc10 2 5 dX10_gapAtSpeed_9 lk_X10_26 lc_0.1 lc_0.2 rfl rfl (by decide) rfl ?_
  refine r_getR C hM0 jc7 0 6 dX10_gapAtSpeed_12 lk_X10_101 lc_5.1 lc_5.2 rfl rfl (by decide) rfl ?_
  refine r_iconst C dX10_gapAtSpeed_15 ?_
  replace h := bd_some h
  obtain ⟨r16, hf16, h⟩ := h
  refine r_callI (As := [.int (jI 2)]) (rest := [.int (jI x1), .ref (z + 16)]) C hM0 (c_X3_setting l E z (show isSt 5 by decide) ⟨by decide, by decide⟩ hf16) jy_X3_setting lk_X10_168 dX10_gapAtSpeed_16 (recvW C hM0 jc3 lc_6.1 lc_6.2 rfl) rfl rfl hl.1 (Nat.le_of_ble_eq_true rfl) ⟨Nat.le_of_ble_eq_true rfl, Nat.le_of_ble_eq_true rfl⟩ ⟨rfl, rfl⟩ ⟨Nat.zero_le _, Nat.zero_le _⟩ (fun H locs hr16 hM1 => ?_)
  replace h := bd_some h
  obtain ⟨r19, hf19, h⟩ := h
  refine r_callI (As := [.int (jI x1), .int (jI r16)]) (rest := []) C hM1 (c_X9_endAt l E z (show isSt 5 by decide) hx1 hr16 hf19) jy_X9_endAt lk_X10_407 dX10_gapAtSpeed_19 (recvW C hM1 jc9 lc_16.1 lc_16.2 rfl) rfl rfl hl.1 (Nat.le_of_ble_eq_true rfl) ⟨Nat.le_of_ble_eq_true rfl, Nat.le_of_ble_eq_true rfl⟩ ⟨rfl, rfl⟩ ⟨Nat.zero_le _, Nat.zero_le _⟩ (fun H locs hr19 hM2 => ?_)
  refine r_istore_n C [(2, .int (jI r19)), (0, .ref (z + 0)), (1, .int (jI x1))] dX10_gapAtSpeed_22 rfl hl (by decide) rfl (fun ls hl => ?_)
  refine r_aload_n C dX10_gapAtSpeed_23 rfl hl 1 rfl ?_
  refine r_getR C hM2 jc10 9 56 dX10_gapAtSpeed_24 lk_X10_54 lc_0.1 lc_0.2 rfl rfl (by decide) rfl ?_
  refine r_getI C hM2 jc5 1 rfl dX10_gapAtSpeed_27 lk_X10_250 lc_56.1 lc_56.2 rfl rfl (by decide) rfl ?_
  refine r_iload_n C dX10_gapAtSpeed_30 rfl hl 0 rfl ?_
  replace h := ck_some h
  obtain ⟨hc3, h⟩ := h
  refine r_isub C dX10_gapAtSpeed_31 ?_
  replace h := ck_some h
  obtain ⟨hc4, h⟩ := h
  refine r_abs C hc3 lk_X10_410 dX10_gapAtSpeed_32 hl.1 ⟨Nat.le_of_ble_eq_true rfl, Nat.le_of_ble_eq_true rfl⟩ ⟨Nat.zero_le _, Nat.zero_le _⟩ ?_
  exact r_ireturn C hM2 hr hlk (max_R hc3 hc4) h rfl dX10_gapAtSpeed_35
set_option maxRecDepth 100000 in
set_option maxHeartbeats 4000000 in
theorem c_X10_bestSpeed (l : Launch) (E : jE) (z : Nat) {M : Mem} {r : Int} (h : f_X10_bestSpeed M = some r) : CtI l yX10_bestSpeed cX10_bestSpeed 5 (some .int) { frames := 4, cells := 0, slots := 0, locals := 87 } E z LyC [.ref (z + 0)] M r M := by
  refine jm (by decide +kernel) (Nat.le_of_ble_eq_true rfl) ?_
  intro p e sM m below meth c C hM0 hr hlk ls hl
  replace hl : lv_has ls 5 [(0, .ref (z + 0))] := hl
  unfold f_X10_bestSpeed at h
  refine r_iconst C dX10_bestSpeed_0 ?_
  refine r_istore_n C [(1, .int (jI 1)), (0, .ref (z + 0))] dX10_bestSpeed_1 rfl hl (by decide) rfl (fun ls hl => ?_)
  refine r_aload_n C dX10_bestSpeed_2 rfl hl 1 rfl ?_
  refine r_iconst C dX10_bestSpeed_3 ?_
  replace h := bd_some h
  obtain ⟨r4, hf4, h⟩ := h
  refine r_callI (As := [.int (jI 1)]) (rest := []) C hM0 (c_X10_gapAtSpeed l E z ⟨by decide, by decide⟩ hf4) jy_X10_gapAtSpeed lk_X10_300 dX10_bestSpeed_4 (recvW C hM0 jc10 lc_0.1 lc_0.2 rfl) rfl rfl hl.1 (Nat.le_of_ble_eq_true rfl) ⟨Nat.le_of_ble_eq_true rfl, Nat.le_of_ble_eq_true rfl⟩ ⟨rfl, rfl⟩ ⟨Nat.zero_le _, Nat.zero_le _⟩ (fun H locs hr4 hM1 => ?_)
  refine r_istore_n C [(2, .int (jI r4)), (1, .int (jI 1)), (0, .ref (z + 0))] dX10_bestSpeed_7 rfl hl (by decide) rfl (fun ls hl => ?_)
  refine r_iconst C dX10_bestSpeed_8 ?_
  refine r_istore_n C [(3, .int (jI 2)), (2, .int (jI r4)), (1, .int (jI 1)), (0, .ref (z + 0))] dX10_bestSpeed_9 rfl hl (by decide) rfl (fun ls hl => ?_)
  have hL10 : ∀ n10 : Nat, ∀ (x1 : Int) (x2 : Int) (x3 : Int), inR x1 → inR x2 → inR x3 → ∀ (H : Heap) (locs : List Loc) (ls : Array Slot), f_X10_bestSpeed_L10 M n10  x1 x2 x3 = some r → HS E z LyC M sM H locs → lv_has ls 5 [(0, .ref (z + 0)), (1, .int (jI x1)), (2, .int (jI x2)), (3, .int (jI x3))] → W p l e ({ frames := 4, cells := 0, slots := 0, locals := 87 } : Room) sM m (([.ref (z + 0)] : List Value).toArray) below meth c H locs 0 0 (MQ below (va_Qi (fun (w : Int32) (_ : Unit) => w = jI r ∧ inR r ∧ Mok LyC M) (fun _ t => va_P (eD E) vwCl (Wd (eC E) z LyC M) t.heap) (eA E)) (([.ref (z + 0)] : List Value).toArray) sM 0 0 (eA E)) (F0 m 10 ls []) := by
    intro n10
    induction n10 with
    | zero =>
      intro x1 x2 x3 hx1 hx2 hx3 H locs ls h hM hl
      exact absurd h (by simp [f_X10_bestSpeed_L10])
    | succ n10 ih10 =>
      intro x1 x2 x3 hx1 hx2 hx3 H locs ls h hM hl
      rw [f_X10_bestSpeed_L10] at h
      refine r_iload_n C dX10_bestSpeed_10 rfl hl 3 rfl ?_
      refine r_bipush C dX10_bestSpeed_11 rfl ?_
      refine r_icmp_gt C 40 hx3 ⟨by decide, by decide⟩ dX10_bestSpeed_13 (by decide) (fun cq => ?_) (fun cq => ?_)
      · replace h := ifp cq h
        refine r_iload_n C dX10_bestSpeed_40 rfl hl 1 rfl ?_
        exact r_ireturn C hM hr hlk hx1 h rfl dX10_bestSpeed_41
      · replace h := ifn cq h
        refine r_aload_n C dX10_bestSpeed_16 rfl hl 0 rfl ?_
        refine r_iload_n C dX10_bestSpeed_17 rfl hl 3 rfl ?_
        replace h := bd_some h
        obtain ⟨r18, hf18, h⟩ := h
        refine r_callI (As := [.int (jI x3)]) (rest := []) C hM (c_X10_gapAtSpeed l E z hx3 hf18) jy_X10_gapAtSpeed lk_X10_300 dX10_bestSpeed_18 (recvW C hM jc10 lc_0.1 lc_0.2 rfl) rfl rfl hl.1 (Nat.le_of_ble_eq_true rfl) ⟨Nat.le_of_ble_eq_true rfl, Nat.le_of_ble_eq_true rfl⟩ ⟨rfl, rfl⟩ ⟨Nat.zero_le _, Nat.zero_le _⟩ (fun H locs hr18 hM2 => ?_)
        refine r_istore C [(4, .int (jI r18)), (0, .ref (z + 0)), (1, .int (jI x1)), (2, .int (jI x2)), (3, .int (jI x3))] dX10_bestSpeed_21 hl (by decide) rfl (fun ls hl => ?_)
        refine r_iload C dX10_bestSpeed_23 hl 0 rfl ?_
        refine r_iload_n C dX10_bestSpeed_25 rfl hl 3 rfl ?_
        refine r_icmp_ge C 34 hr18 hx2 dX10_bestSpeed_26 (by decide) (fun cq => ?_) (fun cq => ?_)
        · replace h := ifp cq h
          replace h := ck_some h
          obtain ⟨hc3, h⟩ := h
          refine r_iinc (j := 4) (x := x3) C [(3, .int (jI (x3 + 1))), (4, .int (jI r18)), (0, .ref (z + 0)), (1, .int (jI x1)), (2, .int (jI x2))] dX10_bestSpeed_34 hl rfl (by decide) rfl (fun ls hl => ?_)
          refine r_goto C 10 dX10_bestSpeed_37 (by decide) ?_
          exact ih10 _ _ _ hx1 hx2 hc3 _ _ _ h hM2 (lv_sub hl [2, 3, 4, 0] rfl)
        · replace h := ifn cq h
          refine r_iload_n C dX10_bestSpeed_29 rfl hl 4 rfl ?_
          refine r_istore_n C [(1, .int (jI x3)), (4, .int (jI r18)), (0, .ref (z + 0)), (2, .int (jI x2)), (3, .int (jI x3))] dX10_bestSpeed_30 rfl hl (by decide) rfl (fun ls hl => ?_)
          refine r_iload C dX10_bestSpeed_31 hl 1 rfl ?_
          refine r_istore_n C [(2, .int (jI r18)), (1, .int (jI x3)), (4, .int (jI r18)), (0, .ref (z + 0)), (3, .int (jI x3))] dX10_bestSpeed_33 rfl hl (by decide) rfl (fun ls hl => ?_)
          replace h := ck_some h
          obtain ⟨hc4, h⟩ := h
          refine r_iinc (j := 4) (x := x3) C [(3, .int (jI (x3 + 1))), (2, .int (jI r18)), (1, .int (jI x3)), (4, .int (jI r18)), (0, .ref (z + 0))] dX10_bestSpeed_34 hl rfl (by decide) rfl (fun ls hl => ?_)
          refine r_goto C 10 dX10_bestSpeed_37 (by decide) ?_
          exact ih10 _ _ _ hx3 hr18 hc4 _ _ _ h hM2 (lv_sub hl [4, 2, 1, 0] rfl)
  exact hL10 jFuel _ _ _ ⟨by decide, by decide⟩ hr4 ⟨by decide, by decide⟩ _ _ _ h hM1 (lv_sub hl [3, 2, 1, 0] rfl)
set_option maxRecDepth 100000 in
set_option maxHeartbeats 4000000 in
theorem c_X10_refuse (l : Launch) (E : jE) (z : Nat) {x1 : Int} {M M' : Mem} {r : Int} (hx1 : inR x1) (h : f_X10_refuse x1 M = some (r, M')) : CtI l yX10_refuse cX10_refuse 2 (some .int) { frames := 0, cells := 0, slots := 0, locals := 0 } E z LyC [.ref (z + 0), .int (jI x1)] M r M' := by
  refine jm (by decide +kernel) (Nat.le_of_ble_eq_true rfl) ?_
  intro p e sM m below meth c C hM0 hr hlk ls hl
  replace hl : lv_has ls 2 [(0, .ref (z + 0)), (1, .int (jI x1))] := hl
  unfold f_X10_refuse at h
  refine r_iload_n C dX10_refuse_0 rfl hl 1 rfl ?_
  refine r_iconst C dX10_refuse_1 ?_
  refine r_icmp_lt C 21 hx1 ⟨by decide, by decide⟩ dX10_refuse_2 (by decide) (fun cq => ?_) (fun cq => ?_)
  · replace h := ifp cq h
    refine r_iload_n C dX10_refuse_21 rfl hl 1 rfl ?_
    replace h := ck_some h
    obtain ⟨hc1, h⟩ := h
    refine r_ineg C dX10_refuse_22 ?_
    exact r_ireturnM C hM0 hr hlk hc1 h dX10_refuse_23
  · replace h := ifn cq h
    refine r_iload_n C dX10_refuse_5 rfl hl 1 rfl ?_
    refine r_bipush C dX10_refuse_6 rfl ?_
    refine r_icmp_gt C 21 hx1 ⟨by decide, by decide⟩ dX10_refuse_8 (by decide) (fun cq => ?_) (fun cq => ?_)
    · replace h := ifp cq h
      refine r_iload_n C dX10_refuse_21 rfl hl 1 rfl ?_
      replace h := ck_some h
      obtain ⟨hc2, h⟩ := h
      refine r_ineg C dX10_refuse_22 ?_
      exact r_ireturnM C hM0 hr hlk hc2 h dX10_refuse_23
    · replace h := ifn cq h
      refine r_aload_n C dX10_refuse_11 rfl hl 0 rfl ?_
      refine r_getR C hM0 jc10 13 73 dX10_refuse_12 lk_X10_79 lc_0.1 lc_0.2 rfl rfl (by decide) rfl ?_
      refine r_iload_n C dX10_refuse_15 rfl hl 1 rfl ?_
      refine r_dup2 C dX10_refuse_16 rfl rfl ?_
      replace h := ck_some h
      obtain ⟨hc3, h⟩ := h
      refine r_iald C hM0 rfl dX10_refuse_17 lc_73.1 lc_73.2 hc3 hx1 ?_
      refine r_iconst C dX10_refuse_18 ?_
      replace h := ck_some h
      obtain ⟨hc4, h⟩ := h
      refine r_iadd C dX10_refuse_19 ?_
      refine r_iast C hM0 dX10_refuse_20 lc_73.1 lc_73.2 hc3 hx1 hc4 (fun H locs hM5 => ?_)
      replace h := lt_some h
      obtain ⟨N6, eN6, h⟩ := h
      rw [← eN6] at hM5
      refine r_iload_n C dX10_refuse_21 rfl hl 1 rfl ?_
      replace h := ck_some h
      obtain ⟨hc7, h⟩ := h
      refine r_ineg C dX10_refuse_22 ?_
      exact r_ireturnM C hM5 hr hlk hc7 h dX10_refuse_23
set_option maxRecDepth 100000 in
set_option maxHeartbeats 4000000 in
theorem c_X10_remember (l : Launch) (E : jE) (z : Nat) {M M' : Mem} (h : f_X10_remember M = some M') : CtV l yX10_remember cX10_remember 1 none { frames := 3, cells := 0, slots := 0, locals := 60 } E z LyC [.ref (z + 0)] M M' := by
  refine jm (by decide +kernel) (Nat.le_of_ble_eq_true rfl) ?_
  intro p e sM m below meth c C hM0 hr hlk ls hl
  replace hl : lv_has ls 1 [(0, .ref (z + 0))] := hl
  unfold f_X10_remember at h
  refine r_aload_n C dX10_remember_0 rfl hl 0 rfl ?_
  refine r_getR C hM0 jc10 4 53 dX10_remember_1 lk_X10_33 lc_0.1 lc_0.2 rfl rfl (by decide) rfl ?_
  refine r_aload_n C dX10_remember_4 rfl hl 0 rfl ?_
  refine r_getI C hM0 jc10 6 rfl dX10_remember_5 lk_X10_41 lc_0.1 lc_0.2 rfl rfl (by decide) rfl ?_
  replace h := ck_some h
  obtain ⟨hc1, h⟩ := h
  refine r_aaldP C hM0 dX10_remember_8 lc_53.1 lc_53.2 hc1 (hM0.ok _ _) ?_
  refine r_aload_n C dX10_remember_9 rfl hl 0 rfl ?_
  refine r_getR C hM0 jc10 2 5 dX10_remember_10 lk_X10_26 lc_0.1 lc_0.2 rfl rfl (by decide) rfl ?_
  replace h := bd_some h
  obtain ⟨M13, hf13, h⟩ := h
  refine r_callV (As := [.ref (z + 5)]) (rest := []) C hM0 (c_X7_copyFrom l E z (st_past hc1) (show isSt 5 by decide) hf13) jy_X7_copyFrom lk_X10_127 dX10_remember_13 (recvW C hM0 jc7 (ls_0 (st_past hc1)).1 (ls_0 (st_past hc1)).2 rfl) rfl rfl hl.1 (Nat.le_of_ble_eq_true rfl) ⟨Nat.le_of_ble_eq_true rfl, Nat.le_of_ble_eq_true rfl⟩ ⟨rfl, rfl⟩ ⟨Nat.zero_le _, Nat.zero_le _⟩ (fun H locs hM2 => ?_)
  refine r_aload_n C dX10_remember_16 rfl hl 0 rfl ?_
  refine r_aload_n C dX10_remember_17 rfl hl 0 rfl ?_
  refine r_getI C hM2 jc10 6 rfl dX10_remember_18 lk_X10_41 lc_0.1 lc_0.2 rfl rfl (by decide) rfl ?_
  refine r_bipush C dX10_remember_21 rfl ?_
  replace h := jn_some h
  obtain ⟨k36, hk36, h⟩ := h
  have hJ36 : ∀ (v36 : Int), inR v36 → ∀ (H : Heap) (locs : List Loc) (ls : Array Slot), k36 v36 = some M' → HS E z LyC M13 sM H locs → lv_has ls 1 [(0, .ref (z + 0))] → W p l e ({ frames := 3, cells := 0, slots := 0, locals := 60 } : Room) sM m (([.ref (z + 0)] : List Value).toArray) below meth c H locs 0 0 (MQ below (va_Qv (fun (_ : Unit) => Mok LyC M') (fun _ t => va_P (eD E) vwCl (Wd (eC E) z LyC M') t.heap) (eA E)) (([.ref (z + 0)] : List Value).toArray) sM 0 0 (eA E)) (F0 m 36 ls [.int (jI v36), .ref (z + 0)]) := by
    intro v36 hv36 H locs ls h hMj36 hl
    subst hk36
    try dsimp only at h
    refine r_putI C hMj36 jc10 6 hv36 dX10_remember_36 lk_X10_41 lc_0.1 lc_0.2 rfl rfl (by decide) rfl rfl rfl (Nat.le_of_ble_eq_true rfl) (by decide) (fun H locs hM3 => ?_)
    replace h := lt_some h
    obtain ⟨N4, eN4, h⟩ := h
    rw [← eN4] at hM3
    refine r_aload_n C dX10_remember_39 rfl hl 0 rfl ?_
    refine r_aload_n C dX10_remember_40 rfl hl 0 rfl ?_
    refine r_getI C hM3 jc10 5 (rd_slot eN4 (by decide) rfl) dX10_remember_41 lk_X10_37 lc_0.1 lc_0.2 rfl rfl (by decide) rfl ?_
    refine r_iconst C dX10_remember_44 ?_
    replace h := ck_some h
    obtain ⟨hc5, h⟩ := h
    refine r_iadd C dX10_remember_45 ?_
    refine r_bipush C dX10_remember_46 rfl ?_
    refine r_min C hc5 ⟨by decide, by decide⟩ lk_X10_387 dX10_remember_48 hl.1 ⟨Nat.le_of_ble_eq_true rfl, Nat.le_of_ble_eq_true rfl⟩ ⟨Nat.zero_le _, Nat.zero_le _⟩ ?_
    refine r_putI C hM3 jc10 5 (min_R hc5 ⟨by decide, by decide⟩) dX10_remember_51 lk_X10_37 lc_0.1 lc_0.2 rfl rfl (by decide) rfl rfl rfl (Nat.le_of_ble_eq_true rfl) (by decide) (fun H locs hM6 => ?_)
    replace h := lt_some h
    obtain ⟨N7, eN7, h⟩ := h
    rw [← eN7] at hM6
    refine r_aload_n C dX10_remember_54 rfl hl 0 rfl ?_
    refine r_getR C hM6 jc10 13 73 dX10_remember_55 lk_X10_79 lc_0.1 lc_0.2 rfl rfl (by decide) rfl ?_
    refine r_iconst C dX10_remember_58 ?_
    refine r_dup2 C dX10_remember_59 rfl rfl ?_
    refine r_iald C hM6 (rd_skip eN7 (by decide) (rd_skip eN4 (by decide) rfl)) dX10_remember_60 lc_73.1 lc_73.2 (show (0 : Int) ≤ 0 ∧ (0 : Int) < 7 by decide) ⟨by decide, by decide⟩ ?_
    refine r_iconst C dX10_remember_61 ?_
    replace h := ck_some h
    obtain ⟨hc8, h⟩ := h
    refine r_iadd C dX10_remember_62 ?_
    refine r_iast C hM6 dX10_remember_63 lc_73.1 lc_73.2 (show (0 : Int) ≤ 0 ∧ (0 : Int) < 7 by decide) ⟨by decide, by decide⟩ hc8 (fun H locs hM9 => ?_)
    replace h := lt_some h
    obtain ⟨N10, eN10, h⟩ := h
    rw [← eN10] at hM9
    exact r_return C hM9 hr hlk h dX10_remember_64
  refine r_icmp_ne C 30 (hM2.ok _ _) ⟨by decide, by decide⟩ dX10_remember_23 (by decide) (fun cq => ?_) (fun cq => ?_)
  · replace h := ifn cq h
    refine r_aload_n C dX10_remember_30 rfl hl 0 rfl ?_
    refine r_getI C hM2 jc10 6 rfl dX10_remember_31 lk_X10_41 lc_0.1 lc_0.2 rfl rfl (by decide) rfl ?_
    refine r_iconst C dX10_remember_34 ?_
    replace h := ck_some h
    obtain ⟨hc11, h⟩ := h
    refine r_iadd C dX10_remember_35 ?_
    exact hJ36 _ hc11 _ _ _ h hM2 (lv_sub hl [0] rfl)
  · replace h := ifp cq h
    refine r_iconst C dX10_remember_26 ?_
    refine r_goto C 36 dX10_remember_27 (by decide) ?_
    exact hJ36 _ ⟨by decide, by decide⟩ _ _ _ h hM2 (lv_sub hl [0] rfl)
set_option maxRecDepth 100000 in
set_option maxHeartbeats 4000000 in
theorem c_X10_edit (l : Launch) (E : jE) (z : Nat) {M M' : Mem} {r : Int} (h : f_X10_edit M = some (r, M')) : CtI l yX10_edit cX10_edit 2 (some .int) { frames := 62, cells := 0, slots := 0, locals := 2404 } E z LyC [.ref (z + 0)] M r M' := by
  refine jm (by decide +kernel) (Nat.le_of_ble_eq_true rfl) ?_
  intro p e sM m below meth c C hM0 hr hlk ls hl
  replace hl : lv_has ls 2 [(0, .ref (z + 0))] := hl
  unfold f_X10_edit at h
  refine r_aload_n C dX10_edit_0 rfl hl 0 rfl ?_
  refine r_getR C hM0 jc10 3 29 dX10_edit_1 lk_X10_30 lc_0.1 lc_0.2 rfl rfl (by decide) rfl ?_
  refine r_getR C hM0 jc7 2 46 dX10_edit_4 lk_X10_111 lc_29.1 lc_29.2 rfl rfl (by decide) rfl ?_
  refine r_aload_n C dX10_edit_7 rfl hl 0 rfl ?_
  refine r_getR C hM0 jc10 0 1 dX10_edit_8 lk_X10_12 lc_0.1 lc_0.2 rfl rfl (by decide) rfl ?_
  refine r_aload_n C dX10_edit_11 rfl hl 0 rfl ?_
  refine r_getR C hM0 jc10 2 5 dX10_edit_12 lk_X10_26 lc_0.1 lc_0.2 rfl rfl (by decide) rfl ?_
  refine r_getR C hM0 jc7 0 6 dX10_edit_15 lk_X10_101 lc_5.1 lc_5.2 rfl rfl (by decide) rfl ?_
  replace h := bd_some h
  obtain ⟨⟨r18, M18⟩, hf18, h⟩ := h
  try dsimp only at h
  refine r_callI (As := [.ref (z + 1), .ref (z + 6)]) (rest := []) C hM0 (c_X2_readFrom l E z (show isSt 29 by decide) (show isSt 5 by decide) hf18) jy_X2_readFrom lk_X10_303 dX10_edit_18 (recvW C hM0 jc2 lc_46.1 lc_46.2 rfl) rfl rfl hl.1 (Nat.le_of_ble_eq_true rfl) ⟨Nat.le_of_ble_eq_true rfl, Nat.le_of_ble_eq_true rfl⟩ ⟨rfl, rfl⟩ ⟨Nat.zero_le _, Nat.zero_le _⟩ (fun H locs hr18 hM1 => ?_)
  refine r_istore_n C [(1, .int (jI r18)), (0, .ref (z + 0))] dX10_edit_21 rfl hl (by decide) rfl (fun ls hl => ?_)
  refine r_aload_n C dX10_edit_22 rfl hl 1 rfl ?_
  refine r_getR C hM1 jc10 0 1 dX10_edit_23 lk_X10_12 lc_0.1 lc_0.2 rfl rfl (by decide) rfl ?_
  refine r_iconst C dX10_edit_26 ?_
  refine r_putI C hM1 jc8 1 ⟨by decide, by decide⟩ dX10_edit_27 lk_X10_83 lc_1.1 lc_1.2 rfl rfl (by decide) rfl rfl rfl (Nat.le_of_ble_eq_true rfl) (by decide) (fun H locs hM2 => ?_)
  replace h := lt_some h
  obtain ⟨N3, eN3, h⟩ := h
  rw [← eN3] at hM2
  refine r_iload_n C dX10_edit_30 rfl hl 0 rfl ?_
  refine r_if_ne C 40 hr18 dX10_edit_31 (by decide) (fun cq => ?_) (fun cq => ?_)
  · replace h := ifn cq h
    refine r_aload_n C dX10_edit_40 rfl hl 1 rfl ?_
    refine r_getR C hM2 jc10 3 29 dX10_edit_41 lk_X10_30 lc_0.1 lc_0.2 rfl rfl (by decide) rfl ?_
    refine r_getR C hM2 jc7 2 46 dX10_edit_44 lk_X10_111 lc_29.1 lc_29.2 rfl rfl (by decide) rfl ?_
    replace h := bd_some h
    obtain ⟨⟨r47, M47⟩, hf47, h⟩ := h
    try dsimp only at h
    refine r_callI (As := []) (rest := []) C hM2 (c_X2_pieceCount l E z (show isSt 29 by decide) hf47) jy_X2_pieceCount lk_X10_309 dX10_edit_47 (recvW C hM2 jc2 lc_46.1 lc_46.2 rfl) rfl rfl hl.1 (Nat.le_of_ble_eq_true rfl) ⟨Nat.le_of_ble_eq_true rfl, Nat.le_of_ble_eq_true rfl⟩ ⟨rfl, rfl⟩ ⟨Nat.zero_le _, Nat.zero_le _⟩ (fun H locs hr47 hM4 => ?_)
    refine r_bipush C dX10_edit_50 rfl ?_
    refine r_icmp_le C 61 hr47 ⟨by decide, by decide⟩ dX10_edit_52 (by decide) (fun cq => ?_) (fun cq => ?_)
    · replace h := ifp cq h
      refine r_aload_n C dX10_edit_61 rfl hl 1 rfl ?_
      replace h := bd_some h
      obtain ⟨M62, hf62, h⟩ := h
      refine r_callV (As := []) (rest := []) C hM4 (c_X10_remember l E z hf62) jy_X10_remember lk_X10_312 dX10_edit_62 (recvW C hM4 jc10 lc_0.1 lc_0.2 rfl) rfl rfl hl.1 (Nat.le_of_ble_eq_true rfl) ⟨Nat.le_of_ble_eq_true rfl, Nat.le_of_ble_eq_true rfl⟩ ⟨rfl, rfl⟩ ⟨Nat.zero_le _, Nat.zero_le _⟩ (fun H locs hM5 => ?_)
      refine r_aload_n C dX10_edit_65 rfl hl 1 rfl ?_
      refine r_getR C hM5 jc10 2 5 dX10_edit_66 lk_X10_26 lc_0.1 lc_0.2 rfl rfl (by decide) rfl ?_
      refine r_getR C hM5 jc7 2 22 dX10_edit_69 lk_X10_111 lc_5.1 lc_5.2 rfl rfl (by decide) rfl ?_
      refine r_aload_n C dX10_edit_72 rfl hl 1 rfl ?_
      refine r_getR C hM5 jc10 3 29 dX10_edit_73 lk_X10_30 lc_0.1 lc_0.2 rfl rfl (by decide) rfl ?_
      refine r_getR C hM5 jc7 2 46 dX10_edit_76 lk_X10_111 lc_29.1 lc_29.2 rfl rfl (by decide) rfl ?_
      replace h := bd_some h
      obtain ⟨M79, hf79, h⟩ := h
      refine r_callV (As := [.ref (z + 46)]) (rest := []) C hM5 (c_X2_copyFrom l E z (show isSt 5 by decide) (show isSt 29 by decide) hf79) jy_X2_copyFrom lk_X10_315 dX10_edit_79 (recvW C hM5 jc2 lc_22.1 lc_22.2 rfl) rfl rfl hl.1 (Nat.le_of_ble_eq_true rfl) ⟨Nat.le_of_ble_eq_true rfl, Nat.le_of_ble_eq_true rfl⟩ ⟨rfl, rfl⟩ ⟨Nat.zero_le _, Nat.zero_le _⟩ (fun H locs hM6 => ?_)
      refine r_aload_n C dX10_edit_82 rfl hl 1 rfl ?_
      replace h := bd_some h
      obtain ⟨M83, hf83, h⟩ := h
      refine r_callV (As := []) (rest := []) C hM6 (c_X10_settle l E z hf83) jy_X10_settle lk_X10_134 dX10_edit_83 (recvW C hM6 jc10 lc_0.1 lc_0.2 rfl) rfl rfl hl.1 (Nat.le_of_ble_eq_true rfl) ⟨Nat.le_of_ble_eq_true rfl, Nat.le_of_ble_eq_true rfl⟩ ⟨rfl, rfl⟩ ⟨Nat.zero_le _, Nat.zero_le _⟩ (fun H locs hM7 => ?_)
      refine r_aload_n C dX10_edit_86 rfl hl 1 rfl ?_
      refine r_getR C hM7 jc10 9 56 dX10_edit_87 lk_X10_54 lc_0.1 lc_0.2 rfl rfl (by decide) rfl ?_
      refine r_getI C hM7 jc5 0 rfl dX10_edit_90 lk_X10_230 lc_56.1 lc_56.2 rfl rfl (by decide) rfl ?_
      exact r_ireturnM C hM7 hr hlk (hM7.ok _ _) h dX10_edit_93
    · replace h := ifn cq h
      refine r_aload_n C dX10_edit_55 rfl hl 1 rfl ?_
      refine r_iconst C dX10_edit_56 ?_
      replace h := bd_some h
      obtain ⟨⟨r57, M57⟩, hf57, h⟩ := h
      try dsimp only at h
      refine r_callI (As := [.int (jI 2)]) (rest := []) C hM4 (c_X10_refuse l E z ⟨by decide, by decide⟩ hf57) jy_X10_refuse lk_X10_306 dX10_edit_57 (recvW C hM4 jc10 lc_0.1 lc_0.2 rfl) rfl rfl hl.1 (Nat.le_of_ble_eq_true rfl) ⟨Nat.le_of_ble_eq_true rfl, Nat.le_of_ble_eq_true rfl⟩ ⟨rfl, rfl⟩ ⟨Nat.zero_le _, Nat.zero_le _⟩ (fun H locs hr57 hM8 => ?_)
      exact r_ireturnM C hM8 hr hlk hr57 h dX10_edit_60
  · replace h := ifp cq h
    refine r_aload_n C dX10_edit_34 rfl hl 1 rfl ?_
    refine r_iconst C dX10_edit_35 ?_
    replace h := bd_some h
    obtain ⟨⟨r36, M36⟩, hf36, h⟩ := h
    try dsimp only at h
    refine r_callI (As := [.int (jI 1)]) (rest := []) C hM2 (c_X10_refuse l E z ⟨by decide, by decide⟩ hf36) jy_X10_refuse lk_X10_306 dX10_edit_36 (recvW C hM2 jc10 lc_0.1 lc_0.2 rfl) rfl rfl hl.1 (Nat.le_of_ble_eq_true rfl) ⟨Nat.le_of_ble_eq_true rfl, Nat.le_of_ble_eq_true rfl⟩ ⟨rfl, rfl⟩ ⟨Nat.zero_le _, Nat.zero_le _⟩ (fun H locs hr36 hM9 => ?_)
    exact r_ireturnM C hM9 hr hlk hr36 h dX10_edit_39
set_option maxRecDepth 100000 in
set_option maxHeartbeats 4000000 in
theorem c_X10_say (l : Launch) (E : jE) (z : Nat) {M M' : Mem} {r : Int} (h : f_X10_say M = some (r, M')) : CtI l yX10_say cX10_say 2 (some .int) { frames := 27, cells := 0, slots := 0, locals := 823 } E z LyC [.ref (z + 0)] M r M' := by
  refine jm (by decide +kernel) (Nat.le_of_ble_eq_true rfl) ?_
  intro p e sM m below meth c C hM0 hr hlk ls hl
  replace hl : lv_has ls 2 [(0, .ref (z + 0))] := hl
  unfold f_X10_say at h
  refine r_aload_n C dX10_say_0 rfl hl 0 rfl ?_
  refine r_getR C hM0 jc10 3 29 dX10_say_1 lk_X10_30 lc_0.1 lc_0.2 rfl rfl (by decide) rfl ?_
  refine r_getR C hM0 jc7 1 40 dX10_say_4 lk_X10_120 lc_29.1 lc_29.2 rfl rfl (by decide) rfl ?_
  refine r_aload_n C dX10_say_7 rfl hl 0 rfl ?_
  refine r_getR C hM0 jc10 0 1 dX10_say_8 lk_X10_12 lc_0.1 lc_0.2 rfl rfl (by decide) rfl ?_
  replace h := bd_some h
  obtain ⟨⟨r11, M11⟩, hf11, h⟩ := h
  try dsimp only at h
  refine r_callI (As := [.ref (z + 1)]) (rest := []) C hM0 (c_X9_readFrom l E z (show isSt 29 by decide) hf11) jy_X9_readFrom lk_X10_318 dX10_say_11 (recvW C hM0 jc9 lc_40.1 lc_40.2 rfl) rfl rfl hl.1 (Nat.le_of_ble_eq_true rfl) ⟨Nat.le_of_ble_eq_true rfl, Nat.le_of_ble_eq_true rfl⟩ ⟨rfl, rfl⟩ ⟨Nat.zero_le _, Nat.zero_le _⟩ (fun H locs hr11 hM1 => ?_)
  refine r_istore_n C [(1, .int (jI r11)), (0, .ref (z + 0))] dX10_say_14 rfl hl (by decide) rfl (fun ls hl => ?_)
  refine r_aload_n C dX10_say_15 rfl hl 1 rfl ?_
  refine r_getR C hM1 jc10 0 1 dX10_say_16 lk_X10_12 lc_0.1 lc_0.2 rfl rfl (by decide) rfl ?_
  refine r_iconst C dX10_say_19 ?_
  refine r_putI C hM1 jc8 1 ⟨by decide, by decide⟩ dX10_say_20 lk_X10_83 lc_1.1 lc_1.2 rfl rfl (by decide) rfl rfl rfl (Nat.le_of_ble_eq_true rfl) (by decide) (fun H locs hM2 => ?_)
  replace h := lt_some h
  obtain ⟨N3, eN3, h⟩ := h
  rw [← eN3] at hM2
  refine r_iload_n C dX10_say_23 rfl hl 0 rfl ?_
  refine r_if_ne C 33 hr11 dX10_say_24 (by decide) (fun cq => ?_) (fun cq => ?_)
  · replace h := ifn cq h
    refine r_aload_n C dX10_say_33 rfl hl 1 rfl ?_
    replace h := bd_some h
    obtain ⟨M34, hf34, h⟩ := h
    refine r_callV (As := []) (rest := []) C hM2 (c_X10_remember l E z hf34) jy_X10_remember lk_X10_312 dX10_say_34 (recvW C hM2 jc10 lc_0.1 lc_0.2 rfl) rfl rfl hl.1 (Nat.le_of_ble_eq_true rfl) ⟨Nat.le_of_ble_eq_true rfl, Nat.le_of_ble_eq_true rfl⟩ ⟨rfl, rfl⟩ ⟨Nat.zero_le _, Nat.zero_le _⟩ (fun H locs hM4 => ?_)
    refine r_aload_n C dX10_say_37 rfl hl 1 rfl ?_
    refine r_getR C hM4 jc10 2 5 dX10_say_38 lk_X10_26 lc_0.1 lc_0.2 rfl rfl (by decide) rfl ?_
    refine r_getR C hM4 jc7 1 16 dX10_say_41 lk_X10_120 lc_5.1 lc_5.2 rfl rfl (by decide) rfl ?_
    refine r_aload_n C dX10_say_44 rfl hl 1 rfl ?_
    refine r_getR C hM4 jc10 3 29 dX10_say_45 lk_X10_30 lc_0.1 lc_0.2 rfl rfl (by decide) rfl ?_
    refine r_getR C hM4 jc7 1 40 dX10_say_48 lk_X10_120 lc_29.1 lc_29.2 rfl rfl (by decide) rfl ?_
    replace h := bd_some h
    obtain ⟨M51, hf51, h⟩ := h
    refine r_callV (As := [.ref (z + 40)]) (rest := []) C hM4 (c_X9_copyFrom l E z (show isSt 5 by decide) (show isSt 29 by decide) hf51) jy_X9_copyFrom lk_X10_319 dX10_say_51 (recvW C hM4 jc9 lc_16.1 lc_16.2 rfl) rfl rfl hl.1 (Nat.le_of_ble_eq_true rfl) ⟨Nat.le_of_ble_eq_true rfl, Nat.le_of_ble_eq_true rfl⟩ ⟨rfl, rfl⟩ ⟨Nat.zero_le _, Nat.zero_le _⟩ (fun H locs hM5 => ?_)
    refine r_aload_n C dX10_say_54 rfl hl 1 rfl ?_
    replace h := bd_some h
    obtain ⟨M55, hf55, h⟩ := h
    refine r_callV (As := []) (rest := []) C hM5 (c_X10_settle l E z hf55) jy_X10_settle lk_X10_134 dX10_say_55 (recvW C hM5 jc10 lc_0.1 lc_0.2 rfl) rfl rfl hl.1 (Nat.le_of_ble_eq_true rfl) ⟨Nat.le_of_ble_eq_true rfl, Nat.le_of_ble_eq_true rfl⟩ ⟨rfl, rfl⟩ ⟨Nat.zero_le _, Nat.zero_le _⟩ (fun H locs hM6 => ?_)
    refine r_aload_n C dX10_say_58 rfl hl 1 rfl ?_
    refine r_getR C hM6 jc10 2 5 dX10_say_59 lk_X10_26 lc_0.1 lc_0.2 rfl rfl (by decide) rfl ?_
    refine r_getR C hM6 jc7 1 16 dX10_say_62 lk_X10_120 lc_5.1 lc_5.2 rfl rfl (by decide) rfl ?_
    refine r_getI C hM6 jc9 0 rfl dX10_say_65 lk_X10_159 lc_16.1 lc_16.2 rfl rfl (by decide) rfl ?_
    exact r_ireturnM C hM6 hr hlk (hM6.ok _ _) h dX10_say_68
  · replace h := ifp cq h
    refine r_aload_n C dX10_say_27 rfl hl 1 rfl ?_
    refine r_iconst C dX10_say_28 ?_
    replace h := bd_some h
    obtain ⟨⟨r29, M29⟩, hf29, h⟩ := h
    try dsimp only at h
    refine r_callI (As := [.int (jI 1)]) (rest := []) C hM2 (c_X10_refuse l E z ⟨by decide, by decide⟩ hf29) jy_X10_refuse lk_X10_306 dX10_say_29 (recvW C hM2 jc10 lc_0.1 lc_0.2 rfl) rfl rfl hl.1 (Nat.le_of_ble_eq_true rfl) ⟨Nat.le_of_ble_eq_true rfl, Nat.le_of_ble_eq_true rfl⟩ ⟨rfl, rfl⟩ ⟨Nat.zero_le _, Nat.zero_le _⟩ (fun H locs hr29 hM7 => ?_)
    exact r_ireturnM C hM7 hr hlk hr29 h dX10_say_32
set_option maxRecDepth 100000 in
set_option maxHeartbeats 4000000 in
theorem c_X10_assemble (l : Launch) (E : jE) (z : Nat) {M M' : Mem} {r : Int} (h : f_X10_assemble M = some (r, M')) : CtI l yX10_assemble cX10_assemble 2 (some .int) { frames := 27, cells := 0, slots := 0, locals := 823 } E z LyC [.ref (z + 0)] M r M' := by
  refine jm (by decide +kernel) (Nat.le_of_ble_eq_true rfl) ?_
  intro p e sM m below meth c C hM0 hr hlk ls hl
  replace hl : lv_has ls 2 [(0, .ref (z + 0))] := hl
  unfold f_X10_assemble at h
  refine r_aload_n C dX10_assemble_0 rfl hl 0 rfl ?_
  refine r_aload_n C dX10_assemble_1 rfl hl 0 rfl ?_
  refine r_getR C hM0 jc10 2 5 dX10_assemble_2 lk_X10_26 lc_0.1 lc_0.2 rfl rfl (by decide) rfl ?_
  refine r_getR C hM0 jc7 0 6 dX10_assemble_5 lk_X10_101 lc_5.1 lc_5.2 rfl rfl (by decide) rfl ?_
  refine r_iconst C dX10_assemble_8 ?_
  replace h := bd_some h
  obtain ⟨r9, hf9, h⟩ := h
  refine r_callI (As := [.int (jI 0)]) (rest := [.ref (z + 0)]) C hM0 (c_X3_setting l E z (show isSt 5 by decide) ⟨by decide, by decide⟩ hf9) jy_X3_setting lk_X10_168 dX10_assemble_9 (recvW C hM0 jc3 lc_6.1 lc_6.2 rfl) rfl rfl hl.1 (Nat.le_of_ble_eq_true rfl) ⟨Nat.le_of_ble_eq_true rfl, Nat.le_of_ble_eq_true rfl⟩ ⟨rfl, rfl⟩ ⟨Nat.zero_le _, Nat.zero_le _⟩ (fun H locs hr9 hM1 => ?_)
  replace h := bd_some h
  obtain ⟨M12, hf12, h⟩ := h
  refine r_callV (As := [.int (jI r9)]) (rest := []) C hM1 (c_X10_findChoice l E z hr9 hf12) jy_X10_findChoice lk_X10_285 dX10_assemble_12 (recvW C hM1 jc10 lc_0.1 lc_0.2 rfl) rfl rfl hl.1 (Nat.le_of_ble_eq_true rfl) ⟨Nat.le_of_ble_eq_true rfl, Nat.le_of_ble_eq_true rfl⟩ ⟨rfl, rfl⟩ ⟨Nat.zero_le _, Nat.zero_le _⟩ (fun H locs hM2 => ?_)
  refine r_aload_n C dX10_assemble_15 rfl hl 0 rfl ?_
  refine r_getR C hM2 jc10 12 71 dX10_assemble_16 lk_X10_75 lc_0.1 lc_0.2 rfl rfl (by decide) rfl ?_
  refine r_getI C hM2 jc0 0 rfl dX10_assemble_19 lk_X10_288 lc_71.1 lc_71.2 rfl rfl (by decide) rfl ?_
  refine r_iconst C dX10_assemble_22 ?_
  refine r_icmp_ne C 32 (hM2.ok _ _) ⟨by decide, by decide⟩ dX10_assemble_23 (by decide) (fun cq => ?_) (fun cq => ?_)
  · replace h := ifn cq h
    refine r_aload_n C dX10_assemble_32 rfl hl 0 rfl ?_
    replace h := bd_some h
    obtain ⟨M33, hf33, h⟩ := h
    refine r_callV (As := []) (rest := []) C hM2 (c_X10_remember l E z hf33) jy_X10_remember lk_X10_312 dX10_assemble_33 (recvW C hM2 jc10 lc_0.1 lc_0.2 rfl) rfl rfl hl.1 (Nat.le_of_ble_eq_true rfl) ⟨Nat.le_of_ble_eq_true rfl, Nat.le_of_ble_eq_true rfl⟩ ⟨rfl, rfl⟩ ⟨Nat.zero_le _, Nat.zero_le _⟩ (fun H locs hM3 => ?_)
    refine r_aload_n C dX10_assemble_36 rfl hl 0 rfl ?_
    refine r_getR C hM3 jc10 2 5 dX10_assemble_37 lk_X10_26 lc_0.1 lc_0.2 rfl rfl (by decide) rfl ?_
    refine r_getR C hM3 jc7 2 22 dX10_assemble_40 lk_X10_111 lc_5.1 lc_5.2 rfl rfl (by decide) rfl ?_
    replace h := bd_some h
    obtain ⟨M43, hf43, h⟩ := h
    refine r_callV (As := []) (rest := []) C hM3 (c_X2_clear l E z (show isSt 5 by decide) hf43) jy_X2_clear lk_X10_115 dX10_assemble_43 (recvW C hM3 jc2 lc_22.1 lc_22.2 rfl) rfl rfl hl.1 (Nat.le_of_ble_eq_true rfl) ⟨Nat.le_of_ble_eq_true rfl, Nat.le_of_ble_eq_true rfl⟩ ⟨rfl, rfl⟩ ⟨Nat.zero_le _, Nat.zero_le _⟩ (fun H locs hM4 => ?_)
    refine r_iconst C dX10_assemble_46 ?_
    refine r_istore_n C [(1, .int (jI 0)), (0, .ref (z + 0))] dX10_assemble_47 rfl hl (by decide) rfl (fun ls hl => ?_)
    have hL48 : ∀ n48 : Nat, ∀ (x1 : Int) (M : Mem), inR x1 → ∀ (H : Heap) (locs : List Loc) (ls : Array Slot), f_X10_assemble_L48 n48  x1 M = some (r, M') → HS E z LyC M sM H locs → lv_has ls 2 [(0, .ref (z + 0)), (1, .int (jI x1))] → W p l e ({ frames := 27, cells := 0, slots := 0, locals := 823 } : Room) sM m (([.ref (z + 0)] : List Value).toArray) below meth c H locs 0 0 (MQ below (va_Qi (fun (w : Int32) (_ : Unit) => w = jI r ∧ inR r ∧ Mok LyC M') (fun _ t => va_P (eD E) vwCl (Wd (eC E) z LyC M') t.heap) (eA E)) (([.ref (z + 0)] : List Value).toArray) sM 0 0 (eA E)) (F0 m 48 ls []) := by
      intro n48
      induction n48 with
      | zero =>
        intro x1 M hx1 H locs ls h hM hl
        exact absurd h (by simp [f_X10_assemble_L48])
      | succ n48 ih48 =>
        intro x1 M hx1 H locs ls h hM hl
        rw [f_X10_assemble_L48] at h
        refine r_iload_n C dX10_assemble_48 rfl hl 1 rfl ?_
        refine r_aload_n C dX10_assemble_49 rfl hl 0 rfl ?_
        refine r_getR C hM jc10 2 5 dX10_assemble_50 lk_X10_26 lc_0.1 lc_0.2 rfl rfl (by decide) rfl ?_
        refine r_getR C hM jc7 0 6 dX10_assemble_53 lk_X10_101 lc_5.1 lc_5.2 rfl rfl (by decide) rfl ?_
        refine r_getI C hM jc3 0 rfl dX10_assemble_56 lk_X10_137 lc_6.1 lc_6.2 rfl rfl (by decide) rfl ?_
        refine r_icmp_ge C 109 hx1 (hM.ok _ _) dX10_assemble_59 (by decide) (fun cq => ?_) (fun cq => ?_)
        · replace h := ifp cq h
          refine r_aload_n C dX10_assemble_109 rfl hl 0 rfl ?_
          refine r_getR C hM jc10 2 5 dX10_assemble_110 lk_X10_26 lc_0.1 lc_0.2 rfl rfl (by decide) rfl ?_
          refine r_getR C hM jc7 2 22 dX10_assemble_113 lk_X10_111 lc_5.1 lc_5.2 rfl rfl (by decide) rfl ?_
          refine r_aload_n C dX10_assemble_116 rfl hl 0 rfl ?_
          refine r_getR C hM jc10 2 5 dX10_assemble_117 lk_X10_26 lc_0.1 lc_0.2 rfl rfl (by decide) rfl ?_
          refine r_getR C hM jc7 2 22 dX10_assemble_120 lk_X10_111 lc_5.1 lc_5.2 rfl rfl (by decide) rfl ?_
          refine r_getI C hM jc2 0 rfl dX10_assemble_123 lk_X10_156 lc_22.1 lc_22.2 rfl rfl (by decide) rfl ?_
          refine r_iconst C dX10_assemble_126 ?_
          replace h := ck_some h
          obtain ⟨hc5, h⟩ := h
          refine r_isub C dX10_assemble_127 ?_
          refine r_aload_n C dX10_assemble_128 rfl hl 0 rfl ?_
          refine r_getR C hM jc10 12 71 dX10_assemble_129 lk_X10_75 lc_0.1 lc_0.2 rfl rfl (by decide) rfl ?_
          refine r_getI C hM jc0 1 rfl dX10_assemble_132 lk_X10_291 lc_71.1 lc_71.2 rfl rfl (by decide) rfl ?_
          replace h := bd_some h
          obtain ⟨M135, hf135, h⟩ := h
          refine r_callV (As := [.int (jI ((M 22 0) - 1)), .int (jI (M 71 1))]) (rest := []) C hM (c_X2_shorten l E z (show isSt 5 by decide) hc5 (hM.ok _ _) hf135) jy_X2_shorten lk_X10_326 dX10_assemble_135 (recvW C hM jc2 lc_22.1 lc_22.2 rfl) rfl rfl hl.1 (Nat.le_of_ble_eq_true rfl) ⟨Nat.le_of_ble_eq_true rfl, Nat.le_of_ble_eq_true rfl⟩ ⟨rfl, rfl⟩ ⟨Nat.zero_le _, Nat.zero_le _⟩ (fun H locs hM6 => ?_)
          refine r_aload_n C dX10_assemble_138 rfl hl 0 rfl ?_
          replace h := bd_some h
          obtain ⟨M139, hf139, h⟩ := h
          refine r_callV (As := []) (rest := []) C hM6 (c_X10_settle l E z hf139) jy_X10_settle lk_X10_134 dX10_assemble_139 (recvW C hM6 jc10 lc_0.1 lc_0.2 rfl) rfl rfl hl.1 (Nat.le_of_ble_eq_true rfl) ⟨Nat.le_of_ble_eq_true rfl, Nat.le_of_ble_eq_true rfl⟩ ⟨rfl, rfl⟩ ⟨Nat.zero_le _, Nat.zero_le _⟩ (fun H locs hM7 => ?_)
          refine r_aload_n C dX10_assemble_142 rfl hl 0 rfl ?_
          refine r_getR C hM7 jc10 12 71 dX10_assemble_143 lk_X10_75 lc_0.1 lc_0.2 rfl rfl (by decide) rfl ?_
          refine r_getI C hM7 jc0 1 rfl dX10_assemble_146 lk_X10_291 lc_71.1 lc_71.2 rfl rfl (by decide) rfl ?_
          exact r_ireturnM C hM7 hr hlk (hM7.ok _ _) h dX10_assemble_149
        · replace h := ifn cq h
          refine r_aload_n C dX10_assemble_62 rfl hl 0 rfl ?_
          refine r_getR C hM jc10 12 71 dX10_assemble_63 lk_X10_75 lc_0.1 lc_0.2 rfl rfl (by decide) rfl ?_
          refine r_getI C hM jc0 0 rfl dX10_assemble_66 lk_X10_288 lc_71.1 lc_71.2 rfl rfl (by decide) rfl ?_
          refine r_iload_n C dX10_assemble_69 rfl hl 1 rfl ?_
          refine r_ishr C dX10_assemble_70 ?_
          refine r_iconst C dX10_assemble_71 ?_
          refine r_iand C dX10_assemble_72 ?_
          refine r_if_eq C 103 (iand_R _ _) dX10_assemble_73 (by decide) (fun cq => ?_) (fun cq => ?_)
          · replace h := ifp cq h
            replace h := ck_some h
            obtain ⟨hc8, h⟩ := h
            refine r_iinc (j := 1) (x := x1) C [(1, .int (jI (x1 + 1))), (0, .ref (z + 0))] dX10_assemble_103 hl rfl (by decide) rfl (fun ls hl => ?_)
            refine r_goto C 48 dX10_assemble_106 (by decide) ?_
            exact ih48 _ _ hc8 _ _ _ h hM (lv_sub hl [1, 0] rfl)
          · replace h := ifn cq h
            refine r_aload_n C dX10_assemble_76 rfl hl 0 rfl ?_
            refine r_getR C hM jc10 2 5 dX10_assemble_77 lk_X10_26 lc_0.1 lc_0.2 rfl rfl (by decide) rfl ?_
            refine r_getR C hM jc7 2 22 dX10_assemble_80 lk_X10_111 lc_5.1 lc_5.2 rfl rfl (by decide) rfl ?_
            refine r_iconst C dX10_assemble_83 ?_
            refine r_iload_n C dX10_assemble_84 rfl hl 1 rfl ?_
            refine r_iconst C dX10_assemble_85 ?_
            refine r_aload_n C dX10_assemble_86 rfl hl 0 rfl ?_
            refine r_getR C hM jc10 2 5 dX10_assemble_87 lk_X10_26 lc_0.1 lc_0.2 rfl rfl (by decide) rfl ?_
            refine r_getR C hM jc7 0 6 dX10_assemble_90 lk_X10_101 lc_5.1 lc_5.2 rfl rfl (by decide) rfl ?_
            refine r_iload_n C dX10_assemble_93 rfl hl 1 rfl ?_
            replace h := bd_some h
            obtain ⟨r94, hf94, h⟩ := h
            refine r_callI (As := [.int (jI x1)]) (rest := [.int (jI 0), .int (jI x1), .int (jI 0), .ref (z + 22)]) C hM (c_X3_lengthOf l E z (show isSt 5 by decide) hx1 hf94) jy_X3_lengthOf lk_X10_179 dX10_assemble_94 (recvW C hM jc3 lc_6.1 lc_6.2 rfl) rfl rfl hl.1 (Nat.le_of_ble_eq_true rfl) ⟨Nat.le_of_ble_eq_true rfl, Nat.le_of_ble_eq_true rfl⟩ ⟨rfl, rfl⟩ ⟨Nat.zero_le _, Nat.zero_le _⟩ (fun H locs hr94 hM9 => ?_)
            refine r_iconst C dX10_assemble_97 ?_
            replace h := ck_some h
            obtain ⟨hc10, h⟩ := h
            refine r_isub C dX10_assemble_98 ?_
            refine r_iconst C dX10_assemble_99 ?_
            replace h := bd_some h
            obtain ⟨M100, hf100, h⟩ := h
            refine r_callV (As := [.int (jI 0), .int (jI x1), .int (jI 0), .int (jI (r94 - 1)), .int (jI 0)]) (rest := []) C hM9 (c_X2_add l E z (show isSt 5 by decide) ⟨by decide, by decide⟩ hx1 ⟨by decide, by decide⟩ hc10 ⟨by decide, by decide⟩ hf100) jy_X2_add lk_X10_322 dX10_assemble_100 (recvW C hM9 jc2 lc_22.1 lc_22.2 rfl) rfl rfl hl.1 (Nat.le_of_ble_eq_true rfl) ⟨Nat.le_of_ble_eq_true rfl, Nat.le_of_ble_eq_true rfl⟩ ⟨rfl, rfl⟩ ⟨Nat.zero_le _, Nat.zero_le _⟩ (fun H locs hM11 => ?_)
            replace h := ck_some h
            obtain ⟨hc12, h⟩ := h
            refine r_iinc (j := 1) (x := x1) C [(1, .int (jI (x1 + 1))), (0, .ref (z + 0))] dX10_assemble_103 hl rfl (by decide) rfl (fun ls hl => ?_)
            refine r_goto C 48 dX10_assemble_106 (by decide) ?_
            exact ih48 _ _ hc12 _ _ _ h hM11 (lv_sub hl [1, 0] rfl)
    exact hL48 jFuel _ _ ⟨by decide, by decide⟩ _ _ _ h hM4 (lv_sub hl [1, 0] rfl)
  · replace h := ifp cq h
    refine r_aload_n C dX10_assemble_26 rfl hl 0 rfl ?_
    refine r_iconst C dX10_assemble_27 ?_
    replace h := bd_some h
    obtain ⟨⟨r28, M28⟩, hf28, h⟩ := h
    try dsimp only at h
    refine r_callI (As := [.int (jI 3)]) (rest := []) C hM2 (c_X10_refuse l E z ⟨by decide, by decide⟩ hf28) jy_X10_refuse lk_X10_306 dX10_assemble_28 (recvW C hM2 jc10 lc_0.1 lc_0.2 rfl) rfl rfl hl.1 (Nat.le_of_ble_eq_true rfl) ⟨Nat.le_of_ble_eq_true rfl, Nat.le_of_ble_eq_true rfl⟩ ⟨rfl, rfl⟩ ⟨Nat.zero_le _, Nat.zero_le _⟩ (fun H locs hr28 hM13 => ?_)
    exact r_ireturnM C hM13 hr hlk hr28 h dX10_assemble_31
set_option maxRecDepth 100000 in
set_option maxHeartbeats 4000000 in
theorem c_X10_takeDraftItems (l : Launch) (E : jE) (z : Nat) {M M' : Mem} {r : Int} (h : f_X10_takeDraftItems M = some (r, M')) : CtI l yX10_takeDraftItems cX10_takeDraftItems 1 (some .int) { frames := 26, cells := 0, slots := 0, locals := 803 } E z LyC [.ref (z + 0)] M r M' := by
  refine jm (by decide +kernel) (Nat.le_of_ble_eq_true rfl) ?_
  intro p e sM m below meth c C hM0 hr hlk ls hl
  replace hl : lv_has ls 1 [(0, .ref (z + 0))] := hl
  unfold f_X10_takeDraftItems at h
  refine r_aload_n C dX10_takeDraftItems_0 rfl hl 0 rfl ?_
  replace h := bd_some h
  obtain ⟨M1, hf1, h⟩ := h
  refine r_callV (As := []) (rest := []) C hM0 (c_X10_remember l E z hf1) jy_X10_remember lk_X10_312 dX10_takeDraftItems_1 (recvW C hM0 jc10 lc_0.1 lc_0.2 rfl) rfl rfl hl.1 (Nat.le_of_ble_eq_true rfl) ⟨Nat.le_of_ble_eq_true rfl, Nat.le_of_ble_eq_true rfl⟩ ⟨rfl, rfl⟩ ⟨Nat.zero_le _, Nat.zero_le _⟩ (fun H locs hM1 => ?_)
  refine r_aload_n C dX10_takeDraftItems_4 rfl hl 0 rfl ?_
  refine r_getR C hM1 jc10 2 5 dX10_takeDraftItems_5 lk_X10_26 lc_0.1 lc_0.2 rfl rfl (by decide) rfl ?_
  refine r_getR C hM1 jc7 2 22 dX10_takeDraftItems_8 lk_X10_111 lc_5.1 lc_5.2 rfl rfl (by decide) rfl ?_
  refine r_aload_n C dX10_takeDraftItems_11 rfl hl 0 rfl ?_
  refine r_getR C hM1 jc10 3 29 dX10_takeDraftItems_12 lk_X10_30 lc_0.1 lc_0.2 rfl rfl (by decide) rfl ?_
  refine r_getR C hM1 jc7 2 46 dX10_takeDraftItems_15 lk_X10_111 lc_29.1 lc_29.2 rfl rfl (by decide) rfl ?_
  replace h := bd_some h
  obtain ⟨M18, hf18, h⟩ := h
  refine r_callV (As := [.ref (z + 46)]) (rest := []) C hM1 (c_X2_copyFrom l E z (show isSt 5 by decide) (show isSt 29 by decide) hf18) jy_X2_copyFrom lk_X10_315 dX10_takeDraftItems_18 (recvW C hM1 jc2 lc_22.1 lc_22.2 rfl) rfl rfl hl.1 (Nat.le_of_ble_eq_true rfl) ⟨Nat.le_of_ble_eq_true rfl, Nat.le_of_ble_eq_true rfl⟩ ⟨rfl, rfl⟩ ⟨Nat.zero_le _, Nat.zero_le _⟩ (fun H locs hM2 => ?_)
  refine r_aload_n C dX10_takeDraftItems_21 rfl hl 0 rfl ?_
  refine r_getR C hM2 jc10 9 56 dX10_takeDraftItems_22 lk_X10_54 lc_0.1 lc_0.2 rfl rfl (by decide) rfl ?_
  refine r_aload_n C dX10_takeDraftItems_25 rfl hl 0 rfl ?_
  refine r_getR C hM2 jc10 2 5 dX10_takeDraftItems_26 lk_X10_26 lc_0.1 lc_0.2 rfl rfl (by decide) rfl ?_
  refine r_getR C hM2 jc7 2 22 dX10_takeDraftItems_29 lk_X10_111 lc_5.1 lc_5.2 rfl rfl (by decide) rfl ?_
  replace h := bd_some h
  obtain ⟨M32, hf32, h⟩ := h
  refine r_callV (As := [.ref (z + 22)]) (rest := []) C hM2 (c_X5_cutFrom l E z (show isSt 5 by decide) hf32) jy_X5_cutFrom lk_X10_392 dX10_takeDraftItems_32 (recvW C hM2 jc5 lc_56.1 lc_56.2 rfl) rfl rfl hl.1 (Nat.le_of_ble_eq_true rfl) ⟨Nat.le_of_ble_eq_true rfl, Nat.le_of_ble_eq_true rfl⟩ ⟨rfl, rfl⟩ ⟨Nat.zero_le _, Nat.zero_le _⟩ (fun H locs hM3 => ?_)
  refine r_aload_n C dX10_takeDraftItems_35 rfl hl 0 rfl ?_
  refine r_getR C hM3 jc10 9 56 dX10_takeDraftItems_36 lk_X10_54 lc_0.1 lc_0.2 rfl rfl (by decide) rfl ?_
  refine r_getI C hM3 jc5 1 rfl dX10_takeDraftItems_39 lk_X10_250 lc_56.1 lc_56.2 rfl rfl (by decide) rfl ?_
  exact r_ireturnM C hM3 hr hlk (hM3.ok _ _) h dX10_takeDraftItems_42
set_option maxRecDepth 100000 in
set_option maxHeartbeats 4000000 in
theorem c_X10_insert (l : Launch) (E : jE) (z : Nat) {x1 : Int} {x2 : Int} {x3 : Int} {M M' : Mem} {r : Int} (hx1 : inR x1) (hx2 : inR x2) (hx3 : inR x3) (h : f_X10_insert x1 x2 x3 M = some (r, M')) : CtI l yX10_insert cX10_insert 6 (some .int) { frames := 27, cells := 0, slots := 0, locals := 823 } E z LyC [.ref (z + 0), .int (jI x1), .int (jI x2), .int (jI x3)] M r M' := by
  refine jm (by decide +kernel) (Nat.le_of_ble_eq_true rfl) ?_
  intro p e sM m below meth c C hM0 hr hlk ls hl
  replace hl : lv_has ls 6 [(0, .ref (z + 0)), (1, .int (jI x1)), (2, .int (jI x2)), (3, .int (jI x3))] := hl
  unfold f_X10_insert at h
  refine r_aload_n C dX10_insert_0 rfl hl 0 rfl ?_
  refine r_getR C hM0 jc10 2 5 dX10_insert_1 lk_X10_26 lc_0.1 lc_0.2 rfl rfl (by decide) rfl ?_
  refine r_getR C hM0 jc7 2 22 dX10_insert_4 lk_X10_111 lc_5.1 lc_5.2 rfl rfl (by decide) rfl ?_
  replace h := bd_some h
  obtain ⟨r7, hf7, h⟩ := h
  refine r_callI (As := []) (rest := []) C hM0 (c_X2_topCount l E z (show isSt 5 by decide) hf7) jy_X2_topCount lk_X10_152 dX10_insert_7 (recvW C hM0 jc2 lc_22.1 lc_22.2 rfl) rfl rfl hl.1 (Nat.le_of_ble_eq_true rfl) ⟨Nat.le_of_ble_eq_true rfl, Nat.le_of_ble_eq_true rfl⟩ ⟨rfl, rfl⟩ ⟨Nat.zero_le _, Nat.zero_le _⟩ (fun H locs hr7 hM1 => ?_)
  refine r_istore C [(4, .int (jI r7)), (0, .ref (z + 0)), (1, .int (jI x1)), (2, .int (jI x2)), (3, .int (jI x3))] dX10_insert_10 hl (by decide) rfl (fun ls hl => ?_)
  refine r_iload_n C dX10_insert_12 rfl hl 2 rfl ?_
  refine r_iload C dX10_insert_13 hl 0 rfl ?_
  refine r_iconst C dX10_insert_15 ?_
  replace h := ck_some h
  obtain ⟨hc2, h⟩ := h
  refine r_iadd C dX10_insert_16 ?_
  replace h := bd_some h
  obtain ⟨_, hf17, h⟩ := h
  refine r_callSV (As := [.int (jI x1), .int (jI (r7 + 1))]) (rest := []) C hM1 (c_X10_requireIndex l E z hx1 hc2 hf17) jy_X10_requireIndex lk_X10_172 dX10_insert_17 rfl rfl hl.1 (Nat.le_of_ble_eq_true rfl) ⟨Nat.le_of_ble_eq_true rfl, Nat.le_of_ble_eq_true rfl⟩ ⟨rfl, rfl⟩ ⟨Nat.zero_le _, Nat.zero_le _⟩ (fun H locs hM3 => ?_)
  refine r_iload_n C dX10_insert_20 rfl hl 3 rfl ?_
  refine r_aload_n C dX10_insert_21 rfl hl 1 rfl ?_
  refine r_getR C hM3 jc10 2 5 dX10_insert_22 lk_X10_26 lc_0.1 lc_0.2 rfl rfl (by decide) rfl ?_
  refine r_getR C hM3 jc7 0 6 dX10_insert_25 lk_X10_101 lc_5.1 lc_5.2 rfl rfl (by decide) rfl ?_
  refine r_getI C hM3 jc3 3 rfl dX10_insert_28 lk_X10_146 lc_6.1 lc_6.2 rfl rfl (by decide) rfl ?_
  replace h := bd_some h
  obtain ⟨_, hf31, h⟩ := h
  refine r_callSV (As := [.int (jI x2), .int (jI (M 6 3))]) (rest := []) C hM3 (c_X10_requireIndex l E z hx2 (hM0.ok _ _) hf31) jy_X10_requireIndex lk_X10_172 dX10_insert_31 rfl rfl hl.1 (Nat.le_of_ble_eq_true rfl) ⟨Nat.le_of_ble_eq_true rfl, Nat.le_of_ble_eq_true rfl⟩ ⟨rfl, rfl⟩ ⟨Nat.zero_le _, Nat.zero_le _⟩ (fun H locs hM4 => ?_)
  refine r_iload_n C dX10_insert_34 rfl hl 4 rfl ?_
  refine r_iconst C dX10_insert_35 ?_
  refine r_sipush C dX10_insert_36 rfl ?_
  replace h := bd_some h
  obtain ⟨_, hf39, h⟩ := h
  refine r_callSV (As := [.int (jI x3), .int (jI 1), .int (jI 400)]) (rest := []) C hM4 (c_X10_requireRange l E z hx3 ⟨by decide, by decide⟩ ⟨by decide, by decide⟩ hf39) jy_X10_requireRange lk_X10_97 dX10_insert_39 rfl rfl hl.1 (Nat.le_of_ble_eq_true rfl) ⟨Nat.le_of_ble_eq_true rfl, Nat.le_of_ble_eq_true rfl⟩ ⟨rfl, rfl⟩ ⟨Nat.zero_le _, Nat.zero_le _⟩ (fun H locs hM5 => ?_)
  refine r_aload_n C dX10_insert_42 rfl hl 1 rfl ?_
  refine r_getR C hM5 jc10 2 5 dX10_insert_43 lk_X10_26 lc_0.1 lc_0.2 rfl rfl (by decide) rfl ?_
  refine r_getR C hM5 jc7 2 22 dX10_insert_46 lk_X10_111 lc_5.1 lc_5.2 rfl rfl (by decide) rfl ?_
  refine r_getI C hM5 jc2 0 rfl dX10_insert_49 lk_X10_156 lc_22.1 lc_22.2 rfl rfl (by decide) rfl ?_
  refine r_bipush C dX10_insert_52 rfl ?_
  refine r_icmp_lt C 63 (hM0.ok _ _) ⟨by decide, by decide⟩ dX10_insert_54 (by decide) (fun cq => ?_) (fun cq => ?_)
  · replace h := ifp cq h
    refine r_aload_n C dX10_insert_63 rfl hl 1 rfl ?_
    refine r_getR C hM5 jc10 9 56 dX10_insert_64 lk_X10_54 lc_0.1 lc_0.2 rfl rfl (by decide) rfl ?_
    refine r_getI C hM5 jc5 0 rfl dX10_insert_67 lk_X10_230 lc_56.1 lc_56.2 rfl rfl (by decide) rfl ?_
    refine r_bipush C dX10_insert_70 rfl ?_
    refine r_icmp_lt C 81 (hM0.ok _ _) ⟨by decide, by decide⟩ dX10_insert_72 (by decide) (fun cq => ?_) (fun cq => ?_)
    · replace h := ifp cq h
      refine r_aload_n C dX10_insert_81 rfl hl 1 rfl ?_
      refine r_getR C hM5 jc10 3 29 dX10_insert_82 lk_X10_30 lc_0.1 lc_0.2 rfl rfl (by decide) rfl ?_
      refine r_getR C hM5 jc7 2 46 dX10_insert_85 lk_X10_111 lc_29.1 lc_29.2 rfl rfl (by decide) rfl ?_
      replace h := bd_some h
      obtain ⟨M88, hf88, h⟩ := h
      refine r_callV (As := []) (rest := []) C hM5 (c_X2_clear l E z (show isSt 29 by decide) hf88) jy_X2_clear lk_X10_115 dX10_insert_88 (recvW C hM5 jc2 lc_46.1 lc_46.2 rfl) rfl rfl hl.1 (Nat.le_of_ble_eq_true rfl) ⟨Nat.le_of_ble_eq_true rfl, Nat.le_of_ble_eq_true rfl⟩ ⟨rfl, rfl⟩ ⟨Nat.zero_le _, Nat.zero_le _⟩ (fun H locs hM6 => ?_)
      refine r_iconst C dX10_insert_91 ?_
      refine r_istore C [(5, .int (jI 0)), (4, .int (jI r7)), (0, .ref (z + 0)), (1, .int (jI x1)), (2, .int (jI x2)), (3, .int (jI x3))] dX10_insert_92 hl (by decide) rfl (fun ls hl => ?_)
      obtain ⟨y4, ey4⟩ : ∃ y : Int, y = r7 := ⟨_, rfl⟩
      have hy4 : inR y4 := by rw [ey4]; exact hr7
      have hL94 : ∀ n94 : Nat, ∀ (x5 : Int) (M : Mem), inR x5 → ∀ (H : Heap) (locs : List Loc) (ls : Array Slot), f_X10_insert_L94 x1 x2 x3 y4 n94  x5 M = some (r, M') → HS E z LyC M sM H locs → lv_has ls 6 [(0, .ref (z + 0)), (1, .int (jI x1)), (2, .int (jI x2)), (3, .int (jI x3)), (4, .int (jI y4)), (5, .int (jI x5))] → W p l e ({ frames := 27, cells := 0, slots := 0, locals := 823 } : Room) sM m (([.ref (z + 0), .int (jI x1), .int (jI x2), .int (jI x3)] : List Value).toArray) below meth c H locs 0 0 (MQ below (va_Qi (fun (w : Int32) (_ : Unit) => w = jI r ∧ inR r ∧ Mok LyC M') (fun _ t => va_P (eD E) vwCl (Wd (eC E) z LyC M') t.heap) (eA E)) (([.ref (z + 0), .int (jI x1), .int (jI x2), .int (jI x3)] : List Value).toArray) sM 0 0 (eA E)) (F0 m 94 ls []) := by
        intro n94
        induction n94 with
        | zero =>
          intro x5 M hx5 H locs ls h hM hl
          exact absurd h (by simp [f_X10_insert_L94])
        | succ n94 ih94 =>
          intro x5 M hx5 H locs ls h hM hl
          rw [f_X10_insert_L94] at h
          refine r_iload C dX10_insert_94 hl 5 rfl ?_
          refine r_iload_n C dX10_insert_96 rfl hl 1 rfl ?_
          refine r_icmp_ge C 125 hx5 hx1 dX10_insert_97 (by decide) (fun cq => ?_) (fun cq => ?_)
          · replace h := ifp cq h
            refine r_aload_n C dX10_insert_125 rfl hl 0 rfl ?_
            refine r_getR C hM jc10 3 29 dX10_insert_126 lk_X10_30 lc_0.1 lc_0.2 rfl rfl (by decide) rfl ?_
            refine r_getR C hM jc7 2 46 dX10_insert_129 lk_X10_111 lc_29.1 lc_29.2 rfl rfl (by decide) rfl ?_
            refine r_iconst C dX10_insert_132 ?_
            refine r_iload_n C dX10_insert_133 rfl hl 2 rfl ?_
            refine r_iconst C dX10_insert_134 ?_
            refine r_iload_n C dX10_insert_135 rfl hl 3 rfl ?_
            refine r_iconst C dX10_insert_136 ?_
            replace h := ck_some h
            obtain ⟨hc7, h⟩ := h
            refine r_isub C dX10_insert_137 ?_
            refine r_iconst C dX10_insert_138 ?_
            replace h := bd_some h
            obtain ⟨M139, hf139, h⟩ := h
            refine r_callV (As := [.int (jI 1), .int (jI x2), .int (jI 0), .int (jI (x3 - 1)), .int (jI 0)]) (rest := []) C hM (c_X2_add l E z (show isSt 29 by decide) ⟨by decide, by decide⟩ hx2 ⟨by decide, by decide⟩ hc7 ⟨by decide, by decide⟩ hf139) jy_X2_add lk_X10_322 dX10_insert_139 (recvW C hM jc2 lc_46.1 lc_46.2 rfl) rfl rfl hl.1 (Nat.le_of_ble_eq_true rfl) ⟨Nat.le_of_ble_eq_true rfl, Nat.le_of_ble_eq_true rfl⟩ ⟨rfl, rfl⟩ ⟨Nat.zero_le _, Nat.zero_le _⟩ (fun H locs hM8 => ?_)
            refine r_iload_n C dX10_insert_142 rfl hl 1 rfl ?_
            refine r_istore C [(5, .int (jI x1)), (0, .ref (z + 0)), (1, .int (jI x1)), (2, .int (jI x2)), (3, .int (jI x3)), (4, .int (jI y4))] dX10_insert_143 hl (by decide) rfl (fun ls hl => ?_)
            have hL145 : ∀ n145 : Nat, ∀ (x5 : Int) (M : Mem), inR x5 → ∀ (H : Heap) (locs : List Loc) (ls : Array Slot), f_X10_insert_L145 y4 n145  x5 M = some (r, M') → HS E z LyC M sM H locs → lv_has ls 6 [(0, .ref (z + 0)), (4, .int (jI y4)), (5, .int (jI x5))] → W p l e ({ frames := 27, cells := 0, slots := 0, locals := 823 } : Room) sM m (([.ref (z + 0), .int (jI x1), .int (jI x2), .int (jI x3)] : List Value).toArray) below meth c H locs 0 0 (MQ below (va_Qi (fun (w : Int32) (_ : Unit) => w = jI r ∧ inR r ∧ Mok LyC M') (fun _ t => va_P (eD E) vwCl (Wd (eC E) z LyC M') t.heap) (eA E)) (([.ref (z + 0), .int (jI x1), .int (jI x2), .int (jI x3)] : List Value).toArray) sM 0 0 (eA E)) (F0 m 145 ls []) := by
              intro n145
              induction n145 with
              | zero =>
                intro x5 M hx5 H locs ls h hM hl
                exact absurd h (by simp [f_X10_insert_L145])
              | succ n145 ih145 =>
                intro x5 M hx5 H locs ls h hM hl
                rw [f_X10_insert_L145] at h
                refine r_iload C dX10_insert_145 hl 2 rfl ?_
                refine r_iload C dX10_insert_147 hl 1 rfl ?_
                refine r_icmp_ge C 177 hx5 hy4 dX10_insert_149 (by decide) (fun cq => ?_) (fun cq => ?_)
                · replace h := ifp cq h
                  refine r_aload_n C dX10_insert_177 rfl hl 0 rfl ?_
                  replace h := bd_some h
                  obtain ⟨⟨r178, M178⟩, hf178, h⟩ := h
                  try dsimp only at h
                  refine r_callI (As := []) (rest := []) C hM (c_X10_takeDraftItems l E z hf178) jy_X10_takeDraftItems lk_X10_333 dX10_insert_178 (recvW C hM jc10 lc_0.1 lc_0.2 rfl) rfl rfl hl.1 (Nat.le_of_ble_eq_true rfl) ⟨Nat.le_of_ble_eq_true rfl, Nat.le_of_ble_eq_true rfl⟩ ⟨rfl, rfl⟩ ⟨Nat.zero_le _, Nat.zero_le _⟩ (fun H locs hr178 hM9 => ?_)
                  exact r_ireturnM C hM9 hr hlk hr178 h dX10_insert_181
                · replace h := ifn cq h
                  refine r_aload_n C dX10_insert_152 rfl hl 0 rfl ?_
                  refine r_getR C hM jc10 3 29 dX10_insert_153 lk_X10_30 lc_0.1 lc_0.2 rfl rfl (by decide) rfl ?_
                  refine r_getR C hM jc7 2 46 dX10_insert_156 lk_X10_111 lc_29.1 lc_29.2 rfl rfl (by decide) rfl ?_
                  refine r_aload_n C dX10_insert_159 rfl hl 0 rfl ?_
                  refine r_getR C hM jc10 2 5 dX10_insert_160 lk_X10_26 lc_0.1 lc_0.2 rfl rfl (by decide) rfl ?_
                  refine r_getR C hM jc7 2 22 dX10_insert_163 lk_X10_111 lc_5.1 lc_5.2 rfl rfl (by decide) rfl ?_
                  refine r_iload C dX10_insert_166 hl 2 rfl ?_
                  replace h := bd_some h
                  obtain ⟨M168, hf168, h⟩ := h
                  refine r_callV (As := [.ref (z + 22), .int (jI x5)]) (rest := []) C hM (c_X2_addTop l E z (show isSt 29 by decide) (show isSt 5 by decide) hx5 hf168) jy_X2_addTop lk_X10_329 dX10_insert_168 (recvW C hM jc2 lc_46.1 lc_46.2 rfl) rfl rfl hl.1 (Nat.le_of_ble_eq_true rfl) ⟨Nat.le_of_ble_eq_true rfl, Nat.le_of_ble_eq_true rfl⟩ ⟨rfl, rfl⟩ ⟨Nat.zero_le _, Nat.zero_le _⟩ (fun H locs hM10 => ?_)
                  replace h := ck_some h
                  obtain ⟨hc11, h⟩ := h
                  refine r_iinc (j := 2) (x := x5) C [(5, .int (jI (x5 + 1))), (0, .ref (z + 0)), (4, .int (jI y4))] dX10_insert_171 hl rfl (by decide) rfl (fun ls hl => ?_)
                  refine r_goto C 145 dX10_insert_174 (by decide) ?_
                  exact ih145 _ _ hc11 _ _ _ h hM10 (lv_sub hl [1, 2, 0] rfl)
            exact hL145 jFuel _ _ hx1 _ _ _ h hM8 (lv_sub hl [1, 5, 0] rfl)
          · replace h := ifn cq h
            refine r_aload_n C dX10_insert_100 rfl hl 0 rfl ?_
            refine r_getR C hM jc10 3 29 dX10_insert_101 lk_X10_30 lc_0.1 lc_0.2 rfl rfl (by decide) rfl ?_
            refine r_getR C hM jc7 2 46 dX10_insert_104 lk_X10_111 lc_29.1 lc_29.2 rfl rfl (by decide) rfl ?_
            refine r_aload_n C dX10_insert_107 rfl hl 0 rfl ?_
            refine r_getR C hM jc10 2 5 dX10_insert_108 lk_X10_26 lc_0.1 lc_0.2 rfl rfl (by decide) rfl ?_
            refine r_getR C hM jc7 2 22 dX10_insert_111 lk_X10_111 lc_5.1 lc_5.2 rfl rfl (by decide) rfl ?_
            refine r_iload C dX10_insert_114 hl 5 rfl ?_
            replace h := bd_some h
            obtain ⟨M116, hf116, h⟩ := h
            refine r_callV (As := [.ref (z + 22), .int (jI x5)]) (rest := []) C hM (c_X2_addTop l E z (show isSt 29 by decide) (show isSt 5 by decide) hx5 hf116) jy_X2_addTop lk_X10_329 dX10_insert_116 (recvW C hM jc2 lc_46.1 lc_46.2 rfl) rfl rfl hl.1 (Nat.le_of_ble_eq_true rfl) ⟨Nat.le_of_ble_eq_true rfl, Nat.le_of_ble_eq_true rfl⟩ ⟨rfl, rfl⟩ ⟨Nat.zero_le _, Nat.zero_le _⟩ (fun H locs hM12 => ?_)
            replace h := ck_some h
            obtain ⟨hc13, h⟩ := h
            refine r_iinc (j := 5) (x := x5) C [(5, .int (jI (x5 + 1))), (0, .ref (z + 0)), (1, .int (jI x1)), (2, .int (jI x2)), (3, .int (jI x3)), (4, .int (jI y4))] dX10_insert_119 hl rfl (by decide) rfl (fun ls hl => ?_)
            refine r_goto C 94 dX10_insert_122 (by decide) ?_
            exact ih94 _ _ hc13 _ _ _ h hM12 (lv_sub hl [1, 2, 3, 4, 5, 0] rfl)
      rw [← ey4] at h
      have hl := lv_sub (l' := [(0, .ref (z + 0)), (1, .int (jI x1)), (2, .int (jI x2)), (3, .int (jI x3)), (4, .int (jI y4)), (5, .int (jI 0))]) hl [2, 3, 4, 5, 1, 0] (by rw [ey4]; rfl)
      exact hL94 jFuel _ _ ⟨by decide, by decide⟩ _ _ _ h hM6 hl
    · replace h := ifn cq h
      refine r_aload_n C dX10_insert_75 rfl hl 1 rfl ?_
      refine r_iconst C dX10_insert_76 ?_
      replace h := bd_some h
      obtain ⟨⟨r77, M77⟩, hf77, h⟩ := h
      try dsimp only at h
      refine r_callI (As := [.int (jI 2)]) (rest := []) C hM5 (c_X10_refuse l E z ⟨by decide, by decide⟩ hf77) jy_X10_refuse lk_X10_306 dX10_insert_77 (recvW C hM5 jc10 lc_0.1 lc_0.2 rfl) rfl rfl hl.1 (Nat.le_of_ble_eq_true rfl) ⟨Nat.le_of_ble_eq_true rfl, Nat.le_of_ble_eq_true rfl⟩ ⟨rfl, rfl⟩ ⟨Nat.zero_le _, Nat.zero_le _⟩ (fun H locs hr77 hM14 => ?_)
      exact r_ireturnM C hM14 hr hlk hr77 h dX10_insert_80
  · replace h := ifn cq h
    refine r_aload_n C dX10_insert_57 rfl hl 1 rfl ?_
    refine r_iconst C dX10_insert_58 ?_
    replace h := bd_some h
    obtain ⟨⟨r59, M59⟩, hf59, h⟩ := h
    try dsimp only at h
    refine r_callI (As := [.int (jI 4)]) (rest := []) C hM5 (c_X10_refuse l E z ⟨by decide, by decide⟩ hf59) jy_X10_refuse lk_X10_306 dX10_insert_59 (recvW C hM5 jc10 lc_0.1 lc_0.2 rfl) rfl rfl hl.1 (Nat.le_of_ble_eq_true rfl) ⟨Nat.le_of_ble_eq_true rfl, Nat.le_of_ble_eq_true rfl⟩ ⟨rfl, rfl⟩ ⟨Nat.zero_le _, Nat.zero_le _⟩ (fun H locs hr59 hM15 => ?_)
    exact r_ireturnM C hM15 hr hlk hr59 h dX10_insert_62
set_option maxRecDepth 100000 in
set_option maxHeartbeats 4000000 in
theorem c_X10_trim (l : Launch) (E : jE) (z : Nat) {x1 : Int} {x2 : Int} {M M' : Mem} {r : Int} (hx1 : inR x1) (hx2 : inR x2) (h : f_X10_trim x1 x2 M = some (r, M')) : CtI l yX10_trim cX10_trim 4 (some .int) { frames := 27, cells := 0, slots := 0, locals := 823 } E z LyC [.ref (z + 0), .int (jI x1), .int (jI x2)] M r M' := by
  refine jm (by decide +kernel) (Nat.le_of_ble_eq_true rfl) ?_
  intro p e sM m below meth c C hM0 hr hlk ls hl
  replace hl : lv_has ls 4 [(0, .ref (z + 0)), (1, .int (jI x1)), (2, .int (jI x2))] := hl
  unfold f_X10_trim at h
  refine r_iload_n C dX10_trim_0 rfl hl 1 rfl ?_
  refine r_aload_n C dX10_trim_1 rfl hl 0 rfl ?_
  refine r_getR C hM0 jc10 2 5 dX10_trim_2 lk_X10_26 lc_0.1 lc_0.2 rfl rfl (by decide) rfl ?_
  refine r_getR C hM0 jc7 2 22 dX10_trim_5 lk_X10_111 lc_5.1 lc_5.2 rfl rfl (by decide) rfl ?_
  replace h := bd_some h
  obtain ⟨r8, hf8, h⟩ := h
  refine r_callI (As := []) (rest := [.int (jI x1)]) C hM0 (c_X2_topCount l E z (show isSt 5 by decide) hf8) jy_X2_topCount lk_X10_152 dX10_trim_8 (recvW C hM0 jc2 lc_22.1 lc_22.2 rfl) rfl rfl hl.1 (Nat.le_of_ble_eq_true rfl) ⟨Nat.le_of_ble_eq_true rfl, Nat.le_of_ble_eq_true rfl⟩ ⟨rfl, rfl⟩ ⟨Nat.zero_le _, Nat.zero_le _⟩ (fun H locs hr8 hM1 => ?_)
  replace h := bd_some h
  obtain ⟨_, hf11, h⟩ := h
  refine r_callSV (As := [.int (jI x1), .int (jI r8)]) (rest := []) C hM1 (c_X10_requireIndex l E z hx1 hr8 hf11) jy_X10_requireIndex lk_X10_172 dX10_trim_11 rfl rfl hl.1 (Nat.le_of_ble_eq_true rfl) ⟨Nat.le_of_ble_eq_true rfl, Nat.le_of_ble_eq_true rfl⟩ ⟨rfl, rfl⟩ ⟨Nat.zero_le _, Nat.zero_le _⟩ (fun H locs hM2 => ?_)
  refine r_iload_n C dX10_trim_14 rfl hl 2 rfl ?_
  refine r_iconst C dX10_trim_15 ?_
  refine r_sipush C dX10_trim_16 rfl ?_
  replace h := bd_some h
  obtain ⟨_, hf19, h⟩ := h
  refine r_callSV (As := [.int (jI x2), .int (jI 1), .int (jI 399)]) (rest := []) C hM2 (c_X10_requireRange l E z hx2 ⟨by decide, by decide⟩ ⟨by decide, by decide⟩ hf19) jy_X10_requireRange lk_X10_97 dX10_trim_19 rfl rfl hl.1 (Nat.le_of_ble_eq_true rfl) ⟨Nat.le_of_ble_eq_true rfl, Nat.le_of_ble_eq_true rfl⟩ ⟨rfl, rfl⟩ ⟨Nat.zero_le _, Nat.zero_le _⟩ (fun H locs hM3 => ?_)
  refine r_aload_n C dX10_trim_22 rfl hl 0 rfl ?_
  refine r_getR C hM3 jc10 2 5 dX10_trim_23 lk_X10_26 lc_0.1 lc_0.2 rfl rfl (by decide) rfl ?_
  refine r_getR C hM3 jc7 2 22 dX10_trim_26 lk_X10_111 lc_5.1 lc_5.2 rfl rfl (by decide) rfl ?_
  refine r_iload_n C dX10_trim_29 rfl hl 1 rfl ?_
  replace h := bd_some h
  obtain ⟨r30, hf30, h⟩ := h
  refine r_callI (As := [.int (jI x1)]) (rest := []) C hM3 (c_X2_topIndex l E z (show isSt 5 by decide) hx1 hf30) jy_X2_topIndex lk_X10_336 dX10_trim_30 (recvW C hM3 jc2 lc_22.1 lc_22.2 rfl) rfl rfl hl.1 (Nat.le_of_ble_eq_true rfl) ⟨Nat.le_of_ble_eq_true rfl, Nat.le_of_ble_eq_true rfl⟩ ⟨rfl, rfl⟩ ⟨Nat.zero_le _, Nat.zero_le _⟩ (fun H locs hr30 hM4 => ?_)
  refine r_istore_n C [(3, .int (jI r30)), (0, .ref (z + 0)), (1, .int (jI x1)), (2, .int (jI x2))] dX10_trim_33 rfl hl (by decide) rfl (fun ls hl => ?_)
  refine r_aload_n C dX10_trim_34 rfl hl 1 rfl ?_
  refine r_getR C hM4 jc10 2 5 dX10_trim_35 lk_X10_26 lc_0.1 lc_0.2 rfl rfl (by decide) rfl ?_
  refine r_getR C hM4 jc7 2 22 dX10_trim_38 lk_X10_111 lc_5.1 lc_5.2 rfl rfl (by decide) rfl ?_
  refine r_iload_n C dX10_trim_41 rfl hl 0 rfl ?_
  replace h := bd_some h
  obtain ⟨r42, hf42, h⟩ := h
  refine r_callI (As := [.int (jI r30)]) (rest := []) C hM4 (c_X2_isBlock l E z (show isSt 5 by decide) hr30 hf42) jy_X2_isBlock lk_X10_339 dX10_trim_42 (recvW C hM4 jc2 lc_22.1 lc_22.2 rfl) rfl rfl hl.1 (Nat.le_of_ble_eq_true rfl) ⟨Nat.le_of_ble_eq_true rfl, Nat.le_of_ble_eq_true rfl⟩ ⟨rfl, rfl⟩ ⟨Nat.zero_le _, Nat.zero_le _⟩ (fun H locs hr42 hM5 => ?_)
  refine r_if_eq C 54 hr42 dX10_trim_45 (by decide) (fun cq => ?_) (fun cq => ?_)
  · replace h := ifp cq h
    refine r_aload_n C dX10_trim_54 rfl hl 1 rfl ?_
    refine r_getR C hM5 jc10 2 5 dX10_trim_55 lk_X10_26 lc_0.1 lc_0.2 rfl rfl (by decide) rfl ?_
    refine r_getR C hM5 jc7 2 22 dX10_trim_58 lk_X10_111 lc_5.1 lc_5.2 rfl rfl (by decide) rfl ?_
    refine r_iload_n C dX10_trim_61 rfl hl 0 rfl ?_
    replace h := bd_some h
    obtain ⟨r62, hf62, h⟩ := h
    refine r_callI (As := [.int (jI r30)]) (rest := []) C hM5 (c_X2_framesOf l E z (show isSt 5 by decide) hr30 hf62) jy_X2_framesOf lk_X10_342 dX10_trim_62 (recvW C hM5 jc2 lc_22.1 lc_22.2 rfl) rfl rfl hl.1 (Nat.le_of_ble_eq_true rfl) ⟨Nat.le_of_ble_eq_true rfl, Nat.le_of_ble_eq_true rfl⟩ ⟨rfl, rfl⟩ ⟨Nat.zero_le _, Nat.zero_le _⟩ (fun H locs hr62 hM6 => ?_)
    refine r_iload_n C dX10_trim_65 rfl hl 3 rfl ?_
    replace h := ck_some h
    obtain ⟨hc7, h⟩ := h
    refine r_isub C dX10_trim_66 ?_
    refine r_iconst C dX10_trim_67 ?_
    refine r_icmp_ge C 78 hc7 ⟨by decide, by decide⟩ dX10_trim_68 (by decide) (fun cq => ?_) (fun cq => ?_)
    · replace h := ifp cq h
      refine r_aload_n C dX10_trim_78 rfl hl 1 rfl ?_
      replace h := bd_some h
      obtain ⟨M79, hf79, h⟩ := h
      refine r_callV (As := []) (rest := []) C hM6 (c_X10_remember l E z hf79) jy_X10_remember lk_X10_312 dX10_trim_79 (recvW C hM6 jc10 lc_0.1 lc_0.2 rfl) rfl rfl hl.1 (Nat.le_of_ble_eq_true rfl) ⟨Nat.le_of_ble_eq_true rfl, Nat.le_of_ble_eq_true rfl⟩ ⟨rfl, rfl⟩ ⟨Nat.zero_le _, Nat.zero_le _⟩ (fun H locs hM8 => ?_)
      refine r_aload_n C dX10_trim_82 rfl hl 1 rfl ?_
      refine r_getR C hM8 jc10 2 5 dX10_trim_83 lk_X10_26 lc_0.1 lc_0.2 rfl rfl (by decide) rfl ?_
      refine r_getR C hM8 jc7 2 22 dX10_trim_86 lk_X10_111 lc_5.1 lc_5.2 rfl rfl (by decide) rfl ?_
      refine r_iload_n C dX10_trim_89 rfl hl 0 rfl ?_
      refine r_iload_n C dX10_trim_90 rfl hl 3 rfl ?_
      replace h := bd_some h
      obtain ⟨M91, hf91, h⟩ := h
      refine r_callV (As := [.int (jI r30), .int (jI x2)]) (rest := []) C hM8 (c_X2_shorten l E z (show isSt 5 by decide) hr30 hx2 hf91) jy_X2_shorten lk_X10_326 dX10_trim_91 (recvW C hM8 jc2 lc_22.1 lc_22.2 rfl) rfl rfl hl.1 (Nat.le_of_ble_eq_true rfl) ⟨Nat.le_of_ble_eq_true rfl, Nat.le_of_ble_eq_true rfl⟩ ⟨rfl, rfl⟩ ⟨Nat.zero_le _, Nat.zero_le _⟩ (fun H locs hM9 => ?_)
      refine r_aload_n C dX10_trim_94 rfl hl 1 rfl ?_
      replace h := bd_some h
      obtain ⟨M95, hf95, h⟩ := h
      refine r_callV (As := []) (rest := []) C hM9 (c_X10_settle l E z hf95) jy_X10_settle lk_X10_134 dX10_trim_95 (recvW C hM9 jc10 lc_0.1 lc_0.2 rfl) rfl rfl hl.1 (Nat.le_of_ble_eq_true rfl) ⟨Nat.le_of_ble_eq_true rfl, Nat.le_of_ble_eq_true rfl⟩ ⟨rfl, rfl⟩ ⟨Nat.zero_le _, Nat.zero_le _⟩ (fun H locs hM10 => ?_)
      refine r_aload_n C dX10_trim_98 rfl hl 1 rfl ?_
      refine r_getR C hM10 jc10 2 5 dX10_trim_99 lk_X10_26 lc_0.1 lc_0.2 rfl rfl (by decide) rfl ?_
      refine r_getR C hM10 jc7 2 22 dX10_trim_102 lk_X10_111 lc_5.1 lc_5.2 rfl rfl (by decide) rfl ?_
      refine r_iload_n C dX10_trim_105 rfl hl 0 rfl ?_
      replace h := bd_some h
      obtain ⟨r106, hf106, h⟩ := h
      refine r_callI (As := [.int (jI r30)]) (rest := []) C hM10 (c_X2_framesOf l E z (show isSt 5 by decide) hr30 hf106) jy_X2_framesOf lk_X10_342 dX10_trim_106 (recvW C hM10 jc2 lc_22.1 lc_22.2 rfl) rfl rfl hl.1 (Nat.le_of_ble_eq_true rfl) ⟨Nat.le_of_ble_eq_true rfl, Nat.le_of_ble_eq_true rfl⟩ ⟨rfl, rfl⟩ ⟨Nat.zero_le _, Nat.zero_le _⟩ (fun H locs hr106 hM11 => ?_)
      exact r_ireturnM C hM11 hr hlk hr106 h dX10_trim_109
    · replace h := ifn cq h
      refine r_aload_n C dX10_trim_71 rfl hl 1 rfl ?_
      refine r_bipush C dX10_trim_72 rfl ?_
      replace h := bd_some h
      obtain ⟨⟨r74, M74⟩, hf74, h⟩ := h
      try dsimp only at h
      refine r_callI (As := [.int (jI 6)]) (rest := []) C hM6 (c_X10_refuse l E z ⟨by decide, by decide⟩ hf74) jy_X10_refuse lk_X10_306 dX10_trim_74 (recvW C hM6 jc10 lc_0.1 lc_0.2 rfl) rfl rfl hl.1 (Nat.le_of_ble_eq_true rfl) ⟨Nat.le_of_ble_eq_true rfl, Nat.le_of_ble_eq_true rfl⟩ ⟨rfl, rfl⟩ ⟨Nat.zero_le _, Nat.zero_le _⟩ (fun H locs hr74 hM12 => ?_)
      exact r_ireturnM C hM12 hr hlk hr74 h dX10_trim_77
  · replace h := ifn cq h
    refine r_aload_n C dX10_trim_48 rfl hl 1 rfl ?_
    refine r_iconst C dX10_trim_49 ?_
    replace h := bd_some h
    obtain ⟨⟨r50, M50⟩, hf50, h⟩ := h
    try dsimp only at h
    refine r_callI (As := [.int (jI 5)]) (rest := []) C hM5 (c_X10_refuse l E z ⟨by decide, by decide⟩ hf50) jy_X10_refuse lk_X10_306 dX10_trim_50 (recvW C hM5 jc10 lc_0.1 lc_0.2 rfl) rfl rfl hl.1 (Nat.le_of_ble_eq_true rfl) ⟨Nat.le_of_ble_eq_true rfl, Nat.le_of_ble_eq_true rfl⟩ ⟨rfl, rfl⟩ ⟨Nat.zero_le _, Nat.zero_le _⟩ (fun H locs hr50 hM13 => ?_)
    exact r_ireturnM C hM13 hr hlk hr50 h dX10_trim_53
set_option maxRecDepth 100000 in
set_option maxHeartbeats 4000000 in
theorem c_X10_remove (l : Launch) (E : jE) (z : Nat) {x1 : Int} {M M' : Mem} {r : Int} (hx1 : inR x1) (h : f_X10_remove x1 M = some (r, M')) : CtI l yX10_remove cX10_remove 4 (some .int) { frames := 27, cells := 0, slots := 0, locals := 823 } E z LyC [.ref (z + 0), .int (jI x1)] M r M' := by
  refine jm (by decide +kernel) (Nat.le_of_ble_eq_true rfl) ?_
  intro p e sM m below meth c C hM0 hr hlk ls hl
  replace hl : lv_has ls 4 [(0, .ref (z + 0)), (1, .int (jI x1))] := hl
  unfold f_X10_remove at h
  refine r_aload_n C dX10_remove_0 rfl hl 0 rfl ?_
  refine r_getR C hM0 jc10 2 5 dX10_remove_1 lk_X10_26 lc_0.1 lc_0.2 rfl rfl (by decide) rfl ?_
  refine r_getR C hM0 jc7 2 22 dX10_remove_4 lk_X10_111 lc_5.1 lc_5.2 rfl rfl (by decide) rfl ?_
  replace h := bd_some h
  obtain ⟨r7, hf7, h⟩ := h
  refine r_callI (As := []) (rest := []) C hM0 (c_X2_topCount l E z (show isSt 5 by decide) hf7) jy_X2_topCount lk_X10_152 dX10_remove_7 (recvW C hM0 jc2 lc_22.1 lc_22.2 rfl) rfl rfl hl.1 (Nat.le_of_ble_eq_true rfl) ⟨Nat.le_of_ble_eq_true rfl, Nat.le_of_ble_eq_true rfl⟩ ⟨rfl, rfl⟩ ⟨Nat.zero_le _, Nat.zero_le _⟩ (fun H locs hr7 hM1 => ?_)
  refine r_istore_n C [(2, .int (jI r7)), (0, .ref (z + 0)), (1, .int (jI x1))] dX10_remove_10 rfl hl (by decide) rfl (fun ls hl => ?_)
  refine r_iload_n C dX10_remove_11 rfl hl 2 rfl ?_
  refine r_iload_n C dX10_remove_12 rfl hl 0 rfl ?_
  replace h := bd_some h
  obtain ⟨_, hf13, h⟩ := h
  refine r_callSV (As := [.int (jI x1), .int (jI r7)]) (rest := []) C hM1 (c_X10_requireIndex l E z hx1 hr7 hf13) jy_X10_requireIndex lk_X10_172 dX10_remove_13 rfl rfl hl.1 (Nat.le_of_ble_eq_true rfl) ⟨Nat.le_of_ble_eq_true rfl, Nat.le_of_ble_eq_true rfl⟩ ⟨rfl, rfl⟩ ⟨Nat.zero_le _, Nat.zero_le _⟩ (fun H locs hM2 => ?_)
  refine r_aload_n C dX10_remove_16 rfl hl 1 rfl ?_
  refine r_getR C hM2 jc10 3 29 dX10_remove_17 lk_X10_30 lc_0.1 lc_0.2 rfl rfl (by decide) rfl ?_
  refine r_getR C hM2 jc7 2 46 dX10_remove_20 lk_X10_111 lc_29.1 lc_29.2 rfl rfl (by decide) rfl ?_
  replace h := bd_some h
  obtain ⟨M23, hf23, h⟩ := h
  refine r_callV (As := []) (rest := []) C hM2 (c_X2_clear l E z (show isSt 29 by decide) hf23) jy_X2_clear lk_X10_115 dX10_remove_23 (recvW C hM2 jc2 lc_46.1 lc_46.2 rfl) rfl rfl hl.1 (Nat.le_of_ble_eq_true rfl) ⟨Nat.le_of_ble_eq_true rfl, Nat.le_of_ble_eq_true rfl⟩ ⟨rfl, rfl⟩ ⟨Nat.zero_le _, Nat.zero_le _⟩ (fun H locs hM3 => ?_)
  refine r_iconst C dX10_remove_26 ?_
  refine r_istore_n C [(3, .int (jI 0)), (2, .int (jI r7)), (0, .ref (z + 0)), (1, .int (jI x1))] dX10_remove_27 rfl hl (by decide) rfl (fun ls hl => ?_)
  obtain ⟨y2, ey2⟩ : ∃ y : Int, y = r7 := ⟨_, rfl⟩
  have hy2 : inR y2 := by rw [ey2]; exact hr7
  have hL28 : ∀ n28 : Nat, ∀ (x3 : Int) (M : Mem), inR x3 → ∀ (H : Heap) (locs : List Loc) (ls : Array Slot), f_X10_remove_L28 x1 y2 n28  x3 M = some (r, M') → HS E z LyC M sM H locs → lv_has ls 4 [(0, .ref (z + 0)), (1, .int (jI x1)), (2, .int (jI y2)), (3, .int (jI x3))] → W p l e ({ frames := 27, cells := 0, slots := 0, locals := 823 } : Room) sM m (([.ref (z + 0), .int (jI x1)] : List Value).toArray) below meth c H locs 0 0 (MQ below (va_Qi (fun (w : Int32) (_ : Unit) => w = jI r ∧ inR r ∧ Mok LyC M') (fun _ t => va_P (eD E) vwCl (Wd (eC E) z LyC M') t.heap) (eA E)) (([.ref (z + 0), .int (jI x1)] : List Value).toArray) sM 0 0 (eA E)) (F0 m 28 ls []) := by
    intro n28
    induction n28 with
    | zero =>
      intro x3 M hx3 H locs ls h hM hl
      exact absurd h (by simp [f_X10_remove_L28])
    | succ n28 ih28 =>
      intro x3 M hx3 H locs ls h hM hl
      rw [f_X10_remove_L28] at h
      refine r_iload_n C dX10_remove_28 rfl hl 3 rfl ?_
      refine r_iload_n C dX10_remove_29 rfl hl 2 rfl ?_
      refine r_icmp_ge C 62 hx3 hy2 dX10_remove_30 (by decide) (fun cq => ?_) (fun cq => ?_)
      · replace h := ifp cq h
        refine r_aload_n C dX10_remove_62 rfl hl 0 rfl ?_
        replace h := bd_some h
        obtain ⟨⟨r63, M63⟩, hf63, h⟩ := h
        try dsimp only at h
        refine r_callI (As := []) (rest := []) C hM (c_X10_takeDraftItems l E z hf63) jy_X10_takeDraftItems lk_X10_333 dX10_remove_63 (recvW C hM jc10 lc_0.1 lc_0.2 rfl) rfl rfl hl.1 (Nat.le_of_ble_eq_true rfl) ⟨Nat.le_of_ble_eq_true rfl, Nat.le_of_ble_eq_true rfl⟩ ⟨rfl, rfl⟩ ⟨Nat.zero_le _, Nat.zero_le _⟩ (fun H locs hr63 hM4 => ?_)
        exact r_ireturnM C hM4 hr hlk hr63 h dX10_remove_66
      · replace h := ifn cq h
        refine r_iload_n C dX10_remove_33 rfl hl 3 rfl ?_
        refine r_iload_n C dX10_remove_34 rfl hl 1 rfl ?_
        refine r_icmp_eq C 56 hx3 hx1 dX10_remove_35 (by decide) (fun cq => ?_) (fun cq => ?_)
        · replace h := ifp cq h
          replace h := ck_some h
          obtain ⟨hc5, h⟩ := h
          refine r_iinc (j := 3) (x := x3) C [(3, .int (jI (x3 + 1))), (0, .ref (z + 0)), (1, .int (jI x1)), (2, .int (jI y2))] dX10_remove_56 hl rfl (by decide) rfl (fun ls hl => ?_)
          refine r_goto C 28 dX10_remove_59 (by decide) ?_
          exact ih28 _ _ hc5 _ _ _ h hM (lv_sub hl [1, 2, 3, 0] rfl)
        · replace h := ifn cq h
          refine r_aload_n C dX10_remove_38 rfl hl 0 rfl ?_
          refine r_getR C hM jc10 3 29 dX10_remove_39 lk_X10_30 lc_0.1 lc_0.2 rfl rfl (by decide) rfl ?_
          refine r_getR C hM jc7 2 46 dX10_remove_42 lk_X10_111 lc_29.1 lc_29.2 rfl rfl (by decide) rfl ?_
          refine r_aload_n C dX10_remove_45 rfl hl 0 rfl ?_
          refine r_getR C hM jc10 2 5 dX10_remove_46 lk_X10_26 lc_0.1 lc_0.2 rfl rfl (by decide) rfl ?_
          refine r_getR C hM jc7 2 22 dX10_remove_49 lk_X10_111 lc_5.1 lc_5.2 rfl rfl (by decide) rfl ?_
          refine r_iload_n C dX10_remove_52 rfl hl 3 rfl ?_
          replace h := bd_some h
          obtain ⟨M53, hf53, h⟩ := h
          refine r_callV (As := [.ref (z + 22), .int (jI x3)]) (rest := []) C hM (c_X2_addTop l E z (show isSt 29 by decide) (show isSt 5 by decide) hx3 hf53) jy_X2_addTop lk_X10_329 dX10_remove_53 (recvW C hM jc2 lc_46.1 lc_46.2 rfl) rfl rfl hl.1 (Nat.le_of_ble_eq_true rfl) ⟨Nat.le_of_ble_eq_true rfl, Nat.le_of_ble_eq_true rfl⟩ ⟨rfl, rfl⟩ ⟨Nat.zero_le _, Nat.zero_le _⟩ (fun H locs hM6 => ?_)
          replace h := ck_some h
          obtain ⟨hc7, h⟩ := h
          refine r_iinc (j := 3) (x := x3) C [(3, .int (jI (x3 + 1))), (0, .ref (z + 0)), (1, .int (jI x1)), (2, .int (jI y2))] dX10_remove_56 hl rfl (by decide) rfl (fun ls hl => ?_)
          refine r_goto C 28 dX10_remove_59 (by decide) ?_
          exact ih28 _ _ hc7 _ _ _ h hM6 (lv_sub hl [1, 2, 3, 0] rfl)
  rw [← ey2] at h
  have hl := lv_sub (l' := [(0, .ref (z + 0)), (1, .int (jI x1)), (2, .int (jI y2)), (3, .int (jI 0))]) hl [2, 3, 1, 0] (by rw [ey2]; rfl)
  exact hL28 jFuel _ _ ⟨by decide, by decide⟩ _ _ _ h hM3 hl
set_option maxRecDepth 100000 in
set_option maxHeartbeats 4000000 in
theorem c_X10_topMovedTo (l : Launch) (E : jE) (z : Nat) {x0 : Int} {x1 : Int} {x2 : Int} {M : Mem} {r : Int} (hx0 : inR x0) (hx1 : inR x1) (hx2 : inR x2) (h : f_X10_topMovedTo x0 x1 x2 M = some r) : CtI l yX10_topMovedTo cX10_topMovedTo 4 (some .int) { frames := 0, cells := 0, slots := 0, locals := 0 } E z LyC [.int (jI x0), .int (jI x1), .int (jI x2)] M r M := by
  refine jm (by decide +kernel) (Nat.le_of_ble_eq_true rfl) ?_
  intro p e sM m below meth c C hM0 hr hlk ls hl
  replace hl : lv_has ls 4 [(0, .int (jI x0)), (1, .int (jI x1)), (2, .int (jI x2))] := hl
  unfold f_X10_topMovedTo at h
  refine r_iload_n C dX10_topMovedTo_0 rfl hl 0 rfl ?_
  refine r_iload_n C dX10_topMovedTo_1 rfl hl 2 rfl ?_
  refine r_icmp_ne C 7 hx0 hx2 dX10_topMovedTo_2 (by decide) (fun cq => ?_) (fun cq => ?_)
  · replace h := ifn cq h
    refine r_iload_n C dX10_topMovedTo_7 rfl hl 0 rfl ?_
    refine r_iload_n C dX10_topMovedTo_8 rfl hl 2 rfl ?_
    replace h := jn_some h
    obtain ⟨k19, hk19, h⟩ := h
    have hJ19 : ∀ (v19 : Int), inR v19 → ∀ (H : Heap) (locs : List Loc) (ls : Array Slot), k19 v19 = some r → HS E z LyC M sM H locs → lv_has ls 4 [(1, .int (jI x1))] → W p l e ({ frames := 0, cells := 0, slots := 0, locals := 0 } : Room) sM m (([.int (jI x0), .int (jI x1), .int (jI x2)] : List Value).toArray) below meth c H locs 0 0 (MQ below (va_Qi (fun (w : Int32) (_ : Unit) => w = jI r ∧ inR r ∧ Mok LyC M) (fun _ t => va_P (eD E) vwCl (Wd (eC E) z LyC M) t.heap) (eA E)) (([.int (jI x0), .int (jI x1), .int (jI x2)] : List Value).toArray) sM 0 0 (eA E)) (F0 m 19 ls [.int (jI v19)]) := by
      intro v19 hv19 H locs ls h hMj19 hl
      subst hk19
      try dsimp only at h
      refine r_istore_n C [(3, .int (jI v19)), (1, .int (jI x1))] dX10_topMovedTo_19 rfl hl (by decide) rfl (fun ls hl => ?_)
      refine r_iload_n C dX10_topMovedTo_20 rfl hl 0 rfl ?_
      refine r_iload_n C dX10_topMovedTo_21 rfl hl 1 rfl ?_
      refine r_icmp_ge C 29 hv19 hx1 dX10_topMovedTo_22 (by decide) (fun cq => ?_) (fun cq => ?_)
      · replace h := ifp cq h
        refine r_iload_n C dX10_topMovedTo_29 rfl hl 0 rfl ?_
        refine r_iconst C dX10_topMovedTo_30 ?_
        replace h := ck_some h
        obtain ⟨hc1, h⟩ := h
        refine r_iadd C dX10_topMovedTo_31 ?_
        exact r_ireturn C hMj19 hr hlk hc1 h rfl dX10_topMovedTo_32
      · replace h := ifn cq h
        refine r_iload_n C dX10_topMovedTo_25 rfl hl 0 rfl ?_
        refine r_goto C 32 dX10_topMovedTo_26 (by decide) ?_
        exact r_ireturn C hMj19 hr hlk hv19 h rfl dX10_topMovedTo_32
    refine r_icmp_ge C 16 hx0 hx2 dX10_topMovedTo_9 (by decide) (fun cq => ?_) (fun cq => ?_)
    · replace h := ifp cq h
      refine r_iload_n C dX10_topMovedTo_16 rfl hl 0 rfl ?_
      refine r_iconst C dX10_topMovedTo_17 ?_
      replace h := ck_some h
      obtain ⟨hc2, h⟩ := h
      refine r_isub C dX10_topMovedTo_18 ?_
      exact hJ19 _ hc2 _ _ _ h hM0 (lv_sub hl [1] rfl)
    · replace h := ifn cq h
      refine r_iload_n C dX10_topMovedTo_12 rfl hl 0 rfl ?_
      refine r_goto C 19 dX10_topMovedTo_13 (by decide) ?_
      exact hJ19 _ hx0 _ _ _ h hM0 (lv_sub hl [1] rfl)
  · replace h := ifp cq h
    refine r_iload_n C dX10_topMovedTo_5 rfl hl 1 rfl ?_
    exact r_ireturn C hM0 hr hlk hx1 h rfl dX10_topMovedTo_6
set_option maxRecDepth 100000 in
set_option maxHeartbeats 4000000 in
theorem c_X10_move (l : Launch) (E : jE) (z : Nat) {x1 : Int} {x2 : Int} {M M' : Mem} {r : Int} (hx1 : inR x1) (hx2 : inR x2) (h : f_X10_move x1 x2 M = some (r, M')) : CtI l yX10_move cX10_move 5 (some .int) { frames := 27, cells := 0, slots := 0, locals := 823 } E z LyC [.ref (z + 0), .int (jI x1), .int (jI x2)] M r M' := by
  refine jm (by decide +kernel) (Nat.le_of_ble_eq_true rfl) ?_
  intro p e sM m below meth c C hM0 hr hlk ls hl
  replace hl : lv_has ls 5 [(0, .ref (z + 0)), (1, .int (jI x1)), (2, .int (jI x2))] := hl
  unfold f_X10_move at h
  refine r_aload_n C dX10_move_0 rfl hl 0 rfl ?_
  refine r_getR C hM0 jc10 2 5 dX10_move_1 lk_X10_26 lc_0.1 lc_0.2 rfl rfl (by decide) rfl ?_
  refine r_getR C hM0 jc7 2 22 dX10_move_4 lk_X10_111 lc_5.1 lc_5.2 rfl rfl (by decide) rfl ?_
  replace h := bd_some h
  obtain ⟨r7, hf7, h⟩ := h
  refine r_callI (As := []) (rest := []) C hM0 (c_X2_topCount l E z (show isSt 5 by decide) hf7) jy_X2_topCount lk_X10_152 dX10_move_7 (recvW C hM0 jc2 lc_22.1 lc_22.2 rfl) rfl rfl hl.1 (Nat.le_of_ble_eq_true rfl) ⟨Nat.le_of_ble_eq_true rfl, Nat.le_of_ble_eq_true rfl⟩ ⟨rfl, rfl⟩ ⟨Nat.zero_le _, Nat.zero_le _⟩ (fun H locs hr7 hM1 => ?_)
  refine r_istore_n C [(3, .int (jI r7)), (0, .ref (z + 0)), (1, .int (jI x1)), (2, .int (jI x2))] dX10_move_10 rfl hl (by decide) rfl (fun ls hl => ?_)
  refine r_iload_n C dX10_move_11 rfl hl 2 rfl ?_
  refine r_iload_n C dX10_move_12 rfl hl 0 rfl ?_
  replace h := bd_some h
  obtain ⟨_, hf13, h⟩ := h
  refine r_callSV (As := [.int (jI x1), .int (jI r7)]) (rest := []) C hM1 (c_X10_requireIndex l E z hx1 hr7 hf13) jy_X10_requireIndex lk_X10_172 dX10_move_13 rfl rfl hl.1 (Nat.le_of_ble_eq_true rfl) ⟨Nat.le_of_ble_eq_true rfl, Nat.le_of_ble_eq_true rfl⟩ ⟨rfl, rfl⟩ ⟨Nat.zero_le _, Nat.zero_le _⟩ (fun H locs hM2 => ?_)
  refine r_iload_n C dX10_move_16 rfl hl 3 rfl ?_
  refine r_iload_n C dX10_move_17 rfl hl 0 rfl ?_
  replace h := bd_some h
  obtain ⟨_, hf18, h⟩ := h
  refine r_callSV (As := [.int (jI x2), .int (jI r7)]) (rest := []) C hM2 (c_X10_requireIndex l E z hx2 hr7 hf18) jy_X10_requireIndex lk_X10_172 dX10_move_18 rfl rfl hl.1 (Nat.le_of_ble_eq_true rfl) ⟨Nat.le_of_ble_eq_true rfl, Nat.le_of_ble_eq_true rfl⟩ ⟨rfl, rfl⟩ ⟨Nat.zero_le _, Nat.zero_le _⟩ (fun H locs hM3 => ?_)
  refine r_aload_n C dX10_move_21 rfl hl 1 rfl ?_
  refine r_getR C hM3 jc10 3 29 dX10_move_22 lk_X10_30 lc_0.1 lc_0.2 rfl rfl (by decide) rfl ?_
  refine r_getR C hM3 jc7 2 46 dX10_move_25 lk_X10_111 lc_29.1 lc_29.2 rfl rfl (by decide) rfl ?_
  replace h := bd_some h
  obtain ⟨M28, hf28, h⟩ := h
  refine r_callV (As := []) (rest := []) C hM3 (c_X2_clear l E z (show isSt 29 by decide) hf28) jy_X2_clear lk_X10_115 dX10_move_28 (recvW C hM3 jc2 lc_46.1 lc_46.2 rfl) rfl rfl hl.1 (Nat.le_of_ble_eq_true rfl) ⟨Nat.le_of_ble_eq_true rfl, Nat.le_of_ble_eq_true rfl⟩ ⟨rfl, rfl⟩ ⟨Nat.zero_le _, Nat.zero_le _⟩ (fun H locs hM4 => ?_)
  refine r_iconst C dX10_move_31 ?_
  refine r_istore C [(4, .int (jI 0)), (3, .int (jI r7)), (0, .ref (z + 0)), (1, .int (jI x1)), (2, .int (jI x2))] dX10_move_32 hl (by decide) rfl (fun ls hl => ?_)
  obtain ⟨y3, ey3⟩ : ∃ y : Int, y = r7 := ⟨_, rfl⟩
  have hy3 : inR y3 := by rw [ey3]; exact hr7
  have hL34 : ∀ n34 : Nat, ∀ (x4 : Int) (M : Mem), inR x4 → ∀ (H : Heap) (locs : List Loc) (ls : Array Slot), f_X10_move_L34 x1 x2 y3 n34  x4 M = some (r, M') → HS E z LyC M sM H locs → lv_has ls 5 [(0, .ref (z + 0)), (1, .int (jI x1)), (2, .int (jI x2)), (3, .int (jI y3)), (4, .int (jI x4))] → W p l e ({ frames := 27, cells := 0, slots := 0, locals := 823 } : Room) sM m (([.ref (z + 0), .int (jI x1), .int (jI x2)] : List Value).toArray) below meth c H locs 0 0 (MQ below (va_Qi (fun (w : Int32) (_ : Unit) => w = jI r ∧ inR r ∧ Mok LyC M') (fun _ t => va_P (eD E) vwCl (Wd (eC E) z LyC M') t.heap) (eA E)) (([.ref (z + 0), .int (jI x1), .int (jI x2)] : List Value).toArray) sM 0 0 (eA E)) (F0 m 34 ls []) := by
    intro n34
    induction n34 with
    | zero =>
      intro x4 M hx4 H locs ls h hM hl
      exact absurd h (by simp [f_X10_move_L34])
    | succ n34 ih34 =>
      intro x4 M hx4 H locs ls h hM hl
      rw [f_X10_move_L34] at h
      refine r_iload C dX10_move_34 hl 4 rfl ?_
      refine r_iload_n C dX10_move_36 rfl hl 3 rfl ?_
      refine r_icmp_ge C 70 hx4 hy3 dX10_move_37 (by decide) (fun cq => ?_) (fun cq => ?_)
      · replace h := ifp cq h
        refine r_aload_n C dX10_move_70 rfl hl 0 rfl ?_
        replace h := bd_some h
        obtain ⟨⟨r71, M71⟩, hf71, h⟩ := h
        try dsimp only at h
        refine r_callI (As := []) (rest := []) C hM (c_X10_takeDraftItems l E z hf71) jy_X10_takeDraftItems lk_X10_333 dX10_move_71 (recvW C hM jc10 lc_0.1 lc_0.2 rfl) rfl rfl hl.1 (Nat.le_of_ble_eq_true rfl) ⟨Nat.le_of_ble_eq_true rfl, Nat.le_of_ble_eq_true rfl⟩ ⟨rfl, rfl⟩ ⟨Nat.zero_le _, Nat.zero_le _⟩ (fun H locs hr71 hM5 => ?_)
        exact r_ireturnM C hM5 hr hlk hr71 h dX10_move_74
      · replace h := ifn cq h
        refine r_aload_n C dX10_move_40 rfl hl 0 rfl ?_
        refine r_getR C hM jc10 3 29 dX10_move_41 lk_X10_30 lc_0.1 lc_0.2 rfl rfl (by decide) rfl ?_
        refine r_getR C hM jc7 2 46 dX10_move_44 lk_X10_111 lc_29.1 lc_29.2 rfl rfl (by decide) rfl ?_
        refine r_aload_n C dX10_move_47 rfl hl 0 rfl ?_
        refine r_getR C hM jc10 2 5 dX10_move_48 lk_X10_26 lc_0.1 lc_0.2 rfl rfl (by decide) rfl ?_
        refine r_getR C hM jc7 2 22 dX10_move_51 lk_X10_111 lc_5.1 lc_5.2 rfl rfl (by decide) rfl ?_
        refine r_iload C dX10_move_54 hl 4 rfl ?_
        refine r_iload_n C dX10_move_56 rfl hl 1 rfl ?_
        refine r_iload_n C dX10_move_57 rfl hl 2 rfl ?_
        replace h := bd_some h
        obtain ⟨r58, hf58, h⟩ := h
        refine r_callSI (As := [.int (jI x4), .int (jI x1), .int (jI x2)]) (rest := [.ref (z + 22), .ref (z + 46)]) C hM (c_X10_topMovedTo l E z hx4 hx1 hx2 hf58) jy_X10_topMovedTo lk_X10_344 dX10_move_58 rfl rfl hl.1 (Nat.le_of_ble_eq_true rfl) ⟨Nat.le_of_ble_eq_true rfl, Nat.le_of_ble_eq_true rfl⟩ ⟨rfl, rfl⟩ ⟨Nat.zero_le _, Nat.zero_le _⟩ (fun H locs hr58 hM6 => ?_)
        replace h := bd_some h
        obtain ⟨M61, hf61, h⟩ := h
        refine r_callV (As := [.ref (z + 22), .int (jI r58)]) (rest := []) C hM6 (c_X2_addTop l E z (show isSt 29 by decide) (show isSt 5 by decide) hr58 hf61) jy_X2_addTop lk_X10_329 dX10_move_61 (recvW C hM6 jc2 lc_46.1 lc_46.2 rfl) rfl rfl hl.1 (Nat.le_of_ble_eq_true rfl) ⟨Nat.le_of_ble_eq_true rfl, Nat.le_of_ble_eq_true rfl⟩ ⟨rfl, rfl⟩ ⟨Nat.zero_le _, Nat.zero_le _⟩ (fun H locs hM7 => ?_)
        replace h := ck_some h
        obtain ⟨hc8, h⟩ := h
        refine r_iinc (j := 4) (x := x4) C [(4, .int (jI (x4 + 1))), (0, .ref (z + 0)), (1, .int (jI x1)), (2, .int (jI x2)), (3, .int (jI y3))] dX10_move_64 hl rfl (by decide) rfl (fun ls hl => ?_)
        refine r_goto C 34 dX10_move_67 (by decide) ?_
        exact ih34 _ _ hc8 _ _ _ h hM7 (lv_sub hl [1, 2, 3, 4, 0] rfl)
  rw [← ey3] at h
  have hl := lv_sub (l' := [(0, .ref (z + 0)), (1, .int (jI x1)), (2, .int (jI x2)), (3, .int (jI y3)), (4, .int (jI 0))]) hl [2, 3, 4, 1, 0] (by rw [ey3]; rfl)
  exact hL34 jFuel _ _ ⟨by decide, by decide⟩ _ _ _ h hM4 hl
set_option maxRecDepth 100000 in
set_option maxHeartbeats 4000000 in
theorem c_X10_requireSetting (l : Launch) (E : jE) (z : Nat) {x0 : Int} {x1 : Int} {M : Mem} (hx0 : inR x0) (hx1 : inR x1) (h : f_X10_requireSetting x0 x1 M = some ()) : CtV l yX10_requireSetting cX10_requireSetting 2 none { frames := 1, cells := 0, slots := 0, locals := 22 } E z LyC [.int (jI x0), .int (jI x1)] M M := by
  refine jm (by decide +kernel) (Nat.le_of_ble_eq_true rfl) ?_
  intro p e sM m below meth c C hM0 hr hlk ls hl
  replace hl : lv_has ls 2 [(0, .int (jI x0)), (1, .int (jI x1))] := hl
  unfold f_X10_requireSetting at h
  refine r_iload_n C dX10_requireSetting_0 rfl hl 0 rfl ?_
  refine r_if_lt C 9 hx0 dX10_requireSetting_1 (by decide) (fun cq => ?_) (fun cq => ?_)
  · replace h := ifp cq h
    exact r_return C hM0 hr hlk rfl dX10_requireSetting_9
  · replace h := ifn cq h
    refine r_iload_n C dX10_requireSetting_4 rfl hl 0 rfl ?_
    refine r_iconst C dX10_requireSetting_5 ?_
    refine r_icmp_lt C 10 hx0 ⟨by decide, by decide⟩ dX10_requireSetting_6 (by decide) (fun cq => ?_) (fun cq => ?_)
    · replace h := ifp cq h
      refine r_iload_n C dX10_requireSetting_10 rfl hl 1 rfl ?_
      refine r_gets C hM0 1 (by decide) rfl lk_X10_381 dX10_requireSetting_11 ?_
      refine r_iload_n C dX10_requireSetting_14 rfl hl 0 rfl ?_
      replace h := ck_some h
      obtain ⟨hc1, h⟩ := h
      refine r_tald C hM0 1 (by decide) hc1 hx0 dX10_requireSetting_15 ?_
      refine r_gets C hM0 2 (by decide) rfl lk_X10_384 dX10_requireSetting_16 ?_
      refine r_iload_n C dX10_requireSetting_19 rfl hl 0 rfl ?_
      refine r_tald C hM0 2 (by decide) hc1 hx0 dX10_requireSetting_20 ?_
      replace h := bd_some h
      obtain ⟨_, hf21, h⟩ := h
      refine r_callSV (As := [.int (jI x1), .int (jI ((jTab 1).getD x0.toNat 0)), .int (jI ((jTab 2).getD x0.toNat 0))]) (rest := []) C hM0 (c_X10_requireRange l E z hx1 (jTab_R _ _) (jTab_R _ _) hf21) jy_X10_requireRange lk_X10_97 dX10_requireSetting_21 rfl rfl hl.1 (Nat.le_of_ble_eq_true rfl) ⟨Nat.le_of_ble_eq_true rfl, Nat.le_of_ble_eq_true rfl⟩ ⟨rfl, rfl⟩ ⟨Nat.zero_le _, Nat.zero_le _⟩ (fun H locs hM2 => ?_)
      exact r_return C hM2 hr hlk rfl dX10_requireSetting_24
    · replace h := ifn cq h
      exact r_return C hM0 hr hlk rfl dX10_requireSetting_9
set_option maxRecDepth 100000 in
set_option maxHeartbeats 4000000 in
theorem c_X10_setWeek (l : Launch) (E : jE) (z : Nat) {x1 : Int} {M M' : Mem} {r : Int} (hx1 : inR x1) (h : f_X10_setWeek x1 M = some (r, M')) : CtI l yX10_setWeek cX10_setWeek 2 (some .int) { frames := 27, cells := 0, slots := 0, locals := 823 } E z LyC [.ref (z + 0), .int (jI x1)] M r M' := by
  refine jm (by decide +kernel) (Nat.le_of_ble_eq_true rfl) ?_
  intro p e sM m below meth c C hM0 hr hlk ls hl
  replace hl : lv_has ls 2 [(0, .ref (z + 0)), (1, .int (jI x1))] := hl
  unfold f_X10_setWeek at h
  refine r_iconst C dX10_setWeek_0 ?_
  refine r_iload_n C dX10_setWeek_1 rfl hl 1 rfl ?_
  replace h := bd_some h
  obtain ⟨_, hf2, h⟩ := h
  refine r_callSV (As := [.int (jI 0), .int (jI x1)]) (rest := []) C hM0 (c_X10_requireSetting l E z ⟨by decide, by decide⟩ hx1 hf2) jy_X10_requireSetting lk_X10_348 dX10_setWeek_2 rfl rfl hl.1 (Nat.le_of_ble_eq_true rfl) ⟨Nat.le_of_ble_eq_true rfl, Nat.le_of_ble_eq_true rfl⟩ ⟨rfl, rfl⟩ ⟨Nat.zero_le _, Nat.zero_le _⟩ (fun H locs hM1 => ?_)
  refine r_aload_n C dX10_setWeek_5 rfl hl 0 rfl ?_
  replace h := bd_some h
  obtain ⟨M6, hf6, h⟩ := h
  refine r_callV (As := []) (rest := []) C hM1 (c_X10_remember l E z hf6) jy_X10_remember lk_X10_312 dX10_setWeek_6 (recvW C hM1 jc10 lc_0.1 lc_0.2 rfl) rfl rfl hl.1 (Nat.le_of_ble_eq_true rfl) ⟨Nat.le_of_ble_eq_true rfl, Nat.le_of_ble_eq_true rfl⟩ ⟨rfl, rfl⟩ ⟨Nat.zero_le _, Nat.zero_le _⟩ (fun H locs hM2 => ?_)
  refine r_aload_n C dX10_setWeek_9 rfl hl 0 rfl ?_
  refine r_getR C hM2 jc10 2 5 dX10_setWeek_10 lk_X10_26 lc_0.1 lc_0.2 rfl rfl (by decide) rfl ?_
  refine r_getR C hM2 jc7 0 6 dX10_setWeek_13 lk_X10_101 lc_5.1 lc_5.2 rfl rfl (by decide) rfl ?_
  refine r_iconst C dX10_setWeek_16 ?_
  refine r_iload_n C dX10_setWeek_17 rfl hl 1 rfl ?_
  replace h := bd_some h
  obtain ⟨M18, hf18, h⟩ := h
  refine r_callV (As := [.int (jI 0), .int (jI x1)]) (rest := []) C hM2 (c_X3_set l E z (show isSt 5 by decide) ⟨by decide, by decide⟩ hx1 hf18) jy_X3_set lk_X10_351 dX10_setWeek_18 (recvW C hM2 jc3 lc_6.1 lc_6.2 rfl) rfl rfl hl.1 (Nat.le_of_ble_eq_true rfl) ⟨Nat.le_of_ble_eq_true rfl, Nat.le_of_ble_eq_true rfl⟩ ⟨rfl, rfl⟩ ⟨Nat.zero_le _, Nat.zero_le _⟩ (fun H locs hM3 => ?_)
  refine r_aload_n C dX10_setWeek_21 rfl hl 0 rfl ?_
  replace h := bd_some h
  obtain ⟨M22, hf22, h⟩ := h
  refine r_callV (As := []) (rest := []) C hM3 (c_X10_settle l E z hf22) jy_X10_settle lk_X10_134 dX10_setWeek_22 (recvW C hM3 jc10 lc_0.1 lc_0.2 rfl) rfl rfl hl.1 (Nat.le_of_ble_eq_true rfl) ⟨Nat.le_of_ble_eq_true rfl, Nat.le_of_ble_eq_true rfl⟩ ⟨rfl, rfl⟩ ⟨Nat.zero_le _, Nat.zero_le _⟩ (fun H locs hM4 => ?_)
  refine r_aload_n C dX10_setWeek_25 rfl hl 0 rfl ?_
  refine r_getR C hM4 jc10 2 5 dX10_setWeek_26 lk_X10_26 lc_0.1 lc_0.2 rfl rfl (by decide) rfl ?_
  refine r_getR C hM4 jc7 0 6 dX10_setWeek_29 lk_X10_101 lc_5.1 lc_5.2 rfl rfl (by decide) rfl ?_
  refine r_getI C hM4 jc3 0 rfl dX10_setWeek_32 lk_X10_137 lc_6.1 lc_6.2 rfl rfl (by decide) rfl ?_
  refine r_aload_n C dX10_setWeek_35 rfl hl 0 rfl ?_
  refine r_getR C hM4 jc10 2 5 dX10_setWeek_36 lk_X10_26 lc_0.1 lc_0.2 rfl rfl (by decide) rfl ?_
  refine r_getR C hM4 jc7 0 6 dX10_setWeek_39 lk_X10_101 lc_5.1 lc_5.2 rfl rfl (by decide) rfl ?_
  refine r_iload_n C dX10_setWeek_42 rfl hl 1 rfl ?_
  replace h := bd_some h
  obtain ⟨r43, hf43, h⟩ := h
  refine r_callI (As := [.int (jI x1)]) (rest := [.int (jI (M22 6 0))]) C hM4 (c_X3_allowedShots l E z (show isSt 5 by decide) hx1 hf43) jy_X3_allowedShots lk_X10_297 dX10_setWeek_43 (recvW C hM4 jc3 lc_6.1 lc_6.2 rfl) rfl rfl hl.1 (Nat.le_of_ble_eq_true rfl) ⟨Nat.le_of_ble_eq_true rfl, Nat.le_of_ble_eq_true rfl⟩ ⟨rfl, rfl⟩ ⟨Nat.zero_le _, Nat.zero_le _⟩ (fun H locs hr43 hM5 => ?_)
  replace h := bd_some h
  obtain ⟨r46, hf46, h⟩ := h
  refine r_callSI (As := [.int (jI r43)]) (rest := [.int (jI (M22 6 0))]) C hM5 (c_J6_bitCount_0f7a4 l E z hr43 hf46) jy_J6_bitCount_0f7a4 lk_X10_353 dX10_setWeek_46 rfl rfl hl.1 (Nat.le_of_ble_eq_true rfl) ⟨Nat.le_of_ble_eq_true rfl, Nat.le_of_ble_eq_true rfl⟩ ⟨rfl, rfl⟩ ⟨Nat.zero_le _, Nat.zero_le _⟩ (fun H locs hr46 hM6 => ?_)
  replace h := ck_some h
  obtain ⟨hc7, h⟩ := h
  refine r_isub C dX10_setWeek_49 ?_
  exact r_ireturnM C hM6 hr hlk hc7 h dX10_setWeek_50
set_option maxRecDepth 100000 in
set_option maxHeartbeats 4000000 in
theorem c_X10_setVoice (l : Launch) (E : jE) (z : Nat) {x1 : Int} {x2 : Int} {M M' : Mem} {r : Int} (hx1 : inR x1) (hx2 : inR x2) (h : f_X10_setVoice x1 x2 M = some (r, M')) : CtI l yX10_setVoice cX10_setVoice 3 (some .int) { frames := 27, cells := 0, slots := 0, locals := 823 } E z LyC [.ref (z + 0), .int (jI x1), .int (jI x2)] M r M' := by
  refine jm (by decide +kernel) (Nat.le_of_ble_eq_true rfl) ?_
  intro p e sM m below meth c C hM0 hr hlk ls hl
  replace hl : lv_has ls 3 [(0, .ref (z + 0)), (1, .int (jI x1)), (2, .int (jI x2))] := hl
  unfold f_X10_setVoice at h
  refine r_iconst C dX10_setVoice_0 ?_
  refine r_iload_n C dX10_setVoice_1 rfl hl 1 rfl ?_
  replace h := bd_some h
  obtain ⟨_, hf2, h⟩ := h
  refine r_callSV (As := [.int (jI 1), .int (jI x1)]) (rest := []) C hM0 (c_X10_requireSetting l E z ⟨by decide, by decide⟩ hx1 hf2) jy_X10_requireSetting lk_X10_348 dX10_setVoice_2 rfl rfl hl.1 (Nat.le_of_ble_eq_true rfl) ⟨Nat.le_of_ble_eq_true rfl, Nat.le_of_ble_eq_true rfl⟩ ⟨rfl, rfl⟩ ⟨Nat.zero_le _, Nat.zero_le _⟩ (fun H locs hM1 => ?_)
  refine r_iconst C dX10_setVoice_5 ?_
  refine r_iload_n C dX10_setVoice_6 rfl hl 2 rfl ?_
  replace h := bd_some h
  obtain ⟨_, hf7, h⟩ := h
  refine r_callSV (As := [.int (jI 2), .int (jI x2)]) (rest := []) C hM1 (c_X10_requireSetting l E z ⟨by decide, by decide⟩ hx2 hf7) jy_X10_requireSetting lk_X10_348 dX10_setVoice_7 rfl rfl hl.1 (Nat.le_of_ble_eq_true rfl) ⟨Nat.le_of_ble_eq_true rfl, Nat.le_of_ble_eq_true rfl⟩ ⟨rfl, rfl⟩ ⟨Nat.zero_le _, Nat.zero_le _⟩ (fun H locs hM2 => ?_)
  refine r_aload_n C dX10_setVoice_10 rfl hl 0 rfl ?_
  replace h := bd_some h
  obtain ⟨M11, hf11, h⟩ := h
  refine r_callV (As := []) (rest := []) C hM2 (c_X10_remember l E z hf11) jy_X10_remember lk_X10_312 dX10_setVoice_11 (recvW C hM2 jc10 lc_0.1 lc_0.2 rfl) rfl rfl hl.1 (Nat.le_of_ble_eq_true rfl) ⟨Nat.le_of_ble_eq_true rfl, Nat.le_of_ble_eq_true rfl⟩ ⟨rfl, rfl⟩ ⟨Nat.zero_le _, Nat.zero_le _⟩ (fun H locs hM3 => ?_)
  refine r_aload_n C dX10_setVoice_14 rfl hl 0 rfl ?_
  refine r_getR C hM3 jc10 2 5 dX10_setVoice_15 lk_X10_26 lc_0.1 lc_0.2 rfl rfl (by decide) rfl ?_
  refine r_getR C hM3 jc7 0 6 dX10_setVoice_18 lk_X10_101 lc_5.1 lc_5.2 rfl rfl (by decide) rfl ?_
  refine r_iconst C dX10_setVoice_21 ?_
  refine r_iload_n C dX10_setVoice_22 rfl hl 1 rfl ?_
  replace h := bd_some h
  obtain ⟨M23, hf23, h⟩ := h
  refine r_callV (As := [.int (jI 1), .int (jI x1)]) (rest := []) C hM3 (c_X3_set l E z (show isSt 5 by decide) ⟨by decide, by decide⟩ hx1 hf23) jy_X3_set lk_X10_351 dX10_setVoice_23 (recvW C hM3 jc3 lc_6.1 lc_6.2 rfl) rfl rfl hl.1 (Nat.le_of_ble_eq_true rfl) ⟨Nat.le_of_ble_eq_true rfl, Nat.le_of_ble_eq_true rfl⟩ ⟨rfl, rfl⟩ ⟨Nat.zero_le _, Nat.zero_le _⟩ (fun H locs hM4 => ?_)
  refine r_aload_n C dX10_setVoice_26 rfl hl 0 rfl ?_
  refine r_getR C hM4 jc10 2 5 dX10_setVoice_27 lk_X10_26 lc_0.1 lc_0.2 rfl rfl (by decide) rfl ?_
  refine r_getR C hM4 jc7 0 6 dX10_setVoice_30 lk_X10_101 lc_5.1 lc_5.2 rfl rfl (by decide) rfl ?_
  refine r_iconst C dX10_setVoice_33 ?_
  refine r_iload_n C dX10_setVoice_34 rfl hl 2 rfl ?_
  replace h := bd_some h
  obtain ⟨M35, hf35, h⟩ := h
  refine r_callV (As := [.int (jI 2), .int (jI x2)]) (rest := []) C hM4 (c_X3_set l E z (show isSt 5 by decide) ⟨by decide, by decide⟩ hx2 hf35) jy_X3_set lk_X10_351 dX10_setVoice_35 (recvW C hM4 jc3 lc_6.1 lc_6.2 rfl) rfl rfl hl.1 (Nat.le_of_ble_eq_true rfl) ⟨Nat.le_of_ble_eq_true rfl, Nat.le_of_ble_eq_true rfl⟩ ⟨rfl, rfl⟩ ⟨Nat.zero_le _, Nat.zero_le _⟩ (fun H locs hM5 => ?_)
  refine r_aload_n C dX10_setVoice_38 rfl hl 0 rfl ?_
  replace h := bd_some h
  obtain ⟨M39, hf39, h⟩ := h
  refine r_callV (As := []) (rest := []) C hM5 (c_X10_settle l E z hf39) jy_X10_settle lk_X10_134 dX10_setVoice_39 (recvW C hM5 jc10 lc_0.1 lc_0.2 rfl) rfl rfl hl.1 (Nat.le_of_ble_eq_true rfl) ⟨Nat.le_of_ble_eq_true rfl, Nat.le_of_ble_eq_true rfl⟩ ⟨rfl, rfl⟩ ⟨Nat.zero_le _, Nat.zero_le _⟩ (fun H locs hM6 => ?_)
  refine r_aload_n C dX10_setVoice_42 rfl hl 0 rfl ?_
  refine r_getR C hM6 jc10 10 64 dX10_setVoice_43 lk_X10_61 lc_0.1 lc_0.2 rfl rfl (by decide) rfl ?_
  refine r_getI C hM6 jc6 1 rfl dX10_setVoice_46 lk_X10_253 lc_64.1 lc_64.2 rfl rfl (by decide) rfl ?_
  exact r_ireturnM C hM6 hr hlk (hM6.ok _ _) h dX10_setVoice_49
set_option maxRecDepth 100000 in
set_option maxHeartbeats 4000000 in
theorem c_X10_setSlack (l : Launch) (E : jE) (z : Nat) {x1 : Int} {M M' : Mem} {r : Int} (hx1 : inR x1) (h : f_X10_setSlack x1 M = some (r, M')) : CtI l yX10_setSlack cX10_setSlack 3 (some .int) { frames := 27, cells := 0, slots := 0, locals := 823 } E z LyC [.ref (z + 0), .int (jI x1)] M r M' := by
  refine jm (by decide +kernel) (Nat.le_of_ble_eq_true rfl) ?_
  intro p e sM m below meth c C hM0 hr hlk ls hl
  replace hl : lv_has ls 3 [(0, .ref (z + 0)), (1, .int (jI x1))] := hl
  unfold f_X10_setSlack at h
  refine r_iconst C dX10_setSlack_0 ?_
  refine r_iload_n C dX10_setSlack_1 rfl hl 1 rfl ?_
  replace h := bd_some h
  obtain ⟨_, hf2, h⟩ := h
  refine r_callSV (As := [.int (jI 4), .int (jI x1)]) (rest := []) C hM0 (c_X10_requireSetting l E z ⟨by decide, by decide⟩ hx1 hf2) jy_X10_requireSetting lk_X10_348 dX10_setSlack_2 rfl rfl hl.1 (Nat.le_of_ble_eq_true rfl) ⟨Nat.le_of_ble_eq_true rfl, Nat.le_of_ble_eq_true rfl⟩ ⟨rfl, rfl⟩ ⟨Nat.zero_le _, Nat.zero_le _⟩ (fun H locs hM1 => ?_)
  refine r_aload_n C dX10_setSlack_5 rfl hl 0 rfl ?_
  refine r_getR C hM1 jc10 2 5 dX10_setSlack_6 lk_X10_26 lc_0.1 lc_0.2 rfl rfl (by decide) rfl ?_
  refine r_getR C hM1 jc7 0 6 dX10_setSlack_9 lk_X10_101 lc_5.1 lc_5.2 rfl rfl (by decide) rfl ?_
  refine r_iconst C dX10_setSlack_12 ?_
  replace h := bd_some h
  obtain ⟨r13, hf13, h⟩ := h
  refine r_callI (As := [.int (jI 4)]) (rest := []) C hM1 (c_X3_setting l E z (show isSt 5 by decide) ⟨by decide, by decide⟩ hf13) jy_X3_setting lk_X10_168 dX10_setSlack_13 (recvW C hM1 jc3 lc_6.1 lc_6.2 rfl) rfl rfl hl.1 (Nat.le_of_ble_eq_true rfl) ⟨Nat.le_of_ble_eq_true rfl, Nat.le_of_ble_eq_true rfl⟩ ⟨rfl, rfl⟩ ⟨Nat.zero_le _, Nat.zero_le _⟩ (fun H locs hr13 hM2 => ?_)
  refine r_istore_n C [(2, .int (jI r13)), (0, .ref (z + 0)), (1, .int (jI x1))] dX10_setSlack_16 rfl hl (by decide) rfl (fun ls hl => ?_)
  refine r_aload_n C dX10_setSlack_17 rfl hl 1 rfl ?_
  replace h := bd_some h
  obtain ⟨M18, hf18, h⟩ := h
  refine r_callV (As := []) (rest := []) C hM2 (c_X10_remember l E z hf18) jy_X10_remember lk_X10_312 dX10_setSlack_18 (recvW C hM2 jc10 lc_0.1 lc_0.2 rfl) rfl rfl hl.1 (Nat.le_of_ble_eq_true rfl) ⟨Nat.le_of_ble_eq_true rfl, Nat.le_of_ble_eq_true rfl⟩ ⟨rfl, rfl⟩ ⟨Nat.zero_le _, Nat.zero_le _⟩ (fun H locs hM3 => ?_)
  refine r_aload_n C dX10_setSlack_21 rfl hl 1 rfl ?_
  refine r_getR C hM3 jc10 2 5 dX10_setSlack_22 lk_X10_26 lc_0.1 lc_0.2 rfl rfl (by decide) rfl ?_
  refine r_getR C hM3 jc7 0 6 dX10_setSlack_25 lk_X10_101 lc_5.1 lc_5.2 rfl rfl (by decide) rfl ?_
  refine r_iconst C dX10_setSlack_28 ?_
  refine r_iload_n C dX10_setSlack_29 rfl hl 2 rfl ?_
  replace h := bd_some h
  obtain ⟨M30, hf30, h⟩ := h
  refine r_callV (As := [.int (jI 4), .int (jI x1)]) (rest := []) C hM3 (c_X3_set l E z (show isSt 5 by decide) ⟨by decide, by decide⟩ hx1 hf30) jy_X3_set lk_X10_351 dX10_setSlack_30 (recvW C hM3 jc3 lc_6.1 lc_6.2 rfl) rfl rfl hl.1 (Nat.le_of_ble_eq_true rfl) ⟨Nat.le_of_ble_eq_true rfl, Nat.le_of_ble_eq_true rfl⟩ ⟨rfl, rfl⟩ ⟨Nat.zero_le _, Nat.zero_le _⟩ (fun H locs hM4 => ?_)
  refine r_aload_n C dX10_setSlack_33 rfl hl 1 rfl ?_
  replace h := bd_some h
  obtain ⟨M34, hf34, h⟩ := h
  refine r_callV (As := []) (rest := []) C hM4 (c_X10_settle l E z hf34) jy_X10_settle lk_X10_134 dX10_setSlack_34 (recvW C hM4 jc10 lc_0.1 lc_0.2 rfl) rfl rfl hl.1 (Nat.le_of_ble_eq_true rfl) ⟨Nat.le_of_ble_eq_true rfl, Nat.le_of_ble_eq_true rfl⟩ ⟨rfl, rfl⟩ ⟨Nat.zero_le _, Nat.zero_le _⟩ (fun H locs hM5 => ?_)
  refine r_iload_n C dX10_setSlack_37 rfl hl 0 rfl ?_
  exact r_ireturnM C hM5 hr hlk hr13 h dX10_setSlack_38
set_option maxRecDepth 100000 in
set_option maxHeartbeats 4000000 in
theorem c_X10_writeReel (l : Launch) (E : jE) (z : Nat) {M M' : Mem} {r : Int} (h : f_X10_writeReel M = some (r, M')) : CtI l yX10_writeReel cX10_writeReel 1 (some .int) { frames := 9, cells := 0, slots := 0, locals := 369 } E z LyC [.ref (z + 0)] M r M' := by
  refine jm (by decide +kernel) (Nat.le_of_ble_eq_true rfl) ?_
  intro p e sM m below meth c C hM0 hr hlk ls hl
  replace hl : lv_has ls 1 [(0, .ref (z + 0))] := hl
  unfold f_X10_writeReel at h
  refine r_aload_n C dX10_writeReel_0 rfl hl 0 rfl ?_
  refine r_getR C hM0 jc10 1 3 dX10_writeReel_1 lk_X10_19 lc_0.1 lc_0.2 rfl rfl (by decide) rfl ?_
  refine r_aload_n C dX10_writeReel_4 rfl hl 0 rfl ?_
  refine r_getR C hM0 jc10 2 5 dX10_writeReel_5 lk_X10_26 lc_0.1 lc_0.2 rfl rfl (by decide) rfl ?_
  refine r_getR C hM0 jc7 2 22 dX10_writeReel_8 lk_X10_111 lc_5.1 lc_5.2 rfl rfl (by decide) rfl ?_
  refine r_aload_n C dX10_writeReel_11 rfl hl 0 rfl ?_
  refine r_getR C hM0 jc10 2 5 dX10_writeReel_12 lk_X10_26 lc_0.1 lc_0.2 rfl rfl (by decide) rfl ?_
  refine r_getR C hM0 jc7 0 6 dX10_writeReel_15 lk_X10_101 lc_5.1 lc_5.2 rfl rfl (by decide) rfl ?_
  replace h := bd_some h
  obtain ⟨M18, hf18, h⟩ := h
  refine r_callV (As := [.ref (z + 22), .ref (z + 6)]) (rest := []) C hM0 (c_X4_writeItems l E z (show isSt 5 by decide) (show isSt 5 by decide) hf18) jy_X4_writeItems lk_X10_358 dX10_writeReel_18 (recvW C hM0 jc4 lc_3.1 lc_3.2 rfl) rfl rfl hl.1 (Nat.le_of_ble_eq_true rfl) ⟨Nat.le_of_ble_eq_true rfl, Nat.le_of_ble_eq_true rfl⟩ ⟨rfl, rfl⟩ ⟨Nat.zero_le _, Nat.zero_le _⟩ (fun H locs hM1 => ?_)
  refine r_aload_n C dX10_writeReel_21 rfl hl 0 rfl ?_
  refine r_getR C hM1 jc10 1 3 dX10_writeReel_22 lk_X10_19 lc_0.1 lc_0.2 rfl rfl (by decide) rfl ?_
  refine r_getI C hM1 jc4 1 rfl dX10_writeReel_25 lk_X10_362 lc_3.1 lc_3.2 rfl rfl (by decide) rfl ?_
  exact r_ireturnM C hM1 hr hlk (hM1.ok _ _) h dX10_writeReel_28
set_option maxRecDepth 100000 in
set_option maxHeartbeats 4000000 in
theorem c_X10_writeVoice (l : Launch) (E : jE) (z : Nat) {M M' : Mem} {r : Int} (h : f_X10_writeVoice M = some (r, M')) : CtI l yX10_writeVoice cX10_writeVoice 1 (some .int) { frames := 2, cells := 0, slots := 0, locals := 45 } E z LyC [.ref (z + 0)] M r M' := by
  refine jm (by decide +kernel) (Nat.le_of_ble_eq_true rfl) ?_
  intro p e sM m below meth c C hM0 hr hlk ls hl
  replace hl : lv_has ls 1 [(0, .ref (z + 0))] := hl
  unfold f_X10_writeVoice at h
  refine r_aload_n C dX10_writeVoice_0 rfl hl 0 rfl ?_
  refine r_getR C hM0 jc10 1 3 dX10_writeVoice_1 lk_X10_19 lc_0.1 lc_0.2 rfl rfl (by decide) rfl ?_
  refine r_aload_n C dX10_writeVoice_4 rfl hl 0 rfl ?_
  refine r_getR C hM0 jc10 2 5 dX10_writeVoice_5 lk_X10_26 lc_0.1 lc_0.2 rfl rfl (by decide) rfl ?_
  refine r_getR C hM0 jc7 1 16 dX10_writeVoice_8 lk_X10_120 lc_5.1 lc_5.2 rfl rfl (by decide) rfl ?_
  replace h := bd_some h
  obtain ⟨M11, hf11, h⟩ := h
  refine r_callV (As := [.ref (z + 16)]) (rest := []) C hM0 (c_X4_writeWords l E z (show isSt 5 by decide) hf11) jy_X4_writeWords lk_X10_363 dX10_writeVoice_11 (recvW C hM0 jc4 lc_3.1 lc_3.2 rfl) rfl rfl hl.1 (Nat.le_of_ble_eq_true rfl) ⟨Nat.le_of_ble_eq_true rfl, Nat.le_of_ble_eq_true rfl⟩ ⟨rfl, rfl⟩ ⟨Nat.zero_le _, Nat.zero_le _⟩ (fun H locs hM1 => ?_)
  refine r_aload_n C dX10_writeVoice_14 rfl hl 0 rfl ?_
  refine r_getR C hM1 jc10 1 3 dX10_writeVoice_15 lk_X10_19 lc_0.1 lc_0.2 rfl rfl (by decide) rfl ?_
  refine r_getI C hM1 jc4 1 rfl dX10_writeVoice_18 lk_X10_362 lc_3.1 lc_3.2 rfl rfl (by decide) rfl ?_
  exact r_ireturnM C hM1 hr hlk (hM1.ok _ _) h dX10_writeVoice_21
set_option maxRecDepth 100000 in
set_option maxHeartbeats 4000000 in
theorem c_X10_output (l : Launch) (E : jE) (z : Nat) {x1 : Int} {M : Mem} {r : Int} (hx1 : inR x1) (h : f_X10_output x1 M = some r) : CtI l yX10_output cX10_output 2 (some .int) { frames := 1, cells := 0, slots := 0, locals := 21 } E z LyC [.ref (z + 0), .int (jI x1)] M r M := by
  refine jm (by decide +kernel) (Nat.le_of_ble_eq_true rfl) ?_
  intro p e sM m below meth c C hM0 hr hlk ls hl
  replace hl : lv_has ls 2 [(0, .ref (z + 0)), (1, .int (jI x1))] := hl
  unfold f_X10_output at h
  refine r_aload_n C dX10_output_0 rfl hl 0 rfl ?_
  refine r_getR C hM0 jc10 1 3 dX10_output_1 lk_X10_19 lc_0.1 lc_0.2 rfl rfl (by decide) rfl ?_
  refine r_iload_n C dX10_output_4 rfl hl 1 rfl ?_
  replace h := bd_some h
  obtain ⟨r5, hf5, h⟩ := h
  refine r_callI (As := [.int (jI x1)]) (rest := []) C hM0 (c_X4_byteAt l E z hx1 hf5) jy_X4_byteAt lk_X10_366 dX10_output_5 (recvW C hM0 jc4 lc_3.1 lc_3.2 rfl) rfl rfl hl.1 (Nat.le_of_ble_eq_true rfl) ⟨Nat.le_of_ble_eq_true rfl, Nat.le_of_ble_eq_true rfl⟩ ⟨rfl, rfl⟩ ⟨Nat.zero_le _, Nat.zero_le _⟩ (fun H locs hr5 hM1 => ?_)
  exact r_ireturn C hM1 hr hlk hr5 h rfl dX10_output_8
set_option maxRecDepth 100000 in
set_option maxHeartbeats 4000000 in
theorem c_X10_undo (l : Launch) (E : jE) (z : Nat) {M M' : Mem} {r : Int} (h : f_X10_undo M = some (r, M')) : CtI l yX10_undo cX10_undo 1 (some .int) { frames := 27, cells := 0, slots := 0, locals := 823 } E z LyC [.ref (z + 0)] M r M' := by
  refine jm (by decide +kernel) (Nat.le_of_ble_eq_true rfl) ?_
  intro p e sM m below meth c C hM0 hr hlk ls hl
  replace hl : lv_has ls 1 [(0, .ref (z + 0))] := hl
  unfold f_X10_undo at h
  refine r_aload_n C dX10_undo_0 rfl hl 0 rfl ?_
  refine r_getI C hM0 jc10 5 rfl dX10_undo_1 lk_X10_37 lc_0.1 lc_0.2 rfl rfl (by decide) rfl ?_
  refine r_if_ne C 9 (hM0.ok _ _) dX10_undo_4 (by decide) (fun cq => ?_) (fun cq => ?_)
  · replace h := ifn cq h
    refine r_aload_n C dX10_undo_9 rfl hl 0 rfl ?_
    refine r_aload_n C dX10_undo_10 rfl hl 0 rfl ?_
    refine r_getI C hM0 jc10 6 rfl dX10_undo_11 lk_X10_41 lc_0.1 lc_0.2 rfl rfl (by decide) rfl ?_
    replace h := jn_some h
    obtain ⟨k28, hk28, h⟩ := h
    have hJ28 : ∀ (v28 : Int), inR v28 → ∀ (H : Heap) (locs : List Loc) (ls : Array Slot), k28 v28 = some (r, M') → HS E z LyC M sM H locs → lv_has ls 1 [(0, .ref (z + 0))] → W p l e ({ frames := 27, cells := 0, slots := 0, locals := 823 } : Room) sM m (([.ref (z + 0)] : List Value).toArray) below meth c H locs 0 0 (MQ below (va_Qi (fun (w : Int32) (_ : Unit) => w = jI r ∧ inR r ∧ Mok LyC M') (fun _ t => va_P (eD E) vwCl (Wd (eC E) z LyC M') t.heap) (eA E)) (([.ref (z + 0)] : List Value).toArray) sM 0 0 (eA E)) (F0 m 28 ls [.int (jI v28), .ref (z + 0)]) := by
      intro v28 hv28 H locs ls h hMj28 hl
      subst hk28
      try dsimp only at h
      refine r_putI C hMj28 jc10 6 hv28 dX10_undo_28 lk_X10_41 lc_0.1 lc_0.2 rfl rfl (by decide) rfl rfl rfl (Nat.le_of_ble_eq_true rfl) (by decide) (fun H locs hM1 => ?_)
      replace h := lt_some h
      obtain ⟨N2, eN2, h⟩ := h
      rw [← eN2] at hM1
      refine r_aload_n C dX10_undo_31 rfl hl 0 rfl ?_
      refine r_dup C dX10_undo_32 rfl ?_
      refine r_getI C hM1 jc10 5 (rd_slot eN2 (by decide) rfl) dX10_undo_33 lk_X10_37 lc_0.1 lc_0.2 rfl rfl (by decide) rfl ?_
      refine r_iconst C dX10_undo_36 ?_
      replace h := ck_some h
      obtain ⟨hc3, h⟩ := h
      refine r_isub C dX10_undo_37 ?_
      refine r_putI C hM1 jc10 5 hc3 dX10_undo_38 lk_X10_37 lc_0.1 lc_0.2 rfl rfl (by decide) rfl rfl rfl (Nat.le_of_ble_eq_true rfl) (by decide) (fun H locs hM4 => ?_)
      replace h := lt_some h
      obtain ⟨N5, eN5, h⟩ := h
      rw [← eN5] at hM4
      refine r_aload_n C dX10_undo_41 rfl hl 0 rfl ?_
      refine r_getR C hM4 jc10 2 5 dX10_undo_42 lk_X10_26 lc_0.1 lc_0.2 rfl rfl (by decide) rfl ?_
      refine r_aload_n C dX10_undo_45 rfl hl 0 rfl ?_
      refine r_getR C hM4 jc10 4 53 dX10_undo_46 lk_X10_33 lc_0.1 lc_0.2 rfl rfl (by decide) rfl ?_
      refine r_aload_n C dX10_undo_49 rfl hl 0 rfl ?_
      refine r_getI C hM4 jc10 6 (rd_slot eN5 (by decide) (rd_hit eN2)) dX10_undo_50 lk_X10_41 lc_0.1 lc_0.2 rfl rfl (by decide) rfl ?_
      replace h := ck_some h
      obtain ⟨hc6, h⟩ := h
      refine r_aaldP C hM4 dX10_undo_53 lc_53.1 lc_53.2 hc6 hv28 ?_
      replace h := bd_some h
      obtain ⟨M54, hf54, h⟩ := h
      refine r_callV (As := [.ref (z + ((74 + v28.toNat * 24) + 0))]) (rest := []) C hM4 (c_X7_copyFrom l E z (show isSt 5 by decide) (st_past hc6) hf54) jy_X7_copyFrom lk_X10_127 dX10_undo_54 (recvW C hM4 jc7 lc_5.1 lc_5.2 rfl) rfl rfl hl.1 (Nat.le_of_ble_eq_true rfl) ⟨Nat.le_of_ble_eq_true rfl, Nat.le_of_ble_eq_true rfl⟩ ⟨rfl, rfl⟩ ⟨Nat.zero_le _, Nat.zero_le _⟩ (fun H locs hM7 => ?_)
      refine r_aload_n C dX10_undo_57 rfl hl 0 rfl ?_
      replace h := bd_some h
      obtain ⟨M58, hf58, h⟩ := h
      refine r_callV (As := []) (rest := []) C hM7 (c_X10_settle l E z hf58) jy_X10_settle lk_X10_134 dX10_undo_58 (recvW C hM7 jc10 lc_0.1 lc_0.2 rfl) rfl rfl hl.1 (Nat.le_of_ble_eq_true rfl) ⟨Nat.le_of_ble_eq_true rfl, Nat.le_of_ble_eq_true rfl⟩ ⟨rfl, rfl⟩ ⟨Nat.zero_le _, Nat.zero_le _⟩ (fun H locs hM8 => ?_)
      refine r_aload_n C dX10_undo_61 rfl hl 0 rfl ?_
      refine r_getI C hM8 jc10 5 rfl dX10_undo_62 lk_X10_37 lc_0.1 lc_0.2 rfl rfl (by decide) rfl ?_
      exact r_ireturnM C hM8 hr hlk (hM8.ok _ _) h dX10_undo_65
    refine r_if_ne C 22 (hM0.ok _ _) dX10_undo_14 (by decide) (fun cq => ?_) (fun cq => ?_)
    · replace h := ifn cq h
      refine r_aload_n C dX10_undo_22 rfl hl 0 rfl ?_
      refine r_getI C hM0 jc10 6 rfl dX10_undo_23 lk_X10_41 lc_0.1 lc_0.2 rfl rfl (by decide) rfl ?_
      refine r_iconst C dX10_undo_26 ?_
      replace h := ck_some h
      obtain ⟨hc9, h⟩ := h
      refine r_isub C dX10_undo_27 ?_
      exact hJ28 _ hc9 _ _ _ h hM0 (lv_sub hl [0] rfl)
    · replace h := ifp cq h
      refine r_bipush C dX10_undo_17 rfl ?_
      refine r_goto C 28 dX10_undo_19 (by decide) ?_
      exact hJ28 _ ⟨by decide, by decide⟩ _ _ _ h hM0 (lv_sub hl [0] rfl)
  · replace h := ifp cq h
    refine r_iconst C dX10_undo_7 ?_
    exact r_ireturnM C hM0 hr hlk ⟨by decide, by decide⟩ h dX10_undo_8
set_option maxRecDepth 100000 in
set_option maxHeartbeats 4000000 in
theorem c_X10_save (l : Launch) (E : jE) (z : Nat) {x1 : Int} {M M' : Mem} (hx1 : inR x1) (h : f_X10_save x1 M = some M') : CtV l yX10_save cX10_save 2 none { frames := 3, cells := 0, slots := 0, locals := 60 } E z LyC [.ref (z + 0), .int (jI x1)] M M' := by
  refine jm (by decide +kernel) (Nat.le_of_ble_eq_true rfl) ?_
  intro p e sM m below meth c C hM0 hr hlk ls hl
  replace hl : lv_has ls 2 [(0, .ref (z + 0)), (1, .int (jI x1))] := hl
  unfold f_X10_save at h
  refine r_iload_n C dX10_save_0 rfl hl 1 rfl ?_
  refine r_iconst C dX10_save_1 ?_
  refine r_iconst C dX10_save_2 ?_
  replace h := bd_some h
  obtain ⟨_, hf3, h⟩ := h
  refine r_callSV (As := [.int (jI x1), .int (jI 0), .int (jI 1)]) (rest := []) C hM0 (c_X10_requireRange l E z hx1 ⟨by decide, by decide⟩ ⟨by decide, by decide⟩ hf3) jy_X10_requireRange lk_X10_97 dX10_save_3 rfl rfl hl.1 (Nat.le_of_ble_eq_true rfl) ⟨Nat.le_of_ble_eq_true rfl, Nat.le_of_ble_eq_true rfl⟩ ⟨rfl, rfl⟩ ⟨Nat.zero_le _, Nat.zero_le _⟩ (fun H locs hM1 => ?_)
  refine r_aload_n C dX10_save_6 rfl hl 0 rfl ?_
  refine r_getR C hM1 jc10 7 54 dX10_save_7 lk_X10_44 lc_0.1 lc_0.2 rfl rfl (by decide) rfl ?_
  refine r_iload_n C dX10_save_10 rfl hl 1 rfl ?_
  replace h := ck_some h
  obtain ⟨hc2, h⟩ := h
  refine r_aaldS C hM1 dX10_save_11 lc_54.1 lc_54.2 hc2 hx1 ?_
  refine r_aload_n C dX10_save_12 rfl hl 0 rfl ?_
  refine r_getR C hM1 jc10 2 5 dX10_save_13 lk_X10_26 lc_0.1 lc_0.2 rfl rfl (by decide) rfl ?_
  replace h := bd_some h
  obtain ⟨M16, hf16, h⟩ := h
  refine r_callV (As := [.ref (z + 5)]) (rest := []) C hM1 (c_X7_copyFrom l E z (st_saved hc2) (show isSt 5 by decide) hf16) jy_X7_copyFrom lk_X10_127 dX10_save_16 (recvW C hM1 jc7 (ls_0 (st_saved hc2)).1 (ls_0 (st_saved hc2)).2 rfl) rfl rfl hl.1 (Nat.le_of_ble_eq_true rfl) ⟨Nat.le_of_ble_eq_true rfl, Nat.le_of_ble_eq_true rfl⟩ ⟨rfl, rfl⟩ ⟨Nat.zero_le _, Nat.zero_le _⟩ (fun H locs hM3 => ?_)
  refine r_aload_n C dX10_save_19 rfl hl 0 rfl ?_
  refine r_getR C hM3 jc10 8 55 dX10_save_20 lk_X10_47 lc_0.1 lc_0.2 rfl rfl (by decide) rfl ?_
  refine r_iload_n C dX10_save_23 rfl hl 1 rfl ?_
  refine r_iconst C dX10_save_24 ?_
  refine r_zast C hM3 dX10_save_25 lc_55.1 lc_55.2 hc2 hx1 (fun H locs hM4 => ?_)
  replace h := lt_some h
  obtain ⟨N5, eN5, h⟩ := h
  rw [← eN5] at hM4
  exact r_return C hM4 hr hlk h dX10_save_26
set_option maxRecDepth 100000 in
set_option maxHeartbeats 4000000 in
theorem c_X10_restore (l : Launch) (E : jE) (z : Nat) {x1 : Int} {M M' : Mem} (hx1 : inR x1) (h : f_X10_restore x1 M = some M') : CtV l yX10_restore cX10_restore 2 none { frames := 27, cells := 0, slots := 0, locals := 823 } E z LyC [.ref (z + 0), .int (jI x1)] M M' := by
  refine jm (by decide +kernel) (Nat.le_of_ble_eq_true rfl) ?_
  intro p e sM m below meth c C hM0 hr hlk ls hl
  replace hl : lv_has ls 2 [(0, .ref (z + 0)), (1, .int (jI x1))] := hl
  unfold f_X10_restore at h
  refine r_iload_n C dX10_restore_0 rfl hl 1 rfl ?_
  refine r_iconst C dX10_restore_1 ?_
  refine r_iconst C dX10_restore_2 ?_
  replace h := bd_some h
  obtain ⟨_, hf3, h⟩ := h
  refine r_callSV (As := [.int (jI x1), .int (jI 0), .int (jI 1)]) (rest := []) C hM0 (c_X10_requireRange l E z hx1 ⟨by decide, by decide⟩ ⟨by decide, by decide⟩ hf3) jy_X10_requireRange lk_X10_97 dX10_restore_3 rfl rfl hl.1 (Nat.le_of_ble_eq_true rfl) ⟨Nat.le_of_ble_eq_true rfl, Nat.le_of_ble_eq_true rfl⟩ ⟨rfl, rfl⟩ ⟨Nat.zero_le _, Nat.zero_le _⟩ (fun H locs hM1 => ?_)
  refine r_aload_n C dX10_restore_6 rfl hl 0 rfl ?_
  refine r_getR C hM1 jc10 8 55 dX10_restore_7 lk_X10_47 lc_0.1 lc_0.2 rfl rfl (by decide) rfl ?_
  refine r_iload_n C dX10_restore_10 rfl hl 1 rfl ?_
  replace h := ck_some h
  obtain ⟨hc2, h⟩ := h
  refine r_zald C hM1 rfl dX10_restore_11 lc_55.1 lc_55.2 hc2 hx1 ?_
  refine r_if_ne C 26 (hM0.ok _ _) dX10_restore_12 (by decide) (fun cq => ?_) (fun cq => ?_)
  · replace h := ifn cq h
    refine r_aload_n C dX10_restore_26 rfl hl 0 rfl ?_
    refine r_getR C hM1 jc10 2 5 dX10_restore_27 lk_X10_26 lc_0.1 lc_0.2 rfl rfl (by decide) rfl ?_
    refine r_aload_n C dX10_restore_30 rfl hl 0 rfl ?_
    refine r_getR C hM1 jc10 7 54 dX10_restore_31 lk_X10_44 lc_0.1 lc_0.2 rfl rfl (by decide) rfl ?_
    refine r_iload_n C dX10_restore_34 rfl hl 1 rfl ?_
    refine r_aaldS C hM1 dX10_restore_35 lc_54.1 lc_54.2 hc2 hx1 ?_
    replace h := bd_some h
    obtain ⟨M36, hf36, h⟩ := h
    refine r_callV (As := [.ref (z + ((266 + x1.toNat * 24) + 0))]) (rest := []) C hM1 (c_X7_copyFrom l E z (show isSt 5 by decide) (st_saved hc2) hf36) jy_X7_copyFrom lk_X10_127 dX10_restore_36 (recvW C hM1 jc7 lc_5.1 lc_5.2 rfl) rfl rfl hl.1 (Nat.le_of_ble_eq_true rfl) ⟨Nat.le_of_ble_eq_true rfl, Nat.le_of_ble_eq_true rfl⟩ ⟨rfl, rfl⟩ ⟨Nat.zero_le _, Nat.zero_le _⟩ (fun H locs hM3 => ?_)
    refine r_aload_n C dX10_restore_39 rfl hl 0 rfl ?_
    replace h := bd_some h
    obtain ⟨M40, hf40, h⟩ := h
    refine r_callV (As := []) (rest := []) C hM3 (c_X10_forgetActs l E z hf40) jy_X10_forgetActs lk_X10_131 dX10_restore_40 (recvW C hM3 jc10 lc_0.1 lc_0.2 rfl) rfl rfl hl.1 (Nat.le_of_ble_eq_true rfl) ⟨Nat.le_of_ble_eq_true rfl, Nat.le_of_ble_eq_true rfl⟩ ⟨rfl, rfl⟩ ⟨Nat.zero_le _, Nat.zero_le _⟩ (fun H locs hM4 => ?_)
    refine r_aload_n C dX10_restore_43 rfl hl 0 rfl ?_
    replace h := bd_some h
    obtain ⟨M44, hf44, h⟩ := h
    refine r_callV (As := []) (rest := []) C hM4 (c_X10_settle l E z hf44) jy_X10_settle lk_X10_134 dX10_restore_44 (recvW C hM4 jc10 lc_0.1 lc_0.2 rfl) rfl rfl hl.1 (Nat.le_of_ble_eq_true rfl) ⟨Nat.le_of_ble_eq_true rfl, Nat.le_of_ble_eq_true rfl⟩ ⟨rfl, rfl⟩ ⟨Nat.zero_le _, Nat.zero_le _⟩ (fun H locs hM5 => ?_)
    exact r_return C hM5 hr hlk h dX10_restore_47
  · replace h := ifp cq h
    cases h
