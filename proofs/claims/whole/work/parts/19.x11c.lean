set_option maxRecDepth 100000 in
set_option maxHeartbeats 4000000 in
theorem c_X11_appendText (l : Launch) (E : jE) (z : Nat) {x1 : Int} {M M' : Mem} {r : Int} (hx1 : inR x1) (h : f_X11_appendText x1 M = some (r, M')) : CtI l yX11_appendText cX11_appendText 3 (some .int) { frames := 1, cells := 0, slots := 0, locals := 21 } E z LyR [.ref (z + 0), .int (jI x1)] M r M' := by
  refine jm (by decide +kernel) (Nat.le_of_ble_eq_true rfl) ?_
  intro p e sM m below meth c C hM0 hr hlk ls hl
  replace hl : lv_has ls 3 [(0, .ref (z + 0)), (1, .int (jI x1))] := hl
  unfold f_X11_appendText at h
  refine r_aload_n C dX11_appendText_0 rfl hl 0 rfl ?_
  refine r_aload_n C dX11_appendText_1 rfl hl 0 rfl ?_
  refine r_getI C hM0 jc11 29 rfl dX11_appendText_2 lk_X11_236 lr_0.1 lr_0.2 rfl rfl (by decide) rfl ?_
  refine r_iconst C dX11_appendText_5 ?_
  replace h := ck_some h
  obtain ⟨hc1, h⟩ := h
  refine r_iadd C dX11_appendText_6 ?_
  refine r_sipush C dX11_appendText_7 rfl ?_
  replace h := jn_some h
  obtain ⟨k18, hk18, h⟩ := h
  have hJ18 : ∀ (v18 : Int), inR v18 → ∀ (H : Heap) (locs : List Loc) (ls : Array Slot), k18 v18 = some (r, M') → HS E z LyR M sM H locs → lv_has ls 3 [(0, .ref (z + 0)), (1, .int (jI x1))] → W p l e ({ frames := 1, cells := 0, slots := 0, locals := 21 } : Room) sM m (([.ref (z + 0), .int (jI x1)] : List Value).toArray) below meth c H locs 0 0 (MQ below (va_Qi (fun (w : Int32) (_ : Unit) => w = jI r ∧ inR r ∧ Mok LyR M') (fun _ t => va_P (eD E) vwCl (Wd (eC E) z LyR M') t.heap) (eA E)) (([.ref (z + 0), .int (jI x1)] : List Value).toArray) sM 0 0 (eA E)) (F0 m 18 ls [.int (jI v18), .ref (z + 0)]) := by
    intro v18 hv18 H locs ls h hMj18 hl
    subst hk18
    try dsimp only at h
    replace h := bd_some h
    obtain ⟨⟨r18, M18⟩, hf18, h⟩ := h
    try dsimp only at h
    refine r_callI (As := [.int (jI v18)]) (rest := []) C hMj18 (c_X11_goes l E z hv18 hf18) jy_X11_goes lk_X11_239 dX11_appendText_18 (recvW C hMj18 jc11 lr_0.1 lr_0.2 rfl) rfl rfl hl.1 (Nat.le_of_ble_eq_true rfl) ⟨Nat.le_of_ble_eq_true rfl, Nat.le_of_ble_eq_true rfl⟩ ⟨rfl, rfl⟩ ⟨Nat.zero_le _, Nat.zero_le _⟩ (fun H locs hr18 hM2 => ?_)
    refine r_if_ne C 26 hr18 dX11_appendText_21 (by decide) (fun cq => ?_) (fun cq => ?_)
    · replace h := ifn cq h
      refine r_bipush C dX11_appendText_26 rfl ?_
      refine r_istore_n C [(2, .int (jI 24)), (0, .ref (z + 0)), (1, .int (jI x1))] dX11_appendText_28 rfl hl (by decide) rfl (fun ls hl => ?_)
      have hL29 : ∀ n29 : Nat, ∀ (x2 : Int) (M : Mem), inR x2 → ∀ (H : Heap) (locs : List Loc) (ls : Array Slot), f_X11_appendText_L29 x1 n29  x2 M = some (r, M') → HS E z LyR M sM H locs → lv_has ls 3 [(0, .ref (z + 0)), (1, .int (jI x1)), (2, .int (jI x2))] → W p l e ({ frames := 1, cells := 0, slots := 0, locals := 21 } : Room) sM m (([.ref (z + 0), .int (jI x1)] : List Value).toArray) below meth c H locs 0 0 (MQ below (va_Qi (fun (w : Int32) (_ : Unit) => w = jI r ∧ inR r ∧ Mok LyR M') (fun _ t => va_P (eD E) vwCl (Wd (eC E) z LyR M') t.heap) (eA E)) (([.ref (z + 0), .int (jI x1)] : List Value).toArray) sM 0 0 (eA E)) (F0 m 29 ls []) := by
        intro n29
        induction n29 with
        | zero =>
          intro x2 M hx2 H locs ls h hM hl
          exact absurd h (by simp [f_X11_appendText_L29])
        | succ n29 ih29 =>
          intro x2 M hx2 H locs ls h hM hl
          rw [f_X11_appendText_L29] at h
          refine r_iload_n C dX11_appendText_29 rfl hl 2 rfl ?_
          refine r_if_lt C 65 hx2 dX11_appendText_30 (by decide) (fun cq => ?_) (fun cq => ?_)
          · replace h := ifp cq h
            refine r_aload_n C dX11_appendText_65 rfl hl 0 rfl ?_
            refine r_getI C hM jc11 29 rfl dX11_appendText_66 lk_X11_236 lr_0.1 lr_0.2 rfl rfl (by decide) rfl ?_
            exact r_ireturnM C hM hr hlk (hM.ok _ _) h dX11_appendText_69
          · replace h := ifn cq h
            refine r_aload_n C dX11_appendText_33 rfl hl 0 rfl ?_
            refine r_getR C hM jc11 28 22 dX11_appendText_34 lk_X11_74 lr_0.1 lr_0.2 rfl rfl (by decide) rfl ?_
            refine r_aload_n C dX11_appendText_37 rfl hl 0 rfl ?_
            refine r_getI C hM jc11 29 rfl dX11_appendText_38 lk_X11_236 lr_0.1 lr_0.2 rfl rfl (by decide) rfl ?_
            refine r_iload_n C dX11_appendText_41 rfl hl 1 rfl ?_
            refine r_iload_n C dX11_appendText_42 rfl hl 2 rfl ?_
            refine r_ishr C dX11_appendText_43 ?_
            refine r_sipush C dX11_appendText_44 rfl ?_
            refine r_iand C dX11_appendText_47 ?_
            replace h := ck_some h
            obtain ⟨hc3, h⟩ := h
            refine r_iast C hM dX11_appendText_48 lr_22.1 lr_22.2 hc3 (hM.ok _ _) (iand_R _ _) (fun H locs hM4 => ?_)
            replace h := lt_some h
            obtain ⟨N5, eN5, h⟩ := h
            rw [← eN5] at hM4
            refine r_aload_n C dX11_appendText_49 rfl hl 0 rfl ?_
            refine r_dup C dX11_appendText_50 rfl ?_
            refine r_getI C hM4 jc11 29 (rd_skip eN5 (by decide) rfl) dX11_appendText_51 lk_X11_236 lr_0.1 lr_0.2 rfl rfl (by decide) rfl ?_
            refine r_iconst C dX11_appendText_54 ?_
            replace h := ck_some h
            obtain ⟨hc6, h⟩ := h
            refine r_iadd C dX11_appendText_55 ?_
            refine r_putI C hM4 jc11 29 hc6 dX11_appendText_56 lk_X11_236 lr_0.1 lr_0.2 rfl rfl (by decide) rfl rfl rfl (Nat.le_of_ble_eq_true rfl) (by decide) (fun H locs hM7 => ?_)
            replace h := lt_some h
            obtain ⟨N8, eN8, h⟩ := h
            rw [← eN8] at hM7
            replace h := ck_some h
            obtain ⟨hc9, h⟩ := h
            refine r_iinc (j := 2) (x := x2) C [(2, .int (jI (x2 + (-8)))), (0, .ref (z + 0)), (1, .int (jI x1))] dX11_appendText_59 hl rfl (by decide) rfl (fun ls hl => ?_)
            refine r_goto C 29 dX11_appendText_62 (by decide) ?_
            exact ih29 _ _ hc9 _ _ _ h hM7 (lv_sub hl [1, 2, 0] rfl)
      exact hL29 jFuel _ _ ⟨by decide, by decide⟩ _ _ _ h hM2 (lv_sub hl [1, 2, 0] rfl)
    · replace h := ifp cq h
      refine r_iconst C dX11_appendText_24 ?_
      exact r_ireturnM C hM2 hr hlk ⟨by decide, by decide⟩ h dX11_appendText_25
  refine r_icmp_gt C 17 hc1 ⟨by decide, by decide⟩ dX11_appendText_10 (by decide) (fun cq => ?_) (fun cq => ?_)
  · replace h := ifp cq h
    refine r_iconst C dX11_appendText_17 ?_
    exact hJ18 _ ⟨by decide, by decide⟩ _ _ _ h hM0 (lv_sub hl [0, 1] rfl)
  · replace h := ifn cq h
    refine r_iconst C dX11_appendText_13 ?_
    refine r_goto C 18 dX11_appendText_14 (by decide) ?_
    exact hJ18 _ ⟨by decide, by decide⟩ _ _ _ h hM0 (lv_sub hl [0, 1] rfl)
set_option maxRecDepth 100000 in
set_option maxHeartbeats 4000000 in
theorem c_X11_truncateText (l : Launch) (E : jE) (z : Nat) {x1 : Int} {M M' : Mem} {r : Int} (hx1 : inR x1) (h : f_X11_truncateText x1 M = some (r, M')) : CtI l yX11_truncateText cX11_truncateText 2 (some .int) { frames := 1, cells := 0, slots := 0, locals := 22 } E z LyR [.ref (z + 0), .int (jI x1)] M r M' := by
  refine jm (by decide +kernel) (Nat.le_of_ble_eq_true rfl) ?_
  intro p e sM m below meth c C hM0 hr hlk ls hl
  replace hl : lv_has ls 2 [(0, .ref (z + 0)), (1, .int (jI x1))] := hl
  unfold f_X11_truncateText at h
  refine r_aload_n C dX11_truncateText_0 rfl hl 0 rfl ?_
  refine r_iload_n C dX11_truncateText_1 rfl hl 1 rfl ?_
  refine r_iconst C dX11_truncateText_2 ?_
  refine r_aload_n C dX11_truncateText_3 rfl hl 0 rfl ?_
  refine r_getI C hM0 jc11 29 rfl dX11_truncateText_4 lk_X11_236 lr_0.1 lr_0.2 rfl rfl (by decide) rfl ?_
  replace h := bd_some h
  obtain ⟨r7, hf7, h⟩ := h
  refine r_callSI (As := [.int (jI x1), .int (jI 0), .int (jI (M 0 29))]) (rest := [.ref (z + 0)]) C hM0 (c_X11_isIn l E z hx1 ⟨by decide, by decide⟩ (hM0.ok _ _) hf7) jy_X11_isIn lk_X11_112 dX11_truncateText_7 rfl rfl hl.1 (Nat.le_of_ble_eq_true rfl) ⟨Nat.le_of_ble_eq_true rfl, Nat.le_of_ble_eq_true rfl⟩ ⟨rfl, rfl⟩ ⟨Nat.zero_le _, Nat.zero_le _⟩ (fun H locs hr7 hM1 => ?_)
  replace h := bd_some h
  obtain ⟨⟨r10, M10⟩, hf10, h⟩ := h
  try dsimp only at h
  refine r_callI (As := [.int (jI r7)]) (rest := []) C hM1 (c_X11_goes l E z hr7 hf10) jy_X11_goes lk_X11_239 dX11_truncateText_10 (recvW C hM1 jc11 lr_0.1 lr_0.2 rfl) rfl rfl hl.1 (Nat.le_of_ble_eq_true rfl) ⟨Nat.le_of_ble_eq_true rfl, Nat.le_of_ble_eq_true rfl⟩ ⟨rfl, rfl⟩ ⟨Nat.zero_le _, Nat.zero_le _⟩ (fun H locs hr10 hM2 => ?_)
  refine r_if_ne C 18 hr10 dX11_truncateText_13 (by decide) (fun cq => ?_) (fun cq => ?_)
  · replace h := ifn cq h
    refine r_aload_n C dX11_truncateText_18 rfl hl 0 rfl ?_
    refine r_iload_n C dX11_truncateText_19 rfl hl 1 rfl ?_
    refine r_putI C hM2 jc11 29 hx1 dX11_truncateText_20 lk_X11_236 lr_0.1 lr_0.2 rfl rfl (by decide) rfl rfl rfl (Nat.le_of_ble_eq_true rfl) (by decide) (fun H locs hM3 => ?_)
    replace h := lt_some h
    obtain ⟨N4, eN4, h⟩ := h
    rw [← eN4] at hM3
    refine r_aload_n C dX11_truncateText_23 rfl hl 0 rfl ?_
    refine r_getI C hM3 jc11 29 (rd_hit eN4) dX11_truncateText_24 lk_X11_236 lr_0.1 lr_0.2 rfl rfl (by decide) rfl ?_
    exact r_ireturnM C hM3 hr hlk hx1 h dX11_truncateText_27
  · replace h := ifp cq h
    refine r_iconst C dX11_truncateText_16 ?_
    exact r_ireturnM C hM2 hr hlk ⟨by decide, by decide⟩ h dX11_truncateText_17
set_option maxRecDepth 100000 in
set_option maxHeartbeats 4000000 in
theorem c_X11_errorCode (l : Launch) (E : jE) (z : Nat) {M M' : Mem} {r : Int} (h : f_X11_errorCode M = some (r, M')) : CtI l yX11_errorCode cX11_errorCode 1 (some .int) { frames := 0, cells := 0, slots := 0, locals := 0 } E z LyR [.ref (z + 0)] M r M' := by
  refine jm (by decide +kernel) (Nat.le_of_ble_eq_true rfl) ?_
  intro p e sM m below meth c C hM0 hr hlk ls hl
  replace hl : lv_has ls 1 [(0, .ref (z + 0))] := hl
  unfold f_X11_errorCode at h
  refine r_aload_n C dX11_errorCode_0 rfl hl 0 rfl ?_
  refine r_iconst C dX11_errorCode_1 ?_
  refine r_putI C hM0 jc11 7 ⟨by decide, by decide⟩ dX11_errorCode_2 lk_X11_105 lr_0.1 lr_0.2 rfl rfl (by decide) rfl rfl rfl (Nat.le_of_ble_eq_true rfl) (by decide) (fun H locs hM1 => ?_)
  replace h := lt_some h
  obtain ⟨N2, eN2, h⟩ := h
  rw [← eN2] at hM1
  refine r_aload_n C dX11_errorCode_5 rfl hl 0 rfl ?_
  refine r_getI C hM1 jc11 36 (rd_slot eN2 (by decide) rfl) dX11_errorCode_6 lk_X11_243 lr_0.1 lr_0.2 rfl rfl (by decide) rfl ?_
  exact r_ireturnM C hM1 hr hlk (hM0.ok _ _) h dX11_errorCode_9
set_option maxRecDepth 100000 in
set_option maxHeartbeats 4000000 in
theorem c_X11_errorPosition (l : Launch) (E : jE) (z : Nat) {M M' : Mem} {r : Int} (h : f_X11_errorPosition M = some (r, M')) : CtI l yX11_errorPosition cX11_errorPosition 1 (some .int) { frames := 0, cells := 0, slots := 0, locals := 0 } E z LyR [.ref (z + 0)] M r M' := by
  refine jm (by decide +kernel) (Nat.le_of_ble_eq_true rfl) ?_
  intro p e sM m below meth c C hM0 hr hlk ls hl
  replace hl : lv_has ls 1 [(0, .ref (z + 0))] := hl
  unfold f_X11_errorPosition at h
  refine r_aload_n C dX11_errorPosition_0 rfl hl 0 rfl ?_
  refine r_iconst C dX11_errorPosition_1 ?_
  refine r_putI C hM0 jc11 7 ⟨by decide, by decide⟩ dX11_errorPosition_2 lk_X11_105 lr_0.1 lr_0.2 rfl rfl (by decide) rfl rfl rfl (Nat.le_of_ble_eq_true rfl) (by decide) (fun H locs hM1 => ?_)
  replace h := lt_some h
  obtain ⟨N2, eN2, h⟩ := h
  rw [← eN2] at hM1
  refine r_aload_n C dX11_errorPosition_5 rfl hl 0 rfl ?_
  refine r_getI C hM1 jc11 37 (rd_slot eN2 (by decide) rfl) dX11_errorPosition_6 lk_X11_77 lr_0.1 lr_0.2 rfl rfl (by decide) rfl ?_
  exact r_ireturnM C hM1 hr hlk (hM0.ok _ _) h dX11_errorPosition_9
set_option maxRecDepth 100000 in
set_option maxHeartbeats 4000000 in
theorem c_X11_count (l : Launch) (E : jE) (z : Nat) {x1 : Int} {M M' : Mem} {r : Int} (hx1 : inR x1) (h : f_X11_count x1 M = some (r, M')) : CtI l yX11_count cX11_count 2 (some .int) { frames := 4, cells := 0, slots := 0, locals := 89 } E z LyR [.ref (z + 0), .int (jI x1)] M r M' := by
  refine jm (by decide +kernel) (Nat.le_of_ble_eq_true rfl) ?_
  intro p e sM m below meth c C hM0 hr hlk ls hl
  replace hl : lv_has ls 2 [(0, .ref (z + 0)), (1, .int (jI x1))] := hl
  unfold f_X11_count at h
  refine r_aload_n C dX11_count_0 rfl hl 0 rfl ?_
  refine r_iload_n C dX11_count_1 rfl hl 1 rfl ?_
  refine r_iconst C dX11_count_2 ?_
  refine r_bipush C dX11_count_3 rfl ?_
  replace h := bd_some h
  obtain ⟨r5, hf5, h⟩ := h
  refine r_callSI (As := [.int (jI x1), .int (jI 0), .int (jI 13)]) (rest := [.ref (z + 0)]) C hM0 (c_X11_isIn l E z hx1 ⟨by decide, by decide⟩ ⟨by decide, by decide⟩ hf5) jy_X11_isIn lk_X11_112 dX11_count_5 rfl rfl hl.1 (Nat.le_of_ble_eq_true rfl) ⟨Nat.le_of_ble_eq_true rfl, Nat.le_of_ble_eq_true rfl⟩ ⟨rfl, rfl⟩ ⟨Nat.zero_le _, Nat.zero_le _⟩ (fun H locs hr5 hM1 => ?_)
  replace h := bd_some h
  obtain ⟨⟨r8, M8⟩, hf8, h⟩ := h
  try dsimp only at h
  refine r_callI (As := [.int (jI r5)]) (rest := []) C hM1 (c_X11_goes l E z hr5 hf8) jy_X11_goes lk_X11_239 dX11_count_8 (recvW C hM1 jc11 lr_0.1 lr_0.2 rfl) rfl rfl hl.1 (Nat.le_of_ble_eq_true rfl) ⟨Nat.le_of_ble_eq_true rfl, Nat.le_of_ble_eq_true rfl⟩ ⟨rfl, rfl⟩ ⟨Nat.zero_le _, Nat.zero_le _⟩ (fun H locs hr8 hM2 => ?_)
  refine r_if_ne C 16 hr8 dX11_count_11 (by decide) (fun cq => ?_) (fun cq => ?_)
  · replace h := ifn cq h
    refine r_iload_n C dX11_count_16 rfl hl 1 rfl ?_
    by_cases cq : x1 = 0
    · replace h := ifp cq h
      refine r_table C 88 hx1 dX11_count_17 (by decide) (by rw [cq]; rfl) ?_
      refine r_aload_n C dX11_count_88 rfl hl 0 rfl ?_
      refine r_getR C hM2 jc11 0 1 dX11_count_89 lk_X11_7 lr_0.1 lr_0.2 rfl rfl (by decide) rfl ?_
      refine r_iconst C dX11_count_92 ?_
      refine r_iload_n C dX11_count_93 rfl hl 1 rfl ?_
      replace h := ck_some h
      obtain ⟨hc3, h⟩ := h
      refine r_iadd C dX11_count_94 ?_
      replace h := ck_some h
      obtain ⟨hc4, h⟩ := h
      refine r_iald C hM2 rfl dX11_count_95 lr_1.1 lr_1.2 hc4 hc3 ?_
      exact r_ireturnM C hM2 hr hlk (hM2.ok _ _) h dX11_count_96
    · replace h := ifn cq h
      have c17_0 := cq
      by_cases cq : x1 = 1
      · replace h := ifp cq h
        refine r_table C 88 hx1 dX11_count_17 (by decide) (by rw [cq]; rfl) ?_
        refine r_aload_n C dX11_count_88 rfl hl 0 rfl ?_
        refine r_getR C hM2 jc11 0 1 dX11_count_89 lk_X11_7 lr_0.1 lr_0.2 rfl rfl (by decide) rfl ?_
        refine r_iconst C dX11_count_92 ?_
        refine r_iload_n C dX11_count_93 rfl hl 1 rfl ?_
        replace h := ck_some h
        obtain ⟨hc5, h⟩ := h
        refine r_iadd C dX11_count_94 ?_
        replace h := ck_some h
        obtain ⟨hc6, h⟩ := h
        refine r_iald C hM2 rfl dX11_count_95 lr_1.1 lr_1.2 hc6 hc5 ?_
        exact r_ireturnM C hM2 hr hlk (hM2.ok _ _) h dX11_count_96
      · replace h := ifn cq h
        have c17_1 := cq
        by_cases cq : x1 = 2
        · replace h := ifp cq h
          refine r_table C 88 hx1 dX11_count_17 (by decide) (by rw [cq]; rfl) ?_
          refine r_aload_n C dX11_count_88 rfl hl 0 rfl ?_
          refine r_getR C hM2 jc11 0 1 dX11_count_89 lk_X11_7 lr_0.1 lr_0.2 rfl rfl (by decide) rfl ?_
          refine r_iconst C dX11_count_92 ?_
          refine r_iload_n C dX11_count_93 rfl hl 1 rfl ?_
          replace h := ck_some h
          obtain ⟨hc7, h⟩ := h
          refine r_iadd C dX11_count_94 ?_
          replace h := ck_some h
          obtain ⟨hc8, h⟩ := h
          refine r_iald C hM2 rfl dX11_count_95 lr_1.1 lr_1.2 hc8 hc7 ?_
          exact r_ireturnM C hM2 hr hlk (hM2.ok _ _) h dX11_count_96
        · replace h := ifn cq h
          have c17_2 := cq
          by_cases cq : x1 = 8
          · replace h := ifp cq h
            refine r_table C 97 hx1 dX11_count_17 (by decide) (by rw [cq]; rfl) ?_
            refine r_aload_n C dX11_count_97 rfl hl 0 rfl ?_
            replace h := bd_some h
            obtain ⟨r98, hf98, h⟩ := h
            refine r_callI (As := []) (rest := []) C hM2 (c_X11_itemMany l E z hf98) jy_X11_itemMany lk_X11_414 dX11_count_98 (recvW C hM2 jc11 lr_0.1 lr_0.2 rfl) rfl rfl hl.1 (Nat.le_of_ble_eq_true rfl) ⟨Nat.le_of_ble_eq_true rfl, Nat.le_of_ble_eq_true rfl⟩ ⟨rfl, rfl⟩ ⟨Nat.zero_le _, Nat.zero_le _⟩ (fun H locs hr98 hM9 => ?_)
            exact r_ireturnM C hM9 hr hlk hr98 h dX11_count_101
          · replace h := ifn cq h
            have c17_8 := cq
            by_cases cq : x1 = 9
            · replace h := ifp cq h
              refine r_table C 102 hx1 dX11_count_17 (by decide) (by rw [cq]; rfl) ?_
              refine r_aload_n C dX11_count_102 rfl hl 0 rfl ?_
              replace h := bd_some h
              obtain ⟨r103, hf103, h⟩ := h
              refine r_callI (As := []) (rest := []) C hM2 (c_X11_allItems l E z hf103) jy_X11_allItems lk_X11_417 dX11_count_103 (recvW C hM2 jc11 lr_0.1 lr_0.2 rfl) rfl rfl hl.1 (Nat.le_of_ble_eq_true rfl) ⟨Nat.le_of_ble_eq_true rfl, Nat.le_of_ble_eq_true rfl⟩ ⟨rfl, rfl⟩ ⟨Nat.zero_le _, Nat.zero_le _⟩ (fun H locs hr103 hM10 => ?_)
              exact r_ireturnM C hM10 hr hlk hr103 h dX11_count_106
            · replace h := ifn cq h
              have c17_9 := cq
              by_cases cq : x1 = 10
              · replace h := ifp cq h
                refine r_table C 107 hx1 dX11_count_17 (by decide) (by rw [cq]; rfl) ?_
                refine r_aload_n C dX11_count_107 rfl hl 0 rfl ?_
                refine r_getR C hM2 jc11 0 1 dX11_count_108 lk_X11_7 lr_0.1 lr_0.2 rfl rfl (by decide) rfl ?_
                refine r_bipush C dX11_count_111 rfl ?_
                refine r_iald C hM2 rfl dX11_count_113 lr_1.1 lr_1.2 (show (0 : Int) ≤ 9 ∧ (9 : Int) < 1062 by decide) ⟨by decide, by decide⟩ ?_
                exact r_ireturnM C hM2 hr hlk (hM2.ok _ _) h dX11_count_114
              · replace h := ifn cq h
                have c17_10 := cq
                by_cases cq : x1 = 11
                · replace h := ifp cq h
                  refine r_table C 115 hx1 dX11_count_17 (by decide) (by rw [cq]; rfl) ?_
                  refine r_aload_n C dX11_count_115 rfl hl 0 rfl ?_
                  replace h := bd_some h
                  obtain ⟨r116, hf116, h⟩ := h
                  refine r_callI (As := []) (rest := []) C hM2 (c_X11_allSyllables l E z hf116) jy_X11_allSyllables lk_X11_420 dX11_count_116 (recvW C hM2 jc11 lr_0.1 lr_0.2 rfl) rfl rfl hl.1 (Nat.le_of_ble_eq_true rfl) ⟨Nat.le_of_ble_eq_true rfl, Nat.le_of_ble_eq_true rfl⟩ ⟨rfl, rfl⟩ ⟨Nat.zero_le _, Nat.zero_le _⟩ (fun H locs hr116 hM11 => ?_)
                  exact r_ireturnM C hM11 hr hlk hr116 h dX11_count_119
                · replace h := ifn cq h
                  have c17_11 := cq
                  by_cases cq : x1 = 12
                  · replace h := ifp cq h
                    refine r_table C 120 hx1 dX11_count_17 (by decide) (by rw [cq]; rfl) ?_
                    refine r_aload_n C dX11_count_120 rfl hl 0 rfl ?_
                    refine r_aload_n C dX11_count_121 rfl hl 0 rfl ?_
                    refine r_getR C hM2 jc11 0 1 dX11_count_122 lk_X11_7 lr_0.1 lr_0.2 rfl rfl (by decide) rfl ?_
                    refine r_bipush C dX11_count_125 rfl ?_
                    refine r_iald C hM2 rfl dX11_count_127 lr_1.1 lr_1.2 (show (0 : Int) ≤ 9 ∧ (9 : Int) < 1062 by decide) ⟨by decide, by decide⟩ ?_
                    replace h := bd_some h
                    obtain ⟨r128, hf128, h⟩ := h
                    refine r_callI (As := [.int (jI (M8 1 (9 : Int).toNat))]) (rest := []) C hM2 (c_X11_sentencesAhead l E z (hM2.ok _ _) hf128) jy_X11_sentencesAhead lk_X11_423 dX11_count_128 (recvW C hM2 jc11 lr_0.1 lr_0.2 rfl) rfl rfl hl.1 (Nat.le_of_ble_eq_true rfl) ⟨Nat.le_of_ble_eq_true rfl, Nat.le_of_ble_eq_true rfl⟩ ⟨rfl, rfl⟩ ⟨Nat.zero_le _, Nat.zero_le _⟩ (fun H locs hr128 hM12 => ?_)
                    exact r_ireturnM C hM12 hr hlk hr128 h dX11_count_131
                  · replace h := ifn cq h
                    have c17_12 := cq
                    by_cases cq : x1 = 13
                    · replace h := ifp cq h
                      refine r_table C 132 hx1 dX11_count_17 (by decide) (by rw [cq]; rfl) ?_
                      refine r_aload_n C dX11_count_132 rfl hl 0 rfl ?_
                      refine r_getI C hM2 jc11 6 rfl dX11_count_133 lk_X11_359 lr_0.1 lr_0.2 rfl rfl (by decide) rfl ?_
                      exact r_ireturnM C hM2 hr hlk (hM2.ok _ _) h dX11_count_136
                    · replace h := ifn cq h
                      have c17_13 := cq
                      have cd : jsw 17 0 13 (120) #[(71), (71), (71), (120), (120), (120), (120), (120), (80), (85), (90), (98), (103), (115)] x1 = (137 : Int) := by
                        have cz : (x1 < 0 ∨ 13 < x1) ∨ x1 = 3 ∨ x1 = 4 ∨ x1 = 5 ∨ x1 = 6 ∨ x1 = 7 := by omega
                        rcases cz with cz | cz | cz | cz | cz | cz
                        · unfold jsw; rw [if_pos cz]; rfl
                        · rw [cz]; rfl
                        · rw [cz]; rfl
                        · rw [cz]; rfl
                        · rw [cz]; rfl
                        · rw [cz]; rfl
                      refine r_table C 137 hx1 dX11_count_17 (by decide) cd ?_
                      refine r_aload_n C dX11_count_137 rfl hl 0 rfl ?_
                      refine r_getR C hM2 jc11 0 1 dX11_count_138 lk_X11_7 lr_0.1 lr_0.2 rfl rfl (by decide) rfl ?_
                      refine r_iload_n C dX11_count_141 rfl hl 1 rfl ?_
                      refine r_iconst C dX11_count_142 ?_
                      replace h := ck_some h
                      obtain ⟨hc13, h⟩ := h
                      refine r_isub C dX11_count_143 ?_
                      replace h := ck_some h
                      obtain ⟨hc14, h⟩ := h
                      refine r_iald C hM2 rfl dX11_count_144 lr_1.1 lr_1.2 hc14 hc13 ?_
                      exact r_ireturnM C hM2 hr hlk (hM2.ok _ _) h dX11_count_145
  · replace h := ifp cq h
    refine r_iconst C dX11_count_14 ?_
    exact r_ireturnM C hM2 hr hlk ⟨by decide, by decide⟩ h dX11_count_15
set_option maxRecDepth 100000 in
set_option maxHeartbeats 4000000 in
theorem c_X11_isShotThere (l : Launch) (E : jE) (z : Nat) {x1 : Int} {M : Mem} {r : Int} (hx1 : inR x1) (h : f_X11_isShotThere x1 M = some r) : CtI l yX11_isShotThere cX11_isShotThere 2 (some .boolean) { frames := 1, cells := 0, slots := 0, locals := 22 } E z LyR [.ref (z + 0), .int (jI x1)] M r M := by
  refine jm (by decide +kernel) (Nat.le_of_ble_eq_true rfl) ?_
  intro p e sM m below meth c C hM0 hr hlk ls hl
  replace hl : lv_has ls 2 [(0, .ref (z + 0)), (1, .int (jI x1))] := hl
  unfold f_X11_isShotThere at h
  refine r_iload_n C dX11_isShotThere_0 rfl hl 1 rfl ?_
  refine r_iconst C dX11_isShotThere_1 ?_
  refine r_aload_n C dX11_isShotThere_2 rfl hl 0 rfl ?_
  refine r_getR C hM0 jc11 0 1 dX11_isShotThere_3 lk_X11_7 lr_0.1 lr_0.2 rfl rfl (by decide) rfl ?_
  refine r_iconst C dX11_isShotThere_6 ?_
  refine r_iald C hM0 rfl dX11_isShotThere_7 lr_1.1 lr_1.2 (show (0 : Int) ≤ 5 ∧ (5 : Int) < 1062 by decide) ⟨by decide, by decide⟩ ?_
  refine r_iconst C dX11_isShotThere_8 ?_
  replace h := ck_some h
  obtain ⟨hc1, h⟩ := h
  refine r_isub C dX11_isShotThere_9 ?_
  replace h := bd_some h
  obtain ⟨r10, hf10, h⟩ := h
  refine r_callSI (As := [.int (jI x1), .int (jI 0), .int (jI ((M 1 (5 : Int).toNat) - 1))]) (rest := []) C hM0 (c_X11_isIn l E z hx1 ⟨by decide, by decide⟩ hc1 hf10) jy_X11_isIn lk_X11_112 dX11_isShotThere_10 rfl rfl hl.1 (Nat.le_of_ble_eq_true rfl) ⟨Nat.le_of_ble_eq_true rfl, Nat.le_of_ble_eq_true rfl⟩ ⟨rfl, rfl⟩ ⟨Nat.zero_le _, Nat.zero_le _⟩ (fun H locs hr10 hM2 => ?_)
  replace h := ck_some h
  obtain ⟨hc3, h⟩ := h
  exact r_zreturn C hM2 hr hlk hc3 h rfl dX11_isShotThere_13
set_option maxRecDepth 100000 in
set_option maxHeartbeats 4000000 in
theorem c_X11_piecesOf (l : Launch) (E : jE) (z : Nat) {x1 : Int} {x2 : Int} {x3 : Int} {M M' : Mem} {r : Int} (hx1 : inR x1) (hx2 : inR x2) (hx3 : inR x3) (h : f_X11_piecesOf x1 x2 x3 M = some (r, M')) : CtI l yX11_piecesOf cX11_piecesOf 6 (some .int) { frames := 4, cells := 0, slots := 0, locals := 89 } E z LyR [.ref (z + 0), .int (jI x1), .int (jI x2), .int (jI x3)] M r M' := by
  refine jm (by decide +kernel) (Nat.le_of_ble_eq_true rfl) ?_
  intro p e sM m below meth c C hM0 hr hlk ls hl
  replace hl : lv_has ls 6 [(0, .ref (z + 0)), (1, .int (jI x1)), (2, .int (jI x2)), (3, .int (jI x3))] := hl
  unfold f_X11_piecesOf at h
  refine r_aload_n C dX11_piecesOf_0 rfl hl 0 rfl ?_
  replace h := bd_some h
  obtain ⟨M1, hf1, h⟩ := h
  refine r_callV (As := []) (rest := []) C hM0 (c_X11_laysPieces l E z hf1) jy_X11_laysPieces lk_X11_209 dX11_piecesOf_1 (recvW C hM0 jc11 lr_0.1 lr_0.2 rfl) rfl rfl hl.1 (Nat.le_of_ble_eq_true rfl) ⟨Nat.le_of_ble_eq_true rfl, Nat.le_of_ble_eq_true rfl⟩ ⟨rfl, rfl⟩ ⟨Nat.zero_le _, Nat.zero_le _⟩ (fun H locs hM1 => ?_)
  refine r_iconst C dX11_piecesOf_4 ?_
  refine r_istore C [(4, .int (jI 0)), (0, .ref (z + 0)), (1, .int (jI x1)), (2, .int (jI x2)), (3, .int (jI x3))] dX11_piecesOf_5 hl (by decide) rfl (fun ls hl => ?_)
  refine r_iconst C dX11_piecesOf_7 ?_
  refine r_istore C [(5, .int (jI 0)), (4, .int (jI 0)), (0, .ref (z + 0)), (1, .int (jI x1)), (2, .int (jI x2)), (3, .int (jI x3))] dX11_piecesOf_8 hl (by decide) rfl (fun ls hl => ?_)
  have hL10 : ∀ n10 : Nat, ∀ (x4 : Int) (x5 : Int) (M : Mem), inR x4 → inR x5 → ∀ (H : Heap) (locs : List Loc) (ls : Array Slot), f_X11_piecesOf_L10 x1 x2 x3 n10  x4 x5 M = some (r, M') → HS E z LyR M sM H locs → lv_has ls 6 [(0, .ref (z + 0)), (1, .int (jI x1)), (2, .int (jI x2)), (3, .int (jI x3)), (4, .int (jI x4)), (5, .int (jI x5))] → W p l e ({ frames := 4, cells := 0, slots := 0, locals := 89 } : Room) sM m (([.ref (z + 0), .int (jI x1), .int (jI x2), .int (jI x3)] : List Value).toArray) below meth c H locs 0 0 (MQ below (va_Qi (fun (w : Int32) (_ : Unit) => w = jI r ∧ inR r ∧ Mok LyR M') (fun _ t => va_P (eD E) vwCl (Wd (eC E) z LyR M') t.heap) (eA E)) (([.ref (z + 0), .int (jI x1), .int (jI x2), .int (jI x3)] : List Value).toArray) sM 0 0 (eA E)) (F0 m 10 ls []) := by
    intro n10
    induction n10 with
    | zero =>
      intro x4 x5 M hx4 hx5 H locs ls h hM hl
      exact absurd h (by simp [f_X11_piecesOf_L10])
    | succ n10 ih10 =>
      intro x4 x5 M hx4 hx5 H locs ls h hM hl
      rw [f_X11_piecesOf_L10] at h
      refine r_iload C dX11_piecesOf_10 hl 5 rfl ?_
      refine r_aload_n C dX11_piecesOf_12 rfl hl 0 rfl ?_
      refine r_getI C hM jc11 17 rfl dX11_piecesOf_13 lk_X11_126 lr_0.1 lr_0.2 rfl rfl (by decide) rfl ?_
      refine r_icmp_ge C 67 hx5 (hM.ok _ _) dX11_piecesOf_16 (by decide) (fun cq => ?_) (fun cq => ?_)
      · replace h := ifp cq h
        refine r_iload C dX11_piecesOf_67 hl 4 rfl ?_
        exact r_ireturnM C hM hr hlk hx4 h dX11_piecesOf_69
      · replace h := ifn cq h
        refine r_aload_n C dX11_piecesOf_19 rfl hl 0 rfl ?_
        refine r_getR C hM jc11 8 7 dX11_piecesOf_20 lk_X11_29 lr_0.1 lr_0.2 rfl rfl (by decide) rfl ?_
        refine r_iload C dX11_piecesOf_23 hl 5 rfl ?_
        replace h := ck_some h
        obtain ⟨hc2, h⟩ := h
        refine r_iald C hM rfl dX11_piecesOf_25 lr_7.1 lr_7.2 hc2 hx5 ?_
        refine r_iload_n C dX11_piecesOf_26 rfl hl 1 rfl ?_
        refine r_icmp_ne C 61 (hM.ok _ _) hx1 dX11_piecesOf_27 (by decide) (fun cq => ?_) (fun cq => ?_)
        · replace h := ifn cq h
          replace h := ck_some h
          obtain ⟨hc3, h⟩ := h
          refine r_iinc (j := 5) (x := x5) C [(5, .int (jI (x5 + 1))), (0, .ref (z + 0)), (1, .int (jI x1)), (2, .int (jI x2)), (3, .int (jI x3)), (4, .int (jI x4))] dX11_piecesOf_61 hl rfl (by decide) rfl (fun ls hl => ?_)
          refine r_goto C 10 dX11_piecesOf_64 (by decide) ?_
          exact ih10 _ _ _ hx4 hc3 _ _ _ h hM (lv_sub hl [1, 2, 3, 4, 5, 0] rfl)
        · replace h := ifp cq h
          refine r_aload_n C dX11_piecesOf_30 rfl hl 0 rfl ?_
          refine r_getR C hM jc11 9 8 dX11_piecesOf_31 lk_X11_32 lr_0.1 lr_0.2 rfl rfl (by decide) rfl ?_
          refine r_iload C dX11_piecesOf_34 hl 5 rfl ?_
          refine r_iald C hM rfl dX11_piecesOf_36 lr_8.1 lr_8.2 hc2 hx5 ?_
          refine r_iload_n C dX11_piecesOf_37 rfl hl 2 rfl ?_
          refine r_icmp_ne C 61 (hM.ok _ _) hx2 dX11_piecesOf_38 (by decide) (fun cq => ?_) (fun cq => ?_)
          · replace h := ifn cq h
            replace h := ck_some h
            obtain ⟨hc4, h⟩ := h
            refine r_iinc (j := 5) (x := x5) C [(5, .int (jI (x5 + 1))), (0, .ref (z + 0)), (1, .int (jI x1)), (2, .int (jI x2)), (3, .int (jI x3)), (4, .int (jI x4))] dX11_piecesOf_61 hl rfl (by decide) rfl (fun ls hl => ?_)
            refine r_goto C 10 dX11_piecesOf_64 (by decide) ?_
            exact ih10 _ _ _ hx4 hc4 _ _ _ h hM (lv_sub hl [1, 2, 3, 4, 5, 0] rfl)
          · replace h := ifp cq h
            refine r_iload C dX11_piecesOf_41 hl 4 rfl ?_
            refine r_iload_n C dX11_piecesOf_43 rfl hl 3 rfl ?_
            refine r_if_eq C 57 hx3 dX11_piecesOf_44 (by decide) (fun cq => ?_) (fun cq => ?_)
            · replace h := ifp cq h
              refine r_iconst C dX11_piecesOf_57 ?_
              replace h := ck_some h
              obtain ⟨hc5, h⟩ := h
              refine r_iadd C dX11_piecesOf_58 ?_
              refine r_istore C [(4, .int (jI (x4 + 1))), (0, .ref (z + 0)), (1, .int (jI x1)), (2, .int (jI x2)), (3, .int (jI x3)), (5, .int (jI x5))] dX11_piecesOf_59 hl (by decide) rfl (fun ls hl => ?_)
              replace h := ck_some h
              obtain ⟨hc6, h⟩ := h
              refine r_iinc (j := 5) (x := x5) C [(5, .int (jI (x5 + 1))), (4, .int (jI (x4 + 1))), (0, .ref (z + 0)), (1, .int (jI x1)), (2, .int (jI x2)), (3, .int (jI x3))] dX11_piecesOf_61 hl rfl (by decide) rfl (fun ls hl => ?_)
              refine r_goto C 10 dX11_piecesOf_64 (by decide) ?_
              exact ih10 _ _ _ hc5 hc6 _ _ _ h hM (lv_sub hl [2, 3, 4, 5, 1, 0] rfl)
            · replace h := ifn cq h
              refine r_aload_n C dX11_piecesOf_47 rfl hl 0 rfl ?_
              refine r_getR C hM jc11 11 10 dX11_piecesOf_48 lk_X11_38 lr_0.1 lr_0.2 rfl rfl (by decide) rfl ?_
              refine r_iload C dX11_piecesOf_51 hl 5 rfl ?_
              refine r_iald C hM rfl dX11_piecesOf_53 lr_10.1 lr_10.2 hc2 hx5 ?_
              refine r_goto C 58 dX11_piecesOf_54 (by decide) ?_
              replace h := ck_some h
              obtain ⟨hc7, h⟩ := h
              refine r_iadd C dX11_piecesOf_58 ?_
              refine r_istore C [(4, .int (jI (x4 + (M 10 x5.toNat)))), (0, .ref (z + 0)), (1, .int (jI x1)), (2, .int (jI x2)), (3, .int (jI x3)), (5, .int (jI x5))] dX11_piecesOf_59 hl (by decide) rfl (fun ls hl => ?_)
              replace h := ck_some h
              obtain ⟨hc8, h⟩ := h
              refine r_iinc (j := 5) (x := x5) C [(5, .int (jI (x5 + 1))), (4, .int (jI (x4 + (M 10 x5.toNat)))), (0, .ref (z + 0)), (1, .int (jI x1)), (2, .int (jI x2)), (3, .int (jI x3))] dX11_piecesOf_61 hl rfl (by decide) rfl (fun ls hl => ?_)
              refine r_goto C 10 dX11_piecesOf_64 (by decide) ?_
              exact ih10 _ _ _ hc7 hc8 _ _ _ h hM (lv_sub hl [2, 3, 4, 5, 1, 0] rfl)
  exact hL10 jFuel _ _ _ ⟨by decide, by decide⟩ ⟨by decide, by decide⟩ _ _ _ h hM1 (lv_sub hl [2, 3, 4, 5, 1, 0] rfl)
set_option maxRecDepth 100000 in
set_option maxHeartbeats 4000000 in
theorem c_X11_shot (l : Launch) (E : jE) (z : Nat) {x1 : Int} {x2 : Int} {M M' : Mem} {r : Int} (hx1 : inR x1) (hx2 : inR x2) (h : f_X11_shot x1 x2 M = some (r, M')) : CtI l yX11_shot cX11_shot 3 (some .int) { frames := 5, cells := 0, slots := 0, locals := 114 } E z LyR [.ref (z + 0), .int (jI x1), .int (jI x2)] M r M' := by
  refine jm (by decide +kernel) (Nat.le_of_ble_eq_true rfl) ?_
  intro p e sM m below meth c C hM0 hr hlk ls hl
  replace hl : lv_has ls 3 [(0, .ref (z + 0)), (1, .int (jI x1)), (2, .int (jI x2))] := hl
  unfold f_X11_shot at h
  refine r_aload_n C dX11_shot_0 rfl hl 0 rfl ?_
  refine r_aload_n C dX11_shot_1 rfl hl 0 rfl ?_
  refine r_iload_n C dX11_shot_2 rfl hl 1 rfl ?_
  replace h := bd_some h
  obtain ⟨r3, hf3, h⟩ := h
  refine r_callI (As := [.int (jI x1)]) (rest := [.ref (z + 0)]) C hM0 (c_X11_isShotThere l E z hx1 hf3) jy_X11_isShotThere lk_X11_426 dX11_shot_3 (recvW C hM0 jc11 lr_0.1 lr_0.2 rfl) rfl rfl hl.1 (Nat.le_of_ble_eq_true rfl) ⟨Nat.le_of_ble_eq_true rfl, Nat.le_of_ble_eq_true rfl⟩ ⟨rfl, rfl⟩ ⟨Nat.zero_le _, Nat.zero_le _⟩ (fun H locs hr3 hM1 => ?_)
  refine r_iload_n C dX11_shot_6 rfl hl 2 rfl ?_
  refine r_iconst C dX11_shot_7 ?_
  refine r_iconst C dX11_shot_8 ?_
  replace h := bd_some h
  obtain ⟨r9, hf9, h⟩ := h
  refine r_callSI (As := [.int (jI x2), .int (jI 0), .int (jI 4)]) (rest := [.int (jI r3), .ref (z + 0)]) C hM1 (c_X11_isIn l E z hx2 ⟨by decide, by decide⟩ ⟨by decide, by decide⟩ hf9) jy_X11_isIn lk_X11_112 dX11_shot_9 rfl rfl hl.1 (Nat.le_of_ble_eq_true rfl) ⟨Nat.le_of_ble_eq_true rfl, Nat.le_of_ble_eq_true rfl⟩ ⟨rfl, rfl⟩ ⟨Nat.zero_le _, Nat.zero_le _⟩ (fun H locs hr9 hM2 => ?_)
  replace h := bd_some h
  obtain ⟨⟨r12, M12⟩, hf12, h⟩ := h
  try dsimp only at h
  refine r_callI (As := [.int (jI r3), .int (jI r9)]) (rest := []) C hM2 (c_X11_goesBoth l E z hr3 hr9 hf12) jy_X11_goesBoth lk_X11_429 dX11_shot_12 (recvW C hM2 jc11 lr_0.1 lr_0.2 rfl) rfl rfl hl.1 (Nat.le_of_ble_eq_true rfl) ⟨Nat.le_of_ble_eq_true rfl, Nat.le_of_ble_eq_true rfl⟩ ⟨rfl, rfl⟩ ⟨Nat.zero_le _, Nat.zero_le _⟩ (fun H locs hr12 hM3 => ?_)
  refine r_if_ne C 20 hr12 dX11_shot_15 (by decide) (fun cq => ?_) (fun cq => ?_)
  · replace h := ifn cq h
    refine r_iload_n C dX11_shot_20 rfl hl 2 rfl ?_
    by_cases cq : x2 = 0
    · replace h := ifp cq h
      refine r_table C 48 hx2 dX11_shot_21 (by decide) (by rw [cq]; rfl) ?_
      refine r_aload_n C dX11_shot_48 rfl hl 0 rfl ?_
      refine r_iload_n C dX11_shot_49 rfl hl 1 rfl ?_
      replace h := bd_some h
      obtain ⟨r50, hf50, h⟩ := h
      refine r_callI (As := [.int (jI x1)]) (rest := []) C hM3 (c_X11_cameraOf l E z hx1 hf50) jy_X11_cameraOf lk_X11_108 dX11_shot_50 (recvW C hM3 jc11 lr_0.1 lr_0.2 rfl) rfl rfl hl.1 (Nat.le_of_ble_eq_true rfl) ⟨Nat.le_of_ble_eq_true rfl, Nat.le_of_ble_eq_true rfl⟩ ⟨rfl, rfl⟩ ⟨Nat.zero_le _, Nat.zero_le _⟩ (fun H locs hr50 hM4 => ?_)
      exact r_ireturnM C hM4 hr hlk hr50 h dX11_shot_53
    · replace h := ifn cq h
      have c21_0 := cq
      by_cases cq : x2 = 1
      · replace h := ifp cq h
        refine r_table C 54 hx2 dX11_shot_21 (by decide) (by rw [cq]; rfl) ?_
        refine r_aload_n C dX11_shot_54 rfl hl 0 rfl ?_
        refine r_iload_n C dX11_shot_55 rfl hl 1 rfl ?_
        replace h := bd_some h
        obtain ⟨r56, hf56, h⟩ := h
        refine r_callI (As := [.int (jI x1)]) (rest := []) C hM3 (c_X11_lengthOf l E z hx1 hf56) jy_X11_lengthOf lk_X11_218 dX11_shot_56 (recvW C hM3 jc11 lr_0.1 lr_0.2 rfl) rfl rfl hl.1 (Nat.le_of_ble_eq_true rfl) ⟨Nat.le_of_ble_eq_true rfl, Nat.le_of_ble_eq_true rfl⟩ ⟨rfl, rfl⟩ ⟨Nat.zero_le _, Nat.zero_le _⟩ (fun H locs hr56 hM5 => ?_)
        exact r_ireturnM C hM5 hr hlk hr56 h dX11_shot_59
      · replace h := ifn cq h
        have c21_1 := cq
        by_cases cq : x2 = 2
        · replace h := ifp cq h
          refine r_table C 60 hx2 dX11_shot_21 (by decide) (by rw [cq]; rfl) ?_
          refine r_aload_n C dX11_shot_60 rfl hl 0 rfl ?_
          refine r_iload_n C dX11_shot_61 rfl hl 1 rfl ?_
          replace h := bd_some h
          obtain ⟨r62, hf62, h⟩ := h
          refine r_callI (As := [.int (jI x1)]) (rest := []) C hM3 (c_X11_isBanned l E z hx1 hf62) jy_X11_isBanned lk_X11_187 dX11_shot_62 (recvW C hM3 jc11 lr_0.1 lr_0.2 rfl) rfl rfl hl.1 (Nat.le_of_ble_eq_true rfl) ⟨Nat.le_of_ble_eq_true rfl, Nat.le_of_ble_eq_true rfl⟩ ⟨rfl, rfl⟩ ⟨Nat.zero_le _, Nat.zero_le _⟩ (fun H locs hr62 hM6 => ?_)
          replace h := bd_some h
          obtain ⟨r65, hf65, h⟩ := h
          refine r_callSI (As := [.int (jI r62)]) (rest := []) C hM6 (c_X11_bit l E z hr62 hf65) jy_X11_bit lk_X11_133 dX11_shot_65 rfl rfl hl.1 (Nat.le_of_ble_eq_true rfl) ⟨Nat.le_of_ble_eq_true rfl, Nat.le_of_ble_eq_true rfl⟩ ⟨rfl, rfl⟩ ⟨Nat.zero_le _, Nat.zero_le _⟩ (fun H locs hr65 hM7 => ?_)
          exact r_ireturnM C hM7 hr hlk hr65 h dX11_shot_68
        · replace h := ifn cq h
          have c21_2 := cq
          have cd : jsw 21 0 2 (48) #[(27), (33), (39)] x2 = (69 : Int) := by
            have cz : (x2 < 0 ∨ 2 < x2) := by omega
            · unfold jsw; rw [if_pos cz]; rfl
          refine r_table C 69 hx2 dX11_shot_21 (by decide) cd ?_
          refine r_aload_n C dX11_shot_69 rfl hl 0 rfl ?_
          refine r_iconst C dX11_shot_70 ?_
          refine r_iload_n C dX11_shot_71 rfl hl 1 rfl ?_
          refine r_iload_n C dX11_shot_72 rfl hl 2 rfl ?_
          refine r_iconst C dX11_shot_73 ?_
          refine r_icmp_ne C 81 hx2 ⟨by decide, by decide⟩ dX11_shot_74 (by decide) (fun cq => ?_) (fun cq => ?_)
          · replace h := ifn cq h
            refine r_iconst C dX11_shot_81 ?_
            replace h := bd_some h
            obtain ⟨⟨r82, M82⟩, hf82, h⟩ := h
            try dsimp only at h
            refine r_callI (As := [.int (jI 0), .int (jI x1), .int (jI 0)]) (rest := []) C hM3 (c_X11_piecesOf l E z ⟨by decide, by decide⟩ hx1 ⟨by decide, by decide⟩ hf82) jy_X11_piecesOf lk_X11_433 dX11_shot_82 (recvW C hM3 jc11 lr_0.1 lr_0.2 rfl) rfl rfl hl.1 (Nat.le_of_ble_eq_true rfl) ⟨Nat.le_of_ble_eq_true rfl, Nat.le_of_ble_eq_true rfl⟩ ⟨rfl, rfl⟩ ⟨Nat.zero_le _, Nat.zero_le _⟩ (fun H locs hr82 hM8 => ?_)
            exact r_ireturnM C hM8 hr hlk hr82 h dX11_shot_85
          · replace h := ifp cq h
            refine r_iconst C dX11_shot_77 ?_
            refine r_goto C 82 dX11_shot_78 (by decide) ?_
            replace h := bd_some h
            obtain ⟨⟨r82, M82⟩, hf82, h⟩ := h
            try dsimp only at h
            refine r_callI (As := [.int (jI 0), .int (jI x1), .int (jI 1)]) (rest := []) C hM3 (c_X11_piecesOf l E z ⟨by decide, by decide⟩ hx1 ⟨by decide, by decide⟩ hf82) jy_X11_piecesOf lk_X11_433 dX11_shot_82 (recvW C hM3 jc11 lr_0.1 lr_0.2 rfl) rfl rfl hl.1 (Nat.le_of_ble_eq_true rfl) ⟨Nat.le_of_ble_eq_true rfl, Nat.le_of_ble_eq_true rfl⟩ ⟨rfl, rfl⟩ ⟨Nat.zero_le _, Nat.zero_le _⟩ (fun H locs hr82 hM9 => ?_)
            exact r_ireturnM C hM9 hr hlk hr82 h dX11_shot_85
  · replace h := ifp cq h
    refine r_iconst C dX11_shot_18 ?_
    exact r_ireturnM C hM3 hr hlk ⟨by decide, by decide⟩ h dX11_shot_19
set_option maxRecDepth 100000 in
set_option maxHeartbeats 4000000 in
theorem c_X11_isMap (l : Launch) (E : jE) (z : Nat) {x1 : Int} {M : Mem} {r : Int} (hx1 : inR x1) (h : f_X11_isMap x1 M = some r) : CtI l yX11_isMap cX11_isMap 2 (some .boolean) { frames := 1, cells := 0, slots := 0, locals := 22 } E z LyR [.ref (z + 0), .int (jI x1)] M r M := by
  refine jm (by decide +kernel) (Nat.le_of_ble_eq_true rfl) ?_
  intro p e sM m below meth c C hM0 hr hlk ls hl
  replace hl : lv_has ls 2 [(0, .ref (z + 0)), (1, .int (jI x1))] := hl
  unfold f_X11_isMap at h
  refine r_iload_n C dX11_isMap_0 rfl hl 1 rfl ?_
  refine r_iconst C dX11_isMap_1 ?_
  refine r_aload_n C dX11_isMap_2 rfl hl 0 rfl ?_
  refine r_getR C hM0 jc11 0 1 dX11_isMap_3 lk_X11_7 lr_0.1 lr_0.2 rfl rfl (by decide) rfl ?_
  refine r_bipush C dX11_isMap_6 rfl ?_
  refine r_iald C hM0 rfl dX11_isMap_8 lr_1.1 lr_1.2 (show (0 : Int) ≤ 6 ∧ (6 : Int) < 1062 by decide) ⟨by decide, by decide⟩ ?_
  refine r_iconst C dX11_isMap_9 ?_
  replace h := ck_some h
  obtain ⟨hc1, h⟩ := h
  refine r_isub C dX11_isMap_10 ?_
  replace h := bd_some h
  obtain ⟨r11, hf11, h⟩ := h
  refine r_callSI (As := [.int (jI x1), .int (jI 0), .int (jI ((M 1 (6 : Int).toNat) - 1))]) (rest := []) C hM0 (c_X11_isIn l E z hx1 ⟨by decide, by decide⟩ hc1 hf11) jy_X11_isIn lk_X11_112 dX11_isMap_11 rfl rfl hl.1 (Nat.le_of_ble_eq_true rfl) ⟨Nat.le_of_ble_eq_true rfl, Nat.le_of_ble_eq_true rfl⟩ ⟨rfl, rfl⟩ ⟨Nat.zero_le _, Nat.zero_le _⟩ (fun H locs hr11 hM2 => ?_)
  replace h := ck_some h
  obtain ⟨hc3, h⟩ := h
  exact r_zreturn C hM2 hr hlk hc3 h rfl dX11_isMap_14
set_option maxRecDepth 100000 in
set_option maxHeartbeats 4000000 in
theorem c_X11_namedBy (l : Launch) (E : jE) (z : Nat) {x1 : Int} {x2 : Int} {M M' : Mem} {r : Int} (hx1 : inR x1) (hx2 : inR x2) (h : f_X11_namedBy x1 x2 M = some (r, M')) : CtI l yX11_namedBy cX11_namedBy 6 (some .int) { frames := 4, cells := 0, slots := 0, locals := 89 } E z LyR [.ref (z + 0), .int (jI x1), .int (jI x2)] M r M' := by
  refine jm (by decide +kernel) (Nat.le_of_ble_eq_true rfl) ?_
  intro p e sM m below meth c C hM0 hr hlk ls hl
  replace hl : lv_has ls 6 [(0, .ref (z + 0)), (1, .int (jI x1)), (2, .int (jI x2))] := hl
  unfold f_X11_namedBy at h
  refine r_aload_n C dX11_namedBy_0 rfl hl 0 rfl ?_
  replace h := bd_some h
  obtain ⟨M1, hf1, h⟩ := h
  refine r_callV (As := []) (rest := []) C hM0 (c_X11_laysPieces l E z hf1) jy_X11_laysPieces lk_X11_209 dX11_namedBy_1 (recvW C hM0 jc11 lr_0.1 lr_0.2 rfl) rfl rfl hl.1 (Nat.le_of_ble_eq_true rfl) ⟨Nat.le_of_ble_eq_true rfl, Nat.le_of_ble_eq_true rfl⟩ ⟨rfl, rfl⟩ ⟨Nat.zero_le _, Nat.zero_le _⟩ (fun H locs hM1 => ?_)
  refine r_aload_n C dX11_namedBy_4 rfl hl 0 rfl ?_
  replace h := bd_some h
  obtain ⟨⟨r5, M5⟩, hf5, h⟩ := h
  try dsimp only at h
  refine r_callI (As := []) (rest := []) C hM1 (c_X11_laysWords l E z hf5) jy_X11_laysWords lk_X11_212 dX11_namedBy_5 (recvW C hM1 jc11 lr_0.1 lr_0.2 rfl) rfl rfl hl.1 (Nat.le_of_ble_eq_true rfl) ⟨Nat.le_of_ble_eq_true rfl, Nat.le_of_ble_eq_true rfl⟩ ⟨rfl, rfl⟩ ⟨Nat.zero_le _, Nat.zero_le _⟩ (fun H locs hr5 hM2 => ?_)
  refine r_istore_n C [(3, .int (jI r5)), (0, .ref (z + 0)), (1, .int (jI x1)), (2, .int (jI x2))] dX11_namedBy_8 rfl hl (by decide) rfl (fun ls hl => ?_)
  refine r_iconst C dX11_namedBy_9 ?_
  refine r_istore C [(4, .int (jI 0)), (3, .int (jI r5)), (0, .ref (z + 0)), (1, .int (jI x1)), (2, .int (jI x2))] dX11_namedBy_10 hl (by decide) rfl (fun ls hl => ?_)
  refine r_iconst C dX11_namedBy_12 ?_
  refine r_istore C [(5, .int (jI 0)), (4, .int (jI 0)), (3, .int (jI r5)), (0, .ref (z + 0)), (1, .int (jI x1)), (2, .int (jI x2))] dX11_namedBy_13 hl (by decide) rfl (fun ls hl => ?_)
  obtain ⟨y3, ey3⟩ : ∃ y : Int, y = r5 := ⟨_, rfl⟩
  have hy3 : inR y3 := by rw [ey3]; exact hr5
  have hL15 : ∀ n15 : Nat, ∀ (x4 : Int) (x5 : Int) (M : Mem), inR x4 → inR x5 → ∀ (H : Heap) (locs : List Loc) (ls : Array Slot), f_X11_namedBy_L15 x1 x2 y3 n15  x4 x5 M = some (r, M') → HS E z LyR M sM H locs → lv_has ls 6 [(0, .ref (z + 0)), (1, .int (jI x1)), (2, .int (jI x2)), (3, .int (jI y3)), (4, .int (jI x4)), (5, .int (jI x5))] → W p l e ({ frames := 4, cells := 0, slots := 0, locals := 89 } : Room) sM m (([.ref (z + 0), .int (jI x1), .int (jI x2)] : List Value).toArray) below meth c H locs 0 0 (MQ below (va_Qi (fun (w : Int32) (_ : Unit) => w = jI r ∧ inR r ∧ Mok LyR M') (fun _ t => va_P (eD E) vwCl (Wd (eC E) z LyR M') t.heap) (eA E)) (([.ref (z + 0), .int (jI x1), .int (jI x2)] : List Value).toArray) sM 0 0 (eA E)) (F0 m 15 ls []) := by
    intro n15
    induction n15 with
    | zero =>
      intro x4 x5 M hx4 hx5 H locs ls h hM hl
      exact absurd h (by simp [f_X11_namedBy_L15])
    | succ n15 ih15 =>
      intro x4 x5 M hx4 hx5 H locs ls h hM hl
      rw [f_X11_namedBy_L15] at h
      refine r_iload C dX11_namedBy_15 hl 5 rfl ?_
      refine r_aload_n C dX11_namedBy_17 rfl hl 0 rfl ?_
      refine r_getR C hM jc11 0 1 dX11_namedBy_18 lk_X11_7 lr_0.1 lr_0.2 rfl rfl (by decide) rfl ?_
      refine r_bipush C dX11_namedBy_21 rfl ?_
      refine r_iald C hM rfl dX11_namedBy_23 lr_1.1 lr_1.2 (show (0 : Int) ≤ 9 ∧ (9 : Int) < 1062 by decide) ⟨by decide, by decide⟩ ?_
      refine r_icmp_ge C 74 hx5 (hM.ok _ _) dX11_namedBy_24 (by decide) (fun cq => ?_) (fun cq => ?_)
      · replace h := ifp cq h
        refine r_iload C dX11_namedBy_74 hl 4 rfl ?_
        exact r_ireturnM C hM hr hlk hx4 h dX11_namedBy_76
      · replace h := ifn cq h
        refine r_iload_n C dX11_namedBy_27 rfl hl 3 rfl ?_
        refine r_if_lt C 74 hy3 dX11_namedBy_28 (by decide) (fun cq => ?_) (fun cq => ?_)
        · replace h := ifp cq h
          refine r_iload C dX11_namedBy_74 hl 4 rfl ?_
          exact r_ireturnM C hM hr hlk hx4 h dX11_namedBy_76
        · replace h := ifn cq h
          refine r_iload C dX11_namedBy_31 hl 4 rfl ?_
          refine r_aload_n C dX11_namedBy_33 rfl hl 0 rfl ?_
          refine r_iload C dX11_namedBy_34 hl 5 rfl ?_
          refine r_iload_n C dX11_namedBy_36 rfl hl 1 rfl ?_
          replace h := bd_some h
          obtain ⟨r37, hf37, h⟩ := h
          refine r_callI (As := [.int (jI x5), .int (jI x1)]) (rest := [.int (jI x4)]) C hM (c_X11_isNamed l E z hx5 hx1 hf37) jy_X11_isNamed lk_X11_178 dX11_namedBy_37 (recvW C hM jc11 lr_0.1 lr_0.2 rfl) rfl rfl hl.1 (Nat.le_of_ble_eq_true rfl) ⟨Nat.le_of_ble_eq_true rfl, Nat.le_of_ble_eq_true rfl⟩ ⟨rfl, rfl⟩ ⟨Nat.zero_le _, Nat.zero_le _⟩ (fun H locs hr37 hM3 => ?_)
          replace h := jn_some h
          obtain ⟨k62, hk62, h⟩ := h
          have hJ62 : ∀ (v62 : Int), inR v62 → ∀ (H : Heap) (locs : List Loc) (ls : Array Slot), k62 v62 = some (r, M') → HS E z LyR M sM H locs → lv_has ls 6 [(0, .ref (z + 0)), (1, .int (jI x1)), (2, .int (jI x2)), (3, .int (jI y3)), (5, .int (jI x5))] → W p l e ({ frames := 4, cells := 0, slots := 0, locals := 89 } : Room) sM m (([.ref (z + 0), .int (jI x1), .int (jI x2)] : List Value).toArray) below meth c H locs 0 0 (MQ below (va_Qi (fun (w : Int32) (_ : Unit) => w = jI r ∧ inR r ∧ Mok LyR M') (fun _ t => va_P (eD E) vwCl (Wd (eC E) z LyR M') t.heap) (eA E)) (([.ref (z + 0), .int (jI x1), .int (jI x2)] : List Value).toArray) sM 0 0 (eA E)) (F0 m 62 ls [.int (jI v62), .int (jI x4)]) := by
            intro v62 hv62 H locs ls h hMj62 hl
            subst hk62
            try dsimp only at h
            replace h := bd_some h
            obtain ⟨r62, hf62, h⟩ := h
            refine r_callSI (As := [.int (jI v62)]) (rest := [.int (jI x4)]) C hMj62 (c_X11_bit l E z hv62 hf62) jy_X11_bit lk_X11_133 dX11_namedBy_62 rfl rfl hl.1 (Nat.le_of_ble_eq_true rfl) ⟨Nat.le_of_ble_eq_true rfl, Nat.le_of_ble_eq_true rfl⟩ ⟨rfl, rfl⟩ ⟨Nat.zero_le _, Nat.zero_le _⟩ (fun H locs hr62 hM4 => ?_)
            replace h := ck_some h
            obtain ⟨hc5, h⟩ := h
            refine r_iadd C dX11_namedBy_65 ?_
            refine r_istore C [(4, .int (jI (x4 + r62))), (0, .ref (z + 0)), (1, .int (jI x1)), (2, .int (jI x2)), (3, .int (jI y3)), (5, .int (jI x5))] dX11_namedBy_66 hl (by decide) rfl (fun ls hl => ?_)
            replace h := ck_some h
            obtain ⟨hc6, h⟩ := h
            refine r_iinc (j := 5) (x := x5) C [(5, .int (jI (x5 + 1))), (4, .int (jI (x4 + r62))), (0, .ref (z + 0)), (1, .int (jI x1)), (2, .int (jI x2)), (3, .int (jI y3))] dX11_namedBy_68 hl rfl (by decide) rfl (fun ls hl => ?_)
            refine r_goto C 15 dX11_namedBy_71 (by decide) ?_
            exact ih15 _ _ _ hc5 hc6 _ _ _ h hM4 (lv_sub hl [2, 3, 4, 5, 1, 0] rfl)
          replace h := jn_some h
          obtain ⟨k61, hk61, h⟩ := h
          have hJ61 : ∀ (_ : Unit), ∀ (H : Heap) (locs : List Loc) (ls : Array Slot), k61 () = some (r, M') → HS E z LyR M sM H locs → lv_has ls 6 [(0, .ref (z + 0)), (1, .int (jI x1)), (2, .int (jI x2)), (3, .int (jI y3)), (5, .int (jI x5))] → W p l e ({ frames := 4, cells := 0, slots := 0, locals := 89 } : Room) sM m (([.ref (z + 0), .int (jI x1), .int (jI x2)] : List Value).toArray) below meth c H locs 0 0 (MQ below (va_Qi (fun (w : Int32) (_ : Unit) => w = jI r ∧ inR r ∧ Mok LyR M') (fun _ t => va_P (eD E) vwCl (Wd (eC E) z LyR M') t.heap) (eA E)) (([.ref (z + 0), .int (jI x1), .int (jI x2)] : List Value).toArray) sM 0 0 (eA E)) (F0 m 61 ls [.int (jI x4)]) := by
            intro _ H locs ls h hMj61 hl
            subst hk61
            try dsimp only at h
            refine r_iconst C dX11_namedBy_61 ?_
            exact hJ62 _ ⟨by decide, by decide⟩ _ _ _ h hMj61 (lv_sub hl [0, 1, 2, 3, 4] rfl)
          refine r_if_eq C 61 hr37 dX11_namedBy_40 (by decide) (fun cq => ?_) (fun cq => ?_)
          · replace h := ifp cq h
            exact hJ61 () _ _ _ h hM3 (lv_sub hl [0, 1, 2, 3, 5] rfl)
          · replace h := ifn cq h
            refine r_iload_n C dX11_namedBy_43 rfl hl 2 rfl ?_
            replace h := jn_some h
            obtain ⟨k57, hk57, h⟩ := h
            have hJ57 : ∀ (_ : Unit), ∀ (H : Heap) (locs : List Loc) (ls : Array Slot), k57 () = some (r, M') → HS E z LyR M sM H locs → lv_has ls 6 [(0, .ref (z + 0)), (1, .int (jI x1)), (2, .int (jI x2)), (3, .int (jI y3)), (5, .int (jI x5))] → W p l e ({ frames := 4, cells := 0, slots := 0, locals := 89 } : Room) sM m (([.ref (z + 0), .int (jI x1), .int (jI x2)] : List Value).toArray) below meth c H locs 0 0 (MQ below (va_Qi (fun (w : Int32) (_ : Unit) => w = jI r ∧ inR r ∧ Mok LyR M') (fun _ t => va_P (eD E) vwCl (Wd (eC E) z LyR M') t.heap) (eA E)) (([.ref (z + 0), .int (jI x1), .int (jI x2)] : List Value).toArray) sM 0 0 (eA E)) (F0 m 57 ls [.int (jI x4)]) := by
              intro _ H locs ls h hMj57 hl
              subst hk57
              try dsimp only at h
              refine r_iconst C dX11_namedBy_57 ?_
              refine r_goto C 62 dX11_namedBy_58 (by decide) ?_
              exact hJ62 _ ⟨by decide, by decide⟩ _ _ _ h hMj57 (lv_sub hl [0, 1, 2, 3, 4] rfl)
            refine r_if_eq C 57 hx2 dX11_namedBy_44 (by decide) (fun cq => ?_) (fun cq => ?_)
            · replace h := ifp cq h
              exact hJ57 () _ _ _ h hM3 (lv_sub hl [0, 1, 2, 3, 5] rfl)
            · replace h := ifn cq h
              refine r_aload_n C dX11_namedBy_47 rfl hl 0 rfl ?_
              refine r_iload_n C dX11_namedBy_48 rfl hl 1 rfl ?_
              refine r_iload C dX11_namedBy_49 hl 5 rfl ?_
              replace h := bd_some h
              obtain ⟨r51, hf51, h⟩ := h
              refine r_callI (As := [.int (jI x1), .int (jI x5)]) (rest := [.int (jI x4)]) C hM3 (c_X11_isShown l E z hx1 hx5 hf51) jy_X11_isShown lk_X11_193 dX11_namedBy_51 (recvW C hM3 jc11 lr_0.1 lr_0.2 rfl) rfl rfl hl.1 (Nat.le_of_ble_eq_true rfl) ⟨Nat.le_of_ble_eq_true rfl, Nat.le_of_ble_eq_true rfl⟩ ⟨rfl, rfl⟩ ⟨Nat.zero_le _, Nat.zero_le _⟩ (fun H locs hr51 hM7 => ?_)
              refine r_if_eq C 61 hr51 dX11_namedBy_54 (by decide) (fun cq => ?_) (fun cq => ?_)
              · replace h := ifp cq h
                exact hJ61 () _ _ _ h hM7 (lv_sub hl [0, 1, 2, 3, 5] rfl)
              · replace h := ifn cq h
                exact hJ57 () _ _ _ h hM7 (lv_sub hl [0, 1, 2, 3, 5] rfl)
  rw [← ey3] at h
  have hl := lv_sub (l' := [(0, .ref (z + 0)), (1, .int (jI x1)), (2, .int (jI x2)), (3, .int (jI y3)), (4, .int (jI 0)), (5, .int (jI 0))]) hl [3, 4, 5, 2, 1, 0] (by rw [ey3]; rfl)
  exact hL15 jFuel _ _ _ ⟨by decide, by decide⟩ ⟨by decide, by decide⟩ _ _ _ h hM2 hl
set_option maxRecDepth 100000 in
set_option maxHeartbeats 4000000 in
theorem c_X11_map (l : Launch) (E : jE) (z : Nat) {x1 : Int} {x2 : Int} {M M' : Mem} {r : Int} (hx1 : inR x1) (hx2 : inR x2) (h : f_X11_map x1 x2 M = some (r, M')) : CtI l yX11_map cX11_map 3 (some .int) { frames := 5, cells := 0, slots := 0, locals := 114 } E z LyR [.ref (z + 0), .int (jI x1), .int (jI x2)] M r M' := by
  refine jm (by decide +kernel) (Nat.le_of_ble_eq_true rfl) ?_
  intro p e sM m below meth c C hM0 hr hlk ls hl
  replace hl : lv_has ls 3 [(0, .ref (z + 0)), (1, .int (jI x1)), (2, .int (jI x2))] := hl
  unfold f_X11_map at h
  refine r_aload_n C dX11_map_0 rfl hl 0 rfl ?_
  refine r_aload_n C dX11_map_1 rfl hl 0 rfl ?_
  refine r_iload_n C dX11_map_2 rfl hl 1 rfl ?_
  replace h := bd_some h
  obtain ⟨r3, hf3, h⟩ := h
  refine r_callI (As := [.int (jI x1)]) (rest := [.ref (z + 0)]) C hM0 (c_X11_isMap l E z hx1 hf3) jy_X11_isMap lk_X11_437 dX11_map_3 (recvW C hM0 jc11 lr_0.1 lr_0.2 rfl) rfl rfl hl.1 (Nat.le_of_ble_eq_true rfl) ⟨Nat.le_of_ble_eq_true rfl, Nat.le_of_ble_eq_true rfl⟩ ⟨rfl, rfl⟩ ⟨Nat.zero_le _, Nat.zero_le _⟩ (fun H locs hr3 hM1 => ?_)
  refine r_iload_n C dX11_map_6 rfl hl 2 rfl ?_
  refine r_iconst C dX11_map_7 ?_
  refine r_iconst C dX11_map_8 ?_
  replace h := bd_some h
  obtain ⟨r9, hf9, h⟩ := h
  refine r_callSI (As := [.int (jI x2), .int (jI 0), .int (jI 3)]) (rest := [.int (jI r3), .ref (z + 0)]) C hM1 (c_X11_isIn l E z hx2 ⟨by decide, by decide⟩ ⟨by decide, by decide⟩ hf9) jy_X11_isIn lk_X11_112 dX11_map_9 rfl rfl hl.1 (Nat.le_of_ble_eq_true rfl) ⟨Nat.le_of_ble_eq_true rfl, Nat.le_of_ble_eq_true rfl⟩ ⟨rfl, rfl⟩ ⟨Nat.zero_le _, Nat.zero_le _⟩ (fun H locs hr9 hM2 => ?_)
  replace h := bd_some h
  obtain ⟨⟨r12, M12⟩, hf12, h⟩ := h
  try dsimp only at h
  refine r_callI (As := [.int (jI r3), .int (jI r9)]) (rest := []) C hM2 (c_X11_goesBoth l E z hr3 hr9 hf12) jy_X11_goesBoth lk_X11_429 dX11_map_12 (recvW C hM2 jc11 lr_0.1 lr_0.2 rfl) rfl rfl hl.1 (Nat.le_of_ble_eq_true rfl) ⟨Nat.le_of_ble_eq_true rfl, Nat.le_of_ble_eq_true rfl⟩ ⟨rfl, rfl⟩ ⟨Nat.zero_le _, Nat.zero_le _⟩ (fun H locs hr12 hM3 => ?_)
  refine r_if_ne C 20 hr12 dX11_map_15 (by decide) (fun cq => ?_) (fun cq => ?_)
  · replace h := ifn cq h
    refine r_iload_n C dX11_map_20 rfl hl 2 rfl ?_
    by_cases cq : x2 = 0
    · replace h := ifp cq h
      refine r_lookup C 48 (27) hx2 dX11_map_21 (by decide) (by rw [cq]; rfl) (by decide) ?_
      refine r_aload_n C dX11_map_48 rfl hl 0 rfl ?_
      refine r_getR C hM3 jc11 0 1 dX11_map_49 lk_X11_7 lr_0.1 lr_0.2 rfl rfl (by decide) rfl ?_
      refine r_bipush C dX11_map_52 rfl ?_
      refine r_bipush C dX11_map_54 rfl ?_
      refine r_iload_n C dX11_map_56 rfl hl 1 rfl ?_
      replace h := ck_some h
      obtain ⟨hc4, h⟩ := h
      refine r_imul C dX11_map_57 ?_
      replace h := ck_some h
      obtain ⟨hc5, h⟩ := h
      refine r_iadd C dX11_map_58 ?_
      replace h := ck_some h
      obtain ⟨hc6, h⟩ := h
      refine r_iald C hM3 rfl dX11_map_59 lr_1.1 lr_1.2 hc6 hc5 ?_
      exact r_ireturnM C hM3 hr hlk (hM3.ok _ _) h dX11_map_60
    · replace h := ifn cq h
      have c21_0 := cq
      by_cases cq : x2 = 2
      · replace h := ifp cq h
        refine r_lookup C 61 (40) hx2 dX11_map_21 (by decide) (by rw [cq]; rfl) (by decide) ?_
        refine r_aload_n C dX11_map_61 rfl hl 0 rfl ?_
        refine r_iconst C dX11_map_62 ?_
        refine r_iload_n C dX11_map_63 rfl hl 1 rfl ?_
        refine r_iconst C dX11_map_64 ?_
        replace h := bd_some h
        obtain ⟨⟨r65, M65⟩, hf65, h⟩ := h
        try dsimp only at h
        refine r_callI (As := [.int (jI 1), .int (jI x1), .int (jI 0)]) (rest := []) C hM3 (c_X11_piecesOf l E z ⟨by decide, by decide⟩ hx1 ⟨by decide, by decide⟩ hf65) jy_X11_piecesOf lk_X11_433 dX11_map_65 (recvW C hM3 jc11 lr_0.1 lr_0.2 rfl) rfl rfl hl.1 (Nat.le_of_ble_eq_true rfl) ⟨Nat.le_of_ble_eq_true rfl, Nat.le_of_ble_eq_true rfl⟩ ⟨rfl, rfl⟩ ⟨Nat.zero_le _, Nat.zero_le _⟩ (fun H locs hr65 hM7 => ?_)
        exact r_ireturnM C hM7 hr hlk hr65 h dX11_map_68
      · replace h := ifn cq h
        have c21_2 := cq
        refine r_lookup C 69 (48) hx2 dX11_map_21 (by decide) ?_ (by decide) ?_
        · simp only [Op.lookupswitch.offset, List.find?]
          (repeat' split) <;> first | rfl | omega | simp_all
        · refine r_aload_n C dX11_map_69 rfl hl 0 rfl ?_
          refine r_iload_n C dX11_map_70 rfl hl 1 rfl ?_
          refine r_iload_n C dX11_map_71 rfl hl 2 rfl ?_
          refine r_iconst C dX11_map_72 ?_
          refine r_icmp_ne C 80 hx2 ⟨by decide, by decide⟩ dX11_map_73 (by decide) (fun cq => ?_) (fun cq => ?_)
          · replace h := ifn cq h
            refine r_iconst C dX11_map_80 ?_
            replace h := bd_some h
            obtain ⟨⟨r81, M81⟩, hf81, h⟩ := h
            try dsimp only at h
            refine r_callI (As := [.int (jI x1), .int (jI 0)]) (rest := []) C hM3 (c_X11_namedBy l E z hx1 ⟨by decide, by decide⟩ hf81) jy_X11_namedBy lk_X11_440 dX11_map_81 (recvW C hM3 jc11 lr_0.1 lr_0.2 rfl) rfl rfl hl.1 (Nat.le_of_ble_eq_true rfl) ⟨Nat.le_of_ble_eq_true rfl, Nat.le_of_ble_eq_true rfl⟩ ⟨rfl, rfl⟩ ⟨Nat.zero_le _, Nat.zero_le _⟩ (fun H locs hr81 hM8 => ?_)
            exact r_ireturnM C hM8 hr hlk hr81 h dX11_map_84
          · replace h := ifp cq h
            refine r_iconst C dX11_map_76 ?_
            refine r_goto C 81 dX11_map_77 (by decide) ?_
            replace h := bd_some h
            obtain ⟨⟨r81, M81⟩, hf81, h⟩ := h
            try dsimp only at h
            refine r_callI (As := [.int (jI x1), .int (jI 1)]) (rest := []) C hM3 (c_X11_namedBy l E z hx1 ⟨by decide, by decide⟩ hf81) jy_X11_namedBy lk_X11_440 dX11_map_81 (recvW C hM3 jc11 lr_0.1 lr_0.2 rfl) rfl rfl hl.1 (Nat.le_of_ble_eq_true rfl) ⟨Nat.le_of_ble_eq_true rfl, Nat.le_of_ble_eq_true rfl⟩ ⟨rfl, rfl⟩ ⟨Nat.zero_le _, Nat.zero_le _⟩ (fun H locs hr81 hM9 => ?_)
            exact r_ireturnM C hM9 hr hlk hr81 h dX11_map_84
  · replace h := ifp cq h
    refine r_iconst C dX11_map_18 ?_
    exact r_ireturnM C hM3 hr hlk ⟨by decide, by decide⟩ h dX11_map_19
set_option maxRecDepth 100000 in
set_option maxHeartbeats 4000000 in
theorem c_X11_shotsBy (l : Launch) (E : jE) (z : Nat) {x1 : Int} {M : Mem} {r : Int} (hx1 : inR x1) (h : f_X11_shotsBy x1 M = some r) : CtI l yX11_shotsBy cX11_shotsBy 4 (some .int) { frames := 1, cells := 0, slots := 0, locals := 21 } E z LyR [.ref (z + 0), .int (jI x1)] M r M := by
  refine jm (by decide +kernel) (Nat.le_of_ble_eq_true rfl) ?_
  intro p e sM m below meth c C hM0 hr hlk ls hl
  replace hl : lv_has ls 4 [(0, .ref (z + 0)), (1, .int (jI x1))] := hl
  unfold f_X11_shotsBy at h
  refine r_iconst C dX11_shotsBy_0 ?_
  refine r_istore_n C [(2, .int (jI 0)), (0, .ref (z + 0)), (1, .int (jI x1))] dX11_shotsBy_1 rfl hl (by decide) rfl (fun ls hl => ?_)
  refine r_iconst C dX11_shotsBy_2 ?_
  refine r_istore_n C [(3, .int (jI 0)), (2, .int (jI 0)), (0, .ref (z + 0)), (1, .int (jI x1))] dX11_shotsBy_3 rfl hl (by decide) rfl (fun ls hl => ?_)
  have hL4 : ∀ n4 : Nat, ∀ (x2 : Int) (x3 : Int), inR x2 → inR x3 → ∀ (H : Heap) (locs : List Loc) (ls : Array Slot), f_X11_shotsBy_L4 x1 M n4  x2 x3 = some r → HS E z LyR M sM H locs → lv_has ls 4 [(0, .ref (z + 0)), (1, .int (jI x1)), (2, .int (jI x2)), (3, .int (jI x3))] → W p l e ({ frames := 1, cells := 0, slots := 0, locals := 21 } : Room) sM m (([.ref (z + 0), .int (jI x1)] : List Value).toArray) below meth c H locs 0 0 (MQ below (va_Qi (fun (w : Int32) (_ : Unit) => w = jI r ∧ inR r ∧ Mok LyR M) (fun _ t => va_P (eD E) vwCl (Wd (eC E) z LyR M) t.heap) (eA E)) (([.ref (z + 0), .int (jI x1)] : List Value).toArray) sM 0 0 (eA E)) (F0 m 4 ls []) := by
    intro n4
    induction n4 with
    | zero =>
      intro x2 x3 hx2 hx3 H locs ls h hM hl
      exact absurd h (by simp [f_X11_shotsBy_L4])
    | succ n4 ih4 =>
      intro x2 x3 hx2 hx3 H locs ls h hM hl
      rw [f_X11_shotsBy_L4] at h
      refine r_iload_n C dX11_shotsBy_4 rfl hl 3 rfl ?_
      refine r_aload_n C dX11_shotsBy_5 rfl hl 0 rfl ?_
      refine r_getR C hM jc11 0 1 dX11_shotsBy_6 lk_X11_7 lr_0.1 lr_0.2 rfl rfl (by decide) rfl ?_
      refine r_iconst C dX11_shotsBy_9 ?_
      refine r_iald C hM rfl dX11_shotsBy_10 lr_1.1 lr_1.2 (show (0 : Int) ≤ 5 ∧ (5 : Int) < 1062 by decide) ⟨by decide, by decide⟩ ?_
      refine r_icmp_ge C 40 hx3 (hM.ok _ _) dX11_shotsBy_11 (by decide) (fun cq => ?_) (fun cq => ?_)
      · replace h := ifp cq h
        refine r_iload_n C dX11_shotsBy_40 rfl hl 2 rfl ?_
        exact r_ireturn C hM hr hlk hx2 h rfl dX11_shotsBy_41
      · replace h := ifn cq h
        refine r_iload_n C dX11_shotsBy_14 rfl hl 2 rfl ?_
        refine r_aload_n C dX11_shotsBy_15 rfl hl 0 rfl ?_
        refine r_iload_n C dX11_shotsBy_16 rfl hl 3 rfl ?_
        replace h := bd_some h
        obtain ⟨r17, hf17, h⟩ := h
        refine r_callI (As := [.int (jI x3)]) (rest := [.int (jI x2)]) C hM (c_X11_cameraOf l E z hx3 hf17) jy_X11_cameraOf lk_X11_108 dX11_shotsBy_17 (recvW C hM jc11 lr_0.1 lr_0.2 rfl) rfl rfl hl.1 (Nat.le_of_ble_eq_true rfl) ⟨Nat.le_of_ble_eq_true rfl, Nat.le_of_ble_eq_true rfl⟩ ⟨rfl, rfl⟩ ⟨Nat.zero_le _, Nat.zero_le _⟩ (fun H locs hr17 hM1 => ?_)
        refine r_iload_n C dX11_shotsBy_20 rfl hl 1 rfl ?_
        replace h := jn_some h
        obtain ⟨k29, hk29, h⟩ := h
        have hJ29 : ∀ (v29 : Int), inR v29 → ∀ (H : Heap) (locs : List Loc) (ls : Array Slot), k29 v29 = some r → HS E z LyR M sM H locs → lv_has ls 4 [(0, .ref (z + 0)), (1, .int (jI x1)), (3, .int (jI x3))] → W p l e ({ frames := 1, cells := 0, slots := 0, locals := 21 } : Room) sM m (([.ref (z + 0), .int (jI x1)] : List Value).toArray) below meth c H locs 0 0 (MQ below (va_Qi (fun (w : Int32) (_ : Unit) => w = jI r ∧ inR r ∧ Mok LyR M) (fun _ t => va_P (eD E) vwCl (Wd (eC E) z LyR M) t.heap) (eA E)) (([.ref (z + 0), .int (jI x1)] : List Value).toArray) sM 0 0 (eA E)) (F0 m 29 ls [.int (jI v29), .int (jI x2)]) := by
          intro v29 hv29 H locs ls h hMj29 hl
          subst hk29
          try dsimp only at h
          replace h := bd_some h
          obtain ⟨r29, hf29, h⟩ := h
          refine r_callSI (As := [.int (jI v29)]) (rest := [.int (jI x2)]) C hMj29 (c_X11_bit l E z hv29 hf29) jy_X11_bit lk_X11_133 dX11_shotsBy_29 rfl rfl hl.1 (Nat.le_of_ble_eq_true rfl) ⟨Nat.le_of_ble_eq_true rfl, Nat.le_of_ble_eq_true rfl⟩ ⟨rfl, rfl⟩ ⟨Nat.zero_le _, Nat.zero_le _⟩ (fun H locs hr29 hM2 => ?_)
          replace h := ck_some h
          obtain ⟨hc3, h⟩ := h
          refine r_iadd C dX11_shotsBy_32 ?_
          refine r_istore_n C [(2, .int (jI (x2 + r29))), (0, .ref (z + 0)), (1, .int (jI x1)), (3, .int (jI x3))] dX11_shotsBy_33 rfl hl (by decide) rfl (fun ls hl => ?_)
          replace h := ck_some h
          obtain ⟨hc4, h⟩ := h
          refine r_iinc (j := 3) (x := x3) C [(3, .int (jI (x3 + 1))), (2, .int (jI (x2 + r29))), (0, .ref (z + 0)), (1, .int (jI x1))] dX11_shotsBy_34 hl rfl (by decide) rfl (fun ls hl => ?_)
          refine r_goto C 4 dX11_shotsBy_37 (by decide) ?_
          exact ih4 _ _ hc3 hc4 _ _ _ h hM2 (lv_sub hl [2, 3, 1, 0] rfl)
        refine r_icmp_ne C 28 hr17 hx1 dX11_shotsBy_21 (by decide) (fun cq => ?_) (fun cq => ?_)
        · replace h := ifn cq h
          refine r_iconst C dX11_shotsBy_28 ?_
          exact hJ29 _ ⟨by decide, by decide⟩ _ _ _ h hM1 (lv_sub hl [0, 1, 3] rfl)
        · replace h := ifp cq h
          refine r_iconst C dX11_shotsBy_24 ?_
          refine r_goto C 29 dX11_shotsBy_25 (by decide) ?_
          exact hJ29 _ ⟨by decide, by decide⟩ _ _ _ h hM1 (lv_sub hl [0, 1, 3] rfl)
  exact hL4 jFuel _ _ ⟨by decide, by decide⟩ ⟨by decide, by decide⟩ _ _ _ h hM0 (lv_sub hl [2, 3, 1, 0] rfl)
set_option maxRecDepth 100000 in
set_option maxHeartbeats 4000000 in
theorem c_X11_ban (l : Launch) (E : jE) (z : Nat) {x1 : Int} {x2 : Int} {M M' : Mem} {r : Int} (hx1 : inR x1) (hx2 : inR x2) (h : f_X11_ban x1 x2 M = some (r, M')) : CtI l yX11_ban cX11_ban 4 (some .int) { frames := 2, cells := 0, slots := 0, locals := 44 } E z LyR [.ref (z + 0), .int (jI x1), .int (jI x2)] M r M' := by
  refine jm (by decide +kernel) (Nat.le_of_ble_eq_true rfl) ?_
  intro p e sM m below meth c C hM0 hr hlk ls hl
  replace hl : lv_has ls 4 [(0, .ref (z + 0)), (1, .int (jI x1)), (2, .int (jI x2))] := hl
  unfold f_X11_ban at h
  refine r_aload_n C dX11_ban_0 rfl hl 0 rfl ?_
  refine r_iload_n C dX11_ban_1 rfl hl 1 rfl ?_
  refine r_iconst C dX11_ban_2 ?_
  refine r_aload_n C dX11_ban_3 rfl hl 0 rfl ?_
  refine r_getR C hM0 jc11 0 1 dX11_ban_4 lk_X11_7 lr_0.1 lr_0.2 rfl rfl (by decide) rfl ?_
  refine r_bipush C dX11_ban_7 rfl ?_
  refine r_iald C hM0 rfl dX11_ban_9 lr_1.1 lr_1.2 (show (0 : Int) ≤ 7 ∧ (7 : Int) < 1062 by decide) ⟨by decide, by decide⟩ ?_
  refine r_iconst C dX11_ban_10 ?_
  replace h := ck_some h
  obtain ⟨hc1, h⟩ := h
  refine r_isub C dX11_ban_11 ?_
  replace h := bd_some h
  obtain ⟨r12, hf12, h⟩ := h
  refine r_callSI (As := [.int (jI x1), .int (jI 0), .int (jI ((M 1 (7 : Int).toNat) - 1))]) (rest := [.ref (z + 0)]) C hM0 (c_X11_isIn l E z hx1 ⟨by decide, by decide⟩ hc1 hf12) jy_X11_isIn lk_X11_112 dX11_ban_12 rfl rfl hl.1 (Nat.le_of_ble_eq_true rfl) ⟨Nat.le_of_ble_eq_true rfl, Nat.le_of_ble_eq_true rfl⟩ ⟨rfl, rfl⟩ ⟨Nat.zero_le _, Nat.zero_le _⟩ (fun H locs hr12 hM2 => ?_)
  refine r_iload_n C dX11_ban_15 rfl hl 2 rfl ?_
  refine r_iconst C dX11_ban_16 ?_
  refine r_iconst C dX11_ban_17 ?_
  replace h := bd_some h
  obtain ⟨r18, hf18, h⟩ := h
  refine r_callSI (As := [.int (jI x2), .int (jI 0), .int (jI 3)]) (rest := [.int (jI r12), .ref (z + 0)]) C hM2 (c_X11_isIn l E z hx2 ⟨by decide, by decide⟩ ⟨by decide, by decide⟩ hf18) jy_X11_isIn lk_X11_112 dX11_ban_18 rfl rfl hl.1 (Nat.le_of_ble_eq_true rfl) ⟨Nat.le_of_ble_eq_true rfl, Nat.le_of_ble_eq_true rfl⟩ ⟨rfl, rfl⟩ ⟨Nat.zero_le _, Nat.zero_le _⟩ (fun H locs hr18 hM3 => ?_)
  replace h := bd_some h
  obtain ⟨⟨r21, M21⟩, hf21, h⟩ := h
  try dsimp only at h
  refine r_callI (As := [.int (jI r12), .int (jI r18)]) (rest := []) C hM3 (c_X11_goesBoth l E z hr12 hr18 hf21) jy_X11_goesBoth lk_X11_429 dX11_ban_21 (recvW C hM3 jc11 lr_0.1 lr_0.2 rfl) rfl rfl hl.1 (Nat.le_of_ble_eq_true rfl) ⟨Nat.le_of_ble_eq_true rfl, Nat.le_of_ble_eq_true rfl⟩ ⟨rfl, rfl⟩ ⟨Nat.zero_le _, Nat.zero_le _⟩ (fun H locs hr21 hM4 => ?_)
  refine r_if_ne C 29 hr21 dX11_ban_24 (by decide) (fun cq => ?_) (fun cq => ?_)
  · replace h := ifn cq h
    refine r_bipush C dX11_ban_29 rfl ?_
    refine r_iconst C dX11_ban_31 ?_
    refine r_iload_n C dX11_ban_32 rfl hl 1 rfl ?_
    replace h := ck_some h
    obtain ⟨hc5, h⟩ := h
    refine r_imul C dX11_ban_33 ?_
    replace h := ck_some h
    obtain ⟨hc6, h⟩ := h
    refine r_iadd C dX11_ban_34 ?_
    refine r_istore_n C [(3, .int (jI (96 + (3 * x1)))), (0, .ref (z + 0)), (1, .int (jI x1)), (2, .int (jI x2))] dX11_ban_35 rfl hl (by decide) rfl (fun ls hl => ?_)
    refine r_iload_n C dX11_ban_36 rfl hl 3 rfl ?_
    refine r_iconst C dX11_ban_37 ?_
    refine r_icmp_ge C 52 hx2 ⟨by decide, by decide⟩ dX11_ban_38 (by decide) (fun cq => ?_) (fun cq => ?_)
    · replace h := ifp cq h
      refine r_aload_n C dX11_ban_52 rfl hl 1 rfl ?_
      refine r_aload_n C dX11_ban_53 rfl hl 1 rfl ?_
      refine r_getR C hM4 jc11 0 1 dX11_ban_54 lk_X11_7 lr_0.1 lr_0.2 rfl rfl (by decide) rfl ?_
      refine r_iload_n C dX11_ban_57 rfl hl 0 rfl ?_
      replace h := ck_some h
      obtain ⟨hc7, h⟩ := h
      refine r_iald C hM4 rfl dX11_ban_58 lr_1.1 lr_1.2 hc7 hc6 ?_
      replace h := bd_some h
      obtain ⟨r59, hf59, h⟩ := h
      refine r_callI (As := [.int (jI (M21 1 (96 + (3 * x1)).toNat))]) (rest := []) C hM4 (c_X11_shotsBy l E z (hM4.ok _ _) hf59) jy_X11_shotsBy lk_X11_444 dX11_ban_59 (recvW C hM4 jc11 lr_0.1 lr_0.2 rfl) rfl rfl hl.1 (Nat.le_of_ble_eq_true rfl) ⟨Nat.le_of_ble_eq_true rfl, Nat.le_of_ble_eq_true rfl⟩ ⟨rfl, rfl⟩ ⟨Nat.zero_le _, Nat.zero_le _⟩ (fun H locs hr59 hM8 => ?_)
      exact r_ireturnM C hM8 hr hlk hr59 h dX11_ban_62
    · replace h := ifn cq h
      refine r_aload_n C dX11_ban_41 rfl hl 1 rfl ?_
      refine r_getR C hM4 jc11 0 1 dX11_ban_42 lk_X11_7 lr_0.1 lr_0.2 rfl rfl (by decide) rfl ?_
      refine r_iload_n C dX11_ban_45 rfl hl 0 rfl ?_
      refine r_iload_n C dX11_ban_46 rfl hl 3 rfl ?_
      replace h := ck_some h
      obtain ⟨hc9, h⟩ := h
      refine r_iadd C dX11_ban_47 ?_
      replace h := ck_some h
      obtain ⟨hc10, h⟩ := h
      refine r_iald C hM4 rfl dX11_ban_48 lr_1.1 lr_1.2 hc10 hc9 ?_
      refine r_goto C 62 dX11_ban_49 (by decide) ?_
      exact r_ireturnM C hM4 hr hlk (hM4.ok _ _) h dX11_ban_62
  · replace h := ifp cq h
    refine r_iconst C dX11_ban_27 ?_
    exact r_ireturnM C hM4 hr hlk ⟨by decide, by decide⟩ h dX11_ban_28
set_option maxRecDepth 100000 in
set_option maxHeartbeats 4000000 in
theorem c_X11_word (l : Launch) (E : jE) (z : Nat) {x1 : Int} {x2 : Int} {M M' : Mem} {r : Int} (hx1 : inR x1) (hx2 : inR x2) (h : f_X11_word x1 x2 M = some (r, M')) : CtI l yX11_word cX11_word 4 (some .int) { frames := 4, cells := 0, slots := 0, locals := 91 } E z LyR [.ref (z + 0), .int (jI x1), .int (jI x2)] M r M' := by
  refine jm (by decide +kernel) (Nat.le_of_ble_eq_true rfl) ?_
  intro p e sM m below meth c C hM0 hr hlk ls hl
  replace hl : lv_has ls 4 [(0, .ref (z + 0)), (1, .int (jI x1)), (2, .int (jI x2))] := hl
  unfold f_X11_word at h
  refine r_aload_n C dX11_word_0 rfl hl 0 rfl ?_
  refine r_iload_n C dX11_word_1 rfl hl 1 rfl ?_
  refine r_iconst C dX11_word_2 ?_
  refine r_aload_n C dX11_word_3 rfl hl 0 rfl ?_
  refine r_getR C hM0 jc11 0 1 dX11_word_4 lk_X11_7 lr_0.1 lr_0.2 rfl rfl (by decide) rfl ?_
  refine r_bipush C dX11_word_7 rfl ?_
  refine r_iald C hM0 rfl dX11_word_9 lr_1.1 lr_1.2 (show (0 : Int) ≤ 9 ∧ (9 : Int) < 1062 by decide) ⟨by decide, by decide⟩ ?_
  refine r_iconst C dX11_word_10 ?_
  replace h := ck_some h
  obtain ⟨hc1, h⟩ := h
  refine r_isub C dX11_word_11 ?_
  replace h := bd_some h
  obtain ⟨r12, hf12, h⟩ := h
  refine r_callSI (As := [.int (jI x1), .int (jI 0), .int (jI ((M 1 (9 : Int).toNat) - 1))]) (rest := [.ref (z + 0)]) C hM0 (c_X11_isIn l E z hx1 ⟨by decide, by decide⟩ hc1 hf12) jy_X11_isIn lk_X11_112 dX11_word_12 rfl rfl hl.1 (Nat.le_of_ble_eq_true rfl) ⟨Nat.le_of_ble_eq_true rfl, Nat.le_of_ble_eq_true rfl⟩ ⟨rfl, rfl⟩ ⟨Nat.zero_le _, Nat.zero_le _⟩ (fun H locs hr12 hM2 => ?_)
  refine r_iload_n C dX11_word_15 rfl hl 2 rfl ?_
  refine r_iconst C dX11_word_16 ?_
  refine r_iconst C dX11_word_17 ?_
  replace h := bd_some h
  obtain ⟨r18, hf18, h⟩ := h
  refine r_callSI (As := [.int (jI x2), .int (jI 0), .int (jI 5)]) (rest := [.int (jI r12), .ref (z + 0)]) C hM2 (c_X11_isIn l E z hx2 ⟨by decide, by decide⟩ ⟨by decide, by decide⟩ hf18) jy_X11_isIn lk_X11_112 dX11_word_18 rfl rfl hl.1 (Nat.le_of_ble_eq_true rfl) ⟨Nat.le_of_ble_eq_true rfl, Nat.le_of_ble_eq_true rfl⟩ ⟨rfl, rfl⟩ ⟨Nat.zero_le _, Nat.zero_le _⟩ (fun H locs hr18 hM3 => ?_)
  replace h := bd_some h
  obtain ⟨⟨r21, M21⟩, hf21, h⟩ := h
  try dsimp only at h
  refine r_callI (As := [.int (jI r12), .int (jI r18)]) (rest := []) C hM3 (c_X11_goesBoth l E z hr12 hr18 hf21) jy_X11_goesBoth lk_X11_429 dX11_word_21 (recvW C hM3 jc11 lr_0.1 lr_0.2 rfl) rfl rfl hl.1 (Nat.le_of_ble_eq_true rfl) ⟨Nat.le_of_ble_eq_true rfl, Nat.le_of_ble_eq_true rfl⟩ ⟨rfl, rfl⟩ ⟨Nat.zero_le _, Nat.zero_le _⟩ (fun H locs hr21 hM4 => ?_)
  refine r_if_ne C 29 hr21 dX11_word_24 (by decide) (fun cq => ?_) (fun cq => ?_)
  · replace h := ifn cq h
    refine r_aload_n C dX11_word_29 rfl hl 0 rfl ?_
    replace h := bd_some h
    obtain ⟨⟨r30, M30⟩, hf30, h⟩ := h
    try dsimp only at h
    refine r_callI (As := []) (rest := []) C hM4 (c_X11_laysWords l E z hf30) jy_X11_laysWords lk_X11_212 dX11_word_30 (recvW C hM4 jc11 lr_0.1 lr_0.2 rfl) rfl rfl hl.1 (Nat.le_of_ble_eq_true rfl) ⟨Nat.le_of_ble_eq_true rfl, Nat.le_of_ble_eq_true rfl⟩ ⟨rfl, rfl⟩ ⟨Nat.zero_le _, Nat.zero_le _⟩ (fun H locs hr30 hM5 => ?_)
    refine r_istore_n C [(3, .int (jI r30)), (0, .ref (z + 0)), (1, .int (jI x1)), (2, .int (jI x2))] dX11_word_33 rfl hl (by decide) rfl (fun ls hl => ?_)
    refine r_iload_n C dX11_word_34 rfl hl 3 rfl ?_
    by_cases cq : x2 = 0
    · replace h := ifp cq h
      refine r_table C 68 hx2 dX11_word_35 (by decide) (by rw [cq]; rfl) ?_
      refine r_aload_n C dX11_word_68 rfl hl 1 rfl ?_
      refine r_iload_n C dX11_word_69 rfl hl 2 rfl ?_
      refine r_iconst C dX11_word_70 ?_
      replace h := bd_some h
      obtain ⟨r71, hf71, h⟩ := h
      refine r_callI (As := [.int (jI x1), .int (jI 1)]) (rest := []) C hM5 (c_X11_w l E z hx1 ⟨by decide, by decide⟩ hf71) jy_X11_w lk_X11_165 dX11_word_71 (recvW C hM5 jc11 lr_0.1 lr_0.2 rfl) rfl rfl hl.1 (Nat.le_of_ble_eq_true rfl) ⟨Nat.le_of_ble_eq_true rfl, Nat.le_of_ble_eq_true rfl⟩ ⟨rfl, rfl⟩ ⟨Nat.zero_le _, Nat.zero_le _⟩ (fun H locs hr71 hM6 => ?_)
      exact r_ireturnM C hM6 hr hlk hr71 h dX11_word_74
    · replace h := ifn cq h
      have c35_0 := cq
      by_cases cq : x2 = 1
      · replace h := ifp cq h
        refine r_table C 75 hx2 dX11_word_35 (by decide) (by rw [cq]; rfl) ?_
        refine r_aload_n C dX11_word_75 rfl hl 1 rfl ?_
        refine r_iload_n C dX11_word_76 rfl hl 2 rfl ?_
        replace h := bd_some h
        obtain ⟨r77, hf77, h⟩ := h
        refine r_callI (As := [.int (jI x1)]) (rest := []) C hM5 (c_X11_syllables l E z hx1 hf77) jy_X11_syllables lk_X11_175 dX11_word_77 (recvW C hM5 jc11 lr_0.1 lr_0.2 rfl) rfl rfl hl.1 (Nat.le_of_ble_eq_true rfl) ⟨Nat.le_of_ble_eq_true rfl, Nat.le_of_ble_eq_true rfl⟩ ⟨rfl, rfl⟩ ⟨Nat.zero_le _, Nat.zero_le _⟩ (fun H locs hr77 hM7 => ?_)
        exact r_ireturnM C hM7 hr hlk hr77 h dX11_word_80
      · replace h := ifn cq h
        have c35_1 := cq
        by_cases cq : x2 = 2
        · replace h := ifp cq h
          refine r_table C 81 hx2 dX11_word_35 (by decide) (by rw [cq]; rfl) ?_
          refine r_aload_n C dX11_word_81 rfl hl 1 rfl ?_
          refine r_getR C hM5 jc11 23 19 dX11_word_82 lk_X11_65 lr_0.1 lr_0.2 rfl rfl (by decide) rfl ?_
          refine r_iload_n C dX11_word_85 rfl hl 2 rfl ?_
          replace h := ck_some h
          obtain ⟨hc8, h⟩ := h
          refine r_iald C hM5 rfl dX11_word_86 lr_19.1 lr_19.2 hc8 hx1 ?_
          exact r_ireturnM C hM5 hr hlk (hM5.ok _ _) h dX11_word_87
        · replace h := ifn cq h
          have c35_2 := cq
          by_cases cq : x2 = 3
          · replace h := ifp cq h
            refine r_table C 88 hx2 dX11_word_35 (by decide) (by rw [cq]; rfl) ?_
            refine r_aload_n C dX11_word_88 rfl hl 1 rfl ?_
            refine r_getR C hM5 jc11 24 20 dX11_word_89 lk_X11_68 lr_0.1 lr_0.2 rfl rfl (by decide) rfl ?_
            refine r_iload_n C dX11_word_92 rfl hl 2 rfl ?_
            replace h := ck_some h
            obtain ⟨hc9, h⟩ := h
            refine r_iald C hM5 rfl dX11_word_93 lr_20.1 lr_20.2 hc9 hx1 ?_
            exact r_ireturnM C hM5 hr hlk (hM5.ok _ _) h dX11_word_94
          · replace h := ifn cq h
            have c35_3 := cq
            by_cases cq : x2 = 4
            · replace h := ifp cq h
              refine r_table C 95 hx2 dX11_word_35 (by decide) (by rw [cq]; rfl) ?_
              refine r_aload_n C dX11_word_95 rfl hl 1 rfl ?_
              refine r_iload_n C dX11_word_96 rfl hl 2 rfl ?_
              replace h := bd_some h
              obtain ⟨r97, hf97, h⟩ := h
              refine r_callI (As := [.int (jI x1)]) (rest := []) C hM5 (c_X11_mapOf l E z hx1 hf97) jy_X11_mapOf lk_X11_190 dX11_word_97 (recvW C hM5 jc11 lr_0.1 lr_0.2 rfl) rfl rfl hl.1 (Nat.le_of_ble_eq_true rfl) ⟨Nat.le_of_ble_eq_true rfl, Nat.le_of_ble_eq_true rfl⟩ ⟨rfl, rfl⟩ ⟨Nat.zero_le _, Nat.zero_le _⟩ (fun H locs hr97 hM10 => ?_)
              exact r_ireturnM C hM10 hr hlk hr97 h dX11_word_100
            · replace h := ifn cq h
              have c35_4 := cq
              have cd : jsw 35 0 4 (66) #[(33), (40), (46), (53), (60)] x2 = (101 : Int) := by
                have cz : (x2 < 0 ∨ 4 < x2) := by omega
                · unfold jsw; rw [if_pos cz]; rfl
              refine r_table C 101 hx2 dX11_word_35 (by decide) cd ?_
              refine r_aload_n C dX11_word_101 rfl hl 1 rfl ?_
              refine r_iload_n C dX11_word_102 rfl hl 2 rfl ?_
              replace h := bd_some h
              obtain ⟨r103, hf103, h⟩ := h
              refine r_callI (As := [.int (jI x1)]) (rest := []) C hM5 (c_X11_sentencesAhead l E z hx1 hf103) jy_X11_sentencesAhead lk_X11_423 dX11_word_103 (recvW C hM5 jc11 lr_0.1 lr_0.2 rfl) rfl rfl hl.1 (Nat.le_of_ble_eq_true rfl) ⟨Nat.le_of_ble_eq_true rfl, Nat.le_of_ble_eq_true rfl⟩ ⟨rfl, rfl⟩ ⟨Nat.zero_le _, Nat.zero_le _⟩ (fun H locs hr103 hM11 => ?_)
              exact r_ireturnM C hM11 hr hlk hr103 h dX11_word_106
  · replace h := ifp cq h
    refine r_iconst C dX11_word_27 ?_
    exact r_ireturnM C hM4 hr hlk ⟨by decide, by decide⟩ h dX11_word_28
set_option maxRecDepth 100000 in
set_option maxHeartbeats 4000000 in
theorem c_X11_piece (l : Launch) (E : jE) (z : Nat) {x1 : Int} {x2 : Int} {M M' : Mem} {r : Int} (hx1 : inR x1) (hx2 : inR x2) (h : f_X11_piece x1 x2 M = some (r, M')) : CtI l yX11_piece cX11_piece 3 (some .int) { frames := 4, cells := 0, slots := 0, locals := 89 } E z LyR [.ref (z + 0), .int (jI x1), .int (jI x2)] M r M' := by
  refine jm (by decide +kernel) (Nat.le_of_ble_eq_true rfl) ?_
  intro p e sM m below meth c C hM0 hr hlk ls hl
  replace hl : lv_has ls 3 [(0, .ref (z + 0)), (1, .int (jI x1)), (2, .int (jI x2))] := hl
  unfold f_X11_piece at h
  refine r_aload_n C dX11_piece_0 rfl hl 0 rfl ?_
  replace h := bd_some h
  obtain ⟨M1, hf1, h⟩ := h
  refine r_callV (As := []) (rest := []) C hM0 (c_X11_laysPieces l E z hf1) jy_X11_laysPieces lk_X11_209 dX11_piece_1 (recvW C hM0 jc11 lr_0.1 lr_0.2 rfl) rfl rfl hl.1 (Nat.le_of_ble_eq_true rfl) ⟨Nat.le_of_ble_eq_true rfl, Nat.le_of_ble_eq_true rfl⟩ ⟨rfl, rfl⟩ ⟨Nat.zero_le _, Nat.zero_le _⟩ (fun H locs hM1 => ?_)
  refine r_aload_n C dX11_piece_4 rfl hl 0 rfl ?_
  refine r_iload_n C dX11_piece_5 rfl hl 1 rfl ?_
  refine r_iconst C dX11_piece_6 ?_
  refine r_aload_n C dX11_piece_7 rfl hl 0 rfl ?_
  refine r_getI C hM1 jc11 17 rfl dX11_piece_8 lk_X11_126 lr_0.1 lr_0.2 rfl rfl (by decide) rfl ?_
  refine r_iconst C dX11_piece_11 ?_
  replace h := ck_some h
  obtain ⟨hc2, h⟩ := h
  refine r_isub C dX11_piece_12 ?_
  replace h := bd_some h
  obtain ⟨r13, hf13, h⟩ := h
  refine r_callSI (As := [.int (jI x1), .int (jI 0), .int (jI ((M1 0 17) - 1))]) (rest := [.ref (z + 0)]) C hM1 (c_X11_isIn l E z hx1 ⟨by decide, by decide⟩ hc2 hf13) jy_X11_isIn lk_X11_112 dX11_piece_13 rfl rfl hl.1 (Nat.le_of_ble_eq_true rfl) ⟨Nat.le_of_ble_eq_true rfl, Nat.le_of_ble_eq_true rfl⟩ ⟨rfl, rfl⟩ ⟨Nat.zero_le _, Nat.zero_le _⟩ (fun H locs hr13 hM3 => ?_)
  refine r_iload_n C dX11_piece_16 rfl hl 2 rfl ?_
  refine r_iconst C dX11_piece_17 ?_
  refine r_bipush C dX11_piece_18 rfl ?_
  replace h := bd_some h
  obtain ⟨r20, hf20, h⟩ := h
  refine r_callSI (As := [.int (jI x2), .int (jI 0), .int (jI 6)]) (rest := [.int (jI r13), .ref (z + 0)]) C hM3 (c_X11_isIn l E z hx2 ⟨by decide, by decide⟩ ⟨by decide, by decide⟩ hf20) jy_X11_isIn lk_X11_112 dX11_piece_20 rfl rfl hl.1 (Nat.le_of_ble_eq_true rfl) ⟨Nat.le_of_ble_eq_true rfl, Nat.le_of_ble_eq_true rfl⟩ ⟨rfl, rfl⟩ ⟨Nat.zero_le _, Nat.zero_le _⟩ (fun H locs hr20 hM4 => ?_)
  replace h := bd_some h
  obtain ⟨⟨r23, M23⟩, hf23, h⟩ := h
  try dsimp only at h
  refine r_callI (As := [.int (jI r13), .int (jI r20)]) (rest := []) C hM4 (c_X11_goesBoth l E z hr13 hr20 hf23) jy_X11_goesBoth lk_X11_429 dX11_piece_23 (recvW C hM4 jc11 lr_0.1 lr_0.2 rfl) rfl rfl hl.1 (Nat.le_of_ble_eq_true rfl) ⟨Nat.le_of_ble_eq_true rfl, Nat.le_of_ble_eq_true rfl⟩ ⟨rfl, rfl⟩ ⟨Nat.zero_le _, Nat.zero_le _⟩ (fun H locs hr23 hM5 => ?_)
  refine r_if_ne C 31 hr23 dX11_piece_26 (by decide) (fun cq => ?_) (fun cq => ?_)
  · replace h := ifn cq h
    refine r_iload_n C dX11_piece_31 rfl hl 2 rfl ?_
    by_cases cq : x2 = 0
    · replace h := ifp cq h
      refine r_table C 72 hx2 dX11_piece_32 (by decide) (by rw [cq]; rfl) ?_
      refine r_aload_n C dX11_piece_72 rfl hl 0 rfl ?_
      refine r_getR C hM5 jc11 8 7 dX11_piece_73 lk_X11_29 lr_0.1 lr_0.2 rfl rfl (by decide) rfl ?_
      refine r_iload_n C dX11_piece_76 rfl hl 1 rfl ?_
      replace h := ck_some h
      obtain ⟨hc6, h⟩ := h
      refine r_iald C hM5 rfl dX11_piece_77 lr_7.1 lr_7.2 hc6 hx1 ?_
      exact r_ireturnM C hM5 hr hlk (hM5.ok _ _) h dX11_piece_78
    · replace h := ifn cq h
      have c32_0 := cq
      by_cases cq : x2 = 1
      · replace h := ifp cq h
        refine r_table C 79 hx2 dX11_piece_32 (by decide) (by rw [cq]; rfl) ?_
        refine r_aload_n C dX11_piece_79 rfl hl 0 rfl ?_
        refine r_getR C hM5 jc11 9 8 dX11_piece_80 lk_X11_32 lr_0.1 lr_0.2 rfl rfl (by decide) rfl ?_
        refine r_iload_n C dX11_piece_83 rfl hl 1 rfl ?_
        replace h := ck_some h
        obtain ⟨hc7, h⟩ := h
        refine r_iald C hM5 rfl dX11_piece_84 lr_8.1 lr_8.2 hc7 hx1 ?_
        exact r_ireturnM C hM5 hr hlk (hM5.ok _ _) h dX11_piece_85
      · replace h := ifn cq h
        have c32_1 := cq
        by_cases cq : x2 = 2
        · replace h := ifp cq h
          refine r_table C 86 hx2 dX11_piece_32 (by decide) (by rw [cq]; rfl) ?_
          refine r_aload_n C dX11_piece_86 rfl hl 0 rfl ?_
          refine r_getR C hM5 jc11 10 9 dX11_piece_87 lk_X11_35 lr_0.1 lr_0.2 rfl rfl (by decide) rfl ?_
          refine r_iload_n C dX11_piece_90 rfl hl 1 rfl ?_
          replace h := ck_some h
          obtain ⟨hc8, h⟩ := h
          refine r_iald C hM5 rfl dX11_piece_91 lr_9.1 lr_9.2 hc8 hx1 ?_
          exact r_ireturnM C hM5 hr hlk (hM5.ok _ _) h dX11_piece_92
        · replace h := ifn cq h
          have c32_2 := cq
          by_cases cq : x2 = 3
          · replace h := ifp cq h
            refine r_table C 93 hx2 dX11_piece_32 (by decide) (by rw [cq]; rfl) ?_
            refine r_aload_n C dX11_piece_93 rfl hl 0 rfl ?_
            refine r_getR C hM5 jc11 11 10 dX11_piece_94 lk_X11_38 lr_0.1 lr_0.2 rfl rfl (by decide) rfl ?_
            refine r_iload_n C dX11_piece_97 rfl hl 1 rfl ?_
            replace h := ck_some h
            obtain ⟨hc9, h⟩ := h
            refine r_iald C hM5 rfl dX11_piece_98 lr_10.1 lr_10.2 hc9 hx1 ?_
            exact r_ireturnM C hM5 hr hlk (hM5.ok _ _) h dX11_piece_99
          · replace h := ifn cq h
            have c32_3 := cq
            by_cases cq : x2 = 4
            · replace h := ifp cq h
              refine r_table C 100 hx2 dX11_piece_32 (by decide) (by rw [cq]; rfl) ?_
              refine r_aload_n C dX11_piece_100 rfl hl 0 rfl ?_
              refine r_getR C hM5 jc11 12 11 dX11_piece_101 lk_X11_41 lr_0.1 lr_0.2 rfl rfl (by decide) rfl ?_
              refine r_iload_n C dX11_piece_104 rfl hl 1 rfl ?_
              replace h := ck_some h
              obtain ⟨hc10, h⟩ := h
              refine r_iald C hM5 rfl dX11_piece_105 lr_11.1 lr_11.2 hc10 hx1 ?_
              exact r_ireturnM C hM5 hr hlk (hM5.ok _ _) h dX11_piece_106
            · replace h := ifn cq h
              have c32_4 := cq
              by_cases cq : x2 = 5
              · replace h := ifp cq h
                refine r_table C 107 hx2 dX11_piece_32 (by decide) (by rw [cq]; rfl) ?_
                refine r_aload_n C dX11_piece_107 rfl hl 0 rfl ?_
                refine r_iload_n C dX11_piece_108 rfl hl 1 rfl ?_
                replace h := bd_some h
                obtain ⟨r109, hf109, h⟩ := h
                refine r_callI (As := [.int (jI x1)]) (rest := []) C hM5 (c_X11_endOf l E z hx1 hf109) jy_X11_endOf lk_X11_159 dX11_piece_109 (recvW C hM5 jc11 lr_0.1 lr_0.2 rfl) rfl rfl hl.1 (Nat.le_of_ble_eq_true rfl) ⟨Nat.le_of_ble_eq_true rfl, Nat.le_of_ble_eq_true rfl⟩ ⟨rfl, rfl⟩ ⟨Nat.zero_le _, Nat.zero_le _⟩ (fun H locs hr109 hM11 => ?_)
                exact r_ireturnM C hM11 hr hlk hr109 h dX11_piece_112
              · replace h := ifn cq h
                have c32_5 := cq
                have cd : jsw 32 0 5 (81) #[(40), (47), (54), (61), (68), (75)] x2 = (113 : Int) := by
                  have cz : (x2 < 0 ∨ 5 < x2) := by omega
                  · unfold jsw; rw [if_pos cz]; rfl
                refine r_table C 113 hx2 dX11_piece_32 (by decide) cd ?_
                refine r_aload_n C dX11_piece_113 rfl hl 0 rfl ?_
                refine r_getR C hM5 jc11 13 12 dX11_piece_114 lk_X11_44 lr_0.1 lr_0.2 rfl rfl (by decide) rfl ?_
                refine r_iload_n C dX11_piece_117 rfl hl 1 rfl ?_
                replace h := ck_some h
                obtain ⟨hc12, h⟩ := h
                refine r_iald C hM5 rfl dX11_piece_118 lr_12.1 lr_12.2 hc12 hx1 ?_
                exact r_ireturnM C hM5 hr hlk (hM5.ok _ _) h dX11_piece_119
  · replace h := ifp cq h
    refine r_iconst C dX11_piece_29 ?_
    exact r_ireturnM C hM5 hr hlk ⟨by decide, by decide⟩ h dX11_piece_30
set_option maxRecDepth 100000 in
set_option maxHeartbeats 4000000 in
theorem c_X11_longest (l : Launch) (E : jE) (z : Nat) {M : Mem} {r : Int} (h : f_X11_longest M = some r) : CtI l yX11_longest cX11_longest 3 (some .int) { frames := 1, cells := 0, slots := 0, locals := 13 } E z LyR [.ref (z + 0)] M r M := by
  refine jm (by decide +kernel) (Nat.le_of_ble_eq_true rfl) ?_
  intro p e sM m below meth c C hM0 hr hlk ls hl
  replace hl : lv_has ls 3 [(0, .ref (z + 0))] := hl
  unfold f_X11_longest at h
  refine r_iconst C dX11_longest_0 ?_
  refine r_istore_n C [(1, .int (jI 0)), (0, .ref (z + 0))] dX11_longest_1 rfl hl (by decide) rfl (fun ls hl => ?_)
  refine r_iconst C dX11_longest_2 ?_
  refine r_istore_n C [(2, .int (jI 0)), (1, .int (jI 0)), (0, .ref (z + 0))] dX11_longest_3 rfl hl (by decide) rfl (fun ls hl => ?_)
  have hL4 : ∀ n4 : Nat, ∀ (x1 : Int) (x2 : Int), inR x1 → inR x2 → ∀ (H : Heap) (locs : List Loc) (ls : Array Slot), f_X11_longest_L4 M n4  x1 x2 = some r → HS E z LyR M sM H locs → lv_has ls 3 [(0, .ref (z + 0)), (1, .int (jI x1)), (2, .int (jI x2))] → W p l e ({ frames := 1, cells := 0, slots := 0, locals := 13 } : Room) sM m (([.ref (z + 0)] : List Value).toArray) below meth c H locs 0 0 (MQ below (va_Qi (fun (w : Int32) (_ : Unit) => w = jI r ∧ inR r ∧ Mok LyR M) (fun _ t => va_P (eD E) vwCl (Wd (eC E) z LyR M) t.heap) (eA E)) (([.ref (z + 0)] : List Value).toArray) sM 0 0 (eA E)) (F0 m 4 ls []) := by
    intro n4
    induction n4 with
    | zero =>
      intro x1 x2 hx1 hx2 H locs ls h hM hl
      exact absurd h (by simp [f_X11_longest_L4])
    | succ n4 ih4 =>
      intro x1 x2 hx1 hx2 H locs ls h hM hl
      rw [f_X11_longest_L4] at h
      refine r_iload_n C dX11_longest_4 rfl hl 2 rfl ?_
      refine r_aload_n C dX11_longest_5 rfl hl 0 rfl ?_
      refine r_getI C hM jc11 17 rfl dX11_longest_6 lk_X11_126 lr_0.1 lr_0.2 rfl rfl (by decide) rfl ?_
      refine r_icmp_ge C 29 hx2 (hM.ok _ _) dX11_longest_9 (by decide) (fun cq => ?_) (fun cq => ?_)
      · replace h := ifp cq h
        refine r_iload_n C dX11_longest_29 rfl hl 1 rfl ?_
        exact r_ireturn C hM hr hlk hx1 h rfl dX11_longest_30
      · replace h := ifn cq h
        refine r_iload_n C dX11_longest_12 rfl hl 1 rfl ?_
        refine r_aload_n C dX11_longest_13 rfl hl 0 rfl ?_
        refine r_getR C hM jc11 11 10 dX11_longest_14 lk_X11_38 lr_0.1 lr_0.2 rfl rfl (by decide) rfl ?_
        refine r_iload_n C dX11_longest_17 rfl hl 2 rfl ?_
        replace h := ck_some h
        obtain ⟨hc1, h⟩ := h
        refine r_iald C hM rfl dX11_longest_18 lr_10.1 lr_10.2 hc1 hx2 ?_
        refine r_max C hx1 (hM.ok _ _) lk_X11_162 dX11_longest_19 hl.1 ⟨Nat.le_of_ble_eq_true rfl, Nat.le_of_ble_eq_true rfl⟩ ⟨Nat.zero_le _, Nat.zero_le _⟩ ?_
        refine r_istore_n C [(1, .int (jI (max x1 (M 10 x2.toNat)))), (0, .ref (z + 0)), (2, .int (jI x2))] dX11_longest_22 rfl hl (by decide) rfl (fun ls hl => ?_)
        replace h := ck_some h
        obtain ⟨hc2, h⟩ := h
        refine r_iinc (j := 2) (x := x2) C [(2, .int (jI (x2 + 1))), (1, .int (jI (max x1 (M 10 x2.toNat)))), (0, .ref (z + 0))] dX11_longest_23 hl rfl (by decide) rfl (fun ls hl => ?_)
        refine r_goto C 4 dX11_longest_26 (by decide) ?_
        exact ih4 _ _ (max_R hx1 (hM.ok _ _)) hc2 _ _ _ h hM (lv_sub hl [2, 1, 0] rfl)
  exact hL4 jFuel _ _ ⟨by decide, by decide⟩ ⟨by decide, by decide⟩ _ _ _ h hM0 (lv_sub hl [2, 1, 0] rfl)
set_option maxRecDepth 100000 in
set_option maxHeartbeats 4000000 in
theorem c_X11_overlaps (l : Launch) (E : jE) (z : Nat) {M : Mem} {r : Int} (h : f_X11_overlaps M = some r) : CtI l yX11_overlaps cX11_overlaps 3 (some .int) { frames := 0, cells := 0, slots := 0, locals := 0 } E z LyR [.ref (z + 0)] M r M := by
  refine jm (by decide +kernel) (Nat.le_of_ble_eq_true rfl) ?_
  intro p e sM m below meth c C hM0 hr hlk ls hl
  replace hl : lv_has ls 3 [(0, .ref (z + 0))] := hl
  unfold f_X11_overlaps at h
  refine r_iconst C dX11_overlaps_0 ?_
  refine r_istore_n C [(1, .int (jI 0)), (0, .ref (z + 0))] dX11_overlaps_1 rfl hl (by decide) rfl (fun ls hl => ?_)
  refine r_iconst C dX11_overlaps_2 ?_
  refine r_istore_n C [(2, .int (jI 0)), (1, .int (jI 0)), (0, .ref (z + 0))] dX11_overlaps_3 rfl hl (by decide) rfl (fun ls hl => ?_)
  have hL4 : ∀ n4 : Nat, ∀ (x1 : Int) (x2 : Int), inR x1 → inR x2 → ∀ (H : Heap) (locs : List Loc) (ls : Array Slot), f_X11_overlaps_L4 M n4  x1 x2 = some r → HS E z LyR M sM H locs → lv_has ls 3 [(0, .ref (z + 0)), (1, .int (jI x1)), (2, .int (jI x2))] → W p l e ({ frames := 0, cells := 0, slots := 0, locals := 0 } : Room) sM m (([.ref (z + 0)] : List Value).toArray) below meth c H locs 0 0 (MQ below (va_Qi (fun (w : Int32) (_ : Unit) => w = jI r ∧ inR r ∧ Mok LyR M) (fun _ t => va_P (eD E) vwCl (Wd (eC E) z LyR M) t.heap) (eA E)) (([.ref (z + 0)] : List Value).toArray) sM 0 0 (eA E)) (F0 m 4 ls []) := by
    intro n4
    induction n4 with
    | zero =>
      intro x1 x2 hx1 hx2 H locs ls h hM hl
      exact absurd h (by simp [f_X11_overlaps_L4])
    | succ n4 ih4 =>
      intro x1 x2 hx1 hx2 H locs ls h hM hl
      rw [f_X11_overlaps_L4] at h
      refine r_iload_n C dX11_overlaps_4 rfl hl 2 rfl ?_
      refine r_aload_n C dX11_overlaps_5 rfl hl 0 rfl ?_
      refine r_getI C hM jc11 17 rfl dX11_overlaps_6 lk_X11_126 lr_0.1 lr_0.2 rfl rfl (by decide) rfl ?_
      refine r_icmp_ge C 27 hx2 (hM.ok _ _) dX11_overlaps_9 (by decide) (fun cq => ?_) (fun cq => ?_)
      · replace h := ifp cq h
        refine r_iload_n C dX11_overlaps_27 rfl hl 1 rfl ?_
        exact r_ireturn C hM hr hlk hx1 h rfl dX11_overlaps_28
      · replace h := ifn cq h
        refine r_iload_n C dX11_overlaps_12 rfl hl 1 rfl ?_
        refine r_aload_n C dX11_overlaps_13 rfl hl 0 rfl ?_
        refine r_getR C hM jc11 13 12 dX11_overlaps_14 lk_X11_44 lr_0.1 lr_0.2 rfl rfl (by decide) rfl ?_
        refine r_iload_n C dX11_overlaps_17 rfl hl 2 rfl ?_
        replace h := ck_some h
        obtain ⟨hc1, h⟩ := h
        refine r_iald C hM rfl dX11_overlaps_18 lr_12.1 lr_12.2 hc1 hx2 ?_
        replace h := ck_some h
        obtain ⟨hc2, h⟩ := h
        refine r_iadd C dX11_overlaps_19 ?_
        refine r_istore_n C [(1, .int (jI (x1 + (M 12 x2.toNat)))), (0, .ref (z + 0)), (2, .int (jI x2))] dX11_overlaps_20 rfl hl (by decide) rfl (fun ls hl => ?_)
        replace h := ck_some h
        obtain ⟨hc3, h⟩ := h
        refine r_iinc (j := 2) (x := x2) C [(2, .int (jI (x2 + 1))), (1, .int (jI (x1 + (M 12 x2.toNat)))), (0, .ref (z + 0))] dX11_overlaps_21 hl rfl (by decide) rfl (fun ls hl => ?_)
        refine r_goto C 4 dX11_overlaps_24 (by decide) ?_
        exact ih4 _ _ hc2 hc3 _ _ _ h hM (lv_sub hl [2, 1, 0] rfl)
  exact hL4 jFuel _ _ ⟨by decide, by decide⟩ ⟨by decide, by decide⟩ _ _ _ h hM0 (lv_sub hl [2, 1, 0] rfl)
set_option maxRecDepth 100000 in
set_option maxHeartbeats 4000000 in
theorem c_X11_reel (l : Launch) (E : jE) (z : Nat) {x1 : Int} {M M' : Mem} {r : Int} (hx1 : inR x1) (h : f_X11_reel x1 M = some (r, M')) : CtI l yX11_reel cX11_reel 2 (some .int) { frames := 4, cells := 0, slots := 0, locals := 89 } E z LyR [.ref (z + 0), .int (jI x1)] M r M' := by
  refine jm (by decide +kernel) (Nat.le_of_ble_eq_true rfl) ?_
  intro p e sM m below meth c C hM0 hr hlk ls hl
  replace hl : lv_has ls 2 [(0, .ref (z + 0)), (1, .int (jI x1))] := hl
  unfold f_X11_reel at h
  refine r_aload_n C dX11_reel_0 rfl hl 0 rfl ?_
  refine r_iload_n C dX11_reel_1 rfl hl 1 rfl ?_
  refine r_iconst C dX11_reel_2 ?_
  refine r_bipush C dX11_reel_3 rfl ?_
  replace h := bd_some h
  obtain ⟨r5, hf5, h⟩ := h
  refine r_callSI (As := [.int (jI x1), .int (jI 0), .int (jI 6)]) (rest := [.ref (z + 0)]) C hM0 (c_X11_isIn l E z hx1 ⟨by decide, by decide⟩ ⟨by decide, by decide⟩ hf5) jy_X11_isIn lk_X11_112 dX11_reel_5 rfl rfl hl.1 (Nat.le_of_ble_eq_true rfl) ⟨Nat.le_of_ble_eq_true rfl, Nat.le_of_ble_eq_true rfl⟩ ⟨rfl, rfl⟩ ⟨Nat.zero_le _, Nat.zero_le _⟩ (fun H locs hr5 hM1 => ?_)
  replace h := bd_some h
  obtain ⟨⟨r8, M8⟩, hf8, h⟩ := h
  try dsimp only at h
  refine r_callI (As := [.int (jI r5)]) (rest := []) C hM1 (c_X11_goes l E z hr5 hf8) jy_X11_goes lk_X11_239 dX11_reel_8 (recvW C hM1 jc11 lr_0.1 lr_0.2 rfl) rfl rfl hl.1 (Nat.le_of_ble_eq_true rfl) ⟨Nat.le_of_ble_eq_true rfl, Nat.le_of_ble_eq_true rfl⟩ ⟨rfl, rfl⟩ ⟨Nat.zero_le _, Nat.zero_le _⟩ (fun H locs hr8 hM2 => ?_)
  refine r_if_ne C 16 hr8 dX11_reel_11 (by decide) (fun cq => ?_) (fun cq => ?_)
  · replace h := ifn cq h
    refine r_aload_n C dX11_reel_16 rfl hl 0 rfl ?_
    replace h := bd_some h
    obtain ⟨M17, hf17, h⟩ := h
    refine r_callV (As := []) (rest := []) C hM2 (c_X11_laysPieces l E z hf17) jy_X11_laysPieces lk_X11_209 dX11_reel_17 (recvW C hM2 jc11 lr_0.1 lr_0.2 rfl) rfl rfl hl.1 (Nat.le_of_ble_eq_true rfl) ⟨Nat.le_of_ble_eq_true rfl, Nat.le_of_ble_eq_true rfl⟩ ⟨rfl, rfl⟩ ⟨Nat.zero_le _, Nat.zero_le _⟩ (fun H locs hM3 => ?_)
    refine r_iload_n C dX11_reel_20 rfl hl 1 rfl ?_
    by_cases cq : x1 = 0
    · replace h := ifp cq h
      refine r_table C 60 hx1 dX11_reel_21 (by decide) (by rw [cq]; rfl) ?_
      refine r_aload_n C dX11_reel_60 rfl hl 0 rfl ?_
      refine r_getI C hM3 jc11 17 rfl dX11_reel_61 lk_X11_126 lr_0.1 lr_0.2 rfl rfl (by decide) rfl ?_
      exact r_ireturnM C hM3 hr hlk (hM3.ok _ _) h dX11_reel_64
    · replace h := ifn cq h
      have c21_0 := cq
      by_cases cq : x1 = 1
      · replace h := ifp cq h
        refine r_table C 65 hx1 dX11_reel_21 (by decide) (by rw [cq]; rfl) ?_
        refine r_aload_n C dX11_reel_65 rfl hl 0 rfl ?_
        replace h := bd_some h
        obtain ⟨r66, hf66, h⟩ := h
        refine r_callI (As := []) (rest := []) C hM3 (c_X11_theEnd l E z hf66) jy_X11_theEnd lk_X11_196 dX11_reel_66 (recvW C hM3 jc11 lr_0.1 lr_0.2 rfl) rfl rfl hl.1 (Nat.le_of_ble_eq_true rfl) ⟨Nat.le_of_ble_eq_true rfl, Nat.le_of_ble_eq_true rfl⟩ ⟨rfl, rfl⟩ ⟨Nat.zero_le _, Nat.zero_le _⟩ (fun H locs hr66 hM4 => ?_)
        exact r_ireturnM C hM4 hr hlk hr66 h dX11_reel_69
      · replace h := ifn cq h
        have c21_1 := cq
        by_cases cq : x1 = 2
        · replace h := ifp cq h
          refine r_table C 70 hx1 dX11_reel_21 (by decide) (by rw [cq]; rfl) ?_
          refine r_aload_n C dX11_reel_70 rfl hl 0 rfl ?_
          replace h := bd_some h
          obtain ⟨⟨r71, M71⟩, hf71, h⟩ := h
          try dsimp only at h
          refine r_callI (As := []) (rest := []) C hM3 (c_X11_laysWords l E z hf71) jy_X11_laysWords lk_X11_212 dX11_reel_71 (recvW C hM3 jc11 lr_0.1 lr_0.2 rfl) rfl rfl hl.1 (Nat.le_of_ble_eq_true rfl) ⟨Nat.le_of_ble_eq_true rfl, Nat.le_of_ble_eq_true rfl⟩ ⟨rfl, rfl⟩ ⟨Nat.zero_le _, Nat.zero_le _⟩ (fun H locs hr71 hM5 => ?_)
          exact r_ireturnM C hM5 hr hlk hr71 h dX11_reel_74
        · replace h := ifn cq h
          have c21_2 := cq
          by_cases cq : x1 = 3
          · replace h := ifp cq h
            refine r_table C 75 hx1 dX11_reel_21 (by decide) (by rw [cq]; rfl) ?_
            refine r_aload_n C dX11_reel_75 rfl hl 0 rfl ?_
            replace h := bd_some h
            obtain ⟨r76, hf76, h⟩ := h
            refine r_callI (As := []) (rest := []) C hM3 (c_X11_theEnd l E z hf76) jy_X11_theEnd lk_X11_196 dX11_reel_76 (recvW C hM3 jc11 lr_0.1 lr_0.2 rfl) rfl rfl hl.1 (Nat.le_of_ble_eq_true rfl) ⟨Nat.le_of_ble_eq_true rfl, Nat.le_of_ble_eq_true rfl⟩ ⟨rfl, rfl⟩ ⟨Nat.zero_le _, Nat.zero_le _⟩ (fun H locs hr76 hM6 => ?_)
            refine r_aload_n C dX11_reel_79 rfl hl 0 rfl ?_
            replace h := bd_some h
            obtain ⟨⟨r80, M80⟩, hf80, h⟩ := h
            try dsimp only at h
            refine r_callI (As := []) (rest := [.int (jI r76)]) C hM6 (c_X11_laysWords l E z hf80) jy_X11_laysWords lk_X11_212 dX11_reel_80 (recvW C hM6 jc11 lr_0.1 lr_0.2 rfl) rfl rfl hl.1 (Nat.le_of_ble_eq_true rfl) ⟨Nat.le_of_ble_eq_true rfl, Nat.le_of_ble_eq_true rfl⟩ ⟨rfl, rfl⟩ ⟨Nat.zero_le _, Nat.zero_le _⟩ (fun H locs hr80 hM7 => ?_)
            replace h := ck_some h
            obtain ⟨hc8, h⟩ := h
            refine r_isub C dX11_reel_83 ?_
            exact r_ireturnM C hM7 hr hlk hc8 h dX11_reel_84
          · replace h := ifn cq h
            have c21_3 := cq
            by_cases cq : x1 = 4
            · replace h := ifp cq h
              refine r_table C 85 hx1 dX11_reel_21 (by decide) (by rw [cq]; rfl) ?_
              refine r_aload_n C dX11_reel_85 rfl hl 0 rfl ?_
              replace h := bd_some h
              obtain ⟨r86, hf86, h⟩ := h
              refine r_callI (As := []) (rest := []) C hM3 (c_X11_deepest l E z hf86) jy_X11_deepest lk_X11_447 dX11_reel_86 (recvW C hM3 jc11 lr_0.1 lr_0.2 rfl) rfl rfl hl.1 (Nat.le_of_ble_eq_true rfl) ⟨Nat.le_of_ble_eq_true rfl, Nat.le_of_ble_eq_true rfl⟩ ⟨rfl, rfl⟩ ⟨Nat.zero_le _, Nat.zero_le _⟩ (fun H locs hr86 hM9 => ?_)
              exact r_ireturnM C hM9 hr hlk hr86 h dX11_reel_89
            · replace h := ifn cq h
              have c21_4 := cq
              by_cases cq : x1 = 5
              · replace h := ifp cq h
                refine r_table C 90 hx1 dX11_reel_21 (by decide) (by rw [cq]; rfl) ?_
                refine r_aload_n C dX11_reel_90 rfl hl 0 rfl ?_
                replace h := bd_some h
                obtain ⟨r91, hf91, h⟩ := h
                refine r_callI (As := []) (rest := []) C hM3 (c_X11_longest l E z hf91) jy_X11_longest lk_X11_450 dX11_reel_91 (recvW C hM3 jc11 lr_0.1 lr_0.2 rfl) rfl rfl hl.1 (Nat.le_of_ble_eq_true rfl) ⟨Nat.le_of_ble_eq_true rfl, Nat.le_of_ble_eq_true rfl⟩ ⟨rfl, rfl⟩ ⟨Nat.zero_le _, Nat.zero_le _⟩ (fun H locs hr91 hM10 => ?_)
                exact r_ireturnM C hM10 hr hlk hr91 h dX11_reel_94
              · replace h := ifn cq h
                have c21_5 := cq
                have cd : jsw 21 0 5 (74) #[(39), (44), (49), (54), (64), (69)] x1 = (95 : Int) := by
                  have cz : (x1 < 0 ∨ 5 < x1) := by omega
                  · unfold jsw; rw [if_pos cz]; rfl
                refine r_table C 95 hx1 dX11_reel_21 (by decide) cd ?_
                refine r_aload_n C dX11_reel_95 rfl hl 0 rfl ?_
                replace h := bd_some h
                obtain ⟨r96, hf96, h⟩ := h
                refine r_callI (As := []) (rest := []) C hM3 (c_X11_overlaps l E z hf96) jy_X11_overlaps lk_X11_453 dX11_reel_96 (recvW C hM3 jc11 lr_0.1 lr_0.2 rfl) rfl rfl hl.1 (Nat.le_of_ble_eq_true rfl) ⟨Nat.le_of_ble_eq_true rfl, Nat.le_of_ble_eq_true rfl⟩ ⟨rfl, rfl⟩ ⟨Nat.zero_le _, Nat.zero_le _⟩ (fun H locs hr96 hM11 => ?_)
                exact r_ireturnM C hM11 hr hlk hr96 h dX11_reel_99
  · replace h := ifp cq h
    refine r_iconst C dX11_reel_14 ?_
    exact r_ireturnM C hM2 hr hlk ⟨by decide, by decide⟩ h dX11_reel_15
set_option maxRecDepth 100000 in
set_option maxHeartbeats 4000000 in
theorem c_X11_screen (l : Launch) (E : jE) (z : Nat) {x1 : Int} {M M' : Mem} {r : Int} (hx1 : inR x1) (h : f_X11_screen x1 M = some (r, M')) : CtI l yX11_screen cX11_screen 2 (some .int) { frames := 4, cells := 0, slots := 0, locals := 89 } E z LyR [.ref (z + 0), .int (jI x1)] M r M' := by
  refine jm (by decide +kernel) (Nat.le_of_ble_eq_true rfl) ?_
  intro p e sM m below meth c C hM0 hr hlk ls hl
  replace hl : lv_has ls 2 [(0, .ref (z + 0)), (1, .int (jI x1))] := hl
  unfold f_X11_screen at h
  refine r_aload_n C dX11_screen_0 rfl hl 0 rfl ?_
  refine r_iconst C dX11_screen_1 ?_
  refine r_putI C hM0 jc11 7 ⟨by decide, by decide⟩ dX11_screen_2 lk_X11_105 lr_0.1 lr_0.2 rfl rfl (by decide) rfl rfl rfl (Nat.le_of_ble_eq_true rfl) (by decide) (fun H locs hM1 => ?_)
  replace h := lt_some h
  obtain ⟨N2, eN2, h⟩ := h
  rw [← eN2] at hM1
  refine r_aload_n C dX11_screen_5 rfl hl 0 rfl ?_
  replace h := bd_some h
  obtain ⟨M6, hf6, h⟩ := h
  refine r_callV (As := []) (rest := []) C hM1 (c_X11_laysPieces l E z hf6) jy_X11_laysPieces lk_X11_209 dX11_screen_6 (recvW C hM1 jc11 lr_0.1 lr_0.2 rfl) rfl rfl hl.1 (Nat.le_of_ble_eq_true rfl) ⟨Nat.le_of_ble_eq_true rfl, Nat.le_of_ble_eq_true rfl⟩ ⟨rfl, rfl⟩ ⟨Nat.zero_le _, Nat.zero_le _⟩ (fun H locs hM3 => ?_)
  refine r_aload_n C dX11_screen_9 rfl hl 0 rfl ?_
  refine r_iload_n C dX11_screen_10 rfl hl 1 rfl ?_
  replace h := bd_some h
  obtain ⟨r11, hf11, h⟩ := h
  refine r_callI (As := [.int (jI x1)]) (rest := []) C hM3 (c_X11_screenIn l E z hx1 hf11) jy_X11_screenIn lk_X11_181 dX11_screen_11 (recvW C hM3 jc11 lr_0.1 lr_0.2 rfl) rfl rfl hl.1 (Nat.le_of_ble_eq_true rfl) ⟨Nat.le_of_ble_eq_true rfl, Nat.le_of_ble_eq_true rfl⟩ ⟨rfl, rfl⟩ ⟨Nat.zero_le _, Nat.zero_le _⟩ (fun H locs hr11 hM4 => ?_)
  exact r_ireturnM C hM4 hr hlk hr11 h dX11_screen_14
set_option maxRecDepth 100000 in
set_option maxHeartbeats 4000000 in
theorem c_X11_spoken (l : Launch) (E : jE) (z : Nat) {x1 : Int} {M M' : Mem} {r : Int} (hx1 : inR x1) (h : f_X11_spoken x1 M = some (r, M')) : CtI l yX11_spoken cX11_spoken 4 (some .int) { frames := 4, cells := 0, slots := 0, locals := 89 } E z LyR [.ref (z + 0), .int (jI x1)] M r M' := by
  refine jm (by decide +kernel) (Nat.le_of_ble_eq_true rfl) ?_
  intro p e sM m below meth c C hM0 hr hlk ls hl
  replace hl : lv_has ls 4 [(0, .ref (z + 0)), (1, .int (jI x1))] := hl
  unfold f_X11_spoken at h
  refine r_aload_n C dX11_spoken_0 rfl hl 0 rfl ?_
  refine r_iconst C dX11_spoken_1 ?_
  refine r_putI C hM0 jc11 7 ⟨by decide, by decide⟩ dX11_spoken_2 lk_X11_105 lr_0.1 lr_0.2 rfl rfl (by decide) rfl rfl rfl (Nat.le_of_ble_eq_true rfl) (by decide) (fun H locs hM1 => ?_)
  replace h := lt_some h
  obtain ⟨N2, eN2, h⟩ := h
  rw [← eN2] at hM1
  refine r_aload_n C dX11_spoken_5 rfl hl 0 rfl ?_
  replace h := bd_some h
  obtain ⟨⟨r6, M6⟩, hf6, h⟩ := h
  try dsimp only at h
  refine r_callI (As := []) (rest := []) C hM1 (c_X11_laysWords l E z hf6) jy_X11_laysWords lk_X11_212 dX11_spoken_6 (recvW C hM1 jc11 lr_0.1 lr_0.2 rfl) rfl rfl hl.1 (Nat.le_of_ble_eq_true rfl) ⟨Nat.le_of_ble_eq_true rfl, Nat.le_of_ble_eq_true rfl⟩ ⟨rfl, rfl⟩ ⟨Nat.zero_le _, Nat.zero_le _⟩ (fun H locs hr6 hM3 => ?_)
  refine r_istore_n C [(2, .int (jI r6)), (0, .ref (z + 0)), (1, .int (jI x1))] dX11_spoken_9 rfl hl (by decide) rfl (fun ls hl => ?_)
  refine r_iconst C dX11_spoken_10 ?_
  refine r_istore_n C [(3, .int (jI 0)), (2, .int (jI r6)), (0, .ref (z + 0)), (1, .int (jI x1))] dX11_spoken_11 rfl hl (by decide) rfl (fun ls hl => ?_)
  obtain ⟨y2, ey2⟩ : ∃ y : Int, y = r6 := ⟨_, rfl⟩
  have hy2 : inR y2 := by rw [ey2]; exact hr6
  have hL12 : ∀ n12 : Nat, ∀ (x3 : Int) (M : Mem), inR x3 → ∀ (H : Heap) (locs : List Loc) (ls : Array Slot), f_X11_spoken_L12 x1 y2 n12  x3 M = some (r, M') → HS E z LyR M sM H locs → lv_has ls 4 [(0, .ref (z + 0)), (1, .int (jI x1)), (2, .int (jI y2)), (3, .int (jI x3))] → W p l e ({ frames := 4, cells := 0, slots := 0, locals := 89 } : Room) sM m (([.ref (z + 0), .int (jI x1)] : List Value).toArray) below meth c H locs 0 0 (MQ below (va_Qi (fun (w : Int32) (_ : Unit) => w = jI r ∧ inR r ∧ Mok LyR M') (fun _ t => va_P (eD E) vwCl (Wd (eC E) z LyR M') t.heap) (eA E)) (([.ref (z + 0), .int (jI x1)] : List Value).toArray) sM 0 0 (eA E)) (F0 m 12 ls []) := by
    intro n12
    induction n12 with
    | zero =>
      intro x3 M hx3 H locs ls h hM hl
      exact absurd h (by simp [f_X11_spoken_L12])
    | succ n12 ih12 =>
      intro x3 M hx3 H locs ls h hM hl
      rw [f_X11_spoken_L12] at h
      refine r_iload_n C dX11_spoken_12 rfl hl 3 rfl ?_
      refine r_aload_n C dX11_spoken_13 rfl hl 0 rfl ?_
      refine r_getR C hM jc11 0 1 dX11_spoken_14 lk_X11_7 lr_0.1 lr_0.2 rfl rfl (by decide) rfl ?_
      refine r_bipush C dX11_spoken_17 rfl ?_
      refine r_iald C hM rfl dX11_spoken_19 lr_1.1 lr_1.2 (show (0 : Int) ≤ 9 ∧ (9 : Int) < 1062 by decide) ⟨by decide, by decide⟩ ?_
      refine r_icmp_ge C 57 hx3 (hM.ok _ _) dX11_spoken_20 (by decide) (fun cq => ?_) (fun cq => ?_)
      · replace h := ifp cq h
        refine r_iconst C dX11_spoken_57 ?_
        exact r_ireturnM C hM hr hlk ⟨by decide, by decide⟩ h dX11_spoken_58
      · replace h := ifn cq h
        refine r_iload_n C dX11_spoken_23 rfl hl 1 rfl ?_
        refine r_iload_n C dX11_spoken_24 rfl hl 2 rfl ?_
        refine r_icmp_ge C 57 hx1 hy2 dX11_spoken_25 (by decide) (fun cq => ?_) (fun cq => ?_)
        · replace h := ifp cq h
          refine r_iconst C dX11_spoken_57 ?_
          exact r_ireturnM C hM hr hlk ⟨by decide, by decide⟩ h dX11_spoken_58
        · replace h := ifn cq h
          refine r_iload_n C dX11_spoken_28 rfl hl 1 rfl ?_
          refine r_aload_n C dX11_spoken_29 rfl hl 0 rfl ?_
          refine r_getR C hM jc11 23 19 dX11_spoken_30 lk_X11_65 lr_0.1 lr_0.2 rfl rfl (by decide) rfl ?_
          refine r_iload_n C dX11_spoken_33 rfl hl 3 rfl ?_
          replace h := ck_some h
          obtain ⟨hc4, h⟩ := h
          refine r_iald C hM rfl dX11_spoken_34 lr_19.1 lr_19.2 hc4 hx3 ?_
          refine r_aload_n C dX11_spoken_35 rfl hl 0 rfl ?_
          refine r_getR C hM jc11 24 20 dX11_spoken_36 lk_X11_68 lr_0.1 lr_0.2 rfl rfl (by decide) rfl ?_
          refine r_iload_n C dX11_spoken_39 rfl hl 3 rfl ?_
          refine r_iald C hM rfl dX11_spoken_40 lr_20.1 lr_20.2 hc4 hx3 ?_
          refine r_iconst C dX11_spoken_41 ?_
          replace h := ck_some h
          obtain ⟨hc5, h⟩ := h
          refine r_isub C dX11_spoken_42 ?_
          replace h := bd_some h
          obtain ⟨r43, hf43, h⟩ := h
          refine r_callSI (As := [.int (jI x1), .int (jI (M 19 x3.toNat)), .int (jI ((M 20 x3.toNat) - 1))]) (rest := []) C hM (c_X11_isIn l E z hx1 (hM.ok _ _) hc5 hf43) jy_X11_isIn lk_X11_112 dX11_spoken_43 rfl rfl hl.1 (Nat.le_of_ble_eq_true rfl) ⟨Nat.le_of_ble_eq_true rfl, Nat.le_of_ble_eq_true rfl⟩ ⟨rfl, rfl⟩ ⟨Nat.zero_le _, Nat.zero_le _⟩ (fun H locs hr43 hM6 => ?_)
          refine r_if_eq C 51 hr43 dX11_spoken_46 (by decide) (fun cq => ?_) (fun cq => ?_)
          · replace h := ifp cq h
            replace h := ck_some h
            obtain ⟨hc7, h⟩ := h
            refine r_iinc (j := 3) (x := x3) C [(3, .int (jI (x3 + 1))), (0, .ref (z + 0)), (1, .int (jI x1)), (2, .int (jI y2))] dX11_spoken_51 hl rfl (by decide) rfl (fun ls hl => ?_)
            refine r_goto C 12 dX11_spoken_54 (by decide) ?_
            exact ih12 _ _ hc7 _ _ _ h hM6 (lv_sub hl [1, 2, 3, 0] rfl)
          · replace h := ifn cq h
            refine r_iload_n C dX11_spoken_49 rfl hl 3 rfl ?_
            exact r_ireturnM C hM6 hr hlk hx3 h dX11_spoken_50
  rw [← ey2] at h
  have hl := lv_sub (l' := [(0, .ref (z + 0)), (1, .int (jI x1)), (2, .int (jI y2)), (3, .int (jI 0))]) hl [2, 3, 1, 0] (by rw [ey2]; rfl)
  exact hL12 jFuel _ _ ⟨by decide, by decide⟩ _ _ _ h hM3 hl
set_option maxRecDepth 100000 in
set_option maxHeartbeats 4000000 in
theorem c_X11_account (l : Launch) (E : jE) (z : Nat) {x1 : Int} {M M' : Mem} {r : Int} (hx1 : inR x1) (h : f_X11_account x1 M = some (r, M')) : CtI l yX11_account cX11_account 2 (some .int) { frames := 1, cells := 0, slots := 0, locals := 22 } E z LyR [.ref (z + 0), .int (jI x1)] M r M' := by
  refine jm (by decide +kernel) (Nat.le_of_ble_eq_true rfl) ?_
  intro p e sM m below meth c C hM0 hr hlk ls hl
  replace hl : lv_has ls 2 [(0, .ref (z + 0)), (1, .int (jI x1))] := hl
  unfold f_X11_account at h
  refine r_aload_n C dX11_account_0 rfl hl 0 rfl ?_
  refine r_iload_n C dX11_account_1 rfl hl 1 rfl ?_
  refine r_iconst C dX11_account_2 ?_
  refine r_bipush C dX11_account_3 rfl ?_
  replace h := bd_some h
  obtain ⟨r5, hf5, h⟩ := h
  refine r_callSI (As := [.int (jI x1), .int (jI 0), .int (jI 6)]) (rest := [.ref (z + 0)]) C hM0 (c_X11_isIn l E z hx1 ⟨by decide, by decide⟩ ⟨by decide, by decide⟩ hf5) jy_X11_isIn lk_X11_112 dX11_account_5 rfl rfl hl.1 (Nat.le_of_ble_eq_true rfl) ⟨Nat.le_of_ble_eq_true rfl, Nat.le_of_ble_eq_true rfl⟩ ⟨rfl, rfl⟩ ⟨Nat.zero_le _, Nat.zero_le _⟩ (fun H locs hr5 hM1 => ?_)
  replace h := bd_some h
  obtain ⟨⟨r8, M8⟩, hf8, h⟩ := h
  try dsimp only at h
  refine r_callI (As := [.int (jI r5)]) (rest := []) C hM1 (c_X11_goes l E z hr5 hf8) jy_X11_goes lk_X11_239 dX11_account_8 (recvW C hM1 jc11 lr_0.1 lr_0.2 rfl) rfl rfl hl.1 (Nat.le_of_ble_eq_true rfl) ⟨Nat.le_of_ble_eq_true rfl, Nat.le_of_ble_eq_true rfl⟩ ⟨rfl, rfl⟩ ⟨Nat.zero_le _, Nat.zero_le _⟩ (fun H locs hr8 hM2 => ?_)
  refine r_if_eq C 23 hr8 dX11_account_11 (by decide) (fun cq => ?_) (fun cq => ?_)
  · replace h := ifp cq h
    refine r_iconst C dX11_account_23 ?_
    exact r_ireturnM C hM2 hr hlk ⟨by decide, by decide⟩ h dX11_account_24
  · replace h := ifn cq h
    refine r_aload_n C dX11_account_14 rfl hl 0 rfl ?_
    refine r_getR C hM2 jc11 4 5 dX11_account_15 lk_X11_22 lr_0.1 lr_0.2 rfl rfl (by decide) rfl ?_
    refine r_iload_n C dX11_account_18 rfl hl 1 rfl ?_
    replace h := ck_some h
    obtain ⟨hc3, h⟩ := h
    refine r_iald C hM2 rfl dX11_account_19 lr_5.1 lr_5.2 hc3 hx1 ?_
    refine r_goto C 24 dX11_account_20 (by decide) ?_
    exact r_ireturnM C hM2 hr hlk (hM2.ok _ _) h dX11_account_24
set_option maxRecDepth 100000 in
set_option maxHeartbeats 4000000 in
theorem c_X11_faults (l : Launch) (E : jE) (z : Nat) {x1 : Int} {M M' : Mem} {r : Int} (hx1 : inR x1) (h : f_X11_faults x1 M = some (r, M')) : CtI l yX11_faults cX11_faults 3 (some .int) { frames := 7, cells := 0, slots := 0, locals := 161 } E z LyR [.ref (z + 0), .int (jI x1)] M r M' := by
  refine jm (by decide +kernel) (Nat.le_of_ble_eq_true rfl) ?_
  intro p e sM m below meth c C hM0 hr hlk ls hl
  replace hl : lv_has ls 3 [(0, .ref (z + 0)), (1, .int (jI x1))] := hl
  unfold f_X11_faults at h
  refine r_aload_n C dX11_faults_0 rfl hl 0 rfl ?_
  refine r_iload_n C dX11_faults_1 rfl hl 1 rfl ?_
  refine r_iconst C dX11_faults_2 ?_
  refine r_iconst C dX11_faults_3 ?_
  replace h := bd_some h
  obtain ⟨r4, hf4, h⟩ := h
  refine r_callSI (As := [.int (jI x1), .int (jI 0), .int (jI 5)]) (rest := [.ref (z + 0)]) C hM0 (c_X11_isIn l E z hx1 ⟨by decide, by decide⟩ ⟨by decide, by decide⟩ hf4) jy_X11_isIn lk_X11_112 dX11_faults_4 rfl rfl hl.1 (Nat.le_of_ble_eq_true rfl) ⟨Nat.le_of_ble_eq_true rfl, Nat.le_of_ble_eq_true rfl⟩ ⟨rfl, rfl⟩ ⟨Nat.zero_le _, Nat.zero_le _⟩ (fun H locs hr4 hM1 => ?_)
  replace h := bd_some h
  obtain ⟨⟨r7, M7⟩, hf7, h⟩ := h
  try dsimp only at h
  refine r_callI (As := [.int (jI r4)]) (rest := []) C hM1 (c_X11_goes l E z hr4 hf7) jy_X11_goes lk_X11_239 dX11_faults_7 (recvW C hM1 jc11 lr_0.1 lr_0.2 rfl) rfl rfl hl.1 (Nat.le_of_ble_eq_true rfl) ⟨Nat.le_of_ble_eq_true rfl, Nat.le_of_ble_eq_true rfl⟩ ⟨rfl, rfl⟩ ⟨Nat.zero_le _, Nat.zero_le _⟩ (fun H locs hr7 hM2 => ?_)
  refine r_if_ne C 15 hr7 dX11_faults_10 (by decide) (fun cq => ?_) (fun cq => ?_)
  · replace h := ifn cq h
    refine r_aload_n C dX11_faults_15 rfl hl 0 rfl ?_
    replace h := bd_some h
    obtain ⟨⟨r16, M16⟩, hf16, h⟩ := h
    try dsimp only at h
    refine r_callI (As := []) (rest := []) C hM2 (c_X11_allFaults l E z hf16) jy_X11_allFaults lk_X11_456 dX11_faults_16 (recvW C hM2 jc11 lr_0.1 lr_0.2 rfl) rfl rfl hl.1 (Nat.le_of_ble_eq_true rfl) ⟨Nat.le_of_ble_eq_true rfl, Nat.le_of_ble_eq_true rfl⟩ ⟨rfl, rfl⟩ ⟨Nat.zero_le _, Nat.zero_le _⟩ (fun H locs hr16 hM3 => ?_)
    refine r_istore_n C [(2, .int (jI r16)), (0, .ref (z + 0)), (1, .int (jI x1))] dX11_faults_19 rfl hl (by decide) rfl (fun ls hl => ?_)
    refine r_iload_n C dX11_faults_20 rfl hl 2 rfl ?_
    refine r_if_ne C 28 hx1 dX11_faults_21 (by decide) (fun cq => ?_) (fun cq => ?_)
    · replace h := ifn cq h
      refine r_aload_n C dX11_faults_28 rfl hl 1 rfl ?_
      refine r_iload_n C dX11_faults_29 rfl hl 2 rfl ?_
      refine r_aload_n C dX11_faults_30 rfl hl 1 rfl ?_
      replace h := bd_some h
      obtain ⟨⟨r31, M31⟩, hf31, h⟩ := h
      try dsimp only at h
      refine r_callI (As := []) (rest := [.int (jI x1), .ref (z + 0)]) C hM3 (c_X11_laysWords l E z hf31) jy_X11_laysWords lk_X11_212 dX11_faults_31 (recvW C hM3 jc11 lr_0.1 lr_0.2 rfl) rfl rfl hl.1 (Nat.le_of_ble_eq_true rfl) ⟨Nat.le_of_ble_eq_true rfl, Nat.le_of_ble_eq_true rfl⟩ ⟨rfl, rfl⟩ ⟨Nat.zero_le _, Nat.zero_le _⟩ (fun H locs hr31 hM4 => ?_)
      replace h := bd_some h
      obtain ⟨r34, hf34, h⟩ := h
      refine r_callI (As := [.int (jI x1), .int (jI r31)]) (rest := []) C hM4 (c_X11_faultsOf l E z hx1 hr31 hf34) jy_X11_faultsOf lk_X11_215 dX11_faults_34 (recvW C hM4 jc11 lr_0.1 lr_0.2 rfl) rfl rfl hl.1 (Nat.le_of_ble_eq_true rfl) ⟨Nat.le_of_ble_eq_true rfl, Nat.le_of_ble_eq_true rfl⟩ ⟨rfl, rfl⟩ ⟨Nat.zero_le _, Nat.zero_le _⟩ (fun H locs hr34 hM5 => ?_)
      exact r_ireturnM C hM5 hr hlk hr34 h dX11_faults_37
    · replace h := ifp cq h
      refine r_iload_n C dX11_faults_24 rfl hl 0 rfl ?_
      refine r_goto C 37 dX11_faults_25 (by decide) ?_
      exact r_ireturnM C hM3 hr hlk hr16 h dX11_faults_37
  · replace h := ifp cq h
    refine r_iconst C dX11_faults_13 ?_
    exact r_ireturnM C hM2 hr hlk ⟨by decide, by decide⟩ h dX11_faults_14
set_option maxRecDepth 100000 in
set_option maxHeartbeats 4000000 in
theorem c_X11_fault (l : Launch) (E : jE) (z : Nat) {x1 : Int} {x2 : Int} {M M' : Mem} {r : Int} (hx1 : inR x1) (hx2 : inR x2) (h : f_X11_fault x1 x2 M = some (r, M')) : CtI l yX11_fault cX11_fault 7 (some .int) { frames := 7, cells := 0, slots := 0, locals := 161 } E z LyR [.ref (z + 0), .int (jI x1), .int (jI x2)] M r M' := by
  refine jm (by decide +kernel) (Nat.le_of_ble_eq_true rfl) ?_
  intro p e sM m below meth c C hM0 hr hlk ls hl
  replace hl : lv_has ls 7 [(0, .ref (z + 0)), (1, .int (jI x1)), (2, .int (jI x2))] := hl
  unfold f_X11_fault at h
  refine r_aload_n C dX11_fault_0 rfl hl 0 rfl ?_
  refine r_iload_n C dX11_fault_1 rfl hl 1 rfl ?_
  refine r_iconst C dX11_fault_2 ?_
  refine r_aload_n C dX11_fault_3 rfl hl 0 rfl ?_
  replace h := bd_some h
  obtain ⟨⟨r4, M4⟩, hf4, h⟩ := h
  try dsimp only at h
  refine r_callI (As := []) (rest := [.int (jI 0), .int (jI x1), .ref (z + 0)]) C hM0 (c_X11_allFaults l E z hf4) jy_X11_allFaults lk_X11_456 dX11_fault_4 (recvW C hM0 jc11 lr_0.1 lr_0.2 rfl) rfl rfl hl.1 (Nat.le_of_ble_eq_true rfl) ⟨Nat.le_of_ble_eq_true rfl, Nat.le_of_ble_eq_true rfl⟩ ⟨rfl, rfl⟩ ⟨Nat.zero_le _, Nat.zero_le _⟩ (fun H locs hr4 hM1 => ?_)
  refine r_iconst C dX11_fault_7 ?_
  replace h := ck_some h
  obtain ⟨hc2, h⟩ := h
  refine r_isub C dX11_fault_8 ?_
  replace h := bd_some h
  obtain ⟨r9, hf9, h⟩ := h
  refine r_callSI (As := [.int (jI x1), .int (jI 0), .int (jI (r4 - 1))]) (rest := [.ref (z + 0)]) C hM1 (c_X11_isIn l E z hx1 ⟨by decide, by decide⟩ hc2 hf9) jy_X11_isIn lk_X11_112 dX11_fault_9 rfl rfl hl.1 (Nat.le_of_ble_eq_true rfl) ⟨Nat.le_of_ble_eq_true rfl, Nat.le_of_ble_eq_true rfl⟩ ⟨rfl, rfl⟩ ⟨Nat.zero_le _, Nat.zero_le _⟩ (fun H locs hr9 hM3 => ?_)
  refine r_iload_n C dX11_fault_12 rfl hl 2 rfl ?_
  refine r_iconst C dX11_fault_13 ?_
  refine r_iconst C dX11_fault_14 ?_
  replace h := bd_some h
  obtain ⟨r15, hf15, h⟩ := h
  refine r_callSI (As := [.int (jI x2), .int (jI 0), .int (jI 1)]) (rest := [.int (jI r9), .ref (z + 0)]) C hM3 (c_X11_isIn l E z hx2 ⟨by decide, by decide⟩ ⟨by decide, by decide⟩ hf15) jy_X11_isIn lk_X11_112 dX11_fault_15 rfl rfl hl.1 (Nat.le_of_ble_eq_true rfl) ⟨Nat.le_of_ble_eq_true rfl, Nat.le_of_ble_eq_true rfl⟩ ⟨rfl, rfl⟩ ⟨Nat.zero_le _, Nat.zero_le _⟩ (fun H locs hr15 hM4 => ?_)
  replace h := bd_some h
  obtain ⟨⟨r18, M18⟩, hf18, h⟩ := h
  try dsimp only at h
  refine r_callI (As := [.int (jI r9), .int (jI r15)]) (rest := []) C hM4 (c_X11_goesBoth l E z hr9 hr15 hf18) jy_X11_goesBoth lk_X11_429 dX11_fault_18 (recvW C hM4 jc11 lr_0.1 lr_0.2 rfl) rfl rfl hl.1 (Nat.le_of_ble_eq_true rfl) ⟨Nat.le_of_ble_eq_true rfl, Nat.le_of_ble_eq_true rfl⟩ ⟨rfl, rfl⟩ ⟨Nat.zero_le _, Nat.zero_le _⟩ (fun H locs hr18 hM5 => ?_)
  refine r_if_ne C 26 hr18 dX11_fault_21 (by decide) (fun cq => ?_) (fun cq => ?_)
  · replace h := ifn cq h
    refine r_aload_n C dX11_fault_26 rfl hl 0 rfl ?_
    replace h := bd_some h
    obtain ⟨⟨r27, M27⟩, hf27, h⟩ := h
    try dsimp only at h
    refine r_callI (As := []) (rest := []) C hM5 (c_X11_laysWords l E z hf27) jy_X11_laysWords lk_X11_212 dX11_fault_27 (recvW C hM5 jc11 lr_0.1 lr_0.2 rfl) rfl rfl hl.1 (Nat.le_of_ble_eq_true rfl) ⟨Nat.le_of_ble_eq_true rfl, Nat.le_of_ble_eq_true rfl⟩ ⟨rfl, rfl⟩ ⟨Nat.zero_le _, Nat.zero_le _⟩ (fun H locs hr27 hM6 => ?_)
    refine r_istore_n C [(3, .int (jI r27)), (0, .ref (z + 0)), (1, .int (jI x1)), (2, .int (jI x2))] dX11_fault_30 rfl hl (by decide) rfl (fun ls hl => ?_)
    refine r_iload_n C dX11_fault_31 rfl hl 2 rfl ?_
    refine r_istore C [(4, .int (jI x1)), (3, .int (jI r27)), (0, .ref (z + 0)), (1, .int (jI x1)), (2, .int (jI x2))] dX11_fault_32 hl (by decide) rfl (fun ls hl => ?_)
    refine r_iconst C dX11_fault_34 ?_
    refine r_istore C [(5, .int (jI 1)), (4, .int (jI x1)), (3, .int (jI r27)), (0, .ref (z + 0)), (1, .int (jI x1)), (2, .int (jI x2))] dX11_fault_35 hl (by decide) rfl (fun ls hl => ?_)
    obtain ⟨y3, ey3⟩ : ∃ y : Int, y = r27 := ⟨_, rfl⟩
    have hy3 : inR y3 := by rw [ey3]; exact hr27
    have hL37 : ∀ n37 : Nat, ∀ (x4 : Int) (x5 : Int) (M : Mem), inR x4 → inR x5 → ∀ (H : Heap) (locs : List Loc) (ls : Array Slot), f_X11_fault_L37 x2 y3 n37  x4 x5 M = some (r, M') → HS E z LyR M sM H locs → lv_has ls 7 [(0, .ref (z + 0)), (2, .int (jI x2)), (3, .int (jI y3)), (4, .int (jI x4)), (5, .int (jI x5))] → W p l e ({ frames := 7, cells := 0, slots := 0, locals := 161 } : Room) sM m (([.ref (z + 0), .int (jI x1), .int (jI x2)] : List Value).toArray) below meth c H locs 0 0 (MQ below (va_Qi (fun (w : Int32) (_ : Unit) => w = jI r ∧ inR r ∧ Mok LyR M') (fun _ t => va_P (eD E) vwCl (Wd (eC E) z LyR M') t.heap) (eA E)) (([.ref (z + 0), .int (jI x1), .int (jI x2)] : List Value).toArray) sM 0 0 (eA E)) (F0 m 37 ls []) := by
      intro n37
      induction n37 with
      | zero =>
        intro x4 x5 M hx4 hx5 H locs ls h hM hl
        exact absurd h (by simp [f_X11_fault_L37])
      | succ n37 ih37 =>
        intro x4 x5 M hx4 hx5 H locs ls h hM hl
        rw [f_X11_fault_L37] at h
        refine r_iload C dX11_fault_37 hl 3 rfl ?_
        refine r_aload_n C dX11_fault_39 rfl hl 0 rfl ?_
        refine r_iload C dX11_fault_40 hl 4 rfl ?_
        refine r_iload_n C dX11_fault_42 rfl hl 2 rfl ?_
        replace h := bd_some h
        obtain ⟨r43, hf43, h⟩ := h
        refine r_callI (As := [.int (jI x5), .int (jI y3)]) (rest := [.int (jI x4)]) C hM (c_X11_faultsOf l E z hx5 hy3 hf43) jy_X11_faultsOf lk_X11_215 dX11_fault_43 (recvW C hM jc11 lr_0.1 lr_0.2 rfl) rfl rfl hl.1 (Nat.le_of_ble_eq_true rfl) ⟨Nat.le_of_ble_eq_true rfl, Nat.le_of_ble_eq_true rfl⟩ ⟨rfl, rfl⟩ ⟨Nat.zero_le _, Nat.zero_le _⟩ (fun H locs hr43 hM7 => ?_)
        refine r_icmp_lt C 67 hx4 hr43 dX11_fault_46 (by decide) (fun cq => ?_) (fun cq => ?_)
        · replace h := ifp cq h
          refine r_iconst C dX11_fault_67 ?_
          refine r_istore C [(6, .int (jI 0)), (0, .ref (z + 0)), (2, .int (jI x2)), (3, .int (jI y3)), (4, .int (jI x4)), (5, .int (jI x5))] dX11_fault_68 hl (by decide) rfl (fun ls hl => ?_)
          have hL70 : ∀ n70 : Nat, ∀ (x4 : Int) (x6 : Int) (M : Mem), inR x4 → inR x6 → ∀ (H : Heap) (locs : List Loc) (ls : Array Slot), f_X11_fault_L70 x2 y3 x5 n70  x4 x6 M = some (r, M') → HS E z LyR M sM H locs → lv_has ls 7 [(0, .ref (z + 0)), (2, .int (jI x2)), (3, .int (jI y3)), (4, .int (jI x4)), (5, .int (jI x5)), (6, .int (jI x6))] → W p l e ({ frames := 7, cells := 0, slots := 0, locals := 161 } : Room) sM m (([.ref (z + 0), .int (jI x1), .int (jI x2)] : List Value).toArray) below meth c H locs 0 0 (MQ below (va_Qi (fun (w : Int32) (_ : Unit) => w = jI r ∧ inR r ∧ Mok LyR M') (fun _ t => va_P (eD E) vwCl (Wd (eC E) z LyR M') t.heap) (eA E)) (([.ref (z + 0), .int (jI x1), .int (jI x2)] : List Value).toArray) sM 0 0 (eA E)) (F0 m 70 ls []) := by
            intro n70
            induction n70 with
            | zero =>
              intro x4 x6 M hx4 hx6 H locs ls h hM hl
              exact absurd h (by simp [f_X11_fault_L70])
            | succ n70 ih70 =>
              intro x4 x6 M hx4 hx6 H locs ls h hM hl
              rw [f_X11_fault_L70] at h
              refine r_aload_n C dX11_fault_70 rfl hl 0 rfl ?_
              refine r_iload C dX11_fault_71 hl 4 rfl ?_
              refine r_iload C dX11_fault_73 hl 5 rfl ?_
              refine r_iload_n C dX11_fault_75 rfl hl 2 rfl ?_
              replace h := bd_some h
              obtain ⟨r76, hf76, h⟩ := h
              refine r_callI (As := [.int (jI x5), .int (jI x6), .int (jI y3)]) (rest := []) C hM (c_X11_isFault l E z hx5 hx6 hy3 hf76) jy_X11_isFault lk_X11_206 dX11_fault_76 (recvW C hM jc11 lr_0.1 lr_0.2 rfl) rfl rfl hl.1 (Nat.le_of_ble_eq_true rfl) ⟨Nat.le_of_ble_eq_true rfl, Nat.le_of_ble_eq_true rfl⟩ ⟨rfl, rfl⟩ ⟨Nat.zero_le _, Nat.zero_le _⟩ (fun H locs hr76 hM8 => ?_)
              replace h := jn_some h
              obtain ⟨k87, hk87, h⟩ := h
              have hJ87 : ∀ (_ : Unit), ∀ (H : Heap) (locs : List Loc) (ls : Array Slot), k87 () = some (r, M') → HS E z LyR M sM H locs → lv_has ls 7 [(0, .ref (z + 0)), (2, .int (jI x2)), (3, .int (jI y3)), (4, .int (jI x4)), (5, .int (jI x5)), (6, .int (jI x6))] → W p l e ({ frames := 7, cells := 0, slots := 0, locals := 161 } : Room) sM m (([.ref (z + 0), .int (jI x1), .int (jI x2)] : List Value).toArray) below meth c H locs 0 0 (MQ below (va_Qi (fun (w : Int32) (_ : Unit) => w = jI r ∧ inR r ∧ Mok LyR M') (fun _ t => va_P (eD E) vwCl (Wd (eC E) z LyR M') t.heap) (eA E)) (([.ref (z + 0), .int (jI x1), .int (jI x2)] : List Value).toArray) sM 0 0 (eA E)) (F0 m 87 ls []) := by
                intro _ H locs ls h hMj87 hl
                subst hk87
                try dsimp only at h
                refine r_iload C dX11_fault_87 hl 3 rfl ?_
                refine r_aload_n C dX11_fault_89 rfl hl 0 rfl ?_
                refine r_iload C dX11_fault_90 hl 4 rfl ?_
                refine r_iload C dX11_fault_92 hl 5 rfl ?_
                refine r_iload_n C dX11_fault_94 rfl hl 2 rfl ?_
                replace h := bd_some h
                obtain ⟨r95, hf95, h⟩ := h
                refine r_callI (As := [.int (jI x5), .int (jI x6), .int (jI y3)]) (rest := [.int (jI x4)]) C hMj87 (c_X11_isFault l E z hx5 hx6 hy3 hf95) jy_X11_isFault lk_X11_206 dX11_fault_95 (recvW C hMj87 jc11 lr_0.1 lr_0.2 rfl) rfl rfl hl.1 (Nat.le_of_ble_eq_true rfl) ⟨Nat.le_of_ble_eq_true rfl, Nat.le_of_ble_eq_true rfl⟩ ⟨rfl, rfl⟩ ⟨Nat.zero_le _, Nat.zero_le _⟩ (fun H locs hr95 hM9 => ?_)
                replace h := bd_some h
                obtain ⟨r98, hf98, h⟩ := h
                refine r_callSI (As := [.int (jI r95)]) (rest := [.int (jI x4)]) C hM9 (c_X11_bit l E z hr95 hf98) jy_X11_bit lk_X11_133 dX11_fault_98 rfl rfl hl.1 (Nat.le_of_ble_eq_true rfl) ⟨Nat.le_of_ble_eq_true rfl, Nat.le_of_ble_eq_true rfl⟩ ⟨rfl, rfl⟩ ⟨Nat.zero_le _, Nat.zero_le _⟩ (fun H locs hr98 hM10 => ?_)
                replace h := ck_some h
                obtain ⟨hc11, h⟩ := h
                refine r_isub C dX11_fault_101 ?_
                refine r_istore C [(4, .int (jI (x4 - r98))), (0, .ref (z + 0)), (2, .int (jI x2)), (3, .int (jI y3)), (5, .int (jI x5)), (6, .int (jI x6))] dX11_fault_102 hl (by decide) rfl (fun ls hl => ?_)
                replace h := ck_some h
                obtain ⟨hc12, h⟩ := h
                refine r_iinc (j := 5) (x := x6) C [(6, .int (jI (x6 + 1))), (4, .int (jI (x4 - r98))), (0, .ref (z + 0)), (2, .int (jI x2)), (3, .int (jI y3)), (5, .int (jI x5))] dX11_fault_104 hl rfl (by decide) rfl (fun ls hl => ?_)
                refine r_goto C 70 dX11_fault_107 (by decide) ?_
                exact ih70 _ _ _ hc11 hc12 _ _ _ h hM10 (lv_sub hl [2, 3, 4, 1, 5, 0] rfl)
              refine r_if_eq C 87 hr76 dX11_fault_79 (by decide) (fun cq => ?_) (fun cq => ?_)
              · replace h := ifp cq h
                exact hJ87 () _ _ _ h hM8 (lv_sub hl [0, 1, 2, 3, 4, 5] rfl)
              · replace h := ifn cq h
                refine r_iload C dX11_fault_82 hl 3 rfl ?_
                refine r_if_le C 110 hx4 dX11_fault_84 (by decide) (fun cq => ?_) (fun cq => ?_)
                · replace h := ifp cq h
                  refine r_iload_n C dX11_fault_110 rfl hl 1 rfl ?_
                  refine r_if_ne C 119 hx2 dX11_fault_111 (by decide) (fun cq => ?_) (fun cq => ?_)
                  · replace h := ifn cq h
                    refine r_iload C dX11_fault_119 hl 4 rfl ?_
                    refine r_iconst C dX11_fault_121 ?_
                    refine r_icmp_ne C 129 hx5 ⟨by decide, by decide⟩ dX11_fault_122 (by decide) (fun cq => ?_) (fun cq => ?_)
                    · replace h := ifn cq h
                      refine r_iload C dX11_fault_129 hl 5 rfl ?_
                      exact r_ireturnM C hM8 hr hlk hx6 h dX11_fault_131
                    · replace h := ifp cq h
                      refine r_iconst C dX11_fault_125 ?_
                      refine r_goto C 131 dX11_fault_126 (by decide) ?_
                      exact r_ireturnM C hM8 hr hlk ⟨by decide, by decide⟩ h dX11_fault_131
                  · replace h := ifp cq h
                    refine r_iload C dX11_fault_114 hl 4 rfl ?_
                    refine r_goto C 131 dX11_fault_116 (by decide) ?_
                    exact r_ireturnM C hM8 hr hlk hx5 h dX11_fault_131
                · replace h := ifn cq h
                  exact hJ87 () _ _ _ h hM8 (lv_sub hl [0, 1, 2, 3, 4, 5] rfl)
          exact hL70 jFuel _ _ _ hx4 ⟨by decide, by decide⟩ _ _ _ h hM7 (lv_sub hl [1, 2, 3, 4, 5, 0] rfl)
        · replace h := ifn cq h
          refine r_iload C dX11_fault_49 hl 3 rfl ?_
          refine r_aload_n C dX11_fault_51 rfl hl 0 rfl ?_
          refine r_iload C dX11_fault_52 hl 4 rfl ?_
          refine r_iload_n C dX11_fault_54 rfl hl 2 rfl ?_
          replace h := bd_some h
          obtain ⟨r55, hf55, h⟩ := h
          refine r_callI (As := [.int (jI x5), .int (jI y3)]) (rest := [.int (jI x4)]) C hM7 (c_X11_faultsOf l E z hx5 hy3 hf55) jy_X11_faultsOf lk_X11_215 dX11_fault_55 (recvW C hM7 jc11 lr_0.1 lr_0.2 rfl) rfl rfl hl.1 (Nat.le_of_ble_eq_true rfl) ⟨Nat.le_of_ble_eq_true rfl, Nat.le_of_ble_eq_true rfl⟩ ⟨rfl, rfl⟩ ⟨Nat.zero_le _, Nat.zero_le _⟩ (fun H locs hr55 hM13 => ?_)
          replace h := ck_some h
          obtain ⟨hc14, h⟩ := h
          refine r_isub C dX11_fault_58 ?_
          refine r_istore C [(4, .int (jI (x4 - r55))), (0, .ref (z + 0)), (2, .int (jI x2)), (3, .int (jI y3)), (5, .int (jI x5))] dX11_fault_59 hl (by decide) rfl (fun ls hl => ?_)
          replace h := ck_some h
          obtain ⟨hc15, h⟩ := h
          refine r_iinc (j := 4) (x := x5) C [(5, .int (jI (x5 + 1))), (4, .int (jI (x4 - r55))), (0, .ref (z + 0)), (2, .int (jI x2)), (3, .int (jI y3))] dX11_fault_61 hl rfl (by decide) rfl (fun ls hl => ?_)
          refine r_goto C 37 dX11_fault_64 (by decide) ?_
          exact ih37 _ _ _ hc14 hc15 _ _ _ h hM13 (lv_sub hl [2, 3, 4, 1, 0] rfl)
    rw [← ey3] at h
    have hl := lv_sub (l' := [(0, .ref (z + 0)), (2, .int (jI x2)), (3, .int (jI y3)), (4, .int (jI x1)), (5, .int (jI 1))]) hl [3, 5, 2, 1, 0] (by rw [ey3]; rfl)
    exact hL37 jFuel _ _ _ hx1 ⟨by decide, by decide⟩ _ _ _ h hM6 hl
  · replace h := ifp cq h
    refine r_iconst C dX11_fault_24 ?_
    exact r_ireturnM C hM5 hr hlk ⟨by decide, by decide⟩ h dX11_fault_25
set_option maxRecDepth 100000 in
set_option maxHeartbeats 4000000 in
theorem c_X11_fits (l : Launch) (E : jE) (z : Nat) {M M' : Mem} {r : Int} (h : f_X11_fits M = some (r, M')) : CtI l yX11_fits cX11_fits 1 (some .boolean) { frames := 7, cells := 0, slots := 0, locals := 161 } E z LyR [.ref (z + 0)] M r M' := by
  refine jm (by decide +kernel) (Nat.le_of_ble_eq_true rfl) ?_
  intro p e sM m below meth c C hM0 hr hlk ls hl
  replace hl : lv_has ls 1 [(0, .ref (z + 0))] := hl
  unfold f_X11_fits at h
  refine r_aload_n C dX11_fits_0 rfl hl 0 rfl ?_
  refine r_iconst C dX11_fits_1 ?_
  refine r_putI C hM0 jc11 7 ⟨by decide, by decide⟩ dX11_fits_2 lk_X11_105 lr_0.1 lr_0.2 rfl rfl (by decide) rfl rfl rfl (Nat.le_of_ble_eq_true rfl) (by decide) (fun H locs hM1 => ?_)
  replace h := lt_some h
  obtain ⟨N2, eN2, h⟩ := h
  rw [← eN2] at hM1
  refine r_aload_n C dX11_fits_5 rfl hl 0 rfl ?_
  replace h := bd_some h
  obtain ⟨⟨r6, M6⟩, hf6, h⟩ := h
  try dsimp only at h
  refine r_callI (As := []) (rest := []) C hM1 (c_X11_allFaults l E z hf6) jy_X11_allFaults lk_X11_456 dX11_fits_6 (recvW C hM1 jc11 lr_0.1 lr_0.2 rfl) rfl rfl hl.1 (Nat.le_of_ble_eq_true rfl) ⟨Nat.le_of_ble_eq_true rfl, Nat.le_of_ble_eq_true rfl⟩ ⟨rfl, rfl⟩ ⟨Nat.zero_le _, Nat.zero_le _⟩ (fun H locs hr6 hM3 => ?_)
  refine r_if_ne C 16 hr6 dX11_fits_9 (by decide) (fun cq => ?_) (fun cq => ?_)
  · replace h := ifn cq h
    refine r_iconst C dX11_fits_16 ?_
    exact r_zreturnM C hM3 hr hlk (Or.inl rfl) h dX11_fits_17
  · replace h := ifp cq h
    refine r_iconst C dX11_fits_12 ?_
    refine r_goto C 17 dX11_fits_13 (by decide) ?_
    exact r_zreturnM C hM3 hr hlk (Or.inr rfl) h dX11_fits_17
set_option maxRecDepth 100000 in
set_option maxHeartbeats 4000000 in
theorem c_X11_isBy (l : Launch) (E : jE) (z : Nat) {x1 : Int} {x2 : Int} {M : Mem} {r : Int} (hx1 : inR x1) (hx2 : inR x2) (h : f_X11_isBy x1 x2 M = some r) : CtI l yX11_isBy cX11_isBy 4 (some .boolean) { frames := 2, cells := 0, slots := 0, locals := 44 } E z LyR [.ref (z + 0), .int (jI x1), .int (jI x2)] M r M := by
  refine jm (by decide +kernel) (Nat.le_of_ble_eq_true rfl) ?_
  intro p e sM m below meth c C hM0 hr hlk ls hl
  replace hl : lv_has ls 4 [(0, .ref (z + 0)), (1, .int (jI x1)), (2, .int (jI x2))] := hl
  unfold f_X11_isBy at h
  refine r_aload_n C dX11_isBy_0 rfl hl 0 rfl ?_
  refine r_iload_n C dX11_isBy_1 rfl hl 2 rfl ?_
  replace h := bd_some h
  obtain ⟨r2, hf2, h⟩ := h
  refine r_callI (As := [.int (jI x2)]) (rest := []) C hM0 (c_X11_screenIn l E z hx2 hf2) jy_X11_screenIn lk_X11_181 dX11_isBy_2 (recvW C hM0 jc11 lr_0.1 lr_0.2 rfl) rfl rfl hl.1 (Nat.le_of_ble_eq_true rfl) ⟨Nat.le_of_ble_eq_true rfl, Nat.le_of_ble_eq_true rfl⟩ ⟨rfl, rfl⟩ ⟨Nat.zero_le _, Nat.zero_le _⟩ (fun H locs hr2 hM1 => ?_)
  refine r_istore_n C [(3, .int (jI r2)), (0, .ref (z + 0)), (1, .int (jI x1)), (2, .int (jI x2))] dX11_isBy_5 rfl hl (by decide) rfl (fun ls hl => ?_)
  refine r_iload_n C dX11_isBy_6 rfl hl 0 rfl ?_
  refine r_iconst C dX11_isBy_7 ?_
  refine r_icmp_eq C 37 hr2 ⟨by decide, by decide⟩ dX11_isBy_8 (by decide) (fun cq => ?_) (fun cq => ?_)
  · replace h := ifp cq h
    refine r_iconst C dX11_isBy_37 ?_
    exact r_zreturn C hM1 hr hlk (Or.inl rfl) h rfl dX11_isBy_38
  · replace h := ifn cq h
    refine r_aload_n C dX11_isBy_11 rfl hl 1 rfl ?_
    refine r_iload_n C dX11_isBy_12 rfl hl 0 rfl ?_
    replace h := bd_some h
    obtain ⟨r13, hf13, h⟩ := h
    refine r_callI (As := [.int (jI r2)]) (rest := []) C hM1 (c_X11_isShot l E z hr2 hf13) jy_X11_isShot lk_X11_184 dX11_isBy_13 (recvW C hM1 jc11 lr_0.1 lr_0.2 rfl) rfl rfl hl.1 (Nat.le_of_ble_eq_true rfl) ⟨Nat.le_of_ble_eq_true rfl, Nat.le_of_ble_eq_true rfl⟩ ⟨rfl, rfl⟩ ⟨Nat.zero_le _, Nat.zero_le _⟩ (fun H locs hr13 hM2 => ?_)
    refine r_if_eq C 37 hr13 dX11_isBy_16 (by decide) (fun cq => ?_) (fun cq => ?_)
    · replace h := ifp cq h
      refine r_iconst C dX11_isBy_37 ?_
      exact r_zreturn C hM2 hr hlk (Or.inl rfl) h rfl dX11_isBy_38
    · replace h := ifn cq h
      refine r_aload_n C dX11_isBy_19 rfl hl 1 rfl ?_
      refine r_aload_n C dX11_isBy_20 rfl hl 1 rfl ?_
      refine r_getR C hM2 jc11 9 8 dX11_isBy_21 lk_X11_32 lr_0.1 lr_0.2 rfl rfl (by decide) rfl ?_
      refine r_iload_n C dX11_isBy_24 rfl hl 0 rfl ?_
      replace h := ck_some h
      obtain ⟨hc3, h⟩ := h
      refine r_iald C hM2 rfl dX11_isBy_25 lr_8.1 lr_8.2 hc3 hr2 ?_
      replace h := bd_some h
      obtain ⟨r26, hf26, h⟩ := h
      refine r_callI (As := [.int (jI (M 8 r2.toNat))]) (rest := []) C hM2 (c_X11_cameraOf l E z (hM0.ok _ _) hf26) jy_X11_cameraOf lk_X11_108 dX11_isBy_26 (recvW C hM2 jc11 lr_0.1 lr_0.2 rfl) rfl rfl hl.1 (Nat.le_of_ble_eq_true rfl) ⟨Nat.le_of_ble_eq_true rfl, Nat.le_of_ble_eq_true rfl⟩ ⟨rfl, rfl⟩ ⟨Nat.zero_le _, Nat.zero_le _⟩ (fun H locs hr26 hM4 => ?_)
      refine r_iload_n C dX11_isBy_29 rfl hl 2 rfl ?_
      refine r_icmp_ne C 37 hr26 hx1 dX11_isBy_30 (by decide) (fun cq => ?_) (fun cq => ?_)
      · replace h := ifn cq h
        refine r_iconst C dX11_isBy_37 ?_
        exact r_zreturn C hM4 hr hlk (Or.inl rfl) h rfl dX11_isBy_38
      · replace h := ifp cq h
        refine r_iconst C dX11_isBy_33 ?_
        refine r_goto C 38 dX11_isBy_34 (by decide) ?_
        exact r_zreturn C hM4 hr hlk (Or.inr rfl) h rfl dX11_isBy_38
set_option maxRecDepth 100000 in
set_option maxHeartbeats 4000000 in
theorem c_X11_best (l : Launch) (E : jE) (z : Nat) {x1 : Int} {M M' : Mem} {r : Int} (hx1 : inR x1) (h : f_X11_best x1 M = some (r, M')) : CtI l yX11_best cX11_best 2 (some .int) { frames := 4, cells := 0, slots := 0, locals := 97 } E z LyR [.ref (z + 0), .int (jI x1)] M r M' := by
  refine jm (by decide +kernel) (Nat.le_of_ble_eq_true rfl) ?_
  intro p e sM m below meth c C hM0 hr hlk ls hl
  replace hl : lv_has ls 2 [(0, .ref (z + 0)), (1, .int (jI x1))] := hl
  unfold f_X11_best at h
  refine r_aload_n C dX11_best_0 rfl hl 0 rfl ?_
  refine r_iload_n C dX11_best_1 rfl hl 1 rfl ?_
  refine r_iconst C dX11_best_2 ?_
  refine r_iconst C dX11_best_3 ?_
  replace h := bd_some h
  obtain ⟨r4, hf4, h⟩ := h
  refine r_callSI (As := [.int (jI x1), .int (jI 0), .int (jI 2)]) (rest := [.ref (z + 0)]) C hM0 (c_X11_isIn l E z hx1 ⟨by decide, by decide⟩ ⟨by decide, by decide⟩ hf4) jy_X11_isIn lk_X11_112 dX11_best_4 rfl rfl hl.1 (Nat.le_of_ble_eq_true rfl) ⟨Nat.le_of_ble_eq_true rfl, Nat.le_of_ble_eq_true rfl⟩ ⟨rfl, rfl⟩ ⟨Nat.zero_le _, Nat.zero_le _⟩ (fun H locs hr4 hM1 => ?_)
  replace h := bd_some h
  obtain ⟨⟨r7, M7⟩, hf7, h⟩ := h
  try dsimp only at h
  refine r_callI (As := [.int (jI r4)]) (rest := []) C hM1 (c_X11_goes l E z hr4 hf7) jy_X11_goes lk_X11_239 dX11_best_7 (recvW C hM1 jc11 lr_0.1 lr_0.2 rfl) rfl rfl hl.1 (Nat.le_of_ble_eq_true rfl) ⟨Nat.le_of_ble_eq_true rfl, Nat.le_of_ble_eq_true rfl⟩ ⟨rfl, rfl⟩ ⟨Nat.zero_le _, Nat.zero_le _⟩ (fun H locs hr7 hM2 => ?_)
  refine r_if_ne C 15 hr7 dX11_best_10 (by decide) (fun cq => ?_) (fun cq => ?_)
  · replace h := ifn cq h
    refine r_aload_n C dX11_best_15 rfl hl 0 rfl ?_
    replace h := bd_some h
    obtain ⟨M16, hf16, h⟩ := h
    refine r_callV (As := []) (rest := []) C hM2 (c_X11_laysSums l E z hf16) jy_X11_laysSums lk_X11_462 dX11_best_16 (recvW C hM2 jc11 lr_0.1 lr_0.2 rfl) rfl rfl hl.1 (Nat.le_of_ble_eq_true rfl) ⟨Nat.le_of_ble_eq_true rfl, Nat.le_of_ble_eq_true rfl⟩ ⟨rfl, rfl⟩ ⟨Nat.zero_le _, Nat.zero_le _⟩ (fun H locs hM3 => ?_)
    refine r_aload_n C dX11_best_19 rfl hl 0 rfl ?_
    refine r_aload_n C dX11_best_20 rfl hl 0 rfl ?_
    refine r_getR C hM3 jc11 0 1 dX11_best_21 lk_X11_7 lr_0.1 lr_0.2 rfl rfl (by decide) rfl ?_
    refine r_iconst C dX11_best_24 ?_
    refine r_iald C hM3 rfl dX11_best_25 lr_1.1 lr_1.2 (show (0 : Int) ≤ 0 ∧ (0 : Int) < 1062 by decide) ⟨by decide, by decide⟩ ?_
    refine r_aload_n C dX11_best_26 rfl hl 0 rfl ?_
    replace h := bd_some h
    obtain ⟨⟨r27, M27⟩, hf27, h⟩ := h
    try dsimp only at h
    refine r_callI (As := []) (rest := [.int (jI (M16 1 (0 : Int).toNat)), .ref (z + 0)]) C hM3 (c_X11_laysWords l E z hf27) jy_X11_laysWords lk_X11_212 dX11_best_27 (recvW C hM3 jc11 lr_0.1 lr_0.2 rfl) rfl rfl hl.1 (Nat.le_of_ble_eq_true rfl) ⟨Nat.le_of_ble_eq_true rfl, Nat.le_of_ble_eq_true rfl⟩ ⟨rfl, rfl⟩ ⟨Nat.zero_le _, Nat.zero_le _⟩ (fun H locs hr27 hM4 => ?_)
    replace h := bd_some h
    obtain ⟨⟨r30, M30⟩, hf30, h⟩ := h
    try dsimp only at h
    refine r_callI (As := [.int (jI (M16 1 (0 : Int).toNat)), .int (jI r27)]) (rest := []) C hM4 (c_X11_chooses l E z (hM3.ok _ _) hr27 hf30) jy_X11_chooses lk_X11_465 dX11_best_30 (recvW C hM4 jc11 lr_0.1 lr_0.2 rfl) rfl rfl hl.1 (Nat.le_of_ble_eq_true rfl) ⟨Nat.le_of_ble_eq_true rfl, Nat.le_of_ble_eq_true rfl⟩ ⟨rfl, rfl⟩ ⟨Nat.zero_le _, Nat.zero_le _⟩ (fun H locs hr30 hM5 => ?_)
    refine r_if_ne C 38 hr30 dX11_best_33 (by decide) (fun cq => ?_) (fun cq => ?_)
    · replace h := ifn cq h
      refine r_iload_n C dX11_best_38 rfl hl 1 rfl ?_
      refine r_if_ne C 49 hx1 dX11_best_39 (by decide) (fun cq => ?_) (fun cq => ?_)
      · replace h := ifn cq h
        refine r_iload_n C dX11_best_49 rfl hl 1 rfl ?_
        refine r_iconst C dX11_best_50 ?_
        refine r_icmp_ne C 61 hx1 ⟨by decide, by decide⟩ dX11_best_51 (by decide) (fun cq => ?_) (fun cq => ?_)
        · replace h := ifn cq h
          refine r_aload_n C dX11_best_61 rfl hl 0 rfl ?_
          refine r_getI C hM5 jc11 26 rfl dX11_best_62 lk_X11_221 lr_0.1 lr_0.2 rfl rfl (by decide) rfl ?_
          replace h := bd_some h
          obtain ⟨r65, hf65, h⟩ := h
          refine r_callSI (As := [.int (jI (M30 0 26))]) (rest := []) C hM5 (c_X11_bits l E z (hM5.ok _ _) hf65) jy_X11_bits lk_X11_227 dX11_best_65 rfl rfl hl.1 (Nat.le_of_ble_eq_true rfl) ⟨Nat.le_of_ble_eq_true rfl, Nat.le_of_ble_eq_true rfl⟩ ⟨rfl, rfl⟩ ⟨Nat.zero_le _, Nat.zero_le _⟩ (fun H locs hr65 hM6 => ?_)
          exact r_ireturnM C hM6 hr hlk hr65 h dX11_best_68
        · replace h := ifp cq h
          refine r_aload_n C dX11_best_54 rfl hl 0 rfl ?_
          refine r_getI C hM5 jc11 27 rfl dX11_best_55 lk_X11_224 lr_0.1 lr_0.2 rfl rfl (by decide) rfl ?_
          refine r_goto C 68 dX11_best_58 (by decide) ?_
          exact r_ireturnM C hM5 hr hlk (hM5.ok _ _) h dX11_best_68
      · replace h := ifp cq h
        refine r_aload_n C dX11_best_42 rfl hl 0 rfl ?_
        refine r_getI C hM5 jc11 26 rfl dX11_best_43 lk_X11_221 lr_0.1 lr_0.2 rfl rfl (by decide) rfl ?_
        refine r_goto C 68 dX11_best_46 (by decide) ?_
        exact r_ireturnM C hM5 hr hlk (hM5.ok _ _) h dX11_best_68
    · replace h := ifp cq h
      refine r_iconst C dX11_best_36 ?_
      exact r_ireturnM C hM5 hr hlk ⟨by decide, by decide⟩ h dX11_best_37
  · replace h := ifp cq h
    refine r_iconst C dX11_best_13 ?_
    exact r_ireturnM C hM2 hr hlk ⟨by decide, by decide⟩ h dX11_best_14
set_option maxRecDepth 100000 in
set_option maxHeartbeats 4000000 in
theorem c_X11_bestWeek (l : Launch) (E : jE) (z : Nat) {M M' : Mem} {r : Int} (h : f_X11_bestWeek M = some (r, M')) : CtI l yX11_bestWeek cX11_bestWeek 5 (some .int) { frames := 4, cells := 0, slots := 0, locals := 97 } E z LyR [.ref (z + 0)] M r M' := by
  refine jm (by decide +kernel) (Nat.le_of_ble_eq_true rfl) ?_
  intro p e sM m below meth c C hM0 hr hlk ls hl
  replace hl : lv_has ls 5 [(0, .ref (z + 0))] := hl
  unfold f_X11_bestWeek at h
  refine r_aload_n C dX11_bestWeek_0 rfl hl 0 rfl ?_
  refine r_iconst C dX11_bestWeek_1 ?_
  refine r_putI C hM0 jc11 7 ⟨by decide, by decide⟩ dX11_bestWeek_2 lk_X11_105 lr_0.1 lr_0.2 rfl rfl (by decide) rfl rfl rfl (Nat.le_of_ble_eq_true rfl) (by decide) (fun H locs hM1 => ?_)
  replace h := lt_some h
  obtain ⟨N2, eN2, h⟩ := h
  rw [← eN2] at hM1
  refine r_aload_n C dX11_bestWeek_5 rfl hl 0 rfl ?_
  replace h := bd_some h
  obtain ⟨M6, hf6, h⟩ := h
  refine r_callV (As := []) (rest := []) C hM1 (c_X11_laysSums l E z hf6) jy_X11_laysSums lk_X11_462 dX11_bestWeek_6 (recvW C hM1 jc11 lr_0.1 lr_0.2 rfl) rfl rfl hl.1 (Nat.le_of_ble_eq_true rfl) ⟨Nat.le_of_ble_eq_true rfl, Nat.le_of_ble_eq_true rfl⟩ ⟨rfl, rfl⟩ ⟨Nat.zero_le _, Nat.zero_le _⟩ (fun H locs hM3 => ?_)
  refine r_aload_n C dX11_bestWeek_9 rfl hl 0 rfl ?_
  replace h := bd_some h
  obtain ⟨⟨r10, M10⟩, hf10, h⟩ := h
  try dsimp only at h
  refine r_callI (As := []) (rest := []) C hM3 (c_X11_laysWords l E z hf10) jy_X11_laysWords lk_X11_212 dX11_bestWeek_10 (recvW C hM3 jc11 lr_0.1 lr_0.2 rfl) rfl rfl hl.1 (Nat.le_of_ble_eq_true rfl) ⟨Nat.le_of_ble_eq_true rfl, Nat.le_of_ble_eq_true rfl⟩ ⟨rfl, rfl⟩ ⟨Nat.zero_le _, Nat.zero_le _⟩ (fun H locs hr10 hM4 => ?_)
  refine r_istore_n C [(1, .int (jI r10)), (0, .ref (z + 0))] dX11_bestWeek_13 rfl hl (by decide) rfl (fun ls hl => ?_)
  refine r_iconst C dX11_bestWeek_14 ?_
  refine r_istore_n C [(2, .int (jI (-1))), (1, .int (jI r10)), (0, .ref (z + 0))] dX11_bestWeek_15 rfl hl (by decide) rfl (fun ls hl => ?_)
  refine r_iconst C dX11_bestWeek_16 ?_
  refine r_istore_n C [(3, .int (jI 0)), (2, .int (jI (-1))), (1, .int (jI r10)), (0, .ref (z + 0))] dX11_bestWeek_17 rfl hl (by decide) rfl (fun ls hl => ?_)
  refine r_aload_n C dX11_bestWeek_18 rfl hl 3 rfl ?_
  refine r_getR C hM4 jc11 0 1 dX11_bestWeek_19 lk_X11_7 lr_0.1 lr_0.2 rfl rfl (by decide) rfl ?_
  refine r_iconst C dX11_bestWeek_22 ?_
  refine r_iald C hM4 rfl dX11_bestWeek_23 lr_1.1 lr_1.2 (show (0 : Int) ≤ 0 ∧ (0 : Int) < 1062 by decide) ⟨by decide, by decide⟩ ?_
  refine r_istore C [(4, .int (jI (M10 1 (0 : Int).toNat))), (3, .int (jI 0)), (2, .int (jI (-1))), (1, .int (jI r10)), (0, .ref (z + 0))] dX11_bestWeek_24 hl (by decide) rfl (fun ls hl => ?_)
  obtain ⟨y1, ey1⟩ : ∃ y : Int, y = r10 := ⟨_, rfl⟩
  have hy1 : inR y1 := by rw [ey1]; exact hr10
  have hL26 : ∀ n26 : Nat, ∀ (x2 : Int) (x3 : Int) (x4 : Int) (M : Mem), inR x2 → inR x3 → inR x4 → ∀ (H : Heap) (locs : List Loc) (ls : Array Slot), f_X11_bestWeek_L26 y1 n26  x2 x3 x4 M = some (r, M') → HS E z LyR M sM H locs → lv_has ls 5 [(0, .ref (z + 0)), (1, .int (jI y1)), (2, .int (jI x2)), (3, .int (jI x3)), (4, .int (jI x4))] → W p l e ({ frames := 4, cells := 0, slots := 0, locals := 97 } : Room) sM m (([.ref (z + 0)] : List Value).toArray) below meth c H locs 0 0 (MQ below (va_Qi (fun (w : Int32) (_ : Unit) => w = jI r ∧ inR r ∧ Mok LyR M') (fun _ t => va_P (eD E) vwCl (Wd (eC E) z LyR M') t.heap) (eA E)) (([.ref (z + 0)] : List Value).toArray) sM 0 0 (eA E)) (F0 m 26 ls []) := by
    intro n26
    induction n26 with
    | zero =>
      intro x2 x3 x4 M hx2 hx3 hx4 H locs ls h hM hl
      exact absurd h (by simp [f_X11_bestWeek_L26])
    | succ n26 ih26 =>
      intro x2 x3 x4 M hx2 hx3 hx4 H locs ls h hM hl
      rw [f_X11_bestWeek_L26] at h
      refine r_iload C dX11_bestWeek_26 hl 4 rfl ?_
      refine r_bipush C dX11_bestWeek_28 rfl ?_
      refine r_icmp_gt C 70 hx4 ⟨by decide, by decide⟩ dX11_bestWeek_30 (by decide) (fun cq => ?_) (fun cq => ?_)
      · replace h := ifp cq h
        refine r_iload_n C dX11_bestWeek_70 rfl hl 2 rfl ?_
        exact r_ireturnM C hM hr hlk hx2 h dX11_bestWeek_71
      · replace h := ifn cq h
        refine r_aload_n C dX11_bestWeek_33 rfl hl 0 rfl ?_
        refine r_iload C dX11_bestWeek_34 hl 4 rfl ?_
        refine r_iload_n C dX11_bestWeek_36 rfl hl 1 rfl ?_
        replace h := bd_some h
        obtain ⟨⟨r37, M37⟩, hf37, h⟩ := h
        try dsimp only at h
        refine r_callI (As := [.int (jI x4), .int (jI y1)]) (rest := []) C hM (c_X11_chooses l E z hx4 hy1 hf37) jy_X11_chooses lk_X11_465 dX11_bestWeek_37 (recvW C hM jc11 lr_0.1 lr_0.2 rfl) rfl rfl hl.1 (Nat.le_of_ble_eq_true rfl) ⟨Nat.le_of_ble_eq_true rfl, Nat.le_of_ble_eq_true rfl⟩ ⟨rfl, rfl⟩ ⟨Nat.zero_le _, Nat.zero_le _⟩ (fun H locs hr37 hM5 => ?_)
        refine r_if_eq C 64 hr37 dX11_bestWeek_40 (by decide) (fun cq => ?_) (fun cq => ?_)
        · replace h := ifp cq h
          replace h := ck_some h
          obtain ⟨hc6, h⟩ := h
          refine r_iinc (j := 4) (x := x4) C [(4, .int (jI (x4 + 1))), (0, .ref (z + 0)), (1, .int (jI y1)), (2, .int (jI x2)), (3, .int (jI x3))] dX11_bestWeek_64 hl rfl (by decide) rfl (fun ls hl => ?_)
          refine r_goto C 26 dX11_bestWeek_67 (by decide) ?_
          exact ih26 _ _ _ _ hx2 hx3 hc6 _ _ _ h hM5 (lv_sub hl [1, 2, 3, 4, 0] rfl)
        · replace h := ifn cq h
          refine r_iload_n C dX11_bestWeek_43 rfl hl 2 rfl ?_
          refine r_iconst C dX11_bestWeek_44 ?_
          refine r_icmp_eq C 56 hx2 ⟨by decide, by decide⟩ dX11_bestWeek_45 (by decide) (fun cq => ?_) (fun cq => ?_)
          · replace h := ifp cq h
            refine r_iload C dX11_bestWeek_56 hl 4 rfl ?_
            refine r_istore_n C [(2, .int (jI x4)), (0, .ref (z + 0)), (1, .int (jI y1)), (3, .int (jI x3)), (4, .int (jI x4))] dX11_bestWeek_58 rfl hl (by decide) rfl (fun ls hl => ?_)
            refine r_aload_n C dX11_bestWeek_59 rfl hl 1 rfl ?_
            refine r_getI C hM5 jc11 27 rfl dX11_bestWeek_60 lk_X11_224 lr_0.1 lr_0.2 rfl rfl (by decide) rfl ?_
            refine r_istore_n C [(3, .int (jI (M37 0 27))), (2, .int (jI x4)), (0, .ref (z + 0)), (1, .int (jI y1)), (4, .int (jI x4))] dX11_bestWeek_63 rfl hl (by decide) rfl (fun ls hl => ?_)
            replace h := ck_some h
            obtain ⟨hc7, h⟩ := h
            refine r_iinc (j := 4) (x := x4) C [(4, .int (jI (x4 + 1))), (3, .int (jI (M37 0 27))), (2, .int (jI x4)), (0, .ref (z + 0)), (1, .int (jI y1))] dX11_bestWeek_64 hl rfl (by decide) rfl (fun ls hl => ?_)
            refine r_goto C 26 dX11_bestWeek_67 (by decide) ?_
            exact ih26 _ _ _ _ hx4 (hM5.ok _ _) hc7 _ _ _ h hM5 (lv_sub hl [3, 4, 2, 1, 0] rfl)
          · replace h := ifn cq h
            refine r_aload_n C dX11_bestWeek_48 rfl hl 0 rfl ?_
            refine r_getI C hM5 jc11 27 rfl dX11_bestWeek_49 lk_X11_224 lr_0.1 lr_0.2 rfl rfl (by decide) rfl ?_
            refine r_iload_n C dX11_bestWeek_52 rfl hl 3 rfl ?_
            refine r_icmp_ge C 64 (hM5.ok _ _) hx3 dX11_bestWeek_53 (by decide) (fun cq => ?_) (fun cq => ?_)
            · replace h := ifp cq h
              replace h := ck_some h
              obtain ⟨hc8, h⟩ := h
              refine r_iinc (j := 4) (x := x4) C [(4, .int (jI (x4 + 1))), (0, .ref (z + 0)), (1, .int (jI y1)), (2, .int (jI x2)), (3, .int (jI x3))] dX11_bestWeek_64 hl rfl (by decide) rfl (fun ls hl => ?_)
              refine r_goto C 26 dX11_bestWeek_67 (by decide) ?_
              exact ih26 _ _ _ _ hx2 hx3 hc8 _ _ _ h hM5 (lv_sub hl [1, 2, 3, 4, 0] rfl)
            · replace h := ifn cq h
              refine r_iload C dX11_bestWeek_56 hl 4 rfl ?_
              refine r_istore_n C [(2, .int (jI x4)), (0, .ref (z + 0)), (1, .int (jI y1)), (3, .int (jI x3)), (4, .int (jI x4))] dX11_bestWeek_58 rfl hl (by decide) rfl (fun ls hl => ?_)
              refine r_aload_n C dX11_bestWeek_59 rfl hl 1 rfl ?_
              refine r_getI C hM5 jc11 27 rfl dX11_bestWeek_60 lk_X11_224 lr_0.1 lr_0.2 rfl rfl (by decide) rfl ?_
              refine r_istore_n C [(3, .int (jI (M37 0 27))), (2, .int (jI x4)), (0, .ref (z + 0)), (1, .int (jI y1)), (4, .int (jI x4))] dX11_bestWeek_63 rfl hl (by decide) rfl (fun ls hl => ?_)
              replace h := ck_some h
              obtain ⟨hc9, h⟩ := h
              refine r_iinc (j := 4) (x := x4) C [(4, .int (jI (x4 + 1))), (3, .int (jI (M37 0 27))), (2, .int (jI x4)), (0, .ref (z + 0)), (1, .int (jI y1))] dX11_bestWeek_64 hl rfl (by decide) rfl (fun ls hl => ?_)
              refine r_goto C 26 dX11_bestWeek_67 (by decide) ?_
              exact ih26 _ _ _ _ hx4 (hM5.ok _ _) hc9 _ _ _ h hM5 (lv_sub hl [3, 4, 2, 1, 0] rfl)
  rw [← ey1] at h
  have hl := lv_sub (l' := [(0, .ref (z + 0)), (1, .int (jI y1)), (2, .int (jI (-1))), (3, .int (jI 0)), (4, .int (jI (M10 1 (0 : Int).toNat)))]) hl [4, 3, 2, 1, 0] (by rw [ey1]; rfl)
  exact hL26 jFuel _ _ _ _ ⟨by decide, by decide⟩ ⟨by decide, by decide⟩ (hM4.ok _ _) _ _ _ h hM4 hl
set_option maxRecDepth 100000 in
set_option maxHeartbeats 4000000 in
theorem c_X11_bestSpeed (l : Launch) (E : jE) (z : Nat) {M M' : Mem} {r : Int} (h : f_X11_bestSpeed M = some (r, M')) : CtI l yX11_bestSpeed cX11_bestSpeed 7 (some .int) { frames := 4, cells := 0, slots := 0, locals := 89 } E z LyR [.ref (z + 0)] M r M' := by
  refine jm (by decide +kernel) (Nat.le_of_ble_eq_true rfl) ?_
  intro p e sM m below meth c C hM0 hr hlk ls hl
  replace hl : lv_has ls 7 [(0, .ref (z + 0))] := hl
  unfold f_X11_bestSpeed at h
  refine r_aload_n C dX11_bestSpeed_0 rfl hl 0 rfl ?_
  refine r_iconst C dX11_bestSpeed_1 ?_
  refine r_putI C hM0 jc11 7 ⟨by decide, by decide⟩ dX11_bestSpeed_2 lk_X11_105 lr_0.1 lr_0.2 rfl rfl (by decide) rfl rfl rfl (Nat.le_of_ble_eq_true rfl) (by decide) (fun H locs hM1 => ?_)
  replace h := lt_some h
  obtain ⟨N2, eN2, h⟩ := h
  rw [← eN2] at hM1
  refine r_aload_n C dX11_bestSpeed_5 rfl hl 0 rfl ?_
  replace h := bd_some h
  obtain ⟨M6, hf6, h⟩ := h
  refine r_callV (As := []) (rest := []) C hM1 (c_X11_laysPieces l E z hf6) jy_X11_laysPieces lk_X11_209 dX11_bestSpeed_6 (recvW C hM1 jc11 lr_0.1 lr_0.2 rfl) rfl rfl hl.1 (Nat.le_of_ble_eq_true rfl) ⟨Nat.le_of_ble_eq_true rfl, Nat.le_of_ble_eq_true rfl⟩ ⟨rfl, rfl⟩ ⟨Nat.zero_le _, Nat.zero_le _⟩ (fun H locs hM3 => ?_)
  refine r_aload_n C dX11_bestSpeed_9 rfl hl 0 rfl ?_
  replace h := bd_some h
  obtain ⟨r10, hf10, h⟩ := h
  refine r_callI (As := []) (rest := []) C hM3 (c_X11_theEnd l E z hf10) jy_X11_theEnd lk_X11_196 dX11_bestSpeed_10 (recvW C hM3 jc11 lr_0.1 lr_0.2 rfl) rfl rfl hl.1 (Nat.le_of_ble_eq_true rfl) ⟨Nat.le_of_ble_eq_true rfl, Nat.le_of_ble_eq_true rfl⟩ ⟨rfl, rfl⟩ ⟨Nat.zero_le _, Nat.zero_le _⟩ (fun H locs hr10 hM4 => ?_)
  refine r_istore_n C [(1, .int (jI r10)), (0, .ref (z + 0))] dX11_bestSpeed_13 rfl hl (by decide) rfl (fun ls hl => ?_)
  refine r_aload_n C dX11_bestSpeed_14 rfl hl 1 rfl ?_
  refine r_getR C hM4 jc11 0 1 dX11_bestSpeed_15 lk_X11_7 lr_0.1 lr_0.2 rfl rfl (by decide) rfl ?_
  refine r_iconst C dX11_bestSpeed_18 ?_
  refine r_iald C hM4 rfl dX11_bestSpeed_19 lr_1.1 lr_1.2 (show (0 : Int) ≤ 1 ∧ (1 : Int) < 1062 by decide) ⟨by decide, by decide⟩ ?_
  refine r_istore_n C [(2, .int (jI (M6 1 (1 : Int).toNat))), (1, .int (jI r10)), (0, .ref (z + 0))] dX11_bestSpeed_20 rfl hl (by decide) rfl (fun ls hl => ?_)
  refine r_iconst C dX11_bestSpeed_21 ?_
  refine r_istore_n C [(3, .int (jI (-1))), (2, .int (jI (M6 1 (1 : Int).toNat))), (1, .int (jI r10)), (0, .ref (z + 0))] dX11_bestSpeed_22 rfl hl (by decide) rfl (fun ls hl => ?_)
  refine r_iconst C dX11_bestSpeed_23 ?_
  refine r_istore C [(4, .int (jI 0)), (3, .int (jI (-1))), (2, .int (jI (M6 1 (1 : Int).toNat))), (1, .int (jI r10)), (0, .ref (z + 0))] dX11_bestSpeed_24 hl (by decide) rfl (fun ls hl => ?_)
  refine r_iconst C dX11_bestSpeed_26 ?_
  refine r_istore C [(5, .int (jI 1)), (4, .int (jI 0)), (3, .int (jI (-1))), (2, .int (jI (M6 1 (1 : Int).toNat))), (1, .int (jI r10)), (0, .ref (z + 0))] dX11_bestSpeed_27 hl (by decide) rfl (fun ls hl => ?_)
  obtain ⟨y1, ey1⟩ : ∃ y : Int, y = r10 := ⟨_, rfl⟩
  have hy1 : inR y1 := by rw [ey1]; exact hr10
  obtain ⟨y2, ey2⟩ : ∃ y : Int, y = (M6 1 (1 : Int).toNat) := ⟨_, rfl⟩
  have hy2 : inR y2 := by rw [ey2]; exact (hM3.ok _ _)
  have hL29 : ∀ n29 : Nat, ∀ (x3 : Int) (x4 : Int) (x5 : Int) (M : Mem), inR x3 → inR x4 → inR x5 → ∀ (H : Heap) (locs : List Loc) (ls : Array Slot), f_X11_bestSpeed_L29 y1 y2 n29  x3 x4 x5 M = some (r, M') → HS E z LyR M sM H locs → lv_has ls 7 [(0, .ref (z + 0)), (1, .int (jI y1)), (2, .int (jI y2)), (3, .int (jI x3)), (4, .int (jI x4)), (5, .int (jI x5))] → W p l e ({ frames := 4, cells := 0, slots := 0, locals := 89 } : Room) sM m (([.ref (z + 0)] : List Value).toArray) below meth c H locs 0 0 (MQ below (va_Qi (fun (w : Int32) (_ : Unit) => w = jI r ∧ inR r ∧ Mok LyR M') (fun _ t => va_P (eD E) vwCl (Wd (eC E) z LyR M') t.heap) (eA E)) (([.ref (z + 0)] : List Value).toArray) sM 0 0 (eA E)) (F0 m 29 ls []) := by
    intro n29
    induction n29 with
    | zero =>
      intro x3 x4 x5 M hx3 hx4 hx5 H locs ls h hM hl
      exact absurd h (by simp [f_X11_bestSpeed_L29])
    | succ n29 ih29 =>
      intro x3 x4 x5 M hx3 hx4 hx5 H locs ls h hM hl
      rw [f_X11_bestSpeed_L29] at h
      refine r_iload C dX11_bestSpeed_29 hl 5 rfl ?_
      refine r_bipush C dX11_bestSpeed_31 rfl ?_
      refine r_icmp_gt C 80 hx5 ⟨by decide, by decide⟩ dX11_bestSpeed_33 (by decide) (fun cq => ?_) (fun cq => ?_)
      · replace h := ifp cq h
        refine r_aload_n C dX11_bestSpeed_80 rfl hl 0 rfl ?_
        refine r_getR C hM jc11 0 1 dX11_bestSpeed_81 lk_X11_7 lr_0.1 lr_0.2 rfl rfl (by decide) rfl ?_
        refine r_iconst C dX11_bestSpeed_84 ?_
        refine r_iload_n C dX11_bestSpeed_85 rfl hl 2 rfl ?_
        refine r_iast C hM dX11_bestSpeed_86 lr_1.1 lr_1.2 (show (0 : Int) ≤ 1 ∧ (1 : Int) < 1062 by decide) ⟨by decide, by decide⟩ hy2 (fun H locs hM5 => ?_)
        replace h := lt_some h
        obtain ⟨N6, eN6, h⟩ := h
        rw [← eN6] at hM5
        refine r_iload_n C dX11_bestSpeed_87 rfl hl 3 rfl ?_
        exact r_ireturnM C hM5 hr hlk hx3 h dX11_bestSpeed_88
      · replace h := ifn cq h
        refine r_aload_n C dX11_bestSpeed_36 rfl hl 0 rfl ?_
        refine r_getR C hM jc11 0 1 dX11_bestSpeed_37 lk_X11_7 lr_0.1 lr_0.2 rfl rfl (by decide) rfl ?_
        refine r_iconst C dX11_bestSpeed_40 ?_
        refine r_iload C dX11_bestSpeed_41 hl 5 rfl ?_
        refine r_iast C hM dX11_bestSpeed_43 lr_1.1 lr_1.2 (show (0 : Int) ≤ 1 ∧ (1 : Int) < 1062 by decide) ⟨by decide, by decide⟩ hx5 (fun H locs hM7 => ?_)
        replace h := lt_some h
        obtain ⟨N8, eN8, h⟩ := h
        rw [← eN8] at hM7
        refine r_iload_n C dX11_bestSpeed_44 rfl hl 1 rfl ?_
        refine r_aload_n C dX11_bestSpeed_45 rfl hl 0 rfl ?_
        replace h := bd_some h
        obtain ⟨⟨r46, M46⟩, hf46, h⟩ := h
        try dsimp only at h
        refine r_callI (As := []) (rest := [.int (jI y1)]) C hM7 (c_X11_laysWords l E z hf46) jy_X11_laysWords lk_X11_212 dX11_bestSpeed_46 (recvW C hM7 jc11 lr_0.1 lr_0.2 rfl) rfl rfl hl.1 (Nat.le_of_ble_eq_true rfl) ⟨Nat.le_of_ble_eq_true rfl, Nat.le_of_ble_eq_true rfl⟩ ⟨rfl, rfl⟩ ⟨Nat.zero_le _, Nat.zero_le _⟩ (fun H locs hr46 hM9 => ?_)
        replace h := ck_some h
        obtain ⟨hc10, h⟩ := h
        refine r_isub C dX11_bestSpeed_49 ?_
        replace h := ck_some h
        obtain ⟨hc11, h⟩ := h
        refine r_abs C hc10 lk_X11_200 dX11_bestSpeed_50 hl.1 ⟨Nat.le_of_ble_eq_true rfl, Nat.le_of_ble_eq_true rfl⟩ ⟨Nat.zero_le _, Nat.zero_le _⟩ ?_
        refine r_istore C [(6, .int (jI (max (y1 - r46) (-(y1 - r46))))), (0, .ref (z + 0)), (1, .int (jI y1)), (2, .int (jI y2)), (3, .int (jI x3)), (4, .int (jI x4)), (5, .int (jI x5))] dX11_bestSpeed_53 hl (by decide) rfl (fun ls hl => ?_)
        refine r_iload_n C dX11_bestSpeed_55 rfl hl 4 rfl ?_
        refine r_iconst C dX11_bestSpeed_56 ?_
        refine r_icmp_eq C 67 hx3 ⟨by decide, by decide⟩ dX11_bestSpeed_57 (by decide) (fun cq => ?_) (fun cq => ?_)
        · replace h := ifp cq h
          refine r_iload C dX11_bestSpeed_67 hl 6 rfl ?_
          refine r_istore_n C [(3, .int (jI x5)), (6, .int (jI (max (y1 - r46) (-(y1 - r46))))), (0, .ref (z + 0)), (1, .int (jI y1)), (2, .int (jI y2)), (4, .int (jI x4)), (5, .int (jI x5))] dX11_bestSpeed_69 rfl hl (by decide) rfl (fun ls hl => ?_)
          refine r_iload C dX11_bestSpeed_70 hl 1 rfl ?_
          refine r_istore C [(4, .int (jI (max (y1 - r46) (-(y1 - r46))))), (3, .int (jI x5)), (6, .int (jI (max (y1 - r46) (-(y1 - r46))))), (0, .ref (z + 0)), (1, .int (jI y1)), (2, .int (jI y2)), (5, .int (jI x5))] dX11_bestSpeed_72 hl (by decide) rfl (fun ls hl => ?_)
          replace h := ck_some h
          obtain ⟨hc12, h⟩ := h
          refine r_iinc (j := 6) (x := x5) C [(5, .int (jI (x5 + 1))), (4, .int (jI (max (y1 - r46) (-(y1 - r46))))), (3, .int (jI x5)), (6, .int (jI (max (y1 - r46) (-(y1 - r46))))), (0, .ref (z + 0)), (1, .int (jI y1)), (2, .int (jI y2))] dX11_bestSpeed_74 hl rfl (by decide) rfl (fun ls hl => ?_)
          refine r_goto C 29 dX11_bestSpeed_77 (by decide) ?_
          exact ih29 _ _ _ _ hx5 (max_R hc10 hc11) hc12 _ _ _ h hM9 (lv_sub hl [4, 5, 6, 2, 1, 0] rfl)
        · replace h := ifn cq h
          refine r_iload C dX11_bestSpeed_60 hl 0 rfl ?_
          refine r_iload C dX11_bestSpeed_62 hl 5 rfl ?_
          refine r_icmp_ge C 74 (max_R hc10 hc11) hx4 dX11_bestSpeed_64 (by decide) (fun cq => ?_) (fun cq => ?_)
          · replace h := ifp cq h
            replace h := ck_some h
            obtain ⟨hc13, h⟩ := h
            refine r_iinc (j := 6) (x := x5) C [(5, .int (jI (x5 + 1))), (6, .int (jI (max (y1 - r46) (-(y1 - r46))))), (0, .ref (z + 0)), (1, .int (jI y1)), (2, .int (jI y2)), (3, .int (jI x3)), (4, .int (jI x4))] dX11_bestSpeed_74 hl rfl (by decide) rfl (fun ls hl => ?_)
            refine r_goto C 29 dX11_bestSpeed_77 (by decide) ?_
            exact ih29 _ _ _ _ hx3 hx4 hc13 _ _ _ h hM9 (lv_sub hl [2, 3, 4, 5, 6, 0] rfl)
          · replace h := ifn cq h
            refine r_iload C dX11_bestSpeed_67 hl 6 rfl ?_
            refine r_istore_n C [(3, .int (jI x5)), (6, .int (jI (max (y1 - r46) (-(y1 - r46))))), (0, .ref (z + 0)), (1, .int (jI y1)), (2, .int (jI y2)), (4, .int (jI x4)), (5, .int (jI x5))] dX11_bestSpeed_69 rfl hl (by decide) rfl (fun ls hl => ?_)
            refine r_iload C dX11_bestSpeed_70 hl 1 rfl ?_
            refine r_istore C [(4, .int (jI (max (y1 - r46) (-(y1 - r46))))), (3, .int (jI x5)), (6, .int (jI (max (y1 - r46) (-(y1 - r46))))), (0, .ref (z + 0)), (1, .int (jI y1)), (2, .int (jI y2)), (5, .int (jI x5))] dX11_bestSpeed_72 hl (by decide) rfl (fun ls hl => ?_)
            replace h := ck_some h
            obtain ⟨hc14, h⟩ := h
            refine r_iinc (j := 6) (x := x5) C [(5, .int (jI (x5 + 1))), (4, .int (jI (max (y1 - r46) (-(y1 - r46))))), (3, .int (jI x5)), (6, .int (jI (max (y1 - r46) (-(y1 - r46))))), (0, .ref (z + 0)), (1, .int (jI y1)), (2, .int (jI y2))] dX11_bestSpeed_74 hl rfl (by decide) rfl (fun ls hl => ?_)
            refine r_goto C 29 dX11_bestSpeed_77 (by decide) ?_
            exact ih29 _ _ _ _ hx5 (max_R hc10 hc11) hc14 _ _ _ h hM9 (lv_sub hl [4, 5, 6, 2, 1, 0] rfl)
  rw [← ey2] at h
  rw [← ey1] at h
  have hl := lv_sub (l' := [(0, .ref (z + 0)), (1, .int (jI y1)), (2, .int (jI y2)), (3, .int (jI (-1))), (4, .int (jI 0)), (5, .int (jI 1))]) hl [5, 4, 3, 2, 1, 0] (by rw [ey1, ey2]; rfl)
  exact hL29 jFuel _ _ _ _ ⟨by decide, by decide⟩ ⟨by decide, by decide⟩ ⟨by decide, by decide⟩ _ _ _ h hM4 hl
set_option maxRecDepth 100000 in
set_option maxHeartbeats 4000000 in
theorem c_X11_begins (l : Launch) (E : jE) (z : Nat) {M M' : Mem} (h : f_X11_begins M = some M') : CtV l yX11_begins cX11_begins 2 none { frames := 1, cells := 0, slots := 0, locals := 24 } E z LyR [.ref (z + 0)] M M' := by
  refine jm (by decide +kernel) (Nat.le_of_ble_eq_true rfl) ?_
  intro p e sM m below meth c C hM0 hr hlk ls hl
  replace hl : lv_has ls 2 [(0, .ref (z + 0))] := hl
  unfold f_X11_begins at h
  refine r_aload_n C dX11_begins_0 rfl hl 0 rfl ?_
  refine r_getI C hM0 jc11 6 rfl dX11_begins_1 lk_X11_359 lr_0.1 lr_0.2 rfl rfl (by decide) rfl ?_
  refine r_bipush C dX11_begins_4 rfl ?_
  replace h := jn_some h
  obtain ⟨k55, hk55, h⟩ := h
  have hJ55 : ∀ (M55 : Mem), ∀ (H : Heap) (locs : List Loc) (ls : Array Slot), k55 M55 = some M' → HS E z LyR M55 sM H locs → lv_has ls 2 [(0, .ref (z + 0))] → W p l e ({ frames := 1, cells := 0, slots := 0, locals := 24 } : Room) sM m (([.ref (z + 0)] : List Value).toArray) below meth c H locs 0 0 (MQ below (va_Qv (fun (_ : Unit) => Mok LyR M') (fun _ t => va_P (eD E) vwCl (Wd (eC E) z LyR M') t.heap) (eA E)) (([.ref (z + 0)] : List Value).toArray) sM 0 0 (eA E)) (F0 m 55 ls []) := by
    intro M55 H locs ls h hMj55 hl
    subst hk55
    try dsimp only at h
    refine r_aload_n C dX11_begins_55 rfl hl 0 rfl ?_
    refine r_getR C hMj55 jc11 0 1 dX11_begins_56 lk_X11_7 lr_0.1 lr_0.2 rfl rfl (by decide) rfl ?_
    refine r_iconst C dX11_begins_59 ?_
    refine r_aload_n C dX11_begins_60 rfl hl 0 rfl ?_
    refine r_getR C hMj55 jc11 2 3 dX11_begins_61 lk_X11_16 lr_0.1 lr_0.2 rfl rfl (by decide) rfl ?_
    refine r_sipush C dX11_begins_64 rfl ?_
    refine r_aload_n C dX11_begins_67 rfl hl 0 rfl ?_
    refine r_getI C hMj55 jc11 6 rfl dX11_begins_68 lk_X11_359 lr_0.1 lr_0.2 rfl rfl (by decide) rfl ?_
    replace h := ck_some h
    obtain ⟨hc1, h⟩ := h
    refine r_imul C dX11_begins_71 ?_
    replace h := bd_some h
    obtain ⟨M72, hf72, h⟩ := h
    refine r_callSV (As := [.ref (z + 1), .int (jI 0), .ref (z + 3), .int (jI (1062 * (M55 0 6)))]) (rest := []) C hMj55 (c_X11_copies l E z lr_1 ⟨by decide, by decide⟩ lr_3 hc1 hf72) jy_X11_copies lk_X11_346 dX11_begins_72 rfl rfl hl.1 (Nat.le_of_ble_eq_true rfl) ⟨Nat.le_of_ble_eq_true rfl, Nat.le_of_ble_eq_true rfl⟩ ⟨rfl, rfl⟩ ⟨Nat.zero_le _, Nat.zero_le _⟩ (fun H locs hM2 => ?_)
    refine r_aload_n C dX11_begins_75 rfl hl 0 rfl ?_
    refine r_dup C dX11_begins_76 rfl ?_
    refine r_getI C hM2 jc11 6 rfl dX11_begins_77 lk_X11_359 lr_0.1 lr_0.2 rfl rfl (by decide) rfl ?_
    refine r_iconst C dX11_begins_80 ?_
    replace h := ck_some h
    obtain ⟨hc3, h⟩ := h
    refine r_iadd C dX11_begins_81 ?_
    refine r_putI C hM2 jc11 6 hc3 dX11_begins_82 lk_X11_359 lr_0.1 lr_0.2 rfl rfl (by decide) rfl rfl rfl (Nat.le_of_ble_eq_true rfl) (by decide) (fun H locs hM4 => ?_)
    replace h := lt_some h
    obtain ⟨N5, eN5, h⟩ := h
    rw [← eN5] at hM4
    refine r_aload_n C dX11_begins_85 rfl hl 0 rfl ?_
    refine r_getR C hM4 jc11 4 5 dX11_begins_86 lk_X11_22 lr_0.1 lr_0.2 rfl rfl (by decide) rfl ?_
    refine r_iconst C dX11_begins_89 ?_
    refine r_dup2 C dX11_begins_90 rfl rfl ?_
    refine r_iald C hM4 (rd_skip eN5 (by decide) rfl) dX11_begins_91 lr_5.1 lr_5.2 (show (0 : Int) ≤ 0 ∧ (0 : Int) < 7 by decide) ⟨by decide, by decide⟩ ?_
    refine r_iconst C dX11_begins_92 ?_
    replace h := ck_some h
    obtain ⟨hc6, h⟩ := h
    refine r_iadd C dX11_begins_93 ?_
    refine r_iast C hM4 dX11_begins_94 lr_5.1 lr_5.2 (show (0 : Int) ≤ 0 ∧ (0 : Int) < 7 by decide) ⟨by decide, by decide⟩ hc6 (fun H locs hM7 => ?_)
    replace h := lt_some h
    obtain ⟨N8, eN8, h⟩ := h
    rw [← eN8] at hM7
    exact r_return C hM7 hr hlk h dX11_begins_95
  refine r_icmp_ne C 55 (hM0.ok _ _) ⟨by decide, by decide⟩ dX11_begins_6 (by decide) (fun cq => ?_) (fun cq => ?_)
  · replace h := ifn cq h
    exact hJ55 _ _ _ _ h hM0 (lv_sub hl [0] rfl)
  · replace h := ifp cq h
    refine r_aload_n C dX11_begins_9 rfl hl 0 rfl ?_
    refine r_dup C dX11_begins_10 rfl ?_
    refine r_getI C hM0 jc11 6 rfl dX11_begins_11 lk_X11_359 lr_0.1 lr_0.2 rfl rfl (by decide) rfl ?_
    refine r_iconst C dX11_begins_14 ?_
    replace h := ck_some h
    obtain ⟨hc9, h⟩ := h
    refine r_isub C dX11_begins_15 ?_
    refine r_putI C hM0 jc11 6 hc9 dX11_begins_16 lk_X11_359 lr_0.1 lr_0.2 rfl rfl (by decide) rfl rfl rfl (Nat.le_of_ble_eq_true rfl) (by decide) (fun H locs hM10 => ?_)
    replace h := lt_some h
    obtain ⟨N11, eN11, h⟩ := h
    rw [← eN11] at hM10
    refine r_iconst C dX11_begins_19 ?_
    refine r_istore_n C [(1, .int (jI 0)), (0, .ref (z + 0))] dX11_begins_20 rfl hl (by decide) rfl (fun ls hl => ?_)
    have hL21 : ∀ n21 : Nat, ∀ (x1 : Int) (M : Mem), inR x1 → ∀ (H : Heap) (locs : List Loc) (ls : Array Slot), f_X11_begins_L21 k55 n21  x1 M = some M' → HS E z LyR M sM H locs → lv_has ls 2 [(0, .ref (z + 0)), (1, .int (jI x1))] → W p l e ({ frames := 1, cells := 0, slots := 0, locals := 24 } : Room) sM m (([.ref (z + 0)] : List Value).toArray) below meth c H locs 0 0 (MQ below (va_Qv (fun (_ : Unit) => Mok LyR M') (fun _ t => va_P (eD E) vwCl (Wd (eC E) z LyR M') t.heap) (eA E)) (([.ref (z + 0)] : List Value).toArray) sM 0 0 (eA E)) (F0 m 21 ls []) := by
      intro n21
      induction n21 with
      | zero =>
        intro x1 M hx1 H locs ls h hM hl
        exact absurd h (by simp [f_X11_begins_L21])
      | succ n21 ih21 =>
        intro x1 M hx1 H locs ls h hM hl
        rw [f_X11_begins_L21] at h
        refine r_iload_n C dX11_begins_21 rfl hl 1 rfl ?_
        refine r_sipush C dX11_begins_22 rfl ?_
        refine r_aload_n C dX11_begins_25 rfl hl 0 rfl ?_
        refine r_getI C hM jc11 6 rfl dX11_begins_26 lk_X11_359 lr_0.1 lr_0.2 rfl rfl (by decide) rfl ?_
        replace h := ck_some h
        obtain ⟨hc12, h⟩ := h
        refine r_imul C dX11_begins_29 ?_
        refine r_icmp_ge C 55 hx1 hc12 dX11_begins_30 (by decide) (fun cq => ?_) (fun cq => ?_)
        · replace h := ifp cq h
          exact hJ55 _ _ _ _ h hM (lv_sub hl [0] rfl)
        · replace h := ifn cq h
          refine r_aload_n C dX11_begins_33 rfl hl 0 rfl ?_
          refine r_getR C hM jc11 2 3 dX11_begins_34 lk_X11_16 lr_0.1 lr_0.2 rfl rfl (by decide) rfl ?_
          refine r_iload_n C dX11_begins_37 rfl hl 1 rfl ?_
          refine r_aload_n C dX11_begins_38 rfl hl 0 rfl ?_
          refine r_getR C hM jc11 2 3 dX11_begins_39 lk_X11_16 lr_0.1 lr_0.2 rfl rfl (by decide) rfl ?_
          refine r_iload_n C dX11_begins_42 rfl hl 1 rfl ?_
          refine r_sipush C dX11_begins_43 rfl ?_
          replace h := ck_some h
          obtain ⟨hc13, h⟩ := h
          refine r_iadd C dX11_begins_46 ?_
          replace h := ck_some h
          obtain ⟨hc14, h⟩ := h
          refine r_iald C hM rfl dX11_begins_47 lr_3.1 lr_3.2 hc14 hc13 ?_
          replace h := ck_some h
          obtain ⟨hc15, h⟩ := h
          refine r_iast C hM dX11_begins_48 lr_3.1 lr_3.2 hc15 hx1 (hM.ok _ _) (fun H locs hM16 => ?_)
          replace h := lt_some h
          obtain ⟨N17, eN17, h⟩ := h
          rw [← eN17] at hM16
          replace h := ck_some h
          obtain ⟨hc18, h⟩ := h
          refine r_iinc (j := 1) (x := x1) C [(1, .int (jI (x1 + 1))), (0, .ref (z + 0))] dX11_begins_49 hl rfl (by decide) rfl (fun ls hl => ?_)
          refine r_goto C 21 dX11_begins_52 (by decide) ?_
          exact ih21 _ _ hc18 _ _ _ h hM16 (lv_sub hl [1, 0] rfl)
    exact hL21 jFuel _ _ ⟨by decide, by decide⟩ _ _ _ h hM10 (lv_sub hl [1, 0] rfl)
set_option maxRecDepth 100000 in
set_option maxHeartbeats 4000000 in
theorem c_X11_refuses (l : Launch) (E : jE) (z : Nat) {x1 : Int} {M M' : Mem} {r : Int} (hx1 : inR x1) (h : f_X11_refuses x1 M = some (r, M')) : CtI l yX11_refuses cX11_refuses 2 (some .int) { frames := 0, cells := 0, slots := 0, locals := 0 } E z LyR [.ref (z + 0), .int (jI x1)] M r M' := by
  refine jm (by decide +kernel) (Nat.le_of_ble_eq_true rfl) ?_
  intro p e sM m below meth c C hM0 hr hlk ls hl
  replace hl : lv_has ls 2 [(0, .ref (z + 0)), (1, .int (jI x1))] := hl
  unfold f_X11_refuses at h
  refine r_aload_n C dX11_refuses_0 rfl hl 0 rfl ?_
  refine r_getR C hM0 jc11 4 5 dX11_refuses_1 lk_X11_22 lr_0.1 lr_0.2 rfl rfl (by decide) rfl ?_
  refine r_iload_n C dX11_refuses_4 rfl hl 1 rfl ?_
  refine r_dup2 C dX11_refuses_5 rfl rfl ?_
  replace h := ck_some h
  obtain ⟨hc1, h⟩ := h
  refine r_iald C hM0 rfl dX11_refuses_6 lr_5.1 lr_5.2 hc1 hx1 ?_
  refine r_iconst C dX11_refuses_7 ?_
  replace h := ck_some h
  obtain ⟨hc2, h⟩ := h
  refine r_iadd C dX11_refuses_8 ?_
  refine r_iast C hM0 dX11_refuses_9 lr_5.1 lr_5.2 hc1 hx1 hc2 (fun H locs hM3 => ?_)
  replace h := lt_some h
  obtain ⟨N4, eN4, h⟩ := h
  rw [← eN4] at hM3
  refine r_iload_n C dX11_refuses_10 rfl hl 1 rfl ?_
  replace h := ck_some h
  obtain ⟨hc5, h⟩ := h
  refine r_ineg C dX11_refuses_11 ?_
  exact r_ireturnM C hM3 hr hlk hc5 h dX11_refuses_12
set_option maxRecDepth 100000 in
set_option maxHeartbeats 4000000 in
theorem c_X11_endNow (l : Launch) (E : jE) (z : Nat) {M M' : Mem} {r : Int} (h : f_X11_endNow M = some (r, M')) : CtI l yX11_endNow cX11_endNow 1 (some .int) { frames := 4, cells := 0, slots := 0, locals := 89 } E z LyR [.ref (z + 0)] M r M' := by
  refine jm (by decide +kernel) (Nat.le_of_ble_eq_true rfl) ?_
  intro p e sM m below meth c C hM0 hr hlk ls hl
  replace hl : lv_has ls 1 [(0, .ref (z + 0))] := hl
  unfold f_X11_endNow at h
  refine r_aload_n C dX11_endNow_0 rfl hl 0 rfl ?_
  replace h := bd_some h
  obtain ⟨M1, hf1, h⟩ := h
  refine r_callV (As := []) (rest := []) C hM0 (c_X11_laysPieces l E z hf1) jy_X11_laysPieces lk_X11_209 dX11_endNow_1 (recvW C hM0 jc11 lr_0.1 lr_0.2 rfl) rfl rfl hl.1 (Nat.le_of_ble_eq_true rfl) ⟨Nat.le_of_ble_eq_true rfl, Nat.le_of_ble_eq_true rfl⟩ ⟨rfl, rfl⟩ ⟨Nat.zero_le _, Nat.zero_le _⟩ (fun H locs hM1 => ?_)
  refine r_aload_n C dX11_endNow_4 rfl hl 0 rfl ?_
  replace h := bd_some h
  obtain ⟨r5, hf5, h⟩ := h
  refine r_callI (As := []) (rest := []) C hM1 (c_X11_theEnd l E z hf5) jy_X11_theEnd lk_X11_196 dX11_endNow_5 (recvW C hM1 jc11 lr_0.1 lr_0.2 rfl) rfl rfl hl.1 (Nat.le_of_ble_eq_true rfl) ⟨Nat.le_of_ble_eq_true rfl, Nat.le_of_ble_eq_true rfl⟩ ⟨rfl, rfl⟩ ⟨Nat.zero_le _, Nat.zero_le _⟩ (fun H locs hr5 hM2 => ?_)
  exact r_ireturnM C hM2 hr hlk hr5 h dX11_endNow_8
set_option maxRecDepth 100000 in
set_option maxHeartbeats 4000000 in
theorem c_X11_edit (l : Launch) (E : jE) (z : Nat) {M M' : Mem} {r : Int} (h : f_X11_edit M = some (r, M')) : CtI l yX11_edit cX11_edit 1 (some .int) { frames := 11, cells := 0, slots := 0, locals := 408 } E z LyR [.ref (z + 0)] M r M' := by
  refine jm (by decide +kernel) (Nat.le_of_ble_eq_true rfl) ?_
  intro p e sM m below meth c C hM0 hr hlk ls hl
  replace hl : lv_has ls 1 [(0, .ref (z + 0))] := hl
  unfold f_X11_edit at h
  refine r_aload_n C dX11_edit_0 rfl hl 0 rfl ?_
  refine r_iconst C dX11_edit_1 ?_
  refine r_putI C hM0 jc11 7 ⟨by decide, by decide⟩ dX11_edit_2 lk_X11_105 lr_0.1 lr_0.2 rfl rfl (by decide) rfl rfl rfl (Nat.le_of_ble_eq_true rfl) (by decide) (fun H locs hM1 => ?_)
  replace h := lt_some h
  obtain ⟨N2, eN2, h⟩ := h
  rw [← eN2] at hM1
  refine r_aload_n C dX11_edit_5 rfl hl 0 rfl ?_
  replace h := bd_some h
  obtain ⟨M6, hf6, h⟩ := h
  refine r_callV (As := []) (rest := []) C hM1 (c_X11_readsReel l E z hf6) jy_X11_readsReel lk_X11_468 dX11_edit_6 (recvW C hM1 jc11 lr_0.1 lr_0.2 rfl) rfl rfl hl.1 (Nat.le_of_ble_eq_true rfl) ⟨Nat.le_of_ble_eq_true rfl, Nat.le_of_ble_eq_true rfl⟩ ⟨rfl, rfl⟩ ⟨Nat.zero_le _, Nat.zero_le _⟩ (fun H locs hM3 => ?_)
  refine r_aload_n C dX11_edit_9 rfl hl 0 rfl ?_
  replace h := bd_some h
  obtain ⟨r10, hf10, h⟩ := h
  refine r_callI (As := []) (rest := []) C hM3 (c_X11_isGood l E z hf10) jy_X11_isGood lk_X11_277 dX11_edit_10 (recvW C hM3 jc11 lr_0.1 lr_0.2 rfl) rfl rfl hl.1 (Nat.le_of_ble_eq_true rfl) ⟨Nat.le_of_ble_eq_true rfl, Nat.le_of_ble_eq_true rfl⟩ ⟨rfl, rfl⟩ ⟨Nat.zero_le _, Nat.zero_le _⟩ (fun H locs hr10 hM4 => ?_)
  refine r_if_ne C 22 hr10 dX11_edit_13 (by decide) (fun cq => ?_) (fun cq => ?_)
  · replace h := ifn cq h
    refine r_aload_n C dX11_edit_22 rfl hl 0 rfl ?_
    refine r_getR C hM4 jc11 0 1 dX11_edit_23 lk_X11_7 lr_0.1 lr_0.2 rfl rfl (by decide) rfl ?_
    refine r_iconst C dX11_edit_26 ?_
    refine r_aload_n C dX11_edit_27 rfl hl 0 rfl ?_
    refine r_getR C hM4 jc11 1 2 dX11_edit_28 lk_X11_13 lr_0.1 lr_0.2 rfl rfl (by decide) rfl ?_
    refine r_iconst C dX11_edit_31 ?_
    replace h := bd_some h
    obtain ⟨M32, hf32, h⟩ := h
    refine r_callSV (As := [.ref (z + 1), .int (jI 0), .ref (z + 2), .int (jI 0)]) (rest := []) C hM4 (c_X11_copies l E z lr_1 ⟨by decide, by decide⟩ lr_2 ⟨by decide, by decide⟩ hf32) jy_X11_copies lk_X11_346 dX11_edit_32 rfl rfl hl.1 (Nat.le_of_ble_eq_true rfl) ⟨Nat.le_of_ble_eq_true rfl, Nat.le_of_ble_eq_true rfl⟩ ⟨rfl, rfl⟩ ⟨Nat.zero_le _, Nat.zero_le _⟩ (fun H locs hM5 => ?_)
    refine r_aload_n C dX11_edit_35 rfl hl 0 rfl ?_
    replace h := bd_some h
    obtain ⟨M36, hf36, h⟩ := h
    refine r_callV (As := []) (rest := []) C hM5 (c_X11_takesReel l E z hf36) jy_X11_takesReel lk_X11_474 dX11_edit_36 (recvW C hM5 jc11 lr_0.1 lr_0.2 rfl) rfl rfl hl.1 (Nat.le_of_ble_eq_true rfl) ⟨Nat.le_of_ble_eq_true rfl, Nat.le_of_ble_eq_true rfl⟩ ⟨rfl, rfl⟩ ⟨Nat.zero_le _, Nat.zero_le _⟩ (fun H locs hM6 => ?_)
    refine r_aload_n C dX11_edit_39 rfl hl 0 rfl ?_
    replace h := bd_some h
    obtain ⟨M40, hf40, h⟩ := h
    refine r_callV (As := []) (rest := []) C hM6 (c_X11_laysPieces l E z hf40) jy_X11_laysPieces lk_X11_209 dX11_edit_40 (recvW C hM6 jc11 lr_0.1 lr_0.2 rfl) rfl rfl hl.1 (Nat.le_of_ble_eq_true rfl) ⟨Nat.le_of_ble_eq_true rfl, Nat.le_of_ble_eq_true rfl⟩ ⟨rfl, rfl⟩ ⟨Nat.zero_le _, Nat.zero_le _⟩ (fun H locs hM7 => ?_)
    refine r_aload_n C dX11_edit_43 rfl hl 0 rfl ?_
    refine r_getR C hM7 jc11 1 2 dX11_edit_44 lk_X11_13 lr_0.1 lr_0.2 rfl rfl (by decide) rfl ?_
    refine r_iconst C dX11_edit_47 ?_
    refine r_aload_n C dX11_edit_48 rfl hl 0 rfl ?_
    refine r_getR C hM7 jc11 0 1 dX11_edit_49 lk_X11_7 lr_0.1 lr_0.2 rfl rfl (by decide) rfl ?_
    refine r_iconst C dX11_edit_52 ?_
    replace h := bd_some h
    obtain ⟨M53, hf53, h⟩ := h
    refine r_callSV (As := [.ref (z + 2), .int (jI 0), .ref (z + 1), .int (jI 0)]) (rest := []) C hM7 (c_X11_copies l E z lr_2 ⟨by decide, by decide⟩ lr_1 ⟨by decide, by decide⟩ hf53) jy_X11_copies lk_X11_346 dX11_edit_53 rfl rfl hl.1 (Nat.le_of_ble_eq_true rfl) ⟨Nat.le_of_ble_eq_true rfl, Nat.le_of_ble_eq_true rfl⟩ ⟨rfl, rfl⟩ ⟨Nat.zero_le _, Nat.zero_le _⟩ (fun H locs hM8 => ?_)
    refine r_aload_n C dX11_edit_56 rfl hl 0 rfl ?_
    refine r_getI C hM8 jc11 17 rfl dX11_edit_57 lk_X11_126 lr_0.1 lr_0.2 rfl rfl (by decide) rfl ?_
    refine r_bipush C dX11_edit_60 rfl ?_
    refine r_icmp_le C 71 (hM8.ok _ _) ⟨by decide, by decide⟩ dX11_edit_62 (by decide) (fun cq => ?_) (fun cq => ?_)
    · replace h := ifp cq h
      refine r_aload_n C dX11_edit_71 rfl hl 0 rfl ?_
      replace h := bd_some h
      obtain ⟨M72, hf72, h⟩ := h
      refine r_callV (As := []) (rest := []) C hM8 (c_X11_begins l E z hf72) jy_X11_begins lk_X11_477 dX11_edit_72 (recvW C hM8 jc11 lr_0.1 lr_0.2 rfl) rfl rfl hl.1 (Nat.le_of_ble_eq_true rfl) ⟨Nat.le_of_ble_eq_true rfl, Nat.le_of_ble_eq_true rfl⟩ ⟨rfl, rfl⟩ ⟨Nat.zero_le _, Nat.zero_le _⟩ (fun H locs hM9 => ?_)
      refine r_aload_n C dX11_edit_75 rfl hl 0 rfl ?_
      replace h := bd_some h
      obtain ⟨M76, hf76, h⟩ := h
      refine r_callV (As := []) (rest := []) C hM9 (c_X11_takesReel l E z hf76) jy_X11_takesReel lk_X11_474 dX11_edit_76 (recvW C hM9 jc11 lr_0.1 lr_0.2 rfl) rfl rfl hl.1 (Nat.le_of_ble_eq_true rfl) ⟨Nat.le_of_ble_eq_true rfl, Nat.le_of_ble_eq_true rfl⟩ ⟨rfl, rfl⟩ ⟨Nat.zero_le _, Nat.zero_le _⟩ (fun H locs hM10 => ?_)
      refine r_aload_n C dX11_edit_79 rfl hl 0 rfl ?_
      refine r_getI C hM10 jc11 17 rfl dX11_edit_80 lk_X11_126 lr_0.1 lr_0.2 rfl rfl (by decide) rfl ?_
      exact r_ireturnM C hM10 hr hlk (hM10.ok _ _) h dX11_edit_83
    · replace h := ifn cq h
      refine r_aload_n C dX11_edit_65 rfl hl 0 rfl ?_
      refine r_iconst C dX11_edit_66 ?_
      replace h := bd_some h
      obtain ⟨⟨r67, M67⟩, hf67, h⟩ := h
      try dsimp only at h
      refine r_callI (As := [.int (jI 2)]) (rest := []) C hM8 (c_X11_refuses l E z ⟨by decide, by decide⟩ hf67) jy_X11_refuses lk_X11_471 dX11_edit_67 (recvW C hM8 jc11 lr_0.1 lr_0.2 rfl) rfl rfl hl.1 (Nat.le_of_ble_eq_true rfl) ⟨Nat.le_of_ble_eq_true rfl, Nat.le_of_ble_eq_true rfl⟩ ⟨rfl, rfl⟩ ⟨Nat.zero_le _, Nat.zero_le _⟩ (fun H locs hr67 hM11 => ?_)
      exact r_ireturnM C hM11 hr hlk hr67 h dX11_edit_70
  · replace h := ifp cq h
    refine r_aload_n C dX11_edit_16 rfl hl 0 rfl ?_
    refine r_iconst C dX11_edit_17 ?_
    replace h := bd_some h
    obtain ⟨⟨r18, M18⟩, hf18, h⟩ := h
    try dsimp only at h
    refine r_callI (As := [.int (jI 1)]) (rest := []) C hM4 (c_X11_refuses l E z ⟨by decide, by decide⟩ hf18) jy_X11_refuses lk_X11_471 dX11_edit_18 (recvW C hM4 jc11 lr_0.1 lr_0.2 rfl) rfl rfl hl.1 (Nat.le_of_ble_eq_true rfl) ⟨Nat.le_of_ble_eq_true rfl, Nat.le_of_ble_eq_true rfl⟩ ⟨rfl, rfl⟩ ⟨Nat.zero_le _, Nat.zero_le _⟩ (fun H locs hr18 hM12 => ?_)
    exact r_ireturnM C hM12 hr hlk hr18 h dX11_edit_21
set_option maxRecDepth 100000 in
set_option maxHeartbeats 4000000 in
theorem c_X11_say (l : Launch) (E : jE) (z : Nat) {M M' : Mem} {r : Int} (h : f_X11_say M = some (r, M')) : CtI l yX11_say cX11_say 1 (some .int) { frames := 7, cells := 0, slots := 0, locals := 144 } E z LyR [.ref (z + 0)] M r M' := by
  refine jm (by decide +kernel) (Nat.le_of_ble_eq_true rfl) ?_
  intro p e sM m below meth c C hM0 hr hlk ls hl
  replace hl : lv_has ls 1 [(0, .ref (z + 0))] := hl
  unfold f_X11_say at h
  refine r_aload_n C dX11_say_0 rfl hl 0 rfl ?_
  refine r_iconst C dX11_say_1 ?_
  refine r_putI C hM0 jc11 7 ⟨by decide, by decide⟩ dX11_say_2 lk_X11_105 lr_0.1 lr_0.2 rfl rfl (by decide) rfl rfl rfl (Nat.le_of_ble_eq_true rfl) (by decide) (fun H locs hM1 => ?_)
  replace h := lt_some h
  obtain ⟨N2, eN2, h⟩ := h
  rw [← eN2] at hM1
  refine r_aload_n C dX11_say_5 rfl hl 0 rfl ?_
  replace h := bd_some h
  obtain ⟨M6, hf6, h⟩ := h
  refine r_callV (As := []) (rest := []) C hM1 (c_X11_readsVoice l E z hf6) jy_X11_readsVoice lk_X11_480 dX11_say_6 (recvW C hM1 jc11 lr_0.1 lr_0.2 rfl) rfl rfl hl.1 (Nat.le_of_ble_eq_true rfl) ⟨Nat.le_of_ble_eq_true rfl, Nat.le_of_ble_eq_true rfl⟩ ⟨rfl, rfl⟩ ⟨Nat.zero_le _, Nat.zero_le _⟩ (fun H locs hM3 => ?_)
  refine r_aload_n C dX11_say_9 rfl hl 0 rfl ?_
  replace h := bd_some h
  obtain ⟨r10, hf10, h⟩ := h
  refine r_callI (As := []) (rest := []) C hM3 (c_X11_isGood l E z hf10) jy_X11_isGood lk_X11_277 dX11_say_10 (recvW C hM3 jc11 lr_0.1 lr_0.2 rfl) rfl rfl hl.1 (Nat.le_of_ble_eq_true rfl) ⟨Nat.le_of_ble_eq_true rfl, Nat.le_of_ble_eq_true rfl⟩ ⟨rfl, rfl⟩ ⟨Nat.zero_le _, Nat.zero_le _⟩ (fun H locs hr10 hM4 => ?_)
  refine r_if_ne C 22 hr10 dX11_say_13 (by decide) (fun cq => ?_) (fun cq => ?_)
  · replace h := ifn cq h
    refine r_aload_n C dX11_say_22 rfl hl 0 rfl ?_
    replace h := bd_some h
    obtain ⟨M23, hf23, h⟩ := h
    refine r_callV (As := []) (rest := []) C hM4 (c_X11_begins l E z hf23) jy_X11_begins lk_X11_477 dX11_say_23 (recvW C hM4 jc11 lr_0.1 lr_0.2 rfl) rfl rfl hl.1 (Nat.le_of_ble_eq_true rfl) ⟨Nat.le_of_ble_eq_true rfl, Nat.le_of_ble_eq_true rfl⟩ ⟨rfl, rfl⟩ ⟨Nat.zero_le _, Nat.zero_le _⟩ (fun H locs hM5 => ?_)
    refine r_aload_n C dX11_say_26 rfl hl 0 rfl ?_
    replace h := bd_some h
    obtain ⟨M27, hf27, h⟩ := h
    refine r_callV (As := []) (rest := []) C hM5 (c_X11_takesVoice l E z hf27) jy_X11_takesVoice lk_X11_483 dX11_say_27 (recvW C hM5 jc11 lr_0.1 lr_0.2 rfl) rfl rfl hl.1 (Nat.le_of_ble_eq_true rfl) ⟨Nat.le_of_ble_eq_true rfl, Nat.le_of_ble_eq_true rfl⟩ ⟨rfl, rfl⟩ ⟨Nat.zero_le _, Nat.zero_le _⟩ (fun H locs hM6 => ?_)
    refine r_aload_n C dX11_say_30 rfl hl 0 rfl ?_
    refine r_getI C hM6 jc11 48 rfl dX11_say_31 lk_X11_399 lr_0.1 lr_0.2 rfl rfl (by decide) rfl ?_
    exact r_ireturnM C hM6 hr hlk (hM6.ok _ _) h dX11_say_34
  · replace h := ifp cq h
    refine r_aload_n C dX11_say_16 rfl hl 0 rfl ?_
    refine r_iconst C dX11_say_17 ?_
    replace h := bd_some h
    obtain ⟨⟨r18, M18⟩, hf18, h⟩ := h
    try dsimp only at h
    refine r_callI (As := [.int (jI 1)]) (rest := []) C hM4 (c_X11_refuses l E z ⟨by decide, by decide⟩ hf18) jy_X11_refuses lk_X11_471 dX11_say_18 (recvW C hM4 jc11 lr_0.1 lr_0.2 rfl) rfl rfl hl.1 (Nat.le_of_ble_eq_true rfl) ⟨Nat.le_of_ble_eq_true rfl, Nat.le_of_ble_eq_true rfl⟩ ⟨rfl, rfl⟩ ⟨Nat.zero_le _, Nat.zero_le _⟩ (fun H locs hr18 hM7 => ?_)
    exact r_ireturnM C hM7 hr hlk hr18 h dX11_say_21
set_option maxRecDepth 100000 in
set_option maxHeartbeats 4000000 in
theorem c_X11_assemble (l : Launch) (E : jE) (z : Nat) {M M' : Mem} {r : Int} (h : f_X11_assemble M = some (r, M')) : CtI l yX11_assemble cX11_assemble 3 (some .int) { frames := 4, cells := 0, slots := 0, locals := 97 } E z LyR [.ref (z + 0)] M r M' := by
  refine jm (by decide +kernel) (Nat.le_of_ble_eq_true rfl) ?_
  intro p e sM m below meth c C hM0 hr hlk ls hl
  replace hl : lv_has ls 3 [(0, .ref (z + 0))] := hl
  unfold f_X11_assemble at h
  refine r_aload_n C dX11_assemble_0 rfl hl 0 rfl ?_
  refine r_iconst C dX11_assemble_1 ?_
  refine r_putI C hM0 jc11 7 ⟨by decide, by decide⟩ dX11_assemble_2 lk_X11_105 lr_0.1 lr_0.2 rfl rfl (by decide) rfl rfl rfl (Nat.le_of_ble_eq_true rfl) (by decide) (fun H locs hM1 => ?_)
  replace h := lt_some h
  obtain ⟨N2, eN2, h⟩ := h
  rw [← eN2] at hM1
  refine r_aload_n C dX11_assemble_5 rfl hl 0 rfl ?_
  replace h := bd_some h
  obtain ⟨M6, hf6, h⟩ := h
  refine r_callV (As := []) (rest := []) C hM1 (c_X11_laysSums l E z hf6) jy_X11_laysSums lk_X11_462 dX11_assemble_6 (recvW C hM1 jc11 lr_0.1 lr_0.2 rfl) rfl rfl hl.1 (Nat.le_of_ble_eq_true rfl) ⟨Nat.le_of_ble_eq_true rfl, Nat.le_of_ble_eq_true rfl⟩ ⟨rfl, rfl⟩ ⟨Nat.zero_le _, Nat.zero_le _⟩ (fun H locs hM3 => ?_)
  refine r_aload_n C dX11_assemble_9 rfl hl 0 rfl ?_
  refine r_aload_n C dX11_assemble_10 rfl hl 0 rfl ?_
  refine r_getR C hM3 jc11 0 1 dX11_assemble_11 lk_X11_7 lr_0.1 lr_0.2 rfl rfl (by decide) rfl ?_
  refine r_iconst C dX11_assemble_14 ?_
  refine r_iald C hM3 rfl dX11_assemble_15 lr_1.1 lr_1.2 (show (0 : Int) ≤ 0 ∧ (0 : Int) < 1062 by decide) ⟨by decide, by decide⟩ ?_
  refine r_aload_n C dX11_assemble_16 rfl hl 0 rfl ?_
  replace h := bd_some h
  obtain ⟨⟨r17, M17⟩, hf17, h⟩ := h
  try dsimp only at h
  refine r_callI (As := []) (rest := [.int (jI (M6 1 (0 : Int).toNat)), .ref (z + 0)]) C hM3 (c_X11_laysWords l E z hf17) jy_X11_laysWords lk_X11_212 dX11_assemble_17 (recvW C hM3 jc11 lr_0.1 lr_0.2 rfl) rfl rfl hl.1 (Nat.le_of_ble_eq_true rfl) ⟨Nat.le_of_ble_eq_true rfl, Nat.le_of_ble_eq_true rfl⟩ ⟨rfl, rfl⟩ ⟨Nat.zero_le _, Nat.zero_le _⟩ (fun H locs hr17 hM4 => ?_)
  replace h := bd_some h
  obtain ⟨⟨r20, M20⟩, hf20, h⟩ := h
  try dsimp only at h
  refine r_callI (As := [.int (jI (M6 1 (0 : Int).toNat)), .int (jI r17)]) (rest := []) C hM4 (c_X11_chooses l E z (hM3.ok _ _) hr17 hf20) jy_X11_chooses lk_X11_465 dX11_assemble_20 (recvW C hM4 jc11 lr_0.1 lr_0.2 rfl) rfl rfl hl.1 (Nat.le_of_ble_eq_true rfl) ⟨Nat.le_of_ble_eq_true rfl, Nat.le_of_ble_eq_true rfl⟩ ⟨rfl, rfl⟩ ⟨Nat.zero_le _, Nat.zero_le _⟩ (fun H locs hr20 hM5 => ?_)
  refine r_if_ne C 32 hr20 dX11_assemble_23 (by decide) (fun cq => ?_) (fun cq => ?_)
  · replace h := ifn cq h
    refine r_aload_n C dX11_assemble_32 rfl hl 0 rfl ?_
    replace h := bd_some h
    obtain ⟨M33, hf33, h⟩ := h
    refine r_callV (As := []) (rest := []) C hM5 (c_X11_begins l E z hf33) jy_X11_begins lk_X11_477 dX11_assemble_33 (recvW C hM5 jc11 lr_0.1 lr_0.2 rfl) rfl rfl hl.1 (Nat.le_of_ble_eq_true rfl) ⟨Nat.le_of_ble_eq_true rfl, Nat.le_of_ble_eq_true rfl⟩ ⟨rfl, rfl⟩ ⟨Nat.zero_le _, Nat.zero_le _⟩ (fun H locs hM6 => ?_)
    refine r_aload_n C dX11_assemble_36 rfl hl 0 rfl ?_
    refine r_getR C hM6 jc11 0 1 dX11_assemble_37 lk_X11_7 lr_0.1 lr_0.2 rfl rfl (by decide) rfl ?_
    refine r_bipush C dX11_assemble_40 rfl ?_
    refine r_iconst C dX11_assemble_42 ?_
    refine r_iast C hM6 dX11_assemble_43 lr_1.1 lr_1.2 (show (0 : Int) ≤ 8 ∧ (8 : Int) < 1062 by decide) ⟨by decide, by decide⟩ ⟨by decide, by decide⟩ (fun H locs hM7 => ?_)
    replace h := lt_some h
    obtain ⟨N8, eN8, h⟩ := h
    rw [← eN8] at hM7
    refine r_iconst C dX11_assemble_44 ?_
    refine r_istore_n C [(1, .int (jI 0)), (0, .ref (z + 0))] dX11_assemble_45 rfl hl (by decide) rfl (fun ls hl => ?_)
    have hL46 : ∀ n46 : Nat, ∀ (x1 : Int) (M : Mem), inR x1 → ∀ (H : Heap) (locs : List Loc) (ls : Array Slot), f_X11_assemble_L46 n46  x1 M = some (r, M') → HS E z LyR M sM H locs → lv_has ls 3 [(0, .ref (z + 0)), (1, .int (jI x1))] → W p l e ({ frames := 4, cells := 0, slots := 0, locals := 97 } : Room) sM m (([.ref (z + 0)] : List Value).toArray) below meth c H locs 0 0 (MQ below (va_Qi (fun (w : Int32) (_ : Unit) => w = jI r ∧ inR r ∧ Mok LyR M') (fun _ t => va_P (eD E) vwCl (Wd (eC E) z LyR M') t.heap) (eA E)) (([.ref (z + 0)] : List Value).toArray) sM 0 0 (eA E)) (F0 m 46 ls []) := by
      intro n46
      induction n46 with
      | zero =>
        intro x1 M hx1 H locs ls h hM hl
        exact absurd h (by simp [f_X11_assemble_L46])
      | succ n46 ih46 =>
        intro x1 M hx1 H locs ls h hM hl
        rw [f_X11_assemble_L46] at h
        refine r_iload_n C dX11_assemble_46 rfl hl 1 rfl ?_
        refine r_aload_n C dX11_assemble_47 rfl hl 0 rfl ?_
        refine r_getR C hM jc11 0 1 dX11_assemble_48 lk_X11_7 lr_0.1 lr_0.2 rfl rfl (by decide) rfl ?_
        refine r_iconst C dX11_assemble_51 ?_
        refine r_iald C hM rfl dX11_assemble_52 lr_1.1 lr_1.2 (show (0 : Int) ≤ 5 ∧ (5 : Int) < 1062 by decide) ⟨by decide, by decide⟩ ?_
        refine r_icmp_ge C 137 hx1 (hM.ok _ _) dX11_assemble_53 (by decide) (fun cq => ?_) (fun cq => ?_)
        · replace h := ifp cq h
          refine r_aload_n C dX11_assemble_137 rfl hl 0 rfl ?_
          refine r_getI C hM jc11 27 rfl dX11_assemble_138 lk_X11_224 lr_0.1 lr_0.2 rfl rfl (by decide) rfl ?_
          exact r_ireturnM C hM hr hlk (hM.ok _ _) h dX11_assemble_141
        · replace h := ifn cq h
          refine r_aload_n C dX11_assemble_56 rfl hl 0 rfl ?_
          refine r_getI C hM jc11 26 rfl dX11_assemble_57 lk_X11_221 lr_0.1 lr_0.2 rfl rfl (by decide) rfl ?_
          refine r_iload_n C dX11_assemble_60 rfl hl 1 rfl ?_
          refine r_ishr C dX11_assemble_61 ?_
          refine r_iconst C dX11_assemble_62 ?_
          refine r_iand C dX11_assemble_63 ?_
          refine r_if_ne C 70 (iand_R _ _) dX11_assemble_64 (by decide) (fun cq => ?_) (fun cq => ?_)
          · replace h := ifn cq h
            refine r_aload_n C dX11_assemble_70 rfl hl 0 rfl ?_
            refine r_getI C hM jc11 26 rfl dX11_assemble_71 lk_X11_221 lr_0.1 lr_0.2 rfl rfl (by decide) rfl ?_
            refine r_iload_n C dX11_assemble_74 rfl hl 1 rfl ?_
            refine r_ishr C dX11_assemble_75 ?_
            refine r_iconst C dX11_assemble_76 ?_
            replace h := jn_some h
            obtain ⟨k85, hk85, h⟩ := h
            have hJ85 : ∀ (v85 : Int), inR v85 → ∀ (H : Heap) (locs : List Loc) (ls : Array Slot), k85 v85 = some (r, M') → HS E z LyR M sM H locs → lv_has ls 3 [(0, .ref (z + 0)), (1, .int (jI x1))] → W p l e ({ frames := 4, cells := 0, slots := 0, locals := 97 } : Room) sM m (([.ref (z + 0)] : List Value).toArray) below meth c H locs 0 0 (MQ below (va_Qi (fun (w : Int32) (_ : Unit) => w = jI r ∧ inR r ∧ Mok LyR M') (fun _ t => va_P (eD E) vwCl (Wd (eC E) z LyR M') t.heap) (eA E)) (([.ref (z + 0)] : List Value).toArray) sM 0 0 (eA E)) (F0 m 85 ls [.int (jI v85)]) := by
              intro v85 hv85 H locs ls h hMj85 hl
              subst hk85
              try dsimp only at h
              refine r_istore_n C [(2, .int (jI v85)), (0, .ref (z + 0)), (1, .int (jI x1))] dX11_assemble_85 rfl hl (by decide) rfl (fun ls hl => ?_)
              refine r_aload_n C dX11_assemble_86 rfl hl 1 rfl ?_
              refine r_aload_n C dX11_assemble_87 rfl hl 1 rfl ?_
              refine r_getR C hMj85 jc11 0 1 dX11_assemble_88 lk_X11_7 lr_0.1 lr_0.2 rfl rfl (by decide) rfl ?_
              refine r_bipush C dX11_assemble_91 rfl ?_
              refine r_iald C hMj85 rfl dX11_assemble_93 lr_1.1 lr_1.2 (show (0 : Int) ≤ 8 ∧ (8 : Int) < 1062 by decide) ⟨by decide, by decide⟩ ?_
              refine r_iconst C dX11_assemble_94 ?_
              refine r_iload_n C dX11_assemble_95 rfl hl 2 rfl ?_
              refine r_iconst C dX11_assemble_96 ?_
              refine r_aload_n C dX11_assemble_97 rfl hl 1 rfl ?_
              refine r_iload_n C dX11_assemble_98 rfl hl 2 rfl ?_
              replace h := bd_some h
              obtain ⟨r99, hf99, h⟩ := h
              refine r_callI (As := [.int (jI x1)]) (rest := [.int (jI 0), .int (jI x1), .int (jI 0), .int (jI (M 1 (8 : Int).toNat)), .ref (z + 0)]) C hMj85 (c_X11_lengthOf l E z hx1 hf99) jy_X11_lengthOf lk_X11_218 dX11_assemble_99 (recvW C hMj85 jc11 lr_0.1 lr_0.2 rfl) rfl rfl hl.1 (Nat.le_of_ble_eq_true rfl) ⟨Nat.le_of_ble_eq_true rfl, Nat.le_of_ble_eq_true rfl⟩ ⟨rfl, rfl⟩ ⟨Nat.zero_le _, Nat.zero_le _⟩ (fun H locs hr99 hM9 => ?_)
              refine r_iconst C dX11_assemble_102 ?_
              replace h := ck_some h
              obtain ⟨hc10, h⟩ := h
              refine r_isub C dX11_assemble_103 ?_
              refine r_iload_n C dX11_assemble_104 rfl hl 0 rfl ?_
              replace h := jn_some h
              obtain ⟨k116, hk116, h⟩ := h
              have hJ116 : ∀ (v116 : Int), inR v116 → ∀ (H : Heap) (locs : List Loc) (ls : Array Slot), k116 v116 = some (r, M') → HS E z LyR M sM H locs → lv_has ls 3 [(0, .ref (z + 0)), (1, .int (jI x1))] → W p l e ({ frames := 4, cells := 0, slots := 0, locals := 97 } : Room) sM m (([.ref (z + 0)] : List Value).toArray) below meth c H locs 0 0 (MQ below (va_Qi (fun (w : Int32) (_ : Unit) => w = jI r ∧ inR r ∧ Mok LyR M') (fun _ t => va_P (eD E) vwCl (Wd (eC E) z LyR M') t.heap) (eA E)) (([.ref (z + 0)] : List Value).toArray) sM 0 0 (eA E)) (F0 m 116 ls [.int (jI v116), .int (jI (r99 - 1)), .int (jI 0), .int (jI x1), .int (jI 0), .int (jI (M 1 (8 : Int).toNat)), .ref (z + 0)]) := by
                intro v116 hv116 H locs ls h hMj116 hl
                subst hk116
                try dsimp only at h
                replace h := ck_some h
                obtain ⟨hc11, h⟩ := h
                refine r_isub C dX11_assemble_116 ?_
                replace h := bd_some h
                obtain ⟨M117, hf117, h⟩ := h
                refine r_callV (As := [.int (jI (M 1 (8 : Int).toNat)), .int (jI 0), .int (jI x1), .int (jI 0), .int (jI ((r99 - 1) - v116))]) (rest := []) C hMj116 (c_X11_lays l E z (hM.ok _ _) ⟨by decide, by decide⟩ hx1 ⟨by decide, by decide⟩ hc11 hf117) jy_X11_lays lk_X11_486 dX11_assemble_117 (recvW C hMj116 jc11 lr_0.1 lr_0.2 rfl) rfl rfl hl.1 (Nat.le_of_ble_eq_true rfl) ⟨Nat.le_of_ble_eq_true rfl, Nat.le_of_ble_eq_true rfl⟩ ⟨rfl, rfl⟩ ⟨Nat.zero_le _, Nat.zero_le _⟩ (fun H locs hM12 => ?_)
                refine r_aload_n C dX11_assemble_120 rfl hl 0 rfl ?_
                refine r_getR C hM12 jc11 0 1 dX11_assemble_121 lk_X11_7 lr_0.1 lr_0.2 rfl rfl (by decide) rfl ?_
                refine r_bipush C dX11_assemble_124 rfl ?_
                refine r_dup2 C dX11_assemble_126 rfl rfl ?_
                refine r_iald C hM12 rfl dX11_assemble_127 lr_1.1 lr_1.2 (show (0 : Int) ≤ 8 ∧ (8 : Int) < 1062 by decide) ⟨by decide, by decide⟩ ?_
                refine r_iconst C dX11_assemble_128 ?_
                replace h := ck_some h
                obtain ⟨hc13, h⟩ := h
                refine r_iadd C dX11_assemble_129 ?_
                refine r_iast C hM12 dX11_assemble_130 lr_1.1 lr_1.2 (show (0 : Int) ≤ 8 ∧ (8 : Int) < 1062 by decide) ⟨by decide, by decide⟩ hc13 (fun H locs hM14 => ?_)
                replace h := lt_some h
                obtain ⟨N15, eN15, h⟩ := h
                rw [← eN15] at hM14
                replace h := ck_some h
                obtain ⟨hc16, h⟩ := h
                refine r_iinc (j := 1) (x := x1) C [(1, .int (jI (x1 + 1))), (0, .ref (z + 0))] dX11_assemble_131 hl rfl (by decide) rfl (fun ls hl => ?_)
                refine r_goto C 46 dX11_assemble_134 (by decide) ?_
                exact ih46 _ _ hc16 _ _ _ h hM14 (lv_sub hl [1, 0] rfl)
              refine r_if_eq C 115 hv85 dX11_assemble_105 (by decide) (fun cq => ?_) (fun cq => ?_)
              · replace h := ifp cq h
                refine r_iconst C dX11_assemble_115 ?_
                exact hJ116 _ ⟨by decide, by decide⟩ _ _ _ h hM9 (lv_sub hl [1, 2] rfl)
              · replace h := ifn cq h
                refine r_aload_n C dX11_assemble_108 rfl hl 1 rfl ?_
                refine r_getI C hM9 jc11 27 rfl dX11_assemble_109 lk_X11_224 lr_0.1 lr_0.2 rfl rfl (by decide) rfl ?_
                refine r_goto C 116 dX11_assemble_112 (by decide) ?_
                exact hJ116 _ (hM.ok _ _) _ _ _ h hM9 (lv_sub hl [1, 2] rfl)
            refine r_icmp_ne C 84 (ishr_R _ _) ⟨by decide, by decide⟩ dX11_assemble_77 (by decide) (fun cq => ?_) (fun cq => ?_)
            · replace h := ifn cq h
              refine r_iconst C dX11_assemble_84 ?_
              exact hJ85 _ ⟨by decide, by decide⟩ _ _ _ h hM (lv_sub hl [0, 1] rfl)
            · replace h := ifp cq h
              refine r_iconst C dX11_assemble_80 ?_
              refine r_goto C 85 dX11_assemble_81 (by decide) ?_
              exact hJ85 _ ⟨by decide, by decide⟩ _ _ _ h hM (lv_sub hl [0, 1] rfl)
          · replace h := ifp cq h
            refine r_goto C 131 dX11_assemble_67 (by decide) ?_
            replace h := ck_some h
            obtain ⟨hc17, h⟩ := h
            refine r_iinc (j := 1) (x := x1) C [(1, .int (jI (x1 + 1))), (0, .ref (z + 0))] dX11_assemble_131 hl rfl (by decide) rfl (fun ls hl => ?_)
            refine r_goto C 46 dX11_assemble_134 (by decide) ?_
            exact ih46 _ _ hc17 _ _ _ h hM (lv_sub hl [1, 0] rfl)
    exact hL46 jFuel _ _ ⟨by decide, by decide⟩ _ _ _ h hM7 (lv_sub hl [1, 0] rfl)
  · replace h := ifp cq h
    refine r_aload_n C dX11_assemble_26 rfl hl 0 rfl ?_
    refine r_iconst C dX11_assemble_27 ?_
    replace h := bd_some h
    obtain ⟨⟨r28, M28⟩, hf28, h⟩ := h
    try dsimp only at h
    refine r_callI (As := [.int (jI 3)]) (rest := []) C hM5 (c_X11_refuses l E z ⟨by decide, by decide⟩ hf28) jy_X11_refuses lk_X11_471 dX11_assemble_28 (recvW C hM5 jc11 lr_0.1 lr_0.2 rfl) rfl rfl hl.1 (Nat.le_of_ble_eq_true rfl) ⟨Nat.le_of_ble_eq_true rfl, Nat.le_of_ble_eq_true rfl⟩ ⟨rfl, rfl⟩ ⟨Nat.zero_le _, Nat.zero_le _⟩ (fun H locs hr28 hM18 => ?_)
    exact r_ireturnM C hM18 hr hlk hr28 h dX11_assemble_31
set_option maxRecDepth 100000 in
set_option maxHeartbeats 4000000 in
theorem c_X11_insert (l : Launch) (E : jE) (z : Nat) {x1 : Int} {x2 : Int} {x3 : Int} {M M' : Mem} {r : Int} (hx1 : inR x1) (hx2 : inR x2) (hx3 : inR x3) (h : f_X11_insert x1 x2 x3 M = some (r, M')) : CtI l yX11_insert cX11_insert 5 (some .int) { frames := 5, cells := 0, slots := 0, locals := 109 } E z LyR [.ref (z + 0), .int (jI x1), .int (jI x2), .int (jI x3)] M r M' := by
  refine jm (by decide +kernel) (Nat.le_of_ble_eq_true rfl) ?_
  intro p e sM m below meth c C hM0 hr hlk ls hl
  replace hl : lv_has ls 5 [(0, .ref (z + 0)), (1, .int (jI x1)), (2, .int (jI x2)), (3, .int (jI x3))] := hl
  unfold f_X11_insert at h
  refine r_aload_n C dX11_insert_0 rfl hl 0 rfl ?_
  refine r_iload_n C dX11_insert_1 rfl hl 1 rfl ?_
  refine r_iconst C dX11_insert_2 ?_
  refine r_aload_n C dX11_insert_3 rfl hl 0 rfl ?_
  replace h := bd_some h
  obtain ⟨r4, hf4, h⟩ := h
  refine r_callI (As := []) (rest := [.int (jI 0), .int (jI x1), .ref (z + 0)]) C hM0 (c_X11_itemMany l E z hf4) jy_X11_itemMany lk_X11_414 dX11_insert_4 (recvW C hM0 jc11 lr_0.1 lr_0.2 rfl) rfl rfl hl.1 (Nat.le_of_ble_eq_true rfl) ⟨Nat.le_of_ble_eq_true rfl, Nat.le_of_ble_eq_true rfl⟩ ⟨rfl, rfl⟩ ⟨Nat.zero_le _, Nat.zero_le _⟩ (fun H locs hr4 hM1 => ?_)
  replace h := bd_some h
  obtain ⟨r7, hf7, h⟩ := h
  refine r_callSI (As := [.int (jI x1), .int (jI 0), .int (jI r4)]) (rest := [.ref (z + 0)]) C hM1 (c_X11_isIn l E z hx1 ⟨by decide, by decide⟩ hr4 hf7) jy_X11_isIn lk_X11_112 dX11_insert_7 rfl rfl hl.1 (Nat.le_of_ble_eq_true rfl) ⟨Nat.le_of_ble_eq_true rfl, Nat.le_of_ble_eq_true rfl⟩ ⟨rfl, rfl⟩ ⟨Nat.zero_le _, Nat.zero_le _⟩ (fun H locs hr7 hM2 => ?_)
  replace h := jn_some h
  obtain ⟨k26, hk26, h⟩ := h
  have hJ26 : ∀ (v26 : Int), inR v26 → ∀ (H : Heap) (locs : List Loc) (ls : Array Slot), k26 v26 = some (r, M') → HS E z LyR M sM H locs → lv_has ls 5 [(0, .ref (z + 0)), (1, .int (jI x1)), (2, .int (jI x2)), (3, .int (jI x3))] → W p l e ({ frames := 5, cells := 0, slots := 0, locals := 109 } : Room) sM m (([.ref (z + 0), .int (jI x1), .int (jI x2), .int (jI x3)] : List Value).toArray) below meth c H locs 0 0 (MQ below (va_Qi (fun (w : Int32) (_ : Unit) => w = jI r ∧ inR r ∧ Mok LyR M') (fun _ t => va_P (eD E) vwCl (Wd (eC E) z LyR M') t.heap) (eA E)) (([.ref (z + 0), .int (jI x1), .int (jI x2), .int (jI x3)] : List Value).toArray) sM 0 0 (eA E)) (F0 m 26 ls [.int (jI v26), .ref (z + 0)]) := by
    intro v26 hv26 H locs ls h hMj26 hl
    subst hk26
    try dsimp only at h
    refine r_iload_n C dX11_insert_26 rfl hl 3 rfl ?_
    refine r_iconst C dX11_insert_27 ?_
    refine r_sipush C dX11_insert_28 rfl ?_
    replace h := bd_some h
    obtain ⟨r31, hf31, h⟩ := h
    refine r_callSI (As := [.int (jI x3), .int (jI 1), .int (jI 400)]) (rest := [.int (jI v26), .ref (z + 0)]) C hMj26 (c_X11_isIn l E z hx3 ⟨by decide, by decide⟩ ⟨by decide, by decide⟩ hf31) jy_X11_isIn lk_X11_112 dX11_insert_31 rfl rfl hl.1 (Nat.le_of_ble_eq_true rfl) ⟨Nat.le_of_ble_eq_true rfl, Nat.le_of_ble_eq_true rfl⟩ ⟨rfl, rfl⟩ ⟨Nat.zero_le _, Nat.zero_le _⟩ (fun H locs hr31 hM3 => ?_)
    replace h := bd_some h
    obtain ⟨⟨r34, M34⟩, hf34, h⟩ := h
    try dsimp only at h
    refine r_callI (As := [.int (jI v26), .int (jI r31)]) (rest := []) C hM3 (c_X11_goesBoth l E z hv26 hr31 hf34) jy_X11_goesBoth lk_X11_429 dX11_insert_34 (recvW C hM3 jc11 lr_0.1 lr_0.2 rfl) rfl rfl hl.1 (Nat.le_of_ble_eq_true rfl) ⟨Nat.le_of_ble_eq_true rfl, Nat.le_of_ble_eq_true rfl⟩ ⟨rfl, rfl⟩ ⟨Nat.zero_le _, Nat.zero_le _⟩ (fun H locs hr34 hM4 => ?_)
    refine r_if_ne C 42 hr34 dX11_insert_37 (by decide) (fun cq => ?_) (fun cq => ?_)
    · replace h := ifn cq h
      refine r_aload_n C dX11_insert_42 rfl hl 0 rfl ?_
      replace h := bd_some h
      obtain ⟨r43, hf43, h⟩ := h
      refine r_callI (As := []) (rest := []) C hM4 (c_X11_allItems l E z hf43) jy_X11_allItems lk_X11_417 dX11_insert_43 (recvW C hM4 jc11 lr_0.1 lr_0.2 rfl) rfl rfl hl.1 (Nat.le_of_ble_eq_true rfl) ⟨Nat.le_of_ble_eq_true rfl, Nat.le_of_ble_eq_true rfl⟩ ⟨rfl, rfl⟩ ⟨Nat.zero_le _, Nat.zero_le _⟩ (fun H locs hr43 hM5 => ?_)
      refine r_bipush C dX11_insert_46 rfl ?_
      refine r_icmp_ne C 57 hr43 ⟨by decide, by decide⟩ dX11_insert_48 (by decide) (fun cq => ?_) (fun cq => ?_)
      · replace h := ifn cq h
        refine r_aload_n C dX11_insert_57 rfl hl 0 rfl ?_
        replace h := bd_some h
        obtain ⟨M58, hf58, h⟩ := h
        refine r_callV (As := []) (rest := []) C hM5 (c_X11_laysPieces l E z hf58) jy_X11_laysPieces lk_X11_209 dX11_insert_58 (recvW C hM5 jc11 lr_0.1 lr_0.2 rfl) rfl rfl hl.1 (Nat.le_of_ble_eq_true rfl) ⟨Nat.le_of_ble_eq_true rfl, Nat.le_of_ble_eq_true rfl⟩ ⟨rfl, rfl⟩ ⟨Nat.zero_le _, Nat.zero_le _⟩ (fun H locs hM6 => ?_)
        refine r_aload_n C dX11_insert_61 rfl hl 0 rfl ?_
        refine r_getI C hM6 jc11 17 rfl dX11_insert_62 lk_X11_126 lr_0.1 lr_0.2 rfl rfl (by decide) rfl ?_
        refine r_bipush C dX11_insert_65 rfl ?_
        refine r_icmp_ne C 76 (hM6.ok _ _) ⟨by decide, by decide⟩ dX11_insert_67 (by decide) (fun cq => ?_) (fun cq => ?_)
        · replace h := ifn cq h
          refine r_aload_n C dX11_insert_76 rfl hl 0 rfl ?_
          replace h := bd_some h
          obtain ⟨M77, hf77, h⟩ := h
          refine r_callV (As := []) (rest := []) C hM6 (c_X11_begins l E z hf77) jy_X11_begins lk_X11_477 dX11_insert_77 (recvW C hM6 jc11 lr_0.1 lr_0.2 rfl) rfl rfl hl.1 (Nat.le_of_ble_eq_true rfl) ⟨Nat.le_of_ble_eq_true rfl, Nat.le_of_ble_eq_true rfl⟩ ⟨rfl, rfl⟩ ⟨Nat.zero_le _, Nat.zero_le _⟩ (fun H locs hM7 => ?_)
          refine r_aload_n C dX11_insert_80 rfl hl 0 rfl ?_
          refine r_iload_n C dX11_insert_81 rfl hl 1 rfl ?_
          replace h := bd_some h
          obtain ⟨r82, hf82, h⟩ := h
          refine r_callI (As := [.int (jI x1)]) (rest := []) C hM7 (c_X11_rowOf l E z hx1 hf82) jy_X11_rowOf lk_X11_490 dX11_insert_82 (recvW C hM7 jc11 lr_0.1 lr_0.2 rfl) rfl rfl hl.1 (Nat.le_of_ble_eq_true rfl) ⟨Nat.le_of_ble_eq_true rfl, Nat.le_of_ble_eq_true rfl⟩ ⟨rfl, rfl⟩ ⟨Nat.zero_le _, Nat.zero_le _⟩ (fun H locs hr82 hM8 => ?_)
          refine r_istore C [(4, .int (jI r82)), (0, .ref (z + 0)), (1, .int (jI x1)), (2, .int (jI x2)), (3, .int (jI x3))] dX11_insert_85 hl (by decide) rfl (fun ls hl => ?_)
          refine r_aload_n C dX11_insert_87 rfl hl 1 rfl ?_
          refine r_iload C dX11_insert_88 hl 0 rfl ?_
          refine r_iconst C dX11_insert_90 ?_
          replace h := bd_some h
          obtain ⟨M91, hf91, h⟩ := h
          refine r_callV (As := [.int (jI r82), .int (jI 1)]) (rest := []) C hM8 (c_X11_shiftsBack l E z hr82 ⟨by decide, by decide⟩ hf91) jy_X11_shiftsBack lk_X11_493 dX11_insert_91 (recvW C hM8 jc11 lr_0.1 lr_0.2 rfl) rfl rfl hl.1 (Nat.le_of_ble_eq_true rfl) ⟨Nat.le_of_ble_eq_true rfl, Nat.le_of_ble_eq_true rfl⟩ ⟨rfl, rfl⟩ ⟨Nat.zero_le _, Nat.zero_le _⟩ (fun H locs hM9 => ?_)
          refine r_aload_n C dX11_insert_94 rfl hl 1 rfl ?_
          refine r_iload C dX11_insert_95 hl 0 rfl ?_
          refine r_iconst C dX11_insert_97 ?_
          refine r_iload_n C dX11_insert_98 rfl hl 3 rfl ?_
          refine r_iload_n C dX11_insert_99 rfl hl 4 rfl ?_
          refine r_iconst C dX11_insert_100 ?_
          replace h := bd_some h
          obtain ⟨M101, hf101, h⟩ := h
          refine r_callV (As := [.int (jI r82), .int (jI 1), .int (jI x2), .int (jI x3), .int (jI 0)]) (rest := []) C hM9 (c_X11_lays l E z hr82 ⟨by decide, by decide⟩ hx2 hx3 ⟨by decide, by decide⟩ hf101) jy_X11_lays lk_X11_486 dX11_insert_101 (recvW C hM9 jc11 lr_0.1 lr_0.2 rfl) rfl rfl hl.1 (Nat.le_of_ble_eq_true rfl) ⟨Nat.le_of_ble_eq_true rfl, Nat.le_of_ble_eq_true rfl⟩ ⟨rfl, rfl⟩ ⟨Nat.zero_le _, Nat.zero_le _⟩ (fun H locs hM10 => ?_)
          refine r_aload_n C dX11_insert_104 rfl hl 1 rfl ?_
          replace h := bd_some h
          obtain ⟨⟨r105, M105⟩, hf105, h⟩ := h
          try dsimp only at h
          refine r_callI (As := []) (rest := []) C hM10 (c_X11_endNow l E z hf105) jy_X11_endNow lk_X11_497 dX11_insert_105 (recvW C hM10 jc11 lr_0.1 lr_0.2 rfl) rfl rfl hl.1 (Nat.le_of_ble_eq_true rfl) ⟨Nat.le_of_ble_eq_true rfl, Nat.le_of_ble_eq_true rfl⟩ ⟨rfl, rfl⟩ ⟨Nat.zero_le _, Nat.zero_le _⟩ (fun H locs hr105 hM11 => ?_)
          exact r_ireturnM C hM11 hr hlk hr105 h dX11_insert_108
        · replace h := ifp cq h
          refine r_aload_n C dX11_insert_70 rfl hl 0 rfl ?_
          refine r_iconst C dX11_insert_71 ?_
          replace h := bd_some h
          obtain ⟨⟨r72, M72⟩, hf72, h⟩ := h
          try dsimp only at h
          refine r_callI (As := [.int (jI 2)]) (rest := []) C hM6 (c_X11_refuses l E z ⟨by decide, by decide⟩ hf72) jy_X11_refuses lk_X11_471 dX11_insert_72 (recvW C hM6 jc11 lr_0.1 lr_0.2 rfl) rfl rfl hl.1 (Nat.le_of_ble_eq_true rfl) ⟨Nat.le_of_ble_eq_true rfl, Nat.le_of_ble_eq_true rfl⟩ ⟨rfl, rfl⟩ ⟨Nat.zero_le _, Nat.zero_le _⟩ (fun H locs hr72 hM12 => ?_)
          exact r_ireturnM C hM12 hr hlk hr72 h dX11_insert_75
      · replace h := ifp cq h
        refine r_aload_n C dX11_insert_51 rfl hl 0 rfl ?_
        refine r_iconst C dX11_insert_52 ?_
        replace h := bd_some h
        obtain ⟨⟨r53, M53⟩, hf53, h⟩ := h
        try dsimp only at h
        refine r_callI (As := [.int (jI 4)]) (rest := []) C hM5 (c_X11_refuses l E z ⟨by decide, by decide⟩ hf53) jy_X11_refuses lk_X11_471 dX11_insert_53 (recvW C hM5 jc11 lr_0.1 lr_0.2 rfl) rfl rfl hl.1 (Nat.le_of_ble_eq_true rfl) ⟨Nat.le_of_ble_eq_true rfl, Nat.le_of_ble_eq_true rfl⟩ ⟨rfl, rfl⟩ ⟨Nat.zero_le _, Nat.zero_le _⟩ (fun H locs hr53 hM13 => ?_)
        exact r_ireturnM C hM13 hr hlk hr53 h dX11_insert_56
    · replace h := ifp cq h
      refine r_iconst C dX11_insert_40 ?_
      exact r_ireturnM C hM4 hr hlk ⟨by decide, by decide⟩ h dX11_insert_41
  replace h := jn_some h
  obtain ⟨k25, hk25, h⟩ := h
  have hJ25 : ∀ (_ : Unit), ∀ (H : Heap) (locs : List Loc) (ls : Array Slot), k25 () = some (r, M') → HS E z LyR M sM H locs → lv_has ls 5 [(0, .ref (z + 0)), (1, .int (jI x1)), (2, .int (jI x2)), (3, .int (jI x3))] → W p l e ({ frames := 5, cells := 0, slots := 0, locals := 109 } : Room) sM m (([.ref (z + 0), .int (jI x1), .int (jI x2), .int (jI x3)] : List Value).toArray) below meth c H locs 0 0 (MQ below (va_Qi (fun (w : Int32) (_ : Unit) => w = jI r ∧ inR r ∧ Mok LyR M') (fun _ t => va_P (eD E) vwCl (Wd (eC E) z LyR M') t.heap) (eA E)) (([.ref (z + 0), .int (jI x1), .int (jI x2), .int (jI x3)] : List Value).toArray) sM 0 0 (eA E)) (F0 m 25 ls [.ref (z + 0)]) := by
    intro _ H locs ls h hMj25 hl
    subst hk25
    try dsimp only at h
    refine r_iconst C dX11_insert_25 ?_
    exact hJ26 _ ⟨by decide, by decide⟩ _ _ _ h hMj25 (lv_sub hl [0, 1, 2, 3] rfl)
  refine r_if_eq C 25 hr7 dX11_insert_10 (by decide) (fun cq => ?_) (fun cq => ?_)
  · replace h := ifp cq h
    exact hJ25 () _ _ _ h hM2 (lv_sub hl [0, 1, 2, 3] rfl)
  · replace h := ifn cq h
    refine r_aload_n C dX11_insert_13 rfl hl 0 rfl ?_
    refine r_iload_n C dX11_insert_14 rfl hl 2 rfl ?_
    replace h := bd_some h
    obtain ⟨r15, hf15, h⟩ := h
    refine r_callI (As := [.int (jI x2)]) (rest := [.ref (z + 0)]) C hM2 (c_X11_isMap l E z hx2 hf15) jy_X11_isMap lk_X11_437 dX11_insert_15 (recvW C hM2 jc11 lr_0.1 lr_0.2 rfl) rfl rfl hl.1 (Nat.le_of_ble_eq_true rfl) ⟨Nat.le_of_ble_eq_true rfl, Nat.le_of_ble_eq_true rfl⟩ ⟨rfl, rfl⟩ ⟨Nat.zero_le _, Nat.zero_le _⟩ (fun H locs hr15 hM14 => ?_)
    refine r_if_eq C 25 hr15 dX11_insert_18 (by decide) (fun cq => ?_) (fun cq => ?_)
    · replace h := ifp cq h
      exact hJ25 () _ _ _ h hM14 (lv_sub hl [0, 1, 2, 3] rfl)
    · replace h := ifn cq h
      refine r_iconst C dX11_insert_21 ?_
      refine r_goto C 26 dX11_insert_22 (by decide) ?_
      exact hJ26 _ ⟨by decide, by decide⟩ _ _ _ h hM14 (lv_sub hl [0, 1, 2, 3] rfl)
set_option maxRecDepth 100000 in
set_option maxHeartbeats 4000000 in
theorem c_X11_isItem (l : Launch) (E : jE) (z : Nat) {x1 : Int} {M : Mem} {r : Int} (hx1 : inR x1) (h : f_X11_isItem x1 M = some r) : CtI l yX11_isItem cX11_isItem 2 (some .boolean) { frames := 3, cells := 0, slots := 0, locals := 68 } E z LyR [.ref (z + 0), .int (jI x1)] M r M := by
  refine jm (by decide +kernel) (Nat.le_of_ble_eq_true rfl) ?_
  intro p e sM m below meth c C hM0 hr hlk ls hl
  replace hl : lv_has ls 2 [(0, .ref (z + 0)), (1, .int (jI x1))] := hl
  unfold f_X11_isItem at h
  refine r_iload_n C dX11_isItem_0 rfl hl 1 rfl ?_
  refine r_iconst C dX11_isItem_1 ?_
  refine r_aload_n C dX11_isItem_2 rfl hl 0 rfl ?_
  replace h := bd_some h
  obtain ⟨r3, hf3, h⟩ := h
  refine r_callI (As := []) (rest := [.int (jI 0), .int (jI x1)]) C hM0 (c_X11_itemMany l E z hf3) jy_X11_itemMany lk_X11_414 dX11_isItem_3 (recvW C hM0 jc11 lr_0.1 lr_0.2 rfl) rfl rfl hl.1 (Nat.le_of_ble_eq_true rfl) ⟨Nat.le_of_ble_eq_true rfl, Nat.le_of_ble_eq_true rfl⟩ ⟨rfl, rfl⟩ ⟨Nat.zero_le _, Nat.zero_le _⟩ (fun H locs hr3 hM1 => ?_)
  refine r_iconst C dX11_isItem_6 ?_
  replace h := ck_some h
  obtain ⟨hc2, h⟩ := h
  refine r_isub C dX11_isItem_7 ?_
  replace h := bd_some h
  obtain ⟨r8, hf8, h⟩ := h
  refine r_callSI (As := [.int (jI x1), .int (jI 0), .int (jI (r3 - 1))]) (rest := []) C hM1 (c_X11_isIn l E z hx1 ⟨by decide, by decide⟩ hc2 hf8) jy_X11_isIn lk_X11_112 dX11_isItem_8 rfl rfl hl.1 (Nat.le_of_ble_eq_true rfl) ⟨Nat.le_of_ble_eq_true rfl, Nat.le_of_ble_eq_true rfl⟩ ⟨rfl, rfl⟩ ⟨Nat.zero_le _, Nat.zero_le _⟩ (fun H locs hr8 hM3 => ?_)
  replace h := ck_some h
  obtain ⟨hc4, h⟩ := h
  exact r_zreturn C hM3 hr hlk hc4 h rfl dX11_isItem_11
set_option maxRecDepth 100000 in
set_option maxHeartbeats 4000000 in
theorem c_X11_framesOf (l : Launch) (E : jE) (z : Nat) {x1 : Int} {M : Mem} {r : Int} (hx1 : inR x1) (h : f_X11_framesOf x1 M = some r) : CtI l yX11_framesOf cX11_framesOf 2 (some .int) { frames := 1, cells := 0, slots := 0, locals := 22 } E z LyR [.ref (z + 0), .int (jI x1)] M r M := by
  refine jm (by decide +kernel) (Nat.le_of_ble_eq_true rfl) ?_
  intro p e sM m below meth c C hM0 hr hlk ls hl
  replace hl : lv_has ls 2 [(0, .ref (z + 0)), (1, .int (jI x1))] := hl
  unfold f_X11_framesOf at h
  refine r_aload_n C dX11_framesOf_0 rfl hl 0 rfl ?_
  refine r_iload_n C dX11_framesOf_1 rfl hl 1 rfl ?_
  refine r_iconst C dX11_framesOf_2 ?_
  replace h := bd_some h
  obtain ⟨r3, hf3, h⟩ := h
  refine r_callI (As := [.int (jI x1), .int (jI 0)]) (rest := []) C hM0 (c_X11_r l E z hx1 ⟨by decide, by decide⟩ hf3) jy_X11_r lk_X11_129 dX11_framesOf_3 (recvW C hM0 jc11 lr_0.1 lr_0.2 rfl) rfl rfl hl.1 (Nat.le_of_ble_eq_true rfl) ⟨Nat.le_of_ble_eq_true rfl, Nat.le_of_ble_eq_true rfl⟩ ⟨rfl, rfl⟩ ⟨Nat.zero_le _, Nat.zero_le _⟩ (fun H locs hr3 hM1 => ?_)
  refine r_if_ne C 27 hr3 dX11_framesOf_6 (by decide) (fun cq => ?_) (fun cq => ?_)
  · replace h := ifn cq h
    refine r_aload_n C dX11_framesOf_27 rfl hl 0 rfl ?_
    refine r_iload_n C dX11_framesOf_28 rfl hl 1 rfl ?_
    refine r_iconst C dX11_framesOf_29 ?_
    replace h := bd_some h
    obtain ⟨r30, hf30, h⟩ := h
    refine r_callI (As := [.int (jI x1), .int (jI 2)]) (rest := []) C hM1 (c_X11_r l E z hx1 ⟨by decide, by decide⟩ hf30) jy_X11_r lk_X11_129 dX11_framesOf_30 (recvW C hM1 jc11 lr_0.1 lr_0.2 rfl) rfl rfl hl.1 (Nat.le_of_ble_eq_true rfl) ⟨Nat.le_of_ble_eq_true rfl, Nat.le_of_ble_eq_true rfl⟩ ⟨rfl, rfl⟩ ⟨Nat.zero_le _, Nat.zero_le _⟩ (fun H locs hr30 hM2 => ?_)
    exact r_ireturn C hM2 hr hlk hr30 h rfl dX11_framesOf_33
  · replace h := ifp cq h
    refine r_aload_n C dX11_framesOf_9 rfl hl 0 rfl ?_
    refine r_iload_n C dX11_framesOf_10 rfl hl 1 rfl ?_
    refine r_iconst C dX11_framesOf_11 ?_
    replace h := bd_some h
    obtain ⟨r12, hf12, h⟩ := h
    refine r_callI (As := [.int (jI x1), .int (jI 3)]) (rest := []) C hM1 (c_X11_r l E z hx1 ⟨by decide, by decide⟩ hf12) jy_X11_r lk_X11_129 dX11_framesOf_12 (recvW C hM1 jc11 lr_0.1 lr_0.2 rfl) rfl rfl hl.1 (Nat.le_of_ble_eq_true rfl) ⟨Nat.le_of_ble_eq_true rfl, Nat.le_of_ble_eq_true rfl⟩ ⟨rfl, rfl⟩ ⟨Nat.zero_le _, Nat.zero_le _⟩ (fun H locs hr12 hM3 => ?_)
    refine r_aload_n C dX11_framesOf_15 rfl hl 0 rfl ?_
    refine r_iload_n C dX11_framesOf_16 rfl hl 1 rfl ?_
    refine r_iconst C dX11_framesOf_17 ?_
    replace h := bd_some h
    obtain ⟨r18, hf18, h⟩ := h
    refine r_callI (As := [.int (jI x1), .int (jI 2)]) (rest := [.int (jI r12)]) C hM3 (c_X11_r l E z hx1 ⟨by decide, by decide⟩ hf18) jy_X11_r lk_X11_129 dX11_framesOf_18 (recvW C hM3 jc11 lr_0.1 lr_0.2 rfl) rfl rfl hl.1 (Nat.le_of_ble_eq_true rfl) ⟨Nat.le_of_ble_eq_true rfl, Nat.le_of_ble_eq_true rfl⟩ ⟨rfl, rfl⟩ ⟨Nat.zero_le _, Nat.zero_le _⟩ (fun H locs hr18 hM4 => ?_)
    replace h := ck_some h
    obtain ⟨hc5, h⟩ := h
    refine r_isub C dX11_framesOf_21 ?_
    refine r_iconst C dX11_framesOf_22 ?_
    replace h := ck_some h
    obtain ⟨hc6, h⟩ := h
    refine r_iadd C dX11_framesOf_23 ?_
    refine r_goto C 33 dX11_framesOf_24 (by decide) ?_
    exact r_ireturn C hM4 hr hlk hc6 h rfl dX11_framesOf_33
set_option maxRecDepth 100000 in
set_option maxHeartbeats 4000000 in
theorem c_X11_trim (l : Launch) (E : jE) (z : Nat) {x1 : Int} {x2 : Int} {M M' : Mem} {r : Int} (hx1 : inR x1) (hx2 : inR x2) (h : f_X11_trim x1 x2 M = some (r, M')) : CtI l yX11_trim cX11_trim 5 (some .int) { frames := 4, cells := 0, slots := 0, locals := 89 } E z LyR [.ref (z + 0), .int (jI x1), .int (jI x2)] M r M' := by
  refine jm (by decide +kernel) (Nat.le_of_ble_eq_true rfl) ?_
  intro p e sM m below meth c C hM0 hr hlk ls hl
  replace hl : lv_has ls 5 [(0, .ref (z + 0)), (1, .int (jI x1)), (2, .int (jI x2))] := hl
  unfold f_X11_trim at h
  refine r_aload_n C dX11_trim_0 rfl hl 0 rfl ?_
  refine r_aload_n C dX11_trim_1 rfl hl 0 rfl ?_
  refine r_iload_n C dX11_trim_2 rfl hl 1 rfl ?_
  replace h := bd_some h
  obtain ⟨r3, hf3, h⟩ := h
  refine r_callI (As := [.int (jI x1)]) (rest := [.ref (z + 0)]) C hM0 (c_X11_isItem l E z hx1 hf3) jy_X11_isItem lk_X11_500 dX11_trim_3 (recvW C hM0 jc11 lr_0.1 lr_0.2 rfl) rfl rfl hl.1 (Nat.le_of_ble_eq_true rfl) ⟨Nat.le_of_ble_eq_true rfl, Nat.le_of_ble_eq_true rfl⟩ ⟨rfl, rfl⟩ ⟨Nat.zero_le _, Nat.zero_le _⟩ (fun H locs hr3 hM1 => ?_)
  refine r_iload_n C dX11_trim_6 rfl hl 2 rfl ?_
  refine r_iconst C dX11_trim_7 ?_
  refine r_sipush C dX11_trim_8 rfl ?_
  replace h := bd_some h
  obtain ⟨r11, hf11, h⟩ := h
  refine r_callSI (As := [.int (jI x2), .int (jI 1), .int (jI 399)]) (rest := [.int (jI r3), .ref (z + 0)]) C hM1 (c_X11_isIn l E z hx2 ⟨by decide, by decide⟩ ⟨by decide, by decide⟩ hf11) jy_X11_isIn lk_X11_112 dX11_trim_11 rfl rfl hl.1 (Nat.le_of_ble_eq_true rfl) ⟨Nat.le_of_ble_eq_true rfl, Nat.le_of_ble_eq_true rfl⟩ ⟨rfl, rfl⟩ ⟨Nat.zero_le _, Nat.zero_le _⟩ (fun H locs hr11 hM2 => ?_)
  replace h := bd_some h
  obtain ⟨⟨r14, M14⟩, hf14, h⟩ := h
  try dsimp only at h
  refine r_callI (As := [.int (jI r3), .int (jI r11)]) (rest := []) C hM2 (c_X11_goesBoth l E z hr3 hr11 hf14) jy_X11_goesBoth lk_X11_429 dX11_trim_14 (recvW C hM2 jc11 lr_0.1 lr_0.2 rfl) rfl rfl hl.1 (Nat.le_of_ble_eq_true rfl) ⟨Nat.le_of_ble_eq_true rfl, Nat.le_of_ble_eq_true rfl⟩ ⟨rfl, rfl⟩ ⟨Nat.zero_le _, Nat.zero_le _⟩ (fun H locs hr14 hM3 => ?_)
  refine r_if_ne C 22 hr14 dX11_trim_17 (by decide) (fun cq => ?_) (fun cq => ?_)
  · replace h := ifn cq h
    refine r_aload_n C dX11_trim_22 rfl hl 0 rfl ?_
    refine r_iload_n C dX11_trim_23 rfl hl 1 rfl ?_
    replace h := bd_some h
    obtain ⟨r24, hf24, h⟩ := h
    refine r_callI (As := [.int (jI x1)]) (rest := []) C hM3 (c_X11_rowOf l E z hx1 hf24) jy_X11_rowOf lk_X11_490 dX11_trim_24 (recvW C hM3 jc11 lr_0.1 lr_0.2 rfl) rfl rfl hl.1 (Nat.le_of_ble_eq_true rfl) ⟨Nat.le_of_ble_eq_true rfl, Nat.le_of_ble_eq_true rfl⟩ ⟨rfl, rfl⟩ ⟨Nat.zero_le _, Nat.zero_le _⟩ (fun H locs hr24 hM4 => ?_)
    refine r_istore_n C [(3, .int (jI r24)), (0, .ref (z + 0)), (1, .int (jI x1)), (2, .int (jI x2))] dX11_trim_27 rfl hl (by decide) rfl (fun ls hl => ?_)
    refine r_aload_n C dX11_trim_28 rfl hl 1 rfl ?_
    refine r_iload_n C dX11_trim_29 rfl hl 0 rfl ?_
    refine r_iconst C dX11_trim_30 ?_
    replace h := bd_some h
    obtain ⟨r31, hf31, h⟩ := h
    refine r_callI (As := [.int (jI r24), .int (jI 0)]) (rest := []) C hM4 (c_X11_r l E z hr24 ⟨by decide, by decide⟩ hf31) jy_X11_r lk_X11_129 dX11_trim_31 (recvW C hM4 jc11 lr_0.1 lr_0.2 rfl) rfl rfl hl.1 (Nat.le_of_ble_eq_true rfl) ⟨Nat.le_of_ble_eq_true rfl, Nat.le_of_ble_eq_true rfl⟩ ⟨rfl, rfl⟩ ⟨Nat.zero_le _, Nat.zero_le _⟩ (fun H locs hr31 hM5 => ?_)
    replace h := jn_some h
    obtain ⟨k53, hk53, h⟩ := h
    have hJ53 : ∀ (_ : Unit), ∀ (H : Heap) (locs : List Loc) (ls : Array Slot), k53 () = some (r, M') → HS E z LyR M14 sM H locs → lv_has ls 5 [(0, .ref (z + 0)), (2, .int (jI x2)), (3, .int (jI r24))] → W p l e ({ frames := 4, cells := 0, slots := 0, locals := 89 } : Room) sM m (([.ref (z + 0), .int (jI x1), .int (jI x2)] : List Value).toArray) below meth c H locs 0 0 (MQ below (va_Qi (fun (w : Int32) (_ : Unit) => w = jI r ∧ inR r ∧ Mok LyR M') (fun _ t => va_P (eD E) vwCl (Wd (eC E) z LyR M') t.heap) (eA E)) (([.ref (z + 0), .int (jI x1), .int (jI x2)] : List Value).toArray) sM 0 0 (eA E)) (F0 m 53 ls []) := by
      intro _ H locs ls h hMj53 hl
      subst hk53
      try dsimp only at h
      refine r_aload_n C dX11_trim_53 rfl hl 0 rfl ?_
      refine r_iload_n C dX11_trim_54 rfl hl 2 rfl ?_
      replace h := bd_some h
      obtain ⟨r55, hf55, h⟩ := h
      refine r_callI (As := [.int (jI r24)]) (rest := []) C hMj53 (c_X11_framesOf l E z hr24 hf55) jy_X11_framesOf lk_X11_503 dX11_trim_55 (recvW C hMj53 jc11 lr_0.1 lr_0.2 rfl) rfl rfl hl.1 (Nat.le_of_ble_eq_true rfl) ⟨Nat.le_of_ble_eq_true rfl, Nat.le_of_ble_eq_true rfl⟩ ⟨rfl, rfl⟩ ⟨Nat.zero_le _, Nat.zero_le _⟩ (fun H locs hr55 hM6 => ?_)
      refine r_iload_n C dX11_trim_58 rfl hl 1 rfl ?_
      refine r_icmp_gt C 69 hr55 hx2 dX11_trim_59 (by decide) (fun cq => ?_) (fun cq => ?_)
      · replace h := ifp cq h
        refine r_aload_n C dX11_trim_69 rfl hl 0 rfl ?_
        replace h := bd_some h
        obtain ⟨M70, hf70, h⟩ := h
        refine r_callV (As := []) (rest := []) C hM6 (c_X11_begins l E z hf70) jy_X11_begins lk_X11_477 dX11_trim_70 (recvW C hM6 jc11 lr_0.1 lr_0.2 rfl) rfl rfl hl.1 (Nat.le_of_ble_eq_true rfl) ⟨Nat.le_of_ble_eq_true rfl, Nat.le_of_ble_eq_true rfl⟩ ⟨rfl, rfl⟩ ⟨Nat.zero_le _, Nat.zero_le _⟩ (fun H locs hM7 => ?_)
        refine r_bipush C dX11_trim_73 rfl ?_
        refine r_iconst C dX11_trim_75 ?_
        refine r_iload_n C dX11_trim_76 rfl hl 2 rfl ?_
        replace h := ck_some h
        obtain ⟨hc8, h⟩ := h
        refine r_imul C dX11_trim_77 ?_
        replace h := ck_some h
        obtain ⟨hc9, h⟩ := h
        refine r_iadd C dX11_trim_78 ?_
        refine r_aload_n C dX11_trim_79 rfl hl 0 rfl ?_
        refine r_iload_n C dX11_trim_80 rfl hl 2 rfl ?_
        refine r_iconst C dX11_trim_81 ?_
        replace h := bd_some h
        obtain ⟨r82, hf82, h⟩ := h
        refine r_callI (As := [.int (jI r24), .int (jI 0)]) (rest := [.int (jI (126 + (4 * r24)))]) C hM7 (c_X11_r l E z hr24 ⟨by decide, by decide⟩ hf82) jy_X11_r lk_X11_129 dX11_trim_82 (recvW C hM7 jc11 lr_0.1 lr_0.2 rfl) rfl rfl hl.1 (Nat.le_of_ble_eq_true rfl) ⟨Nat.le_of_ble_eq_true rfl, Nat.le_of_ble_eq_true rfl⟩ ⟨rfl, rfl⟩ ⟨Nat.zero_le _, Nat.zero_le _⟩ (fun H locs hr82 hM10 => ?_)
        replace h := jn_some h
        obtain ⟨k93, hk93, h⟩ := h
        have hJ93 : ∀ (v93 : Int), inR v93 → ∀ (H : Heap) (locs : List Loc) (ls : Array Slot), k93 v93 = some (r, M') → HS E z LyR M70 sM H locs → lv_has ls 5 [(0, .ref (z + 0)), (2, .int (jI x2)), (3, .int (jI r24))] → W p l e ({ frames := 4, cells := 0, slots := 0, locals := 89 } : Room) sM m (([.ref (z + 0), .int (jI x1), .int (jI x2)] : List Value).toArray) below meth c H locs 0 0 (MQ below (va_Qi (fun (w : Int32) (_ : Unit) => w = jI r ∧ inR r ∧ Mok LyR M') (fun _ t => va_P (eD E) vwCl (Wd (eC E) z LyR M') t.heap) (eA E)) (([.ref (z + 0), .int (jI x1), .int (jI x2)] : List Value).toArray) sM 0 0 (eA E)) (F0 m 93 ls [.int (jI v93), .int (jI (126 + (4 * r24)))]) := by
          intro v93 hv93 H locs ls h hMj93 hl
          subst hk93
          try dsimp only at h
          replace h := ck_some h
          obtain ⟨hc11, h⟩ := h
          refine r_iadd C dX11_trim_93 ?_
          refine r_istore C [(4, .int (jI ((126 + (4 * r24)) + v93))), (0, .ref (z + 0)), (2, .int (jI x2)), (3, .int (jI r24))] dX11_trim_94 hl (by decide) rfl (fun ls hl => ?_)
          refine r_aload_n C dX11_trim_96 rfl hl 1 rfl ?_
          refine r_getR C hMj93 jc11 0 1 dX11_trim_97 lk_X11_7 lr_0.1 lr_0.2 rfl rfl (by decide) rfl ?_
          refine r_iload C dX11_trim_100 hl 0 rfl ?_
          refine r_dup2 C dX11_trim_102 rfl rfl ?_
          replace h := ck_some h
          obtain ⟨hc12, h⟩ := h
          refine r_iald C hMj93 rfl dX11_trim_103 lr_1.1 lr_1.2 hc12 hc11 ?_
          refine r_iload_n C dX11_trim_104 rfl hl 2 rfl ?_
          replace h := ck_some h
          obtain ⟨hc13, h⟩ := h
          refine r_isub C dX11_trim_105 ?_
          refine r_iast C hMj93 dX11_trim_106 lr_1.1 lr_1.2 hc12 hc11 hc13 (fun H locs hM14 => ?_)
          replace h := lt_some h
          obtain ⟨N15, eN15, h⟩ := h
          rw [← eN15] at hM14
          refine r_aload_n C dX11_trim_107 rfl hl 1 rfl ?_
          refine r_iload_n C dX11_trim_108 rfl hl 3 rfl ?_
          replace h := bd_some h
          obtain ⟨r109, hf109, h⟩ := h
          refine r_callI (As := [.int (jI r24)]) (rest := []) C hM14 (c_X11_framesOf l E z hr24 hf109) jy_X11_framesOf lk_X11_503 dX11_trim_109 (recvW C hM14 jc11 lr_0.1 lr_0.2 rfl) rfl rfl hl.1 (Nat.le_of_ble_eq_true rfl) ⟨Nat.le_of_ble_eq_true rfl, Nat.le_of_ble_eq_true rfl⟩ ⟨rfl, rfl⟩ ⟨Nat.zero_le _, Nat.zero_le _⟩ (fun H locs hr109 hM16 => ?_)
          exact r_ireturnM C hM16 hr hlk hr109 h dX11_trim_112
        refine r_if_ne C 92 hr82 dX11_trim_85 (by decide) (fun cq => ?_) (fun cq => ?_)
        · replace h := ifn cq h
          refine r_iconst C dX11_trim_92 ?_
          exact hJ93 _ ⟨by decide, by decide⟩ _ _ _ h hM10 (lv_sub hl [0, 1, 2] rfl)
        · replace h := ifp cq h
          refine r_iconst C dX11_trim_88 ?_
          refine r_goto C 93 dX11_trim_89 (by decide) ?_
          exact hJ93 _ ⟨by decide, by decide⟩ _ _ _ h hM10 (lv_sub hl [0, 1, 2] rfl)
      · replace h := ifn cq h
        refine r_aload_n C dX11_trim_62 rfl hl 0 rfl ?_
        refine r_bipush C dX11_trim_63 rfl ?_
        replace h := bd_some h
        obtain ⟨⟨r65, M65⟩, hf65, h⟩ := h
        try dsimp only at h
        refine r_callI (As := [.int (jI 6)]) (rest := []) C hM6 (c_X11_refuses l E z ⟨by decide, by decide⟩ hf65) jy_X11_refuses lk_X11_471 dX11_trim_65 (recvW C hM6 jc11 lr_0.1 lr_0.2 rfl) rfl rfl hl.1 (Nat.le_of_ble_eq_true rfl) ⟨Nat.le_of_ble_eq_true rfl, Nat.le_of_ble_eq_true rfl⟩ ⟨rfl, rfl⟩ ⟨Nat.zero_le _, Nat.zero_le _⟩ (fun H locs hr65 hM17 => ?_)
        exact r_ireturnM C hM17 hr hlk hr65 h dX11_trim_68
    refine r_if_eq C 53 hr31 dX11_trim_34 (by decide) (fun cq => ?_) (fun cq => ?_)
    · replace h := ifp cq h
      exact hJ53 () _ _ _ h hM5 (lv_sub hl [1, 3, 0] rfl)
    · replace h := ifn cq h
      refine r_aload_n C dX11_trim_37 rfl hl 1 rfl ?_
      refine r_iload_n C dX11_trim_38 rfl hl 0 rfl ?_
      refine r_iconst C dX11_trim_39 ?_
      replace h := bd_some h
      obtain ⟨r40, hf40, h⟩ := h
      refine r_callI (As := [.int (jI r24), .int (jI 0)]) (rest := []) C hM5 (c_X11_r l E z hr24 ⟨by decide, by decide⟩ hf40) jy_X11_r lk_X11_129 dX11_trim_40 (recvW C hM5 jc11 lr_0.1 lr_0.2 rfl) rfl rfl hl.1 (Nat.le_of_ble_eq_true rfl) ⟨Nat.le_of_ble_eq_true rfl, Nat.le_of_ble_eq_true rfl⟩ ⟨rfl, rfl⟩ ⟨Nat.zero_le _, Nat.zero_le _⟩ (fun H locs hr40 hM18 => ?_)
      refine r_iconst C dX11_trim_43 ?_
      refine r_icmp_eq C 53 hr40 ⟨by decide, by decide⟩ dX11_trim_44 (by decide) (fun cq => ?_) (fun cq => ?_)
      · replace h := ifp cq h
        exact hJ53 () _ _ _ h hM18 (lv_sub hl [1, 3, 0] rfl)
      · replace h := ifn cq h
        refine r_aload_n C dX11_trim_47 rfl hl 1 rfl ?_
        refine r_iconst C dX11_trim_48 ?_
        replace h := bd_some h
        obtain ⟨⟨r49, M49⟩, hf49, h⟩ := h
        try dsimp only at h
        refine r_callI (As := [.int (jI 5)]) (rest := []) C hM18 (c_X11_refuses l E z ⟨by decide, by decide⟩ hf49) jy_X11_refuses lk_X11_471 dX11_trim_49 (recvW C hM18 jc11 lr_0.1 lr_0.2 rfl) rfl rfl hl.1 (Nat.le_of_ble_eq_true rfl) ⟨Nat.le_of_ble_eq_true rfl, Nat.le_of_ble_eq_true rfl⟩ ⟨rfl, rfl⟩ ⟨Nat.zero_le _, Nat.zero_le _⟩ (fun H locs hr49 hM19 => ?_)
        exact r_ireturnM C hM19 hr hlk hr49 h dX11_trim_52
  · replace h := ifp cq h
    refine r_iconst C dX11_trim_20 ?_
    exact r_ireturnM C hM3 hr hlk ⟨by decide, by decide⟩ h dX11_trim_21
set_option maxRecDepth 100000 in
set_option maxHeartbeats 4000000 in
theorem c_X11_remove (l : Launch) (E : jE) (z : Nat) {x1 : Int} {M M' : Mem} {r : Int} (hx1 : inR x1) (h : f_X11_remove x1 M = some (r, M')) : CtI l yX11_remove cX11_remove 3 (some .int) { frames := 5, cells := 0, slots := 0, locals := 109 } E z LyR [.ref (z + 0), .int (jI x1)] M r M' := by
  refine jm (by decide +kernel) (Nat.le_of_ble_eq_true rfl) ?_
  intro p e sM m below meth c C hM0 hr hlk ls hl
  replace hl : lv_has ls 3 [(0, .ref (z + 0)), (1, .int (jI x1))] := hl
  unfold f_X11_remove at h
  refine r_aload_n C dX11_remove_0 rfl hl 0 rfl ?_
  refine r_aload_n C dX11_remove_1 rfl hl 0 rfl ?_
  refine r_iload_n C dX11_remove_2 rfl hl 1 rfl ?_
  replace h := bd_some h
  obtain ⟨r3, hf3, h⟩ := h
  refine r_callI (As := [.int (jI x1)]) (rest := [.ref (z + 0)]) C hM0 (c_X11_isItem l E z hx1 hf3) jy_X11_isItem lk_X11_500 dX11_remove_3 (recvW C hM0 jc11 lr_0.1 lr_0.2 rfl) rfl rfl hl.1 (Nat.le_of_ble_eq_true rfl) ⟨Nat.le_of_ble_eq_true rfl, Nat.le_of_ble_eq_true rfl⟩ ⟨rfl, rfl⟩ ⟨Nat.zero_le _, Nat.zero_le _⟩ (fun H locs hr3 hM1 => ?_)
  replace h := bd_some h
  obtain ⟨⟨r6, M6⟩, hf6, h⟩ := h
  try dsimp only at h
  refine r_callI (As := [.int (jI r3)]) (rest := []) C hM1 (c_X11_goes l E z hr3 hf6) jy_X11_goes lk_X11_239 dX11_remove_6 (recvW C hM1 jc11 lr_0.1 lr_0.2 rfl) rfl rfl hl.1 (Nat.le_of_ble_eq_true rfl) ⟨Nat.le_of_ble_eq_true rfl, Nat.le_of_ble_eq_true rfl⟩ ⟨rfl, rfl⟩ ⟨Nat.zero_le _, Nat.zero_le _⟩ (fun H locs hr6 hM2 => ?_)
  refine r_if_ne C 14 hr6 dX11_remove_9 (by decide) (fun cq => ?_) (fun cq => ?_)
  · replace h := ifn cq h
    refine r_aload_n C dX11_remove_14 rfl hl 0 rfl ?_
    replace h := bd_some h
    obtain ⟨M15, hf15, h⟩ := h
    refine r_callV (As := []) (rest := []) C hM2 (c_X11_begins l E z hf15) jy_X11_begins lk_X11_477 dX11_remove_15 (recvW C hM2 jc11 lr_0.1 lr_0.2 rfl) rfl rfl hl.1 (Nat.le_of_ble_eq_true rfl) ⟨Nat.le_of_ble_eq_true rfl, Nat.le_of_ble_eq_true rfl⟩ ⟨rfl, rfl⟩ ⟨Nat.zero_le _, Nat.zero_le _⟩ (fun H locs hM3 => ?_)
    refine r_aload_n C dX11_remove_18 rfl hl 0 rfl ?_
    refine r_iload_n C dX11_remove_19 rfl hl 1 rfl ?_
    replace h := bd_some h
    obtain ⟨r20, hf20, h⟩ := h
    refine r_callI (As := [.int (jI x1)]) (rest := []) C hM3 (c_X11_rowOf l E z hx1 hf20) jy_X11_rowOf lk_X11_490 dX11_remove_20 (recvW C hM3 jc11 lr_0.1 lr_0.2 rfl) rfl rfl hl.1 (Nat.le_of_ble_eq_true rfl) ⟨Nat.le_of_ble_eq_true rfl, Nat.le_of_ble_eq_true rfl⟩ ⟨rfl, rfl⟩ ⟨Nat.zero_le _, Nat.zero_le _⟩ (fun H locs hr20 hM4 => ?_)
    refine r_istore_n C [(2, .int (jI r20)), (0, .ref (z + 0)), (1, .int (jI x1))] dX11_remove_23 rfl hl (by decide) rfl (fun ls hl => ?_)
    refine r_aload_n C dX11_remove_24 rfl hl 1 rfl ?_
    refine r_iload_n C dX11_remove_25 rfl hl 0 rfl ?_
    refine r_aload_n C dX11_remove_26 rfl hl 1 rfl ?_
    refine r_iload_n C dX11_remove_27 rfl hl 0 rfl ?_
    replace h := bd_some h
    obtain ⟨r28, hf28, h⟩ := h
    refine r_callI (As := [.int (jI r20)]) (rest := [.int (jI r20), .ref (z + 0)]) C hM4 (c_X11_behind l E z hr20 hf28) jy_X11_behind lk_X11_411 dX11_remove_28 (recvW C hM4 jc11 lr_0.1 lr_0.2 rfl) rfl rfl hl.1 (Nat.le_of_ble_eq_true rfl) ⟨Nat.le_of_ble_eq_true rfl, Nat.le_of_ble_eq_true rfl⟩ ⟨rfl, rfl⟩ ⟨Nat.zero_le _, Nat.zero_le _⟩ (fun H locs hr28 hM5 => ?_)
    refine r_iload_n C dX11_remove_31 rfl hl 0 rfl ?_
    replace h := ck_some h
    obtain ⟨hc6, h⟩ := h
    refine r_isub C dX11_remove_32 ?_
    replace h := bd_some h
    obtain ⟨M33, hf33, h⟩ := h
    refine r_callV (As := [.int (jI r20), .int (jI (r28 - r20))]) (rest := []) C hM5 (c_X11_shiftsFront l E z hr20 hc6 hf33) jy_X11_shiftsFront lk_X11_506 dX11_remove_33 (recvW C hM5 jc11 lr_0.1 lr_0.2 rfl) rfl rfl hl.1 (Nat.le_of_ble_eq_true rfl) ⟨Nat.le_of_ble_eq_true rfl, Nat.le_of_ble_eq_true rfl⟩ ⟨rfl, rfl⟩ ⟨Nat.zero_le _, Nat.zero_le _⟩ (fun H locs hM7 => ?_)
    refine r_aload_n C dX11_remove_36 rfl hl 1 rfl ?_
    replace h := bd_some h
    obtain ⟨⟨r37, M37⟩, hf37, h⟩ := h
    try dsimp only at h
    refine r_callI (As := []) (rest := []) C hM7 (c_X11_endNow l E z hf37) jy_X11_endNow lk_X11_497 dX11_remove_37 (recvW C hM7 jc11 lr_0.1 lr_0.2 rfl) rfl rfl hl.1 (Nat.le_of_ble_eq_true rfl) ⟨Nat.le_of_ble_eq_true rfl, Nat.le_of_ble_eq_true rfl⟩ ⟨rfl, rfl⟩ ⟨Nat.zero_le _, Nat.zero_le _⟩ (fun H locs hr37 hM8 => ?_)
    exact r_ireturnM C hM8 hr hlk hr37 h dX11_remove_40
  · replace h := ifp cq h
    refine r_iconst C dX11_remove_12 ?_
    exact r_ireturnM C hM2 hr hlk ⟨by decide, by decide⟩ h dX11_remove_13
set_option maxRecDepth 100000 in
set_option maxHeartbeats 4000000 in
theorem c_X11_move (l : Launch) (E : jE) (z : Nat) {x1 : Int} {x2 : Int} {M M' : Mem} {r : Int} (hx1 : inR x1) (hx2 : inR x2) (h : f_X11_move x1 x2 M = some (r, M')) : CtI l yX11_move cX11_move 7 (some .int) { frames := 5, cells := 0, slots := 0, locals := 109 } E z LyR [.ref (z + 0), .int (jI x1), .int (jI x2)] M r M' := by
  refine jm (by decide +kernel) (Nat.le_of_ble_eq_true rfl) ?_
  intro p e sM m below meth c C hM0 hr hlk ls hl
  replace hl : lv_has ls 7 [(0, .ref (z + 0)), (1, .int (jI x1)), (2, .int (jI x2))] := hl
  unfold f_X11_move at h
  refine r_aload_n C dX11_move_0 rfl hl 0 rfl ?_
  refine r_aload_n C dX11_move_1 rfl hl 0 rfl ?_
  refine r_iload_n C dX11_move_2 rfl hl 1 rfl ?_
  replace h := bd_some h
  obtain ⟨r3, hf3, h⟩ := h
  refine r_callI (As := [.int (jI x1)]) (rest := [.ref (z + 0)]) C hM0 (c_X11_isItem l E z hx1 hf3) jy_X11_isItem lk_X11_500 dX11_move_3 (recvW C hM0 jc11 lr_0.1 lr_0.2 rfl) rfl rfl hl.1 (Nat.le_of_ble_eq_true rfl) ⟨Nat.le_of_ble_eq_true rfl, Nat.le_of_ble_eq_true rfl⟩ ⟨rfl, rfl⟩ ⟨Nat.zero_le _, Nat.zero_le _⟩ (fun H locs hr3 hM1 => ?_)
  replace h := jn_some h
  obtain ⟨k22, hk22, h⟩ := h
  have hJ22 : ∀ (v22 : Int), inR v22 → ∀ (H : Heap) (locs : List Loc) (ls : Array Slot), k22 v22 = some (r, M') → HS E z LyR M sM H locs → lv_has ls 7 [(0, .ref (z + 0)), (1, .int (jI x1)), (2, .int (jI x2))] → W p l e ({ frames := 5, cells := 0, slots := 0, locals := 109 } : Room) sM m (([.ref (z + 0), .int (jI x1), .int (jI x2)] : List Value).toArray) below meth c H locs 0 0 (MQ below (va_Qi (fun (w : Int32) (_ : Unit) => w = jI r ∧ inR r ∧ Mok LyR M') (fun _ t => va_P (eD E) vwCl (Wd (eC E) z LyR M') t.heap) (eA E)) (([.ref (z + 0), .int (jI x1), .int (jI x2)] : List Value).toArray) sM 0 0 (eA E)) (F0 m 22 ls [.int (jI v22), .ref (z + 0)]) := by
    intro v22 hv22 H locs ls h hMj22 hl
    subst hk22
    try dsimp only at h
    replace h := bd_some h
    obtain ⟨⟨r22, M22⟩, hf22, h⟩ := h
    try dsimp only at h
    refine r_callI (As := [.int (jI v22)]) (rest := []) C hMj22 (c_X11_goes l E z hv22 hf22) jy_X11_goes lk_X11_239 dX11_move_22 (recvW C hMj22 jc11 lr_0.1 lr_0.2 rfl) rfl rfl hl.1 (Nat.le_of_ble_eq_true rfl) ⟨Nat.le_of_ble_eq_true rfl, Nat.le_of_ble_eq_true rfl⟩ ⟨rfl, rfl⟩ ⟨Nat.zero_le _, Nat.zero_le _⟩ (fun H locs hr22 hM2 => ?_)
    refine r_if_ne C 30 hr22 dX11_move_25 (by decide) (fun cq => ?_) (fun cq => ?_)
    · replace h := ifn cq h
      refine r_aload_n C dX11_move_30 rfl hl 0 rfl ?_
      replace h := bd_some h
      obtain ⟨M31, hf31, h⟩ := h
      refine r_callV (As := []) (rest := []) C hM2 (c_X11_begins l E z hf31) jy_X11_begins lk_X11_477 dX11_move_31 (recvW C hM2 jc11 lr_0.1 lr_0.2 rfl) rfl rfl hl.1 (Nat.le_of_ble_eq_true rfl) ⟨Nat.le_of_ble_eq_true rfl, Nat.le_of_ble_eq_true rfl⟩ ⟨rfl, rfl⟩ ⟨Nat.zero_le _, Nat.zero_le _⟩ (fun H locs hM3 => ?_)
      refine r_aload_n C dX11_move_34 rfl hl 0 rfl ?_
      refine r_iload_n C dX11_move_35 rfl hl 1 rfl ?_
      replace h := bd_some h
      obtain ⟨r36, hf36, h⟩ := h
      refine r_callI (As := [.int (jI x1)]) (rest := []) C hM3 (c_X11_rowOf l E z hx1 hf36) jy_X11_rowOf lk_X11_490 dX11_move_36 (recvW C hM3 jc11 lr_0.1 lr_0.2 rfl) rfl rfl hl.1 (Nat.le_of_ble_eq_true rfl) ⟨Nat.le_of_ble_eq_true rfl, Nat.le_of_ble_eq_true rfl⟩ ⟨rfl, rfl⟩ ⟨Nat.zero_le _, Nat.zero_le _⟩ (fun H locs hr36 hM4 => ?_)
      refine r_istore_n C [(3, .int (jI r36)), (0, .ref (z + 0)), (1, .int (jI x1)), (2, .int (jI x2))] dX11_move_39 rfl hl (by decide) rfl (fun ls hl => ?_)
      refine r_aload_n C dX11_move_40 rfl hl 1 rfl ?_
      refine r_iload_n C dX11_move_41 rfl hl 0 rfl ?_
      replace h := bd_some h
      obtain ⟨r42, hf42, h⟩ := h
      refine r_callI (As := [.int (jI r36)]) (rest := []) C hM4 (c_X11_behind l E z hr36 hf42) jy_X11_behind lk_X11_411 dX11_move_42 (recvW C hM4 jc11 lr_0.1 lr_0.2 rfl) rfl rfl hl.1 (Nat.le_of_ble_eq_true rfl) ⟨Nat.le_of_ble_eq_true rfl, Nat.le_of_ble_eq_true rfl⟩ ⟨rfl, rfl⟩ ⟨Nat.zero_le _, Nat.zero_le _⟩ (fun H locs hr42 hM5 => ?_)
      refine r_iload_n C dX11_move_45 rfl hl 0 rfl ?_
      replace h := ck_some h
      obtain ⟨hc6, h⟩ := h
      refine r_isub C dX11_move_46 ?_
      refine r_istore C [(4, .int (jI (r42 - r36))), (3, .int (jI r36)), (0, .ref (z + 0)), (1, .int (jI x1)), (2, .int (jI x2))] dX11_move_47 hl (by decide) rfl (fun ls hl => ?_)
      refine r_iconst C dX11_move_49 ?_
      refine r_istore C [(5, .int (jI 0)), (4, .int (jI (r42 - r36))), (3, .int (jI r36)), (0, .ref (z + 0)), (1, .int (jI x1)), (2, .int (jI x2))] dX11_move_50 hl (by decide) rfl (fun ls hl => ?_)
      obtain ⟨y3, ey3⟩ : ∃ y : Int, y = r36 := ⟨_, rfl⟩
      have hy3 : inR y3 := by rw [ey3]; exact hr36
      obtain ⟨y4, ey4⟩ : ∃ y : Int, y = (r42 - r36) := ⟨_, rfl⟩
      have hy4 : inR y4 := by rw [ey4]; exact hc6
      have hL52 : ∀ n52 : Nat, ∀ (x5 : Int) (M : Mem), inR x5 → ∀ (H : Heap) (locs : List Loc) (ls : Array Slot), f_X11_move_L52 x2 y3 y4 n52  x5 M = some (r, M') → HS E z LyR M sM H locs → lv_has ls 7 [(0, .ref (z + 0)), (2, .int (jI x2)), (3, .int (jI y3)), (4, .int (jI y4)), (5, .int (jI x5))] → W p l e ({ frames := 5, cells := 0, slots := 0, locals := 109 } : Room) sM m (([.ref (z + 0), .int (jI x1), .int (jI x2)] : List Value).toArray) below meth c H locs 0 0 (MQ below (va_Qi (fun (w : Int32) (_ : Unit) => w = jI r ∧ inR r ∧ Mok LyR M') (fun _ t => va_P (eD E) vwCl (Wd (eC E) z LyR M') t.heap) (eA E)) (([.ref (z + 0), .int (jI x1), .int (jI x2)] : List Value).toArray) sM 0 0 (eA E)) (F0 m 52 ls []) := by
        intro n52
        induction n52 with
        | zero =>
          intro x5 M hx5 H locs ls h hM hl
          exact absurd h (by simp [f_X11_move_L52])
        | succ n52 ih52 =>
          intro x5 M hx5 H locs ls h hM hl
          rw [f_X11_move_L52] at h
          refine r_iload C dX11_move_52 hl 4 rfl ?_
          refine r_iconst C dX11_move_54 ?_
          refine r_iload C dX11_move_55 hl 3 rfl ?_
          replace h := ck_some h
          obtain ⟨hc7, h⟩ := h
          refine r_imul C dX11_move_57 ?_
          refine r_icmp_ge C 88 hx5 hc7 dX11_move_58 (by decide) (fun cq => ?_) (fun cq => ?_)
          · replace h := ifp cq h
            refine r_aload_n C dX11_move_88 rfl hl 0 rfl ?_
            refine r_iload_n C dX11_move_89 rfl hl 2 rfl ?_
            refine r_iload C dX11_move_90 hl 3 rfl ?_
            replace h := bd_some h
            obtain ⟨M92, hf92, h⟩ := h
            refine r_callV (As := [.int (jI y3), .int (jI y4)]) (rest := []) C hM (c_X11_shiftsFront l E z hy3 hy4 hf92) jy_X11_shiftsFront lk_X11_506 dX11_move_92 (recvW C hM jc11 lr_0.1 lr_0.2 rfl) rfl rfl hl.1 (Nat.le_of_ble_eq_true rfl) ⟨Nat.le_of_ble_eq_true rfl, Nat.le_of_ble_eq_true rfl⟩ ⟨rfl, rfl⟩ ⟨Nat.zero_le _, Nat.zero_le _⟩ (fun H locs hM8 => ?_)
            refine r_aload_n C dX11_move_95 rfl hl 0 rfl ?_
            refine r_iload_n C dX11_move_96 rfl hl 1 rfl ?_
            replace h := bd_some h
            obtain ⟨r97, hf97, h⟩ := h
            refine r_callI (As := [.int (jI x2)]) (rest := []) C hM8 (c_X11_rowOf l E z hx2 hf97) jy_X11_rowOf lk_X11_490 dX11_move_97 (recvW C hM8 jc11 lr_0.1 lr_0.2 rfl) rfl rfl hl.1 (Nat.le_of_ble_eq_true rfl) ⟨Nat.le_of_ble_eq_true rfl, Nat.le_of_ble_eq_true rfl⟩ ⟨rfl, rfl⟩ ⟨Nat.zero_le _, Nat.zero_le _⟩ (fun H locs hr97 hM9 => ?_)
            refine r_istore C [(5, .int (jI r97)), (0, .ref (z + 0)), (2, .int (jI x2)), (3, .int (jI y3)), (4, .int (jI y4))] dX11_move_100 hl (by decide) rfl (fun ls hl => ?_)
            refine r_aload_n C dX11_move_102 rfl hl 1 rfl ?_
            refine r_iload C dX11_move_103 hl 0 rfl ?_
            refine r_iload C dX11_move_105 hl 4 rfl ?_
            replace h := bd_some h
            obtain ⟨M107, hf107, h⟩ := h
            refine r_callV (As := [.int (jI r97), .int (jI y4)]) (rest := []) C hM9 (c_X11_shiftsBack l E z hr97 hy4 hf107) jy_X11_shiftsBack lk_X11_493 dX11_move_107 (recvW C hM9 jc11 lr_0.1 lr_0.2 rfl) rfl rfl hl.1 (Nat.le_of_ble_eq_true rfl) ⟨Nat.le_of_ble_eq_true rfl, Nat.le_of_ble_eq_true rfl⟩ ⟨rfl, rfl⟩ ⟨Nat.zero_le _, Nat.zero_le _⟩ (fun H locs hM10 => ?_)
            refine r_iconst C dX11_move_110 ?_
            refine r_istore C [(6, .int (jI 0)), (5, .int (jI r97)), (0, .ref (z + 0)), (2, .int (jI x2)), (3, .int (jI y3)), (4, .int (jI y4))] dX11_move_111 hl (by decide) rfl (fun ls hl => ?_)
            obtain ⟨y5, ey5⟩ : ∃ y : Int, y = r97 := ⟨_, rfl⟩
            have hy5 : inR y5 := by rw [ey5]; exact hr97
            have hL113 : ∀ n113 : Nat, ∀ (x6 : Int) (M : Mem), inR x6 → ∀ (H : Heap) (locs : List Loc) (ls : Array Slot), f_X11_move_L113 y4 y5 n113  x6 M = some (r, M') → HS E z LyR M sM H locs → lv_has ls 7 [(0, .ref (z + 0)), (4, .int (jI y4)), (5, .int (jI y5)), (6, .int (jI x6))] → W p l e ({ frames := 5, cells := 0, slots := 0, locals := 109 } : Room) sM m (([.ref (z + 0), .int (jI x1), .int (jI x2)] : List Value).toArray) below meth c H locs 0 0 (MQ below (va_Qi (fun (w : Int32) (_ : Unit) => w = jI r ∧ inR r ∧ Mok LyR M') (fun _ t => va_P (eD E) vwCl (Wd (eC E) z LyR M') t.heap) (eA E)) (([.ref (z + 0), .int (jI x1), .int (jI x2)] : List Value).toArray) sM 0 0 (eA E)) (F0 m 113 ls []) := by
              intro n113
              induction n113 with
              | zero =>
                intro x6 M hx6 H locs ls h hM hl
                exact absurd h (by simp [f_X11_move_L113])
              | succ n113 ih113 =>
                intro x6 M hx6 H locs ls h hM hl
                rw [f_X11_move_L113] at h
                refine r_iload C dX11_move_113 hl 3 rfl ?_
                refine r_iconst C dX11_move_115 ?_
                refine r_iload C dX11_move_116 hl 1 rfl ?_
                replace h := ck_some h
                obtain ⟨hc11, h⟩ := h
                refine r_imul C dX11_move_118 ?_
                refine r_icmp_ge C 150 hx6 hc11 dX11_move_119 (by decide) (fun cq => ?_) (fun cq => ?_)
                · replace h := ifp cq h
                  refine r_aload_n C dX11_move_150 rfl hl 0 rfl ?_
                  replace h := bd_some h
                  obtain ⟨⟨r151, M151⟩, hf151, h⟩ := h
                  try dsimp only at h
                  refine r_callI (As := []) (rest := []) C hM (c_X11_endNow l E z hf151) jy_X11_endNow lk_X11_497 dX11_move_151 (recvW C hM jc11 lr_0.1 lr_0.2 rfl) rfl rfl hl.1 (Nat.le_of_ble_eq_true rfl) ⟨Nat.le_of_ble_eq_true rfl, Nat.le_of_ble_eq_true rfl⟩ ⟨rfl, rfl⟩ ⟨Nat.zero_le _, Nat.zero_le _⟩ (fun H locs hr151 hM12 => ?_)
                  exact r_ireturnM C hM12 hr hlk hr151 h dX11_move_154
                · replace h := ifn cq h
                  refine r_aload_n C dX11_move_122 rfl hl 0 rfl ?_
                  refine r_getR C hM jc11 0 1 dX11_move_123 lk_X11_7 lr_0.1 lr_0.2 rfl rfl (by decide) rfl ?_
                  refine r_bipush C dX11_move_126 rfl ?_
                  refine r_iconst C dX11_move_128 ?_
                  refine r_iload C dX11_move_129 hl 2 rfl ?_
                  replace h := ck_some h
                  obtain ⟨hc13, h⟩ := h
                  refine r_imul C dX11_move_131 ?_
                  replace h := ck_some h
                  obtain ⟨hc14, h⟩ := h
                  refine r_iadd C dX11_move_132 ?_
                  refine r_iload C dX11_move_133 hl 3 rfl ?_
                  replace h := ck_some h
                  obtain ⟨hc15, h⟩ := h
                  refine r_iadd C dX11_move_135 ?_
                  refine r_aload_n C dX11_move_136 rfl hl 0 rfl ?_
                  refine r_getR C hM jc11 49 28 dX11_move_137 lk_X11_96 lr_0.1 lr_0.2 rfl rfl (by decide) rfl ?_
                  refine r_iload C dX11_move_140 hl 3 rfl ?_
                  replace h := ck_some h
                  obtain ⟨hc16, h⟩ := h
                  refine r_iald C hM rfl dX11_move_142 lr_28.1 lr_28.2 hc16 hx6 ?_
                  replace h := ck_some h
                  obtain ⟨hc17, h⟩ := h
                  refine r_iast C hM dX11_move_143 lr_1.1 lr_1.2 hc17 hc15 (hM.ok _ _) (fun H locs hM18 => ?_)
                  replace h := lt_some h
                  obtain ⟨N19, eN19, h⟩ := h
                  rw [← eN19] at hM18
                  replace h := ck_some h
                  obtain ⟨hc20, h⟩ := h
                  refine r_iinc (j := 3) (x := x6) C [(6, .int (jI (x6 + 1))), (0, .ref (z + 0)), (4, .int (jI y4)), (5, .int (jI y5))] dX11_move_144 hl rfl (by decide) rfl (fun ls hl => ?_)
                  refine r_goto C 113 dX11_move_147 (by decide) ?_
                  exact ih113 _ _ hc20 _ _ _ h hM18 (lv_sub hl [1, 2, 3, 0] rfl)
            rw [← ey5] at h
            have hl := lv_sub (l' := [(0, .ref (z + 0)), (4, .int (jI y4)), (5, .int (jI y5)), (6, .int (jI 0))]) hl [2, 5, 1, 0] (by rw [ey5]; rfl)
            exact hL113 jFuel _ _ ⟨by decide, by decide⟩ _ _ _ h hM10 hl
          · replace h := ifn cq h
            refine r_aload_n C dX11_move_61 rfl hl 0 rfl ?_
            refine r_getR C hM jc11 49 28 dX11_move_62 lk_X11_96 lr_0.1 lr_0.2 rfl rfl (by decide) rfl ?_
            refine r_iload C dX11_move_65 hl 4 rfl ?_
            refine r_aload_n C dX11_move_67 rfl hl 0 rfl ?_
            refine r_getR C hM jc11 0 1 dX11_move_68 lk_X11_7 lr_0.1 lr_0.2 rfl rfl (by decide) rfl ?_
            refine r_bipush C dX11_move_71 rfl ?_
            refine r_iconst C dX11_move_73 ?_
            refine r_iload_n C dX11_move_74 rfl hl 2 rfl ?_
            replace h := ck_some h
            obtain ⟨hc21, h⟩ := h
            refine r_imul C dX11_move_75 ?_
            replace h := ck_some h
            obtain ⟨hc22, h⟩ := h
            refine r_iadd C dX11_move_76 ?_
            refine r_iload C dX11_move_77 hl 4 rfl ?_
            replace h := ck_some h
            obtain ⟨hc23, h⟩ := h
            refine r_iadd C dX11_move_79 ?_
            replace h := ck_some h
            obtain ⟨hc24, h⟩ := h
            refine r_iald C hM rfl dX11_move_80 lr_1.1 lr_1.2 hc24 hc23 ?_
            replace h := ck_some h
            obtain ⟨hc25, h⟩ := h
            refine r_iast C hM dX11_move_81 lr_28.1 lr_28.2 hc25 hx5 (hM.ok _ _) (fun H locs hM26 => ?_)
            replace h := lt_some h
            obtain ⟨N27, eN27, h⟩ := h
            rw [← eN27] at hM26
            replace h := ck_some h
            obtain ⟨hc28, h⟩ := h
            refine r_iinc (j := 4) (x := x5) C [(5, .int (jI (x5 + 1))), (0, .ref (z + 0)), (2, .int (jI x2)), (3, .int (jI y3)), (4, .int (jI y4))] dX11_move_82 hl rfl (by decide) rfl (fun ls hl => ?_)
            refine r_goto C 52 dX11_move_85 (by decide) ?_
            exact ih52 _ _ hc28 _ _ _ h hM26 (lv_sub hl [1, 2, 3, 4, 0] rfl)
      rw [← ey4] at h
      rw [← ey3] at h
      have hl := lv_sub (l' := [(0, .ref (z + 0)), (2, .int (jI x2)), (3, .int (jI y3)), (4, .int (jI y4)), (5, .int (jI 0))]) hl [3, 5, 2, 1, 0] (by rw [ey3, ey4]; rfl)
      exact hL52 jFuel _ _ ⟨by decide, by decide⟩ _ _ _ h hM5 hl
    · replace h := ifp cq h
      refine r_iconst C dX11_move_28 ?_
      exact r_ireturnM C hM2 hr hlk ⟨by decide, by decide⟩ h dX11_move_29
  replace h := jn_some h
  obtain ⟨k21, hk21, h⟩ := h
  have hJ21 : ∀ (_ : Unit), ∀ (H : Heap) (locs : List Loc) (ls : Array Slot), k21 () = some (r, M') → HS E z LyR M sM H locs → lv_has ls 7 [(0, .ref (z + 0)), (1, .int (jI x1)), (2, .int (jI x2))] → W p l e ({ frames := 5, cells := 0, slots := 0, locals := 109 } : Room) sM m (([.ref (z + 0), .int (jI x1), .int (jI x2)] : List Value).toArray) below meth c H locs 0 0 (MQ below (va_Qi (fun (w : Int32) (_ : Unit) => w = jI r ∧ inR r ∧ Mok LyR M') (fun _ t => va_P (eD E) vwCl (Wd (eC E) z LyR M') t.heap) (eA E)) (([.ref (z + 0), .int (jI x1), .int (jI x2)] : List Value).toArray) sM 0 0 (eA E)) (F0 m 21 ls [.ref (z + 0)]) := by
    intro _ H locs ls h hMj21 hl
    subst hk21
    try dsimp only at h
    refine r_iconst C dX11_move_21 ?_
    exact hJ22 _ ⟨by decide, by decide⟩ _ _ _ h hMj21 (lv_sub hl [0, 1, 2] rfl)
  refine r_if_eq C 21 hr3 dX11_move_6 (by decide) (fun cq => ?_) (fun cq => ?_)
  · replace h := ifp cq h
    exact hJ21 () _ _ _ h hM1 (lv_sub hl [0, 1, 2] rfl)
  · replace h := ifn cq h
    refine r_aload_n C dX11_move_9 rfl hl 0 rfl ?_
    refine r_iload_n C dX11_move_10 rfl hl 2 rfl ?_
    replace h := bd_some h
    obtain ⟨r11, hf11, h⟩ := h
    refine r_callI (As := [.int (jI x2)]) (rest := [.ref (z + 0)]) C hM1 (c_X11_isItem l E z hx2 hf11) jy_X11_isItem lk_X11_500 dX11_move_11 (recvW C hM1 jc11 lr_0.1 lr_0.2 rfl) rfl rfl hl.1 (Nat.le_of_ble_eq_true rfl) ⟨Nat.le_of_ble_eq_true rfl, Nat.le_of_ble_eq_true rfl⟩ ⟨rfl, rfl⟩ ⟨Nat.zero_le _, Nat.zero_le _⟩ (fun H locs hr11 hM29 => ?_)
    refine r_if_eq C 21 hr11 dX11_move_14 (by decide) (fun cq => ?_) (fun cq => ?_)
    · replace h := ifp cq h
      exact hJ21 () _ _ _ h hM29 (lv_sub hl [0, 1, 2] rfl)
    · replace h := ifn cq h
      refine r_iconst C dX11_move_17 ?_
      refine r_goto C 22 dX11_move_18 (by decide) ?_
      exact hJ22 _ ⟨by decide, by decide⟩ _ _ _ h hM29 (lv_sub hl [0, 1, 2] rfl)
set_option maxRecDepth 100000 in
set_option maxHeartbeats 4000000 in
theorem c_X11_setWeek (l : Launch) (E : jE) (z : Nat) {x1 : Int} {M M' : Mem} {r : Int} (hx1 : inR x1) (h : f_X11_setWeek x1 M = some (r, M')) : CtI l yX11_setWeek cX11_setWeek 2 (some .int) { frames := 3, cells := 0, slots := 0, locals := 70 } E z LyR [.ref (z + 0), .int (jI x1)] M r M' := by
  refine jm (by decide +kernel) (Nat.le_of_ble_eq_true rfl) ?_
  intro p e sM m below meth c C hM0 hr hlk ls hl
  replace hl : lv_has ls 2 [(0, .ref (z + 0)), (1, .int (jI x1))] := hl
  unfold f_X11_setWeek at h
  refine r_aload_n C dX11_setWeek_0 rfl hl 0 rfl ?_
  refine r_iload_n C dX11_setWeek_1 rfl hl 1 rfl ?_
  refine r_iconst C dX11_setWeek_2 ?_
  refine r_bipush C dX11_setWeek_3 rfl ?_
  replace h := bd_some h
  obtain ⟨r5, hf5, h⟩ := h
  refine r_callSI (As := [.int (jI x1), .int (jI 0), .int (jI 99)]) (rest := [.ref (z + 0)]) C hM0 (c_X11_isIn l E z hx1 ⟨by decide, by decide⟩ ⟨by decide, by decide⟩ hf5) jy_X11_isIn lk_X11_112 dX11_setWeek_5 rfl rfl hl.1 (Nat.le_of_ble_eq_true rfl) ⟨Nat.le_of_ble_eq_true rfl, Nat.le_of_ble_eq_true rfl⟩ ⟨rfl, rfl⟩ ⟨Nat.zero_le _, Nat.zero_le _⟩ (fun H locs hr5 hM1 => ?_)
  replace h := bd_some h
  obtain ⟨⟨r8, M8⟩, hf8, h⟩ := h
  try dsimp only at h
  refine r_callI (As := [.int (jI r5)]) (rest := []) C hM1 (c_X11_goes l E z hr5 hf8) jy_X11_goes lk_X11_239 dX11_setWeek_8 (recvW C hM1 jc11 lr_0.1 lr_0.2 rfl) rfl rfl hl.1 (Nat.le_of_ble_eq_true rfl) ⟨Nat.le_of_ble_eq_true rfl, Nat.le_of_ble_eq_true rfl⟩ ⟨rfl, rfl⟩ ⟨Nat.zero_le _, Nat.zero_le _⟩ (fun H locs hr8 hM2 => ?_)
  refine r_if_ne C 16 hr8 dX11_setWeek_11 (by decide) (fun cq => ?_) (fun cq => ?_)
  · replace h := ifn cq h
    refine r_aload_n C dX11_setWeek_16 rfl hl 0 rfl ?_
    replace h := bd_some h
    obtain ⟨M17, hf17, h⟩ := h
    refine r_callV (As := []) (rest := []) C hM2 (c_X11_begins l E z hf17) jy_X11_begins lk_X11_477 dX11_setWeek_17 (recvW C hM2 jc11 lr_0.1 lr_0.2 rfl) rfl rfl hl.1 (Nat.le_of_ble_eq_true rfl) ⟨Nat.le_of_ble_eq_true rfl, Nat.le_of_ble_eq_true rfl⟩ ⟨rfl, rfl⟩ ⟨Nat.zero_le _, Nat.zero_le _⟩ (fun H locs hM3 => ?_)
    refine r_aload_n C dX11_setWeek_20 rfl hl 0 rfl ?_
    refine r_getR C hM3 jc11 0 1 dX11_setWeek_21 lk_X11_7 lr_0.1 lr_0.2 rfl rfl (by decide) rfl ?_
    refine r_iconst C dX11_setWeek_24 ?_
    refine r_iload_n C dX11_setWeek_25 rfl hl 1 rfl ?_
    refine r_iast C hM3 dX11_setWeek_26 lr_1.1 lr_1.2 (show (0 : Int) ≤ 0 ∧ (0 : Int) < 1062 by decide) ⟨by decide, by decide⟩ hx1 (fun H locs hM4 => ?_)
    replace h := lt_some h
    obtain ⟨N5, eN5, h⟩ := h
    rw [← eN5] at hM4
    refine r_aload_n C dX11_setWeek_27 rfl hl 0 rfl ?_
    refine r_iload_n C dX11_setWeek_28 rfl hl 1 rfl ?_
    replace h := bd_some h
    obtain ⟨r29, hf29, h⟩ := h
    refine r_callI (As := [.int (jI x1)]) (rest := []) C hM4 (c_X11_bannedIn l E z hx1 hf29) jy_X11_bannedIn lk_X11_230 dX11_setWeek_29 (recvW C hM4 jc11 lr_0.1 lr_0.2 rfl) rfl rfl hl.1 (Nat.le_of_ble_eq_true rfl) ⟨Nat.le_of_ble_eq_true rfl, Nat.le_of_ble_eq_true rfl⟩ ⟨rfl, rfl⟩ ⟨Nat.zero_le _, Nat.zero_le _⟩ (fun H locs hr29 hM6 => ?_)
    replace h := bd_some h
    obtain ⟨r32, hf32, h⟩ := h
    refine r_callSI (As := [.int (jI r29)]) (rest := []) C hM6 (c_X11_bits l E z hr29 hf32) jy_X11_bits lk_X11_227 dX11_setWeek_32 rfl rfl hl.1 (Nat.le_of_ble_eq_true rfl) ⟨Nat.le_of_ble_eq_true rfl, Nat.le_of_ble_eq_true rfl⟩ ⟨rfl, rfl⟩ ⟨Nat.zero_le _, Nat.zero_le _⟩ (fun H locs hr32 hM7 => ?_)
    exact r_ireturnM C hM7 hr hlk hr32 h dX11_setWeek_35
  · replace h := ifp cq h
    refine r_iconst C dX11_setWeek_14 ?_
    exact r_ireturnM C hM2 hr hlk ⟨by decide, by decide⟩ h dX11_setWeek_15
set_option maxRecDepth 100000 in
set_option maxHeartbeats 4000000 in
theorem c_X11_setVoice (l : Launch) (E : jE) (z : Nat) {x1 : Int} {x2 : Int} {M M' : Mem} {r : Int} (hx1 : inR x1) (hx2 : inR x2) (h : f_X11_setVoice x1 x2 M = some (r, M')) : CtI l yX11_setVoice cX11_setVoice 3 (some .int) { frames := 4, cells := 0, slots := 0, locals := 89 } E z LyR [.ref (z + 0), .int (jI x1), .int (jI x2)] M r M' := by
  refine jm (by decide +kernel) (Nat.le_of_ble_eq_true rfl) ?_
  intro p e sM m below meth c C hM0 hr hlk ls hl
  replace hl : lv_has ls 3 [(0, .ref (z + 0)), (1, .int (jI x1)), (2, .int (jI x2))] := hl
  unfold f_X11_setVoice at h
  refine r_aload_n C dX11_setVoice_0 rfl hl 0 rfl ?_
  refine r_iload_n C dX11_setVoice_1 rfl hl 1 rfl ?_
  refine r_iconst C dX11_setVoice_2 ?_
  refine r_bipush C dX11_setVoice_3 rfl ?_
  replace h := bd_some h
  obtain ⟨r5, hf5, h⟩ := h
  refine r_callSI (As := [.int (jI x1), .int (jI 1), .int (jI 20)]) (rest := [.ref (z + 0)]) C hM0 (c_X11_isIn l E z hx1 ⟨by decide, by decide⟩ ⟨by decide, by decide⟩ hf5) jy_X11_isIn lk_X11_112 dX11_setVoice_5 rfl rfl hl.1 (Nat.le_of_ble_eq_true rfl) ⟨Nat.le_of_ble_eq_true rfl, Nat.le_of_ble_eq_true rfl⟩ ⟨rfl, rfl⟩ ⟨Nat.zero_le _, Nat.zero_le _⟩ (fun H locs hr5 hM1 => ?_)
  replace h := jn_some h
  obtain ⟨k26, hk26, h⟩ := h
  have hJ26 : ∀ (v26 : Int), inR v26 → ∀ (H : Heap) (locs : List Loc) (ls : Array Slot), k26 v26 = some (r, M') → HS E z LyR M sM H locs → lv_has ls 3 [(0, .ref (z + 0)), (1, .int (jI x1)), (2, .int (jI x2))] → W p l e ({ frames := 4, cells := 0, slots := 0, locals := 89 } : Room) sM m (([.ref (z + 0), .int (jI x1), .int (jI x2)] : List Value).toArray) below meth c H locs 0 0 (MQ below (va_Qi (fun (w : Int32) (_ : Unit) => w = jI r ∧ inR r ∧ Mok LyR M') (fun _ t => va_P (eD E) vwCl (Wd (eC E) z LyR M') t.heap) (eA E)) (([.ref (z + 0), .int (jI x1), .int (jI x2)] : List Value).toArray) sM 0 0 (eA E)) (F0 m 26 ls [.int (jI v26), .ref (z + 0)]) := by
    intro v26 hv26 H locs ls h hMj26 hl
    subst hk26
    try dsimp only at h
    replace h := bd_some h
    obtain ⟨⟨r26, M26⟩, hf26, h⟩ := h
    try dsimp only at h
    refine r_callI (As := [.int (jI v26)]) (rest := []) C hMj26 (c_X11_goes l E z hv26 hf26) jy_X11_goes lk_X11_239 dX11_setVoice_26 (recvW C hMj26 jc11 lr_0.1 lr_0.2 rfl) rfl rfl hl.1 (Nat.le_of_ble_eq_true rfl) ⟨Nat.le_of_ble_eq_true rfl, Nat.le_of_ble_eq_true rfl⟩ ⟨rfl, rfl⟩ ⟨Nat.zero_le _, Nat.zero_le _⟩ (fun H locs hr26 hM2 => ?_)
    refine r_if_ne C 34 hr26 dX11_setVoice_29 (by decide) (fun cq => ?_) (fun cq => ?_)
    · replace h := ifn cq h
      refine r_aload_n C dX11_setVoice_34 rfl hl 0 rfl ?_
      replace h := bd_some h
      obtain ⟨M35, hf35, h⟩ := h
      refine r_callV (As := []) (rest := []) C hM2 (c_X11_begins l E z hf35) jy_X11_begins lk_X11_477 dX11_setVoice_35 (recvW C hM2 jc11 lr_0.1 lr_0.2 rfl) rfl rfl hl.1 (Nat.le_of_ble_eq_true rfl) ⟨Nat.le_of_ble_eq_true rfl, Nat.le_of_ble_eq_true rfl⟩ ⟨rfl, rfl⟩ ⟨Nat.zero_le _, Nat.zero_le _⟩ (fun H locs hM3 => ?_)
      refine r_aload_n C dX11_setVoice_38 rfl hl 0 rfl ?_
      refine r_getR C hM3 jc11 0 1 dX11_setVoice_39 lk_X11_7 lr_0.1 lr_0.2 rfl rfl (by decide) rfl ?_
      refine r_iconst C dX11_setVoice_42 ?_
      refine r_iload_n C dX11_setVoice_43 rfl hl 1 rfl ?_
      refine r_iast C hM3 dX11_setVoice_44 lr_1.1 lr_1.2 (show (0 : Int) ≤ 1 ∧ (1 : Int) < 1062 by decide) ⟨by decide, by decide⟩ hx1 (fun H locs hM4 => ?_)
      replace h := lt_some h
      obtain ⟨N5, eN5, h⟩ := h
      rw [← eN5] at hM4
      refine r_aload_n C dX11_setVoice_45 rfl hl 0 rfl ?_
      refine r_getR C hM4 jc11 0 1 dX11_setVoice_46 lk_X11_7 lr_0.1 lr_0.2 rfl rfl (by decide) rfl ?_
      refine r_iconst C dX11_setVoice_49 ?_
      refine r_iload_n C dX11_setVoice_50 rfl hl 2 rfl ?_
      refine r_iast C hM4 dX11_setVoice_51 lr_1.1 lr_1.2 (show (0 : Int) ≤ 2 ∧ (2 : Int) < 1062 by decide) ⟨by decide, by decide⟩ hx2 (fun H locs hM6 => ?_)
      replace h := lt_some h
      obtain ⟨N7, eN7, h⟩ := h
      rw [← eN7] at hM6
      refine r_aload_n C dX11_setVoice_52 rfl hl 0 rfl ?_
      replace h := bd_some h
      obtain ⟨⟨r53, M53⟩, hf53, h⟩ := h
      try dsimp only at h
      refine r_callI (As := []) (rest := []) C hM6 (c_X11_laysWords l E z hf53) jy_X11_laysWords lk_X11_212 dX11_setVoice_53 (recvW C hM6 jc11 lr_0.1 lr_0.2 rfl) rfl rfl hl.1 (Nat.le_of_ble_eq_true rfl) ⟨Nat.le_of_ble_eq_true rfl, Nat.le_of_ble_eq_true rfl⟩ ⟨rfl, rfl⟩ ⟨Nat.zero_le _, Nat.zero_le _⟩ (fun H locs hr53 hM8 => ?_)
      exact r_ireturnM C hM8 hr hlk hr53 h dX11_setVoice_56
    · replace h := ifp cq h
      refine r_iconst C dX11_setVoice_32 ?_
      exact r_ireturnM C hM2 hr hlk ⟨by decide, by decide⟩ h dX11_setVoice_33
  replace h := jn_some h
  obtain ⟨k25, hk25, h⟩ := h
  have hJ25 : ∀ (_ : Unit), ∀ (H : Heap) (locs : List Loc) (ls : Array Slot), k25 () = some (r, M') → HS E z LyR M sM H locs → lv_has ls 3 [(0, .ref (z + 0)), (1, .int (jI x1)), (2, .int (jI x2))] → W p l e ({ frames := 4, cells := 0, slots := 0, locals := 89 } : Room) sM m (([.ref (z + 0), .int (jI x1), .int (jI x2)] : List Value).toArray) below meth c H locs 0 0 (MQ below (va_Qi (fun (w : Int32) (_ : Unit) => w = jI r ∧ inR r ∧ Mok LyR M') (fun _ t => va_P (eD E) vwCl (Wd (eC E) z LyR M') t.heap) (eA E)) (([.ref (z + 0), .int (jI x1), .int (jI x2)] : List Value).toArray) sM 0 0 (eA E)) (F0 m 25 ls [.ref (z + 0)]) := by
    intro _ H locs ls h hMj25 hl
    subst hk25
    try dsimp only at h
    refine r_iconst C dX11_setVoice_25 ?_
    exact hJ26 _ ⟨by decide, by decide⟩ _ _ _ h hMj25 (lv_sub hl [0, 1, 2] rfl)
  refine r_if_eq C 25 hr5 dX11_setVoice_8 (by decide) (fun cq => ?_) (fun cq => ?_)
  · replace h := ifp cq h
    exact hJ25 () _ _ _ h hM1 (lv_sub hl [0, 1, 2] rfl)
  · replace h := ifn cq h
    refine r_iload_n C dX11_setVoice_11 rfl hl 2 rfl ?_
    refine r_iconst C dX11_setVoice_12 ?_
    refine r_bipush C dX11_setVoice_13 rfl ?_
    replace h := bd_some h
    obtain ⟨r15, hf15, h⟩ := h
    refine r_callSI (As := [.int (jI x2), .int (jI 0), .int (jI 50)]) (rest := [.ref (z + 0)]) C hM1 (c_X11_isIn l E z hx2 ⟨by decide, by decide⟩ ⟨by decide, by decide⟩ hf15) jy_X11_isIn lk_X11_112 dX11_setVoice_15 rfl rfl hl.1 (Nat.le_of_ble_eq_true rfl) ⟨Nat.le_of_ble_eq_true rfl, Nat.le_of_ble_eq_true rfl⟩ ⟨rfl, rfl⟩ ⟨Nat.zero_le _, Nat.zero_le _⟩ (fun H locs hr15 hM9 => ?_)
    refine r_if_eq C 25 hr15 dX11_setVoice_18 (by decide) (fun cq => ?_) (fun cq => ?_)
    · replace h := ifp cq h
      exact hJ25 () _ _ _ h hM9 (lv_sub hl [0, 1, 2] rfl)
    · replace h := ifn cq h
      refine r_iconst C dX11_setVoice_21 ?_
      refine r_goto C 26 dX11_setVoice_22 (by decide) ?_
      exact hJ26 _ ⟨by decide, by decide⟩ _ _ _ h hM9 (lv_sub hl [0, 1, 2] rfl)
set_option maxRecDepth 100000 in
set_option maxHeartbeats 4000000 in
theorem c_X11_setSlack (l : Launch) (E : jE) (z : Nat) {x1 : Int} {M M' : Mem} {r : Int} (hx1 : inR x1) (h : f_X11_setSlack x1 M = some (r, M')) : CtI l yX11_setSlack cX11_setSlack 3 (some .int) { frames := 2, cells := 0, slots := 0, locals := 45 } E z LyR [.ref (z + 0), .int (jI x1)] M r M' := by
  refine jm (by decide +kernel) (Nat.le_of_ble_eq_true rfl) ?_
  intro p e sM m below meth c C hM0 hr hlk ls hl
  replace hl : lv_has ls 3 [(0, .ref (z + 0)), (1, .int (jI x1))] := hl
  unfold f_X11_setSlack at h
  refine r_aload_n C dX11_setSlack_0 rfl hl 0 rfl ?_
  refine r_iload_n C dX11_setSlack_1 rfl hl 1 rfl ?_
  refine r_iconst C dX11_setSlack_2 ?_
  refine r_bipush C dX11_setSlack_3 rfl ?_
  replace h := bd_some h
  obtain ⟨r5, hf5, h⟩ := h
  refine r_callSI (As := [.int (jI x1), .int (jI 0), .int (jI 100)]) (rest := [.ref (z + 0)]) C hM0 (c_X11_isIn l E z hx1 ⟨by decide, by decide⟩ ⟨by decide, by decide⟩ hf5) jy_X11_isIn lk_X11_112 dX11_setSlack_5 rfl rfl hl.1 (Nat.le_of_ble_eq_true rfl) ⟨Nat.le_of_ble_eq_true rfl, Nat.le_of_ble_eq_true rfl⟩ ⟨rfl, rfl⟩ ⟨Nat.zero_le _, Nat.zero_le _⟩ (fun H locs hr5 hM1 => ?_)
  replace h := bd_some h
  obtain ⟨⟨r8, M8⟩, hf8, h⟩ := h
  try dsimp only at h
  refine r_callI (As := [.int (jI r5)]) (rest := []) C hM1 (c_X11_goes l E z hr5 hf8) jy_X11_goes lk_X11_239 dX11_setSlack_8 (recvW C hM1 jc11 lr_0.1 lr_0.2 rfl) rfl rfl hl.1 (Nat.le_of_ble_eq_true rfl) ⟨Nat.le_of_ble_eq_true rfl, Nat.le_of_ble_eq_true rfl⟩ ⟨rfl, rfl⟩ ⟨Nat.zero_le _, Nat.zero_le _⟩ (fun H locs hr8 hM2 => ?_)
  refine r_if_ne C 16 hr8 dX11_setSlack_11 (by decide) (fun cq => ?_) (fun cq => ?_)
  · replace h := ifn cq h
    refine r_aload_n C dX11_setSlack_16 rfl hl 0 rfl ?_
    replace h := bd_some h
    obtain ⟨M17, hf17, h⟩ := h
    refine r_callV (As := []) (rest := []) C hM2 (c_X11_begins l E z hf17) jy_X11_begins lk_X11_477 dX11_setSlack_17 (recvW C hM2 jc11 lr_0.1 lr_0.2 rfl) rfl rfl hl.1 (Nat.le_of_ble_eq_true rfl) ⟨Nat.le_of_ble_eq_true rfl, Nat.le_of_ble_eq_true rfl⟩ ⟨rfl, rfl⟩ ⟨Nat.zero_le _, Nat.zero_le _⟩ (fun H locs hM3 => ?_)
    refine r_aload_n C dX11_setSlack_20 rfl hl 0 rfl ?_
    refine r_getR C hM3 jc11 0 1 dX11_setSlack_21 lk_X11_7 lr_0.1 lr_0.2 rfl rfl (by decide) rfl ?_
    refine r_iconst C dX11_setSlack_24 ?_
    refine r_iald C hM3 rfl dX11_setSlack_25 lr_1.1 lr_1.2 (show (0 : Int) ≤ 4 ∧ (4 : Int) < 1062 by decide) ⟨by decide, by decide⟩ ?_
    refine r_istore_n C [(2, .int (jI (M17 1 (4 : Int).toNat))), (0, .ref (z + 0)), (1, .int (jI x1))] dX11_setSlack_26 rfl hl (by decide) rfl (fun ls hl => ?_)
    refine r_aload_n C dX11_setSlack_27 rfl hl 1 rfl ?_
    refine r_getR C hM3 jc11 0 1 dX11_setSlack_28 lk_X11_7 lr_0.1 lr_0.2 rfl rfl (by decide) rfl ?_
    refine r_iconst C dX11_setSlack_31 ?_
    refine r_iload_n C dX11_setSlack_32 rfl hl 2 rfl ?_
    refine r_iast C hM3 dX11_setSlack_33 lr_1.1 lr_1.2 (show (0 : Int) ≤ 4 ∧ (4 : Int) < 1062 by decide) ⟨by decide, by decide⟩ hx1 (fun H locs hM4 => ?_)
    replace h := lt_some h
    obtain ⟨N5, eN5, h⟩ := h
    rw [← eN5] at hM4
    refine r_iload_n C dX11_setSlack_34 rfl hl 0 rfl ?_
    exact r_ireturnM C hM4 hr hlk (hM3.ok _ _) h dX11_setSlack_35
  · replace h := ifp cq h
    refine r_iconst C dX11_setSlack_14 ?_
    exact r_ireturnM C hM2 hr hlk ⟨by decide, by decide⟩ h dX11_setSlack_15
set_option maxRecDepth 100000 in
set_option maxHeartbeats 4000000 in
theorem c_X11_writes (l : Launch) (E : jE) (z : Nat) {x1 : Int} {M M' : Mem} (hx1 : inR x1) (h : f_X11_writes x1 M = some M') : CtV l yX11_writes cX11_writes 2 none { frames := 0, cells := 0, slots := 0, locals := 0 } E z LyR [.ref (z + 0), .int (jI x1)] M M' := by
  refine jm (by decide +kernel) (Nat.le_of_ble_eq_true rfl) ?_
  intro p e sM m below meth c C hM0 hr hlk ls hl
  replace hl : lv_has ls 2 [(0, .ref (z + 0)), (1, .int (jI x1))] := hl
  unfold f_X11_writes at h
  refine r_aload_n C dX11_writes_0 rfl hl 0 rfl ?_
  refine r_getR C hM0 jc11 50 29 dX11_writes_1 lk_X11_99 lr_0.1 lr_0.2 rfl rfl (by decide) rfl ?_
  refine r_aload_n C dX11_writes_4 rfl hl 0 rfl ?_
  refine r_getI C hM0 jc11 51 rfl dX11_writes_5 lk_X11_509 lr_0.1 lr_0.2 rfl rfl (by decide) rfl ?_
  refine r_iload_n C dX11_writes_8 rfl hl 1 rfl ?_
  replace h := ck_some h
  obtain ⟨hc1, h⟩ := h
  refine r_iast C hM0 dX11_writes_9 lr_29.1 lr_29.2 hc1 (hM0.ok _ _) hx1 (fun H locs hM2 => ?_)
  replace h := lt_some h
  obtain ⟨N3, eN3, h⟩ := h
  rw [← eN3] at hM2
  refine r_aload_n C dX11_writes_10 rfl hl 0 rfl ?_
  refine r_dup C dX11_writes_11 rfl ?_
  refine r_getI C hM2 jc11 51 (rd_skip eN3 (by decide) rfl) dX11_writes_12 lk_X11_509 lr_0.1 lr_0.2 rfl rfl (by decide) rfl ?_
  refine r_iconst C dX11_writes_15 ?_
  replace h := ck_some h
  obtain ⟨hc4, h⟩ := h
  refine r_iadd C dX11_writes_16 ?_
  refine r_putI C hM2 jc11 51 hc4 dX11_writes_17 lk_X11_509 lr_0.1 lr_0.2 rfl rfl (by decide) rfl rfl rfl (Nat.le_of_ble_eq_true rfl) (by decide) (fun H locs hM5 => ?_)
  replace h := lt_some h
  obtain ⟨N6, eN6, h⟩ := h
  rw [← eN6] at hM5
  exact r_return C hM5 hr hlk h dX11_writes_20
set_option maxRecDepth 100000 in
set_option maxHeartbeats 4000000 in
theorem c_X11_writesWord (l : Launch) (E : jE) (z : Nat) {w1 : Nat} {M M' : Mem} (hw1 : w1 < nST) (h : f_X11_writesWord w1 M = some M') : CtV l yX11_writesWord cX11_writesWord 3 none { frames := 6, cells := 0, slots := 0, locals := 300 } E z LyR [.ref (z + 0), .ref (eK E w1)] M M' := by
  refine jm (by decide +kernel) (Nat.le_of_ble_eq_true rfl) ?_
  intro p e sM m below meth c C hM0 hr hlk ls hl
  replace hl : lv_has ls 3 [(0, .ref (z + 0)), (1, .ref (eK E w1))] := hl
  unfold f_X11_writesWord at h
  refine r_iconst C dX11_writesWord_0 ?_
  refine r_istore_n C [(2, .int (jI 0)), (0, .ref (z + 0)), (1, .ref (eK E w1))] dX11_writesWord_1 rfl hl (by decide) rfl (fun ls hl => ?_)
  have hL2 : ∀ n2 : Nat, ∀ (x2 : Int) (M : Mem), inR x2 → ∀ (H : Heap) (locs : List Loc) (ls : Array Slot), f_X11_writesWord_L2 w1 n2  x2 M = some M' → HS E z LyR M sM H locs → lv_has ls 3 [(0, .ref (z + 0)), (1, .ref (eK E w1)), (2, .int (jI x2))] → W p l e ({ frames := 6, cells := 0, slots := 0, locals := 300 } : Room) sM m (([.ref (z + 0), .ref (eK E w1)] : List Value).toArray) below meth c H locs 0 0 (MQ below (va_Qv (fun (_ : Unit) => Mok LyR M') (fun _ t => va_P (eD E) vwCl (Wd (eC E) z LyR M') t.heap) (eA E)) (([.ref (z + 0), .ref (eK E w1)] : List Value).toArray) sM 0 0 (eA E)) (F0 m 2 ls []) := by
    intro n2
    induction n2 with
    | zero =>
      intro x2 M hx2 H locs ls h hM hl
      exact absurd h (by simp [f_X11_writesWord_L2])
    | succ n2 ih2 =>
      intro x2 M hx2 H locs ls h hM hl
      rw [f_X11_writesWord_L2] at h
      refine r_iload_n C dX11_writesWord_2 rfl hl 2 rfl ?_
      refine r_aload_n C dX11_writesWord_3 rfl hl 1 rfl ?_
      refine r_callI (As := []) (rest := [.int (jI x2)]) C hM (c_len l E z hw1) jy_J0_length_8abf5 lk_X11_284 dX11_writesWord_4 (recvK C hM hw1) rfl rfl hl.1 (Nat.le_of_ble_eq_true rfl) ⟨Nat.le_of_ble_eq_true rfl, Nat.le_of_ble_eq_true rfl⟩ ⟨rfl, rfl⟩ ⟨Nat.zero_le _, Nat.zero_le _⟩ (fun H locs hr4 hM1 => ?_)
      refine r_icmp_ge C 25 hx2 (lenST_R _) dX11_writesWord_7 (by decide) (fun cq => ?_) (fun cq => ?_)
      · replace h := ifp cq h
        exact r_return C hM1 hr hlk h dX11_writesWord_25
      · replace h := ifn cq h
        refine r_aload_n C dX11_writesWord_10 rfl hl 0 rfl ?_
        refine r_aload_n C dX11_writesWord_11 rfl hl 1 rfl ?_
        refine r_iload_n C dX11_writesWord_12 rfl hl 2 rfl ?_
        replace h := ck_some h
        obtain ⟨hc2, h⟩ := h
        refine r_callI (As := [.int (jI x2)]) (rest := [.ref (z + 0)]) C hM1 (c_char l E z hw1 hx2 hc2) jy_J0_charAt_5068e lk_X11_288 dX11_writesWord_13 (recvK C hM1 hw1) rfl rfl hl.1 (Nat.le_of_ble_eq_true rfl) ⟨Nat.le_of_ble_eq_true rfl, Nat.le_of_ble_eq_true rfl⟩ ⟨rfl, rfl⟩ ⟨Nat.zero_le _, Nat.zero_le _⟩ (fun H locs hr13 hM3 => ?_)
        replace h := bd_some h
        obtain ⟨M16, hf16, h⟩ := h
        refine r_callV (As := [.int (jI (chST w1 x2.toNat))]) (rest := []) C hM3 (c_X11_writes l E z (chST_R _ _) hf16) jy_X11_writes lk_X11_512 dX11_writesWord_16 (recvW C hM3 jc11 lr_0.1 lr_0.2 rfl) rfl rfl hl.1 (Nat.le_of_ble_eq_true rfl) ⟨Nat.le_of_ble_eq_true rfl, Nat.le_of_ble_eq_true rfl⟩ ⟨rfl, rfl⟩ ⟨Nat.zero_le _, Nat.zero_le _⟩ (fun H locs hM4 => ?_)
        replace h := ck_some h
        obtain ⟨hc5, h⟩ := h
        refine r_iinc (j := 2) (x := x2) C [(2, .int (jI (x2 + 1))), (0, .ref (z + 0)), (1, .ref (eK E w1))] dX11_writesWord_19 hl rfl (by decide) rfl (fun ls hl => ?_)
        refine r_goto C 2 dX11_writesWord_22 (by decide) ?_
        exact ih2 _ _ hc5 _ _ _ h hM4 (lv_sub hl [1, 2, 0] rfl)
  exact hL2 jFuel _ _ ⟨by decide, by decide⟩ _ _ _ h hM0 (lv_sub hl [1, 2, 0] rfl)
set_option maxRecDepth 100000 in
set_option maxHeartbeats 4000000 in
theorem c_X11_writesNumber (l : Launch) (E : jE) (z : Nat) {x1 : Int} {M M' : Mem} (hx1 : inR x1) (h : f_X11_writesNumber x1 M = some M') : CtV l yX11_writesNumber cX11_writesNumber 4 none { frames := 1, cells := 0, slots := 0, locals := 21 } E z LyR [.ref (z + 0), .int (jI x1)] M M' := by
  refine jm (by decide +kernel) (Nat.le_of_ble_eq_true rfl) ?_
  intro p e sM m below meth c C hM0 hr hlk ls hl
  replace hl : lv_has ls 4 [(0, .ref (z + 0)), (1, .int (jI x1))] := hl
  unfold f_X11_writesNumber at h
  refine r_iconst C dX11_writesNumber_0 ?_
  refine r_istore_n C [(2, .int (jI 1)), (0, .ref (z + 0)), (1, .int (jI x1))] dX11_writesNumber_1 rfl hl (by decide) rfl (fun ls hl => ?_)
  have hL2 : ∀ n2 : Nat, ∀ (x2 : Int) (M : Mem), inR x2 → ∀ (H : Heap) (locs : List Loc) (ls : Array Slot), f_X11_writesNumber_L2 x1 n2  x2 M = some M' → HS E z LyR M sM H locs → lv_has ls 4 [(0, .ref (z + 0)), (1, .int (jI x1)), (2, .int (jI x2))] → W p l e ({ frames := 1, cells := 0, slots := 0, locals := 21 } : Room) sM m (([.ref (z + 0), .int (jI x1)] : List Value).toArray) below meth c H locs 0 0 (MQ below (va_Qv (fun (_ : Unit) => Mok LyR M') (fun _ t => va_P (eD E) vwCl (Wd (eC E) z LyR M') t.heap) (eA E)) (([.ref (z + 0), .int (jI x1)] : List Value).toArray) sM 0 0 (eA E)) (F0 m 2 ls []) := by
    intro n2
    induction n2 with
    | zero =>
      intro x2 M hx2 H locs ls h hM hl
      exact absurd h (by simp [f_X11_writesNumber_L2])
    | succ n2 ih2 =>
      intro x2 M hx2 H locs ls h hM hl
      rw [f_X11_writesNumber_L2] at h
      refine r_iload_n C dX11_writesNumber_2 rfl hl 1 rfl ?_
      refine r_iload_n C dX11_writesNumber_3 rfl hl 2 rfl ?_
      replace h := ck_some h
      obtain ⟨hc1, h⟩ := h
      refine r_idiv C hx2 hc1 dX11_writesNumber_4 ?_
      refine r_bipush C dX11_writesNumber_5 rfl ?_
      refine r_icmp_le C 18 (idiv_R _ _) ⟨by decide, by decide⟩ dX11_writesNumber_7 (by decide) (fun cq => ?_) (fun cq => ?_)
      · replace h := ifp cq h
        refine r_iload_n C dX11_writesNumber_18 rfl hl 2 rfl ?_
        refine r_istore_n C [(3, .int (jI x2)), (0, .ref (z + 0)), (1, .int (jI x1)), (2, .int (jI x2))] dX11_writesNumber_19 rfl hl (by decide) rfl (fun ls hl => ?_)
        have hL20 : ∀ n20 : Nat, ∀ (x3 : Int) (M : Mem), inR x3 → ∀ (H : Heap) (locs : List Loc) (ls : Array Slot), f_X11_writesNumber_L20 x1 n20  x3 M = some M' → HS E z LyR M sM H locs → lv_has ls 4 [(0, .ref (z + 0)), (1, .int (jI x1)), (3, .int (jI x3))] → W p l e ({ frames := 1, cells := 0, slots := 0, locals := 21 } : Room) sM m (([.ref (z + 0), .int (jI x1)] : List Value).toArray) below meth c H locs 0 0 (MQ below (va_Qv (fun (_ : Unit) => Mok LyR M') (fun _ t => va_P (eD E) vwCl (Wd (eC E) z LyR M') t.heap) (eA E)) (([.ref (z + 0), .int (jI x1)] : List Value).toArray) sM 0 0 (eA E)) (F0 m 20 ls []) := by
          intro n20
          induction n20 with
          | zero =>
            intro x3 M hx3 H locs ls h hM hl
            exact absurd h (by simp [f_X11_writesNumber_L20])
          | succ n20 ih20 =>
            intro x3 M hx3 H locs ls h hM hl
            rw [f_X11_writesNumber_L20] at h
            refine r_iload_n C dX11_writesNumber_20 rfl hl 2 rfl ?_
            refine r_if_le C 45 hx3 dX11_writesNumber_21 (by decide) (fun cq => ?_) (fun cq => ?_)
            · replace h := ifp cq h
              exact r_return C hM hr hlk h dX11_writesNumber_45
            · replace h := ifn cq h
              refine r_aload_n C dX11_writesNumber_24 rfl hl 0 rfl ?_
              refine r_bipush C dX11_writesNumber_25 rfl ?_
              refine r_iload_n C dX11_writesNumber_27 rfl hl 1 rfl ?_
              refine r_iload_n C dX11_writesNumber_28 rfl hl 2 rfl ?_
              replace h := ck_some h
              obtain ⟨hc2, h⟩ := h
              refine r_idiv C hx3 hc2 dX11_writesNumber_29 ?_
              refine r_bipush C dX11_writesNumber_30 rfl ?_
              refine r_irem C ⟨by decide, by decide⟩ (by decide) dX11_writesNumber_32 ?_
              replace h := ck_some h
              obtain ⟨hc3, h⟩ := h
              refine r_iadd C dX11_writesNumber_33 ?_
              replace h := bd_some h
              obtain ⟨M34, hf34, h⟩ := h
              refine r_callV (As := [.int (jI (48 + (irem (idiv x1 x3) 10)))]) (rest := []) C hM (c_X11_writes l E z hc3 hf34) jy_X11_writes lk_X11_512 dX11_writesNumber_34 (recvW C hM jc11 lr_0.1 lr_0.2 rfl) rfl rfl hl.1 (Nat.le_of_ble_eq_true rfl) ⟨Nat.le_of_ble_eq_true rfl, Nat.le_of_ble_eq_true rfl⟩ ⟨rfl, rfl⟩ ⟨Nat.zero_le _, Nat.zero_le _⟩ (fun H locs hM4 => ?_)
              refine r_iload_n C dX11_writesNumber_37 rfl hl 2 rfl ?_
              refine r_bipush C dX11_writesNumber_38 rfl ?_
              refine r_idiv C ⟨by decide, by decide⟩ (by decide) dX11_writesNumber_40 ?_
              refine r_istore_n C [(3, .int (jI (idiv x3 10))), (0, .ref (z + 0)), (1, .int (jI x1))] dX11_writesNumber_41 rfl hl (by decide) rfl (fun ls hl => ?_)
              refine r_goto C 20 dX11_writesNumber_42 (by decide) ?_
              exact ih20 _ _ (idiv_R _ _) _ _ _ h hM4 (lv_sub hl [1, 2, 0] rfl)
        exact hL20 jFuel _ _ hx2 _ _ _ h hM (lv_sub hl [1, 2, 0] rfl)
      · replace h := ifn cq h
        refine r_iload_n C dX11_writesNumber_10 rfl hl 2 rfl ?_
        refine r_bipush C dX11_writesNumber_11 rfl ?_
        replace h := ck_some h
        obtain ⟨hc5, h⟩ := h
        refine r_imul C dX11_writesNumber_13 ?_
        refine r_istore_n C [(2, .int (jI (x2 * 10))), (0, .ref (z + 0)), (1, .int (jI x1))] dX11_writesNumber_14 rfl hl (by decide) rfl (fun ls hl => ?_)
        refine r_goto C 2 dX11_writesNumber_15 (by decide) ?_
        exact ih2 _ _ hc5 _ _ _ h hM (lv_sub hl [1, 2, 0] rfl)
  exact hL2 jFuel _ _ ⟨by decide, by decide⟩ _ _ _ h hM0 (lv_sub hl [1, 2, 0] rfl)
set_option maxRecDepth 100000 in
set_option maxHeartbeats 4000000 in
theorem c_X11_writesCut (l : Launch) (E : jE) (z : Nat) {x1 : Int} {M M' : Mem} (hx1 : inR x1) (h : f_X11_writesCut x1 M = some M') : CtV l yX11_writesCut cX11_writesCut 2 none { frames := 7, cells := 0, slots := 0, locals := 322 } E z LyR [.ref (z + 0), .int (jI x1)] M M' := by
  refine jm (by decide +kernel) (Nat.le_of_ble_eq_true rfl) ?_
  intro p e sM m below meth c C hM0 hr hlk ls hl
  replace hl : lv_has ls 2 [(0, .ref (z + 0)), (1, .int (jI x1))] := hl
  unfold f_X11_writesCut at h
  refine r_aload_n C dX11_writesCut_0 rfl hl 0 rfl ?_
  refine r_ldcSW (i := 12) C (List.mem_of_getElem? (i := 36) rfl) dX11_writesCut_1 ?_
  replace h := bd_some h
  obtain ⟨M4, hf4, h⟩ := h
  refine r_callV (As := [.ref (eK E 12)]) (rest := []) C hM0 (c_X11_writesWord l E z (show 12 < nST by decide) hf4) jy_X11_writesWord lk_X11_517 dX11_writesCut_4 (recvW C hM0 jc11 lr_0.1 lr_0.2 rfl) rfl rfl hl.1 (Nat.le_of_ble_eq_true rfl) ⟨Nat.le_of_ble_eq_true rfl, Nat.le_of_ble_eq_true rfl⟩ ⟨rfl, rfl⟩ ⟨Nat.zero_le _, Nat.zero_le _⟩ (fun H locs hM1 => ?_)
  refine r_aload_n C dX11_writesCut_7 rfl hl 0 rfl ?_
  refine r_aload_n C dX11_writesCut_8 rfl hl 0 rfl ?_
  refine r_iload_n C dX11_writesCut_9 rfl hl 1 rfl ?_
  refine r_iconst C dX11_writesCut_10 ?_
  replace h := bd_some h
  obtain ⟨r11, hf11, h⟩ := h
  refine r_callI (As := [.int (jI x1), .int (jI 1)]) (rest := [.ref (z + 0)]) C hM1 (c_X11_r l E z hx1 ⟨by decide, by decide⟩ hf11) jy_X11_r lk_X11_129 dX11_writesCut_11 (recvW C hM1 jc11 lr_0.1 lr_0.2 rfl) rfl rfl hl.1 (Nat.le_of_ble_eq_true rfl) ⟨Nat.le_of_ble_eq_true rfl, Nat.le_of_ble_eq_true rfl⟩ ⟨rfl, rfl⟩ ⟨Nat.zero_le _, Nat.zero_le _⟩ (fun H locs hr11 hM2 => ?_)
  replace h := bd_some h
  obtain ⟨M14, hf14, h⟩ := h
  refine r_callV (As := [.int (jI r11)]) (rest := []) C hM2 (c_X11_writesNumber l E z hr11 hf14) jy_X11_writesNumber lk_X11_520 dX11_writesCut_14 (recvW C hM2 jc11 lr_0.1 lr_0.2 rfl) rfl rfl hl.1 (Nat.le_of_ble_eq_true rfl) ⟨Nat.le_of_ble_eq_true rfl, Nat.le_of_ble_eq_true rfl⟩ ⟨rfl, rfl⟩ ⟨Nat.zero_le _, Nat.zero_le _⟩ (fun H locs hM3 => ?_)
  refine r_aload_n C dX11_writesCut_17 rfl hl 0 rfl ?_
  refine r_iload_n C dX11_writesCut_18 rfl hl 1 rfl ?_
  refine r_iconst C dX11_writesCut_19 ?_
  replace h := bd_some h
  obtain ⟨r20, hf20, h⟩ := h
  refine r_callI (As := [.int (jI x1), .int (jI 2)]) (rest := []) C hM3 (c_X11_r l E z hx1 ⟨by decide, by decide⟩ hf20) jy_X11_r lk_X11_129 dX11_writesCut_20 (recvW C hM3 jc11 lr_0.1 lr_0.2 rfl) rfl rfl hl.1 (Nat.le_of_ble_eq_true rfl) ⟨Nat.le_of_ble_eq_true rfl, Nat.le_of_ble_eq_true rfl⟩ ⟨rfl, rfl⟩ ⟨Nat.zero_le _, Nat.zero_le _⟩ (fun H locs hr20 hM4 => ?_)
  replace h := jn_some h
  obtain ⟨k47, hk47, h⟩ := h
  have hJ47 : ∀ (_ : Unit), ∀ (H : Heap) (locs : List Loc) (ls : Array Slot), k47 () = some M' → HS E z LyR M14 sM H locs → lv_has ls 2 [(0, .ref (z + 0)), (1, .int (jI x1))] → W p l e ({ frames := 7, cells := 0, slots := 0, locals := 322 } : Room) sM m (([.ref (z + 0), .int (jI x1)] : List Value).toArray) below meth c H locs 0 0 (MQ below (va_Qv (fun (_ : Unit) => Mok LyR M') (fun _ t => va_P (eD E) vwCl (Wd (eC E) z LyR M') t.heap) (eA E)) (([.ref (z + 0), .int (jI x1)] : List Value).toArray) sM 0 0 (eA E)) (F0 m 47 ls []) := by
    intro _ H locs ls h hMj47 hl
    subst hk47
    try dsimp only at h
    refine r_aload_n C dX11_writesCut_47 rfl hl 0 rfl ?_
    refine r_ldcSW (i := 16) C (List.mem_of_getElem? (i := 37) rfl) dX11_writesCut_48 ?_
    replace h := bd_some h
    obtain ⟨M51, hf51, h⟩ := h
    refine r_callV (As := [.ref (eK E 16)]) (rest := []) C hMj47 (c_X11_writesWord l E z (show 16 < nST by decide) hf51) jy_X11_writesWord lk_X11_517 dX11_writesCut_51 (recvW C hMj47 jc11 lr_0.1 lr_0.2 rfl) rfl rfl hl.1 (Nat.le_of_ble_eq_true rfl) ⟨Nat.le_of_ble_eq_true rfl, Nat.le_of_ble_eq_true rfl⟩ ⟨rfl, rfl⟩ ⟨Nat.zero_le _, Nat.zero_le _⟩ (fun H locs hM5 => ?_)
    refine r_aload_n C dX11_writesCut_54 rfl hl 0 rfl ?_
    refine r_aload_n C dX11_writesCut_55 rfl hl 0 rfl ?_
    refine r_iload_n C dX11_writesCut_56 rfl hl 1 rfl ?_
    refine r_iconst C dX11_writesCut_57 ?_
    replace h := bd_some h
    obtain ⟨r58, hf58, h⟩ := h
    refine r_callI (As := [.int (jI x1), .int (jI 2)]) (rest := [.ref (z + 0)]) C hM5 (c_X11_r l E z hx1 ⟨by decide, by decide⟩ hf58) jy_X11_r lk_X11_129 dX11_writesCut_58 (recvW C hM5 jc11 lr_0.1 lr_0.2 rfl) rfl rfl hl.1 (Nat.le_of_ble_eq_true rfl) ⟨Nat.le_of_ble_eq_true rfl, Nat.le_of_ble_eq_true rfl⟩ ⟨rfl, rfl⟩ ⟨Nat.zero_le _, Nat.zero_le _⟩ (fun H locs hr58 hM6 => ?_)
    replace h := bd_some h
    obtain ⟨M61, hf61, h⟩ := h
    refine r_callV (As := [.int (jI r58)]) (rest := []) C hM6 (c_X11_writesNumber l E z hr58 hf61) jy_X11_writesNumber lk_X11_520 dX11_writesCut_61 (recvW C hM6 jc11 lr_0.1 lr_0.2 rfl) rfl rfl hl.1 (Nat.le_of_ble_eq_true rfl) ⟨Nat.le_of_ble_eq_true rfl, Nat.le_of_ble_eq_true rfl⟩ ⟨rfl, rfl⟩ ⟨Nat.zero_le _, Nat.zero_le _⟩ (fun H locs hM7 => ?_)
    refine r_aload_n C dX11_writesCut_64 rfl hl 0 rfl ?_
    refine r_ldcSW (i := 17) C (List.mem_of_getElem? (i := 38) rfl) dX11_writesCut_65 ?_
    replace h := bd_some h
    obtain ⟨M68, hf68, h⟩ := h
    refine r_callV (As := [.ref (eK E 17)]) (rest := []) C hM7 (c_X11_writesWord l E z (show 17 < nST by decide) hf68) jy_X11_writesWord lk_X11_517 dX11_writesCut_68 (recvW C hM7 jc11 lr_0.1 lr_0.2 rfl) rfl rfl hl.1 (Nat.le_of_ble_eq_true rfl) ⟨Nat.le_of_ble_eq_true rfl, Nat.le_of_ble_eq_true rfl⟩ ⟨rfl, rfl⟩ ⟨Nat.zero_le _, Nat.zero_le _⟩ (fun H locs hM8 => ?_)
    refine r_aload_n C dX11_writesCut_71 rfl hl 0 rfl ?_
    refine r_aload_n C dX11_writesCut_72 rfl hl 0 rfl ?_
    refine r_iload_n C dX11_writesCut_73 rfl hl 1 rfl ?_
    refine r_iconst C dX11_writesCut_74 ?_
    replace h := bd_some h
    obtain ⟨r75, hf75, h⟩ := h
    refine r_callI (As := [.int (jI x1), .int (jI 3)]) (rest := [.ref (z + 0)]) C hM8 (c_X11_r l E z hx1 ⟨by decide, by decide⟩ hf75) jy_X11_r lk_X11_129 dX11_writesCut_75 (recvW C hM8 jc11 lr_0.1 lr_0.2 rfl) rfl rfl hl.1 (Nat.le_of_ble_eq_true rfl) ⟨Nat.le_of_ble_eq_true rfl, Nat.le_of_ble_eq_true rfl⟩ ⟨rfl, rfl⟩ ⟨Nat.zero_le _, Nat.zero_le _⟩ (fun H locs hr75 hM9 => ?_)
    replace h := bd_some h
    obtain ⟨M78, hf78, h⟩ := h
    refine r_callV (As := [.int (jI r75)]) (rest := []) C hM9 (c_X11_writesNumber l E z hr75 hf78) jy_X11_writesNumber lk_X11_520 dX11_writesCut_78 (recvW C hM9 jc11 lr_0.1 lr_0.2 rfl) rfl rfl hl.1 (Nat.le_of_ble_eq_true rfl) ⟨Nat.le_of_ble_eq_true rfl, Nat.le_of_ble_eq_true rfl⟩ ⟨rfl, rfl⟩ ⟨Nat.zero_le _, Nat.zero_le _⟩ (fun H locs hM10 => ?_)
    refine r_aload_n C dX11_writesCut_81 rfl hl 0 rfl ?_
    refine r_bipush C dX11_writesCut_82 rfl ?_
    replace h := bd_some h
    obtain ⟨M84, hf84, h⟩ := h
    refine r_callV (As := [.int (jI 59)]) (rest := []) C hM10 (c_X11_writes l E z ⟨by decide, by decide⟩ hf84) jy_X11_writes lk_X11_512 dX11_writesCut_84 (recvW C hM10 jc11 lr_0.1 lr_0.2 rfl) rfl rfl hl.1 (Nat.le_of_ble_eq_true rfl) ⟨Nat.le_of_ble_eq_true rfl, Nat.le_of_ble_eq_true rfl⟩ ⟨rfl, rfl⟩ ⟨Nat.zero_le _, Nat.zero_le _⟩ (fun H locs hM11 => ?_)
    exact r_return C hM11 hr hlk h dX11_writesCut_87
  refine r_if_gt C 47 hr20 dX11_writesCut_23 (by decide) (fun cq => ?_) (fun cq => ?_)
  · replace h := ifp cq h
    exact hJ47 () _ _ _ h hM4 (lv_sub hl [0, 1] rfl)
  · replace h := ifn cq h
    refine r_aload_n C dX11_writesCut_26 rfl hl 0 rfl ?_
    refine r_iload_n C dX11_writesCut_27 rfl hl 1 rfl ?_
    refine r_iconst C dX11_writesCut_28 ?_
    replace h := bd_some h
    obtain ⟨r29, hf29, h⟩ := h
    refine r_callI (As := [.int (jI x1), .int (jI 3)]) (rest := []) C hM4 (c_X11_r l E z hx1 ⟨by decide, by decide⟩ hf29) jy_X11_r lk_X11_129 dX11_writesCut_29 (recvW C hM4 jc11 lr_0.1 lr_0.2 rfl) rfl rfl hl.1 (Nat.le_of_ble_eq_true rfl) ⟨Nat.le_of_ble_eq_true rfl, Nat.le_of_ble_eq_true rfl⟩ ⟨rfl, rfl⟩ ⟨Nat.zero_le _, Nat.zero_le _⟩ (fun H locs hr29 hM12 => ?_)
    refine r_aload_n C dX11_writesCut_32 rfl hl 0 rfl ?_
    refine r_aload_n C dX11_writesCut_33 rfl hl 0 rfl ?_
    refine r_iload_n C dX11_writesCut_34 rfl hl 1 rfl ?_
    refine r_iconst C dX11_writesCut_35 ?_
    replace h := bd_some h
    obtain ⟨r36, hf36, h⟩ := h
    refine r_callI (As := [.int (jI x1), .int (jI 1)]) (rest := [.ref (z + 0), .int (jI r29)]) C hM12 (c_X11_r l E z hx1 ⟨by decide, by decide⟩ hf36) jy_X11_r lk_X11_129 dX11_writesCut_36 (recvW C hM12 jc11 lr_0.1 lr_0.2 rfl) rfl rfl hl.1 (Nat.le_of_ble_eq_true rfl) ⟨Nat.le_of_ble_eq_true rfl, Nat.le_of_ble_eq_true rfl⟩ ⟨rfl, rfl⟩ ⟨Nat.zero_le _, Nat.zero_le _⟩ (fun H locs hr36 hM13 => ?_)
    replace h := bd_some h
    obtain ⟨r39, hf39, h⟩ := h
    refine r_callI (As := [.int (jI r36)]) (rest := [.int (jI r29)]) C hM13 (c_X11_lengthOf l E z hr36 hf39) jy_X11_lengthOf lk_X11_218 dX11_writesCut_39 (recvW C hM13 jc11 lr_0.1 lr_0.2 rfl) rfl rfl hl.1 (Nat.le_of_ble_eq_true rfl) ⟨Nat.le_of_ble_eq_true rfl, Nat.le_of_ble_eq_true rfl⟩ ⟨rfl, rfl⟩ ⟨Nat.zero_le _, Nat.zero_le _⟩ (fun H locs hr39 hM14 => ?_)
    refine r_iconst C dX11_writesCut_42 ?_
    replace h := ck_some h
    obtain ⟨hc15, h⟩ := h
    refine r_isub C dX11_writesCut_43 ?_
    refine r_icmp_ge C 81 hr29 hc15 dX11_writesCut_44 (by decide) (fun cq => ?_) (fun cq => ?_)
    · replace h := ifp cq h
      refine r_aload_n C dX11_writesCut_81 rfl hl 0 rfl ?_
      refine r_bipush C dX11_writesCut_82 rfl ?_
      replace h := bd_some h
      obtain ⟨M84, hf84, h⟩ := h
      refine r_callV (As := [.int (jI 59)]) (rest := []) C hM14 (c_X11_writes l E z ⟨by decide, by decide⟩ hf84) jy_X11_writes lk_X11_512 dX11_writesCut_84 (recvW C hM14 jc11 lr_0.1 lr_0.2 rfl) rfl rfl hl.1 (Nat.le_of_ble_eq_true rfl) ⟨Nat.le_of_ble_eq_true rfl, Nat.le_of_ble_eq_true rfl⟩ ⟨rfl, rfl⟩ ⟨Nat.zero_le _, Nat.zero_le _⟩ (fun H locs hM16 => ?_)
      exact r_return C hM16 hr hlk h dX11_writesCut_87
    · replace h := ifn cq h
      exact hJ47 () _ _ _ h hM14 (lv_sub hl [0, 1] rfl)
set_option maxRecDepth 100000 in
set_option maxHeartbeats 4000000 in
theorem c_X11_writesRow (l : Launch) (E : jE) (z : Nat) {x1 : Int} {M M' : Mem} (hx1 : inR x1) (h : f_X11_writesRow x1 M = some M') : CtV l yX11_writesRow cX11_writesRow 2 none { frames := 8, cells := 0, slots := 0, locals := 343 } E z LyR [.ref (z + 0), .int (jI x1)] M M' := by
  refine jm (by decide +kernel) (Nat.le_of_ble_eq_true rfl) ?_
  intro p e sM m below meth c C hM0 hr hlk ls hl
  replace hl : lv_has ls 2 [(0, .ref (z + 0)), (1, .int (jI x1))] := hl
  unfold f_X11_writesRow at h
  refine r_aload_n C dX11_writesRow_0 rfl hl 0 rfl ?_
  refine r_iload_n C dX11_writesRow_1 rfl hl 1 rfl ?_
  refine r_iconst C dX11_writesRow_2 ?_
  replace h := bd_some h
  obtain ⟨r3, hf3, h⟩ := h
  refine r_callI (As := [.int (jI x1), .int (jI 0)]) (rest := []) C hM0 (c_X11_r l E z hx1 ⟨by decide, by decide⟩ hf3) jy_X11_r lk_X11_129 dX11_writesRow_3 (recvW C hM0 jc11 lr_0.1 lr_0.2 rfl) rfl rfl hl.1 (Nat.le_of_ble_eq_true rfl) ⟨Nat.le_of_ble_eq_true rfl, Nat.le_of_ble_eq_true rfl⟩ ⟨rfl, rfl⟩ ⟨Nat.zero_le _, Nat.zero_le _⟩ (fun H locs hr3 hM1 => ?_)
  by_cases cq : r3 = 0
  · replace h := ifp cq h
    refine r_table C 40 hr3 dX11_writesRow_6 (by decide) (by rw [cq]; rfl) ?_
    refine r_aload_n C dX11_writesRow_40 rfl hl 0 rfl ?_
    refine r_iload_n C dX11_writesRow_41 rfl hl 1 rfl ?_
    replace h := bd_some h
    obtain ⟨M42, hf42, h⟩ := h
    refine r_callV (As := [.int (jI x1)]) (rest := []) C hM1 (c_X11_writesCut l E z hx1 hf42) jy_X11_writesCut lk_X11_527 dX11_writesRow_42 (recvW C hM1 jc11 lr_0.1 lr_0.2 rfl) rfl rfl hl.1 (Nat.le_of_ble_eq_true rfl) ⟨Nat.le_of_ble_eq_true rfl, Nat.le_of_ble_eq_true rfl⟩ ⟨rfl, rfl⟩ ⟨Nat.zero_le _, Nat.zero_le _⟩ (fun H locs hM2 => ?_)
    refine r_goto C 139 dX11_writesRow_45 (by decide) ?_
    exact r_return C hM2 hr hlk h dX11_writesRow_139
  · replace h := ifn cq h
    have c6_0 := cq
    by_cases cq : r3 = 1
    · replace h := ifp cq h
      refine r_table C 48 hr3 dX11_writesRow_6 (by decide) (by rw [cq]; rfl) ?_
      refine r_aload_n C dX11_writesRow_48 rfl hl 0 rfl ?_
      refine r_ldcSW (i := 13) C (List.mem_of_getElem? (i := 39) rfl) dX11_writesRow_49 ?_
      replace h := bd_some h
      obtain ⟨M52, hf52, h⟩ := h
      refine r_callV (As := [.ref (eK E 13)]) (rest := []) C hM1 (c_X11_writesWord l E z (show 13 < nST by decide) hf52) jy_X11_writesWord lk_X11_517 dX11_writesRow_52 (recvW C hM1 jc11 lr_0.1 lr_0.2 rfl) rfl rfl hl.1 (Nat.le_of_ble_eq_true rfl) ⟨Nat.le_of_ble_eq_true rfl, Nat.le_of_ble_eq_true rfl⟩ ⟨rfl, rfl⟩ ⟨Nat.zero_le _, Nat.zero_le _⟩ (fun H locs hM3 => ?_)
      refine r_aload_n C dX11_writesRow_55 rfl hl 0 rfl ?_
      refine r_aload_n C dX11_writesRow_56 rfl hl 0 rfl ?_
      refine r_iload_n C dX11_writesRow_57 rfl hl 1 rfl ?_
      refine r_iconst C dX11_writesRow_58 ?_
      replace h := bd_some h
      obtain ⟨r59, hf59, h⟩ := h
      refine r_callI (As := [.int (jI x1), .int (jI 1)]) (rest := [.ref (z + 0)]) C hM3 (c_X11_r l E z hx1 ⟨by decide, by decide⟩ hf59) jy_X11_r lk_X11_129 dX11_writesRow_59 (recvW C hM3 jc11 lr_0.1 lr_0.2 rfl) rfl rfl hl.1 (Nat.le_of_ble_eq_true rfl) ⟨Nat.le_of_ble_eq_true rfl, Nat.le_of_ble_eq_true rfl⟩ ⟨rfl, rfl⟩ ⟨Nat.zero_le _, Nat.zero_le _⟩ (fun H locs hr59 hM4 => ?_)
      replace h := bd_some h
      obtain ⟨M62, hf62, h⟩ := h
      refine r_callV (As := [.int (jI r59)]) (rest := []) C hM4 (c_X11_writesNumber l E z hr59 hf62) jy_X11_writesNumber lk_X11_520 dX11_writesRow_62 (recvW C hM4 jc11 lr_0.1 lr_0.2 rfl) rfl rfl hl.1 (Nat.le_of_ble_eq_true rfl) ⟨Nat.le_of_ble_eq_true rfl, Nat.le_of_ble_eq_true rfl⟩ ⟨rfl, rfl⟩ ⟨Nat.zero_le _, Nat.zero_le _⟩ (fun H locs hM5 => ?_)
      refine r_aload_n C dX11_writesRow_65 rfl hl 0 rfl ?_
      refine r_bipush C dX11_writesRow_66 rfl ?_
      replace h := bd_some h
      obtain ⟨M68, hf68, h⟩ := h
      refine r_callV (As := [.int (jI 32)]) (rest := []) C hM5 (c_X11_writes l E z ⟨by decide, by decide⟩ hf68) jy_X11_writes lk_X11_512 dX11_writesRow_68 (recvW C hM5 jc11 lr_0.1 lr_0.2 rfl) rfl rfl hl.1 (Nat.le_of_ble_eq_true rfl) ⟨Nat.le_of_ble_eq_true rfl, Nat.le_of_ble_eq_true rfl⟩ ⟨rfl, rfl⟩ ⟨Nat.zero_le _, Nat.zero_le _⟩ (fun H locs hM6 => ?_)
      refine r_aload_n C dX11_writesRow_71 rfl hl 0 rfl ?_
      refine r_aload_n C dX11_writesRow_72 rfl hl 0 rfl ?_
      refine r_iload_n C dX11_writesRow_73 rfl hl 1 rfl ?_
      refine r_iconst C dX11_writesRow_74 ?_
      replace h := bd_some h
      obtain ⟨r75, hf75, h⟩ := h
      refine r_callI (As := [.int (jI x1), .int (jI 2)]) (rest := [.ref (z + 0)]) C hM6 (c_X11_r l E z hx1 ⟨by decide, by decide⟩ hf75) jy_X11_r lk_X11_129 dX11_writesRow_75 (recvW C hM6 jc11 lr_0.1 lr_0.2 rfl) rfl rfl hl.1 (Nat.le_of_ble_eq_true rfl) ⟨Nat.le_of_ble_eq_true rfl, Nat.le_of_ble_eq_true rfl⟩ ⟨rfl, rfl⟩ ⟨Nat.zero_le _, Nat.zero_le _⟩ (fun H locs hr75 hM7 => ?_)
      replace h := bd_some h
      obtain ⟨M78, hf78, h⟩ := h
      refine r_callV (As := [.int (jI r75)]) (rest := []) C hM7 (c_X11_writesNumber l E z hr75 hf78) jy_X11_writesNumber lk_X11_520 dX11_writesRow_78 (recvW C hM7 jc11 lr_0.1 lr_0.2 rfl) rfl rfl hl.1 (Nat.le_of_ble_eq_true rfl) ⟨Nat.le_of_ble_eq_true rfl, Nat.le_of_ble_eq_true rfl⟩ ⟨rfl, rfl⟩ ⟨Nat.zero_le _, Nat.zero_le _⟩ (fun H locs hM8 => ?_)
      refine r_aload_n C dX11_writesRow_81 rfl hl 0 rfl ?_
      refine r_bipush C dX11_writesRow_82 rfl ?_
      replace h := bd_some h
      obtain ⟨M84, hf84, h⟩ := h
      refine r_callV (As := [.int (jI 59)]) (rest := []) C hM8 (c_X11_writes l E z ⟨by decide, by decide⟩ hf84) jy_X11_writes lk_X11_512 dX11_writesRow_84 (recvW C hM8 jc11 lr_0.1 lr_0.2 rfl) rfl rfl hl.1 (Nat.le_of_ble_eq_true rfl) ⟨Nat.le_of_ble_eq_true rfl, Nat.le_of_ble_eq_true rfl⟩ ⟨rfl, rfl⟩ ⟨Nat.zero_le _, Nat.zero_le _⟩ (fun H locs hM9 => ?_)
      refine r_goto C 139 dX11_writesRow_87 (by decide) ?_
      exact r_return C hM9 hr hlk h dX11_writesRow_139
    · replace h := ifn cq h
      have c6_1 := cq
      by_cases cq : r3 = 4
      · replace h := ifp cq h
        refine r_table C 90 hr3 dX11_writesRow_6 (by decide) (by rw [cq]; rfl) ?_
        refine r_aload_n C dX11_writesRow_90 rfl hl 0 rfl ?_
        refine r_ldcSW (i := 22) C (List.mem_of_getElem? (i := 40) rfl) dX11_writesRow_91 ?_
        replace h := bd_some h
        obtain ⟨M94, hf94, h⟩ := h
        refine r_callV (As := [.ref (eK E 22)]) (rest := []) C hM1 (c_X11_writesWord l E z (show 22 < nST by decide) hf94) jy_X11_writesWord lk_X11_517 dX11_writesRow_94 (recvW C hM1 jc11 lr_0.1 lr_0.2 rfl) rfl rfl hl.1 (Nat.le_of_ble_eq_true rfl) ⟨Nat.le_of_ble_eq_true rfl, Nat.le_of_ble_eq_true rfl⟩ ⟨rfl, rfl⟩ ⟨Nat.zero_le _, Nat.zero_le _⟩ (fun H locs hM10 => ?_)
        refine r_goto C 139 dX11_writesRow_97 (by decide) ?_
        exact r_return C hM10 hr hlk h dX11_writesRow_139
      · replace h := ifn cq h
        have c6_4 := cq
        have cd : jsw 6 0 4 (94) #[(34), (42), (94), (94), (84)] r3 = (100 : Int) := by
          have cz : (r3 < 0 ∨ 4 < r3) ∨ r3 = 2 ∨ r3 = 3 := by omega
          rcases cz with cz | cz | cz
          · unfold jsw; rw [if_pos cz]; rfl
          · rw [cz]; rfl
          · rw [cz]; rfl
        refine r_table C 100 hr3 dX11_writesRow_6 (by decide) cd ?_
        refine r_aload_n C dX11_writesRow_100 rfl hl 0 rfl ?_
        refine r_aload_n C dX11_writesRow_101 rfl hl 0 rfl ?_
        refine r_iload_n C dX11_writesRow_102 rfl hl 1 rfl ?_
        refine r_iconst C dX11_writesRow_103 ?_
        replace h := bd_some h
        obtain ⟨r104, hf104, h⟩ := h
        refine r_callI (As := [.int (jI x1), .int (jI 0)]) (rest := [.ref (z + 0)]) C hM1 (c_X11_r l E z hx1 ⟨by decide, by decide⟩ hf104) jy_X11_r lk_X11_129 dX11_writesRow_104 (recvW C hM1 jc11 lr_0.1 lr_0.2 rfl) rfl rfl hl.1 (Nat.le_of_ble_eq_true rfl) ⟨Nat.le_of_ble_eq_true rfl, Nat.le_of_ble_eq_true rfl⟩ ⟨rfl, rfl⟩ ⟨Nat.zero_le _, Nat.zero_le _⟩ (fun H locs hr104 hM11 => ?_)
        refine r_iconst C dX11_writesRow_107 ?_
        refine r_icmp_ne C 117 hr104 ⟨by decide, by decide⟩ dX11_writesRow_108 (by decide) (fun cq => ?_) (fun cq => ?_)
        · replace h := ifn cq h
          refine r_ldcSW (i := 15) C (List.mem_of_getElem? (i := 42) rfl) dX11_writesRow_117 ?_
          replace h := bd_some h
          obtain ⟨M120, hf120, h⟩ := h
          refine r_callV (As := [.ref (eK E 15)]) (rest := []) C hM11 (c_X11_writesWord l E z (show 15 < nST by decide) hf120) jy_X11_writesWord lk_X11_517 dX11_writesRow_120 (recvW C hM11 jc11 lr_0.1 lr_0.2 rfl) rfl rfl hl.1 (Nat.le_of_ble_eq_true rfl) ⟨Nat.le_of_ble_eq_true rfl, Nat.le_of_ble_eq_true rfl⟩ ⟨rfl, rfl⟩ ⟨Nat.zero_le _, Nat.zero_le _⟩ (fun H locs hM12 => ?_)
          refine r_aload_n C dX11_writesRow_123 rfl hl 0 rfl ?_
          refine r_aload_n C dX11_writesRow_124 rfl hl 0 rfl ?_
          refine r_iload_n C dX11_writesRow_125 rfl hl 1 rfl ?_
          refine r_iconst C dX11_writesRow_126 ?_
          replace h := bd_some h
          obtain ⟨r127, hf127, h⟩ := h
          refine r_callI (As := [.int (jI x1), .int (jI 1)]) (rest := [.ref (z + 0)]) C hM12 (c_X11_r l E z hx1 ⟨by decide, by decide⟩ hf127) jy_X11_r lk_X11_129 dX11_writesRow_127 (recvW C hM12 jc11 lr_0.1 lr_0.2 rfl) rfl rfl hl.1 (Nat.le_of_ble_eq_true rfl) ⟨Nat.le_of_ble_eq_true rfl, Nat.le_of_ble_eq_true rfl⟩ ⟨rfl, rfl⟩ ⟨Nat.zero_le _, Nat.zero_le _⟩ (fun H locs hr127 hM13 => ?_)
          replace h := bd_some h
          obtain ⟨M130, hf130, h⟩ := h
          refine r_callV (As := [.int (jI r127)]) (rest := []) C hM13 (c_X11_writesNumber l E z hr127 hf130) jy_X11_writesNumber lk_X11_520 dX11_writesRow_130 (recvW C hM13 jc11 lr_0.1 lr_0.2 rfl) rfl rfl hl.1 (Nat.le_of_ble_eq_true rfl) ⟨Nat.le_of_ble_eq_true rfl, Nat.le_of_ble_eq_true rfl⟩ ⟨rfl, rfl⟩ ⟨Nat.zero_le _, Nat.zero_le _⟩ (fun H locs hM14 => ?_)
          refine r_aload_n C dX11_writesRow_133 rfl hl 0 rfl ?_
          refine r_bipush C dX11_writesRow_134 rfl ?_
          replace h := bd_some h
          obtain ⟨M136, hf136, h⟩ := h
          refine r_callV (As := [.int (jI 123)]) (rest := []) C hM14 (c_X11_writes l E z ⟨by decide, by decide⟩ hf136) jy_X11_writes lk_X11_512 dX11_writesRow_136 (recvW C hM14 jc11 lr_0.1 lr_0.2 rfl) rfl rfl hl.1 (Nat.le_of_ble_eq_true rfl) ⟨Nat.le_of_ble_eq_true rfl, Nat.le_of_ble_eq_true rfl⟩ ⟨rfl, rfl⟩ ⟨Nat.zero_le _, Nat.zero_le _⟩ (fun H locs hM15 => ?_)
          exact r_return C hM15 hr hlk h dX11_writesRow_139
        · replace h := ifp cq h
          refine r_ldcSW (i := 14) C (List.mem_of_getElem? (i := 41) rfl) dX11_writesRow_111 ?_
          refine r_goto C 120 dX11_writesRow_114 (by decide) ?_
          replace h := bd_some h
          obtain ⟨M120, hf120, h⟩ := h
          refine r_callV (As := [.ref (eK E 14)]) (rest := []) C hM11 (c_X11_writesWord l E z (show 14 < nST by decide) hf120) jy_X11_writesWord lk_X11_517 dX11_writesRow_120 (recvW C hM11 jc11 lr_0.1 lr_0.2 rfl) rfl rfl hl.1 (Nat.le_of_ble_eq_true rfl) ⟨Nat.le_of_ble_eq_true rfl, Nat.le_of_ble_eq_true rfl⟩ ⟨rfl, rfl⟩ ⟨Nat.zero_le _, Nat.zero_le _⟩ (fun H locs hM16 => ?_)
          refine r_aload_n C dX11_writesRow_123 rfl hl 0 rfl ?_
          refine r_aload_n C dX11_writesRow_124 rfl hl 0 rfl ?_
          refine r_iload_n C dX11_writesRow_125 rfl hl 1 rfl ?_
          refine r_iconst C dX11_writesRow_126 ?_
          replace h := bd_some h
          obtain ⟨r127, hf127, h⟩ := h
          refine r_callI (As := [.int (jI x1), .int (jI 1)]) (rest := [.ref (z + 0)]) C hM16 (c_X11_r l E z hx1 ⟨by decide, by decide⟩ hf127) jy_X11_r lk_X11_129 dX11_writesRow_127 (recvW C hM16 jc11 lr_0.1 lr_0.2 rfl) rfl rfl hl.1 (Nat.le_of_ble_eq_true rfl) ⟨Nat.le_of_ble_eq_true rfl, Nat.le_of_ble_eq_true rfl⟩ ⟨rfl, rfl⟩ ⟨Nat.zero_le _, Nat.zero_le _⟩ (fun H locs hr127 hM17 => ?_)
          replace h := bd_some h
          obtain ⟨M130, hf130, h⟩ := h
          refine r_callV (As := [.int (jI r127)]) (rest := []) C hM17 (c_X11_writesNumber l E z hr127 hf130) jy_X11_writesNumber lk_X11_520 dX11_writesRow_130 (recvW C hM17 jc11 lr_0.1 lr_0.2 rfl) rfl rfl hl.1 (Nat.le_of_ble_eq_true rfl) ⟨Nat.le_of_ble_eq_true rfl, Nat.le_of_ble_eq_true rfl⟩ ⟨rfl, rfl⟩ ⟨Nat.zero_le _, Nat.zero_le _⟩ (fun H locs hM18 => ?_)
          refine r_aload_n C dX11_writesRow_133 rfl hl 0 rfl ?_
          refine r_bipush C dX11_writesRow_134 rfl ?_
          replace h := bd_some h
          obtain ⟨M136, hf136, h⟩ := h
          refine r_callV (As := [.int (jI 123)]) (rest := []) C hM18 (c_X11_writes l E z ⟨by decide, by decide⟩ hf136) jy_X11_writes lk_X11_512 dX11_writesRow_136 (recvW C hM18 jc11 lr_0.1 lr_0.2 rfl) rfl rfl hl.1 (Nat.le_of_ble_eq_true rfl) ⟨Nat.le_of_ble_eq_true rfl, Nat.le_of_ble_eq_true rfl⟩ ⟨rfl, rfl⟩ ⟨Nat.zero_le _, Nat.zero_le _⟩ (fun H locs hM19 => ?_)
          exact r_return C hM19 hr hlk h dX11_writesRow_139
set_option maxRecDepth 100000 in
set_option maxHeartbeats 4000000 in
theorem c_X11_writeReel (l : Launch) (E : jE) (z : Nat) {M M' : Mem} {r : Int} (h : f_X11_writeReel M = some (r, M')) : CtI l yX11_writeReel cX11_writeReel 2 (some .int) { frames := 9, cells := 0, slots := 0, locals := 364 } E z LyR [.ref (z + 0)] M r M' := by
  refine jm (by decide +kernel) (Nat.le_of_ble_eq_true rfl) ?_
  intro p e sM m below meth c C hM0 hr hlk ls hl
  replace hl : lv_has ls 2 [(0, .ref (z + 0))] := hl
  unfold f_X11_writeReel at h
  refine r_aload_n C dX11_writeReel_0 rfl hl 0 rfl ?_
  refine r_iconst C dX11_writeReel_1 ?_
  refine r_putI C hM0 jc11 7 ⟨by decide, by decide⟩ dX11_writeReel_2 lk_X11_105 lr_0.1 lr_0.2 rfl rfl (by decide) rfl rfl rfl (Nat.le_of_ble_eq_true rfl) (by decide) (fun H locs hM1 => ?_)
  replace h := lt_some h
  obtain ⟨N2, eN2, h⟩ := h
  rw [← eN2] at hM1
  refine r_aload_n C dX11_writeReel_5 rfl hl 0 rfl ?_
  refine r_iconst C dX11_writeReel_6 ?_
  refine r_putI C hM1 jc11 51 ⟨by decide, by decide⟩ dX11_writeReel_7 lk_X11_509 lr_0.1 lr_0.2 rfl rfl (by decide) rfl rfl rfl (Nat.le_of_ble_eq_true rfl) (by decide) (fun H locs hM3 => ?_)
  replace h := lt_some h
  obtain ⟨N4, eN4, h⟩ := h
  rw [← eN4] at hM3
  refine r_iconst C dX11_writeReel_10 ?_
  refine r_istore_n C [(1, .int (jI 0)), (0, .ref (z + 0))] dX11_writeReel_11 rfl hl (by decide) rfl (fun ls hl => ?_)
  have hL12 : ∀ n12 : Nat, ∀ (x1 : Int) (M : Mem), inR x1 → ∀ (H : Heap) (locs : List Loc) (ls : Array Slot), f_X11_writeReel_L12 n12  x1 M = some (r, M') → HS E z LyR M sM H locs → lv_has ls 2 [(0, .ref (z + 0)), (1, .int (jI x1))] → W p l e ({ frames := 9, cells := 0, slots := 0, locals := 364 } : Room) sM m (([.ref (z + 0)] : List Value).toArray) below meth c H locs 0 0 (MQ below (va_Qi (fun (w : Int32) (_ : Unit) => w = jI r ∧ inR r ∧ Mok LyR M') (fun _ t => va_P (eD E) vwCl (Wd (eC E) z LyR M') t.heap) (eA E)) (([.ref (z + 0)] : List Value).toArray) sM 0 0 (eA E)) (F0 m 12 ls []) := by
    intro n12
    induction n12 with
    | zero =>
      intro x1 M hx1 H locs ls h hM hl
      exact absurd h (by simp [f_X11_writeReel_L12])
    | succ n12 ih12 =>
      intro x1 M hx1 H locs ls h hM hl
      rw [f_X11_writeReel_L12] at h
      refine r_iload_n C dX11_writeReel_12 rfl hl 1 rfl ?_
      refine r_aload_n C dX11_writeReel_13 rfl hl 0 rfl ?_
      refine r_getR C hM jc11 0 1 dX11_writeReel_14 lk_X11_7 lr_0.1 lr_0.2 rfl rfl (by decide) rfl ?_
      refine r_bipush C dX11_writeReel_17 rfl ?_
      refine r_iald C hM rfl dX11_writeReel_19 lr_1.1 lr_1.2 (show (0 : Int) ≤ 8 ∧ (8 : Int) < 1062 by decide) ⟨by decide, by decide⟩ ?_
      refine r_icmp_ge C 34 hx1 (hM.ok _ _) dX11_writeReel_20 (by decide) (fun cq => ?_) (fun cq => ?_)
      · replace h := ifp cq h
        refine r_aload_n C dX11_writeReel_34 rfl hl 0 rfl ?_
        refine r_getI C hM jc11 51 rfl dX11_writeReel_35 lk_X11_509 lr_0.1 lr_0.2 rfl rfl (by decide) rfl ?_
        exact r_ireturnM C hM hr hlk (hM.ok _ _) h dX11_writeReel_38
      · replace h := ifn cq h
        refine r_aload_n C dX11_writeReel_23 rfl hl 0 rfl ?_
        refine r_iload_n C dX11_writeReel_24 rfl hl 1 rfl ?_
        replace h := bd_some h
        obtain ⟨M25, hf25, h⟩ := h
        refine r_callV (As := [.int (jI x1)]) (rest := []) C hM (c_X11_writesRow l E z hx1 hf25) jy_X11_writesRow lk_X11_538 dX11_writeReel_25 (recvW C hM jc11 lr_0.1 lr_0.2 rfl) rfl rfl hl.1 (Nat.le_of_ble_eq_true rfl) ⟨Nat.le_of_ble_eq_true rfl, Nat.le_of_ble_eq_true rfl⟩ ⟨rfl, rfl⟩ ⟨Nat.zero_le _, Nat.zero_le _⟩ (fun H locs hM5 => ?_)
        replace h := ck_some h
        obtain ⟨hc6, h⟩ := h
        refine r_iinc (j := 1) (x := x1) C [(1, .int (jI (x1 + 1))), (0, .ref (z + 0))] dX11_writeReel_28 hl rfl (by decide) rfl (fun ls hl => ?_)
        refine r_goto C 12 dX11_writeReel_31 (by decide) ?_
        exact ih12 _ _ hc6 _ _ _ h hM5 (lv_sub hl [1, 0] rfl)
  exact hL12 jFuel _ _ ⟨by decide, by decide⟩ _ _ _ h hM3 (lv_sub hl [1, 0] rfl)
set_option maxRecDepth 100000 in
set_option maxHeartbeats 4000000 in
theorem c_X11_writeVoice (l : Launch) (E : jE) (z : Nat) {M M' : Mem} {r : Int} (h : f_X11_writeVoice M = some (r, M')) : CtI l yX11_writeVoice cX11_writeVoice 3 (some .int) { frames := 2, cells := 0, slots := 0, locals := 44 } E z LyR [.ref (z + 0)] M r M' := by
  refine jm (by decide +kernel) (Nat.le_of_ble_eq_true rfl) ?_
  intro p e sM m below meth c C hM0 hr hlk ls hl
  replace hl : lv_has ls 3 [(0, .ref (z + 0))] := hl
  unfold f_X11_writeVoice at h
  refine r_aload_n C dX11_writeVoice_0 rfl hl 0 rfl ?_
  refine r_iconst C dX11_writeVoice_1 ?_
  refine r_putI C hM0 jc11 7 ⟨by decide, by decide⟩ dX11_writeVoice_2 lk_X11_105 lr_0.1 lr_0.2 rfl rfl (by decide) rfl rfl rfl (Nat.le_of_ble_eq_true rfl) (by decide) (fun H locs hM1 => ?_)
  replace h := lt_some h
  obtain ⟨N2, eN2, h⟩ := h
  rw [← eN2] at hM1
  refine r_aload_n C dX11_writeVoice_5 rfl hl 0 rfl ?_
  refine r_iconst C dX11_writeVoice_6 ?_
  refine r_putI C hM1 jc11 51 ⟨by decide, by decide⟩ dX11_writeVoice_7 lk_X11_509 lr_0.1 lr_0.2 rfl rfl (by decide) rfl rfl rfl (Nat.le_of_ble_eq_true rfl) (by decide) (fun H locs hM3 => ?_)
  replace h := lt_some h
  obtain ⟨N4, eN4, h⟩ := h
  rw [← eN4] at hM3
  refine r_iconst C dX11_writeVoice_10 ?_
  refine r_istore_n C [(1, .int (jI 0)), (0, .ref (z + 0))] dX11_writeVoice_11 rfl hl (by decide) rfl (fun ls hl => ?_)
  have hL12 : ∀ n12 : Nat, ∀ (x1 : Int) (M : Mem), inR x1 → ∀ (H : Heap) (locs : List Loc) (ls : Array Slot), f_X11_writeVoice_L12 n12  x1 M = some (r, M') → HS E z LyR M sM H locs → lv_has ls 3 [(0, .ref (z + 0)), (1, .int (jI x1))] → W p l e ({ frames := 2, cells := 0, slots := 0, locals := 44 } : Room) sM m (([.ref (z + 0)] : List Value).toArray) below meth c H locs 0 0 (MQ below (va_Qi (fun (w : Int32) (_ : Unit) => w = jI r ∧ inR r ∧ Mok LyR M') (fun _ t => va_P (eD E) vwCl (Wd (eC E) z LyR M') t.heap) (eA E)) (([.ref (z + 0)] : List Value).toArray) sM 0 0 (eA E)) (F0 m 12 ls []) := by
    intro n12
    induction n12 with
    | zero =>
      intro x1 M hx1 H locs ls h hM hl
      exact absurd h (by simp [f_X11_writeVoice_L12])
    | succ n12 ih12 =>
      intro x1 M hx1 H locs ls h hM hl
      rw [f_X11_writeVoice_L12] at h
      refine r_iload_n C dX11_writeVoice_12 rfl hl 1 rfl ?_
      refine r_aload_n C dX11_writeVoice_13 rfl hl 0 rfl ?_
      refine r_getR C hM jc11 0 1 dX11_writeVoice_14 lk_X11_7 lr_0.1 lr_0.2 rfl rfl (by decide) rfl ?_
      refine r_bipush C dX11_writeVoice_17 rfl ?_
      refine r_iald C hM rfl dX11_writeVoice_19 lr_1.1 lr_1.2 (show (0 : Int) ≤ 9 ∧ (9 : Int) < 1062 by decide) ⟨by decide, by decide⟩ ?_
      refine r_icmp_ge C 83 hx1 (hM.ok _ _) dX11_writeVoice_20 (by decide) (fun cq => ?_) (fun cq => ?_)
      · replace h := ifp cq h
        refine r_aload_n C dX11_writeVoice_83 rfl hl 0 rfl ?_
        refine r_getI C hM jc11 51 rfl dX11_writeVoice_84 lk_X11_509 lr_0.1 lr_0.2 rfl rfl (by decide) rfl ?_
        exact r_ireturnM C hM hr hlk (hM.ok _ _) h dX11_writeVoice_87
      · replace h := ifn cq h
        refine r_iload_n C dX11_writeVoice_23 rfl hl 1 rfl ?_
        refine r_if_le C 33 hx1 dX11_writeVoice_24 (by decide) (fun cq => ?_) (fun cq => ?_)
        · replace h := ifp cq h
          refine r_iconst C dX11_writeVoice_33 ?_
          refine r_istore_n C [(2, .int (jI 0)), (0, .ref (z + 0)), (1, .int (jI x1))] dX11_writeVoice_34 rfl hl (by decide) rfl (fun ls hl => ?_)
          have hL35 : ∀ n35 : Nat, ∀ (x2 : Int) (M : Mem), inR x2 → ∀ (H : Heap) (locs : List Loc) (ls : Array Slot), f_X11_writeVoice_L35 (f_X11_writeVoice_L12 n12) x1 n35  x2 M = some (r, M') → HS E z LyR M sM H locs → lv_has ls 3 [(0, .ref (z + 0)), (1, .int (jI x1)), (2, .int (jI x2))] → W p l e ({ frames := 2, cells := 0, slots := 0, locals := 44 } : Room) sM m (([.ref (z + 0)] : List Value).toArray) below meth c H locs 0 0 (MQ below (va_Qi (fun (w : Int32) (_ : Unit) => w = jI r ∧ inR r ∧ Mok LyR M') (fun _ t => va_P (eD E) vwCl (Wd (eC E) z LyR M') t.heap) (eA E)) (([.ref (z + 0)] : List Value).toArray) sM 0 0 (eA E)) (F0 m 35 ls []) := by
            intro n35
            induction n35 with
            | zero =>
              intro x2 M hx2 H locs ls h hM hl
              exact absurd h (by simp [f_X11_writeVoice_L35])
            | succ n35 ih35 =>
              intro x2 M hx2 H locs ls h hM hl
              rw [f_X11_writeVoice_L35] at h
              refine r_iload_n C dX11_writeVoice_35 rfl hl 2 rfl ?_
              refine r_aload_n C dX11_writeVoice_36 rfl hl 0 rfl ?_
              refine r_iload_n C dX11_writeVoice_37 rfl hl 1 rfl ?_
              refine r_iconst C dX11_writeVoice_38 ?_
              replace h := bd_some h
              obtain ⟨r39, hf39, h⟩ := h
              refine r_callI (As := [.int (jI x1), .int (jI 1)]) (rest := [.int (jI x2)]) C hM (c_X11_w l E z hx1 ⟨by decide, by decide⟩ hf39) jy_X11_w lk_X11_165 dX11_writeVoice_39 (recvW C hM jc11 lr_0.1 lr_0.2 rfl) rfl rfl hl.1 (Nat.le_of_ble_eq_true rfl) ⟨Nat.le_of_ble_eq_true rfl, Nat.le_of_ble_eq_true rfl⟩ ⟨rfl, rfl⟩ ⟨Nat.zero_le _, Nat.zero_le _⟩ (fun H locs hr39 hM5 => ?_)
              refine r_icmp_ge C 61 hx2 hr39 dX11_writeVoice_42 (by decide) (fun cq => ?_) (fun cq => ?_)
              · replace h := ifp cq h
                refine r_aload_n C dX11_writeVoice_61 rfl hl 0 rfl ?_
                refine r_iload_n C dX11_writeVoice_62 rfl hl 1 rfl ?_
                refine r_iconst C dX11_writeVoice_63 ?_
                replace h := bd_some h
                obtain ⟨r64, hf64, h⟩ := h
                refine r_callI (As := [.int (jI x1), .int (jI 2)]) (rest := []) C hM5 (c_X11_w l E z hx1 ⟨by decide, by decide⟩ hf64) jy_X11_w lk_X11_165 dX11_writeVoice_64 (recvW C hM5 jc11 lr_0.1 lr_0.2 rfl) rfl rfl hl.1 (Nat.le_of_ble_eq_true rfl) ⟨Nat.le_of_ble_eq_true rfl, Nat.le_of_ble_eq_true rfl⟩ ⟨rfl, rfl⟩ ⟨Nat.zero_le _, Nat.zero_le _⟩ (fun H locs hr64 hM6 => ?_)
                refine r_iconst C dX11_writeVoice_67 ?_
                refine r_icmp_ne C 77 hr64 ⟨by decide, by decide⟩ dX11_writeVoice_68 (by decide) (fun cq => ?_) (fun cq => ?_)
                · replace h := ifn cq h
                  replace h := ck_some h
                  obtain ⟨hc7, h⟩ := h
                  refine r_iinc (j := 1) (x := x1) C [(1, .int (jI (x1 + 1))), (0, .ref (z + 0)), (2, .int (jI x2))] dX11_writeVoice_77 hl rfl (by decide) rfl (fun ls hl => ?_)
                  refine r_goto C 12 dX11_writeVoice_80 (by decide) ?_
                  exact ih12 _ _ hc7 _ _ _ h hM6 (lv_sub hl [1, 0] rfl)
                · replace h := ifp cq h
                  refine r_aload_n C dX11_writeVoice_71 rfl hl 0 rfl ?_
                  refine r_bipush C dX11_writeVoice_72 rfl ?_
                  replace h := bd_some h
                  obtain ⟨M74, hf74, h⟩ := h
                  refine r_callV (As := [.int (jI 46)]) (rest := []) C hM6 (c_X11_writes l E z ⟨by decide, by decide⟩ hf74) jy_X11_writes lk_X11_512 dX11_writeVoice_74 (recvW C hM6 jc11 lr_0.1 lr_0.2 rfl) rfl rfl hl.1 (Nat.le_of_ble_eq_true rfl) ⟨Nat.le_of_ble_eq_true rfl, Nat.le_of_ble_eq_true rfl⟩ ⟨rfl, rfl⟩ ⟨Nat.zero_le _, Nat.zero_le _⟩ (fun H locs hM8 => ?_)
                  replace h := ck_some h
                  obtain ⟨hc9, h⟩ := h
                  refine r_iinc (j := 1) (x := x1) C [(1, .int (jI (x1 + 1))), (0, .ref (z + 0)), (2, .int (jI x2))] dX11_writeVoice_77 hl rfl (by decide) rfl (fun ls hl => ?_)
                  refine r_goto C 12 dX11_writeVoice_80 (by decide) ?_
                  exact ih12 _ _ hc9 _ _ _ h hM8 (lv_sub hl [1, 0] rfl)
              · replace h := ifn cq h
                refine r_aload_n C dX11_writeVoice_45 rfl hl 0 rfl ?_
                refine r_aload_n C dX11_writeVoice_46 rfl hl 0 rfl ?_
                refine r_iload_n C dX11_writeVoice_47 rfl hl 1 rfl ?_
                refine r_iload_n C dX11_writeVoice_48 rfl hl 2 rfl ?_
                replace h := bd_some h
                obtain ⟨r49, hf49, h⟩ := h
                refine r_callI (As := [.int (jI x1), .int (jI x2)]) (rest := [.ref (z + 0)]) C hM5 (c_X11_letter l E z hx1 hx2 hf49) jy_X11_letter lk_X11_168 dX11_writeVoice_49 (recvW C hM5 jc11 lr_0.1 lr_0.2 rfl) rfl rfl hl.1 (Nat.le_of_ble_eq_true rfl) ⟨Nat.le_of_ble_eq_true rfl, Nat.le_of_ble_eq_true rfl⟩ ⟨rfl, rfl⟩ ⟨Nat.zero_le _, Nat.zero_le _⟩ (fun H locs hr49 hM10 => ?_)
                replace h := bd_some h
                obtain ⟨M52, hf52, h⟩ := h
                refine r_callV (As := [.int (jI r49)]) (rest := []) C hM10 (c_X11_writes l E z hr49 hf52) jy_X11_writes lk_X11_512 dX11_writeVoice_52 (recvW C hM10 jc11 lr_0.1 lr_0.2 rfl) rfl rfl hl.1 (Nat.le_of_ble_eq_true rfl) ⟨Nat.le_of_ble_eq_true rfl, Nat.le_of_ble_eq_true rfl⟩ ⟨rfl, rfl⟩ ⟨Nat.zero_le _, Nat.zero_le _⟩ (fun H locs hM11 => ?_)
                replace h := ck_some h
                obtain ⟨hc12, h⟩ := h
                refine r_iinc (j := 2) (x := x2) C [(2, .int (jI (x2 + 1))), (0, .ref (z + 0)), (1, .int (jI x1))] dX11_writeVoice_55 hl rfl (by decide) rfl (fun ls hl => ?_)
                refine r_goto C 35 dX11_writeVoice_58 (by decide) ?_
                exact ih35 _ _ hc12 _ _ _ h hM11 (lv_sub hl [1, 2, 0] rfl)
          exact hL35 jFuel _ _ ⟨by decide, by decide⟩ _ _ _ h hM (lv_sub hl [1, 2, 0] rfl)
        · replace h := ifn cq h
          refine r_aload_n C dX11_writeVoice_27 rfl hl 0 rfl ?_
          refine r_bipush C dX11_writeVoice_28 rfl ?_
          replace h := bd_some h
          obtain ⟨M30, hf30, h⟩ := h
          refine r_callV (As := [.int (jI 32)]) (rest := []) C hM (c_X11_writes l E z ⟨by decide, by decide⟩ hf30) jy_X11_writes lk_X11_512 dX11_writeVoice_30 (recvW C hM jc11 lr_0.1 lr_0.2 rfl) rfl rfl hl.1 (Nat.le_of_ble_eq_true rfl) ⟨Nat.le_of_ble_eq_true rfl, Nat.le_of_ble_eq_true rfl⟩ ⟨rfl, rfl⟩ ⟨Nat.zero_le _, Nat.zero_le _⟩ (fun H locs hM13 => ?_)
          refine r_iconst C dX11_writeVoice_33 ?_
          refine r_istore_n C [(2, .int (jI 0)), (0, .ref (z + 0)), (1, .int (jI x1))] dX11_writeVoice_34 rfl hl (by decide) rfl (fun ls hl => ?_)
          have hL35 : ∀ n35 : Nat, ∀ (x2 : Int) (M : Mem), inR x2 → ∀ (H : Heap) (locs : List Loc) (ls : Array Slot), f_X11_writeVoice_L35 (f_X11_writeVoice_L12 n12) x1 n35  x2 M = some (r, M') → HS E z LyR M sM H locs → lv_has ls 3 [(0, .ref (z + 0)), (1, .int (jI x1)), (2, .int (jI x2))] → W p l e ({ frames := 2, cells := 0, slots := 0, locals := 44 } : Room) sM m (([.ref (z + 0)] : List Value).toArray) below meth c H locs 0 0 (MQ below (va_Qi (fun (w : Int32) (_ : Unit) => w = jI r ∧ inR r ∧ Mok LyR M') (fun _ t => va_P (eD E) vwCl (Wd (eC E) z LyR M') t.heap) (eA E)) (([.ref (z + 0)] : List Value).toArray) sM 0 0 (eA E)) (F0 m 35 ls []) := by
            intro n35
            induction n35 with
            | zero =>
              intro x2 M hx2 H locs ls h hM hl
              exact absurd h (by simp [f_X11_writeVoice_L35])
            | succ n35 ih35 =>
              intro x2 M hx2 H locs ls h hM hl
              rw [f_X11_writeVoice_L35] at h
              refine r_iload_n C dX11_writeVoice_35 rfl hl 2 rfl ?_
              refine r_aload_n C dX11_writeVoice_36 rfl hl 0 rfl ?_
              refine r_iload_n C dX11_writeVoice_37 rfl hl 1 rfl ?_
              refine r_iconst C dX11_writeVoice_38 ?_
              replace h := bd_some h
              obtain ⟨r39, hf39, h⟩ := h
              refine r_callI (As := [.int (jI x1), .int (jI 1)]) (rest := [.int (jI x2)]) C hM (c_X11_w l E z hx1 ⟨by decide, by decide⟩ hf39) jy_X11_w lk_X11_165 dX11_writeVoice_39 (recvW C hM jc11 lr_0.1 lr_0.2 rfl) rfl rfl hl.1 (Nat.le_of_ble_eq_true rfl) ⟨Nat.le_of_ble_eq_true rfl, Nat.le_of_ble_eq_true rfl⟩ ⟨rfl, rfl⟩ ⟨Nat.zero_le _, Nat.zero_le _⟩ (fun H locs hr39 hM14 => ?_)
              refine r_icmp_ge C 61 hx2 hr39 dX11_writeVoice_42 (by decide) (fun cq => ?_) (fun cq => ?_)
              · replace h := ifp cq h
                refine r_aload_n C dX11_writeVoice_61 rfl hl 0 rfl ?_
                refine r_iload_n C dX11_writeVoice_62 rfl hl 1 rfl ?_
                refine r_iconst C dX11_writeVoice_63 ?_
                replace h := bd_some h
                obtain ⟨r64, hf64, h⟩ := h
                refine r_callI (As := [.int (jI x1), .int (jI 2)]) (rest := []) C hM14 (c_X11_w l E z hx1 ⟨by decide, by decide⟩ hf64) jy_X11_w lk_X11_165 dX11_writeVoice_64 (recvW C hM14 jc11 lr_0.1 lr_0.2 rfl) rfl rfl hl.1 (Nat.le_of_ble_eq_true rfl) ⟨Nat.le_of_ble_eq_true rfl, Nat.le_of_ble_eq_true rfl⟩ ⟨rfl, rfl⟩ ⟨Nat.zero_le _, Nat.zero_le _⟩ (fun H locs hr64 hM15 => ?_)
                refine r_iconst C dX11_writeVoice_67 ?_
                refine r_icmp_ne C 77 hr64 ⟨by decide, by decide⟩ dX11_writeVoice_68 (by decide) (fun cq => ?_) (fun cq => ?_)
                · replace h := ifn cq h
                  replace h := ck_some h
                  obtain ⟨hc16, h⟩ := h
                  refine r_iinc (j := 1) (x := x1) C [(1, .int (jI (x1 + 1))), (0, .ref (z + 0)), (2, .int (jI x2))] dX11_writeVoice_77 hl rfl (by decide) rfl (fun ls hl => ?_)
                  refine r_goto C 12 dX11_writeVoice_80 (by decide) ?_
                  exact ih12 _ _ hc16 _ _ _ h hM15 (lv_sub hl [1, 0] rfl)
                · replace h := ifp cq h
                  refine r_aload_n C dX11_writeVoice_71 rfl hl 0 rfl ?_
                  refine r_bipush C dX11_writeVoice_72 rfl ?_
                  replace h := bd_some h
                  obtain ⟨M74, hf74, h⟩ := h
                  refine r_callV (As := [.int (jI 46)]) (rest := []) C hM15 (c_X11_writes l E z ⟨by decide, by decide⟩ hf74) jy_X11_writes lk_X11_512 dX11_writeVoice_74 (recvW C hM15 jc11 lr_0.1 lr_0.2 rfl) rfl rfl hl.1 (Nat.le_of_ble_eq_true rfl) ⟨Nat.le_of_ble_eq_true rfl, Nat.le_of_ble_eq_true rfl⟩ ⟨rfl, rfl⟩ ⟨Nat.zero_le _, Nat.zero_le _⟩ (fun H locs hM17 => ?_)
                  replace h := ck_some h
                  obtain ⟨hc18, h⟩ := h
                  refine r_iinc (j := 1) (x := x1) C [(1, .int (jI (x1 + 1))), (0, .ref (z + 0)), (2, .int (jI x2))] dX11_writeVoice_77 hl rfl (by decide) rfl (fun ls hl => ?_)
                  refine r_goto C 12 dX11_writeVoice_80 (by decide) ?_
                  exact ih12 _ _ hc18 _ _ _ h hM17 (lv_sub hl [1, 0] rfl)
              · replace h := ifn cq h
                refine r_aload_n C dX11_writeVoice_45 rfl hl 0 rfl ?_
                refine r_aload_n C dX11_writeVoice_46 rfl hl 0 rfl ?_
                refine r_iload_n C dX11_writeVoice_47 rfl hl 1 rfl ?_
                refine r_iload_n C dX11_writeVoice_48 rfl hl 2 rfl ?_
                replace h := bd_some h
                obtain ⟨r49, hf49, h⟩ := h
                refine r_callI (As := [.int (jI x1), .int (jI x2)]) (rest := [.ref (z + 0)]) C hM14 (c_X11_letter l E z hx1 hx2 hf49) jy_X11_letter lk_X11_168 dX11_writeVoice_49 (recvW C hM14 jc11 lr_0.1 lr_0.2 rfl) rfl rfl hl.1 (Nat.le_of_ble_eq_true rfl) ⟨Nat.le_of_ble_eq_true rfl, Nat.le_of_ble_eq_true rfl⟩ ⟨rfl, rfl⟩ ⟨Nat.zero_le _, Nat.zero_le _⟩ (fun H locs hr49 hM19 => ?_)
                replace h := bd_some h
                obtain ⟨M52, hf52, h⟩ := h
                refine r_callV (As := [.int (jI r49)]) (rest := []) C hM19 (c_X11_writes l E z hr49 hf52) jy_X11_writes lk_X11_512 dX11_writeVoice_52 (recvW C hM19 jc11 lr_0.1 lr_0.2 rfl) rfl rfl hl.1 (Nat.le_of_ble_eq_true rfl) ⟨Nat.le_of_ble_eq_true rfl, Nat.le_of_ble_eq_true rfl⟩ ⟨rfl, rfl⟩ ⟨Nat.zero_le _, Nat.zero_le _⟩ (fun H locs hM20 => ?_)
                replace h := ck_some h
                obtain ⟨hc21, h⟩ := h
                refine r_iinc (j := 2) (x := x2) C [(2, .int (jI (x2 + 1))), (0, .ref (z + 0)), (1, .int (jI x1))] dX11_writeVoice_55 hl rfl (by decide) rfl (fun ls hl => ?_)
                refine r_goto C 35 dX11_writeVoice_58 (by decide) ?_
                exact ih35 _ _ hc21 _ _ _ h hM20 (lv_sub hl [1, 2, 0] rfl)
          exact hL35 jFuel _ _ ⟨by decide, by decide⟩ _ _ _ h hM13 (lv_sub hl [1, 2, 0] rfl)
  exact hL12 jFuel _ _ ⟨by decide, by decide⟩ _ _ _ h hM3 (lv_sub hl [1, 0] rfl)
set_option maxRecDepth 100000 in
set_option maxHeartbeats 4000000 in
theorem c_X11_output (l : Launch) (E : jE) (z : Nat) {x1 : Int} {M M' : Mem} {r : Int} (hx1 : inR x1) (h : f_X11_output x1 M = some (r, M')) : CtI l yX11_output cX11_output 2 (some .int) { frames := 1, cells := 0, slots := 0, locals := 22 } E z LyR [.ref (z + 0), .int (jI x1)] M r M' := by
  refine jm (by decide +kernel) (Nat.le_of_ble_eq_true rfl) ?_
  intro p e sM m below meth c C hM0 hr hlk ls hl
  replace hl : lv_has ls 2 [(0, .ref (z + 0)), (1, .int (jI x1))] := hl
  unfold f_X11_output at h
  refine r_aload_n C dX11_output_0 rfl hl 0 rfl ?_
  refine r_iconst C dX11_output_1 ?_
  refine r_putI C hM0 jc11 7 ⟨by decide, by decide⟩ dX11_output_2 lk_X11_105 lr_0.1 lr_0.2 rfl rfl (by decide) rfl rfl rfl (Nat.le_of_ble_eq_true rfl) (by decide) (fun H locs hM1 => ?_)
  replace h := lt_some h
  obtain ⟨N2, eN2, h⟩ := h
  rw [← eN2] at hM1
  refine r_iload_n C dX11_output_5 rfl hl 1 rfl ?_
  refine r_iconst C dX11_output_6 ?_
  refine r_aload_n C dX11_output_7 rfl hl 0 rfl ?_
  refine r_getI C hM1 jc11 51 (rd_slot eN2 (by decide) rfl) dX11_output_8 lk_X11_509 lr_0.1 lr_0.2 rfl rfl (by decide) rfl ?_
  refine r_iconst C dX11_output_11 ?_
  replace h := ck_some h
  obtain ⟨hc3, h⟩ := h
  refine r_isub C dX11_output_12 ?_
  replace h := bd_some h
  obtain ⟨r13, hf13, h⟩ := h
  refine r_callSI (As := [.int (jI x1), .int (jI 0), .int (jI ((M 0 51) - 1))]) (rest := []) C hM1 (c_X11_isIn l E z hx1 ⟨by decide, by decide⟩ hc3 hf13) jy_X11_isIn lk_X11_112 dX11_output_13 rfl rfl hl.1 (Nat.le_of_ble_eq_true rfl) ⟨Nat.le_of_ble_eq_true rfl, Nat.le_of_ble_eq_true rfl⟩ ⟨rfl, rfl⟩ ⟨Nat.zero_le _, Nat.zero_le _⟩ (fun H locs hr13 hM4 => ?_)
  refine r_if_eq C 28 hr13 dX11_output_16 (by decide) (fun cq => ?_) (fun cq => ?_)
  · replace h := ifp cq h
    refine r_iconst C dX11_output_28 ?_
    exact r_ireturnM C hM4 hr hlk ⟨by decide, by decide⟩ h dX11_output_29
  · replace h := ifn cq h
    refine r_aload_n C dX11_output_19 rfl hl 0 rfl ?_
    refine r_getR C hM4 jc11 50 29 dX11_output_20 lk_X11_99 lr_0.1 lr_0.2 rfl rfl (by decide) rfl ?_
    refine r_iload_n C dX11_output_23 rfl hl 1 rfl ?_
    replace h := ck_some h
    obtain ⟨hc5, h⟩ := h
    refine r_iald C hM4 (rd_skip eN2 (by decide) rfl) dX11_output_24 lr_29.1 lr_29.2 hc5 hx1 ?_
    refine r_goto C 29 dX11_output_25 (by decide) ?_
    exact r_ireturnM C hM4 hr hlk (hM0.ok _ _) h dX11_output_29
set_option maxRecDepth 100000 in
set_option maxHeartbeats 4000000 in
theorem c_X11_undo (l : Launch) (E : jE) (z : Nat) {M M' : Mem} {r : Int} (h : f_X11_undo M = some (r, M')) : CtI l yX11_undo cX11_undo 1 (some .int) { frames := 1, cells := 0, slots := 0, locals := 24 } E z LyR [.ref (z + 0)] M r M' := by
  refine jm (by decide +kernel) (Nat.le_of_ble_eq_true rfl) ?_
  intro p e sM m below meth c C hM0 hr hlk ls hl
  replace hl : lv_has ls 1 [(0, .ref (z + 0))] := hl
  unfold f_X11_undo at h
  refine r_aload_n C dX11_undo_0 rfl hl 0 rfl ?_
  refine r_iconst C dX11_undo_1 ?_
  refine r_putI C hM0 jc11 7 ⟨by decide, by decide⟩ dX11_undo_2 lk_X11_105 lr_0.1 lr_0.2 rfl rfl (by decide) rfl rfl rfl (Nat.le_of_ble_eq_true rfl) (by decide) (fun H locs hM1 => ?_)
  replace h := lt_some h
  obtain ⟨N2, eN2, h⟩ := h
  rw [← eN2] at hM1
  refine r_aload_n C dX11_undo_5 rfl hl 0 rfl ?_
  refine r_getI C hM1 jc11 6 (rd_slot eN2 (by decide) rfl) dX11_undo_6 lk_X11_359 lr_0.1 lr_0.2 rfl rfl (by decide) rfl ?_
  refine r_if_ne C 14 (hM0.ok _ _) dX11_undo_9 (by decide) (fun cq => ?_) (fun cq => ?_)
  · replace h := ifn cq h
    refine r_aload_n C dX11_undo_14 rfl hl 0 rfl ?_
    refine r_dup C dX11_undo_15 rfl ?_
    refine r_getI C hM1 jc11 6 (rd_slot eN2 (by decide) rfl) dX11_undo_16 lk_X11_359 lr_0.1 lr_0.2 rfl rfl (by decide) rfl ?_
    refine r_iconst C dX11_undo_19 ?_
    replace h := ck_some h
    obtain ⟨hc3, h⟩ := h
    refine r_isub C dX11_undo_20 ?_
    refine r_putI C hM1 jc11 6 hc3 dX11_undo_21 lk_X11_359 lr_0.1 lr_0.2 rfl rfl (by decide) rfl rfl rfl (Nat.le_of_ble_eq_true rfl) (by decide) (fun H locs hM4 => ?_)
    replace h := lt_some h
    obtain ⟨N5, eN5, h⟩ := h
    rw [← eN5] at hM4
    refine r_aload_n C dX11_undo_24 rfl hl 0 rfl ?_
    refine r_getR C hM4 jc11 2 3 dX11_undo_25 lk_X11_16 lr_0.1 lr_0.2 rfl rfl (by decide) rfl ?_
    refine r_sipush C dX11_undo_28 rfl ?_
    refine r_aload_n C dX11_undo_31 rfl hl 0 rfl ?_
    refine r_getI C hM4 jc11 6 (rd_hit eN5) dX11_undo_32 lk_X11_359 lr_0.1 lr_0.2 rfl rfl (by decide) rfl ?_
    replace h := ck_some h
    obtain ⟨hc6, h⟩ := h
    refine r_imul C dX11_undo_35 ?_
    refine r_aload_n C dX11_undo_36 rfl hl 0 rfl ?_
    refine r_getR C hM4 jc11 0 1 dX11_undo_37 lk_X11_7 lr_0.1 lr_0.2 rfl rfl (by decide) rfl ?_
    refine r_iconst C dX11_undo_40 ?_
    replace h := bd_some h
    obtain ⟨M41, hf41, h⟩ := h
    refine r_callSV (As := [.ref (z + 3), .int (jI (1062 * ((M 0 6) - 1))), .ref (z + 1), .int (jI 0)]) (rest := []) C hM4 (c_X11_copies l E z lr_3 hc6 lr_1 ⟨by decide, by decide⟩ hf41) jy_X11_copies lk_X11_346 dX11_undo_41 rfl rfl hl.1 (Nat.le_of_ble_eq_true rfl) ⟨Nat.le_of_ble_eq_true rfl, Nat.le_of_ble_eq_true rfl⟩ ⟨rfl, rfl⟩ ⟨Nat.zero_le _, Nat.zero_le _⟩ (fun H locs hM7 => ?_)
    refine r_aload_n C dX11_undo_44 rfl hl 0 rfl ?_
    refine r_getI C hM7 jc11 6 rfl dX11_undo_45 lk_X11_359 lr_0.1 lr_0.2 rfl rfl (by decide) rfl ?_
    exact r_ireturnM C hM7 hr hlk (hM7.ok _ _) h dX11_undo_48
  · replace h := ifp cq h
    refine r_iconst C dX11_undo_12 ?_
    exact r_ireturnM C hM1 hr hlk ⟨by decide, by decide⟩ h dX11_undo_13
set_option maxRecDepth 100000 in
set_option maxHeartbeats 4000000 in
theorem c_X11_isSlot (l : Launch) (E : jE) (z : Nat) {x0 : Int} {M : Mem} {r : Int} (hx0 : inR x0) (h : f_X11_isSlot x0 M = some r) : CtI l yX11_isSlot cX11_isSlot 1 (some .boolean) { frames := 1, cells := 0, slots := 0, locals := 22 } E z LyR [.int (jI x0)] M r M := by
  refine jm (by decide +kernel) (Nat.le_of_ble_eq_true rfl) ?_
  intro p e sM m below meth c C hM0 hr hlk ls hl
  replace hl : lv_has ls 1 [(0, .int (jI x0))] := hl
  unfold f_X11_isSlot at h
  refine r_iload_n C dX11_isSlot_0 rfl hl 0 rfl ?_
  refine r_iconst C dX11_isSlot_1 ?_
  refine r_iconst C dX11_isSlot_2 ?_
  replace h := bd_some h
  obtain ⟨r3, hf3, h⟩ := h
  refine r_callSI (As := [.int (jI x0), .int (jI 0), .int (jI 1)]) (rest := []) C hM0 (c_X11_isIn l E z hx0 ⟨by decide, by decide⟩ ⟨by decide, by decide⟩ hf3) jy_X11_isIn lk_X11_112 dX11_isSlot_3 rfl rfl hl.1 (Nat.le_of_ble_eq_true rfl) ⟨Nat.le_of_ble_eq_true rfl, Nat.le_of_ble_eq_true rfl⟩ ⟨rfl, rfl⟩ ⟨Nat.zero_le _, Nat.zero_le _⟩ (fun H locs hr3 hM1 => ?_)
  replace h := ck_some h
  obtain ⟨hc2, h⟩ := h
  exact r_zreturn C hM1 hr hlk hc2 h rfl dX11_isSlot_6
set_option maxRecDepth 100000 in
set_option maxHeartbeats 4000000 in
theorem c_X11_save (l : Launch) (E : jE) (z : Nat) {x1 : Int} {M M' : Mem} (hx1 : inR x1) (h : f_X11_save x1 M = some M') : CtV l yX11_save cX11_save 2 none { frames := 2, cells := 0, slots := 0, locals := 42 } E z LyR [.ref (z + 0), .int (jI x1)] M M' := by
  refine jm (by decide +kernel) (Nat.le_of_ble_eq_true rfl) ?_
  intro p e sM m below meth c C hM0 hr hlk ls hl
  replace hl : lv_has ls 2 [(0, .ref (z + 0)), (1, .int (jI x1))] := hl
  unfold f_X11_save at h
  refine r_aload_n C dX11_save_0 rfl hl 0 rfl ?_
  refine r_iload_n C dX11_save_1 rfl hl 1 rfl ?_
  replace h := bd_some h
  obtain ⟨r2, hf2, h⟩ := h
  refine r_callSI (As := [.int (jI x1)]) (rest := [.ref (z + 0)]) C hM0 (c_X11_isSlot l E z hx1 hf2) jy_X11_isSlot lk_X11_541 dX11_save_2 rfl rfl hl.1 (Nat.le_of_ble_eq_true rfl) ⟨Nat.le_of_ble_eq_true rfl, Nat.le_of_ble_eq_true rfl⟩ ⟨rfl, rfl⟩ ⟨Nat.zero_le _, Nat.zero_le _⟩ (fun H locs hr2 hM1 => ?_)
  replace h := bd_some h
  obtain ⟨⟨r5, M5⟩, hf5, h⟩ := h
  try dsimp only at h
  refine r_callI (As := [.int (jI r2)]) (rest := []) C hM1 (c_X11_goes l E z hr2 hf5) jy_X11_goes lk_X11_239 dX11_save_5 (recvW C hM1 jc11 lr_0.1 lr_0.2 rfl) rfl rfl hl.1 (Nat.le_of_ble_eq_true rfl) ⟨Nat.le_of_ble_eq_true rfl, Nat.le_of_ble_eq_true rfl⟩ ⟨rfl, rfl⟩ ⟨Nat.zero_le _, Nat.zero_le _⟩ (fun H locs hr5 hM2 => ?_)
  refine r_if_ne C 12 hr5 dX11_save_8 (by decide) (fun cq => ?_) (fun cq => ?_)
  · replace h := ifn cq h
    refine r_aload_n C dX11_save_12 rfl hl 0 rfl ?_
    refine r_getR C hM2 jc11 0 1 dX11_save_13 lk_X11_7 lr_0.1 lr_0.2 rfl rfl (by decide) rfl ?_
    refine r_iconst C dX11_save_16 ?_
    refine r_aload_n C dX11_save_17 rfl hl 0 rfl ?_
    refine r_getR C hM2 jc11 3 4 dX11_save_18 lk_X11_19 lr_0.1 lr_0.2 rfl rfl (by decide) rfl ?_
    refine r_sipush C dX11_save_21 rfl ?_
    refine r_iload_n C dX11_save_24 rfl hl 1 rfl ?_
    replace h := ck_some h
    obtain ⟨hc3, h⟩ := h
    refine r_imul C dX11_save_25 ?_
    replace h := bd_some h
    obtain ⟨M26, hf26, h⟩ := h
    refine r_callSV (As := [.ref (z + 1), .int (jI 0), .ref (z + 4), .int (jI (1062 * x1))]) (rest := []) C hM2 (c_X11_copies l E z lr_1 ⟨by decide, by decide⟩ lr_4 hc3 hf26) jy_X11_copies lk_X11_346 dX11_save_26 rfl rfl hl.1 (Nat.le_of_ble_eq_true rfl) ⟨Nat.le_of_ble_eq_true rfl, Nat.le_of_ble_eq_true rfl⟩ ⟨rfl, rfl⟩ ⟨Nat.zero_le _, Nat.zero_le _⟩ (fun H locs hM4 => ?_)
    refine r_aload_n C dX11_save_29 rfl hl 0 rfl ?_
    refine r_getR C hM4 jc11 5 6 dX11_save_30 lk_X11_25 lr_0.1 lr_0.2 rfl rfl (by decide) rfl ?_
    refine r_iload_n C dX11_save_33 rfl hl 1 rfl ?_
    refine r_iconst C dX11_save_34 ?_
    replace h := ck_some h
    obtain ⟨hc5, h⟩ := h
    refine r_zast C hM4 dX11_save_35 lr_6.1 lr_6.2 hc5 hx1 (fun H locs hM6 => ?_)
    replace h := lt_some h
    obtain ⟨N7, eN7, h⟩ := h
    rw [← eN7] at hM6
    exact r_return C hM6 hr hlk h dX11_save_36
  · replace h := ifp cq h
    exact r_return C hM2 hr hlk h dX11_save_11
set_option maxRecDepth 100000 in
set_option maxHeartbeats 4000000 in
theorem c_X11_restore (l : Launch) (E : jE) (z : Nat) {x1 : Int} {M M' : Mem} (hx1 : inR x1) (h : f_X11_restore x1 M = some M') : CtV l yX11_restore cX11_restore 2 none { frames := 2, cells := 0, slots := 0, locals := 42 } E z LyR [.ref (z + 0), .int (jI x1)] M M' := by
  refine jm (by decide +kernel) (Nat.le_of_ble_eq_true rfl) ?_
  intro p e sM m below meth c C hM0 hr hlk ls hl
  replace hl : lv_has ls 2 [(0, .ref (z + 0)), (1, .int (jI x1))] := hl
  unfold f_X11_restore at h
  refine r_aload_n C dX11_restore_0 rfl hl 0 rfl ?_
  refine r_iload_n C dX11_restore_1 rfl hl 1 rfl ?_
  replace h := bd_some h
  obtain ⟨r2, hf2, h⟩ := h
  refine r_callSI (As := [.int (jI x1)]) (rest := [.ref (z + 0)]) C hM0 (c_X11_isSlot l E z hx1 hf2) jy_X11_isSlot lk_X11_541 dX11_restore_2 rfl rfl hl.1 (Nat.le_of_ble_eq_true rfl) ⟨Nat.le_of_ble_eq_true rfl, Nat.le_of_ble_eq_true rfl⟩ ⟨rfl, rfl⟩ ⟨Nat.zero_le _, Nat.zero_le _⟩ (fun H locs hr2 hM1 => ?_)
  refine r_iload_n C dX11_restore_5 rfl hl 1 rfl ?_
  replace h := bd_some h
  obtain ⟨r6, hf6, h⟩ := h
  refine r_callSI (As := [.int (jI x1)]) (rest := [.int (jI r2), .ref (z + 0)]) C hM1 (c_X11_isSlot l E z hx1 hf6) jy_X11_isSlot lk_X11_541 dX11_restore_6 rfl rfl hl.1 (Nat.le_of_ble_eq_true rfl) ⟨Nat.le_of_ble_eq_true rfl, Nat.le_of_ble_eq_true rfl⟩ ⟨rfl, rfl⟩ ⟨Nat.zero_le _, Nat.zero_le _⟩ (fun H locs hr6 hM2 => ?_)
  replace h := jn_some h
  obtain ⟨k26, hk26, h⟩ := h
  have hJ26 : ∀ (v26 : Int), inR v26 → ∀ (H : Heap) (locs : List Loc) (ls : Array Slot), k26 v26 = some M' → HS E z LyR M sM H locs → lv_has ls 2 [(0, .ref (z + 0)), (1, .int (jI x1))] → W p l e ({ frames := 2, cells := 0, slots := 0, locals := 42 } : Room) sM m (([.ref (z + 0), .int (jI x1)] : List Value).toArray) below meth c H locs 0 0 (MQ below (va_Qv (fun (_ : Unit) => Mok LyR M') (fun _ t => va_P (eD E) vwCl (Wd (eC E) z LyR M') t.heap) (eA E)) (([.ref (z + 0), .int (jI x1)] : List Value).toArray) sM 0 0 (eA E)) (F0 m 26 ls [.int (jI v26), .int (jI r2), .ref (z + 0)]) := by
    intro v26 hv26 H locs ls h hMj26 hl
    subst hk26
    try dsimp only at h
    replace h := bd_some h
    obtain ⟨⟨r26, M26⟩, hf26, h⟩ := h
    try dsimp only at h
    refine r_callI (As := [.int (jI r2), .int (jI v26)]) (rest := []) C hMj26 (c_X11_goesBoth l E z hr2 hv26 hf26) jy_X11_goesBoth lk_X11_429 dX11_restore_26 (recvW C hMj26 jc11 lr_0.1 lr_0.2 rfl) rfl rfl hl.1 (Nat.le_of_ble_eq_true rfl) ⟨Nat.le_of_ble_eq_true rfl, Nat.le_of_ble_eq_true rfl⟩ ⟨rfl, rfl⟩ ⟨Nat.zero_le _, Nat.zero_le _⟩ (fun H locs hr26 hM3 => ?_)
    refine r_if_ne C 33 hr26 dX11_restore_29 (by decide) (fun cq => ?_) (fun cq => ?_)
    · replace h := ifn cq h
      refine r_aload_n C dX11_restore_33 rfl hl 0 rfl ?_
      refine r_getR C hM3 jc11 3 4 dX11_restore_34 lk_X11_19 lr_0.1 lr_0.2 rfl rfl (by decide) rfl ?_
      refine r_sipush C dX11_restore_37 rfl ?_
      refine r_iload_n C dX11_restore_40 rfl hl 1 rfl ?_
      replace h := ck_some h
      obtain ⟨hc4, h⟩ := h
      refine r_imul C dX11_restore_41 ?_
      refine r_aload_n C dX11_restore_42 rfl hl 0 rfl ?_
      refine r_getR C hM3 jc11 0 1 dX11_restore_43 lk_X11_7 lr_0.1 lr_0.2 rfl rfl (by decide) rfl ?_
      refine r_iconst C dX11_restore_46 ?_
      replace h := bd_some h
      obtain ⟨M47, hf47, h⟩ := h
      refine r_callSV (As := [.ref (z + 4), .int (jI (1062 * x1)), .ref (z + 1), .int (jI 0)]) (rest := []) C hM3 (c_X11_copies l E z lr_4 hc4 lr_1 ⟨by decide, by decide⟩ hf47) jy_X11_copies lk_X11_346 dX11_restore_47 rfl rfl hl.1 (Nat.le_of_ble_eq_true rfl) ⟨Nat.le_of_ble_eq_true rfl, Nat.le_of_ble_eq_true rfl⟩ ⟨rfl, rfl⟩ ⟨Nat.zero_le _, Nat.zero_le _⟩ (fun H locs hM5 => ?_)
      refine r_aload_n C dX11_restore_50 rfl hl 0 rfl ?_
      refine r_iconst C dX11_restore_51 ?_
      refine r_putI C hM5 jc11 6 ⟨by decide, by decide⟩ dX11_restore_52 lk_X11_359 lr_0.1 lr_0.2 rfl rfl (by decide) rfl rfl rfl (Nat.le_of_ble_eq_true rfl) (by decide) (fun H locs hM6 => ?_)
      replace h := lt_some h
      obtain ⟨N7, eN7, h⟩ := h
      rw [← eN7] at hM6
      exact r_return C hM6 hr hlk h dX11_restore_55
    · replace h := ifp cq h
      exact r_return C hM3 hr hlk h dX11_restore_32
  replace h := jn_some h
  obtain ⟨k25, hk25, h⟩ := h
  have hJ25 : ∀ (_ : Unit), ∀ (H : Heap) (locs : List Loc) (ls : Array Slot), k25 () = some M' → HS E z LyR M sM H locs → lv_has ls 2 [(0, .ref (z + 0)), (1, .int (jI x1))] → W p l e ({ frames := 2, cells := 0, slots := 0, locals := 42 } : Room) sM m (([.ref (z + 0), .int (jI x1)] : List Value).toArray) below meth c H locs 0 0 (MQ below (va_Qv (fun (_ : Unit) => Mok LyR M') (fun _ t => va_P (eD E) vwCl (Wd (eC E) z LyR M') t.heap) (eA E)) (([.ref (z + 0), .int (jI x1)] : List Value).toArray) sM 0 0 (eA E)) (F0 m 25 ls [.int (jI r2), .ref (z + 0)]) := by
    intro _ H locs ls h hMj25 hl
    subst hk25
    try dsimp only at h
    refine r_iconst C dX11_restore_25 ?_
    exact hJ26 _ ⟨by decide, by decide⟩ _ _ _ h hMj25 (lv_sub hl [0, 1] rfl)
  refine r_if_eq C 25 hr6 dX11_restore_9 (by decide) (fun cq => ?_) (fun cq => ?_)
  · replace h := ifp cq h
    exact hJ25 () _ _ _ h hM2 (lv_sub hl [0, 1] rfl)
  · replace h := ifn cq h
    refine r_aload_n C dX11_restore_12 rfl hl 0 rfl ?_
    refine r_getR C hM2 jc11 5 6 dX11_restore_13 lk_X11_25 lr_0.1 lr_0.2 rfl rfl (by decide) rfl ?_
    refine r_iload_n C dX11_restore_16 rfl hl 1 rfl ?_
    replace h := ck_some h
    obtain ⟨hc8, h⟩ := h
    refine r_zald C hM2 rfl dX11_restore_17 lr_6.1 lr_6.2 hc8 hx1 ?_
    refine r_if_eq C 25 (hM0.ok _ _) dX11_restore_18 (by decide) (fun cq => ?_) (fun cq => ?_)
    · replace h := ifp cq h
      exact hJ25 () _ _ _ h hM2 (lv_sub hl [0, 1] rfl)
    · replace h := ifn cq h
      refine r_iconst C dX11_restore_21 ?_
      refine r_goto C 26 dX11_restore_22 (by decide) ?_
      exact hJ26 _ ⟨by decide, by decide⟩ _ _ _ h hM2 (lv_sub hl [0, 1] rfl)
