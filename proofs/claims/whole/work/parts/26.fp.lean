set_option maxRecDepth 100000 in
set_option maxHeartbeats 4000000 in
theorem c_X11_share (l : Launch) (E : jE) (z : Nat) {x1 : Int} {M M' : Mem} {r : UInt64} (hx1 : inR x1) (h : f_X11_share x1 M = some (r, M')) : CtD l yX11_share cX11_share 5 (some .double) { frames := 4, cells := 0, slots := 0, locals := 89 } E z LyR [.ref (z + 0), .int (jI x1)] M r M' := by
  refine jm (by decide +kernel) (Nat.le_of_ble_eq_true rfl) ?_
  intro p e sM m below meth c C hM0 hr hlk ls hl
  replace hl : lv_has ls 5 [(0, .ref (z + 0)), (1, .int (jI x1))] := hl
  unfold f_X11_share at h
  refine r_aload_n C dX11_share_0 rfl hl 0 rfl ?_
  refine r_iload_n C dX11_share_1 rfl hl 1 rfl ?_
  refine r_iconst C dX11_share_2 ?_
  refine r_iconst C dX11_share_3 ?_
  replace h := bd_some h
  obtain ⟨r4, hf4, h⟩ := h
  refine r_callSI (As := [.int (jI x1), .int (jI 0), .int (jI 5)]) (rest := [.ref (z + 0)]) C hM0 (c_X11_isIn l E z hx1 ⟨by decide, by decide⟩ ⟨by decide, by decide⟩ hf4) jy_X11_isIn lk_X11_112 dX11_share_4 rfl rfl hl.1 (Nat.le_of_ble_eq_true rfl) ⟨Nat.le_of_ble_eq_true rfl, Nat.le_of_ble_eq_true rfl⟩ ⟨rfl, rfl⟩ ⟨Nat.zero_le _, Nat.zero_le _⟩ (fun H locs hr4 hM1 => ?_)
  replace h := bd_some h
  obtain ⟨⟨r7, M7⟩, hf7, h⟩ := h
  try dsimp only at h
  refine r_callI (As := [.int (jI r4)]) (rest := []) C hM1 (c_X11_goes l E z hr4 hf7) jy_X11_goes lk_X11_239 dX11_share_7 (recvW C hM1 jc11 lr_0.1 lr_0.2 rfl) rfl rfl hl.1 (Nat.le_of_ble_eq_true rfl) ⟨Nat.le_of_ble_eq_true rfl, Nat.le_of_ble_eq_true rfl⟩ ⟨rfl, rfl⟩ ⟨Nat.zero_le _, Nat.zero_le _⟩ (fun H locs hr7 hM2 => ?_)
  refine r_if_ne C 15 hr7 dX11_share_10 (by decide) (fun cq => ?_) (fun cq => ?_)
  · replace h := ifn cq h
    refine r_aload_n C dX11_share_15 rfl hl 0 rfl ?_
    replace h := bd_some h
    obtain ⟨M16, hf16, h⟩ := h
    refine r_callV (As := []) (rest := []) C hM2 (c_X11_laysPieces l E z hf16) jy_X11_laysPieces lk_X11_209 dX11_share_16 (recvW C hM2 jc11 lr_0.1 lr_0.2 rfl) rfl rfl hl.1 (Nat.le_of_ble_eq_true rfl) ⟨Nat.le_of_ble_eq_true rfl, Nat.le_of_ble_eq_true rfl⟩ ⟨rfl, rfl⟩ ⟨Nat.zero_le _, Nat.zero_le _⟩ (fun H locs hM3 => ?_)
    refine r_aload_n C dX11_share_19 rfl hl 0 rfl ?_
    replace h := bd_some h
    obtain ⟨r20, hf20, h⟩ := h
    refine r_callI (As := []) (rest := []) C hM3 (c_X11_theEnd l E z hf20) jy_X11_theEnd lk_X11_196 dX11_share_20 (recvW C hM3 jc11 lr_0.1 lr_0.2 rfl) rfl rfl hl.1 (Nat.le_of_ble_eq_true rfl) ⟨Nat.le_of_ble_eq_true rfl, Nat.le_of_ble_eq_true rfl⟩ ⟨rfl, rfl⟩ ⟨Nat.zero_le _, Nat.zero_le _⟩ (fun H locs hr20 hM4 => ?_)
    refine r_istore_n C [(2, .int (jI r20)), (0, .ref (z + 0)), (1, .int (jI x1))] dX11_share_23 rfl hl (by decide) rfl (fun ls hl => ?_)
    refine r_iconst C dX11_share_24 ?_
    refine r_istore_n C [(3, .int (jI 0)), (2, .int (jI r20)), (0, .ref (z + 0)), (1, .int (jI x1))] dX11_share_25 rfl hl (by decide) rfl (fun ls hl => ?_)
    refine r_iconst C dX11_share_26 ?_
    refine r_istore C [(4, .int (jI 0)), (3, .int (jI 0)), (2, .int (jI r20)), (0, .ref (z + 0)), (1, .int (jI x1))] dX11_share_27 hl (by decide) rfl (fun ls hl => ?_)
    obtain ⟨y2, ey2⟩ : ∃ y : Int, y = r20 := ⟨_, rfl⟩
    have hy2 : inR y2 := by rw [ey2]; exact hr20
    have hL29 : ∀ n29 : Nat, ∀ (x3 : Int) (x4 : Int) (M : Mem), inR x3 → inR x4 → ∀ (H : Heap) (locs : List Loc) (ls : Array Slot), f_X11_share_L29 x1 y2 n29  x3 x4 M = some (r, M') → HS E z LyR M sM H locs → lv_has ls 5 [(0, .ref (z + 0)), (1, .int (jI x1)), (2, .int (jI y2)), (3, .int (jI x3)), (4, .int (jI x4))] → W p l e ({ frames := 4, cells := 0, slots := 0, locals := 89 } : Room) sM m (([.ref (z + 0), .int (jI x1)] : List Value).toArray) below meth c H locs 0 0 (MQ below (va_Qd (fun (w : UInt64) (_ : Unit) => w = r ∧ Mok LyR M') (fun _ t => va_P (eD E) vwCl (Wd (eC E) z LyR M') t.heap) (eA E)) (([.ref (z + 0), .int (jI x1)] : List Value).toArray) sM 0 0 (eA E)) (F0 m 29 ls []) := by
      intro n29
      induction n29 with
      | zero =>
        intro x3 x4 M hx3 hx4 H locs ls h hM hl
        exact absurd h (by simp [f_X11_share_L29])
      | succ n29 ih29 =>
        intro x3 x4 M hx3 hx4 H locs ls h hM hl
        rw [f_X11_share_L29] at h
        refine r_iload C dX11_share_29 hl 4 rfl ?_
        refine r_iload_n C dX11_share_31 rfl hl 2 rfl ?_
        refine r_icmp_ge C 54 hx4 hy2 dX11_share_32 (by decide) (fun cq => ?_) (fun cq => ?_)
        · replace h := ifp cq h
          refine r_iload_n C dX11_share_54 rfl hl 2 rfl ?_
          refine r_if_ne C 62 hy2 dX11_share_55 (by decide) (fun cq => ?_) (fun cq => ?_)
          · replace h := ifn cq h
            refine r_iload_n C dX11_share_62 rfl hl 3 rfl ?_
            refine lv_i2d C.1.1 C.1.2.1 dX11_share_63 ?_
            refine r_iload_n C dX11_share_64 rfl hl 2 rfl ?_
            refine lv_i2d C.1.1 C.1.2.1 dX11_share_65 ?_
            replace h := ck_some h
            obtain ⟨hc5, h⟩ := h
            refine lv_ddiv C.1.1 C.1.2.1 dX11_share_66 hc5 ?_
            exact r_dreturnM C hM hr hlk h dX11_share_67
          · replace h := ifp cq h
            refine lv_dconst0 C.1.1 C.1.2.1 dX11_share_58 ?_
            refine r_goto C 67 dX11_share_59 (by decide) ?_
            exact r_dreturnM C hM hr hlk h dX11_share_67
        · replace h := ifn cq h
          refine r_iload_n C dX11_share_35 rfl hl 3 rfl ?_
          refine r_aload_n C dX11_share_36 rfl hl 0 rfl ?_
          refine r_iload_n C dX11_share_37 rfl hl 1 rfl ?_
          refine r_iload C dX11_share_38 hl 4 rfl ?_
          replace h := bd_some h
          obtain ⟨r40, hf40, h⟩ := h
          refine r_callI (As := [.int (jI x1), .int (jI x4)]) (rest := [.int (jI x3)]) C hM (c_X11_isBy l E z hx1 hx4 hf40) jy_X11_isBy lk_X11_459 dX11_share_40 (recvW C hM jc11 lr_0.1 lr_0.2 rfl) rfl rfl hl.1 (Nat.le_of_ble_eq_true rfl) ⟨Nat.le_of_ble_eq_true rfl, Nat.le_of_ble_eq_true rfl⟩ ⟨rfl, rfl⟩ ⟨Nat.zero_le _, Nat.zero_le _⟩ (fun H locs hr40 hM6 => ?_)
          replace h := bd_some h
          obtain ⟨r43, hf43, h⟩ := h
          refine r_callSI (As := [.int (jI r40)]) (rest := [.int (jI x3)]) C hM6 (c_X11_bit l E z hr40 hf43) jy_X11_bit lk_X11_133 dX11_share_43 rfl rfl hl.1 (Nat.le_of_ble_eq_true rfl) ⟨Nat.le_of_ble_eq_true rfl, Nat.le_of_ble_eq_true rfl⟩ ⟨rfl, rfl⟩ ⟨Nat.zero_le _, Nat.zero_le _⟩ (fun H locs hr43 hM7 => ?_)
          replace h := ck_some h
          obtain ⟨hc8, h⟩ := h
          refine r_iadd C dX11_share_46 ?_
          refine r_istore_n C [(3, .int (jI (x3 + r43))), (0, .ref (z + 0)), (1, .int (jI x1)), (2, .int (jI y2)), (4, .int (jI x4))] dX11_share_47 rfl hl (by decide) rfl (fun ls hl => ?_)
          replace h := ck_some h
          obtain ⟨hc9, h⟩ := h
          refine r_iinc (j := 4) (x := x4) C [(4, .int (jI (x4 + 1))), (3, .int (jI (x3 + r43))), (0, .ref (z + 0)), (1, .int (jI x1)), (2, .int (jI y2))] dX11_share_48 hl rfl (by decide) rfl (fun ls hl => ?_)
          refine r_goto C 29 dX11_share_51 (by decide) ?_
          exact ih29 _ _ _ hc8 hc9 _ _ _ h hM7 (lv_sub hl [2, 3, 4, 1, 0] rfl)
    rw [← ey2] at h
    have hl := lv_sub (l' := [(0, .ref (z + 0)), (1, .int (jI x1)), (2, .int (jI y2)), (3, .int (jI 0)), (4, .int (jI 0))]) hl [3, 4, 2, 1, 0] (by rw [ey2]; rfl)
    exact hL29 jFuel _ _ _ ⟨by decide, by decide⟩ ⟨by decide, by decide⟩ _ _ _ h hM4 hl
  · replace h := ifp cq h
    refine lv_dconst0 C.1.1 C.1.2.1 dX11_share_13 ?_
    exact r_dreturnM C hM2 hr hlk h dX11_share_14
set_option maxRecDepth 100000 in
set_option maxHeartbeats 4000000 in
theorem c_X11_pace (l : Launch) (E : jE) (z : Nat) {M M' : Mem} {r : UInt32} (h : f_X11_pace M = some (r, M')) : CtF l yX11_pace cX11_pace 1 (some .float) { frames := 4, cells := 0, slots := 0, locals := 89 } E z LyR [.ref (z + 0)] M r M' := by
  refine jm (by decide +kernel) (Nat.le_of_ble_eq_true rfl) ?_
  intro p e sM m below meth c C hM0 hr hlk ls hl
  replace hl : lv_has ls 1 [(0, .ref (z + 0))] := hl
  unfold f_X11_pace at h
  refine r_aload_n C dX11_pace_0 rfl hl 0 rfl ?_
  refine r_iconst C dX11_pace_1 ?_
  refine r_putI C hM0 jc11 7 ⟨by decide, by decide⟩ dX11_pace_2 lk_X11_105 lr_0.1 lr_0.2 rfl rfl (by decide) rfl rfl rfl (Nat.le_of_ble_eq_true rfl) (by decide) (fun H locs hM1 => ?_)
  replace h := lt_some h
  obtain ⟨N2, eN2, h⟩ := h
  rw [← eN2] at hM1
  refine r_aload_n C dX11_pace_5 rfl hl 0 rfl ?_
  refine r_getR C hM1 jc11 0 1 dX11_pace_6 lk_X11_7 lr_0.1 lr_0.2 rfl rfl (by decide) rfl ?_
  refine r_bipush C dX11_pace_9 rfl ?_
  refine r_iald C hM1 (rd_skip eN2 (by decide) rfl) dX11_pace_11 lr_1.1 lr_1.2 (show (0 : Int) ≤ 9 ∧ (9 : Int) < 1062 by decide) ⟨by decide, by decide⟩ ?_
  refine r_if_ne C 19 (hM0.ok _ _) dX11_pace_12 (by decide) (fun cq => ?_) (fun cq => ?_)
  · replace h := ifn cq h
    refine r_aload_n C dX11_pace_19 rfl hl 0 rfl ?_
    replace h := bd_some h
    obtain ⟨r20, hf20, h⟩ := h
    refine r_callI (As := []) (rest := []) C hM1 (c_X11_allSyllables l E z hf20) jy_X11_allSyllables lk_X11_420 dX11_pace_20 (recvW C hM1 jc11 lr_0.1 lr_0.2 rfl) rfl rfl hl.1 (Nat.le_of_ble_eq_true rfl) ⟨Nat.le_of_ble_eq_true rfl, Nat.le_of_ble_eq_true rfl⟩ ⟨rfl, rfl⟩ ⟨Nat.zero_le _, Nat.zero_le _⟩ (fun H locs hr20 hM3 => ?_)
    refine lv_i2f C.1.1 C.1.2.1 dX11_pace_23 ?_
    refine r_aload_n C dX11_pace_24 rfl hl 0 rfl ?_
    refine r_getR C hM3 jc11 0 1 dX11_pace_25 lk_X11_7 lr_0.1 lr_0.2 rfl rfl (by decide) rfl ?_
    refine r_bipush C dX11_pace_28 rfl ?_
    refine r_iald C hM3 (rd_skip eN2 (by decide) rfl) dX11_pace_30 lr_1.1 lr_1.2 (show (0 : Int) ≤ 9 ∧ (9 : Int) < 1062 by decide) ⟨by decide, by decide⟩ ?_
    refine lv_i2f C.1.1 C.1.2.1 dX11_pace_31 ?_
    replace h := ck_some h
    obtain ⟨hc4, h⟩ := h
    refine lv_fdiv C.1.1 C.1.2.1 dX11_pace_32 hc4 ?_
    exact r_freturnM C hM3 hr hlk h dX11_pace_33
  · replace h := ifp cq h
    refine lv_fconst0 C.1.1 C.1.2.1 dX11_pace_15 ?_
    refine r_goto C 33 dX11_pace_16 (by decide) ?_
    exact r_freturnM C hM1 hr hlk h dX11_pace_33
set_option maxRecDepth 100000 in
set_option maxHeartbeats 4000000 in
theorem c_X10_share (l : Launch) (E : jE) (z : Nat) {x1 : Int} {M : Mem} {r : UInt64} (hx1 : inR x1) (h : f_X10_share x1 M = some r) : CtD l yX10_share cX10_share 4 (some .double) { frames := 2, cells := 0, slots := 0, locals := 43 } E z LyC [.ref (z + 0), .int (jI x1)] M r M := by
  refine jm (by decide +kernel) (Nat.le_of_ble_eq_true rfl) ?_
  intro p e sM m below meth c C hM0 hr hlk ls hl
  replace hl : lv_has ls 4 [(0, .ref (z + 0)), (1, .int (jI x1))] := hl
  unfold f_X10_share at h
  refine r_iload_n C dX10_share_0 rfl hl 1 rfl ?_
  refine r_bipush C dX10_share_1 rfl ?_
  replace h := bd_some h
  obtain ⟨_, hf3, h⟩ := h
  refine r_callSV (As := [.int (jI x1), .int (jI 6)]) (rest := []) C hM0 (c_X10_requireIndex l E z hx1 ⟨by decide, by decide⟩ hf3) jy_X10_requireIndex lk_X10_172 dX10_share_3 rfl rfl hl.1 (Nat.le_of_ble_eq_true rfl) ⟨Nat.le_of_ble_eq_true rfl, Nat.le_of_ble_eq_true rfl⟩ ⟨rfl, rfl⟩ ⟨Nat.zero_le _, Nat.zero_le _⟩ (fun H locs hM1 => ?_)
  refine r_aload_n C dX10_share_6 rfl hl 0 rfl ?_
  refine r_getR C hM1 jc10 9 56 dX10_share_7 lk_X10_54 lc_0.1 lc_0.2 rfl rfl (by decide) rfl ?_
  refine r_getI C hM1 jc5 1 rfl dX10_share_10 lk_X10_250 lc_56.1 lc_56.2 rfl rfl (by decide) rfl ?_
  refine r_if_ne C 18 (hM0.ok _ _) dX10_share_13 (by decide) (fun cq => ?_) (fun cq => ?_)
  · replace h := ifn cq h
    refine r_iconst C dX10_share_18 ?_
    refine r_istore_n C [(2, .int (jI 0)), (0, .ref (z + 0)), (1, .int (jI x1))] dX10_share_19 rfl hl (by decide) rfl (fun ls hl => ?_)
    refine r_iconst C dX10_share_20 ?_
    refine r_istore_n C [(3, .int (jI 0)), (2, .int (jI 0)), (0, .ref (z + 0)), (1, .int (jI x1))] dX10_share_21 rfl hl (by decide) rfl (fun ls hl => ?_)
    have hL22 : ∀ n22 : Nat, ∀ (x2 : Int) (x3 : Int), inR x2 → inR x3 → ∀ (H : Heap) (locs : List Loc) (ls : Array Slot), f_X10_share_L22 x1 M n22  x2 x3 = some r → HS E z LyC M sM H locs → lv_has ls 4 [(0, .ref (z + 0)), (1, .int (jI x1)), (2, .int (jI x2)), (3, .int (jI x3))] → W p l e ({ frames := 2, cells := 0, slots := 0, locals := 43 } : Room) sM m (([.ref (z + 0), .int (jI x1)] : List Value).toArray) below meth c H locs 0 0 (MQ below (va_Qd (fun (w : UInt64) (_ : Unit) => w = r ∧ Mok LyC M) (fun _ t => va_P (eD E) vwCl (Wd (eC E) z LyC M) t.heap) (eA E)) (([.ref (z + 0), .int (jI x1)] : List Value).toArray) sM 0 0 (eA E)) (F0 m 22 ls []) := by
      intro n22
      induction n22 with
      | zero =>
        intro x2 x3 hx2 hx3 H locs ls h hM hl
        exact absurd h (by simp [f_X10_share_L22])
      | succ n22 ih22 =>
        intro x2 x3 hx2 hx3 H locs ls h hM hl
        rw [f_X10_share_L22] at h
        refine r_iload_n C dX10_share_22 rfl hl 3 rfl ?_
        refine r_aload_n C dX10_share_23 rfl hl 0 rfl ?_
        refine r_getR C hM jc10 9 56 dX10_share_24 lk_X10_54 lc_0.1 lc_0.2 rfl rfl (by decide) rfl ?_
        refine r_getI C hM jc5 0 rfl dX10_share_27 lk_X10_230 lc_56.1 lc_56.2 rfl rfl (by decide) rfl ?_
        refine r_icmp_ge C 69 hx3 (hM.ok _ _) dX10_share_30 (by decide) (fun cq => ?_) (fun cq => ?_)
        · replace h := ifp cq h
          refine r_iload_n C dX10_share_69 rfl hl 2 rfl ?_
          refine lv_i2d C.1.1 C.1.2.1 dX10_share_70 ?_
          refine r_aload_n C dX10_share_71 rfl hl 0 rfl ?_
          refine r_getR C hM jc10 9 56 dX10_share_72 lk_X10_54 lc_0.1 lc_0.2 rfl rfl (by decide) rfl ?_
          refine r_getI C hM jc5 1 rfl dX10_share_75 lk_X10_250 lc_56.1 lc_56.2 rfl rfl (by decide) rfl ?_
          refine lv_i2d C.1.1 C.1.2.1 dX10_share_78 ?_
          replace h := ck_some h
          obtain ⟨hc2, h⟩ := h
          refine lv_ddiv C.1.1 C.1.2.1 dX10_share_79 hc2 ?_
          exact r_dreturn C hM hr hlk h rfl dX10_share_80
        · replace h := ifn cq h
          refine r_aload_n C dX10_share_33 rfl hl 0 rfl ?_
          refine r_getR C hM jc10 9 56 dX10_share_34 lk_X10_54 lc_0.1 lc_0.2 rfl rfl (by decide) rfl ?_
          refine r_iload_n C dX10_share_37 rfl hl 3 rfl ?_
          refine r_aload_n C dX10_share_38 rfl hl 0 rfl ?_
          refine r_getR C hM jc10 2 5 dX10_share_39 lk_X10_26 lc_0.1 lc_0.2 rfl rfl (by decide) rfl ?_
          refine r_getR C hM jc7 0 6 dX10_share_42 lk_X10_101 lc_5.1 lc_5.2 rfl rfl (by decide) rfl ?_
          replace h := bd_some h
          obtain ⟨r45, hf45, h⟩ := h
          refine r_callI (As := [.int (jI x3), .ref (z + 6)]) (rest := []) C hM (c_X5_cameraOf l E z hx3 (show isSt 5 by decide) hf45) jy_X5_cameraOf lk_X10_279 dX10_share_45 (recvW C hM jc5 lc_56.1 lc_56.2 rfl) rfl rfl hl.1 (Nat.le_of_ble_eq_true rfl) ⟨Nat.le_of_ble_eq_true rfl, Nat.le_of_ble_eq_true rfl⟩ ⟨rfl, rfl⟩ ⟨Nat.zero_le _, Nat.zero_le _⟩ (fun H locs hr45 hM3 => ?_)
          refine r_iload_n C dX10_share_48 rfl hl 1 rfl ?_
          refine r_icmp_ne C 63 hr45 hx1 dX10_share_49 (by decide) (fun cq => ?_) (fun cq => ?_)
          · replace h := ifn cq h
            replace h := ck_some h
            obtain ⟨hc4, h⟩ := h
            refine r_iinc (j := 3) (x := x3) C [(3, .int (jI (x3 + 1))), (0, .ref (z + 0)), (1, .int (jI x1)), (2, .int (jI x2))] dX10_share_63 hl rfl (by decide) rfl (fun ls hl => ?_)
            refine r_goto C 22 dX10_share_66 (by decide) ?_
            exact ih22 _ _ hx2 hc4 _ _ _ h hM3 (lv_sub hl [1, 2, 3, 0] rfl)
          · replace h := ifp cq h
            refine r_iload_n C dX10_share_52 rfl hl 2 rfl ?_
            refine r_aload_n C dX10_share_53 rfl hl 0 rfl ?_
            refine r_getR C hM3 jc10 9 56 dX10_share_54 lk_X10_54 lc_0.1 lc_0.2 rfl rfl (by decide) rfl ?_
            refine r_iload_n C dX10_share_57 rfl hl 3 rfl ?_
            replace h := bd_some h
            obtain ⟨r58, hf58, h⟩ := h
            refine r_callI (As := [.int (jI x3)]) (rest := [.int (jI x2)]) C hM3 (c_X5_framesOnScreen l E z hx3 hf58) jy_X5_framesOnScreen lk_X10_282 dX10_share_58 (recvW C hM3 jc5 lc_56.1 lc_56.2 rfl) rfl rfl hl.1 (Nat.le_of_ble_eq_true rfl) ⟨Nat.le_of_ble_eq_true rfl, Nat.le_of_ble_eq_true rfl⟩ ⟨rfl, rfl⟩ ⟨Nat.zero_le _, Nat.zero_le _⟩ (fun H locs hr58 hM5 => ?_)
            replace h := ck_some h
            obtain ⟨hc6, h⟩ := h
            refine r_iadd C dX10_share_61 ?_
            refine r_istore_n C [(2, .int (jI (x2 + r58))), (0, .ref (z + 0)), (1, .int (jI x1)), (3, .int (jI x3))] dX10_share_62 rfl hl (by decide) rfl (fun ls hl => ?_)
            replace h := ck_some h
            obtain ⟨hc7, h⟩ := h
            refine r_iinc (j := 3) (x := x3) C [(3, .int (jI (x3 + 1))), (2, .int (jI (x2 + r58))), (0, .ref (z + 0)), (1, .int (jI x1))] dX10_share_63 hl rfl (by decide) rfl (fun ls hl => ?_)
            refine r_goto C 22 dX10_share_66 (by decide) ?_
            exact ih22 _ _ hc6 hc7 _ _ _ h hM5 (lv_sub hl [2, 3, 1, 0] rfl)
    exact hL22 jFuel _ _ ⟨by decide, by decide⟩ ⟨by decide, by decide⟩ _ _ _ h hM1 (lv_sub hl [2, 3, 1, 0] rfl)
  · replace h := ifp cq h
    refine lv_dconst0 C.1.1 C.1.2.1 dX10_share_16 ?_
    exact r_dreturn C hM1 hr hlk h rfl dX10_share_17
set_option maxRecDepth 100000 in
set_option maxHeartbeats 4000000 in
theorem c_X10_pace (l : Launch) (E : jE) (z : Nat) {M : Mem} {r : UInt32} (h : f_X10_pace M = some r) : CtF l yX10_pace cX10_pace 1 (some .float) { frames := 1, cells := 0, slots := 0, locals := 22 } E z LyC [.ref (z + 0)] M r M := by
  refine jm (by decide +kernel) (Nat.le_of_ble_eq_true rfl) ?_
  intro p e sM m below meth c C hM0 hr hlk ls hl
  replace hl : lv_has ls 1 [(0, .ref (z + 0))] := hl
  unfold f_X10_pace at h
  refine r_aload_n C dX10_pace_0 rfl hl 0 rfl ?_
  refine r_getR C hM0 jc10 2 5 dX10_pace_1 lk_X10_26 lc_0.1 lc_0.2 rfl rfl (by decide) rfl ?_
  refine r_getR C hM0 jc7 1 16 dX10_pace_4 lk_X10_120 lc_5.1 lc_5.2 rfl rfl (by decide) rfl ?_
  refine r_getI C hM0 jc9 0 rfl dX10_pace_7 lk_X10_159 lc_16.1 lc_16.2 rfl rfl (by decide) rfl ?_
  refine r_if_ne C 15 (hM0.ok _ _) dX10_pace_10 (by decide) (fun cq => ?_) (fun cq => ?_)
  · replace h := ifn cq h
    refine r_aload_n C dX10_pace_15 rfl hl 0 rfl ?_
    refine r_getR C hM0 jc10 2 5 dX10_pace_16 lk_X10_26 lc_0.1 lc_0.2 rfl rfl (by decide) rfl ?_
    refine r_getR C hM0 jc7 1 16 dX10_pace_19 lk_X10_120 lc_5.1 lc_5.2 rfl rfl (by decide) rfl ?_
    replace h := bd_some h
    obtain ⟨r22, hf22, h⟩ := h
    refine r_callI (As := []) (rest := []) C hM0 (c_X9_allSyllables l E z (show isSt 5 by decide) hf22) jy_X9_allSyllables lk_X10_162 dX10_pace_22 (recvW C hM0 jc9 lc_16.1 lc_16.2 rfl) rfl rfl hl.1 (Nat.le_of_ble_eq_true rfl) ⟨Nat.le_of_ble_eq_true rfl, Nat.le_of_ble_eq_true rfl⟩ ⟨rfl, rfl⟩ ⟨Nat.zero_le _, Nat.zero_le _⟩ (fun H locs hr22 hM1 => ?_)
    refine lv_i2f C.1.1 C.1.2.1 dX10_pace_25 ?_
    refine r_aload_n C dX10_pace_26 rfl hl 0 rfl ?_
    refine r_getR C hM1 jc10 2 5 dX10_pace_27 lk_X10_26 lc_0.1 lc_0.2 rfl rfl (by decide) rfl ?_
    refine r_getR C hM1 jc7 1 16 dX10_pace_30 lk_X10_120 lc_5.1 lc_5.2 rfl rfl (by decide) rfl ?_
    refine r_getI C hM1 jc9 0 rfl dX10_pace_33 lk_X10_159 lc_16.1 lc_16.2 rfl rfl (by decide) rfl ?_
    refine lv_i2f C.1.1 C.1.2.1 dX10_pace_36 ?_
    replace h := ck_some h
    obtain ⟨hc2, h⟩ := h
    refine lv_fdiv C.1.1 C.1.2.1 dX10_pace_37 hc2 ?_
    exact r_freturn C hM1 hr hlk h rfl dX10_pace_38
  · replace h := ifp cq h
    refine lv_fconst0 C.1.1 C.1.2.1 dX10_pace_13 ?_
    exact r_freturn C hM0 hr hlk h rfl dX10_pace_14
