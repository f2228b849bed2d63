set_option maxRecDepth 100000 in
set_option maxHeartbeats 4000000 in
theorem c_X5_hasPieces (l : Launch) (E : jE) (z : Nat) {s0 : Nat} {x1 : Int} {x2 : Int} {M : Mem} {r : Int} (hs0 : isSt s0) (hx1 : inR x1) (hx2 : inR x2) (h : f_X5_hasPieces s0 x1 x2 M = some r) : CtI l yX5_hasPieces cX5_hasPieces 4 (some .boolean) { frames := 1, cells := 0, slots := 0, locals := 21 } E z LyC [.ref (z + (s0 + 17)), .int (jI x1), .int (jI x2)] M r M := by
  refine jm (by decide +kernel) (Nat.le_of_ble_eq_true rfl) ?_
  intro p e sM m below meth c C hM0 hr hlk ls hl
  replace hl : lv_has ls 4 [(0, .ref (z + (s0 + 17))), (1, .int (jI x1)), (2, .int (jI x2))] := hl
  unfold f_X5_hasPieces at h
  refine r_iload_n C dX5_hasPieces_0 rfl hl 1 rfl ?_
  refine r_istore_n C [(3, .int (jI x1)), (0, .ref (z + (s0 + 17))), (1, .int (jI x1)), (2, .int (jI x2))] dX5_hasPieces_1 rfl hl (by decide) rfl (fun ls hl => ?_)
  have hL2 : ∀ n2 : Nat, ∀ (x3 : Int), inR x3 → ∀ (H : Heap) (locs : List Loc) (ls : Array Slot), f_X5_hasPieces_L2 s0 x2 M n2  x3 = some r → HS E z LyC M sM H locs → lv_has ls 4 [(0, .ref (z + (s0 + 17))), (2, .int (jI x2)), (3, .int (jI x3))] → W p l e ({ frames := 1, cells := 0, slots := 0, locals := 21 } : Room) sM m (([.ref (z + (s0 + 17)), .int (jI x1), .int (jI x2)] : List Value).toArray) below meth c H locs 0 0 (MQ below (va_Qi (fun (w : Int32) (_ : Unit) => w = jI r ∧ inR r ∧ Mok LyC M) (fun _ t => va_P (eD E) vwCl (Wd (eC E) z LyC M) t.heap) (eA E)) (([.ref (z + (s0 + 17)), .int (jI x1), .int (jI x2)] : List Value).toArray) sM 0 0 (eA E)) (F0 m 2 ls []) := by
    intro n2
    induction n2 with
    | zero =>
      intro x3 hx3 H locs ls h hM hl
      exact absurd h (by simp [f_X5_hasPieces_L2])
    | succ n2 ih2 =>
      intro x3 hx3 H locs ls h hM hl
      rw [f_X5_hasPieces_L2] at h
      refine r_iload_n C dX5_hasPieces_2 rfl hl 2 rfl ?_
      refine r_iload_n C dX5_hasPieces_3 rfl hl 1 rfl ?_
      refine r_icmp_ge C 23 hx3 hx2 dX5_hasPieces_4 (by decide) (fun cq => ?_) (fun cq => ?_)
      · replace h := ifp cq h
        refine r_iconst C dX5_hasPieces_23 ?_
        exact r_zreturn C hM hr hlk (Or.inl rfl) h rfl dX5_hasPieces_24
      · replace h := ifn cq h
        refine r_aload_n C dX5_hasPieces_7 rfl hl 0 rfl ?_
        refine r_iload_n C dX5_hasPieces_8 rfl hl 2 rfl ?_
        replace h := bd_some h
        obtain ⟨r9, hf9, h⟩ := h
        refine r_callI (As := [.int (jI x3)]) (rest := []) C hM (c_X2_isBlock l E z hs0 hx3 hf9) jy_X2_isBlock lk_X5_57 dX5_hasPieces_9 (recvW C hM jc2 (ls_17 hs0).1 (ls_17 hs0).2 rfl) rfl rfl hl.1 (Nat.le_of_ble_eq_true rfl) ⟨Nat.le_of_ble_eq_true rfl, Nat.le_of_ble_eq_true rfl⟩ ⟨rfl, rfl⟩ ⟨Nat.zero_le _, Nat.zero_le _⟩ (fun H locs hr9 hM1 => ?_)
        refine r_if_ne C 17 hr9 dX5_hasPieces_12 (by decide) (fun cq => ?_) (fun cq => ?_)
        · replace h := ifn cq h
          replace h := ck_some h
          obtain ⟨hc2, h⟩ := h
          refine r_iinc (j := 2) (x := x3) C [(3, .int (jI (x3 + 1))), (0, .ref (z + (s0 + 17))), (2, .int (jI x2))] dX5_hasPieces_17 hl rfl (by decide) rfl (fun ls hl => ?_)
          refine r_goto C 2 dX5_hasPieces_20 (by decide) ?_
          exact ih2 _ hc2 _ _ _ h hM1 (lv_sub hl [1, 2, 0] rfl)
        · replace h := ifp cq h
          refine r_iconst C dX5_hasPieces_15 ?_
          exact r_zreturn C hM1 hr hlk (Or.inr rfl) h rfl dX5_hasPieces_16
  exact hL2 jFuel _ hx1 _ _ _ h hM0 (lv_sub hl [1, 3, 0] rfl)
set_option maxRecDepth 100000 in
set_option maxHeartbeats 4000000 in
theorem c_X5_endOf (l : Launch) (E : jE) (z : Nat) {x1 : Int} {M : Mem} {r : Int} (hx1 : inR x1) (h : f_X5_endOf x1 M = some r) : CtI l yX5_endOf cX5_endOf 2 (some .int) { frames := 0, cells := 0, slots := 0, locals := 0 } E z LyC [.ref (z + 56), .int (jI x1)] M r M := by
  refine jm (by decide +kernel) (Nat.le_of_ble_eq_true rfl) ?_
  intro p e sM m below meth c C hM0 hr hlk ls hl
  replace hl : lv_has ls 2 [(0, .ref (z + 56)), (1, .int (jI x1))] := hl
  unfold f_X5_endOf at h
  refine r_iload_n C dX5_endOf_0 rfl hl 1 rfl ?_
  refine r_if_lt C 26 hx1 dX5_endOf_1 (by decide) (fun cq => ?_) (fun cq => ?_)
  · replace h := ifp cq h
    refine r_iconst C dX5_endOf_26 ?_
    exact r_ireturn C hM0 hr hlk ⟨by decide, by decide⟩ h rfl dX5_endOf_27
  · replace h := ifn cq h
    refine r_iload_n C dX5_endOf_4 rfl hl 1 rfl ?_
    refine r_bipush C dX5_endOf_5 rfl ?_
    refine r_icmp_ge C 26 hx1 ⟨by decide, by decide⟩ dX5_endOf_7 (by decide) (fun cq => ?_) (fun cq => ?_)
    · replace h := ifp cq h
      refine r_iconst C dX5_endOf_26 ?_
      exact r_ireturn C hM0 hr hlk ⟨by decide, by decide⟩ h rfl dX5_endOf_27
    · replace h := ifn cq h
      refine r_aload_n C dX5_endOf_10 rfl hl 0 rfl ?_
      refine r_getR C hM0 jc5 6 61 dX5_endOf_11 lk_X5_31 lc_56.1 lc_56.2 rfl rfl (by decide) rfl ?_
      refine r_iload_n C dX5_endOf_14 rfl hl 1 rfl ?_
      replace h := ck_some h
      obtain ⟨hc1, h⟩ := h
      refine r_iald C hM0 rfl dX5_endOf_15 lc_61.1 lc_61.2 hc1 hx1 ?_
      refine r_aload_n C dX5_endOf_16 rfl hl 0 rfl ?_
      refine r_getR C hM0 jc5 5 60 dX5_endOf_17 lk_X5_28 lc_56.1 lc_56.2 rfl rfl (by decide) rfl ?_
      refine r_iload_n C dX5_endOf_20 rfl hl 1 rfl ?_
      refine r_iald C hM0 rfl dX5_endOf_21 lc_60.1 lc_60.2 hc1 hx1 ?_
      replace h := ck_some h
      obtain ⟨hc2, h⟩ := h
      refine r_iadd C dX5_endOf_22 ?_
      refine r_goto C 27 dX5_endOf_23 (by decide) ?_
      exact r_ireturn C hM0 hr hlk hc2 h rfl dX5_endOf_27
set_option maxRecDepth 100000 in
set_option maxHeartbeats 4000000 in
theorem c_X5_overlapOf (l : Launch) (E : jE) (z : Nat) {x1 : Int} {M : Mem} {r : Int} (hx1 : inR x1) (h : f_X5_overlapOf x1 M = some r) : CtI l yX5_overlapOf cX5_overlapOf 3 (some .int) { frames := 1, cells := 0, slots := 0, locals := 13 } E z LyC [.ref (z + 56), .int (jI x1)] M r M := by
  refine jm (by decide +kernel) (Nat.le_of_ble_eq_true rfl) ?_
  intro p e sM m below meth c C hM0 hr hlk ls hl
  replace hl : lv_has ls 3 [(0, .ref (z + 56)), (1, .int (jI x1))] := hl
  unfold f_X5_overlapOf at h
  refine r_iload_n C dX5_overlapOf_0 rfl hl 1 rfl ?_
  refine r_iconst C dX5_overlapOf_1 ?_
  refine r_icmp_lt C 27 hx1 ⟨by decide, by decide⟩ dX5_overlapOf_2 (by decide) (fun cq => ?_) (fun cq => ?_)
  · replace h := ifp cq h
    refine r_iconst C dX5_overlapOf_27 ?_
    exact r_ireturn C hM0 hr hlk ⟨by decide, by decide⟩ h rfl dX5_overlapOf_28
  · replace h := ifn cq h
    refine r_iload_n C dX5_overlapOf_5 rfl hl 1 rfl ?_
    refine r_bipush C dX5_overlapOf_6 rfl ?_
    refine r_icmp_ge C 27 hx1 ⟨by decide, by decide⟩ dX5_overlapOf_8 (by decide) (fun cq => ?_) (fun cq => ?_)
    · replace h := ifp cq h
      refine r_iconst C dX5_overlapOf_27 ?_
      exact r_ireturn C hM0 hr hlk ⟨by decide, by decide⟩ h rfl dX5_overlapOf_28
    · replace h := ifn cq h
      refine r_aload_n C dX5_overlapOf_11 rfl hl 0 rfl ?_
      refine r_getI C hM0 jc5 9 rfl dX5_overlapOf_12 lk_X5_40 lc_56.1 lc_56.2 rfl rfl (by decide) rfl ?_
      refine r_iconst C dX5_overlapOf_15 ?_
      refine r_icmp_lt C 27 (hM0.ok _ _) ⟨by decide, by decide⟩ dX5_overlapOf_16 (by decide) (fun cq => ?_) (fun cq => ?_)
      · replace h := ifp cq h
        refine r_iconst C dX5_overlapOf_27 ?_
        exact r_ireturn C hM0 hr hlk ⟨by decide, by decide⟩ h rfl dX5_overlapOf_28
      · replace h := ifn cq h
        refine r_aload_n C dX5_overlapOf_19 rfl hl 0 rfl ?_
        refine r_getI C hM0 jc5 9 rfl dX5_overlapOf_20 lk_X5_40 lc_56.1 lc_56.2 rfl rfl (by decide) rfl ?_
        refine r_iconst C dX5_overlapOf_23 ?_
        refine r_icmp_le C 29 (hM0.ok _ _) ⟨by decide, by decide⟩ dX5_overlapOf_24 (by decide) (fun cq => ?_) (fun cq => ?_)
        · replace h := ifp cq h
          refine r_aload_n C dX5_overlapOf_29 rfl hl 0 rfl ?_
          refine r_getR C hM0 jc5 5 60 dX5_overlapOf_30 lk_X5_28 lc_56.1 lc_56.2 rfl rfl (by decide) rfl ?_
          refine r_iload_n C dX5_overlapOf_33 rfl hl 1 rfl ?_
          refine r_iconst C dX5_overlapOf_34 ?_
          replace h := ck_some h
          obtain ⟨hc1, h⟩ := h
          refine r_isub C dX5_overlapOf_35 ?_
          replace h := ck_some h
          obtain ⟨hc2, h⟩ := h
          refine r_iald C hM0 rfl dX5_overlapOf_36 lc_60.1 lc_60.2 hc2 hc1 ?_
          refine r_aload_n C dX5_overlapOf_37 rfl hl 0 rfl ?_
          refine r_getR C hM0 jc5 5 60 dX5_overlapOf_38 lk_X5_28 lc_56.1 lc_56.2 rfl rfl (by decide) rfl ?_
          refine r_iload_n C dX5_overlapOf_41 rfl hl 1 rfl ?_
          replace h := ck_some h
          obtain ⟨hc3, h⟩ := h
          refine r_iald C hM0 rfl dX5_overlapOf_42 lc_60.1 lc_60.2 hc3 hx1 ?_
          refine r_min C (hM0.ok _ _) (hM0.ok _ _) lk_X5_75 dX5_overlapOf_43 hl.1 ⟨Nat.le_of_ble_eq_true rfl, Nat.le_of_ble_eq_true rfl⟩ ⟨Nat.zero_le _, Nat.zero_le _⟩ ?_
          refine r_istore_n C [(2, .int (jI (min (M 60 (x1 - 1).toNat) (M 60 x1.toNat)))), (0, .ref (z + 56)), (1, .int (jI x1))] dX5_overlapOf_46 rfl hl (by decide) rfl (fun ls hl => ?_)
          refine r_aload_n C dX5_overlapOf_47 rfl hl 1 rfl ?_
          refine r_getR C hM0 jc5 8 63 dX5_overlapOf_48 lk_X5_37 lc_56.1 lc_56.2 rfl rfl (by decide) rfl ?_
          refine r_aload_n C dX5_overlapOf_51 rfl hl 1 rfl ?_
          refine r_getI C hM0 jc5 9 rfl dX5_overlapOf_52 lk_X5_40 lc_56.1 lc_56.2 rfl rfl (by decide) rfl ?_
          replace h := ck_some h
          obtain ⟨hc4, h⟩ := h
          refine r_iald C hM0 rfl dX5_overlapOf_55 lc_63.1 lc_63.2 hc4 (hM0.ok _ _) ?_
          refine r_iload_n C dX5_overlapOf_56 rfl hl 0 rfl ?_
          refine r_iconst C dX5_overlapOf_57 ?_
          refine r_idiv C ⟨by decide, by decide⟩ (by decide) dX5_overlapOf_58 ?_
          refine r_min C (hM0.ok _ _) (idiv_R _ _) lk_X5_75 dX5_overlapOf_59 hl.1 ⟨Nat.le_of_ble_eq_true rfl, Nat.le_of_ble_eq_true rfl⟩ ⟨Nat.zero_le _, Nat.zero_le _⟩ ?_
          exact r_ireturn C hM0 hr hlk (min_R (hM0.ok _ _) (idiv_R _ _)) h rfl dX5_overlapOf_62
        · replace h := ifn cq h
          refine r_iconst C dX5_overlapOf_27 ?_
          exact r_ireturn C hM0 hr hlk ⟨by decide, by decide⟩ h rfl dX5_overlapOf_28
set_option maxRecDepth 100000 in
set_option maxHeartbeats 4000000 in
theorem c_X5_addPiece (l : Launch) (E : jE) (z : Nat) {s1 : Nat} {x2 : Int} {x3 : Int} {M M' : Mem} (hs1 : isSt s1) (hx2 : inR x2) (hx3 : inR x3) (h : f_X5_addPiece s1 x2 x3 M = some M') : CtV l yX5_addPiece cX5_addPiece 4 none { frames := 2, cells := 0, slots := 0, locals := 35 } E z LyC [.ref (z + 56), .ref (z + (s1 + 17)), .int (jI x2), .int (jI x3)] M M' := by
  refine jm (by decide +kernel) (Nat.le_of_ble_eq_true rfl) ?_
  intro p e sM m below meth c C hM0 hr hlk ls hl
  replace hl : lv_has ls 4 [(0, .ref (z + 56)), (1, .ref (z + (s1 + 17))), (2, .int (jI x2)), (3, .int (jI x3))] := hl
  unfold f_X5_addPiece at h
  refine r_aload_n C dX5_addPiece_0 rfl hl 0 rfl ?_
  refine r_getI C hM0 jc5 0 rfl dX5_addPiece_1 lk_X5_9 lc_56.1 lc_56.2 rfl rfl (by decide) rfl ?_
  refine r_bipush C dX5_addPiece_4 rfl ?_
  refine r_icmp_lt C 10 (hM0.ok _ _) ⟨by decide, by decide⟩ dX5_addPiece_6 (by decide) (fun cq => ?_) (fun cq => ?_)
  · replace h := ifp cq h
    refine r_aload_n C dX5_addPiece_10 rfl hl 0 rfl ?_
    refine r_getR C hM0 jc5 2 57 dX5_addPiece_11 lk_X5_18 lc_56.1 lc_56.2 rfl rfl (by decide) rfl ?_
    refine r_aload_n C dX5_addPiece_14 rfl hl 0 rfl ?_
    refine r_getI C hM0 jc5 0 rfl dX5_addPiece_15 lk_X5_9 lc_56.1 lc_56.2 rfl rfl (by decide) rfl ?_
    refine r_aload_n C dX5_addPiece_18 rfl hl 1 rfl ?_
    refine r_getR C hM0 jc2 1 (s1 + 18) dX5_addPiece_19 lk_X5_73 (ls_17 hs1).1 (ls_17 hs1).2 rfl rfl (by decide) rfl ?_
    refine r_iload_n C dX5_addPiece_22 rfl hl 2 rfl ?_
    replace h := ck_some h
    obtain ⟨hc1, h⟩ := h
    refine r_iald C hM0 rfl dX5_addPiece_23 (ls_18 hs1).1 (ls_18 hs1).2 hc1 hx2 ?_
    replace h := ck_some h
    obtain ⟨hc2, h⟩ := h
    refine r_iast C hM0 dX5_addPiece_24 lc_57.1 lc_57.2 hc2 (hM0.ok _ _) (hM0.ok _ _) (fun H locs hM3 => ?_)
    replace h := lt_some h
    obtain ⟨N4, eN4, h⟩ := h
    rw [← eN4] at hM3
    refine r_aload_n C dX5_addPiece_25 rfl hl 0 rfl ?_
    refine r_getR C hM3 jc5 3 58 dX5_addPiece_26 lk_X5_22 lc_56.1 lc_56.2 rfl rfl (by decide) rfl ?_
    refine r_aload_n C dX5_addPiece_29 rfl hl 0 rfl ?_
    refine r_getI C hM3 jc5 0 (rd_skip eN4 (by decide) rfl) dX5_addPiece_30 lk_X5_9 lc_56.1 lc_56.2 rfl rfl (by decide) rfl ?_
    refine r_aload_n C dX5_addPiece_33 rfl hl 1 rfl ?_
    refine r_getR C hM3 jc2 2 (s1 + 19) dX5_addPiece_34 lk_X5_74 (ls_17 hs1).1 (ls_17 hs1).2 rfl rfl (by decide) rfl ?_
    refine r_iload_n C dX5_addPiece_37 rfl hl 2 rfl ?_
    refine r_iald C hM3 rfl dX5_addPiece_38 (ls_19 hs1).1 (ls_19 hs1).2 hc1 hx2 ?_
    refine r_iast C hM3 dX5_addPiece_39 lc_58.1 lc_58.2 hc2 (hM0.ok _ _) (hM3.ok _ _) (fun H locs hM5 => ?_)
    replace h := lt_some h
    obtain ⟨N6, eN6, h⟩ := h
    rw [← eN6] at hM5
    refine r_aload_n C dX5_addPiece_40 rfl hl 0 rfl ?_
    refine r_getR C hM5 jc5 4 59 dX5_addPiece_41 lk_X5_25 lc_56.1 lc_56.2 rfl rfl (by decide) rfl ?_
    refine r_aload_n C dX5_addPiece_44 rfl hl 0 rfl ?_
    refine r_getI C hM5 jc5 0 (rd_skip eN6 (by decide) (rd_skip eN4 (by decide) rfl)) dX5_addPiece_45 lk_X5_9 lc_56.1 lc_56.2 rfl rfl (by decide) rfl ?_
    refine r_aload_n C dX5_addPiece_48 rfl hl 1 rfl ?_
    refine r_getR C hM5 jc2 3 (s1 + 20) dX5_addPiece_49 lk_X5_81 (ls_17 hs1).1 (ls_17 hs1).2 rfl rfl (by decide) rfl ?_
    refine r_iload_n C dX5_addPiece_52 rfl hl 2 rfl ?_
    refine r_iald C hM5 rfl dX5_addPiece_53 (ls_20 hs1).1 (ls_20 hs1).2 hc1 hx2 ?_
    refine r_iast C hM5 dX5_addPiece_54 lc_59.1 lc_59.2 hc2 (hM0.ok _ _) (hM5.ok _ _) (fun H locs hM7 => ?_)
    replace h := lt_some h
    obtain ⟨N8, eN8, h⟩ := h
    rw [← eN8] at hM7
    refine r_aload_n C dX5_addPiece_55 rfl hl 0 rfl ?_
    refine r_getR C hM7 jc5 5 60 dX5_addPiece_56 lk_X5_28 lc_56.1 lc_56.2 rfl rfl (by decide) rfl ?_
    refine r_aload_n C dX5_addPiece_59 rfl hl 0 rfl ?_
    refine r_getI C hM7 jc5 0 (rd_skip eN8 (by decide) (rd_skip eN6 (by decide) (rd_skip eN4 (by decide) rfl))) dX5_addPiece_60 lk_X5_9 lc_56.1 lc_56.2 rfl rfl (by decide) rfl ?_
    refine r_aload_n C dX5_addPiece_63 rfl hl 1 rfl ?_
    refine r_iload_n C dX5_addPiece_64 rfl hl 2 rfl ?_
    replace h := bd_some h
    obtain ⟨r65, hf65, h⟩ := h
    refine r_callI (As := [.int (jI x2)]) (rest := [.int (jI (M 56 0)), .ref (z + 60)]) C hM7 (c_X2_framesOf l E z hs1 hx2 hf65) jy_X2_framesOf lk_X5_82 dX5_addPiece_65 (recvW C hM7 jc2 (ls_17 hs1).1 (ls_17 hs1).2 rfl) rfl rfl hl.1 (Nat.le_of_ble_eq_true rfl) ⟨Nat.le_of_ble_eq_true rfl, Nat.le_of_ble_eq_true rfl⟩ ⟨rfl, rfl⟩ ⟨Nat.zero_le _, Nat.zero_le _⟩ (fun H locs hr65 hM9 => ?_)
    refine r_iast C hM9 dX5_addPiece_68 lc_60.1 lc_60.2 hc2 (hM0.ok _ _) hr65 (fun H locs hM10 => ?_)
    replace h := lt_some h
    obtain ⟨N11, eN11, h⟩ := h
    rw [← eN11] at hM10
    refine r_aload_n C dX5_addPiece_69 rfl hl 0 rfl ?_
    refine r_getR C hM10 jc5 7 62 dX5_addPiece_70 lk_X5_34 lc_56.1 lc_56.2 rfl rfl (by decide) rfl ?_
    refine r_aload_n C dX5_addPiece_73 rfl hl 0 rfl ?_
    refine r_getI C hM10 jc5 0 (rd_skip eN11 (by decide) (rd_skip eN8 (by decide) (rd_skip eN6 (by decide) (rd_skip eN4 (by decide) rfl)))) dX5_addPiece_74 lk_X5_9 lc_56.1 lc_56.2 rfl rfl (by decide) rfl ?_
    refine r_aload_n C dX5_addPiece_77 rfl hl 0 rfl ?_
    refine r_aload_n C dX5_addPiece_78 rfl hl 0 rfl ?_
    refine r_getI C hM10 jc5 0 (rd_skip eN11 (by decide) (rd_skip eN8 (by decide) (rd_skip eN6 (by decide) (rd_skip eN4 (by decide) rfl)))) dX5_addPiece_79 lk_X5_9 lc_56.1 lc_56.2 rfl rfl (by decide) rfl ?_
    replace h := bd_some h
    obtain ⟨r82, hf82, h⟩ := h
    refine r_callI (As := [.int (jI (M 56 0))]) (rest := [.int (jI (M 56 0)), .ref (z + 62)]) C hM10 (c_X5_overlapOf l E z (hM0.ok _ _) hf82) jy_X5_overlapOf lk_X5_85 dX5_addPiece_82 (recvW C hM10 jc5 lc_56.1 lc_56.2 rfl) rfl rfl hl.1 (Nat.le_of_ble_eq_true rfl) ⟨Nat.le_of_ble_eq_true rfl, Nat.le_of_ble_eq_true rfl⟩ ⟨rfl, rfl⟩ ⟨Nat.zero_le _, Nat.zero_le _⟩ (fun H locs hr82 hM12 => ?_)
    refine r_iast C hM12 dX5_addPiece_85 lc_62.1 lc_62.2 hc2 (hM0.ok _ _) hr82 (fun H locs hM13 => ?_)
    replace h := lt_some h
    obtain ⟨N14, eN14, h⟩ := h
    rw [← eN14] at hM13
    refine r_aload_n C dX5_addPiece_86 rfl hl 0 rfl ?_
    refine r_getR C hM13 jc5 6 61 dX5_addPiece_87 lk_X5_31 lc_56.1 lc_56.2 rfl rfl (by decide) rfl ?_
    refine r_aload_n C dX5_addPiece_90 rfl hl 0 rfl ?_
    refine r_getI C hM13 jc5 0 (rd_skip eN14 (by decide) (rd_skip eN11 (by decide) (rd_skip eN8 (by decide) (rd_skip eN6 (by decide) (rd_skip eN4 (by decide) rfl))))) dX5_addPiece_91 lk_X5_9 lc_56.1 lc_56.2 rfl rfl (by decide) rfl ?_
    refine r_aload_n C dX5_addPiece_94 rfl hl 0 rfl ?_
    refine r_getI C hM13 jc5 0 (rd_skip eN14 (by decide) (rd_skip eN11 (by decide) (rd_skip eN8 (by decide) (rd_skip eN6 (by decide) (rd_skip eN4 (by decide) rfl))))) dX5_addPiece_95 lk_X5_9 lc_56.1 lc_56.2 rfl rfl (by decide) rfl ?_
    replace h := jn_some h
    obtain ⟨k125, hk125, h⟩ := h
    have hJ125 : ∀ (v125 : Int), inR v125 → ∀ (H : Heap) (locs : List Loc) (ls : Array Slot), k125 v125 = some M' → HS E z LyC N14 sM H locs → lv_has ls 4 [(0, .ref (z + 56)), (3, .int (jI x3))] → W p l e ({ frames := 2, cells := 0, slots := 0, locals := 35 } : Room) sM m (([.ref (z + 56), .ref (z + (s1 + 17)), .int (jI x2), .int (jI x3)] : List Value).toArray) below meth c H locs 0 0 (MQ below (va_Qv (fun (_ : Unit) => Mok LyC M') (fun _ t => va_P (eD E) vwCl (Wd (eC E) z LyC M') t.heap) (eA E)) (([.ref (z + 56), .ref (z + (s1 + 17)), .int (jI x2), .int (jI x3)] : List Value).toArray) sM 0 0 (eA E)) (F0 m 125 ls [.int (jI v125), .int (jI (M 56 0)), .ref (z + 61)]) := by
      intro v125 hv125 H locs ls h hMj125 hl
      subst hk125
      try dsimp only at h
      refine r_iast C hMj125 dX5_addPiece_125 lc_61.1 lc_61.2 hc2 (hM0.ok _ _) hv125 (fun H locs hM15 => ?_)
      replace h := lt_some h
      obtain ⟨N16, eN16, h⟩ := h
      rw [← eN16] at hM15
      refine r_aload_n C dX5_addPiece_126 rfl hl 0 rfl ?_
      refine r_aload_n C dX5_addPiece_127 rfl hl 0 rfl ?_
      refine r_getI C hM15 jc5 1 (rd_skip eN16 (by decide) (rd_skip eN14 (by decide) (rd_skip eN11 (by decide) (rd_skip eN8 (by decide) (rd_skip eN6 (by decide) (rd_skip eN4 (by decide) rfl)))))) dX5_addPiece_128 lk_X5_15 lc_56.1 lc_56.2 rfl rfl (by decide) rfl ?_
      refine r_aload_n C dX5_addPiece_131 rfl hl 0 rfl ?_
      refine r_aload_n C dX5_addPiece_132 rfl hl 0 rfl ?_
      refine r_getI C hM15 jc5 0 (rd_skip eN16 (by decide) (rd_skip eN14 (by decide) (rd_skip eN11 (by decide) (rd_skip eN8 (by decide) (rd_skip eN6 (by decide) (rd_skip eN4 (by decide) rfl)))))) dX5_addPiece_133 lk_X5_9 lc_56.1 lc_56.2 rfl rfl (by decide) rfl ?_
      replace h := bd_some h
      obtain ⟨r136, hf136, h⟩ := h
      refine r_callI (As := [.int (jI (M 56 0))]) (rest := [.int (jI (M 56 1)), .ref (z + 56)]) C hM15 (c_X5_endOf l E z (hM0.ok _ _) hf136) jy_X5_endOf lk_X5_88 dX5_addPiece_136 (recvW C hM15 jc5 lc_56.1 lc_56.2 rfl) rfl rfl hl.1 (Nat.le_of_ble_eq_true rfl) ⟨Nat.le_of_ble_eq_true rfl, Nat.le_of_ble_eq_true rfl⟩ ⟨rfl, rfl⟩ ⟨Nat.zero_le _, Nat.zero_le _⟩ (fun H locs hr136 hM17 => ?_)
      refine r_max C (hM0.ok _ _) hr136 lk_X5_91 dX5_addPiece_139 hl.1 ⟨Nat.le_of_ble_eq_true rfl, Nat.le_of_ble_eq_true rfl⟩ ⟨Nat.zero_le _, Nat.zero_le _⟩ ?_
      refine r_putI C hM17 jc5 1 (max_R (hM0.ok _ _) hr136) dX5_addPiece_142 lk_X5_15 lc_56.1 lc_56.2 rfl rfl (by decide) rfl rfl rfl (Nat.le_of_ble_eq_true rfl) (by decide) (fun H locs hM18 => ?_)
      replace h := lt_some h
      obtain ⟨N19, eN19, h⟩ := h
      rw [← eN19] at hM18
      refine r_aload_n C dX5_addPiece_145 rfl hl 0 rfl ?_
      refine r_iload_n C dX5_addPiece_146 rfl hl 1 rfl ?_
      refine r_putI C hM18 jc5 9 hx3 dX5_addPiece_147 lk_X5_40 lc_56.1 lc_56.2 rfl rfl (by decide) rfl rfl rfl (Nat.le_of_ble_eq_true rfl) (by decide) (fun H locs hM20 => ?_)
      replace h := lt_some h
      obtain ⟨N21, eN21, h⟩ := h
      rw [← eN21] at hM20
      refine r_aload_n C dX5_addPiece_150 rfl hl 0 rfl ?_
      refine r_dup C dX5_addPiece_151 rfl ?_
      refine r_getI C hM20 jc5 0 (rd_slot eN21 (by decide) (rd_slot eN19 (by decide) (rd_skip eN16 (by decide) (rd_skip eN14 (by decide) (rd_skip eN11 (by decide) (rd_skip eN8 (by decide) (rd_skip eN6 (by decide) (rd_skip eN4 (by decide) rfl)))))))) dX5_addPiece_152 lk_X5_9 lc_56.1 lc_56.2 rfl rfl (by decide) rfl ?_
      refine r_iconst C dX5_addPiece_155 ?_
      replace h := ck_some h
      obtain ⟨hc22, h⟩ := h
      refine r_iadd C dX5_addPiece_156 ?_
      refine r_putI C hM20 jc5 0 hc22 dX5_addPiece_157 lk_X5_9 lc_56.1 lc_56.2 rfl rfl (by decide) rfl rfl rfl (Nat.le_of_ble_eq_true rfl) (by decide) (fun H locs hM23 => ?_)
      replace h := lt_some h
      obtain ⟨N24, eN24, h⟩ := h
      rw [← eN24] at hM23
      exact r_return C hM23 hr hlk h dX5_addPiece_160
    refine r_if_ne C 105 (hM0.ok _ _) dX5_addPiece_98 (by decide) (fun cq => ?_) (fun cq => ?_)
    · replace h := ifn cq h
      refine r_aload_n C dX5_addPiece_105 rfl hl 0 rfl ?_
      refine r_aload_n C dX5_addPiece_106 rfl hl 0 rfl ?_
      refine r_getI C hM13 jc5 0 (rd_skip eN14 (by decide) (rd_skip eN11 (by decide) (rd_skip eN8 (by decide) (rd_skip eN6 (by decide) (rd_skip eN4 (by decide) rfl))))) dX5_addPiece_107 lk_X5_9 lc_56.1 lc_56.2 rfl rfl (by decide) rfl ?_
      refine r_iconst C dX5_addPiece_110 ?_
      replace h := ck_some h
      obtain ⟨hc25, h⟩ := h
      refine r_isub C dX5_addPiece_111 ?_
      replace h := bd_some h
      obtain ⟨r112, hf112, h⟩ := h
      refine r_callI (As := [.int (jI ((M 56 0) - 1))]) (rest := [.int (jI (M 56 0)), .ref (z + 61)]) C hM13 (c_X5_endOf l E z hc25 hf112) jy_X5_endOf lk_X5_88 dX5_addPiece_112 (recvW C hM13 jc5 lc_56.1 lc_56.2 rfl) rfl rfl hl.1 (Nat.le_of_ble_eq_true rfl) ⟨Nat.le_of_ble_eq_true rfl, Nat.le_of_ble_eq_true rfl⟩ ⟨rfl, rfl⟩ ⟨Nat.zero_le _, Nat.zero_le _⟩ (fun H locs hr112 hM26 => ?_)
      refine r_aload_n C dX5_addPiece_115 rfl hl 0 rfl ?_
      refine r_getR C hM26 jc5 7 62 dX5_addPiece_116 lk_X5_34 lc_56.1 lc_56.2 rfl rfl (by decide) rfl ?_
      refine r_aload_n C dX5_addPiece_119 rfl hl 0 rfl ?_
      refine r_getI C hM26 jc5 0 (rd_skip eN14 (by decide) (rd_skip eN11 (by decide) (rd_skip eN8 (by decide) (rd_skip eN6 (by decide) (rd_skip eN4 (by decide) rfl))))) dX5_addPiece_120 lk_X5_9 lc_56.1 lc_56.2 rfl rfl (by decide) rfl ?_
      refine r_iald C hM26 rfl dX5_addPiece_123 lc_62.1 lc_62.2 hc2 (hM0.ok _ _) ?_
      replace h := ck_some h
      obtain ⟨hc27, h⟩ := h
      refine r_isub C dX5_addPiece_124 ?_
      exact hJ125 _ hc27 _ _ _ h hM26 (lv_sub hl [0, 3] rfl)
    · replace h := ifp cq h
      refine r_iconst C dX5_addPiece_101 ?_
      refine r_goto C 125 dX5_addPiece_102 (by decide) ?_
      exact hJ125 _ ⟨by decide, by decide⟩ _ _ _ h hM13 (lv_sub hl [0, 3] rfl)
  · replace h := ifn cq h
    exact r_return C hM0 hr hlk h dX5_addPiece_9
set_option maxRecDepth 100000 in
set_option maxHeartbeats 4000000 in
theorem c_X5_onScreen (l : Launch) (E : jE) (z : Nat) {x1 : Int} {M : Mem} {r : Int} (hx1 : inR x1) (h : f_X5_onScreen x1 M = some r) : CtI l yX5_onScreen cX5_onScreen 3 (some .int) { frames := 1, cells := 0, slots := 0, locals := 21 } E z LyC [.ref (z + 56), .int (jI x1)] M r M := by
  refine jm (by decide +kernel) (Nat.le_of_ble_eq_true rfl) ?_
  intro p e sM m below meth c C hM0 hr hlk ls hl
  replace hl : lv_has ls 3 [(0, .ref (z + 56)), (1, .int (jI x1))] := hl
  unfold f_X5_onScreen at h
  refine r_aload_n C dX5_onScreen_0 rfl hl 0 rfl ?_
  refine r_getI C hM0 jc5 0 rfl dX5_onScreen_1 lk_X5_9 lc_56.1 lc_56.2 rfl rfl (by decide) rfl ?_
  refine r_iconst C dX5_onScreen_4 ?_
  replace h := ck_some h
  obtain ⟨hc1, h⟩ := h
  refine r_isub C dX5_onScreen_5 ?_
  refine r_istore_n C [(2, .int (jI ((M 56 0) - 1))), (0, .ref (z + 56)), (1, .int (jI x1))] dX5_onScreen_6 rfl hl (by decide) rfl (fun ls hl => ?_)
  have hL7 : ∀ n7 : Nat, ∀ (x2 : Int), inR x2 → ∀ (H : Heap) (locs : List Loc) (ls : Array Slot), f_X5_onScreen_L7 x1 M n7  x2 = some r → HS E z LyC M sM H locs → lv_has ls 3 [(0, .ref (z + 56)), (1, .int (jI x1)), (2, .int (jI x2))] → W p l e ({ frames := 1, cells := 0, slots := 0, locals := 21 } : Room) sM m (([.ref (z + 56), .int (jI x1)] : List Value).toArray) below meth c H locs 0 0 (MQ below (va_Qi (fun (w : Int32) (_ : Unit) => w = jI r ∧ inR r ∧ Mok LyC M) (fun _ t => va_P (eD E) vwCl (Wd (eC E) z LyC M) t.heap) (eA E)) (([.ref (z + 56), .int (jI x1)] : List Value).toArray) sM 0 0 (eA E)) (F0 m 7 ls []) := by
    intro n7
    induction n7 with
    | zero =>
      intro x2 hx2 H locs ls h hM hl
      exact absurd h (by simp [f_X5_onScreen_L7])
    | succ n7 ih7 =>
      intro x2 hx2 H locs ls h hM hl
      rw [f_X5_onScreen_L7] at h
      refine r_iload_n C dX5_onScreen_7 rfl hl 2 rfl ?_
      refine r_if_lt C 38 hx2 dX5_onScreen_8 (by decide) (fun cq => ?_) (fun cq => ?_)
      · replace h := ifp cq h
        refine r_iconst C dX5_onScreen_38 ?_
        exact r_ireturn C hM hr hlk ⟨by decide, by decide⟩ h rfl dX5_onScreen_39
      · replace h := ifn cq h
        refine r_aload_n C dX5_onScreen_11 rfl hl 0 rfl ?_
        refine r_getR C hM jc5 6 61 dX5_onScreen_12 lk_X5_31 lc_56.1 lc_56.2 rfl rfl (by decide) rfl ?_
        refine r_iload_n C dX5_onScreen_15 rfl hl 2 rfl ?_
        replace h := ck_some h
        obtain ⟨hc2, h⟩ := h
        refine r_iald C hM rfl dX5_onScreen_16 lc_61.1 lc_61.2 hc2 hx2 ?_
        refine r_iload_n C dX5_onScreen_17 rfl hl 1 rfl ?_
        refine r_icmp_gt C 32 (hM.ok _ _) hx1 dX5_onScreen_18 (by decide) (fun cq => ?_) (fun cq => ?_)
        · replace h := ifp cq h
          replace h := ck_some h
          obtain ⟨hc3, h⟩ := h
          refine r_iinc (j := 2) (x := x2) C [(2, .int (jI (x2 + (-1)))), (0, .ref (z + 56)), (1, .int (jI x1))] dX5_onScreen_32 hl rfl (by decide) rfl (fun ls hl => ?_)
          refine r_goto C 7 dX5_onScreen_35 (by decide) ?_
          exact ih7 _ hc3 _ _ _ h hM (lv_sub hl [1, 2, 0] rfl)
        · replace h := ifn cq h
          refine r_iload_n C dX5_onScreen_21 rfl hl 1 rfl ?_
          refine r_aload_n C dX5_onScreen_22 rfl hl 0 rfl ?_
          refine r_iload_n C dX5_onScreen_23 rfl hl 2 rfl ?_
          replace h := bd_some h
          obtain ⟨r24, hf24, h⟩ := h
          refine r_callI (As := [.int (jI x2)]) (rest := [.int (jI x1)]) C hM (c_X5_endOf l E z hx2 hf24) jy_X5_endOf lk_X5_88 dX5_onScreen_24 (recvW C hM jc5 lc_56.1 lc_56.2 rfl) rfl rfl hl.1 (Nat.le_of_ble_eq_true rfl) ⟨Nat.le_of_ble_eq_true rfl, Nat.le_of_ble_eq_true rfl⟩ ⟨rfl, rfl⟩ ⟨Nat.zero_le _, Nat.zero_le _⟩ (fun H locs hr24 hM4 => ?_)
          refine r_icmp_ge C 32 hx1 hr24 dX5_onScreen_27 (by decide) (fun cq => ?_) (fun cq => ?_)
          · replace h := ifp cq h
            replace h := ck_some h
            obtain ⟨hc5, h⟩ := h
            refine r_iinc (j := 2) (x := x2) C [(2, .int (jI (x2 + (-1)))), (0, .ref (z + 56)), (1, .int (jI x1))] dX5_onScreen_32 hl rfl (by decide) rfl (fun ls hl => ?_)
            refine r_goto C 7 dX5_onScreen_35 (by decide) ?_
            exact ih7 _ hc5 _ _ _ h hM4 (lv_sub hl [1, 2, 0] rfl)
          · replace h := ifn cq h
            refine r_iload_n C dX5_onScreen_30 rfl hl 2 rfl ?_
            exact r_ireturn C hM4 hr hlk hx2 h rfl dX5_onScreen_31
  exact hL7 jFuel _ hc1 _ _ _ h hM0 (lv_sub hl [1, 2, 0] rfl)
set_option maxRecDepth 100000 in
set_option maxHeartbeats 4000000 in
theorem c_X5_framesOnScreen (l : Launch) (E : jE) (z : Nat) {x1 : Int} {M : Mem} {r : Int} (hx1 : inR x1) (h : f_X5_framesOnScreen x1 M = some r) : CtI l yX5_framesOnScreen cX5_framesOnScreen 2 (some .int) { frames := 0, cells := 0, slots := 0, locals := 0 } E z LyC [.ref (z + 56), .int (jI x1)] M r M := by
  refine jm (by decide +kernel) (Nat.le_of_ble_eq_true rfl) ?_
  intro p e sM m below meth c C hM0 hr hlk ls hl
  replace hl : lv_has ls 2 [(0, .ref (z + 56)), (1, .int (jI x1))] := hl
  unfold f_X5_framesOnScreen at h
  refine r_iload_n C dX5_framesOnScreen_0 rfl hl 1 rfl ?_
  refine r_if_lt C 12 hx1 dX5_framesOnScreen_1 (by decide) (fun cq => ?_) (fun cq => ?_)
  · replace h := ifp cq h
    refine r_iconst C dX5_framesOnScreen_12 ?_
    exact r_ireturn C hM0 hr hlk ⟨by decide, by decide⟩ h rfl dX5_framesOnScreen_13
  · replace h := ifn cq h
    refine r_iload_n C dX5_framesOnScreen_4 rfl hl 1 rfl ?_
    refine r_aload_n C dX5_framesOnScreen_5 rfl hl 0 rfl ?_
    refine r_getI C hM0 jc5 0 rfl dX5_framesOnScreen_6 lk_X5_9 lc_56.1 lc_56.2 rfl rfl (by decide) rfl ?_
    refine r_icmp_lt C 14 hx1 (hM0.ok _ _) dX5_framesOnScreen_9 (by decide) (fun cq => ?_) (fun cq => ?_)
    · replace h := ifp cq h
      refine r_iload_n C dX5_framesOnScreen_14 rfl hl 1 rfl ?_
      refine r_iconst C dX5_framesOnScreen_15 ?_
      replace h := ck_some h
      obtain ⟨hc1, h⟩ := h
      refine r_iadd C dX5_framesOnScreen_16 ?_
      refine r_aload_n C dX5_framesOnScreen_17 rfl hl 0 rfl ?_
      refine r_getI C hM0 jc5 0 rfl dX5_framesOnScreen_18 lk_X5_9 lc_56.1 lc_56.2 rfl rfl (by decide) rfl ?_
      refine r_icmp_ge C 35 hc1 (hM0.ok _ _) dX5_framesOnScreen_21 (by decide) (fun cq => ?_) (fun cq => ?_)
      · replace h := ifp cq h
        refine r_aload_n C dX5_framesOnScreen_35 rfl hl 0 rfl ?_
        refine r_getI C hM0 jc5 1 rfl dX5_framesOnScreen_36 lk_X5_15 lc_56.1 lc_56.2 rfl rfl (by decide) rfl ?_
        refine r_aload_n C dX5_framesOnScreen_39 rfl hl 0 rfl ?_
        refine r_getR C hM0 jc5 6 61 dX5_framesOnScreen_40 lk_X5_31 lc_56.1 lc_56.2 rfl rfl (by decide) rfl ?_
        refine r_iload_n C dX5_framesOnScreen_43 rfl hl 1 rfl ?_
        replace h := ck_some h
        obtain ⟨hc2, h⟩ := h
        refine r_iald C hM0 rfl dX5_framesOnScreen_44 lc_61.1 lc_61.2 hc2 hx1 ?_
        replace h := ck_some h
        obtain ⟨hc3, h⟩ := h
        refine r_isub C dX5_framesOnScreen_45 ?_
        exact r_ireturn C hM0 hr hlk hc3 h rfl dX5_framesOnScreen_46
      · replace h := ifn cq h
        refine r_aload_n C dX5_framesOnScreen_24 rfl hl 0 rfl ?_
        refine r_getR C hM0 jc5 6 61 dX5_framesOnScreen_25 lk_X5_31 lc_56.1 lc_56.2 rfl rfl (by decide) rfl ?_
        refine r_iload_n C dX5_framesOnScreen_28 rfl hl 1 rfl ?_
        refine r_iconst C dX5_framesOnScreen_29 ?_
        refine r_iadd C dX5_framesOnScreen_30 ?_
        replace h := ck_some h
        obtain ⟨hc4, h⟩ := h
        refine r_iald C hM0 rfl dX5_framesOnScreen_31 lc_61.1 lc_61.2 hc4 hc1 ?_
        refine r_goto C 39 dX5_framesOnScreen_32 (by decide) ?_
        refine r_aload_n C dX5_framesOnScreen_39 rfl hl 0 rfl ?_
        refine r_getR C hM0 jc5 6 61 dX5_framesOnScreen_40 lk_X5_31 lc_56.1 lc_56.2 rfl rfl (by decide) rfl ?_
        refine r_iload_n C dX5_framesOnScreen_43 rfl hl 1 rfl ?_
        replace h := ck_some h
        obtain ⟨hc5, h⟩ := h
        refine r_iald C hM0 rfl dX5_framesOnScreen_44 lc_61.1 lc_61.2 hc5 hx1 ?_
        replace h := ck_some h
        obtain ⟨hc6, h⟩ := h
        refine r_isub C dX5_framesOnScreen_45 ?_
        exact r_ireturn C hM0 hr hlk hc6 h rfl dX5_framesOnScreen_46
    · replace h := ifn cq h
      refine r_iconst C dX5_framesOnScreen_12 ?_
      exact r_ireturn C hM0 hr hlk ⟨by decide, by decide⟩ h rfl dX5_framesOnScreen_13
set_option maxRecDepth 100000 in
set_option maxHeartbeats 4000000 in
theorem c_X5_shows (l : Launch) (E : jE) (z : Nat) {x1 : Int} {x2 : Int} {M : Mem} {r : Int} (hx1 : inR x1) (hx2 : inR x2) (h : f_X5_shows x1 x2 M = some r) : CtI l yX5_shows cX5_shows 4 (some .boolean) { frames := 2, cells := 0, slots := 0, locals := 43 } E z LyC [.ref (z + 56), .int (jI x1), .int (jI x2)] M r M := by
  refine jm (by decide +kernel) (Nat.le_of_ble_eq_true rfl) ?_
  intro p e sM m below meth c C hM0 hr hlk ls hl
  replace hl : lv_has ls 4 [(0, .ref (z + 56)), (1, .int (jI x1)), (2, .int (jI x2))] := hl
  unfold f_X5_shows at h
  refine r_aload_n C dX5_shows_0 rfl hl 0 rfl ?_
  refine r_iload_n C dX5_shows_1 rfl hl 2 rfl ?_
  replace h := bd_some h
  obtain ⟨r2, hf2, h⟩ := h
  refine r_callI (As := [.int (jI x2)]) (rest := []) C hM0 (c_X5_onScreen l E z hx2 hf2) jy_X5_onScreen lk_X5_94 dX5_shows_2 (recvW C hM0 jc5 lc_56.1 lc_56.2 rfl) rfl rfl hl.1 (Nat.le_of_ble_eq_true rfl) ⟨Nat.le_of_ble_eq_true rfl, Nat.le_of_ble_eq_true rfl⟩ ⟨rfl, rfl⟩ ⟨Nat.zero_le _, Nat.zero_le _⟩ (fun H locs hr2 hM1 => ?_)
  refine r_istore_n C [(3, .int (jI r2)), (0, .ref (z + 56)), (1, .int (jI x1)), (2, .int (jI x2))] dX5_shows_5 rfl hl (by decide) rfl (fun ls hl => ?_)
  refine r_iload_n C dX5_shows_6 rfl hl 0 rfl ?_
  refine r_if_lt C 34 hr2 dX5_shows_7 (by decide) (fun cq => ?_) (fun cq => ?_)
  · replace h := ifp cq h
    refine r_iconst C dX5_shows_34 ?_
    exact r_zreturn C hM1 hr hlk (Or.inl rfl) h rfl dX5_shows_35
  · replace h := ifn cq h
    refine r_aload_n C dX5_shows_10 rfl hl 1 rfl ?_
    refine r_getR C hM1 jc5 2 57 dX5_shows_11 lk_X5_18 lc_56.1 lc_56.2 rfl rfl (by decide) rfl ?_
    refine r_iload_n C dX5_shows_14 rfl hl 0 rfl ?_
    replace h := ck_some h
    obtain ⟨hc2, h⟩ := h
    refine r_iald C hM1 rfl dX5_shows_15 lc_57.1 lc_57.2 hc2 hr2 ?_
    refine r_iconst C dX5_shows_16 ?_
    refine r_icmp_ne C 34 (hM0.ok _ _) ⟨by decide, by decide⟩ dX5_shows_17 (by decide) (fun cq => ?_) (fun cq => ?_)
    · replace h := ifn cq h
      refine r_iconst C dX5_shows_34 ?_
      exact r_zreturn C hM1 hr hlk (Or.inl rfl) h rfl dX5_shows_35
    · replace h := ifp cq h
      refine r_aload_n C dX5_shows_20 rfl hl 1 rfl ?_
      refine r_getR C hM1 jc5 3 58 dX5_shows_21 lk_X5_22 lc_56.1 lc_56.2 rfl rfl (by decide) rfl ?_
      refine r_iload_n C dX5_shows_24 rfl hl 0 rfl ?_
      refine r_iald C hM1 rfl dX5_shows_25 lc_58.1 lc_58.2 hc2 hr2 ?_
      refine r_iload_n C dX5_shows_26 rfl hl 2 rfl ?_
      refine r_icmp_ne C 34 (hM0.ok _ _) hx1 dX5_shows_27 (by decide) (fun cq => ?_) (fun cq => ?_)
      · replace h := ifn cq h
        refine r_iconst C dX5_shows_34 ?_
        exact r_zreturn C hM1 hr hlk (Or.inl rfl) h rfl dX5_shows_35
      · replace h := ifp cq h
        refine r_iconst C dX5_shows_30 ?_
        refine r_goto C 35 dX5_shows_31 (by decide) ?_
        exact r_zreturn C hM1 hr hlk (Or.inr rfl) h rfl dX5_shows_35
set_option maxRecDepth 100000 in
set_option maxHeartbeats 4000000 in
theorem c_X5_cameraOf (l : Launch) (E : jE) (z : Nat) {x1 : Int} {s2 : Nat} {M : Mem} {r : Int} (hx1 : inR x1) (hs2 : isSt s2) (h : f_X5_cameraOf x1 s2 M = some r) : CtI l yX5_cameraOf cX5_cameraOf 3 (some .int) { frames := 1, cells := 0, slots := 0, locals := 21 } E z LyC [.ref (z + 56), .int (jI x1), .ref (z + (s2 + 1))] M r M := by
  refine jm (by decide +kernel) (Nat.le_of_ble_eq_true rfl) ?_
  intro p e sM m below meth c C hM0 hr hlk ls hl
  replace hl : lv_has ls 3 [(0, .ref (z + 56)), (1, .int (jI x1)), (2, .ref (z + (s2 + 1)))] := hl
  unfold f_X5_cameraOf at h
  refine r_iload_n C dX5_cameraOf_0 rfl hl 1 rfl ?_
  refine r_if_lt C 21 hx1 dX5_cameraOf_1 (by decide) (fun cq => ?_) (fun cq => ?_)
  · replace h := ifp cq h
    refine r_iconst C dX5_cameraOf_21 ?_
    exact r_ireturn C hM0 hr hlk ⟨by decide, by decide⟩ h rfl dX5_cameraOf_22
  · replace h := ifn cq h
    refine r_iload_n C dX5_cameraOf_4 rfl hl 1 rfl ?_
    refine r_aload_n C dX5_cameraOf_5 rfl hl 0 rfl ?_
    refine r_getI C hM0 jc5 0 rfl dX5_cameraOf_6 lk_X5_9 lc_56.1 lc_56.2 rfl rfl (by decide) rfl ?_
    refine r_icmp_ge C 21 hx1 (hM0.ok _ _) dX5_cameraOf_9 (by decide) (fun cq => ?_) (fun cq => ?_)
    · replace h := ifp cq h
      refine r_iconst C dX5_cameraOf_21 ?_
      exact r_ireturn C hM0 hr hlk ⟨by decide, by decide⟩ h rfl dX5_cameraOf_22
    · replace h := ifn cq h
      refine r_aload_n C dX5_cameraOf_12 rfl hl 0 rfl ?_
      refine r_getR C hM0 jc5 2 57 dX5_cameraOf_13 lk_X5_18 lc_56.1 lc_56.2 rfl rfl (by decide) rfl ?_
      refine r_iload_n C dX5_cameraOf_16 rfl hl 1 rfl ?_
      replace h := ck_some h
      obtain ⟨hc1, h⟩ := h
      refine r_iald C hM0 rfl dX5_cameraOf_17 lc_57.1 lc_57.2 hc1 hx1 ?_
      refine r_if_eq C 23 (hM0.ok _ _) dX5_cameraOf_18 (by decide) (fun cq => ?_) (fun cq => ?_)
      · replace h := ifp cq h
        refine r_aload_n C dX5_cameraOf_23 rfl hl 2 rfl ?_
        refine r_aload_n C dX5_cameraOf_24 rfl hl 0 rfl ?_
        refine r_getR C hM0 jc5 3 58 dX5_cameraOf_25 lk_X5_22 lc_56.1 lc_56.2 rfl rfl (by decide) rfl ?_
        refine r_iload_n C dX5_cameraOf_28 rfl hl 1 rfl ?_
        refine r_iald C hM0 rfl dX5_cameraOf_29 lc_58.1 lc_58.2 hc1 hx1 ?_
        replace h := bd_some h
        obtain ⟨r30, hf30, h⟩ := h
        refine r_callI (As := [.int (jI (M 58 x1.toNat))]) (rest := []) C hM0 (c_X3_cameraOf l E z hs2 (hM0.ok _ _) hf30) jy_X3_cameraOf lk_X5_97 dX5_cameraOf_30 (recvW C hM0 jc3 (ls_1 hs2).1 (ls_1 hs2).2 rfl) rfl rfl hl.1 (Nat.le_of_ble_eq_true rfl) ⟨Nat.le_of_ble_eq_true rfl, Nat.le_of_ble_eq_true rfl⟩ ⟨rfl, rfl⟩ ⟨Nat.zero_le _, Nat.zero_le _⟩ (fun H locs hr30 hM2 => ?_)
        exact r_ireturn C hM2 hr hlk hr30 h rfl dX5_cameraOf_33
      · replace h := ifn cq h
        refine r_iconst C dX5_cameraOf_21 ?_
        exact r_ireturn C hM0 hr hlk ⟨by decide, by decide⟩ h rfl dX5_cameraOf_22
set_option maxRecDepth 100000 in
set_option maxHeartbeats 4000000 in
theorem c_X5_countOf (l : Launch) (E : jE) (z : Nat) {x1 : Int} {x2 : Int} {M : Mem} {r : Int} (hx1 : inR x1) (hx2 : inR x2) (h : f_X5_countOf x1 x2 M = some r) : CtI l yX5_countOf cX5_countOf 5 (some .int) { frames := 0, cells := 0, slots := 0, locals := 0 } E z LyC [.ref (z + 56), .int (jI x1), .int (jI x2)] M r M := by
  refine jm (by decide +kernel) (Nat.le_of_ble_eq_true rfl) ?_
  intro p e sM m below meth c C hM0 hr hlk ls hl
  replace hl : lv_has ls 5 [(0, .ref (z + 56)), (1, .int (jI x1)), (2, .int (jI x2))] := hl
  unfold f_X5_countOf at h
  refine r_iconst C dX5_countOf_0 ?_
  refine r_istore_n C [(3, .int (jI 0)), (0, .ref (z + 56)), (1, .int (jI x1)), (2, .int (jI x2))] dX5_countOf_1 rfl hl (by decide) rfl (fun ls hl => ?_)
  refine r_iconst C dX5_countOf_2 ?_
  refine r_istore C [(4, .int (jI 0)), (3, .int (jI 0)), (0, .ref (z + 56)), (1, .int (jI x1)), (2, .int (jI x2))] dX5_countOf_3 hl (by decide) rfl (fun ls hl => ?_)
  have hL5 : ∀ n5 : Nat, ∀ (x3 : Int) (x4 : Int), inR x3 → inR x4 → ∀ (H : Heap) (locs : List Loc) (ls : Array Slot), f_X5_countOf_L5 x1 x2 M n5  x3 x4 = some r → HS E z LyC M sM H locs → lv_has ls 5 [(0, .ref (z + 56)), (1, .int (jI x1)), (2, .int (jI x2)), (3, .int (jI x3)), (4, .int (jI x4))] → W p l e ({ frames := 0, cells := 0, slots := 0, locals := 0 } : Room) sM m (([.ref (z + 56), .int (jI x1), .int (jI x2)] : List Value).toArray) below meth c H locs 0 0 (MQ below (va_Qi (fun (w : Int32) (_ : Unit) => w = jI r ∧ inR r ∧ Mok LyC M) (fun _ t => va_P (eD E) vwCl (Wd (eC E) z LyC M) t.heap) (eA E)) (([.ref (z + 56), .int (jI x1), .int (jI x2)] : List Value).toArray) sM 0 0 (eA E)) (F0 m 5 ls []) := by
    intro n5
    induction n5 with
    | zero =>
      intro x3 x4 hx3 hx4 H locs ls h hM hl
      exact absurd h (by simp [f_X5_countOf_L5])
    | succ n5 ih5 =>
      intro x3 x4 hx3 hx4 H locs ls h hM hl
      rw [f_X5_countOf_L5] at h
      refine r_iload C dX5_countOf_5 hl 4 rfl ?_
      refine r_aload_n C dX5_countOf_7 rfl hl 0 rfl ?_
      refine r_getI C hM jc5 0 rfl dX5_countOf_8 lk_X5_9 lc_56.1 lc_56.2 rfl rfl (by decide) rfl ?_
      refine r_icmp_ge C 45 hx4 (hM.ok _ _) dX5_countOf_11 (by decide) (fun cq => ?_) (fun cq => ?_)
      · replace h := ifp cq h
        refine r_iload_n C dX5_countOf_45 rfl hl 3 rfl ?_
        exact r_ireturn C hM hr hlk hx3 h rfl dX5_countOf_46
      · replace h := ifn cq h
        refine r_aload_n C dX5_countOf_14 rfl hl 0 rfl ?_
        refine r_getR C hM jc5 2 57 dX5_countOf_15 lk_X5_18 lc_56.1 lc_56.2 rfl rfl (by decide) rfl ?_
        refine r_iload C dX5_countOf_18 hl 4 rfl ?_
        replace h := ck_some h
        obtain ⟨hc1, h⟩ := h
        refine r_iald C hM rfl dX5_countOf_20 lc_57.1 lc_57.2 hc1 hx4 ?_
        refine r_iload_n C dX5_countOf_21 rfl hl 1 rfl ?_
        refine r_icmp_ne C 39 (hM.ok _ _) hx1 dX5_countOf_22 (by decide) (fun cq => ?_) (fun cq => ?_)
        · replace h := ifn cq h
          replace h := ck_some h
          obtain ⟨hc2, h⟩ := h
          refine r_iinc (j := 4) (x := x4) C [(4, .int (jI (x4 + 1))), (0, .ref (z + 56)), (1, .int (jI x1)), (2, .int (jI x2)), (3, .int (jI x3))] dX5_countOf_39 hl rfl (by decide) rfl (fun ls hl => ?_)
          refine r_goto C 5 dX5_countOf_42 (by decide) ?_
          exact ih5 _ _ hx3 hc2 _ _ _ h hM (lv_sub hl [1, 2, 3, 4, 0] rfl)
        · replace h := ifp cq h
          refine r_aload_n C dX5_countOf_25 rfl hl 0 rfl ?_
          refine r_getR C hM jc5 3 58 dX5_countOf_26 lk_X5_22 lc_56.1 lc_56.2 rfl rfl (by decide) rfl ?_
          refine r_iload C dX5_countOf_29 hl 4 rfl ?_
          refine r_iald C hM rfl dX5_countOf_31 lc_58.1 lc_58.2 hc1 hx4 ?_
          refine r_iload_n C dX5_countOf_32 rfl hl 2 rfl ?_
          refine r_icmp_ne C 39 (hM.ok _ _) hx2 dX5_countOf_33 (by decide) (fun cq => ?_) (fun cq => ?_)
          · replace h := ifn cq h
            replace h := ck_some h
            obtain ⟨hc3, h⟩ := h
            refine r_iinc (j := 4) (x := x4) C [(4, .int (jI (x4 + 1))), (0, .ref (z + 56)), (1, .int (jI x1)), (2, .int (jI x2)), (3, .int (jI x3))] dX5_countOf_39 hl rfl (by decide) rfl (fun ls hl => ?_)
            refine r_goto C 5 dX5_countOf_42 (by decide) ?_
            exact ih5 _ _ hx3 hc3 _ _ _ h hM (lv_sub hl [1, 2, 3, 4, 0] rfl)
          · replace h := ifp cq h
            replace h := ck_some h
            obtain ⟨hc4, h⟩ := h
            refine r_iinc (j := 3) (x := x3) C [(3, .int (jI (x3 + 1))), (0, .ref (z + 56)), (1, .int (jI x1)), (2, .int (jI x2)), (4, .int (jI x4))] dX5_countOf_36 hl rfl (by decide) rfl (fun ls hl => ?_)
            replace h := ck_some h
            obtain ⟨hc5, h⟩ := h
            refine r_iinc (j := 4) (x := x4) C [(4, .int (jI (x4 + 1))), (3, .int (jI (x3 + 1))), (0, .ref (z + 56)), (1, .int (jI x1)), (2, .int (jI x2))] dX5_countOf_39 hl rfl (by decide) rfl (fun ls hl => ?_)
            refine r_goto C 5 dX5_countOf_42 (by decide) ?_
            exact ih5 _ _ hc4 hc5 _ _ _ h hM (lv_sub hl [2, 3, 4, 1, 0] rfl)
  exact hL5 jFuel _ _ ⟨by decide, by decide⟩ ⟨by decide, by decide⟩ _ _ _ h hM0 (lv_sub hl [2, 3, 4, 1, 0] rfl)
set_option maxRecDepth 100000 in
set_option maxHeartbeats 4000000 in
theorem c_X5_framesOf (l : Launch) (E : jE) (z : Nat) {x1 : Int} {x2 : Int} {M : Mem} {r : Int} (hx1 : inR x1) (hx2 : inR x2) (h : f_X5_framesOf x1 x2 M = some r) : CtI l yX5_framesOf cX5_framesOf 5 (some .int) { frames := 0, cells := 0, slots := 0, locals := 0 } E z LyC [.ref (z + 56), .int (jI x1), .int (jI x2)] M r M := by
  refine jm (by decide +kernel) (Nat.le_of_ble_eq_true rfl) ?_
  intro p e sM m below meth c C hM0 hr hlk ls hl
  replace hl : lv_has ls 5 [(0, .ref (z + 56)), (1, .int (jI x1)), (2, .int (jI x2))] := hl
  unfold f_X5_framesOf at h
  refine r_iconst C dX5_framesOf_0 ?_
  refine r_istore_n C [(3, .int (jI 0)), (0, .ref (z + 56)), (1, .int (jI x1)), (2, .int (jI x2))] dX5_framesOf_1 rfl hl (by decide) rfl (fun ls hl => ?_)
  refine r_iconst C dX5_framesOf_2 ?_
  refine r_istore C [(4, .int (jI 0)), (3, .int (jI 0)), (0, .ref (z + 56)), (1, .int (jI x1)), (2, .int (jI x2))] dX5_framesOf_3 hl (by decide) rfl (fun ls hl => ?_)
  have hL5 : ∀ n5 : Nat, ∀ (x3 : Int) (x4 : Int), inR x3 → inR x4 → ∀ (H : Heap) (locs : List Loc) (ls : Array Slot), f_X5_framesOf_L5 x1 x2 M n5  x3 x4 = some r → HS E z LyC M sM H locs → lv_has ls 5 [(0, .ref (z + 56)), (1, .int (jI x1)), (2, .int (jI x2)), (3, .int (jI x3)), (4, .int (jI x4))] → W p l e ({ frames := 0, cells := 0, slots := 0, locals := 0 } : Room) sM m (([.ref (z + 56), .int (jI x1), .int (jI x2)] : List Value).toArray) below meth c H locs 0 0 (MQ below (va_Qi (fun (w : Int32) (_ : Unit) => w = jI r ∧ inR r ∧ Mok LyC M) (fun _ t => va_P (eD E) vwCl (Wd (eC E) z LyC M) t.heap) (eA E)) (([.ref (z + 56), .int (jI x1), .int (jI x2)] : List Value).toArray) sM 0 0 (eA E)) (F0 m 5 ls []) := by
    intro n5
    induction n5 with
    | zero =>
      intro x3 x4 hx3 hx4 H locs ls h hM hl
      exact absurd h (by simp [f_X5_framesOf_L5])
    | succ n5 ih5 =>
      intro x3 x4 hx3 hx4 H locs ls h hM hl
      rw [f_X5_framesOf_L5] at h
      refine r_iload C dX5_framesOf_5 hl 4 rfl ?_
      refine r_aload_n C dX5_framesOf_7 rfl hl 0 rfl ?_
      refine r_getI C hM jc5 0 rfl dX5_framesOf_8 lk_X5_9 lc_56.1 lc_56.2 rfl rfl (by decide) rfl ?_
      refine r_icmp_ge C 52 hx4 (hM.ok _ _) dX5_framesOf_11 (by decide) (fun cq => ?_) (fun cq => ?_)
      · replace h := ifp cq h
        refine r_iload_n C dX5_framesOf_52 rfl hl 3 rfl ?_
        exact r_ireturn C hM hr hlk hx3 h rfl dX5_framesOf_53
      · replace h := ifn cq h
        refine r_aload_n C dX5_framesOf_14 rfl hl 0 rfl ?_
        refine r_getR C hM jc5 2 57 dX5_framesOf_15 lk_X5_18 lc_56.1 lc_56.2 rfl rfl (by decide) rfl ?_
        refine r_iload C dX5_framesOf_18 hl 4 rfl ?_
        replace h := ck_some h
        obtain ⟨hc1, h⟩ := h
        refine r_iald C hM rfl dX5_framesOf_20 lc_57.1 lc_57.2 hc1 hx4 ?_
        refine r_iload_n C dX5_framesOf_21 rfl hl 1 rfl ?_
        refine r_icmp_ne C 46 (hM.ok _ _) hx1 dX5_framesOf_22 (by decide) (fun cq => ?_) (fun cq => ?_)
        · replace h := ifn cq h
          replace h := ck_some h
          obtain ⟨hc2, h⟩ := h
          refine r_iinc (j := 4) (x := x4) C [(4, .int (jI (x4 + 1))), (0, .ref (z + 56)), (1, .int (jI x1)), (2, .int (jI x2)), (3, .int (jI x3))] dX5_framesOf_46 hl rfl (by decide) rfl (fun ls hl => ?_)
          refine r_goto C 5 dX5_framesOf_49 (by decide) ?_
          exact ih5 _ _ hx3 hc2 _ _ _ h hM (lv_sub hl [1, 2, 3, 4, 0] rfl)
        · replace h := ifp cq h
          refine r_aload_n C dX5_framesOf_25 rfl hl 0 rfl ?_
          refine r_getR C hM jc5 3 58 dX5_framesOf_26 lk_X5_22 lc_56.1 lc_56.2 rfl rfl (by decide) rfl ?_
          refine r_iload C dX5_framesOf_29 hl 4 rfl ?_
          refine r_iald C hM rfl dX5_framesOf_31 lc_58.1 lc_58.2 hc1 hx4 ?_
          refine r_iload_n C dX5_framesOf_32 rfl hl 2 rfl ?_
          refine r_icmp_ne C 46 (hM.ok _ _) hx2 dX5_framesOf_33 (by decide) (fun cq => ?_) (fun cq => ?_)
          · replace h := ifn cq h
            replace h := ck_some h
            obtain ⟨hc3, h⟩ := h
            refine r_iinc (j := 4) (x := x4) C [(4, .int (jI (x4 + 1))), (0, .ref (z + 56)), (1, .int (jI x1)), (2, .int (jI x2)), (3, .int (jI x3))] dX5_framesOf_46 hl rfl (by decide) rfl (fun ls hl => ?_)
            refine r_goto C 5 dX5_framesOf_49 (by decide) ?_
            exact ih5 _ _ hx3 hc3 _ _ _ h hM (lv_sub hl [1, 2, 3, 4, 0] rfl)
          · replace h := ifp cq h
            refine r_iload_n C dX5_framesOf_36 rfl hl 3 rfl ?_
            refine r_aload_n C dX5_framesOf_37 rfl hl 0 rfl ?_
            refine r_getR C hM jc5 5 60 dX5_framesOf_38 lk_X5_28 lc_56.1 lc_56.2 rfl rfl (by decide) rfl ?_
            refine r_iload C dX5_framesOf_41 hl 4 rfl ?_
            refine r_iald C hM rfl dX5_framesOf_43 lc_60.1 lc_60.2 hc1 hx4 ?_
            replace h := ck_some h
            obtain ⟨hc4, h⟩ := h
            refine r_iadd C dX5_framesOf_44 ?_
            refine r_istore_n C [(3, .int (jI (x3 + (M 60 x4.toNat)))), (0, .ref (z + 56)), (1, .int (jI x1)), (2, .int (jI x2)), (4, .int (jI x4))] dX5_framesOf_45 rfl hl (by decide) rfl (fun ls hl => ?_)
            replace h := ck_some h
            obtain ⟨hc5, h⟩ := h
            refine r_iinc (j := 4) (x := x4) C [(4, .int (jI (x4 + 1))), (3, .int (jI (x3 + (M 60 x4.toNat)))), (0, .ref (z + 56)), (1, .int (jI x1)), (2, .int (jI x2))] dX5_framesOf_46 hl rfl (by decide) rfl (fun ls hl => ?_)
            refine r_goto C 5 dX5_framesOf_49 (by decide) ?_
            exact ih5 _ _ hc4 hc5 _ _ _ h hM (lv_sub hl [2, 3, 4, 1, 0] rfl)
  exact hL5 jFuel _ _ ⟨by decide, by decide⟩ ⟨by decide, by decide⟩ _ _ _ h hM0 (lv_sub hl [2, 3, 4, 1, 0] rfl)
set_option maxRecDepth 100000 in
set_option maxHeartbeats 4000000 in
theorem c_X5_longest (l : Launch) (E : jE) (z : Nat) {M : Mem} {r : Int} (h : f_X5_longest M = some r) : CtI l yX5_longest cX5_longest 3 (some .int) { frames := 1, cells := 0, slots := 0, locals := 13 } E z LyC [.ref (z + 56)] M r M := by
  refine jm (by decide +kernel) (Nat.le_of_ble_eq_true rfl) ?_
  intro p e sM m below meth c C hM0 hr hlk ls hl
  replace hl : lv_has ls 3 [(0, .ref (z + 56))] := hl
  unfold f_X5_longest at h
  refine r_iconst C dX5_longest_0 ?_
  refine r_istore_n C [(1, .int (jI 0)), (0, .ref (z + 56))] dX5_longest_1 rfl hl (by decide) rfl (fun ls hl => ?_)
  refine r_iconst C dX5_longest_2 ?_
  refine r_istore_n C [(2, .int (jI 0)), (1, .int (jI 0)), (0, .ref (z + 56))] dX5_longest_3 rfl hl (by decide) rfl (fun ls hl => ?_)
  have hL4 : ∀ n4 : Nat, ∀ (x1 : Int) (x2 : Int), inR x1 → inR x2 → ∀ (H : Heap) (locs : List Loc) (ls : Array Slot), f_X5_longest_L4 M n4  x1 x2 = some r → HS E z LyC M sM H locs → lv_has ls 3 [(0, .ref (z + 56)), (1, .int (jI x1)), (2, .int (jI x2))] → W p l e ({ frames := 1, cells := 0, slots := 0, locals := 13 } : Room) sM m (([.ref (z + 56)] : List Value).toArray) below meth c H locs 0 0 (MQ below (va_Qi (fun (w : Int32) (_ : Unit) => w = jI r ∧ inR r ∧ Mok LyC M) (fun _ t => va_P (eD E) vwCl (Wd (eC E) z LyC M) t.heap) (eA E)) (([.ref (z + 56)] : List Value).toArray) sM 0 0 (eA E)) (F0 m 4 ls []) := by
    intro n4
    induction n4 with
    | zero =>
      intro x1 x2 hx1 hx2 H locs ls h hM hl
      exact absurd h (by simp [f_X5_longest_L4])
    | succ n4 ih4 =>
      intro x1 x2 hx1 hx2 H locs ls h hM hl
      rw [f_X5_longest_L4] at h
      refine r_iload_n C dX5_longest_4 rfl hl 2 rfl ?_
      refine r_aload_n C dX5_longest_5 rfl hl 0 rfl ?_
      refine r_getI C hM jc5 0 rfl dX5_longest_6 lk_X5_9 lc_56.1 lc_56.2 rfl rfl (by decide) rfl ?_
      refine r_icmp_ge C 29 hx2 (hM.ok _ _) dX5_longest_9 (by decide) (fun cq => ?_) (fun cq => ?_)
      · replace h := ifp cq h
        refine r_iload_n C dX5_longest_29 rfl hl 1 rfl ?_
        exact r_ireturn C hM hr hlk hx1 h rfl dX5_longest_30
      · replace h := ifn cq h
        refine r_iload_n C dX5_longest_12 rfl hl 1 rfl ?_
        refine r_aload_n C dX5_longest_13 rfl hl 0 rfl ?_
        refine r_getR C hM jc5 5 60 dX5_longest_14 lk_X5_28 lc_56.1 lc_56.2 rfl rfl (by decide) rfl ?_
        refine r_iload_n C dX5_longest_17 rfl hl 2 rfl ?_
        replace h := ck_some h
        obtain ⟨hc1, h⟩ := h
        refine r_iald C hM rfl dX5_longest_18 lc_60.1 lc_60.2 hc1 hx2 ?_
        refine r_max C hx1 (hM.ok _ _) lk_X5_91 dX5_longest_19 hl.1 ⟨Nat.le_of_ble_eq_true rfl, Nat.le_of_ble_eq_true rfl⟩ ⟨Nat.zero_le _, Nat.zero_le _⟩ ?_
        refine r_istore_n C [(1, .int (jI (max x1 (M 60 x2.toNat)))), (0, .ref (z + 56)), (2, .int (jI x2))] dX5_longest_22 rfl hl (by decide) rfl (fun ls hl => ?_)
        replace h := ck_some h
        obtain ⟨hc2, h⟩ := h
        refine r_iinc (j := 2) (x := x2) C [(2, .int (jI (x2 + 1))), (1, .int (jI (max x1 (M 60 x2.toNat)))), (0, .ref (z + 56))] dX5_longest_23 hl rfl (by decide) rfl (fun ls hl => ?_)
        refine r_goto C 4 dX5_longest_26 (by decide) ?_
        exact ih4 _ _ (max_R hx1 (hM.ok _ _)) hc2 _ _ _ h hM (lv_sub hl [2, 1, 0] rfl)
  exact hL4 jFuel _ _ ⟨by decide, by decide⟩ ⟨by decide, by decide⟩ _ _ _ h hM0 (lv_sub hl [2, 1, 0] rfl)
set_option maxRecDepth 100000 in
set_option maxHeartbeats 4000000 in
theorem c_X5_allOverlaps (l : Launch) (E : jE) (z : Nat) {M : Mem} {r : Int} (h : f_X5_allOverlaps M = some r) : CtI l yX5_allOverlaps cX5_allOverlaps 3 (some .int) { frames := 0, cells := 0, slots := 0, locals := 0 } E z LyC [.ref (z + 56)] M r M := by
  refine jm (by decide +kernel) (Nat.le_of_ble_eq_true rfl) ?_
  intro p e sM m below meth c C hM0 hr hlk ls hl
  replace hl : lv_has ls 3 [(0, .ref (z + 56))] := hl
  unfold f_X5_allOverlaps at h
  refine r_iconst C dX5_allOverlaps_0 ?_
  refine r_istore_n C [(1, .int (jI 0)), (0, .ref (z + 56))] dX5_allOverlaps_1 rfl hl (by decide) rfl (fun ls hl => ?_)
  refine r_iconst C dX5_allOverlaps_2 ?_
  refine r_istore_n C [(2, .int (jI 0)), (1, .int (jI 0)), (0, .ref (z + 56))] dX5_allOverlaps_3 rfl hl (by decide) rfl (fun ls hl => ?_)
  have hL4 : ∀ n4 : Nat, ∀ (x1 : Int) (x2 : Int), inR x1 → inR x2 → ∀ (H : Heap) (locs : List Loc) (ls : Array Slot), f_X5_allOverlaps_L4 M n4  x1 x2 = some r → HS E z LyC M sM H locs → lv_has ls 3 [(0, .ref (z + 56)), (1, .int (jI x1)), (2, .int (jI x2))] → W p l e ({ frames := 0, cells := 0, slots := 0, locals := 0 } : Room) sM m (([.ref (z + 56)] : List Value).toArray) below meth c H locs 0 0 (MQ below (va_Qi (fun (w : Int32) (_ : Unit) => w = jI r ∧ inR r ∧ Mok LyC M) (fun _ t => va_P (eD E) vwCl (Wd (eC E) z LyC M) t.heap) (eA E)) (([.ref (z + 56)] : List Value).toArray) sM 0 0 (eA E)) (F0 m 4 ls []) := by
    intro n4
    induction n4 with
    | zero =>
      intro x1 x2 hx1 hx2 H locs ls h hM hl
      exact absurd h (by simp [f_X5_allOverlaps_L4])
    | succ n4 ih4 =>
      intro x1 x2 hx1 hx2 H locs ls h hM hl
      rw [f_X5_allOverlaps_L4] at h
      refine r_iload_n C dX5_allOverlaps_4 rfl hl 2 rfl ?_
      refine r_aload_n C dX5_allOverlaps_5 rfl hl 0 rfl ?_
      refine r_getI C hM jc5 0 rfl dX5_allOverlaps_6 lk_X5_9 lc_56.1 lc_56.2 rfl rfl (by decide) rfl ?_
      refine r_icmp_ge C 27 hx2 (hM.ok _ _) dX5_allOverlaps_9 (by decide) (fun cq => ?_) (fun cq => ?_)
      · replace h := ifp cq h
        refine r_iload_n C dX5_allOverlaps_27 rfl hl 1 rfl ?_
        exact r_ireturn C hM hr hlk hx1 h rfl dX5_allOverlaps_28
      · replace h := ifn cq h
        refine r_iload_n C dX5_allOverlaps_12 rfl hl 1 rfl ?_
        refine r_aload_n C dX5_allOverlaps_13 rfl hl 0 rfl ?_
        refine r_getR C hM jc5 7 62 dX5_allOverlaps_14 lk_X5_34 lc_56.1 lc_56.2 rfl rfl (by decide) rfl ?_
        refine r_iload_n C dX5_allOverlaps_17 rfl hl 2 rfl ?_
        replace h := ck_some h
        obtain ⟨hc1, h⟩ := h
        refine r_iald C hM rfl dX5_allOverlaps_18 lc_62.1 lc_62.2 hc1 hx2 ?_
        replace h := ck_some h
        obtain ⟨hc2, h⟩ := h
        refine r_iadd C dX5_allOverlaps_19 ?_
        refine r_istore_n C [(1, .int (jI (x1 + (M 62 x2.toNat)))), (0, .ref (z + 56)), (2, .int (jI x2))] dX5_allOverlaps_20 rfl hl (by decide) rfl (fun ls hl => ?_)
        replace h := ck_some h
        obtain ⟨hc3, h⟩ := h
        refine r_iinc (j := 2) (x := x2) C [(2, .int (jI (x2 + 1))), (1, .int (jI (x1 + (M 62 x2.toNat)))), (0, .ref (z + 56))] dX5_allOverlaps_21 hl rfl (by decide) rfl (fun ls hl => ?_)
        refine r_goto C 4 dX5_allOverlaps_24 (by decide) ?_
        exact ih4 _ _ hc2 hc3 _ _ _ h hM (lv_sub hl [2, 1, 0] rfl)
  exact hL4 jFuel _ _ ⟨by decide, by decide⟩ ⟨by decide, by decide⟩ _ _ _ h hM0 (lv_sub hl [2, 1, 0] rfl)
set_option maxRecDepth 100000 in
set_option maxHeartbeats 4000000 in
theorem c_X6_timeFrom (l : Launch) (E : jE) (z : Nat) {s1 : Nat} {s2 : Nat} {M M' : Mem} (hs1 : isSt s1) (hs2 : isSt s2) (h : f_X6_timeFrom s1 s2 M = some M') : CtV l yX6_timeFrom cX6_timeFrom 5 none { frames := 2, cells := 0, slots := 0, locals := 49 } E z LyC [.ref (z + 64), .ref (z + (s1 + 11)), .ref (z + (s2 + 1))] M M' := by
  refine jm (by decide +kernel) (Nat.le_of_ble_eq_true rfl) ?_
  intro p e sM m below meth c C hM0 hr hlk ls hl
  replace hl : lv_has ls 5 [(0, .ref (z + 64)), (1, .ref (z + (s1 + 11))), (2, .ref (z + (s2 + 1)))] := hl
  unfold f_X6_timeFrom at h
  refine r_aload_n C dX6_timeFrom_0 rfl hl 0 rfl ?_
  refine r_aload_n C dX6_timeFrom_1 rfl hl 1 rfl ?_
  refine r_getI C hM0 jc9 0 rfl dX6_timeFrom_2 lk_X6_28 (ls_11 hs1).1 (ls_11 hs1).2 rfl rfl (by decide) rfl ?_
  refine r_putI C hM0 jc6 0 (hM0.ok _ _) dX6_timeFrom_5 lk_X6_9 lc_64.1 lc_64.2 rfl rfl (by decide) rfl rfl rfl (Nat.le_of_ble_eq_true rfl) (by decide) (fun H locs hM1 => ?_)
  replace h := lt_some h
  obtain ⟨N2, eN2, h⟩ := h
  rw [← eN2] at hM1
  refine r_aload_n C dX6_timeFrom_8 rfl hl 0 rfl ?_
  refine r_iconst C dX6_timeFrom_9 ?_
  refine r_putI C hM1 jc6 1 ⟨by decide, by decide⟩ dX6_timeFrom_10 lk_X6_15 lc_64.1 lc_64.2 rfl rfl (by decide) rfl rfl rfl (Nat.le_of_ble_eq_true rfl) (by decide) (fun H locs hM3 => ?_)
  replace h := lt_some h
  obtain ⟨N4, eN4, h⟩ := h
  rw [← eN4] at hM3
  refine r_iconst C dX6_timeFrom_13 ?_
  refine r_istore_n C [(3, .int (jI 0)), (0, .ref (z + 64)), (1, .ref (z + (s1 + 11))), (2, .ref (z + (s2 + 1)))] dX6_timeFrom_14 rfl hl (by decide) rfl (fun ls hl => ?_)
  refine r_iconst C dX6_timeFrom_15 ?_
  refine r_istore C [(4, .int (jI 0)), (3, .int (jI 0)), (0, .ref (z + 64)), (1, .ref (z + (s1 + 11))), (2, .ref (z + (s2 + 1)))] dX6_timeFrom_16 hl (by decide) rfl (fun ls hl => ?_)
  have hL18 : ∀ n18 : Nat, ∀ (x3 : Int) (x4 : Int) (M : Mem), inR x3 → inR x4 → ∀ (H : Heap) (locs : List Loc) (ls : Array Slot), f_X6_timeFrom_L18 s1 s2 n18  x3 x4 M = some M' → HS E z LyC M sM H locs → lv_has ls 5 [(0, .ref (z + 64)), (1, .ref (z + (s1 + 11))), (2, .ref (z + (s2 + 1))), (3, .int (jI x3)), (4, .int (jI x4))] → W p l e ({ frames := 2, cells := 0, slots := 0, locals := 49 } : Room) sM m (([.ref (z + 64), .ref (z + (s1 + 11)), .ref (z + (s2 + 1))] : List Value).toArray) below meth c H locs 0 0 (MQ below (va_Qv (fun (_ : Unit) => Mok LyC M') (fun _ t => va_P (eD E) vwCl (Wd (eC E) z LyC M') t.heap) (eA E)) (([.ref (z + 64), .ref (z + (s1 + 11)), .ref (z + (s2 + 1))] : List Value).toArray) sM 0 0 (eA E)) (F0 m 18 ls []) := by
    intro n18
    induction n18 with
    | zero =>
      intro x3 x4 M hx3 hx4 H locs ls h hM hl
      exact absurd h (by simp [f_X6_timeFrom_L18])
    | succ n18 ih18 =>
      intro x3 x4 M hx3 hx4 H locs ls h hM hl
      rw [f_X6_timeFrom_L18] at h
      refine r_iload C dX6_timeFrom_18 hl 4 rfl ?_
      refine r_aload_n C dX6_timeFrom_20 rfl hl 0 rfl ?_
      refine r_getI C hM jc6 0 rfl dX6_timeFrom_21 lk_X6_9 lc_64.1 lc_64.2 rfl rfl (by decide) rfl ?_
      refine r_icmp_ge C 125 hx4 (hM.ok _ _) dX6_timeFrom_24 (by decide) (fun cq => ?_) (fun cq => ?_)
      · replace h := ifp cq h
        exact r_return C hM hr hlk h dX6_timeFrom_125
      · replace h := ifn cq h
        refine r_aload_n C dX6_timeFrom_27 rfl hl 0 rfl ?_
        refine r_getR C hM jc6 2 65 dX6_timeFrom_28 lk_X6_18 lc_64.1 lc_64.2 rfl rfl (by decide) rfl ?_
        refine r_iload C dX6_timeFrom_31 hl 4 rfl ?_
        refine r_iload_n C dX6_timeFrom_33 rfl hl 3 rfl ?_
        replace h := ck_some h
        obtain ⟨hc5, h⟩ := h
        refine r_iast C hM dX6_timeFrom_34 lc_65.1 lc_65.2 hc5 hx4 hx3 (fun H locs hM6 => ?_)
        replace h := lt_some h
        obtain ⟨N7, eN7, h⟩ := h
        rw [← eN7] at hM6
        refine r_aload_n C dX6_timeFrom_35 rfl hl 0 rfl ?_
        refine r_iload_n C dX6_timeFrom_36 rfl hl 3 rfl ?_
        refine r_aload_n C dX6_timeFrom_37 rfl hl 2 rfl ?_
        refine r_iconst C dX6_timeFrom_38 ?_
        replace h := bd_some h
        obtain ⟨r39, hf39, h⟩ := h
        refine r_callI (As := [.int (jI 1)]) (rest := [.int (jI x3), .ref (z + 64)]) C hM6 (c_X3_setting l E z hs2 ⟨by decide, by decide⟩ hf39) jy_X3_setting lk_X6_33 dX6_timeFrom_39 (recvW C hM6 jc3 (ls_1 hs2).1 (ls_1 hs2).2 rfl) rfl rfl hl.1 (Nat.le_of_ble_eq_true rfl) ⟨Nat.le_of_ble_eq_true rfl, Nat.le_of_ble_eq_true rfl⟩ ⟨rfl, rfl⟩ ⟨Nat.zero_le _, Nat.zero_le _⟩ (fun H locs hr39 hM8 => ?_)
        refine r_aload_n C dX6_timeFrom_42 rfl hl 1 rfl ?_
        refine r_getR C hM8 jc9 5 (s1 + 15) dX6_timeFrom_43 lk_X6_39 (ls_11 hs1).1 (ls_11 hs1).2 rfl rfl (by decide) rfl ?_
        refine r_iload C dX6_timeFrom_46 hl 4 rfl ?_
        refine r_iald C hM8 rfl dX6_timeFrom_48 (ls_15 hs1).1 (ls_15 hs1).2 hc5 hx4 ?_
        replace h := ck_some h
        obtain ⟨hc9, h⟩ := h
        refine r_imul C dX6_timeFrom_49 ?_
        replace h := ck_some h
        obtain ⟨hc10, h⟩ := h
        refine r_iadd C dX6_timeFrom_50 ?_
        refine r_putI C hM8 jc6 1 hc10 dX6_timeFrom_51 lk_X6_15 lc_64.1 lc_64.2 rfl rfl (by decide) rfl rfl rfl (Nat.le_of_ble_eq_true rfl) (by decide) (fun H locs hM11 => ?_)
        replace h := lt_some h
        obtain ⟨N12, eN12, h⟩ := h
        rw [← eN12] at hM11
        refine r_aload_n C dX6_timeFrom_54 rfl hl 0 rfl ?_
        refine r_getR C hM11 jc6 3 66 dX6_timeFrom_55 lk_X6_22 lc_64.1 lc_64.2 rfl rfl (by decide) rfl ?_
        refine r_iload C dX6_timeFrom_58 hl 4 rfl ?_
        refine r_aload_n C dX6_timeFrom_60 rfl hl 0 rfl ?_
        refine r_getI C hM11 jc6 1 (rd_hit eN12) dX6_timeFrom_61 lk_X6_15 lc_64.1 lc_64.2 rfl rfl (by decide) rfl ?_
        refine r_iast C hM11 dX6_timeFrom_64 lc_66.1 lc_66.2 hc5 hx4 hc10 (fun H locs hM13 => ?_)
        replace h := lt_some h
        obtain ⟨N14, eN14, h⟩ := h
        rw [← eN14] at hM13
        refine r_aload_n C dX6_timeFrom_65 rfl hl 0 rfl ?_
        refine r_getR C hM13 jc6 4 67 dX6_timeFrom_66 lk_X6_25 lc_64.1 lc_64.2 rfl rfl (by decide) rfl ?_
        refine r_iload C dX6_timeFrom_69 hl 4 rfl ?_
        refine r_aload_n C dX6_timeFrom_71 rfl hl 2 rfl ?_
        refine r_aload_n C dX6_timeFrom_72 rfl hl 1 rfl ?_
        refine r_getR C hM13 jc9 2 (s1 + 12) dX6_timeFrom_73 lk_X6_42 (ls_11 hs1).1 (ls_11 hs1).2 rfl rfl (by decide) rfl ?_
        refine r_aload_n C dX6_timeFrom_76 rfl hl 1 rfl ?_
        refine r_getR C hM13 jc9 3 (s1 + 13) dX6_timeFrom_77 lk_X6_46 (ls_11 hs1).1 (ls_11 hs1).2 rfl rfl (by decide) rfl ?_
        refine r_iload C dX6_timeFrom_80 hl 4 rfl ?_
        refine r_iald C hM13 rfl dX6_timeFrom_82 (ls_13 hs1).1 (ls_13 hs1).2 hc5 hx4 ?_
        refine r_aload_n C dX6_timeFrom_83 rfl hl 1 rfl ?_
        refine r_getR C hM13 jc9 4 (s1 + 14) dX6_timeFrom_84 lk_X6_49 (ls_11 hs1).1 (ls_11 hs1).2 rfl rfl (by decide) rfl ?_
        refine r_iload C dX6_timeFrom_87 hl 4 rfl ?_
        refine r_iald C hM13 rfl dX6_timeFrom_89 (ls_14 hs1).1 (ls_14 hs1).2 hc5 hx4 ?_
        replace h := bd_some h
        obtain ⟨r90, hf90, h⟩ := h
        refine r_callI (As := [.ref (z + (s1 + 12)), .int (jI (N14 (s1 + 13) x4.toNat)), .int (jI (N14 (s1 + 14) x4.toNat))]) (rest := [.int (jI x4), .ref (z + 67)]) C hM13 (c_X3_mapNamed l E z hs2 (ls_12 hs1) (hM13.ok _ _) (hM13.ok _ _) hf90) jy_X3_mapNamed lk_X6_52 dX6_timeFrom_90 (recvW C hM13 jc3 (ls_1 hs2).1 (ls_1 hs2).2 rfl) rfl rfl hl.1 (Nat.le_of_ble_eq_true rfl) ⟨Nat.le_of_ble_eq_true rfl, Nat.le_of_ble_eq_true rfl⟩ ⟨rfl, rfl⟩ ⟨Nat.zero_le _, Nat.zero_le _⟩ (fun H locs hr90 hM15 => ?_)
        refine r_iast C hM15 dX6_timeFrom_93 lc_67.1 lc_67.2 hc5 hx4 hr90 (fun H locs hM16 => ?_)
        replace h := lt_some h
        obtain ⟨N17, eN17, h⟩ := h
        rw [← eN17] at hM16
        refine r_aload_n C dX6_timeFrom_94 rfl hl 0 rfl ?_
        refine r_getI C hM16 jc6 1 (rd_skip eN17 (by decide) (rd_skip eN14 (by decide) (rd_hit eN12))) dX6_timeFrom_95 lk_X6_15 lc_64.1 lc_64.2 rfl rfl (by decide) rfl ?_
        refine r_aload_n C dX6_timeFrom_98 rfl hl 1 rfl ?_
        refine r_getR C hM16 jc9 6 (s1 + 16) dX6_timeFrom_99 lk_X6_56 (ls_11 hs1).1 (ls_11 hs1).2 rfl rfl (by decide) rfl ?_
        refine r_iload C dX6_timeFrom_102 hl 4 rfl ?_
        refine r_zald C hM16 rfl dX6_timeFrom_104 (ls_16 hs1).1 (ls_16 hs1).2 hc5 hx4 ?_
        refine r_if_eq C 116 (hM16.ok _ _) dX6_timeFrom_105 (by decide) (fun cq => ?_) (fun cq => ?_)
        · replace h := ifp cq h
          refine r_iconst C dX6_timeFrom_116 ?_
          replace h := ck_some h
          obtain ⟨hc18, h⟩ := h
          refine r_iadd C dX6_timeFrom_117 ?_
          refine r_istore_n C [(3, .int (jI ((x3 + (r39 * (N7 (s1 + 15) x4.toNat))) + 0))), (0, .ref (z + 64)), (1, .ref (z + (s1 + 11))), (2, .ref (z + (s2 + 1))), (4, .int (jI x4))] dX6_timeFrom_118 rfl hl (by decide) rfl (fun ls hl => ?_)
          replace h := ck_some h
          obtain ⟨hc19, h⟩ := h
          refine r_iinc (j := 4) (x := x4) C [(4, .int (jI (x4 + 1))), (3, .int (jI ((x3 + (r39 * (N7 (s1 + 15) x4.toNat))) + 0))), (0, .ref (z + 64)), (1, .ref (z + (s1 + 11))), (2, .ref (z + (s2 + 1)))] dX6_timeFrom_119 hl rfl (by decide) rfl (fun ls hl => ?_)
          refine r_goto C 18 dX6_timeFrom_122 (by decide) ?_
          exact ih18 _ _ _ hc18 hc19 _ _ _ h hM16 (lv_sub hl [2, 3, 4, 1, 0] rfl)
        · replace h := ifn cq h
          refine r_aload_n C dX6_timeFrom_108 rfl hl 2 rfl ?_
          refine r_iconst C dX6_timeFrom_109 ?_
          replace h := bd_some h
          obtain ⟨r110, hf110, h⟩ := h
          refine r_callI (As := [.int (jI 2)]) (rest := [.int (jI (x3 + (r39 * (N7 (s1 + 15) x4.toNat))))]) C hM16 (c_X3_setting l E z hs2 ⟨by decide, by decide⟩ hf110) jy_X3_setting lk_X6_33 dX6_timeFrom_110 (recvW C hM16 jc3 (ls_1 hs2).1 (ls_1 hs2).2 rfl) rfl rfl hl.1 (Nat.le_of_ble_eq_true rfl) ⟨Nat.le_of_ble_eq_true rfl, Nat.le_of_ble_eq_true rfl⟩ ⟨rfl, rfl⟩ ⟨Nat.zero_le _, Nat.zero_le _⟩ (fun H locs hr110 hM20 => ?_)
          refine r_goto C 117 dX6_timeFrom_113 (by decide) ?_
          replace h := ck_some h
          obtain ⟨hc21, h⟩ := h
          refine r_iadd C dX6_timeFrom_117 ?_
          refine r_istore_n C [(3, .int (jI ((x3 + (r39 * (N7 (s1 + 15) x4.toNat))) + r110))), (0, .ref (z + 64)), (1, .ref (z + (s1 + 11))), (2, .ref (z + (s2 + 1))), (4, .int (jI x4))] dX6_timeFrom_118 rfl hl (by decide) rfl (fun ls hl => ?_)
          replace h := ck_some h
          obtain ⟨hc22, h⟩ := h
          refine r_iinc (j := 4) (x := x4) C [(4, .int (jI (x4 + 1))), (3, .int (jI ((x3 + (r39 * (N7 (s1 + 15) x4.toNat))) + r110))), (0, .ref (z + 64)), (1, .ref (z + (s1 + 11))), (2, .ref (z + (s2 + 1)))] dX6_timeFrom_119 hl rfl (by decide) rfl (fun ls hl => ?_)
          refine r_goto C 18 dX6_timeFrom_122 (by decide) ?_
          exact ih18 _ _ _ hc21 hc22 _ _ _ h hM20 (lv_sub hl [2, 3, 4, 1, 0] rfl)
  exact hL18 jFuel _ _ _ ⟨by decide, by decide⟩ ⟨by decide, by decide⟩ _ _ _ h hM3 (lv_sub hl [2, 3, 4, 1, 0] rfl)
set_option maxRecDepth 100000 in
set_option maxHeartbeats 4000000 in
theorem c_X6_wordAt (l : Launch) (E : jE) (z : Nat) {x1 : Int} {M : Mem} {r : Int} (hx1 : inR x1) (h : f_X6_wordAt x1 M = some r) : CtI l yX6_wordAt cX6_wordAt 3 (some .int) { frames := 0, cells := 0, slots := 0, locals := 0 } E z LyC [.ref (z + 64), .int (jI x1)] M r M := by
  refine jm (by decide +kernel) (Nat.le_of_ble_eq_true rfl) ?_
  intro p e sM m below meth c C hM0 hr hlk ls hl
  replace hl : lv_has ls 3 [(0, .ref (z + 64)), (1, .int (jI x1))] := hl
  unfold f_X6_wordAt at h
  refine r_iconst C dX6_wordAt_0 ?_
  refine r_istore_n C [(2, .int (jI 0)), (0, .ref (z + 64)), (1, .int (jI x1))] dX6_wordAt_1 rfl hl (by decide) rfl (fun ls hl => ?_)
  have hL2 : ∀ n2 : Nat, ∀ (x2 : Int), inR x2 → ∀ (H : Heap) (locs : List Loc) (ls : Array Slot), f_X6_wordAt_L2 x1 M n2  x2 = some r → HS E z LyC M sM H locs → lv_has ls 3 [(0, .ref (z + 64)), (1, .int (jI x1)), (2, .int (jI x2))] → W p l e ({ frames := 0, cells := 0, slots := 0, locals := 0 } : Room) sM m (([.ref (z + 64), .int (jI x1)] : List Value).toArray) below meth c H locs 0 0 (MQ below (va_Qi (fun (w : Int32) (_ : Unit) => w = jI r ∧ inR r ∧ Mok LyC M) (fun _ t => va_P (eD E) vwCl (Wd (eC E) z LyC M) t.heap) (eA E)) (([.ref (z + 64), .int (jI x1)] : List Value).toArray) sM 0 0 (eA E)) (F0 m 2 ls []) := by
    intro n2
    induction n2 with
    | zero =>
      intro x2 hx2 H locs ls h hM hl
      exact absurd h (by simp [f_X6_wordAt_L2])
    | succ n2 ih2 =>
      intro x2 hx2 H locs ls h hM hl
      rw [f_X6_wordAt_L2] at h
      refine r_iload_n C dX6_wordAt_2 rfl hl 2 rfl ?_
      refine r_aload_n C dX6_wordAt_3 rfl hl 0 rfl ?_
      refine r_getI C hM jc6 0 rfl dX6_wordAt_4 lk_X6_9 lc_64.1 lc_64.2 rfl rfl (by decide) rfl ?_
      refine r_icmp_ge C 38 hx2 (hM.ok _ _) dX6_wordAt_7 (by decide) (fun cq => ?_) (fun cq => ?_)
      · replace h := ifp cq h
        refine r_iconst C dX6_wordAt_38 ?_
        exact r_ireturn C hM hr hlk ⟨by decide, by decide⟩ h rfl dX6_wordAt_39
      · replace h := ifn cq h
        refine r_aload_n C dX6_wordAt_10 rfl hl 0 rfl ?_
        refine r_getR C hM jc6 2 65 dX6_wordAt_11 lk_X6_18 lc_64.1 lc_64.2 rfl rfl (by decide) rfl ?_
        refine r_iload_n C dX6_wordAt_14 rfl hl 2 rfl ?_
        replace h := ck_some h
        obtain ⟨hc1, h⟩ := h
        refine r_iald C hM rfl dX6_wordAt_15 lc_65.1 lc_65.2 hc1 hx2 ?_
        refine r_iload_n C dX6_wordAt_16 rfl hl 1 rfl ?_
        refine r_icmp_gt C 32 (hM.ok _ _) hx1 dX6_wordAt_17 (by decide) (fun cq => ?_) (fun cq => ?_)
        · replace h := ifp cq h
          replace h := ck_some h
          obtain ⟨hc2, h⟩ := h
          refine r_iinc (j := 2) (x := x2) C [(2, .int (jI (x2 + 1))), (0, .ref (z + 64)), (1, .int (jI x1))] dX6_wordAt_32 hl rfl (by decide) rfl (fun ls hl => ?_)
          refine r_goto C 2 dX6_wordAt_35 (by decide) ?_
          exact ih2 _ hc2 _ _ _ h hM (lv_sub hl [1, 2, 0] rfl)
        · replace h := ifn cq h
          refine r_iload_n C dX6_wordAt_20 rfl hl 1 rfl ?_
          refine r_aload_n C dX6_wordAt_21 rfl hl 0 rfl ?_
          refine r_getR C hM jc6 3 66 dX6_wordAt_22 lk_X6_22 lc_64.1 lc_64.2 rfl rfl (by decide) rfl ?_
          refine r_iload_n C dX6_wordAt_25 rfl hl 2 rfl ?_
          refine r_iald C hM rfl dX6_wordAt_26 lc_66.1 lc_66.2 hc1 hx2 ?_
          refine r_icmp_ge C 32 hx1 (hM.ok _ _) dX6_wordAt_27 (by decide) (fun cq => ?_) (fun cq => ?_)
          · replace h := ifp cq h
            replace h := ck_some h
            obtain ⟨hc3, h⟩ := h
            refine r_iinc (j := 2) (x := x2) C [(2, .int (jI (x2 + 1))), (0, .ref (z + 64)), (1, .int (jI x1))] dX6_wordAt_32 hl rfl (by decide) rfl (fun ls hl => ?_)
            refine r_goto C 2 dX6_wordAt_35 (by decide) ?_
            exact ih2 _ hc3 _ _ _ h hM (lv_sub hl [1, 2, 0] rfl)
          · replace h := ifn cq h
            refine r_iload_n C dX6_wordAt_30 rfl hl 2 rfl ?_
            exact r_ireturn C hM hr hlk hx2 h rfl dX6_wordAt_31
  exact hL2 jFuel _ ⟨by decide, by decide⟩ _ _ _ h hM0 (lv_sub hl [1, 2, 0] rfl)
set_option maxRecDepth 100000 in
set_option maxHeartbeats 4000000 in
theorem c_X6_countOf (l : Launch) (E : jE) (z : Nat) {x1 : Int} {M : Mem} {r : Int} (hx1 : inR x1) (h : f_X6_countOf x1 M = some r) : CtI l yX6_countOf cX6_countOf 4 (some .int) { frames := 0, cells := 0, slots := 0, locals := 0 } E z LyC [.ref (z + 64), .int (jI x1)] M r M := by
  refine jm (by decide +kernel) (Nat.le_of_ble_eq_true rfl) ?_
  intro p e sM m below meth c C hM0 hr hlk ls hl
  replace hl : lv_has ls 4 [(0, .ref (z + 64)), (1, .int (jI x1))] := hl
  unfold f_X6_countOf at h
  refine r_iconst C dX6_countOf_0 ?_
  refine r_istore_n C [(2, .int (jI 0)), (0, .ref (z + 64)), (1, .int (jI x1))] dX6_countOf_1 rfl hl (by decide) rfl (fun ls hl => ?_)
  refine r_iconst C dX6_countOf_2 ?_
  refine r_istore_n C [(3, .int (jI 0)), (2, .int (jI 0)), (0, .ref (z + 64)), (1, .int (jI x1))] dX6_countOf_3 rfl hl (by decide) rfl (fun ls hl => ?_)
  have hL4 : ∀ n4 : Nat, ∀ (x2 : Int) (x3 : Int), inR x2 → inR x3 → ∀ (H : Heap) (locs : List Loc) (ls : Array Slot), f_X6_countOf_L4 x1 M n4  x2 x3 = some r → HS E z LyC M sM H locs → lv_has ls 4 [(0, .ref (z + 64)), (1, .int (jI x1)), (2, .int (jI x2)), (3, .int (jI x3))] → W p l e ({ frames := 0, cells := 0, slots := 0, locals := 0 } : Room) sM m (([.ref (z + 64), .int (jI x1)] : List Value).toArray) below meth c H locs 0 0 (MQ below (va_Qi (fun (w : Int32) (_ : Unit) => w = jI r ∧ inR r ∧ Mok LyC M) (fun _ t => va_P (eD E) vwCl (Wd (eC E) z LyC M) t.heap) (eA E)) (([.ref (z + 64), .int (jI x1)] : List Value).toArray) sM 0 0 (eA E)) (F0 m 4 ls []) := by
    intro n4
    induction n4 with
    | zero =>
      intro x2 x3 hx2 hx3 H locs ls h hM hl
      exact absurd h (by simp [f_X6_countOf_L4])
    | succ n4 ih4 =>
      intro x2 x3 hx2 hx3 H locs ls h hM hl
      rw [f_X6_countOf_L4] at h
      refine r_iload_n C dX6_countOf_4 rfl hl 3 rfl ?_
      refine r_aload_n C dX6_countOf_5 rfl hl 0 rfl ?_
      refine r_getI C hM jc6 0 rfl dX6_countOf_6 lk_X6_9 lc_64.1 lc_64.2 rfl rfl (by decide) rfl ?_
      refine r_icmp_ge C 31 hx3 (hM.ok _ _) dX6_countOf_9 (by decide) (fun cq => ?_) (fun cq => ?_)
      · replace h := ifp cq h
        refine r_iload_n C dX6_countOf_31 rfl hl 2 rfl ?_
        exact r_ireturn C hM hr hlk hx2 h rfl dX6_countOf_32
      · replace h := ifn cq h
        refine r_aload_n C dX6_countOf_12 rfl hl 0 rfl ?_
        refine r_getR C hM jc6 4 67 dX6_countOf_13 lk_X6_25 lc_64.1 lc_64.2 rfl rfl (by decide) rfl ?_
        refine r_iload_n C dX6_countOf_16 rfl hl 3 rfl ?_
        replace h := ck_some h
        obtain ⟨hc1, h⟩ := h
        refine r_iald C hM rfl dX6_countOf_17 lc_67.1 lc_67.2 hc1 hx3 ?_
        refine r_iload_n C dX6_countOf_18 rfl hl 1 rfl ?_
        refine r_icmp_ne C 25 (hM.ok _ _) hx1 dX6_countOf_19 (by decide) (fun cq => ?_) (fun cq => ?_)
        · replace h := ifn cq h
          replace h := ck_some h
          obtain ⟨hc2, h⟩ := h
          refine r_iinc (j := 3) (x := x3) C [(3, .int (jI (x3 + 1))), (0, .ref (z + 64)), (1, .int (jI x1)), (2, .int (jI x2))] dX6_countOf_25 hl rfl (by decide) rfl (fun ls hl => ?_)
          refine r_goto C 4 dX6_countOf_28 (by decide) ?_
          exact ih4 _ _ hx2 hc2 _ _ _ h hM (lv_sub hl [1, 2, 3, 0] rfl)
        · replace h := ifp cq h
          replace h := ck_some h
          obtain ⟨hc3, h⟩ := h
          refine r_iinc (j := 2) (x := x2) C [(2, .int (jI (x2 + 1))), (0, .ref (z + 64)), (1, .int (jI x1)), (3, .int (jI x3))] dX6_countOf_22 hl rfl (by decide) rfl (fun ls hl => ?_)
          replace h := ck_some h
          obtain ⟨hc4, h⟩ := h
          refine r_iinc (j := 3) (x := x3) C [(3, .int (jI (x3 + 1))), (2, .int (jI (x2 + 1))), (0, .ref (z + 64)), (1, .int (jI x1))] dX6_countOf_25 hl rfl (by decide) rfl (fun ls hl => ?_)
          refine r_goto C 4 dX6_countOf_28 (by decide) ?_
          exact ih4 _ _ hc3 hc4 _ _ _ h hM (lv_sub hl [2, 3, 1, 0] rfl)
  exact hL4 jFuel _ _ ⟨by decide, by decide⟩ ⟨by decide, by decide⟩ _ _ _ h hM0 (lv_sub hl [2, 3, 1, 0] rfl)
set_option maxRecDepth 100000 in
set_option maxHeartbeats 4000000 in
theorem c_X7_copyFrom (l : Launch) (E : jE) (z : Nat) {s : Nat} {s1 : Nat} {M M' : Mem} (hs : isSt s) (hs1 : isSt s1) (h : f_X7_copyFrom s s1 M = some M') : CtV l yX7_copyFrom cX7_copyFrom 2 none { frames := 2, cells := 0, slots := 0, locals := 39 } E z LyC [.ref (z + (s + 0)), .ref (z + (s1 + 0))] M M' := by
  refine jm (by decide +kernel) (Nat.le_of_ble_eq_true rfl) ?_
  intro p e sM m below meth c C hM0 hr hlk ls hl
  replace hl : lv_has ls 2 [(0, .ref (z + (s + 0))), (1, .ref (z + (s1 + 0)))] := hl
  unfold f_X7_copyFrom at h
  refine r_aload_n C dX7_copyFrom_0 rfl hl 0 rfl ?_
  refine r_getR C hM0 jc7 0 (s + 1) dX7_copyFrom_1 lk_X7_10 (ls_0 hs).1 (ls_0 hs).2 rfl rfl (by decide) rfl ?_
  refine r_aload_n C dX7_copyFrom_4 rfl hl 1 rfl ?_
  refine r_getR C hM0 jc7 0 (s1 + 1) dX7_copyFrom_5 lk_X7_10 (ls_0 hs1).1 (ls_0 hs1).2 rfl rfl (by decide) rfl ?_
  replace h := bd_some h
  obtain ⟨M8, hf8, h⟩ := h
  refine r_callV (As := [.ref (z + (s1 + 1))]) (rest := []) C hM0 (c_X3_copyFrom l E z hs hs1 hf8) jy_X3_copyFrom lk_X7_30 dX7_copyFrom_8 (recvW C hM0 jc3 (ls_1 hs).1 (ls_1 hs).2 rfl) rfl rfl hl.1 (Nat.le_of_ble_eq_true rfl) ⟨Nat.le_of_ble_eq_true rfl, Nat.le_of_ble_eq_true rfl⟩ ⟨rfl, rfl⟩ ⟨Nat.zero_le _, Nat.zero_le _⟩ (fun H locs hM1 => ?_)
  refine r_aload_n C dX7_copyFrom_11 rfl hl 0 rfl ?_
  refine r_getR C hM1 jc7 1 (s + 11) dX7_copyFrom_12 lk_X7_19 (ls_0 hs).1 (ls_0 hs).2 rfl rfl (by decide) rfl ?_
  refine r_aload_n C dX7_copyFrom_15 rfl hl 1 rfl ?_
  refine r_getR C hM1 jc7 1 (s1 + 11) dX7_copyFrom_16 lk_X7_19 (ls_0 hs1).1 (ls_0 hs1).2 rfl rfl (by decide) rfl ?_
  replace h := bd_some h
  obtain ⟨M19, hf19, h⟩ := h
  refine r_callV (As := [.ref (z + (s1 + 11))]) (rest := []) C hM1 (c_X9_copyFrom l E z hs hs1 hf19) jy_X9_copyFrom lk_X7_34 dX7_copyFrom_19 (recvW C hM1 jc9 (ls_11 hs).1 (ls_11 hs).2 rfl) rfl rfl hl.1 (Nat.le_of_ble_eq_true rfl) ⟨Nat.le_of_ble_eq_true rfl, Nat.le_of_ble_eq_true rfl⟩ ⟨rfl, rfl⟩ ⟨Nat.zero_le _, Nat.zero_le _⟩ (fun H locs hM2 => ?_)
  refine r_aload_n C dX7_copyFrom_22 rfl hl 0 rfl ?_
  refine r_getR C hM2 jc7 2 (s + 17) dX7_copyFrom_23 lk_X7_26 (ls_0 hs).1 (ls_0 hs).2 rfl rfl (by decide) rfl ?_
  refine r_aload_n C dX7_copyFrom_26 rfl hl 1 rfl ?_
  refine r_getR C hM2 jc7 2 (s1 + 17) dX7_copyFrom_27 lk_X7_26 (ls_0 hs1).1 (ls_0 hs1).2 rfl rfl (by decide) rfl ?_
  replace h := bd_some h
  obtain ⟨M30, hf30, h⟩ := h
  refine r_callV (As := [.ref (z + (s1 + 17))]) (rest := []) C hM2 (c_X2_copyFrom l E z hs hs1 hf30) jy_X2_copyFrom lk_X7_37 dX7_copyFrom_30 (recvW C hM2 jc2 (ls_17 hs).1 (ls_17 hs).2 rfl) rfl rfl hl.1 (Nat.le_of_ble_eq_true rfl) ⟨Nat.le_of_ble_eq_true rfl, Nat.le_of_ble_eq_true rfl⟩ ⟨rfl, rfl⟩ ⟨Nat.zero_le _, Nat.zero_le _⟩ (fun H locs hM3 => ?_)
  exact r_return C hM3 hr hlk h dX7_copyFrom_33
