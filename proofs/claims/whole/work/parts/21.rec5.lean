set_option maxRecDepth 100000 in
set_option maxHeartbeats 4000000 in
theorem c_X5_addItem (l : Launch) (E : jE) (z : Nat) {fr lo : Nat} {rc : Nat → Int → Int → Int → Int → Mem → Option (Mem)} (hrc : ∀ {s1 : Nat} {x2 : Int} {x3 : Int} {x4 : Int} {x5 : Int} {M M' : Mem} , isSt s1 → inR x2 → inR x3 → inR x4 → inR x5 → rc s1 x2 x3 x4 x5 M = some M' → CtV l yX5_addItems cX5_addItems 7 none { frames := fr, cells := 0, slots := 0, locals := lo } E z LyC [.ref (z + 56), .ref (z + (s1 + 17)), .int (jI x2), .int (jI x3), .int (jI x4), .int (jI x5)] M M') {s1 : Nat} {x2 : Int} {x3 : Int} {x4 : Int} {M M' : Mem} (hs1 : isSt s1) (hx2 : inR x2) (hx3 : inR x3) (hx4 : inR x4) (h : f_X5_addItem rc s1 x2 x3 x4 M = some M') : CtV l yX5_addItem cX5_addItem 7 none { frames := fr + 3, cells := 0, slots := 0, locals := lo + 100 } E z LyC [.ref (z + 56), .ref (z + (s1 + 17)), .int (jI x2), .int (jI x3), .int (jI x4)] M M' := by
  refine jm (by decide +kernel) (Nat.le_of_ble_eq_true rfl) ?_
  intro p e sM m below meth c C hM0 hr hlk ls hl
  replace hl : lv_has ls 7 [(0, .ref (z + 56)), (1, .ref (z + (s1 + 17))), (2, .int (jI x2)), (3, .int (jI x3)), (4, .int (jI x4))] := hl
  unfold f_X5_addItem at h
  refine r_aload_n C dX5_addItem_0 rfl hl 1 rfl ?_
  refine r_iload_n C dX5_addItem_1 rfl hl 2 rfl ?_
  replace h := bd_some h
  obtain ⟨r2, hf2, h⟩ := h
  refine r_callI (As := [.int (jI x2)]) (rest := []) C hM0 (c_X2_isBlock l E z hs1 hx2 hf2) jy_X2_isBlock lk_X5_57 dX5_addItem_2 (recvW C hM0 jc2 (ls_17 hs1).1 (ls_17 hs1).2 rfl) rfl rfl hl.1 (Nat.le_of_ble_eq_true rfl) ⟨show 0 + 1 ≤ fr + 3 by omega, show 8 + (2 + 11) + (0) ≤ lo + 100 by omega⟩ ⟨rfl, rfl⟩ ⟨Nat.zero_le _, Nat.zero_le _⟩ (fun H locs hr2 hM1 => ?_)
  refine r_if_ne C 17 hr2 dX5_addItem_5 (by decide) (fun cq => ?_) (fun cq => ?_)
  · replace h := ifn cq h
    refine r_aload_n C dX5_addItem_17 rfl hl 1 rfl ?_
    refine r_iload_n C dX5_addItem_18 rfl hl 2 rfl ?_
    replace h := bd_some h
    obtain ⟨r19, hf19, h⟩ := h
    refine r_callI (As := [.int (jI x2)]) (rest := []) C hM1 (c_X2_behind l E z hs1 hx2 hf19) jy_X2_behind lk_X5_65 dX5_addItem_19 (recvW C hM1 jc2 (ls_17 hs1).1 (ls_17 hs1).2 rfl) rfl rfl hl.1 (Nat.le_of_ble_eq_true rfl) ⟨show 0 + 1 ≤ fr + 3 by omega, show 8 + (3 + 11) + (0) ≤ lo + 100 by omega⟩ ⟨rfl, rfl⟩ ⟨Nat.zero_le _, Nat.zero_le _⟩ (fun H locs hr19 hM2 => ?_)
    refine r_istore C [(5, .int (jI r19)), (0, .ref (z + 56)), (1, .ref (z + (s1 + 17))), (2, .int (jI x2)), (3, .int (jI x3)), (4, .int (jI x4))] dX5_addItem_22 hl (by decide) rfl (fun ls hl => ?_)
    refine r_iload_n C dX5_addItem_24 rfl hl 4 rfl ?_
    refine r_iconst C dX5_addItem_25 ?_
    refine r_icmp_ge C 47 hx3 ⟨by decide, by decide⟩ dX5_addItem_26 (by decide) (fun cq => ?_) (fun cq => ?_)
    · replace h := ifp cq h
      exact r_return C hM2 hr hlk h dX5_addItem_47
    · replace h := ifn cq h
      refine r_iload C dX5_addItem_29 hl 5 rfl ?_
      refine r_iconst C dX5_addItem_31 ?_
      refine r_icmp_ge C 47 hx4 ⟨by decide, by decide⟩ dX5_addItem_32 (by decide) (fun cq => ?_) (fun cq => ?_)
      · replace h := ifp cq h
        exact r_return C hM2 hr hlk h dX5_addItem_47
      · replace h := ifn cq h
        refine r_aload_n C dX5_addItem_35 rfl hl 2 rfl ?_
        refine r_iload_n C dX5_addItem_36 rfl hl 3 rfl ?_
        refine r_iconst C dX5_addItem_37 ?_
        replace h := ck_some h
        obtain ⟨hc3, h⟩ := h
        refine r_iadd C dX5_addItem_38 ?_
        refine r_iload C dX5_addItem_39 hl 0 rfl ?_
        replace h := bd_some h
        obtain ⟨r41, hf41, h⟩ := h
        refine r_callSI (As := [.ref (z + (s1 + 17)), .int (jI (x2 + 1)), .int (jI r19)]) (rest := []) C hM2 (c_X5_hasPieces l E z hs1 hc3 hr19 hf41) jy_X5_hasPieces lk_X5_69 dX5_addItem_41 rfl rfl hl.1 (Nat.le_of_ble_eq_true rfl) ⟨show 1 + 1 ≤ fr + 3 by omega, show 8 + (4 + 11) + (21) ≤ lo + 100 by omega⟩ ⟨rfl, rfl⟩ ⟨Nat.zero_le _, Nat.zero_le _⟩ (fun H locs hr41 hM4 => ?_)
        refine r_if_ne C 48 hr41 dX5_addItem_44 (by decide) (fun cq => ?_) (fun cq => ?_)
        · replace h := ifn cq h
          refine r_aload_n C dX5_addItem_48 rfl hl 2 rfl ?_
          refine r_getR C hM4 jc2 1 (s1 + 18) dX5_addItem_49 lk_X5_73 (ls_17 hs1).1 (ls_17 hs1).2 rfl rfl (by decide) rfl ?_
          refine r_iload_n C dX5_addItem_52 rfl hl 3 rfl ?_
          replace h := ck_some h
          obtain ⟨hc5, h⟩ := h
          refine r_iald C hM4 rfl dX5_addItem_53 (ls_18 hs1).1 (ls_18 hs1).2 hc5 hx2 ?_
          refine r_iconst C dX5_addItem_54 ?_
          refine r_icmp_ne C 104 (hM0.ok _ _) ⟨by decide, by decide⟩ dX5_addItem_55 (by decide) (fun cq => ?_) (fun cq => ?_)
          · replace h := ifn cq h
            refine r_iconst C dX5_addItem_104 ?_
            refine r_istore C [(6, .int (jI 0)), (5, .int (jI r19)), (0, .ref (z + 56)), (1, .ref (z + (s1 + 17))), (2, .int (jI x2)), (3, .int (jI x3)), (4, .int (jI x4))] dX5_addItem_105 hl (by decide) rfl (fun ls hl => ?_)
            obtain ⟨y5, ey5⟩ : ∃ y : Int, y = r19 := ⟨_, rfl⟩
            have hy5 : inR y5 := by rw [ey5]; exact hr19
            have hL107 : ∀ n107 : Nat, ∀ (x6 : Int) (M : Mem), inR x6 → ∀ (H : Heap) (locs : List Loc) (ls : Array Slot), f_X5_addItem_L107 rc s1 x2 x3 x4 y5 n107  x6 M = some M' → HS E z LyC M sM H locs → lv_has ls 7 [(0, .ref (z + 56)), (1, .ref (z + (s1 + 17))), (2, .int (jI x2)), (3, .int (jI x3)), (4, .int (jI x4)), (5, .int (jI y5)), (6, .int (jI x6))] → W p l e ({ frames := fr + 3, cells := 0, slots := 0, locals := lo + 100 } : Room) sM m (([.ref (z + 56), .ref (z + (s1 + 17)), .int (jI x2), .int (jI x3), .int (jI x4)] : List Value).toArray) below meth c H locs 0 0 (MQ below (va_Qv (fun (_ : Unit) => Mok LyC M') (fun _ t => va_P (eD E) vwCl (Wd (eC E) z LyC M') t.heap) (eA E)) (([.ref (z + 56), .ref (z + (s1 + 17)), .int (jI x2), .int (jI x3), .int (jI x4)] : List Value).toArray) sM 0 0 (eA E)) (F0 m 107 ls []) := by
              intro n107
              induction n107 with
              | zero =>
                intro x6 M hx6 H locs ls h hM hl
                exact absurd h (by simp [f_X5_addItem_L107])
              | succ n107 ih107 =>
                intro x6 M hx6 H locs ls h hM hl
                rw [f_X5_addItem_L107] at h
                refine r_iload C dX5_addItem_107 hl 6 rfl ?_
                refine r_aload_n C dX5_addItem_109 rfl hl 1 rfl ?_
                refine r_getR C hM jc2 2 (s1 + 19) dX5_addItem_110 lk_X5_74 (ls_17 hs1).1 (ls_17 hs1).2 rfl rfl (by decide) rfl ?_
                refine r_iload_n C dX5_addItem_113 rfl hl 2 rfl ?_
                replace h := ck_some h
                obtain ⟨hc6, h⟩ := h
                refine r_iald C hM rfl dX5_addItem_114 (ls_19 hs1).1 (ls_19 hs1).2 hc6 hx2 ?_
                refine r_icmp_ge C 139 hx6 (hM.ok _ _) dX5_addItem_115 (by decide) (fun cq => ?_) (fun cq => ?_)
                · replace h := ifp cq h
                  exact r_return C hM hr hlk h dX5_addItem_139
                · replace h := ifn cq h
                  refine r_aload_n C dX5_addItem_118 rfl hl 0 rfl ?_
                  refine r_aload_n C dX5_addItem_119 rfl hl 1 rfl ?_
                  refine r_iload_n C dX5_addItem_120 rfl hl 2 rfl ?_
                  refine r_iconst C dX5_addItem_121 ?_
                  replace h := ck_some h
                  obtain ⟨hc7, h⟩ := h
                  refine r_iadd C dX5_addItem_122 ?_
                  refine r_iload C dX5_addItem_123 hl 5 rfl ?_
                  refine r_iload_n C dX5_addItem_125 rfl hl 3 rfl ?_
                  refine r_iconst C dX5_addItem_126 ?_
                  replace h := ck_some h
                  obtain ⟨hc8, h⟩ := h
                  refine r_iadd C dX5_addItem_127 ?_
                  refine r_iload C dX5_addItem_128 hl 4 rfl ?_
                  replace h := bd_some h
                  obtain ⟨M130, hf130, h⟩ := h
                  refine r_callV (As := [.ref (z + (s1 + 17)), .int (jI (x2 + 1)), .int (jI y5), .int (jI (x3 + 1)), .int (jI x4)]) (rest := []) C hM (hrc hs1 hc7 hy5 hc8 hx4 hf130) jy_X5_addItems lk_X5_46 dX5_addItem_130 (recvW C hM jc5 lc_56.1 lc_56.2 rfl) rfl rfl hl.1 (Nat.le_of_ble_eq_true rfl) ⟨show fr + 1 ≤ fr + 3 by omega, show 8 + (7 + 11) + (lo) ≤ lo + 100 by omega⟩ ⟨rfl, rfl⟩ ⟨Nat.zero_le _, Nat.zero_le _⟩ (fun H locs hM9 => ?_)
                  replace h := ck_some h
                  obtain ⟨hc10, h⟩ := h
                  refine r_iinc (j := 6) (x := x6) C [(6, .int (jI (x6 + 1))), (0, .ref (z + 56)), (1, .ref (z + (s1 + 17))), (2, .int (jI x2)), (3, .int (jI x3)), (4, .int (jI x4)), (5, .int (jI y5))] dX5_addItem_133 hl rfl (by decide) rfl (fun ls hl => ?_)
                  refine r_goto C 107 dX5_addItem_136 (by decide) ?_
                  exact ih107 _ _ hc10 _ _ _ h hM9 (lv_sub hl [1, 2, 3, 4, 5, 6, 0] rfl)
            rw [← ey5] at h
            have hl := lv_sub (l' := [(0, .ref (z + 56)), (1, .ref (z + (s1 + 17))), (2, .int (jI x2)), (3, .int (jI x3)), (4, .int (jI x4)), (5, .int (jI y5)), (6, .int (jI 0))]) hl [2, 3, 4, 5, 6, 1, 0] (by rw [ey5]; rfl)
            exact hL107 jFuel _ _ ⟨by decide, by decide⟩ _ _ _ h hM4 hl
          · replace h := ifp cq h
            refine r_aload_n C dX5_addItem_58 rfl hl 1 rfl ?_
            refine r_getR C hM4 jc5 8 63 dX5_addItem_59 lk_X5_37 lc_56.1 lc_56.2 rfl rfl (by decide) rfl ?_
            refine r_iload C dX5_addItem_62 hl 5 rfl ?_
            refine r_iconst C dX5_addItem_64 ?_
            replace h := ck_some h
            obtain ⟨hc11, h⟩ := h
            refine r_iadd C dX5_addItem_65 ?_
            refine r_aload_n C dX5_addItem_66 rfl hl 2 rfl ?_
            refine r_getR C hM4 jc2 2 (s1 + 19) dX5_addItem_67 lk_X5_74 (ls_17 hs1).1 (ls_17 hs1).2 rfl rfl (by decide) rfl ?_
            refine r_iload_n C dX5_addItem_70 rfl hl 3 rfl ?_
            refine r_iald C hM4 rfl dX5_addItem_71 (ls_19 hs1).1 (ls_19 hs1).2 hc5 hx2 ?_
            replace h := ck_some h
            obtain ⟨hc12, h⟩ := h
            refine r_iast C hM4 dX5_addItem_72 lc_63.1 lc_63.2 hc12 hc11 (hM0.ok _ _) (fun H locs hM13 => ?_)
            replace h := lt_some h
            obtain ⟨N14, eN14, h⟩ := h
            rw [← eN14] at hM13
            refine r_aload_n C dX5_addItem_73 rfl hl 1 rfl ?_
            refine r_aload_n C dX5_addItem_74 rfl hl 2 rfl ?_
            refine r_iload_n C dX5_addItem_75 rfl hl 3 rfl ?_
            refine r_iconst C dX5_addItem_76 ?_
            refine r_iadd C dX5_addItem_77 ?_
            refine r_iload C dX5_addItem_78 hl 0 rfl ?_
            refine r_iload_n C dX5_addItem_80 rfl hl 4 rfl ?_
            refine r_iconst C dX5_addItem_81 ?_
            replace h := ck_some h
            obtain ⟨hc15, h⟩ := h
            refine r_iadd C dX5_addItem_82 ?_
            refine r_iload C dX5_addItem_83 hl 5 rfl ?_
            refine r_iconst C dX5_addItem_85 ?_
            refine r_iadd C dX5_addItem_86 ?_
            replace h := bd_some h
            obtain ⟨M87, hf87, h⟩ := h
            refine r_callV (As := [.ref (z + (s1 + 17)), .int (jI (x2 + 1)), .int (jI r19), .int (jI (x3 + 1)), .int (jI (x4 + 1))]) (rest := []) C hM13 (hrc hs1 hc3 hr19 hc15 hc11 hf87) jy_X5_addItems lk_X5_46 dX5_addItem_87 (recvW C hM13 jc5 lc_56.1 lc_56.2 rfl) rfl rfl hl.1 (Nat.le_of_ble_eq_true rfl) ⟨show fr + 1 ≤ fr + 3 by omega, show 8 + (7 + 11) + (lo) ≤ lo + 100 by omega⟩ ⟨rfl, rfl⟩ ⟨Nat.zero_le _, Nat.zero_le _⟩ (fun H locs hM16 => ?_)
            refine r_aload_n C dX5_addItem_90 rfl hl 1 rfl ?_
            refine r_aload_n C dX5_addItem_91 rfl hl 1 rfl ?_
            refine r_getI C hM16 jc5 9 rfl dX5_addItem_92 lk_X5_40 lc_56.1 lc_56.2 rfl rfl (by decide) rfl ?_
            refine r_iload C dX5_addItem_95 hl 5 rfl ?_
            refine r_min C (hM16.ok _ _) hx4 lk_X5_75 dX5_addItem_97 hl.1 ⟨show 1 ≤ fr + 3 by omega, Nat.le_trans (Nat.le_of_ble_eq_true rfl : _ ≤ 100) (show 100 ≤ lo + 100 by omega)⟩ ⟨Nat.zero_le _, Nat.zero_le _⟩ ?_
            refine r_putI C hM16 jc5 9 (min_R (hM16.ok _ _) hx4) dX5_addItem_100 lk_X5_40 lc_56.1 lc_56.2 rfl rfl (by decide) rfl rfl rfl (Nat.le_of_ble_eq_true rfl) (by decide) (fun H locs hM17 => ?_)
            replace h := lt_some h
            obtain ⟨N18, eN18, h⟩ := h
            rw [← eN18] at hM17
            exact r_return C hM17 hr hlk h dX5_addItem_103
        · replace h := ifp cq h
          exact r_return C hM4 hr hlk h dX5_addItem_47
  · replace h := ifp cq h
    refine r_aload_n C dX5_addItem_8 rfl hl 0 rfl ?_
    refine r_aload_n C dX5_addItem_9 rfl hl 1 rfl ?_
    refine r_iload_n C dX5_addItem_10 rfl hl 2 rfl ?_
    refine r_iload C dX5_addItem_11 hl 4 rfl ?_
    replace h := bd_some h
    obtain ⟨M13, hf13, h⟩ := h
    refine r_callV (As := [.ref (z + (s1 + 17)), .int (jI x2), .int (jI x4)]) (rest := []) C hM1 (c_X5_addPiece l E z hs1 hx2 hx4 hf13) jy_X5_addPiece lk_X5_61 dX5_addItem_13 (recvW C hM1 jc5 lc_56.1 lc_56.2 rfl) rfl rfl hl.1 (Nat.le_of_ble_eq_true rfl) ⟨show 2 + 1 ≤ fr + 3 by omega, show 8 + (4 + 11) + (35) ≤ lo + 100 by omega⟩ ⟨rfl, rfl⟩ ⟨Nat.zero_le _, Nat.zero_le _⟩ (fun H locs hM19 => ?_)
    exact r_return C hM19 hr hlk h dX5_addItem_16
set_option maxRecDepth 100000 in
set_option maxHeartbeats 4000000 in
theorem c_X5_addItems (l : Launch) (E : jE) (z : Nat) {fr lo : Nat} {rc : Nat → Int → Int → Int → Int → Mem → Option (Mem)} (hrc : ∀ {s1 : Nat} {x2 : Int} {x3 : Int} {x4 : Int} {x5 : Int} {M M' : Mem} , isSt s1 → inR x2 → inR x3 → inR x4 → inR x5 → rc s1 x2 x3 x4 x5 M = some M' → CtV l yX5_addItems cX5_addItems 7 none { frames := fr, cells := 0, slots := 0, locals := lo } E z LyC [.ref (z + 56), .ref (z + (s1 + 17)), .int (jI x2), .int (jI x3), .int (jI x4), .int (jI x5)] M M') {s1 : Nat} {x2 : Int} {x3 : Int} {x4 : Int} {x5 : Int} {M M' : Mem} (hs1 : isSt s1) (hx2 : inR x2) (hx3 : inR x3) (hx4 : inR x4) (hx5 : inR x5) (h : f_X5_addItems rc s1 x2 x3 x4 x5 M = some M') : CtV l yX5_addItems cX5_addItems 7 none { frames := fr + 4, cells := 0, slots := 0, locals := lo + 126 } E z LyC [.ref (z + 56), .ref (z + (s1 + 17)), .int (jI x2), .int (jI x3), .int (jI x4), .int (jI x5)] M M' := by
  refine jm (by decide +kernel) (Nat.le_of_ble_eq_true rfl) ?_
  intro p e sM m below meth c C hM0 hr hlk ls hl
  replace hl : lv_has ls 7 [(0, .ref (z + 56)), (1, .ref (z + (s1 + 17))), (2, .int (jI x2)), (3, .int (jI x3)), (4, .int (jI x4)), (5, .int (jI x5))] := hl
  unfold f_X5_addItems at h
  refine r_iload_n C dX5_addItems_0 rfl hl 2 rfl ?_
  refine r_istore C [(6, .int (jI x2)), (0, .ref (z + 56)), (1, .ref (z + (s1 + 17))), (2, .int (jI x2)), (3, .int (jI x3)), (4, .int (jI x4)), (5, .int (jI x5))] dX5_addItems_1 hl (by decide) rfl (fun ls hl => ?_)
  have hL3 : ∀ n3 : Nat, ∀ (x6 : Int) (M : Mem), inR x6 → ∀ (H : Heap) (locs : List Loc) (ls : Array Slot), f_X5_addItems_L3 rc s1 x3 x4 x5 n3  x6 M = some M' → HS E z LyC M sM H locs → lv_has ls 7 [(0, .ref (z + 56)), (1, .ref (z + (s1 + 17))), (3, .int (jI x3)), (4, .int (jI x4)), (5, .int (jI x5)), (6, .int (jI x6))] → W p l e ({ frames := fr + 4, cells := 0, slots := 0, locals := lo + 126 } : Room) sM m (([.ref (z + 56), .ref (z + (s1 + 17)), .int (jI x2), .int (jI x3), .int (jI x4), .int (jI x5)] : List Value).toArray) below meth c H locs 0 0 (MQ below (va_Qv (fun (_ : Unit) => Mok LyC M') (fun _ t => va_P (eD E) vwCl (Wd (eC E) z LyC M') t.heap) (eA E)) (([.ref (z + 56), .ref (z + (s1 + 17)), .int (jI x2), .int (jI x3), .int (jI x4), .int (jI x5)] : List Value).toArray) sM 0 0 (eA E)) (F0 m 3 ls []) := by
    intro n3
    induction n3 with
    | zero =>
      intro x6 M hx6 H locs ls h hM hl
      exact absurd h (by simp [f_X5_addItems_L3])
    | succ n3 ih3 =>
      intro x6 M hx6 H locs ls h hM hl
      rw [f_X5_addItems_L3] at h
      refine r_iload C dX5_addItems_3 hl 5 rfl ?_
      refine r_iload_n C dX5_addItems_5 rfl hl 2 rfl ?_
      refine r_icmp_ge C 45 hx6 hx3 dX5_addItems_6 (by decide) (fun cq => ?_) (fun cq => ?_)
      · replace h := ifp cq h
        exact r_return C hM hr hlk h dX5_addItems_45
      · replace h := ifn cq h
        refine r_iload C dX5_addItems_9 hl 5 rfl ?_
        refine r_bipush C dX5_addItems_11 rfl ?_
        refine r_icmp_ge C 45 hx6 ⟨by decide, by decide⟩ dX5_addItems_13 (by decide) (fun cq => ?_) (fun cq => ?_)
        · replace h := ifp cq h
          exact r_return C hM hr hlk h dX5_addItems_45
        · replace h := ifn cq h
          refine r_aload_n C dX5_addItems_16 rfl hl 1 rfl ?_
          refine r_getR C hM jc2 5 (s1 + 22) dX5_addItems_17 lk_X5_50 (ls_17 hs1).1 (ls_17 hs1).2 rfl rfl (by decide) rfl ?_
          refine r_iload C dX5_addItems_20 hl 5 rfl ?_
          replace h := ck_some h
          obtain ⟨hc1, h⟩ := h
          refine r_iald C hM rfl dX5_addItems_22 (ls_22 hs1).1 (ls_22 hs1).2 hc1 hx6 ?_
          refine r_iload C dX5_addItems_23 hl 3 rfl ?_
          refine r_icmp_ne C 39 (hM.ok _ _) hx4 dX5_addItems_25 (by decide) (fun cq => ?_) (fun cq => ?_)
          · replace h := ifn cq h
            replace h := ck_some h
            obtain ⟨hc2, h⟩ := h
            refine r_iinc (j := 5) (x := x6) C [(6, .int (jI (x6 + 1))), (0, .ref (z + 56)), (1, .ref (z + (s1 + 17))), (3, .int (jI x3)), (4, .int (jI x4)), (5, .int (jI x5))] dX5_addItems_39 hl rfl (by decide) rfl (fun ls hl => ?_)
            refine r_goto C 3 dX5_addItems_42 (by decide) ?_
            exact ih3 _ _ hc2 _ _ _ h hM (lv_sub hl [1, 2, 3, 4, 5, 0] rfl)
          · replace h := ifp cq h
            refine r_aload_n C dX5_addItems_28 rfl hl 0 rfl ?_
            refine r_aload_n C dX5_addItems_29 rfl hl 1 rfl ?_
            refine r_iload C dX5_addItems_30 hl 5 rfl ?_
            refine r_iload C dX5_addItems_32 hl 3 rfl ?_
            refine r_iload C dX5_addItems_34 hl 4 rfl ?_
            replace h := bd_some h
            obtain ⟨M36, hf36, h⟩ := h
            refine r_callV (As := [.ref (z + (s1 + 17)), .int (jI x6), .int (jI x4), .int (jI x5)]) (rest := []) C hM (c_X5_addItem l E z hrc hs1 hx6 hx4 hx5 hf36) jy_X5_addItem lk_X5_53 dX5_addItems_36 (recvW C hM jc5 lc_56.1 lc_56.2 rfl) rfl rfl hl.1 (Nat.le_of_ble_eq_true rfl) ⟨show fr + 3 + 1 ≤ fr + 4 by omega, show 8 + (7 + 11) + (lo + 100) ≤ lo + 126 by omega⟩ ⟨rfl, rfl⟩ ⟨Nat.zero_le _, Nat.zero_le _⟩ (fun H locs hM3 => ?_)
            replace h := ck_some h
            obtain ⟨hc4, h⟩ := h
            refine r_iinc (j := 5) (x := x6) C [(6, .int (jI (x6 + 1))), (0, .ref (z + 56)), (1, .ref (z + (s1 + 17))), (3, .int (jI x3)), (4, .int (jI x4)), (5, .int (jI x5))] dX5_addItems_39 hl rfl (by decide) rfl (fun ls hl => ?_)
            refine r_goto C 3 dX5_addItems_42 (by decide) ?_
            exact ih3 _ _ hc4 _ _ _ h hM3 (lv_sub hl [1, 2, 3, 4, 5, 0] rfl)
  exact hL3 jFuel _ _ hx2 _ _ _ h hM0 (lv_sub hl [1, 2, 4, 5, 6, 0] rfl)
theorem cg0_X5_addItems (l : Launch) (E : jE) (z : Nat) : ∀ n : Nat, ∀ {s1 : Nat} {x2 : Int} {x3 : Int} {x4 : Int} {x5 : Int} {M M' : Mem} , isSt s1 → inR x2 → inR x3 → inR x4 → inR x5 → g_X5_addItems n s1 x2 x3 x4 x5 M = some M' → CtV l yX5_addItems cX5_addItems 7 none { frames := fr_X5_addItems n, cells := 0, slots := 0, locals := lo_X5_addItems n } E z LyC [.ref (z + 56), .ref (z + (s1 + 17)), .int (jI x2), .int (jI x3), .int (jI x4), .int (jI x5)] M M' := by
  intro n
  induction n with
  | zero => intros; rename_i h; exact nomatch h
  | succ n ih =>
    intros
    rename_i h
    exact c_X5_addItems l E z ih (by assumption) (by assumption) (by assumption) (by assumption) (by assumption) (by assumption)
theorem cg_X5_addItems (l : Launch) (E : jE) (z : Nat) : ∀ n : Nat, n = 6 → ∀ {s1 : Nat} {x2 : Int} {x3 : Int} {x4 : Int} {x5 : Int} {M M' : Mem} , isSt s1 → inR x2 → inR x3 → inR x4 → inR x5 → g_X5_addItems n s1 x2 x3 x4 x5 M = some M' → CtV l yX5_addItems cX5_addItems 7 none { frames := 24, cells := 0, slots := 0, locals := 756 } E z LyC [.ref (z + 56), .ref (z + (s1 + 17)), .int (jI x2), .int (jI x3), .int (jI x4), .int (jI x5)] M M' := by
  intro n hn
  subst hn
  exact cg0_X5_addItems l E z 6
set_option maxRecDepth 100000 in
set_option maxHeartbeats 4000000 in
theorem c_X5_cutFrom (l : Launch) (E : jE) (z : Nat) {s1 : Nat} {M M' : Mem} (hs1 : isSt s1) (h : f_X5_cutFrom s1 M = some M') : CtV l yX5_cutFrom cX5_cutFrom 2 none { frames := 25, cells := 0, slots := 0, locals := 782 } E z LyC [.ref (z + 56), .ref (z + (s1 + 17))] M M' := by
  refine jm (by decide +kernel) (Nat.le_of_ble_eq_true rfl) ?_
  intro p e sM m below meth c C hM0 hr hlk ls hl
  replace hl : lv_has ls 2 [(0, .ref (z + 56)), (1, .ref (z + (s1 + 17)))] := hl
  unfold f_X5_cutFrom at h
  refine r_aload_n C dX5_cutFrom_0 rfl hl 0 rfl ?_
  refine r_iconst C dX5_cutFrom_1 ?_
  refine r_putI C hM0 jc5 0 ⟨by decide, by decide⟩ dX5_cutFrom_2 lk_X5_9 lc_56.1 lc_56.2 rfl rfl (by decide) rfl rfl rfl (Nat.le_of_ble_eq_true rfl) (by decide) (fun H locs hM1 => ?_)
  replace h := lt_some h
  obtain ⟨N2, eN2, h⟩ := h
  rw [← eN2] at hM1
  refine r_aload_n C dX5_cutFrom_5 rfl hl 0 rfl ?_
  refine r_iconst C dX5_cutFrom_6 ?_
  refine r_putI C hM1 jc5 1 ⟨by decide, by decide⟩ dX5_cutFrom_7 lk_X5_15 lc_56.1 lc_56.2 rfl rfl (by decide) rfl rfl rfl (Nat.le_of_ble_eq_true rfl) (by decide) (fun H locs hM3 => ?_)
  replace h := lt_some h
  obtain ⟨N4, eN4, h⟩ := h
  rw [← eN4] at hM3
  refine r_aload_n C dX5_cutFrom_10 rfl hl 0 rfl ?_
  refine r_iconst C dX5_cutFrom_11 ?_
  refine r_putI C hM3 jc5 9 ⟨by decide, by decide⟩ dX5_cutFrom_12 lk_X5_40 lc_56.1 lc_56.2 rfl rfl (by decide) rfl rfl rfl (Nat.le_of_ble_eq_true rfl) (by decide) (fun H locs hM5 => ?_)
  replace h := lt_some h
  obtain ⟨N6, eN6, h⟩ := h
  rw [← eN6] at hM5
  refine r_aload_n C dX5_cutFrom_15 rfl hl 0 rfl ?_
  refine r_aload_n C dX5_cutFrom_16 rfl hl 1 rfl ?_
  refine r_iconst C dX5_cutFrom_17 ?_
  refine r_aload_n C dX5_cutFrom_18 rfl hl 1 rfl ?_
  refine r_getI C hM5 jc2 0 rfl dX5_cutFrom_19 lk_X5_43 (ls_17 hs1).1 (ls_17 hs1).2 rfl rfl (by decide) rfl ?_
  refine r_iconst C dX5_cutFrom_22 ?_
  refine r_iconst C dX5_cutFrom_23 ?_
  replace h := bd_some h
  obtain ⟨M24, hf24, h⟩ := h
  refine r_callV (As := [.ref (z + (s1 + 17)), .int (jI 0), .int (jI (N6 (s1 + 17) 0)), .int (jI 0), .int (jI 0)]) (rest := []) C hM5 (cg_X5_addItems l E z 6 rfl hs1 ⟨by decide, by decide⟩ (hM5.ok _ _) ⟨by decide, by decide⟩ ⟨by decide, by decide⟩ hf24) jy_X5_addItems lk_X5_46 dX5_cutFrom_24 (recvW C hM5 jc5 lc_56.1 lc_56.2 rfl) rfl rfl hl.1 (Nat.le_of_ble_eq_true rfl) ⟨Nat.le_of_ble_eq_true rfl, Nat.le_of_ble_eq_true rfl⟩ ⟨rfl, rfl⟩ ⟨Nat.zero_le _, Nat.zero_le _⟩ (fun H locs hM7 => ?_)
  exact r_return C hM7 hr hlk h dX5_cutFrom_27
