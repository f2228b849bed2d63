set_option maxRecDepth 100000 in
set_option maxHeartbeats 4000000 in
theorem c_X0_compare (l : Launch) (E : jE) (z : Nat) {x1 : Int} {x2 : Int} {M M' : Mem} (hx1 : inR x1) (hx2 : inR x2) (h : f_X0_compare x1 x2 M = some M') : CtV l yX0_compare cX0_compare 4 none { frames := 1, cells := 0, slots := 0, locals := 20 } E z LyC [.ref (z + 71), .int (jI x1), .int (jI x2)] M M' := by
  refine jm (by decide +kernel) (Nat.le_of_ble_eq_true rfl) ?_
  intro p e sM m below meth c C hM0 hr hlk ls hl
  replace hl : lv_has ls 4 [(0, .ref (z + 71)), (1, .int (jI x1)), (2, .int (jI x2))] := hl
  unfold f_X0_compare at h
  refine r_iload_n C dX0_compare_0 rfl hl 1 rfl ?_
  replace h := bd_some h
  obtain ⟨r1, hf1, h⟩ := h
  refine r_callSI (As := [.int (jI x1)]) (rest := []) C hM0 (c_J6_bitCount_0f7a4 l E z hx1 hf1) jy_J6_bitCount_0f7a4 lk_X0_41 dX0_compare_1 rfl rfl hl.1 (Nat.le_of_ble_eq_true rfl) ⟨Nat.le_of_ble_eq_true rfl, Nat.le_of_ble_eq_true rfl⟩ ⟨rfl, rfl⟩ ⟨Nat.zero_le _, Nat.zero_le _⟩ (fun H locs hr1 hM1 => ?_)
  refine r_istore_n C [(3, .int (jI r1)), (0, .ref (z + 71)), (1, .int (jI x1)), (2, .int (jI x2))] dX0_compare_4 rfl hl (by decide) rfl (fun ls hl => ?_)
  refine r_aload_n C dX0_compare_5 rfl hl 1 rfl ?_
  refine r_getI C hM1 jc0 0 rfl dX0_compare_6 lk_X0_9 lc_71.1 lc_71.2 rfl rfl (by decide) rfl ?_
  refine r_iconst C dX0_compare_9 ?_
  replace h := jn_some h
  obtain ⟨k37, hk37, h⟩ := h
  have hJ37 : ∀ (_ : Unit), ∀ (H : Heap) (locs : List Loc) (ls : Array Slot), k37 () = some M' → HS E z LyC M sM H locs → lv_has ls 4 [(0, .ref (z + 71)), (1, .int (jI x1)), (2, .int (jI x2)), (3, .int (jI r1))] → W p l e ({ frames := 1, cells := 0, slots := 0, locals := 20 } : Room) sM m (([.ref (z + 71), .int (jI x1), .int (jI x2)] : List Value).toArray) below meth c H locs 0 0 (MQ below (va_Qv (fun (_ : Unit) => Mok LyC M') (fun _ t => va_P (eD E) vwCl (Wd (eC E) z LyC M') t.heap) (eA E)) (([.ref (z + 71), .int (jI x1), .int (jI x2)] : List Value).toArray) sM 0 0 (eA E)) (F0 m 37 ls []) := by
    intro _ H locs ls h hMj37 hl
    subst hk37
    try dsimp only at h
    refine r_aload_n C dX0_compare_37 rfl hl 0 rfl ?_
    refine r_iload_n C dX0_compare_38 rfl hl 1 rfl ?_
    refine r_putI C hMj37 jc0 0 hx1 dX0_compare_39 lk_X0_9 lc_71.1 lc_71.2 rfl rfl (by decide) rfl rfl rfl (Nat.le_of_ble_eq_true rfl) (by decide) (fun H locs hM2 => ?_)
    replace h := lt_some h
    obtain ⟨N3, eN3, h⟩ := h
    rw [← eN3] at hM2
    refine r_aload_n C dX0_compare_42 rfl hl 0 rfl ?_
    refine r_iload_n C dX0_compare_43 rfl hl 2 rfl ?_
    refine r_putI C hM2 jc0 1 hx2 dX0_compare_44 lk_X0_15 lc_71.1 lc_71.2 rfl rfl (by decide) rfl rfl rfl (Nat.le_of_ble_eq_true rfl) (by decide) (fun H locs hM4 => ?_)
    replace h := lt_some h
    obtain ⟨N5, eN5, h⟩ := h
    rw [← eN5] at hM4
    refine r_aload_n C dX0_compare_47 rfl hl 0 rfl ?_
    refine r_iload_n C dX0_compare_48 rfl hl 3 rfl ?_
    refine r_putI C hM4 jc0 2 hr1 dX0_compare_49 lk_X0_18 lc_71.1 lc_71.2 rfl rfl (by decide) rfl rfl rfl (Nat.le_of_ble_eq_true rfl) (by decide) (fun H locs hM6 => ?_)
    replace h := lt_some h
    obtain ⟨N7, eN7, h⟩ := h
    rw [← eN7] at hM6
    exact r_return C hM6 hr hlk h dX0_compare_52
  refine r_icmp_eq C 37 (hM0.ok _ _) ⟨by decide, by decide⟩ dX0_compare_10 (by decide) (fun cq => ?_) (fun cq => ?_)
  · replace h := ifp cq h
    exact hJ37 () _ _ _ h hM1 (lv_sub hl [1, 2, 3, 0] rfl)
  · replace h := ifn cq h
    refine r_iload_n C dX0_compare_13 rfl hl 3 rfl ?_
    refine r_aload_n C dX0_compare_14 rfl hl 1 rfl ?_
    refine r_getI C hM1 jc0 1 rfl dX0_compare_15 lk_X0_15 lc_71.1 lc_71.2 rfl rfl (by decide) rfl ?_
    refine r_icmp_lt C 37 hx2 (hM0.ok _ _) dX0_compare_18 (by decide) (fun cq => ?_) (fun cq => ?_)
    · replace h := ifp cq h
      exact hJ37 () _ _ _ h hM1 (lv_sub hl [1, 2, 3, 0] rfl)
    · replace h := ifn cq h
      refine r_iload_n C dX0_compare_21 rfl hl 3 rfl ?_
      refine r_aload_n C dX0_compare_22 rfl hl 1 rfl ?_
      refine r_getI C hM1 jc0 1 rfl dX0_compare_23 lk_X0_15 lc_71.1 lc_71.2 rfl rfl (by decide) rfl ?_
      refine r_icmp_ne C 52 hx2 (hM0.ok _ _) dX0_compare_26 (by decide) (fun cq => ?_) (fun cq => ?_)
      · replace h := ifn cq h
        exact r_return C hM1 hr hlk h dX0_compare_52
      · replace h := ifp cq h
        refine r_iload_n C dX0_compare_29 rfl hl 0 rfl ?_
        refine r_aload_n C dX0_compare_30 rfl hl 1 rfl ?_
        refine r_getI C hM1 jc0 2 rfl dX0_compare_31 lk_X0_18 lc_71.1 lc_71.2 rfl rfl (by decide) rfl ?_
        refine r_icmp_ge C 52 hr1 (hM0.ok _ _) dX0_compare_34 (by decide) (fun cq => ?_) (fun cq => ?_)
        · replace h := ifp cq h
          exact r_return C hM1 hr hlk h dX0_compare_52
        · replace h := ifn cq h
          exact hJ37 () _ _ _ h hM1 (lv_sub hl [1, 2, 3, 0] rfl)
set_option maxRecDepth 100000 in
set_option maxHeartbeats 4000000 in
theorem c_X0_find (l : Launch) (E : jE) (z : Nat) {s1 : Nat} {x2 : Int} {x3 : Int} {M M' : Mem} (hs1 : isSt s1) (hx2 : inR x2) (hx3 : inR x3) (h : f_X0_find s1 x2 x3 M = some M') : CtV l yX0_find cX0_find 10 none { frames := 2, cells := 0, slots := 0, locals := 43 } E z LyC [.ref (z + 71), .ref (z + (s1 + 1)), .int (jI x2), .int (jI x3)] M M' := by
  refine jm (by decide +kernel) (Nat.le_of_ble_eq_true rfl) ?_
  intro p e sM m below meth c C hM0 hr hlk ls hl
  replace hl : lv_has ls 10 [(0, .ref (z + 71)), (1, .ref (z + (s1 + 1))), (2, .int (jI x2)), (3, .int (jI x3))] := hl
  unfold f_X0_find at h
  refine r_aload_n C dX0_find_0 rfl hl 0 rfl ?_
  refine r_iconst C dX0_find_1 ?_
  refine r_putI C hM0 jc0 0 ⟨by decide, by decide⟩ dX0_find_2 lk_X0_9 lc_71.1 lc_71.2 rfl rfl (by decide) rfl rfl rfl (Nat.le_of_ble_eq_true rfl) (by decide) (fun H locs hM1 => ?_)
  replace h := lt_some h
  obtain ⟨N2, eN2, h⟩ := h
  rw [← eN2] at hM1
  refine r_aload_n C dX0_find_5 rfl hl 0 rfl ?_
  refine r_iconst C dX0_find_6 ?_
  refine r_putI C hM1 jc0 1 ⟨by decide, by decide⟩ dX0_find_7 lk_X0_15 lc_71.1 lc_71.2 rfl rfl (by decide) rfl rfl rfl (Nat.le_of_ble_eq_true rfl) (by decide) (fun H locs hM3 => ?_)
  replace h := lt_some h
  obtain ⟨N4, eN4, h⟩ := h
  rw [← eN4] at hM3
  refine r_aload_n C dX0_find_10 rfl hl 0 rfl ?_
  refine r_iconst C dX0_find_11 ?_
  refine r_putI C hM3 jc0 2 ⟨by decide, by decide⟩ dX0_find_12 lk_X0_18 lc_71.1 lc_71.2 rfl rfl (by decide) rfl rfl rfl (Nat.le_of_ble_eq_true rfl) (by decide) (fun H locs hM5 => ?_)
  replace h := lt_some h
  obtain ⟨N6, eN6, h⟩ := h
  rw [← eN6] at hM5
  refine r_aload_n C dX0_find_15 rfl hl 1 rfl ?_
  refine r_iconst C dX0_find_16 ?_
  replace h := bd_some h
  obtain ⟨r17, hf17, h⟩ := h
  refine r_callI (As := [.int (jI 3)]) (rest := []) C hM5 (c_X3_setting l E z hs1 ⟨by decide, by decide⟩ hf17) jy_X3_setting lk_X0_25 dX0_find_17 (recvW C hM5 jc3 (ls_1 hs1).1 (ls_1 hs1).2 rfl) rfl rfl hl.1 (Nat.le_of_ble_eq_true rfl) ⟨Nat.le_of_ble_eq_true rfl, Nat.le_of_ble_eq_true rfl⟩ ⟨rfl, rfl⟩ ⟨Nat.zero_le _, Nat.zero_le _⟩ (fun H locs hr17 hM7 => ?_)
  refine r_istore C [(4, .int (jI r17)), (0, .ref (z + 71)), (1, .ref (z + (s1 + 1))), (2, .int (jI x2)), (3, .int (jI x3))] dX0_find_20 hl (by decide) rfl (fun ls hl => ?_)
  refine r_iconst C dX0_find_22 ?_
  refine r_istore C [(5, .int (jI 0)), (4, .int (jI r17)), (0, .ref (z + 71)), (1, .ref (z + (s1 + 1))), (2, .int (jI x2)), (3, .int (jI x3))] dX0_find_23 hl (by decide) rfl (fun ls hl => ?_)
  obtain ⟨y4, ey4⟩ : ∃ y : Int, y = r17 := ⟨_, rfl⟩
  have hy4 : inR y4 := by rw [ey4]; exact hr17
  have hL25 : ∀ n25 : Nat, ∀ (x5 : Int) (M : Mem), inR x5 → ∀ (H : Heap) (locs : List Loc) (ls : Array Slot), f_X0_find_L25 s1 x2 x3 y4 n25  x5 M = some M' → HS E z LyC M sM H locs → lv_has ls 10 [(0, .ref (z + 71)), (1, .ref (z + (s1 + 1))), (2, .int (jI x2)), (3, .int (jI x3)), (4, .int (jI y4)), (5, .int (jI x5))] → W p l e ({ frames := 2, cells := 0, slots := 0, locals := 43 } : Room) sM m (([.ref (z + 71), .ref (z + (s1 + 1)), .int (jI x2), .int (jI x3)] : List Value).toArray) below meth c H locs 0 0 (MQ below (va_Qv (fun (_ : Unit) => Mok LyC M') (fun _ t => va_P (eD E) vwCl (Wd (eC E) z LyC M') t.heap) (eA E)) (([.ref (z + 71), .ref (z + (s1 + 1)), .int (jI x2), .int (jI x3)] : List Value).toArray) sM 0 0 (eA E)) (F0 m 25 ls []) := by
    intro n25
    induction n25 with
    | zero =>
      intro x5 M hx5 H locs ls h hM hl
      exact absurd h (by simp [f_X0_find_L25])
    | succ n25 ih25 =>
      intro x5 M hx5 H locs ls h hM hl
      rw [f_X0_find_L25] at h
      refine r_iload C dX0_find_25 hl 5 rfl ?_
      refine r_aload_n C dX0_find_27 rfl hl 1 rfl ?_
      refine r_getI C hM jc3 0 rfl dX0_find_28 lk_X0_31 (ls_1 hs1).1 (ls_1 hs1).2 rfl rfl (by decide) rfl ?_
      refine r_icmp_ge C 142 hx5 (hM.ok _ _) dX0_find_31 (by decide) (fun cq => ?_) (fun cq => ?_)
      · replace h := ifp cq h
        exact r_return C hM hr hlk h dX0_find_142
      · replace h := ifn cq h
        refine r_iload C dX0_find_34 hl 5 rfl ?_
        refine r_bipush C dX0_find_36 rfl ?_
        refine r_icmp_ge C 142 hx5 ⟨by decide, by decide⟩ dX0_find_38 (by decide) (fun cq => ?_) (fun cq => ?_)
        · replace h := ifp cq h
          exact r_return C hM hr hlk h dX0_find_142
        · replace h := ifn cq h
          refine r_aload_n C dX0_find_41 rfl hl 1 rfl ?_
          refine r_iload C dX0_find_42 hl 5 rfl ?_
          replace h := bd_some h
          obtain ⟨r44, hf44, h⟩ := h
          refine r_callI (As := [.int (jI x5)]) (rest := []) C hM (c_X3_lengthOf l E z hs1 hx5 hf44) jy_X3_lengthOf lk_X0_34 dX0_find_44 (recvW C hM jc3 (ls_1 hs1).1 (ls_1 hs1).2 rfl) rfl rfl hl.1 (Nat.le_of_ble_eq_true rfl) ⟨Nat.le_of_ble_eq_true rfl, Nat.le_of_ble_eq_true rfl⟩ ⟨rfl, rfl⟩ ⟨Nat.zero_le _, Nat.zero_le _⟩ (fun H locs hr44 hM8 => ?_)
          refine r_istore C [(6, .int (jI r44)), (0, .ref (z + 71)), (1, .ref (z + (s1 + 1))), (2, .int (jI x2)), (3, .int (jI x3)), (4, .int (jI y4)), (5, .int (jI x5))] dX0_find_47 hl (by decide) rfl (fun ls hl => ?_)
          refine r_iconst C dX0_find_49 ?_
          refine r_istore C [(7, .int (jI 0)), (6, .int (jI r44)), (0, .ref (z + 71)), (1, .ref (z + (s1 + 1))), (2, .int (jI x2)), (3, .int (jI x3)), (4, .int (jI y4)), (5, .int (jI x5))] dX0_find_50 hl (by decide) rfl (fun ls hl => ?_)
          obtain ⟨y6, ey6⟩ : ∃ y : Int, y = r44 := ⟨_, rfl⟩
          have hy6 : inR y6 := by rw [ey6]; exact hr44
          have hL52 : ∀ n52 : Nat, ∀ (x7 : Int) (M : Mem), inR x7 → ∀ (H : Heap) (locs : List Loc) (ls : Array Slot), f_X0_find_L52 (f_X0_find_L25 s1 x2 x3 y4 n25) s1 x2 x3 y4 x5 y6 n52  x7 M = some M' → HS E z LyC M sM H locs → lv_has ls 10 [(0, .ref (z + 71)), (1, .ref (z + (s1 + 1))), (2, .int (jI x2)), (3, .int (jI x3)), (4, .int (jI y4)), (5, .int (jI x5)), (6, .int (jI y6)), (7, .int (jI x7))] → W p l e ({ frames := 2, cells := 0, slots := 0, locals := 43 } : Room) sM m (([.ref (z + 71), .ref (z + (s1 + 1)), .int (jI x2), .int (jI x3)] : List Value).toArray) below meth c H locs 0 0 (MQ below (va_Qv (fun (_ : Unit) => Mok LyC M') (fun _ t => va_P (eD E) vwCl (Wd (eC E) z LyC M') t.heap) (eA E)) (([.ref (z + 71), .ref (z + (s1 + 1)), .int (jI x2), .int (jI x3)] : List Value).toArray) sM 0 0 (eA E)) (F0 m 52 ls []) := by
            intro n52
            induction n52 with
            | zero =>
              intro x7 M hx7 H locs ls h hM hl
              exact absurd h (by simp [f_X0_find_L52])
            | succ n52 ih52 =>
              intro x7 M hx7 H locs ls h hM hl
              rw [f_X0_find_L52] at h
              refine r_iload C dX0_find_52 hl 7 rfl ?_
              refine r_iconst C dX0_find_54 ?_
              refine r_iload C dX0_find_55 hl 5 rfl ?_
              refine r_ishl C dX0_find_57 ?_
              refine r_icmp_ge C 136 hx7 (ishl_R _ _) dX0_find_58 (by decide) (fun cq => ?_) (fun cq => ?_)
              · replace h := ifp cq h
                replace h := ck_some h
                obtain ⟨hc9, h⟩ := h
                refine r_iinc (j := 5) (x := x5) C [(5, .int (jI (x5 + 1))), (0, .ref (z + 71)), (1, .ref (z + (s1 + 1))), (2, .int (jI x2)), (3, .int (jI x3)), (4, .int (jI y4)), (6, .int (jI y6)), (7, .int (jI x7))] dX0_find_136 hl rfl (by decide) rfl (fun ls hl => ?_)
                refine r_goto C 25 dX0_find_139 (by decide) ?_
                exact ih25 _ _ hc9 _ _ _ h hM (lv_sub hl [1, 2, 3, 4, 5, 0] rfl)
              · replace h := ifn cq h
                refine r_iconst C dX0_find_61 ?_
                refine r_iload C dX0_find_62 hl 5 rfl ?_
                refine r_ishl C dX0_find_64 ?_
                refine r_iload C dX0_find_65 hl 7 rfl ?_
                refine r_ior C dX0_find_67 ?_
                refine r_istore C [(8, .int (jI (ior (ishl 1 x5) x7))), (0, .ref (z + 71)), (1, .ref (z + (s1 + 1))), (2, .int (jI x2)), (3, .int (jI x3)), (4, .int (jI y4)), (5, .int (jI x5)), (6, .int (jI y6)), (7, .int (jI x7))] dX0_find_68 hl (by decide) rfl (fun ls hl => ?_)
                refine r_aload_n C dX0_find_70 rfl hl 1 rfl ?_
                refine r_getR C hM jc0 3 72 dX0_find_71 lk_X0_21 lc_71.1 lc_71.2 rfl rfl (by decide) rfl ?_
                refine r_iload C dX0_find_74 hl 0 rfl ?_
                refine r_aload_n C dX0_find_76 rfl hl 1 rfl ?_
                refine r_getR C hM jc0 3 72 dX0_find_77 lk_X0_21 lc_71.1 lc_71.2 rfl rfl (by decide) rfl ?_
                refine r_iload C dX0_find_80 hl 8 rfl ?_
                replace h := ck_some h
                obtain ⟨hc10, h⟩ := h
                refine r_iald C hM rfl dX0_find_82 lc_72.1 lc_72.2 hc10 hx7 ?_
                refine r_iload C dX0_find_83 hl 7 rfl ?_
                replace h := ck_some h
                obtain ⟨hc11, h⟩ := h
                refine r_iadd C dX0_find_85 ?_
                replace h := ck_some h
                obtain ⟨hc12, h⟩ := h
                refine r_iast C hM dX0_find_86 lc_72.1 lc_72.2 hc12 (ior_R _ _) hc11 (fun H locs hM13 => ?_)
                replace h := lt_some h
                obtain ⟨N14, eN14, h⟩ := h
                rw [← eN14] at hM13
                refine r_aload_n C dX0_find_87 rfl hl 1 rfl ?_
                refine r_getR C hM13 jc0 3 72 dX0_find_88 lk_X0_21 lc_71.1 lc_71.2 rfl rfl (by decide) rfl ?_
                refine r_iload C dX0_find_91 hl 0 rfl ?_
                refine r_iald C hM13 rfl dX0_find_93 lc_72.1 lc_72.2 hc12 (ior_R _ _) ?_
                refine r_iload_n C dX0_find_94 rfl hl 4 rfl ?_
                replace h := ck_some h
                obtain ⟨hc15, h⟩ := h
                refine r_isub C dX0_find_95 ?_
                refine r_istore C [(9, .int (jI ((N14 72 (ior (ishl 1 x5) x7).toNat) - x3))), (8, .int (jI (ior (ishl 1 x5) x7))), (0, .ref (z + 71)), (1, .ref (z + (s1 + 1))), (2, .int (jI x2)), (3, .int (jI x3)), (4, .int (jI y4)), (5, .int (jI x5)), (6, .int (jI y6)), (7, .int (jI x7))] dX0_find_96 hl (by decide) rfl (fun ls hl => ?_)
                refine r_iload C dX0_find_98 hl 1 rfl ?_
                refine r_iload_n C dX0_find_100 rfl hl 4 rfl ?_
                refine r_iconst C dX0_find_101 ?_
                refine r_ixor C dX0_find_102 ?_
                refine r_iand C dX0_find_103 ?_
                refine r_if_ne C 130 (iand_R _ _) dX0_find_104 (by decide) (fun cq => ?_) (fun cq => ?_)
                · replace h := ifn cq h
                  replace h := ck_some h
                  obtain ⟨hc16, h⟩ := h
                  refine r_iinc (j := 9) (x := x7) C [(7, .int (jI (x7 + 1))), (9, .int (jI ((N14 72 (ior (ishl 1 x5) x7).toNat) - x3))), (8, .int (jI (ior (ishl 1 x5) x7))), (0, .ref (z + 71)), (1, .ref (z + (s1 + 1))), (2, .int (jI x2)), (3, .int (jI x3)), (4, .int (jI y4)), (5, .int (jI x5)), (6, .int (jI y6))] dX0_find_130 hl rfl (by decide) rfl (fun ls hl => ?_)
                  refine r_goto C 52 dX0_find_133 (by decide) ?_
                  exact ih52 _ _ hc16 _ _ _ h hM13 (lv_sub hl [3, 4, 5, 6, 7, 8, 9, 0] rfl)
                · replace h := ifp cq h
                  refine r_iload C dX0_find_107 hl 0 rfl ?_
                  refine r_if_lt C 130 hc15 dX0_find_109 (by decide) (fun cq => ?_) (fun cq => ?_)
                  · replace h := ifp cq h
                    replace h := ck_some h
                    obtain ⟨hc17, h⟩ := h
                    refine r_iinc (j := 9) (x := x7) C [(7, .int (jI (x7 + 1))), (9, .int (jI ((N14 72 (ior (ishl 1 x5) x7).toNat) - x3))), (8, .int (jI (ior (ishl 1 x5) x7))), (0, .ref (z + 71)), (1, .ref (z + (s1 + 1))), (2, .int (jI x2)), (3, .int (jI x3)), (4, .int (jI y4)), (5, .int (jI x5)), (6, .int (jI y6))] dX0_find_130 hl rfl (by decide) rfl (fun ls hl => ?_)
                    refine r_goto C 52 dX0_find_133 (by decide) ?_
                    exact ih52 _ _ hc17 _ _ _ h hM13 (lv_sub hl [3, 4, 5, 6, 7, 8, 9, 0] rfl)
                  · replace h := ifn cq h
                    refine r_iload C dX0_find_112 hl 8 rfl ?_
                    refine r_iload C dX0_find_114 hl 0 rfl ?_
                    replace h := ck_some h
                    obtain ⟨hc18, h⟩ := h
                    refine r_isub C dX0_find_116 ?_
                    refine r_iload C dX0_find_117 hl 6 rfl ?_
                    refine r_icmp_lt C 130 hc18 hy4 dX0_find_119 (by decide) (fun cq => ?_) (fun cq => ?_)
                    · replace h := ifp cq h
                      replace h := ck_some h
                      obtain ⟨hc19, h⟩ := h
                      refine r_iinc (j := 9) (x := x7) C [(7, .int (jI (x7 + 1))), (9, .int (jI ((N14 72 (ior (ishl 1 x5) x7).toNat) - x3))), (8, .int (jI (ior (ishl 1 x5) x7))), (0, .ref (z + 71)), (1, .ref (z + (s1 + 1))), (2, .int (jI x2)), (3, .int (jI x3)), (4, .int (jI y4)), (5, .int (jI x5)), (6, .int (jI y6))] dX0_find_130 hl rfl (by decide) rfl (fun ls hl => ?_)
                      refine r_goto C 52 dX0_find_133 (by decide) ?_
                      exact ih52 _ _ hc19 _ _ _ h hM13 (lv_sub hl [3, 4, 5, 6, 7, 8, 9, 0] rfl)
                    · replace h := ifn cq h
                      refine r_aload_n C dX0_find_122 rfl hl 2 rfl ?_
                      refine r_iload C dX0_find_123 hl 1 rfl ?_
                      refine r_iload C dX0_find_125 hl 0 rfl ?_
                      replace h := bd_some h
                      obtain ⟨M127, hf127, h⟩ := h
                      refine r_callV (As := [.int (jI (ior (ishl 1 x5) x7)), .int (jI ((N14 72 (ior (ishl 1 x5) x7).toNat) - x3))]) (rest := []) C hM13 (c_X0_compare l E z (ior_R _ _) hc15 hf127) jy_X0_compare lk_X0_37 dX0_find_127 (recvW C hM13 jc0 lc_71.1 lc_71.2 rfl) rfl rfl hl.1 (Nat.le_of_ble_eq_true rfl) ⟨Nat.le_of_ble_eq_true rfl, Nat.le_of_ble_eq_true rfl⟩ ⟨rfl, rfl⟩ ⟨Nat.zero_le _, Nat.zero_le _⟩ (fun H locs hM20 => ?_)
                      replace h := ck_some h
                      obtain ⟨hc21, h⟩ := h
                      refine r_iinc (j := 9) (x := x7) C [(7, .int (jI (x7 + 1))), (9, .int (jI ((N14 72 (ior (ishl 1 x5) x7).toNat) - x3))), (8, .int (jI (ior (ishl 1 x5) x7))), (0, .ref (z + 71)), (1, .ref (z + (s1 + 1))), (2, .int (jI x2)), (3, .int (jI x3)), (4, .int (jI y4)), (5, .int (jI x5)), (6, .int (jI y6))] dX0_find_130 hl rfl (by decide) rfl (fun ls hl => ?_)
                      refine r_goto C 52 dX0_find_133 (by decide) ?_
                      exact ih52 _ _ hc21 _ _ _ h hM20 (lv_sub hl [3, 4, 5, 6, 7, 8, 9, 0] rfl)
          rw [← ey6] at h
          have hl := lv_sub (l' := [(0, .ref (z + 71)), (1, .ref (z + (s1 + 1))), (2, .int (jI x2)), (3, .int (jI x3)), (4, .int (jI y4)), (5, .int (jI x5)), (6, .int (jI y6)), (7, .int (jI 0))]) hl [2, 3, 4, 5, 6, 7, 1, 0] (by rw [ey6]; rfl)
          exact hL52 jFuel _ _ ⟨by decide, by decide⟩ _ _ _ h hM8 hl
  rw [← ey4] at h
  have hl := lv_sub (l' := [(0, .ref (z + 71)), (1, .ref (z + (s1 + 1))), (2, .int (jI x2)), (3, .int (jI x3)), (4, .int (jI y4)), (5, .int (jI 0))]) hl [2, 3, 4, 5, 1, 0] (by rw [ey4]; rfl)
  exact hL25 jFuel _ _ ⟨by decide, by decide⟩ _ _ _ h hM7 hl
set_option maxRecDepth 100000 in
set_option maxHeartbeats 4000000 in
theorem c_X1_add (l : Launch) (E : jE) (z : Nat) {x1 : Int} {x2 : Int} {M M' : Mem} (hx1 : inR x1) (hx2 : inR x2) (h : f_X1_add x1 x2 M = some M') : CtV l yX1_add cX1_add 3 none { frames := 0, cells := 0, slots := 0, locals := 0 } E z LyC [.ref (z + 68), .int (jI x1), .int (jI x2)] M M' := by
  refine jm (by decide +kernel) (Nat.le_of_ble_eq_true rfl) ?_
  intro p e sM m below meth c C hM0 hr hlk ls hl
  replace hl : lv_has ls 3 [(0, .ref (z + 68)), (1, .int (jI x1)), (2, .int (jI x2))] := hl
  unfold f_X1_add at h
  refine r_aload_n C dX1_add_0 rfl hl 0 rfl ?_
  refine r_getI C hM0 jc1 0 rfl dX1_add_1 lk_X1_9 lc_68.1 lc_68.2 rfl rfl (by decide) rfl ?_
  refine r_sipush C dX1_add_4 rfl ?_
  refine r_icmp_ge C 40 (hM0.ok _ _) ⟨by decide, by decide⟩ dX1_add_7 (by decide) (fun cq => ?_) (fun cq => ?_)
  · replace h := ifp cq h
    exact r_return C hM0 hr hlk h dX1_add_40
  · replace h := ifn cq h
    refine r_aload_n C dX1_add_10 rfl hl 0 rfl ?_
    refine r_getR C hM0 jc1 1 69 dX1_add_11 lk_X1_15 lc_68.1 lc_68.2 rfl rfl (by decide) rfl ?_
    refine r_aload_n C dX1_add_14 rfl hl 0 rfl ?_
    refine r_getI C hM0 jc1 0 rfl dX1_add_15 lk_X1_9 lc_68.1 lc_68.2 rfl rfl (by decide) rfl ?_
    refine r_iload_n C dX1_add_18 rfl hl 1 rfl ?_
    replace h := ck_some h
    obtain ⟨hc1, h⟩ := h
    refine r_iast C hM0 dX1_add_19 lc_69.1 lc_69.2 hc1 (hM0.ok _ _) hx1 (fun H locs hM2 => ?_)
    replace h := lt_some h
    obtain ⟨N3, eN3, h⟩ := h
    rw [← eN3] at hM2
    refine r_aload_n C dX1_add_20 rfl hl 0 rfl ?_
    refine r_getR C hM2 jc1 2 70 dX1_add_21 lk_X1_19 lc_68.1 lc_68.2 rfl rfl (by decide) rfl ?_
    refine r_aload_n C dX1_add_24 rfl hl 0 rfl ?_
    refine r_getI C hM2 jc1 0 (rd_skip eN3 (by decide) rfl) dX1_add_25 lk_X1_9 lc_68.1 lc_68.2 rfl rfl (by decide) rfl ?_
    refine r_iload_n C dX1_add_28 rfl hl 2 rfl ?_
    refine r_iast C hM2 dX1_add_29 lc_70.1 lc_70.2 hc1 (hM0.ok _ _) hx2 (fun H locs hM4 => ?_)
    replace h := lt_some h
    obtain ⟨N5, eN5, h⟩ := h
    rw [← eN5] at hM4
    refine r_aload_n C dX1_add_30 rfl hl 0 rfl ?_
    refine r_dup C dX1_add_31 rfl ?_
    refine r_getI C hM4 jc1 0 (rd_skip eN5 (by decide) (rd_skip eN3 (by decide) rfl)) dX1_add_32 lk_X1_9 lc_68.1 lc_68.2 rfl rfl (by decide) rfl ?_
    refine r_iconst C dX1_add_35 ?_
    replace h := ck_some h
    obtain ⟨hc6, h⟩ := h
    refine r_iadd C dX1_add_36 ?_
    refine r_putI C hM4 jc1 0 hc6 dX1_add_37 lk_X1_9 lc_68.1 lc_68.2 rfl rfl (by decide) rfl rfl rfl (Nat.le_of_ble_eq_true rfl) (by decide) (fun H locs hM7 => ?_)
    replace h := lt_some h
    obtain ⟨N8, eN8, h⟩ := h
    rw [← eN8] at hM7
    exact r_return C hM7 hr hlk h dX1_add_40
set_option maxRecDepth 100000 in
set_option maxHeartbeats 4000000 in
theorem c_X1_findBanned (l : Launch) (E : jE) (z : Nat) {s2 : Nat} {M M' : Mem} (hs2 : isSt s2) (h : f_X1_findBanned s2 M = some M') : CtV l yX1_findBanned cX1_findBanned 5 none { frames := 2, cells := 0, slots := 0, locals := 46 } E z LyC [.ref (z + 68), .ref (z + 56), .ref (z + (s2 + 1))] M M' := by
  refine jm (by decide +kernel) (Nat.le_of_ble_eq_true rfl) ?_
  intro p e sM m below meth c C hM0 hr hlk ls hl
  replace hl : lv_has ls 5 [(0, .ref (z + 68)), (1, .ref (z + 56)), (2, .ref (z + (s2 + 1)))] := hl
  unfold f_X1_findBanned at h
  refine r_aload_n C dX1_findBanned_0 rfl hl 2 rfl ?_
  refine r_aload_n C dX1_findBanned_1 rfl hl 2 rfl ?_
  refine r_iconst C dX1_findBanned_2 ?_
  replace h := bd_some h
  obtain ⟨r3, hf3, h⟩ := h
  refine r_callI (As := [.int (jI 0)]) (rest := [.ref (z + (s2 + 1))]) C hM0 (c_X3_setting l E z hs2 ⟨by decide, by decide⟩ hf3) jy_X3_setting lk_X1_36 dX1_findBanned_3 (recvW C hM0 jc3 (ls_1 hs2).1 (ls_1 hs2).2 rfl) rfl rfl hl.1 (Nat.le_of_ble_eq_true rfl) ⟨Nat.le_of_ble_eq_true rfl, Nat.le_of_ble_eq_true rfl⟩ ⟨rfl, rfl⟩ ⟨Nat.zero_le _, Nat.zero_le _⟩ (fun H locs hr3 hM1 => ?_)
  replace h := bd_some h
  obtain ⟨r6, hf6, h⟩ := h
  refine r_callI (As := [.int (jI r3)]) (rest := []) C hM1 (c_X3_allowedShots l E z hs2 hr3 hf6) jy_X3_allowedShots lk_X1_66 dX1_findBanned_6 (recvW C hM1 jc3 (ls_1 hs2).1 (ls_1 hs2).2 rfl) rfl rfl hl.1 (Nat.le_of_ble_eq_true rfl) ⟨Nat.le_of_ble_eq_true rfl, Nat.le_of_ble_eq_true rfl⟩ ⟨rfl, rfl⟩ ⟨Nat.zero_le _, Nat.zero_le _⟩ (fun H locs hr6 hM2 => ?_)
  refine r_istore_n C [(3, .int (jI r6)), (0, .ref (z + 68)), (1, .ref (z + 56)), (2, .ref (z + (s2 + 1)))] dX1_findBanned_9 rfl hl (by decide) rfl (fun ls hl => ?_)
  refine r_iconst C dX1_findBanned_10 ?_
  refine r_istore C [(4, .int (jI 0)), (3, .int (jI r6)), (0, .ref (z + 68)), (1, .ref (z + 56)), (2, .ref (z + (s2 + 1)))] dX1_findBanned_11 hl (by decide) rfl (fun ls hl => ?_)
  obtain ⟨y3, ey3⟩ : ∃ y : Int, y = r6 := ⟨_, rfl⟩
  have hy3 : inR y3 := by rw [ey3]; exact hr6
  have hL13 : ∀ n13 : Nat, ∀ (x4 : Int) (M : Mem), inR x4 → ∀ (H : Heap) (locs : List Loc) (ls : Array Slot), f_X1_findBanned_L13 s2 y3 n13  x4 M = some M' → HS E z LyC M sM H locs → lv_has ls 5 [(0, .ref (z + 68)), (1, .ref (z + 56)), (3, .int (jI y3)), (4, .int (jI x4))] → W p l e ({ frames := 2, cells := 0, slots := 0, locals := 46 } : Room) sM m (([.ref (z + 68), .ref (z + 56), .ref (z + (s2 + 1))] : List Value).toArray) below meth c H locs 0 0 (MQ below (va_Qv (fun (_ : Unit) => Mok LyC M') (fun _ t => va_P (eD E) vwCl (Wd (eC E) z LyC M') t.heap) (eA E)) (([.ref (z + 68), .ref (z + 56), .ref (z + (s2 + 1))] : List Value).toArray) sM 0 0 (eA E)) (F0 m 13 ls []) := by
    intro n13
    induction n13 with
    | zero =>
      intro x4 M hx4 H locs ls h hM hl
      exact absurd h (by simp [f_X1_findBanned_L13])
    | succ n13 ih13 =>
      intro x4 M hx4 H locs ls h hM hl
      rw [f_X1_findBanned_L13] at h
      refine r_iload C dX1_findBanned_13 hl 3 rfl ?_
      refine r_aload_n C dX1_findBanned_15 rfl hl 1 rfl ?_
      refine r_getI C hM jc5 0 rfl dX1_findBanned_16 lk_X1_69 lc_56.1 lc_56.2 rfl rfl (by decide) rfl ?_
      refine r_icmp_ge C 59 hx4 (hM.ok _ _) dX1_findBanned_19 (by decide) (fun cq => ?_) (fun cq => ?_)
      · replace h := ifp cq h
        exact r_return C hM hr hlk h dX1_findBanned_59
      · replace h := ifn cq h
        refine r_aload_n C dX1_findBanned_22 rfl hl 1 rfl ?_
        refine r_getR C hM jc5 2 57 dX1_findBanned_23 lk_X1_70 lc_56.1 lc_56.2 rfl rfl (by decide) rfl ?_
        refine r_iload C dX1_findBanned_26 hl 3 rfl ?_
        replace h := ck_some h
        obtain ⟨hc3, h⟩ := h
        refine r_iald C hM rfl dX1_findBanned_28 lc_57.1 lc_57.2 hc3 hx4 ?_
        refine r_if_ne C 53 (hM.ok _ _) dX1_findBanned_29 (by decide) (fun cq => ?_) (fun cq => ?_)
        · replace h := ifn cq h
          replace h := ck_some h
          obtain ⟨hc4, h⟩ := h
          refine r_iinc (j := 3) (x := x4) C [(4, .int (jI (x4 + 1))), (0, .ref (z + 68)), (1, .ref (z + 56)), (3, .int (jI y3))] dX1_findBanned_53 hl rfl (by decide) rfl (fun ls hl => ?_)
          refine r_goto C 13 dX1_findBanned_56 (by decide) ?_
          exact ih13 _ _ hc4 _ _ _ h hM (lv_sub hl [1, 2, 3, 0] rfl)
        · replace h := ifp cq h
          refine r_iload_n C dX1_findBanned_32 rfl hl 2 rfl ?_
          refine r_aload_n C dX1_findBanned_33 rfl hl 1 rfl ?_
          refine r_getR C hM jc5 3 58 dX1_findBanned_34 lk_X1_71 lc_56.1 lc_56.2 rfl rfl (by decide) rfl ?_
          refine r_iload C dX1_findBanned_37 hl 3 rfl ?_
          refine r_iald C hM rfl dX1_findBanned_39 lc_58.1 lc_58.2 hc3 hx4 ?_
          refine r_ishr C dX1_findBanned_40 ?_
          refine r_iconst C dX1_findBanned_41 ?_
          refine r_iand C dX1_findBanned_42 ?_
          refine r_if_ne C 53 (iand_R _ _) dX1_findBanned_43 (by decide) (fun cq => ?_) (fun cq => ?_)
          · replace h := ifn cq h
            replace h := ck_some h
            obtain ⟨hc5, h⟩ := h
            refine r_iinc (j := 3) (x := x4) C [(4, .int (jI (x4 + 1))), (0, .ref (z + 68)), (1, .ref (z + 56)), (3, .int (jI y3))] dX1_findBanned_53 hl rfl (by decide) rfl (fun ls hl => ?_)
            refine r_goto C 13 dX1_findBanned_56 (by decide) ?_
            exact ih13 _ _ hc5 _ _ _ h hM (lv_sub hl [1, 2, 3, 0] rfl)
          · replace h := ifp cq h
            refine r_aload_n C dX1_findBanned_46 rfl hl 0 rfl ?_
            refine r_iconst C dX1_findBanned_47 ?_
            refine r_iload C dX1_findBanned_48 hl 3 rfl ?_
            replace h := bd_some h
            obtain ⟨M50, hf50, h⟩ := h
            refine r_callV (As := [.int (jI 1), .int (jI x4)]) (rest := []) C hM (c_X1_add l E z ⟨by decide, by decide⟩ hx4 hf50) jy_X1_add lk_X1_62 dX1_findBanned_50 (recvW C hM jc1 lc_68.1 lc_68.2 rfl) rfl rfl hl.1 (Nat.le_of_ble_eq_true rfl) ⟨Nat.le_of_ble_eq_true rfl, Nat.le_of_ble_eq_true rfl⟩ ⟨rfl, rfl⟩ ⟨Nat.zero_le _, Nat.zero_le _⟩ (fun H locs hM6 => ?_)
            replace h := ck_some h
            obtain ⟨hc7, h⟩ := h
            refine r_iinc (j := 3) (x := x4) C [(4, .int (jI (x4 + 1))), (0, .ref (z + 68)), (1, .ref (z + 56)), (3, .int (jI y3))] dX1_findBanned_53 hl rfl (by decide) rfl (fun ls hl => ?_)
            refine r_goto C 13 dX1_findBanned_56 (by decide) ?_
            exact ih13 _ _ hc7 _ _ _ h hM6 (lv_sub hl [1, 2, 3, 0] rfl)
  rw [← ey3] at h
  have hl := lv_sub (l' := [(0, .ref (z + 68)), (1, .ref (z + 56)), (3, .int (jI y3)), (4, .int (jI 0))]) hl [2, 3, 1, 0] (by rw [ey3]; rfl)
  exact hL13 jFuel _ _ ⟨by decide, by decide⟩ _ _ _ h hM2 hl
set_option maxRecDepth 100000 in
set_option maxHeartbeats 4000000 in
theorem c_X1_findSameCamera (l : Launch) (E : jE) (z : Nat) {s2 : Nat} {M M' : Mem} (hs2 : isSt s2) (h : f_X1_findSameCamera s2 M = some M') : CtV l yX1_findSameCamera cX1_findSameCamera 5 none { frames := 2, cells := 0, slots := 0, locals := 43 } E z LyC [.ref (z + 68), .ref (z + 56), .ref (z + (s2 + 1))] M M' := by
  refine jm (by decide +kernel) (Nat.le_of_ble_eq_true rfl) ?_
  intro p e sM m below meth c C hM0 hr hlk ls hl
  replace hl : lv_has ls 5 [(0, .ref (z + 68)), (1, .ref (z + 56)), (2, .ref (z + (s2 + 1)))] := hl
  unfold f_X1_findSameCamera at h
  refine r_iconst C dX1_findSameCamera_0 ?_
  refine r_istore_n C [(3, .int (jI 1)), (0, .ref (z + 68)), (1, .ref (z + 56)), (2, .ref (z + (s2 + 1)))] dX1_findSameCamera_1 rfl hl (by decide) rfl (fun ls hl => ?_)
  have hL2 : ∀ n2 : Nat, ∀ (x3 : Int) (M : Mem), inR x3 → ∀ (H : Heap) (locs : List Loc) (ls : Array Slot), f_X1_findSameCamera_L2 s2 n2  x3 M = some M' → HS E z LyC M sM H locs → lv_has ls 5 [(0, .ref (z + 68)), (1, .ref (z + 56)), (2, .ref (z + (s2 + 1))), (3, .int (jI x3))] → W p l e ({ frames := 2, cells := 0, slots := 0, locals := 43 } : Room) sM m (([.ref (z + 68), .ref (z + 56), .ref (z + (s2 + 1))] : List Value).toArray) below meth c H locs 0 0 (MQ below (va_Qv (fun (_ : Unit) => Mok LyC M') (fun _ t => va_P (eD E) vwCl (Wd (eC E) z LyC M') t.heap) (eA E)) (([.ref (z + 68), .ref (z + 56), .ref (z + (s2 + 1))] : List Value).toArray) sM 0 0 (eA E)) (F0 m 2 ls []) := by
    intro n2
    induction n2 with
    | zero =>
      intro x3 M hx3 H locs ls h hM hl
      exact absurd h (by simp [f_X1_findSameCamera_L2])
    | succ n2 ih2 =>
      intro x3 M hx3 H locs ls h hM hl
      rw [f_X1_findSameCamera_L2] at h
      refine r_iload_n C dX1_findSameCamera_2 rfl hl 3 rfl ?_
      refine r_aload_n C dX1_findSameCamera_3 rfl hl 1 rfl ?_
      refine r_getI C hM jc5 0 rfl dX1_findSameCamera_4 lk_X1_69 lc_56.1 lc_56.2 rfl rfl (by decide) rfl ?_
      refine r_icmp_ge C 49 hx3 (hM.ok _ _) dX1_findSameCamera_7 (by decide) (fun cq => ?_) (fun cq => ?_)
      · replace h := ifp cq h
        exact r_return C hM hr hlk h dX1_findSameCamera_49
      · replace h := ifn cq h
        refine r_aload_n C dX1_findSameCamera_10 rfl hl 1 rfl ?_
        refine r_iload_n C dX1_findSameCamera_11 rfl hl 3 rfl ?_
        refine r_aload_n C dX1_findSameCamera_12 rfl hl 2 rfl ?_
        replace h := bd_some h
        obtain ⟨r13, hf13, h⟩ := h
        refine r_callI (As := [.int (jI x3), .ref (z + (s2 + 1))]) (rest := []) C hM (c_X5_cameraOf l E z hx3 hs2 hf13) jy_X5_cameraOf lk_X1_88 dX1_findSameCamera_13 (recvW C hM jc5 lc_56.1 lc_56.2 rfl) rfl rfl hl.1 (Nat.le_of_ble_eq_true rfl) ⟨Nat.le_of_ble_eq_true rfl, Nat.le_of_ble_eq_true rfl⟩ ⟨rfl, rfl⟩ ⟨Nat.zero_le _, Nat.zero_le _⟩ (fun H locs hr13 hM1 => ?_)
        refine r_istore C [(4, .int (jI r13)), (0, .ref (z + 68)), (1, .ref (z + 56)), (2, .ref (z + (s2 + 1))), (3, .int (jI x3))] dX1_findSameCamera_16 hl (by decide) rfl (fun ls hl => ?_)
        refine r_iload C dX1_findSameCamera_18 hl 0 rfl ?_
        refine r_iconst C dX1_findSameCamera_20 ?_
        refine r_icmp_eq C 43 hr13 ⟨by decide, by decide⟩ dX1_findSameCamera_21 (by decide) (fun cq => ?_) (fun cq => ?_)
        · replace h := ifp cq h
          replace h := ck_some h
          obtain ⟨hc2, h⟩ := h
          refine r_iinc (j := 4) (x := x3) C [(3, .int (jI (x3 + 1))), (4, .int (jI r13)), (0, .ref (z + 68)), (1, .ref (z + 56)), (2, .ref (z + (s2 + 1)))] dX1_findSameCamera_43 hl rfl (by decide) rfl (fun ls hl => ?_)
          refine r_goto C 2 dX1_findSameCamera_46 (by decide) ?_
          exact ih2 _ _ hc2 _ _ _ h hM1 (lv_sub hl [2, 3, 4, 0] rfl)
        · replace h := ifn cq h
          refine r_iload C dX1_findSameCamera_24 hl 0 rfl ?_
          refine r_aload_n C dX1_findSameCamera_26 rfl hl 2 rfl ?_
          refine r_iload_n C dX1_findSameCamera_27 rfl hl 4 rfl ?_
          refine r_iconst C dX1_findSameCamera_28 ?_
          replace h := ck_some h
          obtain ⟨hc3, h⟩ := h
          refine r_isub C dX1_findSameCamera_29 ?_
          refine r_aload_n C dX1_findSameCamera_30 rfl hl 3 rfl ?_
          replace h := bd_some h
          obtain ⟨r31, hf31, h⟩ := h
          refine r_callI (As := [.int (jI (x3 - 1)), .ref (z + (s2 + 1))]) (rest := [.int (jI r13)]) C hM1 (c_X5_cameraOf l E z hc3 hs2 hf31) jy_X5_cameraOf lk_X1_88 dX1_findSameCamera_31 (recvW C hM1 jc5 lc_56.1 lc_56.2 rfl) rfl rfl hl.1 (Nat.le_of_ble_eq_true rfl) ⟨Nat.le_of_ble_eq_true rfl, Nat.le_of_ble_eq_true rfl⟩ ⟨rfl, rfl⟩ ⟨Nat.zero_le _, Nat.zero_le _⟩ (fun H locs hr31 hM4 => ?_)
          refine r_icmp_ne C 43 hr13 hr31 dX1_findSameCamera_34 (by decide) (fun cq => ?_) (fun cq => ?_)
          · replace h := ifn cq h
            replace h := ck_some h
            obtain ⟨hc5, h⟩ := h
            refine r_iinc (j := 4) (x := x3) C [(3, .int (jI (x3 + 1))), (4, .int (jI r13)), (0, .ref (z + 68)), (1, .ref (z + 56)), (2, .ref (z + (s2 + 1)))] dX1_findSameCamera_43 hl rfl (by decide) rfl (fun ls hl => ?_)
            refine r_goto C 2 dX1_findSameCamera_46 (by decide) ?_
            exact ih2 _ _ hc5 _ _ _ h hM4 (lv_sub hl [2, 3, 4, 0] rfl)
          · replace h := ifp cq h
            refine r_aload_n C dX1_findSameCamera_37 rfl hl 1 rfl ?_
            refine r_iconst C dX1_findSameCamera_38 ?_
            refine r_iload_n C dX1_findSameCamera_39 rfl hl 4 rfl ?_
            replace h := bd_some h
            obtain ⟨M40, hf40, h⟩ := h
            refine r_callV (As := [.int (jI 4), .int (jI x3)]) (rest := []) C hM4 (c_X1_add l E z ⟨by decide, by decide⟩ hx3 hf40) jy_X1_add lk_X1_62 dX1_findSameCamera_40 (recvW C hM4 jc1 lc_68.1 lc_68.2 rfl) rfl rfl hl.1 (Nat.le_of_ble_eq_true rfl) ⟨Nat.le_of_ble_eq_true rfl, Nat.le_of_ble_eq_true rfl⟩ ⟨rfl, rfl⟩ ⟨Nat.zero_le _, Nat.zero_le _⟩ (fun H locs hM6 => ?_)
            replace h := ck_some h
            obtain ⟨hc7, h⟩ := h
            refine r_iinc (j := 4) (x := x3) C [(3, .int (jI (x3 + 1))), (4, .int (jI r13)), (0, .ref (z + 68)), (1, .ref (z + 56)), (2, .ref (z + (s2 + 1)))] dX1_findSameCamera_43 hl rfl (by decide) rfl (fun ls hl => ?_)
            refine r_goto C 2 dX1_findSameCamera_46 (by decide) ?_
            exact ih2 _ _ hc7 _ _ _ h hM6 (lv_sub hl [2, 3, 4, 0] rfl)
  exact hL2 jFuel _ _ ⟨by decide, by decide⟩ _ _ _ h hM0 (lv_sub hl [1, 2, 3, 0] rfl)
set_option maxRecDepth 100000 in
set_option maxHeartbeats 4000000 in
theorem c_X1_findShort (l : Launch) (E : jE) (z : Nat) {x2 : Int} {M M' : Mem} (hx2 : inR x2) (h : f_X1_findShort x2 M = some M') : CtV l yX1_findShort cX1_findShort 4 none { frames := 1, cells := 0, slots := 0, locals := 22 } E z LyC [.ref (z + 68), .ref (z + 56), .int (jI x2)] M M' := by
  refine jm (by decide +kernel) (Nat.le_of_ble_eq_true rfl) ?_
  intro p e sM m below meth c C hM0 hr hlk ls hl
  replace hl : lv_has ls 4 [(0, .ref (z + 68)), (1, .ref (z + 56)), (2, .int (jI x2))] := hl
  unfold f_X1_findShort at h
  refine r_iconst C dX1_findShort_0 ?_
  refine r_istore_n C [(3, .int (jI 0)), (0, .ref (z + 68)), (1, .ref (z + 56)), (2, .int (jI x2))] dX1_findShort_1 rfl hl (by decide) rfl (fun ls hl => ?_)
  have hL2 : ∀ n2 : Nat, ∀ (x3 : Int) (M : Mem), inR x3 → ∀ (H : Heap) (locs : List Loc) (ls : Array Slot), f_X1_findShort_L2 x2 n2  x3 M = some M' → HS E z LyC M sM H locs → lv_has ls 4 [(0, .ref (z + 68)), (1, .ref (z + 56)), (2, .int (jI x2)), (3, .int (jI x3))] → W p l e ({ frames := 1, cells := 0, slots := 0, locals := 22 } : Room) sM m (([.ref (z + 68), .ref (z + 56), .int (jI x2)] : List Value).toArray) below meth c H locs 0 0 (MQ below (va_Qv (fun (_ : Unit) => Mok LyC M') (fun _ t => va_P (eD E) vwCl (Wd (eC E) z LyC M') t.heap) (eA E)) (([.ref (z + 68), .ref (z + 56), .int (jI x2)] : List Value).toArray) sM 0 0 (eA E)) (F0 m 2 ls []) := by
    intro n2
    induction n2 with
    | zero =>
      intro x3 M hx3 H locs ls h hM hl
      exact absurd h (by simp [f_X1_findShort_L2])
    | succ n2 ih2 =>
      intro x3 M hx3 H locs ls h hM hl
      rw [f_X1_findShort_L2] at h
      refine r_iload_n C dX1_findShort_2 rfl hl 3 rfl ?_
      refine r_aload_n C dX1_findShort_3 rfl hl 1 rfl ?_
      refine r_getI C hM jc5 0 rfl dX1_findShort_4 lk_X1_69 lc_56.1 lc_56.2 rfl rfl (by decide) rfl ?_
      refine r_icmp_ge C 32 hx3 (hM.ok _ _) dX1_findShort_7 (by decide) (fun cq => ?_) (fun cq => ?_)
      · replace h := ifp cq h
        exact r_return C hM hr hlk h dX1_findShort_32
      · replace h := ifn cq h
        refine r_aload_n C dX1_findShort_10 rfl hl 1 rfl ?_
        refine r_getR C hM jc5 5 60 dX1_findShort_11 lk_X1_85 lc_56.1 lc_56.2 rfl rfl (by decide) rfl ?_
        refine r_iload_n C dX1_findShort_14 rfl hl 3 rfl ?_
        replace h := ck_some h
        obtain ⟨hc1, h⟩ := h
        refine r_iald C hM rfl dX1_findShort_15 lc_60.1 lc_60.2 hc1 hx3 ?_
        refine r_iload_n C dX1_findShort_16 rfl hl 2 rfl ?_
        refine r_icmp_ge C 26 (hM.ok _ _) hx2 dX1_findShort_17 (by decide) (fun cq => ?_) (fun cq => ?_)
        · replace h := ifp cq h
          replace h := ck_some h
          obtain ⟨hc2, h⟩ := h
          refine r_iinc (j := 3) (x := x3) C [(3, .int (jI (x3 + 1))), (0, .ref (z + 68)), (1, .ref (z + 56)), (2, .int (jI x2))] dX1_findShort_26 hl rfl (by decide) rfl (fun ls hl => ?_)
          refine r_goto C 2 dX1_findShort_29 (by decide) ?_
          exact ih2 _ _ hc2 _ _ _ h hM (lv_sub hl [1, 2, 3, 0] rfl)
        · replace h := ifn cq h
          refine r_aload_n C dX1_findShort_20 rfl hl 0 rfl ?_
          refine r_iconst C dX1_findShort_21 ?_
          refine r_iload_n C dX1_findShort_22 rfl hl 3 rfl ?_
          replace h := bd_some h
          obtain ⟨M23, hf23, h⟩ := h
          refine r_callV (As := [.int (jI 3), .int (jI x3)]) (rest := []) C hM (c_X1_add l E z ⟨by decide, by decide⟩ hx3 hf23) jy_X1_add lk_X1_62 dX1_findShort_23 (recvW C hM jc1 lc_68.1 lc_68.2 rfl) rfl rfl hl.1 (Nat.le_of_ble_eq_true rfl) ⟨Nat.le_of_ble_eq_true rfl, Nat.le_of_ble_eq_true rfl⟩ ⟨rfl, rfl⟩ ⟨Nat.zero_le _, Nat.zero_le _⟩ (fun H locs hM3 => ?_)
          replace h := ck_some h
          obtain ⟨hc4, h⟩ := h
          refine r_iinc (j := 3) (x := x3) C [(3, .int (jI (x3 + 1))), (0, .ref (z + 68)), (1, .ref (z + 56)), (2, .int (jI x2))] dX1_findShort_26 hl rfl (by decide) rfl (fun ls hl => ?_)
          refine r_goto C 2 dX1_findShort_29 (by decide) ?_
          exact ih2 _ _ hc4 _ _ _ h hM3 (lv_sub hl [1, 2, 3, 0] rfl)
  exact hL2 jFuel _ _ ⟨by decide, by decide⟩ _ _ _ h hM0 (lv_sub hl [1, 2, 3, 0] rfl)
set_option maxRecDepth 100000 in
set_option maxHeartbeats 4000000 in
theorem c_X1_findUnseenNames (l : Launch) (E : jE) (z : Nat) {M M' : Mem} (h : f_X1_findUnseenNames M = some M') : CtV l yX1_findUnseenNames cX1_findUnseenNames 5 none { frames := 3, cells := 0, slots := 0, locals := 66 } E z LyC [.ref (z + 68), .ref (z + 56), .ref (z + 64)] M M' := by
  refine jm (by decide +kernel) (Nat.le_of_ble_eq_true rfl) ?_
  intro p e sM m below meth c C hM0 hr hlk ls hl
  replace hl : lv_has ls 5 [(0, .ref (z + 68)), (1, .ref (z + 56)), (2, .ref (z + 64))] := hl
  unfold f_X1_findUnseenNames at h
  refine r_iconst C dX1_findUnseenNames_0 ?_
  refine r_istore_n C [(3, .int (jI 0)), (0, .ref (z + 68)), (1, .ref (z + 56)), (2, .ref (z + 64))] dX1_findUnseenNames_1 rfl hl (by decide) rfl (fun ls hl => ?_)
  have hL2 : ∀ n2 : Nat, ∀ (x3 : Int) (M : Mem), inR x3 → ∀ (H : Heap) (locs : List Loc) (ls : Array Slot), f_X1_findUnseenNames_L2 n2  x3 M = some M' → HS E z LyC M sM H locs → lv_has ls 5 [(0, .ref (z + 68)), (1, .ref (z + 56)), (2, .ref (z + 64)), (3, .int (jI x3))] → W p l e ({ frames := 3, cells := 0, slots := 0, locals := 66 } : Room) sM m (([.ref (z + 68), .ref (z + 56), .ref (z + 64)] : List Value).toArray) below meth c H locs 0 0 (MQ below (va_Qv (fun (_ : Unit) => Mok LyC M') (fun _ t => va_P (eD E) vwCl (Wd (eC E) z LyC M') t.heap) (eA E)) (([.ref (z + 68), .ref (z + 56), .ref (z + 64)] : List Value).toArray) sM 0 0 (eA E)) (F0 m 2 ls []) := by
    intro n2
    induction n2 with
    | zero =>
      intro x3 M hx3 H locs ls h hM hl
      exact absurd h (by simp [f_X1_findUnseenNames_L2])
    | succ n2 ih2 =>
      intro x3 M hx3 H locs ls h hM hl
      rw [f_X1_findUnseenNames_L2] at h
      refine r_iload_n C dX1_findUnseenNames_2 rfl hl 3 rfl ?_
      refine r_aload_n C dX1_findUnseenNames_3 rfl hl 2 rfl ?_
      refine r_getI C hM jc6 0 rfl dX1_findUnseenNames_4 lk_X1_74 lc_64.1 lc_64.2 rfl rfl (by decide) rfl ?_
      refine r_icmp_ge C 51 hx3 (hM.ok _ _) dX1_findUnseenNames_7 (by decide) (fun cq => ?_) (fun cq => ?_)
      · replace h := ifp cq h
        exact r_return C hM hr hlk h dX1_findUnseenNames_51
      · replace h := ifn cq h
        refine r_aload_n C dX1_findUnseenNames_10 rfl hl 2 rfl ?_
        refine r_getR C hM jc6 4 67 dX1_findUnseenNames_11 lk_X1_75 lc_64.1 lc_64.2 rfl rfl (by decide) rfl ?_
        refine r_iload_n C dX1_findUnseenNames_14 rfl hl 3 rfl ?_
        replace h := ck_some h
        obtain ⟨hc1, h⟩ := h
        refine r_iald C hM rfl dX1_findUnseenNames_15 lc_67.1 lc_67.2 hc1 hx3 ?_
        refine r_istore C [(4, .int (jI (M 67 x3.toNat))), (0, .ref (z + 68)), (1, .ref (z + 56)), (2, .ref (z + 64)), (3, .int (jI x3))] dX1_findUnseenNames_16 hl (by decide) rfl (fun ls hl => ?_)
        refine r_iload C dX1_findUnseenNames_18 hl 0 rfl ?_
        refine r_iconst C dX1_findUnseenNames_20 ?_
        refine r_icmp_eq C 45 (hM.ok _ _) ⟨by decide, by decide⟩ dX1_findUnseenNames_21 (by decide) (fun cq => ?_) (fun cq => ?_)
        · replace h := ifp cq h
          replace h := ck_some h
          obtain ⟨hc2, h⟩ := h
          refine r_iinc (j := 4) (x := x3) C [(3, .int (jI (x3 + 1))), (4, .int (jI (M 67 x3.toNat))), (0, .ref (z + 68)), (1, .ref (z + 56)), (2, .ref (z + 64))] dX1_findUnseenNames_45 hl rfl (by decide) rfl (fun ls hl => ?_)
          refine r_goto C 2 dX1_findUnseenNames_48 (by decide) ?_
          exact ih2 _ _ hc2 _ _ _ h hM (lv_sub hl [2, 3, 4, 0] rfl)
        · replace h := ifn cq h
          refine r_aload_n C dX1_findUnseenNames_24 rfl hl 2 rfl ?_
          refine r_iload C dX1_findUnseenNames_25 hl 0 rfl ?_
          refine r_aload_n C dX1_findUnseenNames_27 rfl hl 3 rfl ?_
          refine r_getR C hM jc6 2 65 dX1_findUnseenNames_28 lk_X1_78 lc_64.1 lc_64.2 rfl rfl (by decide) rfl ?_
          refine r_iload_n C dX1_findUnseenNames_31 rfl hl 4 rfl ?_
          refine r_iald C hM rfl dX1_findUnseenNames_32 lc_65.1 lc_65.2 hc1 hx3 ?_
          replace h := bd_some h
          obtain ⟨r33, hf33, h⟩ := h
          refine r_callI (As := [.int (jI (M 67 x3.toNat)), .int (jI (M 65 x3.toNat))]) (rest := []) C hM (c_X5_shows l E z (hM.ok _ _) (hM.ok _ _) hf33) jy_X5_shows lk_X1_81 dX1_findUnseenNames_33 (recvW C hM jc5 lc_56.1 lc_56.2 rfl) rfl rfl hl.1 (Nat.le_of_ble_eq_true rfl) ⟨Nat.le_of_ble_eq_true rfl, Nat.le_of_ble_eq_true rfl⟩ ⟨rfl, rfl⟩ ⟨Nat.zero_le _, Nat.zero_le _⟩ (fun H locs hr33 hM3 => ?_)
          refine r_if_ne C 45 hr33 dX1_findUnseenNames_36 (by decide) (fun cq => ?_) (fun cq => ?_)
          · replace h := ifn cq h
            replace h := ck_some h
            obtain ⟨hc4, h⟩ := h
            refine r_iinc (j := 4) (x := x3) C [(3, .int (jI (x3 + 1))), (4, .int (jI (M 67 x3.toNat))), (0, .ref (z + 68)), (1, .ref (z + 56)), (2, .ref (z + 64))] dX1_findUnseenNames_45 hl rfl (by decide) rfl (fun ls hl => ?_)
            refine r_goto C 2 dX1_findUnseenNames_48 (by decide) ?_
            exact ih2 _ _ hc4 _ _ _ h hM3 (lv_sub hl [2, 3, 4, 0] rfl)
          · replace h := ifp cq h
            refine r_aload_n C dX1_findUnseenNames_39 rfl hl 1 rfl ?_
            refine r_iconst C dX1_findUnseenNames_40 ?_
            refine r_iload_n C dX1_findUnseenNames_41 rfl hl 4 rfl ?_
            replace h := bd_some h
            obtain ⟨M42, hf42, h⟩ := h
            refine r_callV (As := [.int (jI 2), .int (jI x3)]) (rest := []) C hM3 (c_X1_add l E z ⟨by decide, by decide⟩ hx3 hf42) jy_X1_add lk_X1_62 dX1_findUnseenNames_42 (recvW C hM3 jc1 lc_68.1 lc_68.2 rfl) rfl rfl hl.1 (Nat.le_of_ble_eq_true rfl) ⟨Nat.le_of_ble_eq_true rfl, Nat.le_of_ble_eq_true rfl⟩ ⟨rfl, rfl⟩ ⟨Nat.zero_le _, Nat.zero_le _⟩ (fun H locs hM5 => ?_)
            replace h := ck_some h
            obtain ⟨hc6, h⟩ := h
            refine r_iinc (j := 4) (x := x3) C [(3, .int (jI (x3 + 1))), (4, .int (jI (M 67 x3.toNat))), (0, .ref (z + 68)), (1, .ref (z + 56)), (2, .ref (z + 64))] dX1_findUnseenNames_45 hl rfl (by decide) rfl (fun ls hl => ?_)
            refine r_goto C 2 dX1_findUnseenNames_48 (by decide) ?_
            exact ih2 _ _ hc6 _ _ _ h hM5 (lv_sub hl [2, 3, 4, 0] rfl)
  exact hL2 jFuel _ _ ⟨by decide, by decide⟩ _ _ _ h hM0 (lv_sub hl [1, 2, 3, 0] rfl)
set_option maxRecDepth 100000 in
set_option maxHeartbeats 4000000 in
theorem c_X1_find (l : Launch) (E : jE) (z : Nat) {s1 : Nat} {M M' : Mem} (hs1 : isSt s1) (h : f_X1_find s1 M = some M') : CtV l yX1_find cX1_find 4 none { frames := 4, cells := 0, slots := 0, locals := 90 } E z LyC [.ref (z + 68), .ref (z + (s1 + 0)), .ref (z + 56), .ref (z + 64)] M M' := by
  refine jm (by decide +kernel) (Nat.le_of_ble_eq_true rfl) ?_
  intro p e sM m below meth c C hM0 hr hlk ls hl
  replace hl : lv_has ls 4 [(0, .ref (z + 68)), (1, .ref (z + (s1 + 0))), (2, .ref (z + 56)), (3, .ref (z + 64))] := hl
  unfold f_X1_find at h
  refine r_aload_n C dX1_find_0 rfl hl 0 rfl ?_
  refine r_iconst C dX1_find_1 ?_
  refine r_putI C hM0 jc1 0 ⟨by decide, by decide⟩ dX1_find_2 lk_X1_9 lc_68.1 lc_68.2 rfl rfl (by decide) rfl rfl rfl (Nat.le_of_ble_eq_true rfl) (by decide) (fun H locs hM1 => ?_)
  replace h := lt_some h
  obtain ⟨N2, eN2, h⟩ := h
  rw [← eN2] at hM1
  refine r_aload_n C dX1_find_5 rfl hl 0 rfl ?_
  refine r_aload_n C dX1_find_6 rfl hl 2 rfl ?_
  refine r_aload_n C dX1_find_7 rfl hl 1 rfl ?_
  refine r_getR C hM1 jc7 0 (s1 + 1) dX1_find_8 lk_X1_22 (ls_0 hs1).1 (ls_0 hs1).2 rfl rfl (by decide) rfl ?_
  replace h := bd_some h
  obtain ⟨M11, hf11, h⟩ := h
  refine r_callV (As := [.ref (z + 56), .ref (z + (s1 + 1))]) (rest := []) C hM1 (c_X1_findBanned l E z hs1 hf11) jy_X1_findBanned lk_X1_28 dX1_find_11 (recvW C hM1 jc1 lc_68.1 lc_68.2 rfl) rfl rfl hl.1 (Nat.le_of_ble_eq_true rfl) ⟨Nat.le_of_ble_eq_true rfl, Nat.le_of_ble_eq_true rfl⟩ ⟨rfl, rfl⟩ ⟨Nat.zero_le _, Nat.zero_le _⟩ (fun H locs hM3 => ?_)
  refine r_aload_n C dX1_find_14 rfl hl 0 rfl ?_
  refine r_aload_n C dX1_find_15 rfl hl 2 rfl ?_
  refine r_aload_n C dX1_find_16 rfl hl 3 rfl ?_
  replace h := bd_some h
  obtain ⟨M17, hf17, h⟩ := h
  refine r_callV (As := [.ref (z + 56), .ref (z + 64)]) (rest := []) C hM3 (c_X1_findUnseenNames l E z hf17) jy_X1_findUnseenNames lk_X1_32 dX1_find_17 (recvW C hM3 jc1 lc_68.1 lc_68.2 rfl) rfl rfl hl.1 (Nat.le_of_ble_eq_true rfl) ⟨Nat.le_of_ble_eq_true rfl, Nat.le_of_ble_eq_true rfl⟩ ⟨rfl, rfl⟩ ⟨Nat.zero_le _, Nat.zero_le _⟩ (fun H locs hM4 => ?_)
  refine r_aload_n C dX1_find_20 rfl hl 0 rfl ?_
  refine r_aload_n C dX1_find_21 rfl hl 2 rfl ?_
  refine r_aload_n C dX1_find_22 rfl hl 1 rfl ?_
  refine r_getR C hM4 jc7 0 (s1 + 1) dX1_find_23 lk_X1_22 (ls_0 hs1).1 (ls_0 hs1).2 rfl rfl (by decide) rfl ?_
  refine r_iconst C dX1_find_26 ?_
  replace h := bd_some h
  obtain ⟨r27, hf27, h⟩ := h
  refine r_callI (As := [.int (jI 3)]) (rest := [.ref (z + 56), .ref (z + 68)]) C hM4 (c_X3_setting l E z hs1 ⟨by decide, by decide⟩ hf27) jy_X3_setting lk_X1_36 dX1_find_27 (recvW C hM4 jc3 (ls_1 hs1).1 (ls_1 hs1).2 rfl) rfl rfl hl.1 (Nat.le_of_ble_eq_true rfl) ⟨Nat.le_of_ble_eq_true rfl, Nat.le_of_ble_eq_true rfl⟩ ⟨rfl, rfl⟩ ⟨Nat.zero_le _, Nat.zero_le _⟩ (fun H locs hr27 hM5 => ?_)
  replace h := bd_some h
  obtain ⟨M30, hf30, h⟩ := h
  refine r_callV (As := [.ref (z + 56), .int (jI r27)]) (rest := []) C hM5 (c_X1_findShort l E z hr27 hf30) jy_X1_findShort lk_X1_42 dX1_find_30 (recvW C hM5 jc1 lc_68.1 lc_68.2 rfl) rfl rfl hl.1 (Nat.le_of_ble_eq_true rfl) ⟨Nat.le_of_ble_eq_true rfl, Nat.le_of_ble_eq_true rfl⟩ ⟨rfl, rfl⟩ ⟨Nat.zero_le _, Nat.zero_le _⟩ (fun H locs hM6 => ?_)
  refine r_aload_n C dX1_find_33 rfl hl 0 rfl ?_
  refine r_aload_n C dX1_find_34 rfl hl 2 rfl ?_
  refine r_aload_n C dX1_find_35 rfl hl 1 rfl ?_
  refine r_getR C hM6 jc7 0 (s1 + 1) dX1_find_36 lk_X1_22 (ls_0 hs1).1 (ls_0 hs1).2 rfl rfl (by decide) rfl ?_
  replace h := bd_some h
  obtain ⟨M39, hf39, h⟩ := h
  refine r_callV (As := [.ref (z + 56), .ref (z + (s1 + 1))]) (rest := []) C hM6 (c_X1_findSameCamera l E z hs1 hf39) jy_X1_findSameCamera lk_X1_46 dX1_find_39 (recvW C hM6 jc1 lc_68.1 lc_68.2 rfl) rfl rfl hl.1 (Nat.le_of_ble_eq_true rfl) ⟨Nat.le_of_ble_eq_true rfl, Nat.le_of_ble_eq_true rfl⟩ ⟨rfl, rfl⟩ ⟨Nat.zero_le _, Nat.zero_le _⟩ (fun H locs hM7 => ?_)
  refine r_aload_n C dX1_find_42 rfl hl 2 rfl ?_
  refine r_getI C hM7 jc5 1 rfl dX1_find_43 lk_X1_49 lc_56.1 lc_56.2 rfl rfl (by decide) rfl ?_
  refine r_aload_n C dX1_find_46 rfl hl 3 rfl ?_
  refine r_getI C hM7 jc6 1 rfl dX1_find_47 lk_X1_54 lc_64.1 lc_64.2 rfl rfl (by decide) rfl ?_
  replace h := ck_some h
  obtain ⟨hc8, h⟩ := h
  refine r_isub C dX1_find_50 ?_
  replace h := ck_some h
  obtain ⟨hc9, h⟩ := h
  refine r_abs C hc8 lk_X1_57 dX1_find_51 hl.1 ⟨Nat.le_of_ble_eq_true rfl, Nat.le_of_ble_eq_true rfl⟩ ⟨Nat.zero_le _, Nat.zero_le _⟩ ?_
  refine r_aload_n C dX1_find_54 rfl hl 1 rfl ?_
  refine r_getR C hM7 jc7 0 (s1 + 1) dX1_find_55 lk_X1_22 (ls_0 hs1).1 (ls_0 hs1).2 rfl rfl (by decide) rfl ?_
  refine r_iconst C dX1_find_58 ?_
  replace h := bd_some h
  obtain ⟨r59, hf59, h⟩ := h
  refine r_callI (As := [.int (jI 4)]) (rest := [.int (jI (max ((M39 56 1) - (M39 64 1)) (-((M39 56 1) - (M39 64 1)))))]) C hM7 (c_X3_setting l E z hs1 ⟨by decide, by decide⟩ hf59) jy_X3_setting lk_X1_36 dX1_find_59 (recvW C hM7 jc3 (ls_1 hs1).1 (ls_1 hs1).2 rfl) rfl rfl hl.1 (Nat.le_of_ble_eq_true rfl) ⟨Nat.le_of_ble_eq_true rfl, Nat.le_of_ble_eq_true rfl⟩ ⟨rfl, rfl⟩ ⟨Nat.zero_le _, Nat.zero_le _⟩ (fun H locs hr59 hM10 => ?_)
  refine r_icmp_le C 71 (max_R hc8 hc9) hr59 dX1_find_62 (by decide) (fun cq => ?_) (fun cq => ?_)
  · replace h := ifp cq h
    exact r_return C hM10 hr hlk h dX1_find_71
  · replace h := ifn cq h
    refine r_aload_n C dX1_find_65 rfl hl 0 rfl ?_
    refine r_iconst C dX1_find_66 ?_
    refine r_iconst C dX1_find_67 ?_
    replace h := bd_some h
    obtain ⟨M68, hf68, h⟩ := h
    refine r_callV (As := [.int (jI 5), .int (jI (-1))]) (rest := []) C hM10 (c_X1_add l E z ⟨by decide, by decide⟩ ⟨by decide, by decide⟩ hf68) jy_X1_add lk_X1_62 dX1_find_68 (recvW C hM10 jc1 lc_68.1 lc_68.2 rfl) rfl rfl hl.1 (Nat.le_of_ble_eq_true rfl) ⟨Nat.le_of_ble_eq_true rfl, Nat.le_of_ble_eq_true rfl⟩ ⟨rfl, rfl⟩ ⟨Nat.zero_le _, Nat.zero_le _⟩ (fun H locs hM11 => ?_)
    exact r_return C hM11 hr hlk h dX1_find_71
set_option maxRecDepth 100000 in
set_option maxHeartbeats 4000000 in
theorem c_X1_countOf (l : Launch) (E : jE) (z : Nat) {x1 : Int} {M : Mem} {r : Int} (hx1 : inR x1) (h : f_X1_countOf x1 M = some r) : CtI l yX1_countOf cX1_countOf 4 (some .int) { frames := 0, cells := 0, slots := 0, locals := 0 } E z LyC [.ref (z + 68), .int (jI x1)] M r M := by
  refine jm (by decide +kernel) (Nat.le_of_ble_eq_true rfl) ?_
  intro p e sM m below meth c C hM0 hr hlk ls hl
  replace hl : lv_has ls 4 [(0, .ref (z + 68)), (1, .int (jI x1))] := hl
  unfold f_X1_countOf at h
  refine r_iconst C dX1_countOf_0 ?_
  refine r_istore_n C [(2, .int (jI 0)), (0, .ref (z + 68)), (1, .int (jI x1))] dX1_countOf_1 rfl hl (by decide) rfl (fun ls hl => ?_)
  refine r_iconst C dX1_countOf_2 ?_
  refine r_istore_n C [(3, .int (jI 0)), (2, .int (jI 0)), (0, .ref (z + 68)), (1, .int (jI x1))] dX1_countOf_3 rfl hl (by decide) rfl (fun ls hl => ?_)
  have hL4 : ∀ n4 : Nat, ∀ (x2 : Int) (x3 : Int), inR x2 → inR x3 → ∀ (H : Heap) (locs : List Loc) (ls : Array Slot), f_X1_countOf_L4 x1 M n4  x2 x3 = some r → HS E z LyC M sM H locs → lv_has ls 4 [(0, .ref (z + 68)), (1, .int (jI x1)), (2, .int (jI x2)), (3, .int (jI x3))] → W p l e ({ frames := 0, cells := 0, slots := 0, locals := 0 } : Room) sM m (([.ref (z + 68), .int (jI x1)] : List Value).toArray) below meth c H locs 0 0 (MQ below (va_Qi (fun (w : Int32) (_ : Unit) => w = jI r ∧ inR r ∧ Mok LyC M) (fun _ t => va_P (eD E) vwCl (Wd (eC E) z LyC M) t.heap) (eA E)) (([.ref (z + 68), .int (jI x1)] : List Value).toArray) sM 0 0 (eA E)) (F0 m 4 ls []) := by
    intro n4
    induction n4 with
    | zero =>
      intro x2 x3 hx2 hx3 H locs ls h hM hl
      exact absurd h (by simp [f_X1_countOf_L4])
    | succ n4 ih4 =>
      intro x2 x3 hx2 hx3 H locs ls h hM hl
      rw [f_X1_countOf_L4] at h
      refine r_iload_n C dX1_countOf_4 rfl hl 3 rfl ?_
      refine r_aload_n C dX1_countOf_5 rfl hl 0 rfl ?_
      refine r_getI C hM jc1 0 rfl dX1_countOf_6 lk_X1_9 lc_68.1 lc_68.2 rfl rfl (by decide) rfl ?_
      refine r_icmp_ge C 31 hx3 (hM.ok _ _) dX1_countOf_9 (by decide) (fun cq => ?_) (fun cq => ?_)
      · replace h := ifp cq h
        refine r_iload_n C dX1_countOf_31 rfl hl 2 rfl ?_
        exact r_ireturn C hM hr hlk hx2 h rfl dX1_countOf_32
      · replace h := ifn cq h
        refine r_aload_n C dX1_countOf_12 rfl hl 0 rfl ?_
        refine r_getR C hM jc1 1 69 dX1_countOf_13 lk_X1_15 lc_68.1 lc_68.2 rfl rfl (by decide) rfl ?_
        refine r_iload_n C dX1_countOf_16 rfl hl 3 rfl ?_
        replace h := ck_some h
        obtain ⟨hc1, h⟩ := h
        refine r_iald C hM rfl dX1_countOf_17 lc_69.1 lc_69.2 hc1 hx3 ?_
        refine r_iload_n C dX1_countOf_18 rfl hl 1 rfl ?_
        refine r_icmp_ne C 25 (hM.ok _ _) hx1 dX1_countOf_19 (by decide) (fun cq => ?_) (fun cq => ?_)
        · replace h := ifn cq h
          replace h := ck_some h
          obtain ⟨hc2, h⟩ := h
          refine r_iinc (j := 3) (x := x3) C [(3, .int (jI (x3 + 1))), (0, .ref (z + 68)), (1, .int (jI x1)), (2, .int (jI x2))] dX1_countOf_25 hl rfl (by decide) rfl (fun ls hl => ?_)
          refine r_goto C 4 dX1_countOf_28 (by decide) ?_
          exact ih4 _ _ hx2 hc2 _ _ _ h hM (lv_sub hl [1, 2, 3, 0] rfl)
        · replace h := ifp cq h
          replace h := ck_some h
          obtain ⟨hc3, h⟩ := h
          refine r_iinc (j := 2) (x := x2) C [(2, .int (jI (x2 + 1))), (0, .ref (z + 68)), (1, .int (jI x1)), (3, .int (jI x3))] dX1_countOf_22 hl rfl (by decide) rfl (fun ls hl => ?_)
          replace h := ck_some h
          obtain ⟨hc4, h⟩ := h
          refine r_iinc (j := 3) (x := x3) C [(3, .int (jI (x3 + 1))), (2, .int (jI (x2 + 1))), (0, .ref (z + 68)), (1, .int (jI x1))] dX1_countOf_25 hl rfl (by decide) rfl (fun ls hl => ?_)
          refine r_goto C 4 dX1_countOf_28 (by decide) ?_
          exact ih4 _ _ hc3 hc4 _ _ _ h hM (lv_sub hl [2, 3, 1, 0] rfl)
  exact hL4 jFuel _ _ ⟨by decide, by decide⟩ ⟨by decide, by decide⟩ _ _ _ h hM0 (lv_sub hl [2, 3, 1, 0] rfl)
set_option maxRecDepth 100000 in
set_option maxHeartbeats 4000000 in
theorem c_X4_byteAt (l : Launch) (E : jE) (z : Nat) {x1 : Int} {M : Mem} {r : Int} (hx1 : inR x1) (h : f_X4_byteAt x1 M = some r) : CtI l yX4_byteAt cX4_byteAt 2 (some .int) { frames := 0, cells := 0, slots := 0, locals := 0 } E z LyC [.ref (z + 3), .int (jI x1)] M r M := by
  refine jm (by decide +kernel) (Nat.le_of_ble_eq_true rfl) ?_
  intro p e sM m below meth c C hM0 hr hlk ls hl
  replace hl : lv_has ls 2 [(0, .ref (z + 3)), (1, .int (jI x1))] := hl
  unfold f_X4_byteAt at h
  refine r_iload_n C dX4_byteAt_0 rfl hl 1 rfl ?_
  refine r_if_lt C 21 hx1 dX4_byteAt_1 (by decide) (fun cq => ?_) (fun cq => ?_)
  · replace h := ifp cq h
    refine r_iconst C dX4_byteAt_21 ?_
    exact r_ireturn C hM0 hr hlk ⟨by decide, by decide⟩ h rfl dX4_byteAt_22
  · replace h := ifn cq h
    refine r_iload_n C dX4_byteAt_4 rfl hl 1 rfl ?_
    refine r_aload_n C dX4_byteAt_5 rfl hl 0 rfl ?_
    refine r_getI C hM0 jc4 1 rfl dX4_byteAt_6 lk_X4_15 lc_3.1 lc_3.2 rfl rfl (by decide) rfl ?_
    refine r_icmp_ge C 21 hx1 (hM0.ok _ _) dX4_byteAt_9 (by decide) (fun cq => ?_) (fun cq => ?_)
    · replace h := ifp cq h
      refine r_iconst C dX4_byteAt_21 ?_
      exact r_ireturn C hM0 hr hlk ⟨by decide, by decide⟩ h rfl dX4_byteAt_22
    · replace h := ifn cq h
      refine r_aload_n C dX4_byteAt_12 rfl hl 0 rfl ?_
      refine r_getR C hM0 jc4 0 4 dX4_byteAt_13 lk_X4_9 lc_3.1 lc_3.2 rfl rfl (by decide) rfl ?_
      refine r_iload_n C dX4_byteAt_16 rfl hl 1 rfl ?_
      replace h := ck_some h
      obtain ⟨hc1, h⟩ := h
      refine r_bald C hM0 rfl dX4_byteAt_17 lc_4.1 lc_4.2 hc1 hx1 ?_
      refine r_goto C 22 dX4_byteAt_18 (by decide) ?_
      exact r_ireturn C hM0 hr hlk (hM0.ok _ _) h rfl dX4_byteAt_22
set_option maxRecDepth 100000 in
set_option maxHeartbeats 4000000 in
theorem c_X4_put (l : Launch) (E : jE) (z : Nat) {x1 : Int} {M M' : Mem} (hx1 : inR x1) (h : f_X4_put x1 M = some M') : CtV l yX4_put cX4_put 2 none { frames := 0, cells := 0, slots := 0, locals := 0 } E z LyC [.ref (z + 3), .int (jI x1)] M M' := by
  refine jm (by decide +kernel) (Nat.le_of_ble_eq_true rfl) ?_
  intro p e sM m below meth c C hM0 hr hlk ls hl
  replace hl : lv_has ls 2 [(0, .ref (z + 3)), (1, .int (jI x1))] := hl
  unfold f_X4_put at h
  refine r_aload_n C dX4_put_0 rfl hl 0 rfl ?_
  refine r_getI C hM0 jc4 1 rfl dX4_put_1 lk_X4_15 lc_3.1 lc_3.2 rfl rfl (by decide) rfl ?_
  refine r_sipush C dX4_put_4 rfl ?_
  refine r_icmp_ge C 31 (hM0.ok _ _) ⟨by decide, by decide⟩ dX4_put_7 (by decide) (fun cq => ?_) (fun cq => ?_)
  · replace h := ifp cq h
    exact r_return C hM0 hr hlk h dX4_put_31
  · replace h := ifn cq h
    refine r_aload_n C dX4_put_10 rfl hl 0 rfl ?_
    refine r_getR C hM0 jc4 0 4 dX4_put_11 lk_X4_9 lc_3.1 lc_3.2 rfl rfl (by decide) rfl ?_
    refine r_aload_n C dX4_put_14 rfl hl 0 rfl ?_
    refine r_getI C hM0 jc4 1 rfl dX4_put_15 lk_X4_15 lc_3.1 lc_3.2 rfl rfl (by decide) rfl ?_
    refine r_iload_n C dX4_put_18 rfl hl 1 rfl ?_
    refine r_i2b C dX4_put_19 ?_
    replace h := ck_some h
    obtain ⟨hc1, h⟩ := h
    refine r_bast C hM0 dX4_put_20 lc_4.1 lc_4.2 hc1 (hM0.ok _ _) (fun H locs hM2 => ?_)
    replace h := lt_some h
    obtain ⟨N3, eN3, h⟩ := h
    rw [← eN3] at hM2
    refine r_aload_n C dX4_put_21 rfl hl 0 rfl ?_
    refine r_dup C dX4_put_22 rfl ?_
    refine r_getI C hM2 jc4 1 (rd_skip eN3 (by decide) rfl) dX4_put_23 lk_X4_15 lc_3.1 lc_3.2 rfl rfl (by decide) rfl ?_
    refine r_iconst C dX4_put_26 ?_
    replace h := ck_some h
    obtain ⟨hc4, h⟩ := h
    refine r_iadd C dX4_put_27 ?_
    refine r_putI C hM2 jc4 1 hc4 dX4_put_28 lk_X4_15 lc_3.1 lc_3.2 rfl rfl (by decide) rfl rfl rfl (Nat.le_of_ble_eq_true rfl) (by decide) (fun H locs hM5 => ?_)
    replace h := lt_some h
    obtain ⟨N6, eN6, h⟩ := h
    rw [← eN6] at hM5
    exact r_return C hM5 hr hlk h dX4_put_31
set_option maxRecDepth 100000 in
set_option maxHeartbeats 4000000 in
theorem c_X4_closeBlocks (l : Launch) (E : jE) (z : Nat) {x1 : Int} {M M' : Mem} (hx1 : inR x1) (h : f_X4_closeBlocks x1 M = some M') : CtV l yX4_closeBlocks cX4_closeBlocks 3 none { frames := 1, cells := 0, slots := 0, locals := 21 } E z LyC [.ref (z + 3), .int (jI x1)] M M' := by
  refine jm (by decide +kernel) (Nat.le_of_ble_eq_true rfl) ?_
  intro p e sM m below meth c C hM0 hr hlk ls hl
  replace hl : lv_has ls 3 [(0, .ref (z + 3)), (1, .int (jI x1))] := hl
  unfold f_X4_closeBlocks at h
  refine r_iconst C dX4_closeBlocks_0 ?_
  refine r_istore_n C [(2, .int (jI 0)), (0, .ref (z + 3)), (1, .int (jI x1))] dX4_closeBlocks_1 rfl hl (by decide) rfl (fun ls hl => ?_)
  have hL2 : ∀ n2 : Nat, ∀ (x2 : Int) (M : Mem), inR x2 → ∀ (H : Heap) (locs : List Loc) (ls : Array Slot), f_X4_closeBlocks_L2 x1 n2  x2 M = some M' → HS E z LyC M sM H locs → lv_has ls 3 [(0, .ref (z + 3)), (1, .int (jI x1)), (2, .int (jI x2))] → W p l e ({ frames := 1, cells := 0, slots := 0, locals := 21 } : Room) sM m (([.ref (z + 3), .int (jI x1)] : List Value).toArray) below meth c H locs 0 0 (MQ below (va_Qv (fun (_ : Unit) => Mok LyC M') (fun _ t => va_P (eD E) vwCl (Wd (eC E) z LyC M') t.heap) (eA E)) (([.ref (z + 3), .int (jI x1)] : List Value).toArray) sM 0 0 (eA E)) (F0 m 2 ls []) := by
    intro n2
    induction n2 with
    | zero =>
      intro x2 M hx2 H locs ls h hM hl
      exact absurd h (by simp [f_X4_closeBlocks_L2])
    | succ n2 ih2 =>
      intro x2 M hx2 H locs ls h hM hl
      rw [f_X4_closeBlocks_L2] at h
      refine r_iload_n C dX4_closeBlocks_2 rfl hl 2 rfl ?_
      refine r_iload_n C dX4_closeBlocks_3 rfl hl 1 rfl ?_
      refine r_icmp_ge C 25 hx2 hx1 dX4_closeBlocks_4 (by decide) (fun cq => ?_) (fun cq => ?_)
      · replace h := ifp cq h
        exact r_return C hM hr hlk h dX4_closeBlocks_25
      · replace h := ifn cq h
        refine r_aload_n C dX4_closeBlocks_7 rfl hl 0 rfl ?_
        refine r_bipush C dX4_closeBlocks_8 rfl ?_
        replace h := bd_some h
        obtain ⟨M10, hf10, h⟩ := h
        refine r_callV (As := [.int (jI 125)]) (rest := []) C hM (c_X4_put l E z ⟨by decide, by decide⟩ hf10) jy_X4_put lk_X4_40 dX4_closeBlocks_10 (recvW C hM jc4 lc_3.1 lc_3.2 rfl) rfl rfl hl.1 (Nat.le_of_ble_eq_true rfl) ⟨Nat.le_of_ble_eq_true rfl, Nat.le_of_ble_eq_true rfl⟩ ⟨rfl, rfl⟩ ⟨Nat.zero_le _, Nat.zero_le _⟩ (fun H locs hM1 => ?_)
        refine r_aload_n C dX4_closeBlocks_13 rfl hl 0 rfl ?_
        refine r_bipush C dX4_closeBlocks_14 rfl ?_
        replace h := bd_some h
        obtain ⟨M16, hf16, h⟩ := h
        refine r_callV (As := [.int (jI 59)]) (rest := []) C hM1 (c_X4_put l E z ⟨by decide, by decide⟩ hf16) jy_X4_put lk_X4_40 dX4_closeBlocks_16 (recvW C hM1 jc4 lc_3.1 lc_3.2 rfl) rfl rfl hl.1 (Nat.le_of_ble_eq_true rfl) ⟨Nat.le_of_ble_eq_true rfl, Nat.le_of_ble_eq_true rfl⟩ ⟨rfl, rfl⟩ ⟨Nat.zero_le _, Nat.zero_le _⟩ (fun H locs hM2 => ?_)
        replace h := ck_some h
        obtain ⟨hc3, h⟩ := h
        refine r_iinc (j := 2) (x := x2) C [(2, .int (jI (x2 + 1))), (0, .ref (z + 3)), (1, .int (jI x1))] dX4_closeBlocks_19 hl rfl (by decide) rfl (fun ls hl => ?_)
        refine r_goto C 2 dX4_closeBlocks_22 (by decide) ?_
        exact ih2 _ _ hc3 _ _ _ h hM2 (lv_sub hl [1, 2, 0] rfl)
  exact hL2 jFuel _ _ ⟨by decide, by decide⟩ _ _ _ h hM0 (lv_sub hl [1, 2, 0] rfl)
set_option maxRecDepth 100000 in
set_option maxHeartbeats 4000000 in
theorem c_X4_putNumber (l : Launch) (E : jE) (z : Nat) {x1 : Int} {M M' : Mem} (hx1 : inR x1) (h : f_X4_putNumber x1 M = some M') : CtV l yX4_putNumber cX4_putNumber 2 none { frames := 1, cells := 0, slots := 0, locals := 21 } E z LyC [.ref (z + 3), .int (jI x1)] M M' := by
  refine jm (by decide +kernel) (Nat.le_of_ble_eq_true rfl) ?_
  intro p e sM m below meth c C hM0 hr hlk ls hl
  replace hl : lv_has ls 2 [(0, .ref (z + 3)), (1, .int (jI x1))] := hl
  unfold f_X4_putNumber at h
  refine r_iload_n C dX4_putNumber_0 rfl hl 1 rfl ?_
  refine r_bipush C dX4_putNumber_1 rfl ?_
  replace h := jn_some h
  obtain ⟨k20, hk20, h⟩ := h
  have hJ20 : ∀ (M20 : Mem), ∀ (H : Heap) (locs : List Loc) (ls : Array Slot), k20 M20 = some M' → HS E z LyC M20 sM H locs → lv_has ls 2 [(0, .ref (z + 3)), (1, .int (jI x1))] → W p l e ({ frames := 1, cells := 0, slots := 0, locals := 21 } : Room) sM m (([.ref (z + 3), .int (jI x1)] : List Value).toArray) below meth c H locs 0 0 (MQ below (va_Qv (fun (_ : Unit) => Mok LyC M') (fun _ t => va_P (eD E) vwCl (Wd (eC E) z LyC M') t.heap) (eA E)) (([.ref (z + 3), .int (jI x1)] : List Value).toArray) sM 0 0 (eA E)) (F0 m 20 ls []) := by
    intro M20 H locs ls h hMj20 hl
    subst hk20
    try dsimp only at h
    refine r_iload_n C dX4_putNumber_20 rfl hl 1 rfl ?_
    refine r_bipush C dX4_putNumber_21 rfl ?_
    replace h := jn_some h
    obtain ⟨k40, hk40, h⟩ := h
    have hJ40 : ∀ (M40 : Mem), ∀ (H : Heap) (locs : List Loc) (ls : Array Slot), k40 M40 = some M' → HS E z LyC M40 sM H locs → lv_has ls 2 [(0, .ref (z + 3)), (1, .int (jI x1))] → W p l e ({ frames := 1, cells := 0, slots := 0, locals := 21 } : Room) sM m (([.ref (z + 3), .int (jI x1)] : List Value).toArray) below meth c H locs 0 0 (MQ below (va_Qv (fun (_ : Unit) => Mok LyC M') (fun _ t => va_P (eD E) vwCl (Wd (eC E) z LyC M') t.heap) (eA E)) (([.ref (z + 3), .int (jI x1)] : List Value).toArray) sM 0 0 (eA E)) (F0 m 40 ls []) := by
      intro M40 H locs ls h hMj40 hl
      subst hk40
      try dsimp only at h
      refine r_aload_n C dX4_putNumber_40 rfl hl 0 rfl ?_
      refine r_bipush C dX4_putNumber_41 rfl ?_
      refine r_iload_n C dX4_putNumber_43 rfl hl 1 rfl ?_
      refine r_bipush C dX4_putNumber_44 rfl ?_
      refine r_irem C ⟨by decide, by decide⟩ (by decide) dX4_putNumber_46 ?_
      replace h := ck_some h
      obtain ⟨hc1, h⟩ := h
      refine r_iadd C dX4_putNumber_47 ?_
      replace h := bd_some h
      obtain ⟨M48, hf48, h⟩ := h
      refine r_callV (As := [.int (jI (48 + (irem x1 10)))]) (rest := []) C hMj40 (c_X4_put l E z hc1 hf48) jy_X4_put lk_X4_40 dX4_putNumber_48 (recvW C hMj40 jc4 lc_3.1 lc_3.2 rfl) rfl rfl hl.1 (Nat.le_of_ble_eq_true rfl) ⟨Nat.le_of_ble_eq_true rfl, Nat.le_of_ble_eq_true rfl⟩ ⟨rfl, rfl⟩ ⟨Nat.zero_le _, Nat.zero_le _⟩ (fun H locs hM2 => ?_)
      exact r_return C hM2 hr hlk h dX4_putNumber_51
    refine r_icmp_lt C 40 hx1 ⟨by decide, by decide⟩ dX4_putNumber_23 (by decide) (fun cq => ?_) (fun cq => ?_)
    · replace h := ifp cq h
      exact hJ40 _ _ _ _ h hMj20 (lv_sub hl [0, 1] rfl)
    · replace h := ifn cq h
      refine r_aload_n C dX4_putNumber_26 rfl hl 0 rfl ?_
      refine r_bipush C dX4_putNumber_27 rfl ?_
      refine r_iload_n C dX4_putNumber_29 rfl hl 1 rfl ?_
      refine r_bipush C dX4_putNumber_30 rfl ?_
      refine r_idiv C ⟨by decide, by decide⟩ (by decide) dX4_putNumber_32 ?_
      refine r_bipush C dX4_putNumber_33 rfl ?_
      refine r_irem C ⟨by decide, by decide⟩ (by decide) dX4_putNumber_35 ?_
      replace h := ck_some h
      obtain ⟨hc3, h⟩ := h
      refine r_iadd C dX4_putNumber_36 ?_
      replace h := bd_some h
      obtain ⟨M37, hf37, h⟩ := h
      refine r_callV (As := [.int (jI (48 + (irem (idiv x1 10) 10)))]) (rest := []) C hMj20 (c_X4_put l E z hc3 hf37) jy_X4_put lk_X4_40 dX4_putNumber_37 (recvW C hMj20 jc4 lc_3.1 lc_3.2 rfl) rfl rfl hl.1 (Nat.le_of_ble_eq_true rfl) ⟨Nat.le_of_ble_eq_true rfl, Nat.le_of_ble_eq_true rfl⟩ ⟨rfl, rfl⟩ ⟨Nat.zero_le _, Nat.zero_le _⟩ (fun H locs hM4 => ?_)
      exact hJ40 _ _ _ _ h hM4 (lv_sub hl [0, 1] rfl)
  refine r_icmp_lt C 20 hx1 ⟨by decide, by decide⟩ dX4_putNumber_3 (by decide) (fun cq => ?_) (fun cq => ?_)
  · replace h := ifp cq h
    exact hJ20 _ _ _ _ h hM0 (lv_sub hl [0, 1] rfl)
  · replace h := ifn cq h
    refine r_aload_n C dX4_putNumber_6 rfl hl 0 rfl ?_
    refine r_bipush C dX4_putNumber_7 rfl ?_
    refine r_iload_n C dX4_putNumber_9 rfl hl 1 rfl ?_
    refine r_bipush C dX4_putNumber_10 rfl ?_
    refine r_idiv C ⟨by decide, by decide⟩ (by decide) dX4_putNumber_12 ?_
    refine r_bipush C dX4_putNumber_13 rfl ?_
    refine r_irem C ⟨by decide, by decide⟩ (by decide) dX4_putNumber_15 ?_
    replace h := ck_some h
    obtain ⟨hc5, h⟩ := h
    refine r_iadd C dX4_putNumber_16 ?_
    replace h := bd_some h
    obtain ⟨M17, hf17, h⟩ := h
    refine r_callV (As := [.int (jI (48 + (irem (idiv x1 100) 10)))]) (rest := []) C hM0 (c_X4_put l E z hc5 hf17) jy_X4_put lk_X4_40 dX4_putNumber_17 (recvW C hM0 jc4 lc_3.1 lc_3.2 rfl) rfl rfl hl.1 (Nat.le_of_ble_eq_true rfl) ⟨Nat.le_of_ble_eq_true rfl, Nat.le_of_ble_eq_true rfl⟩ ⟨rfl, rfl⟩ ⟨Nat.zero_le _, Nat.zero_le _⟩ (fun H locs hM6 => ?_)
    exact hJ20 _ _ _ _ h hM6 (lv_sub hl [0, 1] rfl)
set_option maxRecDepth 100000 in
set_option maxHeartbeats 4000000 in
theorem c_X4_putText (l : Launch) (E : jE) (z : Nat) {w1 : Nat} {M M' : Mem} (hw1 : w1 < nST) (h : f_X4_putText w1 M = some M') : CtV l yX4_putText cX4_putText 3 none { frames := 6, cells := 0, slots := 0, locals := 300 } E z LyC [.ref (z + 3), .ref (eK E w1)] M M' := by
  refine jm (by decide +kernel) (Nat.le_of_ble_eq_true rfl) ?_
  intro p e sM m below meth c C hM0 hr hlk ls hl
  replace hl : lv_has ls 3 [(0, .ref (z + 3)), (1, .ref (eK E w1))] := hl
  unfold f_X4_putText at h
  refine r_iconst C dX4_putText_0 ?_
  refine r_istore_n C [(2, .int (jI 0)), (0, .ref (z + 3)), (1, .ref (eK E w1))] dX4_putText_1 rfl hl (by decide) rfl (fun ls hl => ?_)
  have hL2 : ∀ n2 : Nat, ∀ (x2 : Int) (M : Mem), inR x2 → ∀ (H : Heap) (locs : List Loc) (ls : Array Slot), f_X4_putText_L2 w1 n2  x2 M = some M' → HS E z LyC M sM H locs → lv_has ls 3 [(0, .ref (z + 3)), (1, .ref (eK E w1)), (2, .int (jI x2))] → W p l e ({ frames := 6, cells := 0, slots := 0, locals := 300 } : Room) sM m (([.ref (z + 3), .ref (eK E w1)] : List Value).toArray) below meth c H locs 0 0 (MQ below (va_Qv (fun (_ : Unit) => Mok LyC M') (fun _ t => va_P (eD E) vwCl (Wd (eC E) z LyC M') t.heap) (eA E)) (([.ref (z + 3), .ref (eK E w1)] : List Value).toArray) sM 0 0 (eA E)) (F0 m 2 ls []) := by
    intro n2
    induction n2 with
    | zero =>
      intro x2 M hx2 H locs ls h hM hl
      exact absurd h (by simp [f_X4_putText_L2])
    | succ n2 ih2 =>
      intro x2 M hx2 H locs ls h hM hl
      rw [f_X4_putText_L2] at h
      refine r_iload_n C dX4_putText_2 rfl hl 2 rfl ?_
      refine r_aload_n C dX4_putText_3 rfl hl 1 rfl ?_
      refine r_callI (As := []) (rest := [.int (jI x2)]) C hM (c_len l E z hw1) jy_J0_length_8abf5 lk_X4_105 dX4_putText_4 (recvK C hM hw1) rfl rfl hl.1 (Nat.le_of_ble_eq_true rfl) ⟨Nat.le_of_ble_eq_true rfl, Nat.le_of_ble_eq_true rfl⟩ ⟨rfl, rfl⟩ ⟨Nat.zero_le _, Nat.zero_le _⟩ (fun H locs hr4 hM1 => ?_)
      refine r_icmp_ge C 25 hx2 (lenST_R _) dX4_putText_7 (by decide) (fun cq => ?_) (fun cq => ?_)
      · replace h := ifp cq h
        exact r_return C hM1 hr hlk h dX4_putText_25
      · replace h := ifn cq h
        refine r_aload_n C dX4_putText_10 rfl hl 0 rfl ?_
        refine r_aload_n C dX4_putText_11 rfl hl 1 rfl ?_
        refine r_iload_n C dX4_putText_12 rfl hl 2 rfl ?_
        replace h := ck_some h
        obtain ⟨hc2, h⟩ := h
        refine r_callI (As := [.int (jI x2)]) (rest := [.ref (z + 3)]) C hM1 (c_char l E z hw1 hx2 hc2) jy_J0_charAt_5068e lk_X4_110 dX4_putText_13 (recvK C hM1 hw1) rfl rfl hl.1 (Nat.le_of_ble_eq_true rfl) ⟨Nat.le_of_ble_eq_true rfl, Nat.le_of_ble_eq_true rfl⟩ ⟨rfl, rfl⟩ ⟨Nat.zero_le _, Nat.zero_le _⟩ (fun H locs hr13 hM3 => ?_)
        replace h := bd_some h
        obtain ⟨M16, hf16, h⟩ := h
        refine r_callV (As := [.int (jI (chST w1 x2.toNat))]) (rest := []) C hM3 (c_X4_put l E z (chST_R _ _) hf16) jy_X4_put lk_X4_40 dX4_putText_16 (recvW C hM3 jc4 lc_3.1 lc_3.2 rfl) rfl rfl hl.1 (Nat.le_of_ble_eq_true rfl) ⟨Nat.le_of_ble_eq_true rfl, Nat.le_of_ble_eq_true rfl⟩ ⟨rfl, rfl⟩ ⟨Nat.zero_le _, Nat.zero_le _⟩ (fun H locs hM4 => ?_)
        replace h := ck_some h
        obtain ⟨hc5, h⟩ := h
        refine r_iinc (j := 2) (x := x2) C [(2, .int (jI (x2 + 1))), (0, .ref (z + 3)), (1, .ref (eK E w1))] dX4_putText_19 hl rfl (by decide) rfl (fun ls hl => ?_)
        refine r_goto C 2 dX4_putText_22 (by decide) ?_
        exact ih2 _ _ hc5 _ _ _ h hM4 (lv_sub hl [1, 2, 0] rfl)
  exact hL2 jFuel _ _ ⟨by decide, by decide⟩ _ _ _ h hM0 (lv_sub hl [1, 2, 0] rfl)
set_option maxRecDepth 100000 in
set_option maxHeartbeats 4000000 in
theorem c_X4_writeFrames (l : Launch) (E : jE) (z : Nat) {s1 : Nat} {x2 : Int} {s3 : Nat} {M M' : Mem} (hs1 : isSt s1) (hx2 : inR x2) (hs3 : isSt s3) (h : f_X4_writeFrames s1 x2 s3 M = some M') : CtV l yX4_writeFrames cX4_writeFrames 4 none { frames := 7, cells := 0, slots := 0, locals := 322 } E z LyC [.ref (z + 3), .ref (z + (s1 + 17)), .int (jI x2), .ref (z + (s3 + 1))] M M' := by
  refine jm (by decide +kernel) (Nat.le_of_ble_eq_true rfl) ?_
  intro p e sM m below meth c C hM0 hr hlk ls hl
  replace hl : lv_has ls 4 [(0, .ref (z + 3)), (1, .ref (z + (s1 + 17))), (2, .int (jI x2)), (3, .ref (z + (s3 + 1)))] := hl
  unfold f_X4_writeFrames at h
  refine r_aload_n C dX4_writeFrames_0 rfl hl 1 rfl ?_
  refine r_getR C hM0 jc2 1 (s1 + 18) dX4_writeFrames_1 lk_X4_47 (ls_17 hs1).1 (ls_17 hs1).2 rfl rfl (by decide) rfl ?_
  refine r_iload_n C dX4_writeFrames_4 rfl hl 2 rfl ?_
  replace h := ck_some h
  obtain ⟨hc1, h⟩ := h
  refine r_iald C hM0 rfl dX4_writeFrames_5 (ls_18 hs1).1 (ls_18 hs1).2 hc1 hx2 ?_
  refine r_iconst C dX4_writeFrames_6 ?_
  refine r_icmp_ne C 28 (hM0.ok _ _) ⟨by decide, by decide⟩ dX4_writeFrames_7 (by decide) (fun cq => ?_) (fun cq => ?_)
  · replace h := ifn cq h
    refine r_aload_n C dX4_writeFrames_28 rfl hl 1 rfl ?_
    refine r_iload_n C dX4_writeFrames_29 rfl hl 2 rfl ?_
    replace h := bd_some h
    obtain ⟨r30, hf30, h⟩ := h
    refine r_callI (As := [.int (jI x2)]) (rest := []) C hM0 (c_X2_framesOf l E z hs1 hx2 hf30) jy_X2_framesOf lk_X4_68 dX4_writeFrames_30 (recvW C hM0 jc2 (ls_17 hs1).1 (ls_17 hs1).2 rfl) rfl rfl hl.1 (Nat.le_of_ble_eq_true rfl) ⟨Nat.le_of_ble_eq_true rfl, Nat.le_of_ble_eq_true rfl⟩ ⟨rfl, rfl⟩ ⟨Nat.zero_le _, Nat.zero_le _⟩ (fun H locs hr30 hM2 => ?_)
    refine r_aload_n C dX4_writeFrames_33 rfl hl 3 rfl ?_
    refine r_aload_n C dX4_writeFrames_34 rfl hl 1 rfl ?_
    refine r_getR C hM2 jc2 2 (s1 + 19) dX4_writeFrames_35 lk_X4_62 (ls_17 hs1).1 (ls_17 hs1).2 rfl rfl (by decide) rfl ?_
    refine r_iload_n C dX4_writeFrames_38 rfl hl 2 rfl ?_
    refine r_iald C hM2 rfl dX4_writeFrames_39 (ls_19 hs1).1 (ls_19 hs1).2 hc1 hx2 ?_
    replace h := bd_some h
    obtain ⟨r40, hf40, h⟩ := h
    refine r_callI (As := [.int (jI (M (s1 + 19) x2.toNat))]) (rest := [.int (jI r30)]) C hM2 (c_X3_lengthOf l E z hs3 (hM0.ok _ _) hf40) jy_X3_lengthOf lk_X4_72 dX4_writeFrames_40 (recvW C hM2 jc3 (ls_1 hs3).1 (ls_1 hs3).2 rfl) rfl rfl hl.1 (Nat.le_of_ble_eq_true rfl) ⟨Nat.le_of_ble_eq_true rfl, Nat.le_of_ble_eq_true rfl⟩ ⟨rfl, rfl⟩ ⟨Nat.zero_le _, Nat.zero_le _⟩ (fun H locs hr40 hM3 => ?_)
    refine r_icmp_eq C 78 hr30 hr40 dX4_writeFrames_43 (by decide) (fun cq => ?_) (fun cq => ?_)
    · replace h := ifp cq h
      exact r_return C hM3 hr hlk h dX4_writeFrames_78
    · replace h := ifn cq h
      refine r_aload_n C dX4_writeFrames_46 rfl hl 0 rfl ?_
      refine r_ldcS (i := 16) C (List.mem_of_getElem? (i := 18) rfl) dX4_writeFrames_47 ?_
      replace h := bd_some h
      obtain ⟨M49, hf49, h⟩ := h
      refine r_callV (As := [.ref (eK E 16)]) (rest := []) C hM3 (c_X4_putText l E z (show 16 < nST by decide) hf49) jy_X4_putText lk_X4_52 dX4_writeFrames_49 (recvW C hM3 jc4 lc_3.1 lc_3.2 rfl) rfl rfl hl.1 (Nat.le_of_ble_eq_true rfl) ⟨Nat.le_of_ble_eq_true rfl, Nat.le_of_ble_eq_true rfl⟩ ⟨rfl, rfl⟩ ⟨Nat.zero_le _, Nat.zero_le _⟩ (fun H locs hM4 => ?_)
      refine r_aload_n C dX4_writeFrames_52 rfl hl 0 rfl ?_
      refine r_aload_n C dX4_writeFrames_53 rfl hl 1 rfl ?_
      refine r_getR C hM4 jc2 3 (s1 + 20) dX4_writeFrames_54 lk_X4_79 (ls_17 hs1).1 (ls_17 hs1).2 rfl rfl (by decide) rfl ?_
      refine r_iload_n C dX4_writeFrames_57 rfl hl 2 rfl ?_
      refine r_iald C hM4 rfl dX4_writeFrames_58 (ls_20 hs1).1 (ls_20 hs1).2 hc1 hx2 ?_
      replace h := bd_some h
      obtain ⟨M59, hf59, h⟩ := h
      refine r_callV (As := [.int (jI (M49 (s1 + 20) x2.toNat))]) (rest := []) C hM4 (c_X4_putNumber l E z (hM4.ok _ _) hf59) jy_X4_putNumber lk_X4_65 dX4_writeFrames_59 (recvW C hM4 jc4 lc_3.1 lc_3.2 rfl) rfl rfl hl.1 (Nat.le_of_ble_eq_true rfl) ⟨Nat.le_of_ble_eq_true rfl, Nat.le_of_ble_eq_true rfl⟩ ⟨rfl, rfl⟩ ⟨Nat.zero_le _, Nat.zero_le _⟩ (fun H locs hM5 => ?_)
      refine r_aload_n C dX4_writeFrames_62 rfl hl 0 rfl ?_
      refine r_ldcS (i := 17) C (List.mem_of_getElem? (i := 19) rfl) dX4_writeFrames_63 ?_
      replace h := bd_some h
      obtain ⟨M65, hf65, h⟩ := h
      refine r_callV (As := [.ref (eK E 17)]) (rest := []) C hM5 (c_X4_putText l E z (show 17 < nST by decide) hf65) jy_X4_putText lk_X4_52 dX4_writeFrames_65 (recvW C hM5 jc4 lc_3.1 lc_3.2 rfl) rfl rfl hl.1 (Nat.le_of_ble_eq_true rfl) ⟨Nat.le_of_ble_eq_true rfl, Nat.le_of_ble_eq_true rfl⟩ ⟨rfl, rfl⟩ ⟨Nat.zero_le _, Nat.zero_le _⟩ (fun H locs hM6 => ?_)
      refine r_aload_n C dX4_writeFrames_68 rfl hl 0 rfl ?_
      refine r_aload_n C dX4_writeFrames_69 rfl hl 1 rfl ?_
      refine r_getR C hM6 jc2 4 (s1 + 21) dX4_writeFrames_70 lk_X4_84 (ls_17 hs1).1 (ls_17 hs1).2 rfl rfl (by decide) rfl ?_
      refine r_iload_n C dX4_writeFrames_73 rfl hl 2 rfl ?_
      refine r_iald C hM6 rfl dX4_writeFrames_74 (ls_21 hs1).1 (ls_21 hs1).2 hc1 hx2 ?_
      replace h := bd_some h
      obtain ⟨M75, hf75, h⟩ := h
      refine r_callV (As := [.int (jI (M65 (s1 + 21) x2.toNat))]) (rest := []) C hM6 (c_X4_putNumber l E z (hM6.ok _ _) hf75) jy_X4_putNumber lk_X4_65 dX4_writeFrames_75 (recvW C hM6 jc4 lc_3.1 lc_3.2 rfl) rfl rfl hl.1 (Nat.le_of_ble_eq_true rfl) ⟨Nat.le_of_ble_eq_true rfl, Nat.le_of_ble_eq_true rfl⟩ ⟨rfl, rfl⟩ ⟨Nat.zero_le _, Nat.zero_le _⟩ (fun H locs hM7 => ?_)
      exact r_return C hM7 hr hlk h dX4_writeFrames_78
  · replace h := ifp cq h
    refine r_aload_n C dX4_writeFrames_10 rfl hl 0 rfl ?_
    refine r_bipush C dX4_writeFrames_11 rfl ?_
    replace h := bd_some h
    obtain ⟨M13, hf13, h⟩ := h
    refine r_callV (As := [.int (jI 32)]) (rest := []) C hM0 (c_X4_put l E z ⟨by decide, by decide⟩ hf13) jy_X4_put lk_X4_40 dX4_writeFrames_13 (recvW C hM0 jc4 lc_3.1 lc_3.2 rfl) rfl rfl hl.1 (Nat.le_of_ble_eq_true rfl) ⟨Nat.le_of_ble_eq_true rfl, Nat.le_of_ble_eq_true rfl⟩ ⟨rfl, rfl⟩ ⟨Nat.zero_le _, Nat.zero_le _⟩ (fun H locs hM8 => ?_)
    refine r_aload_n C dX4_writeFrames_16 rfl hl 0 rfl ?_
    refine r_aload_n C dX4_writeFrames_17 rfl hl 1 rfl ?_
    refine r_iload_n C dX4_writeFrames_18 rfl hl 2 rfl ?_
    replace h := bd_some h
    obtain ⟨r19, hf19, h⟩ := h
    refine r_callI (As := [.int (jI x2)]) (rest := [.ref (z + 3)]) C hM8 (c_X2_framesOf l E z hs1 hx2 hf19) jy_X2_framesOf lk_X4_68 dX4_writeFrames_19 (recvW C hM8 jc2 (ls_17 hs1).1 (ls_17 hs1).2 rfl) rfl rfl hl.1 (Nat.le_of_ble_eq_true rfl) ⟨Nat.le_of_ble_eq_true rfl, Nat.le_of_ble_eq_true rfl⟩ ⟨rfl, rfl⟩ ⟨Nat.zero_le _, Nat.zero_le _⟩ (fun H locs hr19 hM9 => ?_)
    replace h := bd_some h
    obtain ⟨M22, hf22, h⟩ := h
    refine r_callV (As := [.int (jI r19)]) (rest := []) C hM9 (c_X4_putNumber l E z hr19 hf22) jy_X4_putNumber lk_X4_65 dX4_writeFrames_22 (recvW C hM9 jc4 lc_3.1 lc_3.2 rfl) rfl rfl hl.1 (Nat.le_of_ble_eq_true rfl) ⟨Nat.le_of_ble_eq_true rfl, Nat.le_of_ble_eq_true rfl⟩ ⟨rfl, rfl⟩ ⟨Nat.zero_le _, Nat.zero_le _⟩ (fun H locs hM10 => ?_)
    refine r_goto C 78 dX4_writeFrames_25 (by decide) ?_
    exact r_return C hM10 hr hlk h dX4_writeFrames_78
set_option maxRecDepth 100000 in
set_option maxHeartbeats 4000000 in
theorem c_X4_writeHead (l : Launch) (E : jE) (z : Nat) {s1 : Nat} {x2 : Int} {M M' : Mem} (hs1 : isSt s1) (hx2 : inR x2) (h : f_X4_writeHead s1 x2 M = some M') : CtV l yX4_writeHead cX4_writeHead 3 none { frames := 7, cells := 0, slots := 0, locals := 322 } E z LyC [.ref (z + 3), .ref (z + (s1 + 17)), .int (jI x2)] M M' := by
  refine jm (by decide +kernel) (Nat.le_of_ble_eq_true rfl) ?_
  intro p e sM m below meth c C hM0 hr hlk ls hl
  replace hl : lv_has ls 3 [(0, .ref (z + 3)), (1, .ref (z + (s1 + 17))), (2, .int (jI x2))] := hl
  unfold f_X4_writeHead at h
  refine r_aload_n C dX4_writeHead_0 rfl hl 1 rfl ?_
  refine r_getR C hM0 jc2 1 (s1 + 18) dX4_writeHead_1 lk_X4_47 (ls_17 hs1).1 (ls_17 hs1).2 rfl rfl (by decide) rfl ?_
  refine r_iload_n C dX4_writeHead_4 rfl hl 2 rfl ?_
  replace h := ck_some h
  obtain ⟨hc1, h⟩ := h
  refine r_iald C hM0 rfl dX4_writeHead_5 (ls_18 hs1).1 (ls_18 hs1).2 hc1 hx2 ?_
  replace h := jn_some h
  obtain ⟨k65, hk65, h⟩ := h
  have hJ65 : ∀ (M65 : Mem), ∀ (H : Heap) (locs : List Loc) (ls : Array Slot), k65 M65 = some M' → HS E z LyC M65 sM H locs → lv_has ls 3 [(0, .ref (z + 3)), (1, .ref (z + (s1 + 17))), (2, .int (jI x2))] → W p l e ({ frames := 7, cells := 0, slots := 0, locals := 322 } : Room) sM m (([.ref (z + 3), .ref (z + (s1 + 17)), .int (jI x2)] : List Value).toArray) below meth c H locs 0 0 (MQ below (va_Qv (fun (_ : Unit) => Mok LyC M') (fun _ t => va_P (eD E) vwCl (Wd (eC E) z LyC M') t.heap) (eA E)) (([.ref (z + 3), .ref (z + (s1 + 17)), .int (jI x2)] : List Value).toArray) sM 0 0 (eA E)) (F0 m 65 ls []) := by
    intro M65 H locs ls h hMj65 hl
    subst hk65
    try dsimp only at h
    refine r_aload_n C dX4_writeHead_65 rfl hl 0 rfl ?_
    refine r_aload_n C dX4_writeHead_66 rfl hl 1 rfl ?_
    refine r_getR C hMj65 jc2 2 (s1 + 19) dX4_writeHead_67 lk_X4_62 (ls_17 hs1).1 (ls_17 hs1).2 rfl rfl (by decide) rfl ?_
    refine r_iload_n C dX4_writeHead_70 rfl hl 2 rfl ?_
    refine r_iald C hMj65 rfl dX4_writeHead_71 (ls_19 hs1).1 (ls_19 hs1).2 hc1 hx2 ?_
    replace h := bd_some h
    obtain ⟨M72, hf72, h⟩ := h
    refine r_callV (As := [.int (jI (M65 (s1 + 19) x2.toNat))]) (rest := []) C hMj65 (c_X4_putNumber l E z (hMj65.ok _ _) hf72) jy_X4_putNumber lk_X4_65 dX4_writeHead_72 (recvW C hMj65 jc4 lc_3.1 lc_3.2 rfl) rfl rfl hl.1 (Nat.le_of_ble_eq_true rfl) ⟨Nat.le_of_ble_eq_true rfl, Nat.le_of_ble_eq_true rfl⟩ ⟨rfl, rfl⟩ ⟨Nat.zero_le _, Nat.zero_le _⟩ (fun H locs hM2 => ?_)
    exact r_return C hM2 hr hlk h dX4_writeHead_75
  by_cases cq : (M (s1 + 18) x2.toNat) = 0
  · replace h := ifp cq h
    refine r_table C 32 (hM0.ok _ _) dX4_writeHead_6 (by decide) (by rw [cq]; rfl) ?_
    refine r_aload_n C dX4_writeHead_32 rfl hl 0 rfl ?_
    refine r_ldcS (i := 12) C (List.mem_of_getElem? (i := 14) rfl) dX4_writeHead_33 ?_
    replace h := bd_some h
    obtain ⟨M35, hf35, h⟩ := h
    refine r_callV (As := [.ref (eK E 12)]) (rest := []) C hM0 (c_X4_putText l E z (show 12 < nST by decide) hf35) jy_X4_putText lk_X4_52 dX4_writeHead_35 (recvW C hM0 jc4 lc_3.1 lc_3.2 rfl) rfl rfl hl.1 (Nat.le_of_ble_eq_true rfl) ⟨Nat.le_of_ble_eq_true rfl, Nat.le_of_ble_eq_true rfl⟩ ⟨rfl, rfl⟩ ⟨Nat.zero_le _, Nat.zero_le _⟩ (fun H locs hM3 => ?_)
    refine r_goto C 65 dX4_writeHead_38 (by decide) ?_
    exact hJ65 _ _ _ _ h hM3 (lv_sub hl [0, 1, 2] rfl)
  · replace h := ifn cq h
    have c6_0 := cq
    by_cases cq : (M (s1 + 18) x2.toNat) = 1
    · replace h := ifp cq h
      refine r_table C 41 (hM0.ok _ _) dX4_writeHead_6 (by decide) (by rw [cq]; rfl) ?_
      refine r_aload_n C dX4_writeHead_41 rfl hl 0 rfl ?_
      refine r_ldcS (i := 13) C (List.mem_of_getElem? (i := 15) rfl) dX4_writeHead_42 ?_
      replace h := bd_some h
      obtain ⟨M44, hf44, h⟩ := h
      refine r_callV (As := [.ref (eK E 13)]) (rest := []) C hM0 (c_X4_putText l E z (show 13 < nST by decide) hf44) jy_X4_putText lk_X4_52 dX4_writeHead_44 (recvW C hM0 jc4 lc_3.1 lc_3.2 rfl) rfl rfl hl.1 (Nat.le_of_ble_eq_true rfl) ⟨Nat.le_of_ble_eq_true rfl, Nat.le_of_ble_eq_true rfl⟩ ⟨rfl, rfl⟩ ⟨Nat.zero_le _, Nat.zero_le _⟩ (fun H locs hM4 => ?_)
      refine r_goto C 65 dX4_writeHead_47 (by decide) ?_
      exact hJ65 _ _ _ _ h hM4 (lv_sub hl [0, 1, 2] rfl)
    · replace h := ifn cq h
      have c6_1 := cq
      by_cases cq : (M (s1 + 18) x2.toNat) = 2
      · replace h := ifp cq h
        refine r_table C 50 (hM0.ok _ _) dX4_writeHead_6 (by decide) (by rw [cq]; rfl) ?_
        refine r_aload_n C dX4_writeHead_50 rfl hl 0 rfl ?_
        refine r_ldcS (i := 14) C (List.mem_of_getElem? (i := 16) rfl) dX4_writeHead_51 ?_
        replace h := bd_some h
        obtain ⟨M53, hf53, h⟩ := h
        refine r_callV (As := [.ref (eK E 14)]) (rest := []) C hM0 (c_X4_putText l E z (show 14 < nST by decide) hf53) jy_X4_putText lk_X4_52 dX4_writeHead_53 (recvW C hM0 jc4 lc_3.1 lc_3.2 rfl) rfl rfl hl.1 (Nat.le_of_ble_eq_true rfl) ⟨Nat.le_of_ble_eq_true rfl, Nat.le_of_ble_eq_true rfl⟩ ⟨rfl, rfl⟩ ⟨Nat.zero_le _, Nat.zero_le _⟩ (fun H locs hM5 => ?_)
        refine r_goto C 65 dX4_writeHead_56 (by decide) ?_
        exact hJ65 _ _ _ _ h hM5 (lv_sub hl [0, 1, 2] rfl)
      · replace h := ifn cq h
        have c6_2 := cq
        have cd : jsw 6 0 2 (53) #[(26), (35), (44)] (M (s1 + 18) x2.toNat) = (59 : Int) := by
          have cz : ((M (s1 + 18) x2.toNat) < 0 ∨ 2 < (M (s1 + 18) x2.toNat)) := by omega
          · unfold jsw; rw [if_pos cz]; rfl
        refine r_table C 59 (hM0.ok _ _) dX4_writeHead_6 (by decide) cd ?_
        refine r_aload_n C dX4_writeHead_59 rfl hl 0 rfl ?_
        refine r_ldcS (i := 15) C (List.mem_of_getElem? (i := 17) rfl) dX4_writeHead_60 ?_
        replace h := bd_some h
        obtain ⟨M62, hf62, h⟩ := h
        refine r_callV (As := [.ref (eK E 15)]) (rest := []) C hM0 (c_X4_putText l E z (show 15 < nST by decide) hf62) jy_X4_putText lk_X4_52 dX4_writeHead_62 (recvW C hM0 jc4 lc_3.1 lc_3.2 rfl) rfl rfl hl.1 (Nat.le_of_ble_eq_true rfl) ⟨Nat.le_of_ble_eq_true rfl, Nat.le_of_ble_eq_true rfl⟩ ⟨rfl, rfl⟩ ⟨Nat.zero_le _, Nat.zero_le _⟩ (fun H locs hM6 => ?_)
        exact hJ65 _ _ _ _ h hM6 (lv_sub hl [0, 1, 2] rfl)
set_option maxRecDepth 100000 in
set_option maxHeartbeats 4000000 in
theorem c_X4_writeItems (l : Launch) (E : jE) (z : Nat) {s1 : Nat} {s2 : Nat} {M M' : Mem} (hs1 : isSt s1) (hs2 : isSt s2) (h : f_X4_writeItems s1 s2 M = some M') : CtV l yX4_writeItems cX4_writeItems 5 none { frames := 8, cells := 0, slots := 0, locals := 345 } E z LyC [.ref (z + 3), .ref (z + (s1 + 17)), .ref (z + (s2 + 1))] M M' := by
  refine jm (by decide +kernel) (Nat.le_of_ble_eq_true rfl) ?_
  intro p e sM m below meth c C hM0 hr hlk ls hl
  replace hl : lv_has ls 5 [(0, .ref (z + 3)), (1, .ref (z + (s1 + 17))), (2, .ref (z + (s2 + 1)))] := hl
  unfold f_X4_writeItems at h
  refine r_aload_n C dX4_writeItems_0 rfl hl 0 rfl ?_
  refine r_iconst C dX4_writeItems_1 ?_
  refine r_putI C hM0 jc4 1 ⟨by decide, by decide⟩ dX4_writeItems_2 lk_X4_15 lc_3.1 lc_3.2 rfl rfl (by decide) rfl rfl rfl (Nat.le_of_ble_eq_true rfl) (by decide) (fun H locs hM1 => ?_)
  replace h := lt_some h
  obtain ⟨N2, eN2, h⟩ := h
  rw [← eN2] at hM1
  refine r_iconst C dX4_writeItems_5 ?_
  refine r_istore_n C [(3, .int (jI 0)), (0, .ref (z + 3)), (1, .ref (z + (s1 + 17))), (2, .ref (z + (s2 + 1)))] dX4_writeItems_6 rfl hl (by decide) rfl (fun ls hl => ?_)
  refine r_iconst C dX4_writeItems_7 ?_
  refine r_istore C [(4, .int (jI 0)), (3, .int (jI 0)), (0, .ref (z + 3)), (1, .ref (z + (s1 + 17))), (2, .ref (z + (s2 + 1)))] dX4_writeItems_8 hl (by decide) rfl (fun ls hl => ?_)
  have hL10 : ∀ n10 : Nat, ∀ (x3 : Int) (x4 : Int) (M : Mem), inR x3 → inR x4 → ∀ (H : Heap) (locs : List Loc) (ls : Array Slot), f_X4_writeItems_L10 s1 s2 n10  x3 x4 M = some M' → HS E z LyC M sM H locs → lv_has ls 5 [(0, .ref (z + 3)), (1, .ref (z + (s1 + 17))), (2, .ref (z + (s2 + 1))), (3, .int (jI x3)), (4, .int (jI x4))] → W p l e ({ frames := 8, cells := 0, slots := 0, locals := 345 } : Room) sM m (([.ref (z + 3), .ref (z + (s1 + 17)), .ref (z + (s2 + 1))] : List Value).toArray) below meth c H locs 0 0 (MQ below (va_Qv (fun (_ : Unit) => Mok LyC M') (fun _ t => va_P (eD E) vwCl (Wd (eC E) z LyC M') t.heap) (eA E)) (([.ref (z + 3), .ref (z + (s1 + 17)), .ref (z + (s2 + 1))] : List Value).toArray) sM 0 0 (eA E)) (F0 m 10 ls []) := by
    intro n10
    induction n10 with
    | zero =>
      intro x3 x4 M hx3 hx4 H locs ls h hM hl
      exact absurd h (by simp [f_X4_writeItems_L10])
    | succ n10 ih10 =>
      intro x3 x4 M hx3 hx4 H locs ls h hM hl
      rw [f_X4_writeItems_L10] at h
      refine r_iload C dX4_writeItems_10 hl 4 rfl ?_
      refine r_aload_n C dX4_writeItems_12 rfl hl 1 rfl ?_
      refine r_getI C hM jc2 0 rfl dX4_writeItems_13 lk_X4_19 (ls_17 hs1).1 (ls_17 hs1).2 rfl rfl (by decide) rfl ?_
      refine r_icmp_ge C 88 hx4 (hM.ok _ _) dX4_writeItems_16 (by decide) (fun cq => ?_) (fun cq => ?_)
      · replace h := ifp cq h
        refine r_aload_n C dX4_writeItems_88 rfl hl 0 rfl ?_
        refine r_iload_n C dX4_writeItems_89 rfl hl 3 rfl ?_
        replace h := bd_some h
        obtain ⟨M90, hf90, h⟩ := h
        refine r_callV (As := [.int (jI x3)]) (rest := []) C hM (c_X4_closeBlocks l E z hx3 hf90) jy_X4_closeBlocks lk_X4_28 dX4_writeItems_90 (recvW C hM jc4 lc_3.1 lc_3.2 rfl) rfl rfl hl.1 (Nat.le_of_ble_eq_true rfl) ⟨Nat.le_of_ble_eq_true rfl, Nat.le_of_ble_eq_true rfl⟩ ⟨rfl, rfl⟩ ⟨Nat.zero_le _, Nat.zero_le _⟩ (fun H locs hM3 => ?_)
        exact r_return C hM3 hr hlk h dX4_writeItems_93
      · replace h := ifn cq h
        refine r_aload_n C dX4_writeItems_19 rfl hl 0 rfl ?_
        refine r_iload_n C dX4_writeItems_20 rfl hl 3 rfl ?_
        refine r_aload_n C dX4_writeItems_21 rfl hl 1 rfl ?_
        refine r_getR C hM jc2 5 (s1 + 22) dX4_writeItems_22 lk_X4_24 (ls_17 hs1).1 (ls_17 hs1).2 rfl rfl (by decide) rfl ?_
        refine r_iload C dX4_writeItems_25 hl 4 rfl ?_
        replace h := ck_some h
        obtain ⟨hc4, h⟩ := h
        refine r_iald C hM rfl dX4_writeItems_27 (ls_22 hs1).1 (ls_22 hs1).2 hc4 hx4 ?_
        replace h := ck_some h
        obtain ⟨hc5, h⟩ := h
        refine r_isub C dX4_writeItems_28 ?_
        replace h := bd_some h
        obtain ⟨M29, hf29, h⟩ := h
        refine r_callV (As := [.int (jI (x3 - (M (s1 + 22) x4.toNat)))]) (rest := []) C hM (c_X4_closeBlocks l E z hc5 hf29) jy_X4_closeBlocks lk_X4_28 dX4_writeItems_29 (recvW C hM jc4 lc_3.1 lc_3.2 rfl) rfl rfl hl.1 (Nat.le_of_ble_eq_true rfl) ⟨Nat.le_of_ble_eq_true rfl, Nat.le_of_ble_eq_true rfl⟩ ⟨rfl, rfl⟩ ⟨Nat.zero_le _, Nat.zero_le _⟩ (fun H locs hM6 => ?_)
        refine r_aload_n C dX4_writeItems_32 rfl hl 1 rfl ?_
        refine r_getR C hM6 jc2 5 (s1 + 22) dX4_writeItems_33 lk_X4_24 (ls_17 hs1).1 (ls_17 hs1).2 rfl rfl (by decide) rfl ?_
        refine r_iload C dX4_writeItems_36 hl 4 rfl ?_
        refine r_iald C hM6 rfl dX4_writeItems_38 (ls_22 hs1).1 (ls_22 hs1).2 hc4 hx4 ?_
        refine r_istore_n C [(3, .int (jI (M29 (s1 + 22) x4.toNat))), (0, .ref (z + 3)), (1, .ref (z + (s1 + 17))), (2, .ref (z + (s2 + 1))), (4, .int (jI x4))] dX4_writeItems_39 rfl hl (by decide) rfl (fun ls hl => ?_)
        refine r_aload_n C dX4_writeItems_40 rfl hl 1 rfl ?_
        refine r_aload_n C dX4_writeItems_41 rfl hl 2 rfl ?_
        refine r_iload C dX4_writeItems_42 hl 4 rfl ?_
        replace h := bd_some h
        obtain ⟨M44, hf44, h⟩ := h
        refine r_callV (As := [.ref (z + (s1 + 17)), .int (jI x4)]) (rest := []) C hM6 (c_X4_writeHead l E z hs1 hx4 hf44) jy_X4_writeHead lk_X4_32 dX4_writeItems_44 (recvW C hM6 jc4 lc_3.1 lc_3.2 rfl) rfl rfl hl.1 (Nat.le_of_ble_eq_true rfl) ⟨Nat.le_of_ble_eq_true rfl, Nat.le_of_ble_eq_true rfl⟩ ⟨rfl, rfl⟩ ⟨Nat.zero_le _, Nat.zero_le _⟩ (fun H locs hM7 => ?_)
        refine r_aload_n C dX4_writeItems_47 rfl hl 2 rfl ?_
        refine r_iload C dX4_writeItems_48 hl 4 rfl ?_
        replace h := bd_some h
        obtain ⟨r50, hf50, h⟩ := h
        refine r_callI (As := [.int (jI x4)]) (rest := []) C hM7 (c_X2_isBlock l E z hs1 hx4 hf50) jy_X2_isBlock lk_X4_36 dX4_writeItems_50 (recvW C hM7 jc2 (ls_17 hs1).1 (ls_17 hs1).2 rfl) rfl rfl hl.1 (Nat.le_of_ble_eq_true rfl) ⟨Nat.le_of_ble_eq_true rfl, Nat.le_of_ble_eq_true rfl⟩ ⟨rfl, rfl⟩ ⟨Nat.zero_le _, Nat.zero_le _⟩ (fun H locs hr50 hM8 => ?_)
        refine r_if_eq C 68 hr50 dX4_writeItems_53 (by decide) (fun cq => ?_) (fun cq => ?_)
        · replace h := ifp cq h
          refine r_aload_n C dX4_writeItems_68 rfl hl 1 rfl ?_
          refine r_aload_n C dX4_writeItems_69 rfl hl 2 rfl ?_
          refine r_iload C dX4_writeItems_70 hl 4 rfl ?_
          refine r_aload_n C dX4_writeItems_72 rfl hl 3 rfl ?_
          replace h := bd_some h
          obtain ⟨M73, hf73, h⟩ := h
          refine r_callV (As := [.ref (z + (s1 + 17)), .int (jI x4), .ref (z + (s2 + 1))]) (rest := []) C hM8 (c_X4_writeFrames l E z hs1 hx4 hs2 hf73) jy_X4_writeFrames lk_X4_43 dX4_writeItems_73 (recvW C hM8 jc4 lc_3.1 lc_3.2 rfl) rfl rfl hl.1 (Nat.le_of_ble_eq_true rfl) ⟨Nat.le_of_ble_eq_true rfl, Nat.le_of_ble_eq_true rfl⟩ ⟨rfl, rfl⟩ ⟨Nat.zero_le _, Nat.zero_le _⟩ (fun H locs hM9 => ?_)
          refine r_aload_n C dX4_writeItems_76 rfl hl 1 rfl ?_
          refine r_bipush C dX4_writeItems_77 rfl ?_
          replace h := bd_some h
          obtain ⟨M79, hf79, h⟩ := h
          refine r_callV (As := [.int (jI 59)]) (rest := []) C hM9 (c_X4_put l E z ⟨by decide, by decide⟩ hf79) jy_X4_put lk_X4_40 dX4_writeItems_79 (recvW C hM9 jc4 lc_3.1 lc_3.2 rfl) rfl rfl hl.1 (Nat.le_of_ble_eq_true rfl) ⟨Nat.le_of_ble_eq_true rfl, Nat.le_of_ble_eq_true rfl⟩ ⟨rfl, rfl⟩ ⟨Nat.zero_le _, Nat.zero_le _⟩ (fun H locs hM10 => ?_)
          replace h := ck_some h
          obtain ⟨hc11, h⟩ := h
          refine r_iinc (j := 4) (x := x4) C [(4, .int (jI (x4 + 1))), (3, .int (jI (M29 (s1 + 22) x4.toNat))), (0, .ref (z + 3)), (1, .ref (z + (s1 + 17))), (2, .ref (z + (s2 + 1)))] dX4_writeItems_82 hl rfl (by decide) rfl (fun ls hl => ?_)
          refine r_goto C 10 dX4_writeItems_85 (by decide) ?_
          exact ih10 _ _ _ (hM6.ok _ _) hc11 _ _ _ h hM10 (lv_sub hl [2, 3, 4, 1, 0] rfl)
        · replace h := ifn cq h
          refine r_aload_n C dX4_writeItems_56 rfl hl 1 rfl ?_
          refine r_bipush C dX4_writeItems_57 rfl ?_
          replace h := bd_some h
          obtain ⟨M59, hf59, h⟩ := h
          refine r_callV (As := [.int (jI 123)]) (rest := []) C hM8 (c_X4_put l E z ⟨by decide, by decide⟩ hf59) jy_X4_put lk_X4_40 dX4_writeItems_59 (recvW C hM8 jc4 lc_3.1 lc_3.2 rfl) rfl rfl hl.1 (Nat.le_of_ble_eq_true rfl) ⟨Nat.le_of_ble_eq_true rfl, Nat.le_of_ble_eq_true rfl⟩ ⟨rfl, rfl⟩ ⟨Nat.zero_le _, Nat.zero_le _⟩ (fun H locs hM12 => ?_)
          replace h := ck_some h
          obtain ⟨hc13, h⟩ := h
          refine r_iinc (j := 0) (x := (M29 (s1 + 22) x4.toNat)) C [(3, .int (jI ((M29 (s1 + 22) x4.toNat) + 1))), (0, .ref (z + 3)), (1, .ref (z + (s1 + 17))), (2, .ref (z + (s2 + 1))), (4, .int (jI x4))] dX4_writeItems_62 hl rfl (by decide) rfl (fun ls hl => ?_)
          refine r_goto C 82 dX4_writeItems_65 (by decide) ?_
          replace h := ck_some h
          obtain ⟨hc14, h⟩ := h
          refine r_iinc (j := 4) (x := x4) C [(4, .int (jI (x4 + 1))), (3, .int (jI ((M29 (s1 + 22) x4.toNat) + 1))), (0, .ref (z + 3)), (1, .ref (z + (s1 + 17))), (2, .ref (z + (s2 + 1)))] dX4_writeItems_82 hl rfl (by decide) rfl (fun ls hl => ?_)
          refine r_goto C 10 dX4_writeItems_85 (by decide) ?_
          exact ih10 _ _ _ hc13 hc14 _ _ _ h hM12 (lv_sub hl [2, 3, 4, 1, 0] rfl)
  exact hL10 jFuel _ _ _ ⟨by decide, by decide⟩ ⟨by decide, by decide⟩ _ _ _ h hM1 (lv_sub hl [2, 3, 4, 1, 0] rfl)
set_option maxRecDepth 100000 in
set_option maxHeartbeats 4000000 in
theorem c_X4_writeWords (l : Launch) (E : jE) (z : Nat) {s1 : Nat} {M M' : Mem} (hs1 : isSt s1) (h : f_X4_writeWords s1 M = some M') : CtV l yX4_writeWords cX4_writeWords 5 none { frames := 1, cells := 0, slots := 0, locals := 21 } E z LyC [.ref (z + 3), .ref (z + (s1 + 11))] M M' := by
  refine jm (by decide +kernel) (Nat.le_of_ble_eq_true rfl) ?_
  intro p e sM m below meth c C hM0 hr hlk ls hl
  replace hl : lv_has ls 5 [(0, .ref (z + 3)), (1, .ref (z + (s1 + 11)))] := hl
  unfold f_X4_writeWords at h
  refine r_aload_n C dX4_writeWords_0 rfl hl 0 rfl ?_
  refine r_iconst C dX4_writeWords_1 ?_
  refine r_putI C hM0 jc4 1 ⟨by decide, by decide⟩ dX4_writeWords_2 lk_X4_15 lc_3.1 lc_3.2 rfl rfl (by decide) rfl rfl rfl (Nat.le_of_ble_eq_true rfl) (by decide) (fun H locs hM1 => ?_)
  replace h := lt_some h
  obtain ⟨N2, eN2, h⟩ := h
  rw [← eN2] at hM1
  refine r_iconst C dX4_writeWords_5 ?_
  refine r_istore_n C [(2, .int (jI 0)), (0, .ref (z + 3)), (1, .ref (z + (s1 + 11)))] dX4_writeWords_6 rfl hl (by decide) rfl (fun ls hl => ?_)
  have hL7 : ∀ n7 : Nat, ∀ (x2 : Int) (M : Mem), inR x2 → ∀ (H : Heap) (locs : List Loc) (ls : Array Slot), f_X4_writeWords_L7 s1 n7  x2 M = some M' → HS E z LyC M sM H locs → lv_has ls 5 [(0, .ref (z + 3)), (1, .ref (z + (s1 + 11))), (2, .int (jI x2))] → W p l e ({ frames := 1, cells := 0, slots := 0, locals := 21 } : Room) sM m (([.ref (z + 3), .ref (z + (s1 + 11))] : List Value).toArray) below meth c H locs 0 0 (MQ below (va_Qv (fun (_ : Unit) => Mok LyC M') (fun _ t => va_P (eD E) vwCl (Wd (eC E) z LyC M') t.heap) (eA E)) (([.ref (z + 3), .ref (z + (s1 + 11))] : List Value).toArray) sM 0 0 (eA E)) (F0 m 7 ls []) := by
    intro n7
    induction n7 with
    | zero =>
      intro x2 M hx2 H locs ls h hM hl
      exact absurd h (by simp [f_X4_writeWords_L7])
    | succ n7 ih7 =>
      intro x2 M hx2 H locs ls h hM hl
      rw [f_X4_writeWords_L7] at h
      refine r_iload_n C dX4_writeWords_7 rfl hl 2 rfl ?_
      refine r_aload_n C dX4_writeWords_8 rfl hl 1 rfl ?_
      refine r_getI C hM jc9 0 rfl dX4_writeWords_9 lk_X4_87 (ls_11 hs1).1 (ls_11 hs1).2 rfl rfl (by decide) rfl ?_
      refine r_icmp_ge C 86 hx2 (hM.ok _ _) dX4_writeWords_12 (by decide) (fun cq => ?_) (fun cq => ?_)
      · replace h := ifp cq h
        exact r_return C hM hr hlk h dX4_writeWords_86
      · replace h := ifn cq h
        refine r_iload_n C dX4_writeWords_15 rfl hl 2 rfl ?_
        refine r_if_le C 25 hx2 dX4_writeWords_16 (by decide) (fun cq => ?_) (fun cq => ?_)
        · replace h := ifp cq h
          refine r_aload_n C dX4_writeWords_25 rfl hl 1 rfl ?_
          refine r_getR C hM jc9 3 (s1 + 13) dX4_writeWords_26 lk_X4_92 (ls_11 hs1).1 (ls_11 hs1).2 rfl rfl (by decide) rfl ?_
          refine r_iload_n C dX4_writeWords_29 rfl hl 2 rfl ?_
          replace h := ck_some h
          obtain ⟨hc3, h⟩ := h
          refine r_iald C hM rfl dX4_writeWords_30 (ls_13 hs1).1 (ls_13 hs1).2 hc3 hx2 ?_
          refine r_istore_n C [(3, .int (jI (M (s1 + 13) x2.toNat))), (0, .ref (z + 3)), (1, .ref (z + (s1 + 11))), (2, .int (jI x2))] dX4_writeWords_31 rfl hl (by decide) rfl (fun ls hl => ?_)
          refine r_iload_n C dX4_writeWords_32 rfl hl 0 rfl ?_
          refine r_istore C [(4, .int (jI (M (s1 + 13) x2.toNat))), (3, .int (jI (M (s1 + 13) x2.toNat))), (0, .ref (z + 3)), (1, .ref (z + (s1 + 11))), (2, .int (jI x2))] dX4_writeWords_33 hl (by decide) rfl (fun ls hl => ?_)
          obtain ⟨y3, ey3⟩ : ∃ y : Int, y = (M (s1 + 13) x2.toNat) := ⟨_, rfl⟩
          have hy3 : inR y3 := by rw [ey3]; exact (hM.ok _ _)
          have hL35 : ∀ n35 : Nat, ∀ (x4 : Int) (M : Mem), inR x4 → ∀ (H : Heap) (locs : List Loc) (ls : Array Slot), f_X4_writeWords_L35 (f_X4_writeWords_L7 s1 n7) s1 x2 y3 n35  x4 M = some M' → HS E z LyC M sM H locs → lv_has ls 5 [(0, .ref (z + 3)), (1, .ref (z + (s1 + 11))), (2, .int (jI x2)), (3, .int (jI y3)), (4, .int (jI x4))] → W p l e ({ frames := 1, cells := 0, slots := 0, locals := 21 } : Room) sM m (([.ref (z + 3), .ref (z + (s1 + 11))] : List Value).toArray) below meth c H locs 0 0 (MQ below (va_Qv (fun (_ : Unit) => Mok LyC M') (fun _ t => va_P (eD E) vwCl (Wd (eC E) z LyC M') t.heap) (eA E)) (([.ref (z + 3), .ref (z + (s1 + 11))] : List Value).toArray) sM 0 0 (eA E)) (F0 m 35 ls []) := by
            intro n35
            induction n35 with
            | zero =>
              intro x4 M hx4 H locs ls h hM hl
              exact absurd h (by simp [f_X4_writeWords_L35])
            | succ n35 ih35 =>
              intro x4 M hx4 H locs ls h hM hl
              rw [f_X4_writeWords_L35] at h
              refine r_iload C dX4_writeWords_35 hl 4 rfl ?_
              refine r_iload_n C dX4_writeWords_37 rfl hl 3 rfl ?_
              refine r_aload_n C dX4_writeWords_38 rfl hl 1 rfl ?_
              refine r_getR C hM jc9 4 (s1 + 14) dX4_writeWords_39 lk_X4_95 (ls_11 hs1).1 (ls_11 hs1).2 rfl rfl (by decide) rfl ?_
              refine r_iload_n C dX4_writeWords_42 rfl hl 2 rfl ?_
              replace h := ck_some h
              obtain ⟨hc4, h⟩ := h
              refine r_iald C hM rfl dX4_writeWords_43 (ls_14 hs1).1 (ls_14 hs1).2 hc4 hx2 ?_
              replace h := ck_some h
              obtain ⟨hc5, h⟩ := h
              refine r_iadd C dX4_writeWords_44 ?_
              refine r_icmp_ge C 65 hx4 hc5 dX4_writeWords_45 (by decide) (fun cq => ?_) (fun cq => ?_)
              · replace h := ifp cq h
                refine r_aload_n C dX4_writeWords_65 rfl hl 1 rfl ?_
                refine r_getR C hM jc9 6 (s1 + 16) dX4_writeWords_66 lk_X4_101 (ls_11 hs1).1 (ls_11 hs1).2 rfl rfl (by decide) rfl ?_
                refine r_iload_n C dX4_writeWords_69 rfl hl 2 rfl ?_
                refine r_zald C hM rfl dX4_writeWords_70 (ls_16 hs1).1 (ls_16 hs1).2 hc4 hx2 ?_
                refine r_if_eq C 80 (hM.ok _ _) dX4_writeWords_71 (by decide) (fun cq => ?_) (fun cq => ?_)
                · replace h := ifp cq h
                  replace h := ck_some h
                  obtain ⟨hc6, h⟩ := h
                  refine r_iinc (j := 2) (x := x2) C [(2, .int (jI (x2 + 1))), (0, .ref (z + 3)), (1, .ref (z + (s1 + 11))), (3, .int (jI y3)), (4, .int (jI x4))] dX4_writeWords_80 hl rfl (by decide) rfl (fun ls hl => ?_)
                  refine r_goto C 7 dX4_writeWords_83 (by decide) ?_
                  exact ih7 _ _ hc6 _ _ _ h hM (lv_sub hl [1, 2, 0] rfl)
                · replace h := ifn cq h
                  refine r_aload_n C dX4_writeWords_74 rfl hl 0 rfl ?_
                  refine r_bipush C dX4_writeWords_75 rfl ?_
                  replace h := bd_some h
                  obtain ⟨M77, hf77, h⟩ := h
                  refine r_callV (As := [.int (jI 46)]) (rest := []) C hM (c_X4_put l E z ⟨by decide, by decide⟩ hf77) jy_X4_put lk_X4_40 dX4_writeWords_77 (recvW C hM jc4 lc_3.1 lc_3.2 rfl) rfl rfl hl.1 (Nat.le_of_ble_eq_true rfl) ⟨Nat.le_of_ble_eq_true rfl, Nat.le_of_ble_eq_true rfl⟩ ⟨rfl, rfl⟩ ⟨Nat.zero_le _, Nat.zero_le _⟩ (fun H locs hM7 => ?_)
                  replace h := ck_some h
                  obtain ⟨hc8, h⟩ := h
                  refine r_iinc (j := 2) (x := x2) C [(2, .int (jI (x2 + 1))), (0, .ref (z + 3)), (1, .ref (z + (s1 + 11))), (3, .int (jI y3)), (4, .int (jI x4))] dX4_writeWords_80 hl rfl (by decide) rfl (fun ls hl => ?_)
                  refine r_goto C 7 dX4_writeWords_83 (by decide) ?_
                  exact ih7 _ _ hc8 _ _ _ h hM7 (lv_sub hl [1, 2, 0] rfl)
              · replace h := ifn cq h
                refine r_aload_n C dX4_writeWords_48 rfl hl 0 rfl ?_
                refine r_aload_n C dX4_writeWords_49 rfl hl 1 rfl ?_
                refine r_getR C hM jc9 2 (s1 + 12) dX4_writeWords_50 lk_X4_98 (ls_11 hs1).1 (ls_11 hs1).2 rfl rfl (by decide) rfl ?_
                refine r_iload C dX4_writeWords_53 hl 4 rfl ?_
                replace h := ck_some h
                obtain ⟨hc9, h⟩ := h
                refine r_bald C hM rfl dX4_writeWords_55 (ls_12 hs1).1 (ls_12 hs1).2 hc9 hx4 ?_
                replace h := bd_some h
                obtain ⟨M56, hf56, h⟩ := h
                refine r_callV (As := [.int (jI (M (s1 + 12) x4.toNat))]) (rest := []) C hM (c_X4_put l E z (hM.ok _ _) hf56) jy_X4_put lk_X4_40 dX4_writeWords_56 (recvW C hM jc4 lc_3.1 lc_3.2 rfl) rfl rfl hl.1 (Nat.le_of_ble_eq_true rfl) ⟨Nat.le_of_ble_eq_true rfl, Nat.le_of_ble_eq_true rfl⟩ ⟨rfl, rfl⟩ ⟨Nat.zero_le _, Nat.zero_le _⟩ (fun H locs hM10 => ?_)
                replace h := ck_some h
                obtain ⟨hc11, h⟩ := h
                refine r_iinc (j := 4) (x := x4) C [(4, .int (jI (x4 + 1))), (0, .ref (z + 3)), (1, .ref (z + (s1 + 11))), (2, .int (jI x2)), (3, .int (jI y3))] dX4_writeWords_59 hl rfl (by decide) rfl (fun ls hl => ?_)
                refine r_goto C 35 dX4_writeWords_62 (by decide) ?_
                exact ih35 _ _ hc11 _ _ _ h hM10 (lv_sub hl [1, 2, 3, 4, 0] rfl)
          rw [← ey3] at h
          have hl := lv_sub (l' := [(0, .ref (z + 3)), (1, .ref (z + (s1 + 11))), (2, .int (jI x2)), (3, .int (jI y3)), (4, .int (jI y3))]) hl [2, 3, 4, 1, 0] (by rw [ey3]; rfl)
          exact hL35 jFuel _ _ hy3 _ _ _ h hM hl
        · replace h := ifn cq h
          refine r_aload_n C dX4_writeWords_19 rfl hl 0 rfl ?_
          refine r_bipush C dX4_writeWords_20 rfl ?_
          replace h := bd_some h
          obtain ⟨M22, hf22, h⟩ := h
          refine r_callV (As := [.int (jI 32)]) (rest := []) C hM (c_X4_put l E z ⟨by decide, by decide⟩ hf22) jy_X4_put lk_X4_40 dX4_writeWords_22 (recvW C hM jc4 lc_3.1 lc_3.2 rfl) rfl rfl hl.1 (Nat.le_of_ble_eq_true rfl) ⟨Nat.le_of_ble_eq_true rfl, Nat.le_of_ble_eq_true rfl⟩ ⟨rfl, rfl⟩ ⟨Nat.zero_le _, Nat.zero_le _⟩ (fun H locs hM12 => ?_)
          refine r_aload_n C dX4_writeWords_25 rfl hl 1 rfl ?_
          refine r_getR C hM12 jc9 3 (s1 + 13) dX4_writeWords_26 lk_X4_92 (ls_11 hs1).1 (ls_11 hs1).2 rfl rfl (by decide) rfl ?_
          refine r_iload_n C dX4_writeWords_29 rfl hl 2 rfl ?_
          replace h := ck_some h
          obtain ⟨hc13, h⟩ := h
          refine r_iald C hM12 rfl dX4_writeWords_30 (ls_13 hs1).1 (ls_13 hs1).2 hc13 hx2 ?_
          refine r_istore_n C [(3, .int (jI (M22 (s1 + 13) x2.toNat))), (0, .ref (z + 3)), (1, .ref (z + (s1 + 11))), (2, .int (jI x2))] dX4_writeWords_31 rfl hl (by decide) rfl (fun ls hl => ?_)
          refine r_iload_n C dX4_writeWords_32 rfl hl 0 rfl ?_
          refine r_istore C [(4, .int (jI (M22 (s1 + 13) x2.toNat))), (3, .int (jI (M22 (s1 + 13) x2.toNat))), (0, .ref (z + 3)), (1, .ref (z + (s1 + 11))), (2, .int (jI x2))] dX4_writeWords_33 hl (by decide) rfl (fun ls hl => ?_)
          obtain ⟨y3, ey3⟩ : ∃ y : Int, y = (M22 (s1 + 13) x2.toNat) := ⟨_, rfl⟩
          have hy3 : inR y3 := by rw [ey3]; exact (hM12.ok _ _)
          have hL35 : ∀ n35 : Nat, ∀ (x4 : Int) (M : Mem), inR x4 → ∀ (H : Heap) (locs : List Loc) (ls : Array Slot), f_X4_writeWords_L35 (f_X4_writeWords_L7 s1 n7) s1 x2 y3 n35  x4 M = some M' → HS E z LyC M sM H locs → lv_has ls 5 [(0, .ref (z + 3)), (1, .ref (z + (s1 + 11))), (2, .int (jI x2)), (3, .int (jI y3)), (4, .int (jI x4))] → W p l e ({ frames := 1, cells := 0, slots := 0, locals := 21 } : Room) sM m (([.ref (z + 3), .ref (z + (s1 + 11))] : List Value).toArray) below meth c H locs 0 0 (MQ below (va_Qv (fun (_ : Unit) => Mok LyC M') (fun _ t => va_P (eD E) vwCl (Wd (eC E) z LyC M') t.heap) (eA E)) (([.ref (z + 3), .ref (z + (s1 + 11))] : List Value).toArray) sM 0 0 (eA E)) (F0 m 35 ls []) := by
            intro n35
            induction n35 with
            | zero =>
              intro x4 M hx4 H locs ls h hM hl
              exact absurd h (by simp [f_X4_writeWords_L35])
            | succ n35 ih35 =>
              intro x4 M hx4 H locs ls h hM hl
              rw [f_X4_writeWords_L35] at h
              refine r_iload C dX4_writeWords_35 hl 4 rfl ?_
              refine r_iload_n C dX4_writeWords_37 rfl hl 3 rfl ?_
              refine r_aload_n C dX4_writeWords_38 rfl hl 1 rfl ?_
              refine r_getR C hM jc9 4 (s1 + 14) dX4_writeWords_39 lk_X4_95 (ls_11 hs1).1 (ls_11 hs1).2 rfl rfl (by decide) rfl ?_
              refine r_iload_n C dX4_writeWords_42 rfl hl 2 rfl ?_
              replace h := ck_some h
              obtain ⟨hc14, h⟩ := h
              refine r_iald C hM rfl dX4_writeWords_43 (ls_14 hs1).1 (ls_14 hs1).2 hc14 hx2 ?_
              replace h := ck_some h
              obtain ⟨hc15, h⟩ := h
              refine r_iadd C dX4_writeWords_44 ?_
              refine r_icmp_ge C 65 hx4 hc15 dX4_writeWords_45 (by decide) (fun cq => ?_) (fun cq => ?_)
              · replace h := ifp cq h
                refine r_aload_n C dX4_writeWords_65 rfl hl 1 rfl ?_
                refine r_getR C hM jc9 6 (s1 + 16) dX4_writeWords_66 lk_X4_101 (ls_11 hs1).1 (ls_11 hs1).2 rfl rfl (by decide) rfl ?_
                refine r_iload_n C dX4_writeWords_69 rfl hl 2 rfl ?_
                refine r_zald C hM rfl dX4_writeWords_70 (ls_16 hs1).1 (ls_16 hs1).2 hc14 hx2 ?_
                refine r_if_eq C 80 (hM.ok _ _) dX4_writeWords_71 (by decide) (fun cq => ?_) (fun cq => ?_)
                · replace h := ifp cq h
                  replace h := ck_some h
                  obtain ⟨hc16, h⟩ := h
                  refine r_iinc (j := 2) (x := x2) C [(2, .int (jI (x2 + 1))), (0, .ref (z + 3)), (1, .ref (z + (s1 + 11))), (3, .int (jI y3)), (4, .int (jI x4))] dX4_writeWords_80 hl rfl (by decide) rfl (fun ls hl => ?_)
                  refine r_goto C 7 dX4_writeWords_83 (by decide) ?_
                  exact ih7 _ _ hc16 _ _ _ h hM (lv_sub hl [1, 2, 0] rfl)
                · replace h := ifn cq h
                  refine r_aload_n C dX4_writeWords_74 rfl hl 0 rfl ?_
                  refine r_bipush C dX4_writeWords_75 rfl ?_
                  replace h := bd_some h
                  obtain ⟨M77, hf77, h⟩ := h
                  refine r_callV (As := [.int (jI 46)]) (rest := []) C hM (c_X4_put l E z ⟨by decide, by decide⟩ hf77) jy_X4_put lk_X4_40 dX4_writeWords_77 (recvW C hM jc4 lc_3.1 lc_3.2 rfl) rfl rfl hl.1 (Nat.le_of_ble_eq_true rfl) ⟨Nat.le_of_ble_eq_true rfl, Nat.le_of_ble_eq_true rfl⟩ ⟨rfl, rfl⟩ ⟨Nat.zero_le _, Nat.zero_le _⟩ (fun H locs hM17 => ?_)
                  replace h := ck_some h
                  obtain ⟨hc18, h⟩ := h
                  refine r_iinc (j := 2) (x := x2) C [(2, .int (jI (x2 + 1))), (0, .ref (z + 3)), (1, .ref (z + (s1 + 11))), (3, .int (jI y3)), (4, .int (jI x4))] dX4_writeWords_80 hl rfl (by decide) rfl (fun ls hl => ?_)
                  refine r_goto C 7 dX4_writeWords_83 (by decide) ?_
                  exact ih7 _ _ hc18 _ _ _ h hM17 (lv_sub hl [1, 2, 0] rfl)
              · replace h := ifn cq h
                refine r_aload_n C dX4_writeWords_48 rfl hl 0 rfl ?_
                refine r_aload_n C dX4_writeWords_49 rfl hl 1 rfl ?_
                refine r_getR C hM jc9 2 (s1 + 12) dX4_writeWords_50 lk_X4_98 (ls_11 hs1).1 (ls_11 hs1).2 rfl rfl (by decide) rfl ?_
                refine r_iload C dX4_writeWords_53 hl 4 rfl ?_
                replace h := ck_some h
                obtain ⟨hc19, h⟩ := h
                refine r_bald C hM rfl dX4_writeWords_55 (ls_12 hs1).1 (ls_12 hs1).2 hc19 hx4 ?_
                replace h := bd_some h
                obtain ⟨M56, hf56, h⟩ := h
                refine r_callV (As := [.int (jI (M (s1 + 12) x4.toNat))]) (rest := []) C hM (c_X4_put l E z (hM.ok _ _) hf56) jy_X4_put lk_X4_40 dX4_writeWords_56 (recvW C hM jc4 lc_3.1 lc_3.2 rfl) rfl rfl hl.1 (Nat.le_of_ble_eq_true rfl) ⟨Nat.le_of_ble_eq_true rfl, Nat.le_of_ble_eq_true rfl⟩ ⟨rfl, rfl⟩ ⟨Nat.zero_le _, Nat.zero_le _⟩ (fun H locs hM20 => ?_)
                replace h := ck_some h
                obtain ⟨hc21, h⟩ := h
                refine r_iinc (j := 4) (x := x4) C [(4, .int (jI (x4 + 1))), (0, .ref (z + 3)), (1, .ref (z + (s1 + 11))), (2, .int (jI x2)), (3, .int (jI y3))] dX4_writeWords_59 hl rfl (by decide) rfl (fun ls hl => ?_)
                refine r_goto C 35 dX4_writeWords_62 (by decide) ?_
                exact ih35 _ _ hc21 _ _ _ h hM20 (lv_sub hl [1, 2, 3, 4, 0] rfl)
          rw [← ey3] at h
          have hl := lv_sub (l' := [(0, .ref (z + 3)), (1, .ref (z + (s1 + 11))), (2, .int (jI x2)), (3, .int (jI y3)), (4, .int (jI y3))]) hl [2, 3, 4, 1, 0] (by rw [ey3]; rfl)
          exact hL35 jFuel _ _ hy3 _ _ _ h hM12 hl
  exact hL7 jFuel _ _ ⟨by decide, by decide⟩ _ _ _ h hM1 (lv_sub hl [1, 2, 0] rfl)
