set_option maxRecDepth 100000 in
set_option maxHeartbeats 4000000 in
theorem c_X3_copyFrom (l : Launch) (E : jE) (z : Nat) {s : Nat} {s1 : Nat} {M M' : Mem} (hs : isSt s) (hs1 : isSt s1) (h : f_X3_copyFrom s s1 M = some M') : CtV l yX3_copyFrom cX3_copyFrom 2 none { frames := 1, cells := 0, slots := 0, locals := 18 } E z LyC [.ref (z + (s + 1)), .ref (z + (s1 + 1))] M M' := by
  refine jm (by decide +kernel) (Nat.le_of_ble_eq_true rfl) ?_
  intro p e sM m below meth c C hM0 hr hlk ls hl
  replace hl : lv_has ls 2 [(0, .ref (z + (s + 1))), (1, .ref (z + (s1 + 1)))] := hl
  unfold f_X3_copyFrom at h
  refine r_aload_n C dX3_copyFrom_0 rfl hl 0 rfl ?_
  refine r_aload_n C dX3_copyFrom_1 rfl hl 1 rfl ?_
  refine r_getI C hM0 jc3 0 rfl dX3_copyFrom_2 lk_X3_9 (ls_1 hs1).1 (ls_1 hs1).2 rfl rfl (by decide) rfl ?_
  refine r_putI C hM0 jc3 0 (hM0.ok _ _) dX3_copyFrom_5 lk_X3_9 (ls_1 hs).1 (ls_1 hs).2 rfl rfl (by decide) rfl rfl rfl (Nat.le_of_ble_eq_true rfl) (by decide) (fun H locs hM1 => ?_)
  replace h := lt_some h
  obtain ⟨N2, eN2, h⟩ := h
  rw [← eN2] at hM1
  refine r_aload_n C dX3_copyFrom_8 rfl hl 1 rfl ?_
  refine r_getR C hM1 jc3 1 (s1 + 2) dX3_copyFrom_9 lk_X3_15 (ls_1 hs1).1 (ls_1 hs1).2 rfl rfl (by decide) rfl ?_
  refine r_iconst C dX3_copyFrom_12 ?_
  refine r_aload_n C dX3_copyFrom_13 rfl hl 0 rfl ?_
  refine r_getR C hM1 jc3 1 (s + 2) dX3_copyFrom_14 lk_X3_15 (ls_1 hs).1 (ls_1 hs).2 rfl rfl (by decide) rfl ?_
  refine r_iconst C dX3_copyFrom_17 ?_
  refine r_bipush C dX3_copyFrom_18 rfl ?_
  refine r_copy (t := 0) C hM1 lk_X3_54 dX3_copyFrom_20 (Or.inl ⟨rfl, rfl⟩) rfl (ls_2 hs1).1 (ls_2 hs).1 (ls_2 hs1).2 (ls_2 hs).2 ⟨by decide, by decide⟩ ⟨by decide, by decide⟩ ⟨by decide, by decide⟩ (show ((0 : Int) ≤ 0 ∧ (0 : Int) ≤ 0 ∧ (0 : Int) ≤ 12 ∧ (0 + 12 : Int) ≤ 12 ∧ (0 + 12 : Int) ≤ 12 : Prop) by decide) hl.1 ⟨Nat.le_of_ble_eq_true rfl, Nat.le_of_ble_eq_true rfl⟩ (fun H locs hM3 => ?_)
  replace h := lt_some h
  obtain ⟨N4, eN4, h⟩ := h
  rw [← eN4] at hM3
  refine r_aload_n C dX3_copyFrom_23 rfl hl 1 rfl ?_
  refine r_getR C hM3 jc3 2 (s1 + 3) dX3_copyFrom_24 lk_X3_19 (ls_1 hs1).1 (ls_1 hs1).2 rfl rfl (by decide) rfl ?_
  refine r_iconst C dX3_copyFrom_27 ?_
  refine r_aload_n C dX3_copyFrom_28 rfl hl 0 rfl ?_
  refine r_getR C hM3 jc3 2 (s + 3) dX3_copyFrom_29 lk_X3_19 (ls_1 hs).1 (ls_1 hs).2 rfl rfl (by decide) rfl ?_
  refine r_iconst C dX3_copyFrom_32 ?_
  refine r_bipush C dX3_copyFrom_33 rfl ?_
  refine r_copy (t := 0) C hM3 lk_X3_54 dX3_copyFrom_35 (Or.inl ⟨rfl, rfl⟩) rfl (ls_3 hs1).1 (ls_3 hs).1 (ls_3 hs1).2 (ls_3 hs).2 ⟨by decide, by decide⟩ ⟨by decide, by decide⟩ ⟨by decide, by decide⟩ (show ((0 : Int) ≤ 0 ∧ (0 : Int) ≤ 0 ∧ (0 : Int) ≤ 12 ∧ (0 + 12 : Int) ≤ 12 ∧ (0 + 12 : Int) ≤ 12 : Prop) by decide) hl.1 ⟨Nat.le_of_ble_eq_true rfl, Nat.le_of_ble_eq_true rfl⟩ (fun H locs hM5 => ?_)
  replace h := lt_some h
  obtain ⟨N6, eN6, h⟩ := h
  rw [← eN6] at hM5
  refine r_aload_n C dX3_copyFrom_38 rfl hl 0 rfl ?_
  refine r_aload_n C dX3_copyFrom_39 rfl hl 1 rfl ?_
  refine r_getI C hM5 jc3 3 rfl dX3_copyFrom_40 lk_X3_22 (ls_1 hs1).1 (ls_1 hs1).2 rfl rfl (by decide) rfl ?_
  refine r_putI C hM5 jc3 3 (hM5.ok _ _) dX3_copyFrom_43 lk_X3_22 (ls_1 hs).1 (ls_1 hs).2 rfl rfl (by decide) rfl rfl rfl (Nat.le_of_ble_eq_true rfl) (by decide) (fun H locs hM7 => ?_)
  replace h := lt_some h
  obtain ⟨N8, eN8, h⟩ := h
  rw [← eN8] at hM7
  refine r_aload_n C dX3_copyFrom_46 rfl hl 1 rfl ?_
  refine r_getR C hM7 jc3 4 (s1 + 4) dX3_copyFrom_47 lk_X3_25 (ls_1 hs1).1 (ls_1 hs1).2 rfl rfl (by decide) rfl ?_
  refine r_iconst C dX3_copyFrom_50 ?_
  refine r_aload_n C dX3_copyFrom_51 rfl hl 0 rfl ?_
  refine r_getR C hM7 jc3 4 (s + 4) dX3_copyFrom_52 lk_X3_25 (ls_1 hs).1 (ls_1 hs).2 rfl rfl (by decide) rfl ?_
  refine r_iconst C dX3_copyFrom_55 ?_
  refine r_bipush C dX3_copyFrom_56 rfl ?_
  refine r_copy (t := 1) C hM7 lk_X3_54 dX3_copyFrom_58 (Or.inr (Or.inl ⟨rfl, rfl⟩)) rfl (ls_4 hs1).1 (ls_4 hs).1 (ls_4 hs1).2 (ls_4 hs).2 ⟨by decide, by decide⟩ ⟨by decide, by decide⟩ ⟨by decide, by decide⟩ (show ((0 : Int) ≤ 0 ∧ (0 : Int) ≤ 0 ∧ (0 : Int) ≤ 48 ∧ (0 + 48 : Int) ≤ 48 ∧ (0 + 48 : Int) ≤ 48 : Prop) by decide) hl.1 ⟨Nat.le_of_ble_eq_true rfl, Nat.le_of_ble_eq_true rfl⟩ (fun H locs hM9 => ?_)
  replace h := lt_some h
  obtain ⟨N10, eN10, h⟩ := h
  rw [← eN10] at hM9
  refine r_aload_n C dX3_copyFrom_61 rfl hl 1 rfl ?_
  refine r_getR C hM9 jc3 5 (s1 + 5) dX3_copyFrom_62 lk_X3_29 (ls_1 hs1).1 (ls_1 hs1).2 rfl rfl (by decide) rfl ?_
  refine r_iconst C dX3_copyFrom_65 ?_
  refine r_aload_n C dX3_copyFrom_66 rfl hl 0 rfl ?_
  refine r_getR C hM9 jc3 5 (s + 5) dX3_copyFrom_67 lk_X3_29 (ls_1 hs).1 (ls_1 hs).2 rfl rfl (by decide) rfl ?_
  refine r_iconst C dX3_copyFrom_70 ?_
  refine r_bipush C dX3_copyFrom_71 rfl ?_
  refine r_copy (t := 0) C hM9 lk_X3_54 dX3_copyFrom_73 (Or.inl ⟨rfl, rfl⟩) rfl (ls_5 hs1).1 (ls_5 hs).1 (ls_5 hs1).2 (ls_5 hs).2 ⟨by decide, by decide⟩ ⟨by decide, by decide⟩ ⟨by decide, by decide⟩ (show ((0 : Int) ≤ 0 ∧ (0 : Int) ≤ 0 ∧ (0 : Int) ≤ 6 ∧ (0 + 6 : Int) ≤ 6 ∧ (0 + 6 : Int) ≤ 6 : Prop) by decide) hl.1 ⟨Nat.le_of_ble_eq_true rfl, Nat.le_of_ble_eq_true rfl⟩ (fun H locs hM11 => ?_)
  replace h := lt_some h
  obtain ⟨N12, eN12, h⟩ := h
  rw [← eN12] at hM11
  refine r_aload_n C dX3_copyFrom_76 rfl hl 0 rfl ?_
  refine r_aload_n C dX3_copyFrom_77 rfl hl 1 rfl ?_
  refine r_getI C hM11 jc3 6 rfl dX3_copyFrom_78 lk_X3_32 (ls_1 hs1).1 (ls_1 hs1).2 rfl rfl (by decide) rfl ?_
  refine r_putI C hM11 jc3 6 (hM11.ok _ _) dX3_copyFrom_81 lk_X3_32 (ls_1 hs).1 (ls_1 hs).2 rfl rfl (by decide) rfl rfl rfl (Nat.le_of_ble_eq_true rfl) (by decide) (fun H locs hM13 => ?_)
  replace h := lt_some h
  obtain ⟨N14, eN14, h⟩ := h
  rw [← eN14] at hM13
  refine r_aload_n C dX3_copyFrom_84 rfl hl 1 rfl ?_
  refine r_getR C hM13 jc3 7 (s1 + 6) dX3_copyFrom_85 lk_X3_35 (ls_1 hs1).1 (ls_1 hs1).2 rfl rfl (by decide) rfl ?_
  refine r_iconst C dX3_copyFrom_88 ?_
  refine r_aload_n C dX3_copyFrom_89 rfl hl 0 rfl ?_
  refine r_getR C hM13 jc3 7 (s + 6) dX3_copyFrom_90 lk_X3_35 (ls_1 hs).1 (ls_1 hs).2 rfl rfl (by decide) rfl ?_
  refine r_iconst C dX3_copyFrom_93 ?_
  refine r_bipush C dX3_copyFrom_94 rfl ?_
  refine r_copy (t := 0) C hM13 lk_X3_54 dX3_copyFrom_96 (Or.inl ⟨rfl, rfl⟩) rfl (ls_6 hs1).1 (ls_6 hs).1 (ls_6 hs1).2 (ls_6 hs).2 ⟨by decide, by decide⟩ ⟨by decide, by decide⟩ ⟨by decide, by decide⟩ (show ((0 : Int) ≤ 0 ∧ (0 : Int) ≤ 0 ∧ (0 : Int) ≤ 10 ∧ (0 + 10 : Int) ≤ 10 ∧ (0 + 10 : Int) ≤ 10 : Prop) by decide) hl.1 ⟨Nat.le_of_ble_eq_true rfl, Nat.le_of_ble_eq_true rfl⟩ (fun H locs hM15 => ?_)
  replace h := lt_some h
  obtain ⟨N16, eN16, h⟩ := h
  rw [← eN16] at hM15
  refine r_aload_n C dX3_copyFrom_99 rfl hl 1 rfl ?_
  refine r_getR C hM15 jc3 8 (s1 + 7) dX3_copyFrom_100 lk_X3_38 (ls_1 hs1).1 (ls_1 hs1).2 rfl rfl (by decide) rfl ?_
  refine r_iconst C dX3_copyFrom_103 ?_
  refine r_aload_n C dX3_copyFrom_104 rfl hl 0 rfl ?_
  refine r_getR C hM15 jc3 8 (s + 7) dX3_copyFrom_105 lk_X3_38 (ls_1 hs).1 (ls_1 hs).2 rfl rfl (by decide) rfl ?_
  refine r_iconst C dX3_copyFrom_108 ?_
  refine r_bipush C dX3_copyFrom_109 rfl ?_
  refine r_copy (t := 0) C hM15 lk_X3_54 dX3_copyFrom_111 (Or.inl ⟨rfl, rfl⟩) rfl (ls_7 hs1).1 (ls_7 hs).1 (ls_7 hs1).2 (ls_7 hs).2 ⟨by decide, by decide⟩ ⟨by decide, by decide⟩ ⟨by decide, by decide⟩ (show ((0 : Int) ≤ 0 ∧ (0 : Int) ≤ 0 ∧ (0 : Int) ≤ 10 ∧ (0 + 10 : Int) ≤ 10 ∧ (0 + 10 : Int) ≤ 10 : Prop) by decide) hl.1 ⟨Nat.le_of_ble_eq_true rfl, Nat.le_of_ble_eq_true rfl⟩ (fun H locs hM17 => ?_)
  replace h := lt_some h
  obtain ⟨N18, eN18, h⟩ := h
  rw [← eN18] at hM17
  refine r_aload_n C dX3_copyFrom_114 rfl hl 1 rfl ?_
  refine r_getR C hM17 jc3 9 (s1 + 8) dX3_copyFrom_115 lk_X3_41 (ls_1 hs1).1 (ls_1 hs1).2 rfl rfl (by decide) rfl ?_
  refine r_iconst C dX3_copyFrom_118 ?_
  refine r_aload_n C dX3_copyFrom_119 rfl hl 0 rfl ?_
  refine r_getR C hM17 jc3 9 (s + 8) dX3_copyFrom_120 lk_X3_41 (ls_1 hs).1 (ls_1 hs).2 rfl rfl (by decide) rfl ?_
  refine r_iconst C dX3_copyFrom_123 ?_
  refine r_bipush C dX3_copyFrom_124 rfl ?_
  refine r_copy (t := 0) C hM17 lk_X3_54 dX3_copyFrom_126 (Or.inl ⟨rfl, rfl⟩) rfl (ls_8 hs1).1 (ls_8 hs).1 (ls_8 hs1).2 (ls_8 hs).2 ⟨by decide, by decide⟩ ⟨by decide, by decide⟩ ⟨by decide, by decide⟩ (show ((0 : Int) ≤ 0 ∧ (0 : Int) ≤ 0 ∧ (0 : Int) ≤ 10 ∧ (0 + 10 : Int) ≤ 10 ∧ (0 + 10 : Int) ≤ 10 : Prop) by decide) hl.1 ⟨Nat.le_of_ble_eq_true rfl, Nat.le_of_ble_eq_true rfl⟩ (fun H locs hM19 => ?_)
  replace h := lt_some h
  obtain ⟨N20, eN20, h⟩ := h
  rw [← eN20] at hM19
  refine r_aload_n C dX3_copyFrom_129 rfl hl 1 rfl ?_
  refine r_getR C hM19 jc3 10 (s1 + 9) dX3_copyFrom_130 lk_X3_44 (ls_1 hs1).1 (ls_1 hs1).2 rfl rfl (by decide) rfl ?_
  refine r_iconst C dX3_copyFrom_133 ?_
  refine r_aload_n C dX3_copyFrom_134 rfl hl 0 rfl ?_
  refine r_getR C hM19 jc3 10 (s + 9) dX3_copyFrom_135 lk_X3_44 (ls_1 hs).1 (ls_1 hs).2 rfl rfl (by decide) rfl ?_
  refine r_iconst C dX3_copyFrom_138 ?_
  refine r_iconst C dX3_copyFrom_139 ?_
  refine r_copy (t := 0) C hM19 lk_X3_54 dX3_copyFrom_140 (Or.inl ⟨rfl, rfl⟩) rfl (ls_9 hs1).1 (ls_9 hs).1 (ls_9 hs1).2 (ls_9 hs).2 ⟨by decide, by decide⟩ ⟨by decide, by decide⟩ ⟨by decide, by decide⟩ (show ((0 : Int) ≤ 0 ∧ (0 : Int) ≤ 0 ∧ (0 : Int) ≤ 5 ∧ (0 + 5 : Int) ≤ 5 ∧ (0 + 5 : Int) ≤ 5 : Prop) by decide) hl.1 ⟨Nat.le_of_ble_eq_true rfl, Nat.le_of_ble_eq_true rfl⟩ (fun H locs hM21 => ?_)
  replace h := lt_some h
  obtain ⟨N22, eN22, h⟩ := h
  rw [← eN22] at hM21
  exact r_return C hM21 hr hlk h dX3_copyFrom_143
set_option maxRecDepth 100000 in
set_option maxHeartbeats 4000000 in
theorem c_X3_cameraOf (l : Launch) (E : jE) (z : Nat) {s : Nat} {x1 : Int} {M : Mem} {r : Int} (hs : isSt s) (hx1 : inR x1) (h : f_X3_cameraOf s x1 M = some r) : CtI l yX3_cameraOf cX3_cameraOf 2 (some .int) { frames := 0, cells := 0, slots := 0, locals := 0 } E z LyC [.ref (z + (s + 1)), .int (jI x1)] M r M := by
  refine jm (by decide +kernel) (Nat.le_of_ble_eq_true rfl) ?_
  intro p e sM m below meth c C hM0 hr hlk ls hl
  replace hl : lv_has ls 2 [(0, .ref (z + (s + 1))), (1, .int (jI x1))] := hl
  unfold f_X3_cameraOf at h
  refine r_iload_n C dX3_cameraOf_0 rfl hl 1 rfl ?_
  refine r_if_lt C 21 hx1 dX3_cameraOf_1 (by decide) (fun cq => ?_) (fun cq => ?_)
  · replace h := ifp cq h
    refine r_iconst C dX3_cameraOf_21 ?_
    exact r_ireturn C hM0 hr hlk ⟨by decide, by decide⟩ h rfl dX3_cameraOf_22
  · replace h := ifn cq h
    refine r_iload_n C dX3_cameraOf_4 rfl hl 1 rfl ?_
    refine r_aload_n C dX3_cameraOf_5 rfl hl 0 rfl ?_
    refine r_getI C hM0 jc3 0 rfl dX3_cameraOf_6 lk_X3_9 (ls_1 hs).1 (ls_1 hs).2 rfl rfl (by decide) rfl ?_
    refine r_icmp_ge C 21 hx1 (hM0.ok _ _) dX3_cameraOf_9 (by decide) (fun cq => ?_) (fun cq => ?_)
    · replace h := ifp cq h
      refine r_iconst C dX3_cameraOf_21 ?_
      exact r_ireturn C hM0 hr hlk ⟨by decide, by decide⟩ h rfl dX3_cameraOf_22
    · replace h := ifn cq h
      refine r_aload_n C dX3_cameraOf_12 rfl hl 0 rfl ?_
      refine r_getR C hM0 jc3 1 (s + 2) dX3_cameraOf_13 lk_X3_15 (ls_1 hs).1 (ls_1 hs).2 rfl rfl (by decide) rfl ?_
      refine r_iload_n C dX3_cameraOf_16 rfl hl 1 rfl ?_
      replace h := ck_some h
      obtain ⟨hc1, h⟩ := h
      refine r_iald C hM0 rfl dX3_cameraOf_17 (ls_2 hs).1 (ls_2 hs).2 hc1 hx1 ?_
      refine r_goto C 22 dX3_cameraOf_18 (by decide) ?_
      exact r_ireturn C hM0 hr hlk (hM0.ok _ _) h rfl dX3_cameraOf_22
set_option maxRecDepth 100000 in
set_option maxHeartbeats 4000000 in
theorem c_X3_lengthOf (l : Launch) (E : jE) (z : Nat) {s : Nat} {x1 : Int} {M : Mem} {r : Int} (hs : isSt s) (hx1 : inR x1) (h : f_X3_lengthOf s x1 M = some r) : CtI l yX3_lengthOf cX3_lengthOf 2 (some .int) { frames := 0, cells := 0, slots := 0, locals := 0 } E z LyC [.ref (z + (s + 1)), .int (jI x1)] M r M := by
  refine jm (by decide +kernel) (Nat.le_of_ble_eq_true rfl) ?_
  intro p e sM m below meth c C hM0 hr hlk ls hl
  replace hl : lv_has ls 2 [(0, .ref (z + (s + 1))), (1, .int (jI x1))] := hl
  unfold f_X3_lengthOf at h
  refine r_iload_n C dX3_lengthOf_0 rfl hl 1 rfl ?_
  refine r_if_lt C 21 hx1 dX3_lengthOf_1 (by decide) (fun cq => ?_) (fun cq => ?_)
  · replace h := ifp cq h
    refine r_iconst C dX3_lengthOf_21 ?_
    exact r_ireturn C hM0 hr hlk ⟨by decide, by decide⟩ h rfl dX3_lengthOf_22
  · replace h := ifn cq h
    refine r_iload_n C dX3_lengthOf_4 rfl hl 1 rfl ?_
    refine r_aload_n C dX3_lengthOf_5 rfl hl 0 rfl ?_
    refine r_getI C hM0 jc3 0 rfl dX3_lengthOf_6 lk_X3_9 (ls_1 hs).1 (ls_1 hs).2 rfl rfl (by decide) rfl ?_
    refine r_icmp_ge C 21 hx1 (hM0.ok _ _) dX3_lengthOf_9 (by decide) (fun cq => ?_) (fun cq => ?_)
    · replace h := ifp cq h
      refine r_iconst C dX3_lengthOf_21 ?_
      exact r_ireturn C hM0 hr hlk ⟨by decide, by decide⟩ h rfl dX3_lengthOf_22
    · replace h := ifn cq h
      refine r_aload_n C dX3_lengthOf_12 rfl hl 0 rfl ?_
      refine r_getR C hM0 jc3 2 (s + 3) dX3_lengthOf_13 lk_X3_19 (ls_1 hs).1 (ls_1 hs).2 rfl rfl (by decide) rfl ?_
      refine r_iload_n C dX3_lengthOf_16 rfl hl 1 rfl ?_
      replace h := ck_some h
      obtain ⟨hc1, h⟩ := h
      refine r_iald C hM0 rfl dX3_lengthOf_17 (ls_3 hs).1 (ls_3 hs).2 hc1 hx1 ?_
      refine r_goto C 22 dX3_lengthOf_18 (by decide) ?_
      exact r_ireturn C hM0 hr hlk (hM0.ok _ _) h rfl dX3_lengthOf_22
set_option maxRecDepth 100000 in
set_option maxHeartbeats 4000000 in
theorem c_X3_nameLengthOf (l : Launch) (E : jE) (z : Nat) {s : Nat} {x1 : Int} {M : Mem} {r : Int} (hs : isSt s) (hx1 : inR x1) (h : f_X3_nameLengthOf s x1 M = some r) : CtI l yX3_nameLengthOf cX3_nameLengthOf 2 (some .int) { frames := 0, cells := 0, slots := 0, locals := 0 } E z LyC [.ref (z + (s + 1)), .int (jI x1)] M r M := by
  refine jm (by decide +kernel) (Nat.le_of_ble_eq_true rfl) ?_
  intro p e sM m below meth c C hM0 hr hlk ls hl
  replace hl : lv_has ls 2 [(0, .ref (z + (s + 1))), (1, .int (jI x1))] := hl
  unfold f_X3_nameLengthOf at h
  refine r_iload_n C dX3_nameLengthOf_0 rfl hl 1 rfl ?_
  refine r_if_lt C 21 hx1 dX3_nameLengthOf_1 (by decide) (fun cq => ?_) (fun cq => ?_)
  · replace h := ifp cq h
    refine r_iconst C dX3_nameLengthOf_21 ?_
    exact r_ireturn C hM0 hr hlk ⟨by decide, by decide⟩ h rfl dX3_nameLengthOf_22
  · replace h := ifn cq h
    refine r_iload_n C dX3_nameLengthOf_4 rfl hl 1 rfl ?_
    refine r_aload_n C dX3_nameLengthOf_5 rfl hl 0 rfl ?_
    refine r_getI C hM0 jc3 3 rfl dX3_nameLengthOf_6 lk_X3_22 (ls_1 hs).1 (ls_1 hs).2 rfl rfl (by decide) rfl ?_
    refine r_icmp_ge C 21 hx1 (hM0.ok _ _) dX3_nameLengthOf_9 (by decide) (fun cq => ?_) (fun cq => ?_)
    · replace h := ifp cq h
      refine r_iconst C dX3_nameLengthOf_21 ?_
      exact r_ireturn C hM0 hr hlk ⟨by decide, by decide⟩ h rfl dX3_nameLengthOf_22
    · replace h := ifn cq h
      refine r_aload_n C dX3_nameLengthOf_12 rfl hl 0 rfl ?_
      refine r_getR C hM0 jc3 5 (s + 5) dX3_nameLengthOf_13 lk_X3_29 (ls_1 hs).1 (ls_1 hs).2 rfl rfl (by decide) rfl ?_
      refine r_iload_n C dX3_nameLengthOf_16 rfl hl 1 rfl ?_
      replace h := ck_some h
      obtain ⟨hc1, h⟩ := h
      refine r_iald C hM0 rfl dX3_nameLengthOf_17 (ls_5 hs).1 (ls_5 hs).2 hc1 hx1 ?_
      refine r_goto C 22 dX3_nameLengthOf_18 (by decide) ?_
      exact r_ireturn C hM0 hr hlk (hM0.ok _ _) h rfl dX3_nameLengthOf_22
set_option maxRecDepth 100000 in
set_option maxHeartbeats 4000000 in
theorem c_X3_setting (l : Launch) (E : jE) (z : Nat) {s : Nat} {x1 : Int} {M : Mem} {r : Int} (hs : isSt s) (hx1 : inR x1) (h : f_X3_setting s x1 M = some r) : CtI l yX3_setting cX3_setting 2 (some .int) { frames := 0, cells := 0, slots := 0, locals := 0 } E z LyC [.ref (z + (s + 1)), .int (jI x1)] M r M := by
  refine jm (by decide +kernel) (Nat.le_of_ble_eq_true rfl) ?_
  intro p e sM m below meth c C hM0 hr hlk ls hl
  replace hl : lv_has ls 2 [(0, .ref (z + (s + 1))), (1, .int (jI x1))] := hl
  unfold f_X3_setting at h
  refine r_iload_n C dX3_setting_0 rfl hl 1 rfl ?_
  refine r_if_lt C 18 hx1 dX3_setting_1 (by decide) (fun cq => ?_) (fun cq => ?_)
  · replace h := ifp cq h
    refine r_iconst C dX3_setting_18 ?_
    exact r_ireturn C hM0 hr hlk ⟨by decide, by decide⟩ h rfl dX3_setting_19
  · replace h := ifn cq h
    refine r_iload_n C dX3_setting_4 rfl hl 1 rfl ?_
    refine r_iconst C dX3_setting_5 ?_
    refine r_icmp_ge C 18 hx1 ⟨by decide, by decide⟩ dX3_setting_6 (by decide) (fun cq => ?_) (fun cq => ?_)
    · replace h := ifp cq h
      refine r_iconst C dX3_setting_18 ?_
      exact r_ireturn C hM0 hr hlk ⟨by decide, by decide⟩ h rfl dX3_setting_19
    · replace h := ifn cq h
      refine r_aload_n C dX3_setting_9 rfl hl 0 rfl ?_
      refine r_getR C hM0 jc3 10 (s + 9) dX3_setting_10 lk_X3_44 (ls_1 hs).1 (ls_1 hs).2 rfl rfl (by decide) rfl ?_
      refine r_iload_n C dX3_setting_13 rfl hl 1 rfl ?_
      replace h := ck_some h
      obtain ⟨hc1, h⟩ := h
      refine r_iald C hM0 rfl dX3_setting_14 (ls_9 hs).1 (ls_9 hs).2 hc1 hx1 ?_
      refine r_goto C 19 dX3_setting_15 (by decide) ?_
      exact r_ireturn C hM0 hr hlk (hM0.ok _ _) h rfl dX3_setting_19
set_option maxRecDepth 100000 in
set_option maxHeartbeats 4000000 in
theorem c_X3_set (l : Launch) (E : jE) (z : Nat) {s : Nat} {x1 : Int} {x2 : Int} {M M' : Mem} (hs : isSt s) (hx1 : inR x1) (hx2 : inR x2) (h : f_X3_set s x1 x2 M = some M') : CtV l yX3_set cX3_set 3 none { frames := 0, cells := 0, slots := 0, locals := 0 } E z LyC [.ref (z + (s + 1)), .int (jI x1), .int (jI x2)] M M' := by
  refine jm (by decide +kernel) (Nat.le_of_ble_eq_true rfl) ?_
  intro p e sM m below meth c C hM0 hr hlk ls hl
  replace hl : lv_has ls 3 [(0, .ref (z + (s + 1))), (1, .int (jI x1)), (2, .int (jI x2))] := hl
  unfold f_X3_set at h
  refine r_iload_n C dX3_set_0 rfl hl 1 rfl ?_
  refine r_if_lt C 16 hx1 dX3_set_1 (by decide) (fun cq => ?_) (fun cq => ?_)
  · replace h := ifp cq h
    exact r_return C hM0 hr hlk h dX3_set_16
  · replace h := ifn cq h
    refine r_iload_n C dX3_set_4 rfl hl 1 rfl ?_
    refine r_iconst C dX3_set_5 ?_
    refine r_icmp_ge C 16 hx1 ⟨by decide, by decide⟩ dX3_set_6 (by decide) (fun cq => ?_) (fun cq => ?_)
    · replace h := ifp cq h
      exact r_return C hM0 hr hlk h dX3_set_16
    · replace h := ifn cq h
      refine r_aload_n C dX3_set_9 rfl hl 0 rfl ?_
      refine r_getR C hM0 jc3 10 (s + 9) dX3_set_10 lk_X3_44 (ls_1 hs).1 (ls_1 hs).2 rfl rfl (by decide) rfl ?_
      refine r_iload_n C dX3_set_13 rfl hl 1 rfl ?_
      refine r_iload_n C dX3_set_14 rfl hl 2 rfl ?_
      replace h := ck_some h
      obtain ⟨hc1, h⟩ := h
      refine r_iast C hM0 dX3_set_15 (ls_9 hs).1 (ls_9 hs).2 hc1 hx1 hx2 (fun H locs hM2 => ?_)
      replace h := lt_some h
      obtain ⟨N3, eN3, h⟩ := h
      rw [← eN3] at hM2
      exact r_return C hM2 hr hlk h dX3_set_16
set_option maxRecDepth 100000 in
set_option maxHeartbeats 4000000 in
theorem c_X3_shotsOf (l : Launch) (E : jE) (z : Nat) {s : Nat} {x1 : Int} {M : Mem} {r : Int} (hs : isSt s) (hx1 : inR x1) (h : f_X3_shotsOf s x1 M = some r) : CtI l yX3_shotsOf cX3_shotsOf 4 (some .int) { frames := 0, cells := 0, slots := 0, locals := 0 } E z LyC [.ref (z + (s + 1)), .int (jI x1)] M r M := by
  refine jm (by decide +kernel) (Nat.le_of_ble_eq_true rfl) ?_
  intro p e sM m below meth c C hM0 hr hlk ls hl
  replace hl : lv_has ls 4 [(0, .ref (z + (s + 1))), (1, .int (jI x1))] := hl
  unfold f_X3_shotsOf at h
  refine r_iconst C dX3_shotsOf_0 ?_
  refine r_istore_n C [(2, .int (jI 0)), (0, .ref (z + (s + 1))), (1, .int (jI x1))] dX3_shotsOf_1 rfl hl (by decide) rfl (fun ls hl => ?_)
  refine r_iconst C dX3_shotsOf_2 ?_
  refine r_istore_n C [(3, .int (jI 0)), (2, .int (jI 0)), (0, .ref (z + (s + 1))), (1, .int (jI x1))] dX3_shotsOf_3 rfl hl (by decide) rfl (fun ls hl => ?_)
  have hL4 : ∀ n4 : Nat, ∀ (x2 : Int) (x3 : Int), inR x2 → inR x3 → ∀ (H : Heap) (locs : List Loc) (ls : Array Slot), f_X3_shotsOf_L4 s x1 M n4  x2 x3 = some r → HS E z LyC M sM H locs → lv_has ls 4 [(0, .ref (z + (s + 1))), (1, .int (jI x1)), (2, .int (jI x2)), (3, .int (jI x3))] → W p l e ({ frames := 0, cells := 0, slots := 0, locals := 0 } : Room) sM m (([.ref (z + (s + 1)), .int (jI x1)] : List Value).toArray) below meth c H locs 0 0 (MQ below (va_Qi (fun (w : Int32) (_ : Unit) => w = jI r ∧ inR r ∧ Mok LyC M) (fun _ t => va_P (eD E) vwCl (Wd (eC E) z LyC M) t.heap) (eA E)) (([.ref (z + (s + 1)), .int (jI x1)] : List Value).toArray) sM 0 0 (eA E)) (F0 m 4 ls []) := by
    intro n4
    induction n4 with
    | zero =>
      intro x2 x3 hx2 hx3 H locs ls h hM hl
      exact absurd h (by simp [f_X3_shotsOf_L4])
    | succ n4 ih4 =>
      intro x2 x3 hx2 hx3 H locs ls h hM hl
      rw [f_X3_shotsOf_L4] at h
      refine r_iload_n C dX3_shotsOf_4 rfl hl 3 rfl ?_
      refine r_aload_n C dX3_shotsOf_5 rfl hl 0 rfl ?_
      refine r_getI C hM jc3 0 rfl dX3_shotsOf_6 lk_X3_9 (ls_1 hs).1 (ls_1 hs).2 rfl rfl (by decide) rfl ?_
      refine r_icmp_ge C 31 hx3 (hM.ok _ _) dX3_shotsOf_9 (by decide) (fun cq => ?_) (fun cq => ?_)
      · replace h := ifp cq h
        refine r_iload_n C dX3_shotsOf_31 rfl hl 2 rfl ?_
        exact r_ireturn C hM hr hlk hx2 h rfl dX3_shotsOf_32
      · replace h := ifn cq h
        refine r_aload_n C dX3_shotsOf_12 rfl hl 0 rfl ?_
        refine r_getR C hM jc3 1 (s + 2) dX3_shotsOf_13 lk_X3_15 (ls_1 hs).1 (ls_1 hs).2 rfl rfl (by decide) rfl ?_
        refine r_iload_n C dX3_shotsOf_16 rfl hl 3 rfl ?_
        replace h := ck_some h
        obtain ⟨hc1, h⟩ := h
        refine r_iald C hM rfl dX3_shotsOf_17 (ls_2 hs).1 (ls_2 hs).2 hc1 hx3 ?_
        refine r_iload_n C dX3_shotsOf_18 rfl hl 1 rfl ?_
        refine r_icmp_ne C 25 (hM.ok _ _) hx1 dX3_shotsOf_19 (by decide) (fun cq => ?_) (fun cq => ?_)
        · replace h := ifn cq h
          replace h := ck_some h
          obtain ⟨hc2, h⟩ := h
          refine r_iinc (j := 3) (x := x3) C [(3, .int (jI (x3 + 1))), (0, .ref (z + (s + 1))), (1, .int (jI x1)), (2, .int (jI x2))] dX3_shotsOf_25 hl rfl (by decide) rfl (fun ls hl => ?_)
          refine r_goto C 4 dX3_shotsOf_28 (by decide) ?_
          exact ih4 _ _ hx2 hc2 _ _ _ h hM (lv_sub hl [1, 2, 3, 0] rfl)
        · replace h := ifp cq h
          replace h := ck_some h
          obtain ⟨hc3, h⟩ := h
          refine r_iinc (j := 2) (x := x2) C [(2, .int (jI (x2 + 1))), (0, .ref (z + (s + 1))), (1, .int (jI x1)), (3, .int (jI x3))] dX3_shotsOf_22 hl rfl (by decide) rfl (fun ls hl => ?_)
          replace h := ck_some h
          obtain ⟨hc4, h⟩ := h
          refine r_iinc (j := 3) (x := x3) C [(3, .int (jI (x3 + 1))), (2, .int (jI (x2 + 1))), (0, .ref (z + (s + 1))), (1, .int (jI x1))] dX3_shotsOf_25 hl rfl (by decide) rfl (fun ls hl => ?_)
          refine r_goto C 4 dX3_shotsOf_28 (by decide) ?_
          exact ih4 _ _ hc3 hc4 _ _ _ h hM (lv_sub hl [2, 3, 1, 0] rfl)
  exact hL4 jFuel _ _ ⟨by decide, by decide⟩ ⟨by decide, by decide⟩ _ _ _ h hM0 (lv_sub hl [2, 3, 1, 0] rfl)
set_option maxRecDepth 100000 in
set_option maxHeartbeats 4000000 in
theorem c_X3_isBanned (l : Launch) (E : jE) (z : Nat) {s : Nat} {x1 : Int} {x2 : Int} {M : Mem} {r : Int} (hs : isSt s) (hx1 : inR x1) (hx2 : inR x2) (h : f_X3_isBanned s x1 x2 M = some r) : CtI l yX3_isBanned cX3_isBanned 4 (some .boolean) { frames := 0, cells := 0, slots := 0, locals := 0 } E z LyC [.ref (z + (s + 1)), .int (jI x1), .int (jI x2)] M r M := by
  refine jm (by decide +kernel) (Nat.le_of_ble_eq_true rfl) ?_
  intro p e sM m below meth c C hM0 hr hlk ls hl
  replace hl : lv_has ls 4 [(0, .ref (z + (s + 1))), (1, .int (jI x1)), (2, .int (jI x2))] := hl
  unfold f_X3_isBanned at h
  refine r_iconst C dX3_isBanned_0 ?_
  refine r_istore_n C [(3, .int (jI 0)), (0, .ref (z + (s + 1))), (1, .int (jI x1)), (2, .int (jI x2))] dX3_isBanned_1 rfl hl (by decide) rfl (fun ls hl => ?_)
  have hL2 : ∀ n2 : Nat, ∀ (x3 : Int), inR x3 → ∀ (H : Heap) (locs : List Loc) (ls : Array Slot), f_X3_isBanned_L2 s x1 x2 M n2  x3 = some r → HS E z LyC M sM H locs → lv_has ls 4 [(0, .ref (z + (s + 1))), (1, .int (jI x1)), (2, .int (jI x2)), (3, .int (jI x3))] → W p l e ({ frames := 0, cells := 0, slots := 0, locals := 0 } : Room) sM m (([.ref (z + (s + 1)), .int (jI x1), .int (jI x2)] : List Value).toArray) below meth c H locs 0 0 (MQ below (va_Qi (fun (w : Int32) (_ : Unit) => w = jI r ∧ inR r ∧ Mok LyC M) (fun _ t => va_P (eD E) vwCl (Wd (eC E) z LyC M) t.heap) (eA E)) (([.ref (z + (s + 1)), .int (jI x1), .int (jI x2)] : List Value).toArray) sM 0 0 (eA E)) (F0 m 2 ls []) := by
    intro n2
    induction n2 with
    | zero =>
      intro x3 hx3 H locs ls h hM hl
      exact absurd h (by simp [f_X3_isBanned_L2])
    | succ n2 ih2 =>
      intro x3 hx3 H locs ls h hM hl
      rw [f_X3_isBanned_L2] at h
      refine r_iload_n C dX3_isBanned_2 rfl hl 3 rfl ?_
      refine r_aload_n C dX3_isBanned_3 rfl hl 0 rfl ?_
      refine r_getI C hM jc3 6 rfl dX3_isBanned_4 lk_X3_32 (ls_1 hs).1 (ls_1 hs).2 rfl rfl (by decide) rfl ?_
      refine r_icmp_ge C 48 hx3 (hM.ok _ _) dX3_isBanned_7 (by decide) (fun cq => ?_) (fun cq => ?_)
      · replace h := ifp cq h
        refine r_iconst C dX3_isBanned_48 ?_
        exact r_zreturn C hM hr hlk (Or.inl rfl) h rfl dX3_isBanned_49
      · replace h := ifn cq h
        refine r_aload_n C dX3_isBanned_10 rfl hl 0 rfl ?_
        refine r_getR C hM jc3 7 (s + 6) dX3_isBanned_11 lk_X3_35 (ls_1 hs).1 (ls_1 hs).2 rfl rfl (by decide) rfl ?_
        refine r_iload_n C dX3_isBanned_14 rfl hl 3 rfl ?_
        replace h := ck_some h
        obtain ⟨hc1, h⟩ := h
        refine r_iald C hM rfl dX3_isBanned_15 (ls_6 hs).1 (ls_6 hs).2 hc1 hx3 ?_
        refine r_iload_n C dX3_isBanned_16 rfl hl 1 rfl ?_
        refine r_icmp_ne C 42 (hM.ok _ _) hx1 dX3_isBanned_17 (by decide) (fun cq => ?_) (fun cq => ?_)
        · replace h := ifn cq h
          replace h := ck_some h
          obtain ⟨hc2, h⟩ := h
          refine r_iinc (j := 3) (x := x3) C [(3, .int (jI (x3 + 1))), (0, .ref (z + (s + 1))), (1, .int (jI x1)), (2, .int (jI x2))] dX3_isBanned_42 hl rfl (by decide) rfl (fun ls hl => ?_)
          refine r_goto C 2 dX3_isBanned_45 (by decide) ?_
          exact ih2 _ hc2 _ _ _ h hM (lv_sub hl [1, 2, 3, 0] rfl)
        · replace h := ifp cq h
          refine r_aload_n C dX3_isBanned_20 rfl hl 0 rfl ?_
          refine r_getR C hM jc3 8 (s + 7) dX3_isBanned_21 lk_X3_38 (ls_1 hs).1 (ls_1 hs).2 rfl rfl (by decide) rfl ?_
          refine r_iload_n C dX3_isBanned_24 rfl hl 3 rfl ?_
          refine r_iald C hM rfl dX3_isBanned_25 (ls_7 hs).1 (ls_7 hs).2 hc1 hx3 ?_
          refine r_iload_n C dX3_isBanned_26 rfl hl 2 rfl ?_
          refine r_icmp_gt C 42 (hM.ok _ _) hx2 dX3_isBanned_27 (by decide) (fun cq => ?_) (fun cq => ?_)
          · replace h := ifp cq h
            replace h := ck_some h
            obtain ⟨hc3, h⟩ := h
            refine r_iinc (j := 3) (x := x3) C [(3, .int (jI (x3 + 1))), (0, .ref (z + (s + 1))), (1, .int (jI x1)), (2, .int (jI x2))] dX3_isBanned_42 hl rfl (by decide) rfl (fun ls hl => ?_)
            refine r_goto C 2 dX3_isBanned_45 (by decide) ?_
            exact ih2 _ hc3 _ _ _ h hM (lv_sub hl [1, 2, 3, 0] rfl)
          · replace h := ifn cq h
            refine r_iload_n C dX3_isBanned_30 rfl hl 2 rfl ?_
            refine r_aload_n C dX3_isBanned_31 rfl hl 0 rfl ?_
            refine r_getR C hM jc3 9 (s + 8) dX3_isBanned_32 lk_X3_41 (ls_1 hs).1 (ls_1 hs).2 rfl rfl (by decide) rfl ?_
            refine r_iload_n C dX3_isBanned_35 rfl hl 3 rfl ?_
            refine r_iald C hM rfl dX3_isBanned_36 (ls_8 hs).1 (ls_8 hs).2 hc1 hx3 ?_
            refine r_icmp_gt C 42 hx2 (hM.ok _ _) dX3_isBanned_37 (by decide) (fun cq => ?_) (fun cq => ?_)
            · replace h := ifp cq h
              replace h := ck_some h
              obtain ⟨hc4, h⟩ := h
              refine r_iinc (j := 3) (x := x3) C [(3, .int (jI (x3 + 1))), (0, .ref (z + (s + 1))), (1, .int (jI x1)), (2, .int (jI x2))] dX3_isBanned_42 hl rfl (by decide) rfl (fun ls hl => ?_)
              refine r_goto C 2 dX3_isBanned_45 (by decide) ?_
              exact ih2 _ hc4 _ _ _ h hM (lv_sub hl [1, 2, 3, 0] rfl)
            · replace h := ifn cq h
              refine r_iconst C dX3_isBanned_40 ?_
              exact r_zreturn C hM hr hlk (Or.inr rfl) h rfl dX3_isBanned_41
  exact hL2 jFuel _ ⟨by decide, by decide⟩ _ _ _ h hM0 (lv_sub hl [1, 2, 3, 0] rfl)
set_option maxRecDepth 100000 in
set_option maxHeartbeats 4000000 in
theorem c_X3_allowedShots (l : Launch) (E : jE) (z : Nat) {s : Nat} {x1 : Int} {M : Mem} {r : Int} (hs : isSt s) (hx1 : inR x1) (h : f_X3_allowedShots s x1 M = some r) : CtI l yX3_allowedShots cX3_allowedShots 4 (some .int) { frames := 1, cells := 0, slots := 0, locals := 23 } E z LyC [.ref (z + (s + 1)), .int (jI x1)] M r M := by
  refine jm (by decide +kernel) (Nat.le_of_ble_eq_true rfl) ?_
  intro p e sM m below meth c C hM0 hr hlk ls hl
  replace hl : lv_has ls 4 [(0, .ref (z + (s + 1))), (1, .int (jI x1))] := hl
  unfold f_X3_allowedShots at h
  refine r_iconst C dX3_allowedShots_0 ?_
  refine r_istore_n C [(2, .int (jI 0)), (0, .ref (z + (s + 1))), (1, .int (jI x1))] dX3_allowedShots_1 rfl hl (by decide) rfl (fun ls hl => ?_)
  refine r_iconst C dX3_allowedShots_2 ?_
  refine r_istore_n C [(3, .int (jI 0)), (2, .int (jI 0)), (0, .ref (z + (s + 1))), (1, .int (jI x1))] dX3_allowedShots_3 rfl hl (by decide) rfl (fun ls hl => ?_)
  have hL4 : ∀ n4 : Nat, ∀ (x2 : Int) (x3 : Int), inR x2 → inR x3 → ∀ (H : Heap) (locs : List Loc) (ls : Array Slot), f_X3_allowedShots_L4 s x1 M n4  x2 x3 = some r → HS E z LyC M sM H locs → lv_has ls 4 [(0, .ref (z + (s + 1))), (1, .int (jI x1)), (2, .int (jI x2)), (3, .int (jI x3))] → W p l e ({ frames := 1, cells := 0, slots := 0, locals := 23 } : Room) sM m (([.ref (z + (s + 1)), .int (jI x1)] : List Value).toArray) below meth c H locs 0 0 (MQ below (va_Qi (fun (w : Int32) (_ : Unit) => w = jI r ∧ inR r ∧ Mok LyC M) (fun _ t => va_P (eD E) vwCl (Wd (eC E) z LyC M) t.heap) (eA E)) (([.ref (z + (s + 1)), .int (jI x1)] : List Value).toArray) sM 0 0 (eA E)) (F0 m 4 ls []) := by
    intro n4
    induction n4 with
    | zero =>
      intro x2 x3 hx2 hx3 H locs ls h hM hl
      exact absurd h (by simp [f_X3_allowedShots_L4])
    | succ n4 ih4 =>
      intro x2 x3 hx2 hx3 H locs ls h hM hl
      rw [f_X3_allowedShots_L4] at h
      refine r_iload_n C dX3_allowedShots_4 rfl hl 3 rfl ?_
      refine r_aload_n C dX3_allowedShots_5 rfl hl 0 rfl ?_
      refine r_getI C hM jc3 0 rfl dX3_allowedShots_6 lk_X3_9 (ls_1 hs).1 (ls_1 hs).2 rfl rfl (by decide) rfl ?_
      refine r_icmp_ge C 38 hx3 (hM.ok _ _) dX3_allowedShots_9 (by decide) (fun cq => ?_) (fun cq => ?_)
      · replace h := ifp cq h
        refine r_iload_n C dX3_allowedShots_38 rfl hl 2 rfl ?_
        exact r_ireturn C hM hr hlk hx2 h rfl dX3_allowedShots_39
      · replace h := ifn cq h
        refine r_aload_n C dX3_allowedShots_12 rfl hl 0 rfl ?_
        refine r_aload_n C dX3_allowedShots_13 rfl hl 0 rfl ?_
        refine r_getR C hM jc3 1 (s + 2) dX3_allowedShots_14 lk_X3_15 (ls_1 hs).1 (ls_1 hs).2 rfl rfl (by decide) rfl ?_
        refine r_iload_n C dX3_allowedShots_17 rfl hl 3 rfl ?_
        replace h := ck_some h
        obtain ⟨hc1, h⟩ := h
        refine r_iald C hM rfl dX3_allowedShots_18 (ls_2 hs).1 (ls_2 hs).2 hc1 hx3 ?_
        refine r_iload_n C dX3_allowedShots_19 rfl hl 1 rfl ?_
        replace h := bd_some h
        obtain ⟨r20, hf20, h⟩ := h
        refine r_callI (As := [.int (jI (M (s + 2) x3.toNat)), .int (jI x1)]) (rest := []) C hM (c_X3_isBanned l E z hs (hM.ok _ _) hx1 hf20) jy_X3_isBanned lk_X3_60 dX3_allowedShots_20 (recvW C hM jc3 (ls_1 hs).1 (ls_1 hs).2 rfl) rfl rfl hl.1 (Nat.le_of_ble_eq_true rfl) ⟨Nat.le_of_ble_eq_true rfl, Nat.le_of_ble_eq_true rfl⟩ ⟨rfl, rfl⟩ ⟨Nat.zero_le _, Nat.zero_le _⟩ (fun H locs hr20 hM2 => ?_)
        refine r_if_ne C 32 hr20 dX3_allowedShots_23 (by decide) (fun cq => ?_) (fun cq => ?_)
        · replace h := ifn cq h
          replace h := ck_some h
          obtain ⟨hc3, h⟩ := h
          refine r_iinc (j := 3) (x := x3) C [(3, .int (jI (x3 + 1))), (0, .ref (z + (s + 1))), (1, .int (jI x1)), (2, .int (jI x2))] dX3_allowedShots_32 hl rfl (by decide) rfl (fun ls hl => ?_)
          refine r_goto C 4 dX3_allowedShots_35 (by decide) ?_
          exact ih4 _ _ hx2 hc3 _ _ _ h hM2 (lv_sub hl [1, 2, 3, 0] rfl)
        · replace h := ifp cq h
          refine r_iload_n C dX3_allowedShots_26 rfl hl 2 rfl ?_
          refine r_iconst C dX3_allowedShots_27 ?_
          refine r_iload_n C dX3_allowedShots_28 rfl hl 3 rfl ?_
          refine r_ishl C dX3_allowedShots_29 ?_
          refine r_ior C dX3_allowedShots_30 ?_
          refine r_istore_n C [(2, .int (jI (ior x2 (ishl 1 x3)))), (0, .ref (z + (s + 1))), (1, .int (jI x1)), (3, .int (jI x3))] dX3_allowedShots_31 rfl hl (by decide) rfl (fun ls hl => ?_)
          replace h := ck_some h
          obtain ⟨hc4, h⟩ := h
          refine r_iinc (j := 3) (x := x3) C [(3, .int (jI (x3 + 1))), (2, .int (jI (ior x2 (ishl 1 x3)))), (0, .ref (z + (s + 1))), (1, .int (jI x1))] dX3_allowedShots_32 hl rfl (by decide) rfl (fun ls hl => ?_)
          refine r_goto C 4 dX3_allowedShots_35 (by decide) ?_
          exact ih4 _ _ (ior_R _ _) hc4 _ _ _ h hM2 (lv_sub hl [2, 3, 1, 0] rfl)
  exact hL4 jFuel _ _ ⟨by decide, by decide⟩ ⟨by decide, by decide⟩ _ _ _ h hM0 (lv_sub hl [2, 3, 1, 0] rfl)
set_option maxRecDepth 100000 in
set_option maxHeartbeats 4000000 in
theorem c_X3_isName (l : Launch) (E : jE) (z : Nat) {s : Nat} {x1 : Int} {b2 : Nat} {x3 : Int} {x4 : Int} {M : Mem} {r : Int} (hs : isSt s) (hx1 : inR x1) (hb2 : b2 < LyC.1 ∧ LyC.2 b2 = (21, 500)) (hx3 : inR x3) (hx4 : inR x4) (h : f_X3_isName s x1 b2 x3 x4 M = some r) : CtI l yX3_isName cX3_isName 6 (some .boolean) { frames := 0, cells := 0, slots := 0, locals := 0 } E z LyC [.ref (z + (s + 1)), .int (jI x1), .ref (z + b2), .int (jI x3), .int (jI x4)] M r M := by
  refine jm (by decide +kernel) (Nat.le_of_ble_eq_true rfl) ?_
  intro p e sM m below meth c C hM0 hr hlk ls hl
  replace hl : lv_has ls 6 [(0, .ref (z + (s + 1))), (1, .int (jI x1)), (2, .ref (z + b2)), (3, .int (jI x3)), (4, .int (jI x4))] := hl
  unfold f_X3_isName at h
  refine r_iload C dX3_isName_0 hl 4 rfl ?_
  refine r_aload_n C dX3_isName_2 rfl hl 0 rfl ?_
  refine r_getR C hM0 jc3 5 (s + 5) dX3_isName_3 lk_X3_29 (ls_1 hs).1 (ls_1 hs).2 rfl rfl (by decide) rfl ?_
  refine r_iload_n C dX3_isName_6 rfl hl 1 rfl ?_
  replace h := ck_some h
  obtain ⟨hc1, h⟩ := h
  refine r_iald C hM0 rfl dX3_isName_7 (ls_5 hs).1 (ls_5 hs).2 hc1 hx1 ?_
  refine r_icmp_ne C 24 hx4 (hM0.ok _ _) dX3_isName_8 (by decide) (fun cq => ?_) (fun cq => ?_)
  · replace h := ifn cq h
    refine r_iconst C dX3_isName_24 ?_
    exact r_zreturn C hM0 hr hlk (Or.inl rfl) h rfl dX3_isName_25
  · replace h := ifp cq h
    refine r_iload_n C dX3_isName_11 rfl hl 3 rfl ?_
    refine r_if_lt C 24 hx3 dX3_isName_12 (by decide) (fun cq => ?_) (fun cq => ?_)
    · replace h := ifp cq h
      refine r_iconst C dX3_isName_24 ?_
      exact r_zreturn C hM0 hr hlk (Or.inl rfl) h rfl dX3_isName_25
    · replace h := ifn cq h
      refine r_iload C dX3_isName_15 hl 4 rfl ?_
      refine r_aload_n C dX3_isName_17 rfl hl 2 rfl ?_
      refine r_alen C hM0 dX3_isName_18 hb2.1 hb2.2 (by decide) ?_
      refine r_iload_n C dX3_isName_19 rfl hl 3 rfl ?_
      replace h := ck_some h
      obtain ⟨hc2, h⟩ := h
      refine r_isub C dX3_isName_20 ?_
      refine r_icmp_le C 26 hx4 hc2 dX3_isName_21 (by decide) (fun cq => ?_) (fun cq => ?_)
      · replace h := ifp cq h
        refine r_iconst C dX3_isName_26 ?_
        refine r_istore C [(5, .int (jI 0)), (0, .ref (z + (s + 1))), (1, .int (jI x1)), (2, .ref (z + b2)), (3, .int (jI x3)), (4, .int (jI x4))] dX3_isName_27 hl (by decide) rfl (fun ls hl => ?_)
        have hL29 : ∀ n29 : Nat, ∀ (x5 : Int), inR x5 → ∀ (H : Heap) (locs : List Loc) (ls : Array Slot), f_X3_isName_L29 s b2 x1 x3 x4 M n29  x5 = some r → HS E z LyC M sM H locs → lv_has ls 6 [(0, .ref (z + (s + 1))), (1, .int (jI x1)), (2, .ref (z + b2)), (3, .int (jI x3)), (4, .int (jI x4)), (5, .int (jI x5))] → W p l e ({ frames := 0, cells := 0, slots := 0, locals := 0 } : Room) sM m (([.ref (z + (s + 1)), .int (jI x1), .ref (z + b2), .int (jI x3), .int (jI x4)] : List Value).toArray) below meth c H locs 0 0 (MQ below (va_Qi (fun (w : Int32) (_ : Unit) => w = jI r ∧ inR r ∧ Mok LyC M) (fun _ t => va_P (eD E) vwCl (Wd (eC E) z LyC M) t.heap) (eA E)) (([.ref (z + (s + 1)), .int (jI x1), .ref (z + b2), .int (jI x3), .int (jI x4)] : List Value).toArray) sM 0 0 (eA E)) (F0 m 29 ls []) := by
          intro n29
          induction n29 with
          | zero =>
            intro x5 hx5 H locs ls h hM hl
            exact absurd h (by simp [f_X3_isName_L29])
          | succ n29 ih29 =>
            intro x5 hx5 H locs ls h hM hl
            rw [f_X3_isName_L29] at h
            refine r_iload C dX3_isName_29 hl 5 rfl ?_
            refine r_iload C dX3_isName_31 hl 4 rfl ?_
            refine r_icmp_ge C 65 hx5 hx4 dX3_isName_33 (by decide) (fun cq => ?_) (fun cq => ?_)
            · replace h := ifp cq h
              refine r_iconst C dX3_isName_65 ?_
              exact r_zreturn C hM hr hlk (Or.inr rfl) h rfl dX3_isName_66
            · replace h := ifn cq h
              refine r_aload_n C dX3_isName_36 rfl hl 2 rfl ?_
              refine r_iload_n C dX3_isName_37 rfl hl 3 rfl ?_
              refine r_iload C dX3_isName_38 hl 5 rfl ?_
              replace h := ck_some h
              obtain ⟨hc3, h⟩ := h
              refine r_iadd C dX3_isName_40 ?_
              replace h := ck_some h
              obtain ⟨hc4, h⟩ := h
              refine r_bald C hM rfl dX3_isName_41 hb2.1 hb2.2 hc4 hc3 ?_
              refine r_aload_n C dX3_isName_42 rfl hl 0 rfl ?_
              refine r_getR C hM jc3 4 (s + 4) dX3_isName_43 lk_X3_25 (ls_1 hs).1 (ls_1 hs).2 rfl rfl (by decide) rfl ?_
              refine r_iload_n C dX3_isName_46 rfl hl 1 rfl ?_
              refine r_bipush C dX3_isName_47 rfl ?_
              replace h := ck_some h
              obtain ⟨hc5, h⟩ := h
              refine r_imul C dX3_isName_49 ?_
              refine r_iload C dX3_isName_50 hl 5 rfl ?_
              replace h := ck_some h
              obtain ⟨hc6, h⟩ := h
              refine r_iadd C dX3_isName_52 ?_
              replace h := ck_some h
              obtain ⟨hc7, h⟩ := h
              refine r_bald C hM rfl dX3_isName_53 (ls_4 hs).1 (ls_4 hs).2 hc7 hc6 ?_
              refine r_icmp_eq C 59 (hM.ok _ _) (hM.ok _ _) dX3_isName_54 (by decide) (fun cq => ?_) (fun cq => ?_)
              · replace h := ifp cq h
                replace h := ck_some h
                obtain ⟨hc8, h⟩ := h
                refine r_iinc (j := 5) (x := x5) C [(5, .int (jI (x5 + 1))), (0, .ref (z + (s + 1))), (1, .int (jI x1)), (2, .ref (z + b2)), (3, .int (jI x3)), (4, .int (jI x4))] dX3_isName_59 hl rfl (by decide) rfl (fun ls hl => ?_)
                refine r_goto C 29 dX3_isName_62 (by decide) ?_
                exact ih29 _ hc8 _ _ _ h hM (lv_sub hl [1, 2, 3, 4, 5, 0] rfl)
              · replace h := ifn cq h
                refine r_iconst C dX3_isName_57 ?_
                exact r_zreturn C hM hr hlk (Or.inl rfl) h rfl dX3_isName_58
        exact hL29 jFuel _ ⟨by decide, by decide⟩ _ _ _ h hM0 (lv_sub hl [1, 2, 3, 4, 5, 0] rfl)
      · replace h := ifn cq h
        refine r_iconst C dX3_isName_24 ?_
        exact r_zreturn C hM0 hr hlk (Or.inl rfl) h rfl dX3_isName_25
set_option maxRecDepth 100000 in
set_option maxHeartbeats 4000000 in
theorem c_X3_mapNamed (l : Launch) (E : jE) (z : Nat) {s : Nat} {b1 : Nat} {x2 : Int} {x3 : Int} {M : Mem} {r : Int} (hs : isSt s) (hb1 : b1 < LyC.1 ∧ LyC.2 b1 = (21, 500)) (hx2 : inR x2) (hx3 : inR x3) (h : f_X3_mapNamed s b1 x2 x3 M = some r) : CtI l yX3_mapNamed cX3_mapNamed 5 (some .int) { frames := 1, cells := 0, slots := 0, locals := 25 } E z LyC [.ref (z + (s + 1)), .ref (z + b1), .int (jI x2), .int (jI x3)] M r M := by
  refine jm (by decide +kernel) (Nat.le_of_ble_eq_true rfl) ?_
  intro p e sM m below meth c C hM0 hr hlk ls hl
  replace hl : lv_has ls 5 [(0, .ref (z + (s + 1))), (1, .ref (z + b1)), (2, .int (jI x2)), (3, .int (jI x3))] := hl
  unfold f_X3_mapNamed at h
  refine r_iconst C dX3_mapNamed_0 ?_
  refine r_istore C [(4, .int (jI 0)), (0, .ref (z + (s + 1))), (1, .ref (z + b1)), (2, .int (jI x2)), (3, .int (jI x3))] dX3_mapNamed_1 hl (by decide) rfl (fun ls hl => ?_)
  have hL3 : ∀ n3 : Nat, ∀ (x4 : Int), inR x4 → ∀ (H : Heap) (locs : List Loc) (ls : Array Slot), f_X3_mapNamed_L3 s b1 x2 x3 M n3  x4 = some r → HS E z LyC M sM H locs → lv_has ls 5 [(0, .ref (z + (s + 1))), (1, .ref (z + b1)), (2, .int (jI x2)), (3, .int (jI x3)), (4, .int (jI x4))] → W p l e ({ frames := 1, cells := 0, slots := 0, locals := 25 } : Room) sM m (([.ref (z + (s + 1)), .ref (z + b1), .int (jI x2), .int (jI x3)] : List Value).toArray) below meth c H locs 0 0 (MQ below (va_Qi (fun (w : Int32) (_ : Unit) => w = jI r ∧ inR r ∧ Mok LyC M) (fun _ t => va_P (eD E) vwCl (Wd (eC E) z LyC M) t.heap) (eA E)) (([.ref (z + (s + 1)), .ref (z + b1), .int (jI x2), .int (jI x3)] : List Value).toArray) sM 0 0 (eA E)) (F0 m 3 ls []) := by
    intro n3
    induction n3 with
    | zero =>
      intro x4 hx4 H locs ls h hM hl
      exact absurd h (by simp [f_X3_mapNamed_L3])
    | succ n3 ih3 =>
      intro x4 hx4 H locs ls h hM hl
      rw [f_X3_mapNamed_L3] at h
      refine r_iload C dX3_mapNamed_3 hl 4 rfl ?_
      refine r_aload_n C dX3_mapNamed_5 rfl hl 0 rfl ?_
      refine r_getI C hM jc3 3 rfl dX3_mapNamed_6 lk_X3_22 (ls_1 hs).1 (ls_1 hs).2 rfl rfl (by decide) rfl ?_
      refine r_icmp_ge C 33 hx4 (hM.ok _ _) dX3_mapNamed_9 (by decide) (fun cq => ?_) (fun cq => ?_)
      · replace h := ifp cq h
        refine r_iconst C dX3_mapNamed_33 ?_
        exact r_ireturn C hM hr hlk ⟨by decide, by decide⟩ h rfl dX3_mapNamed_34
      · replace h := ifn cq h
        refine r_aload_n C dX3_mapNamed_12 rfl hl 0 rfl ?_
        refine r_iload C dX3_mapNamed_13 hl 4 rfl ?_
        refine r_aload_n C dX3_mapNamed_15 rfl hl 1 rfl ?_
        refine r_iload_n C dX3_mapNamed_16 rfl hl 2 rfl ?_
        refine r_iload_n C dX3_mapNamed_17 rfl hl 3 rfl ?_
        replace h := bd_some h
        obtain ⟨r18, hf18, h⟩ := h
        refine r_callI (As := [.int (jI x4), .ref (z + b1), .int (jI x2), .int (jI x3)]) (rest := []) C hM (c_X3_isName l E z hs hx4 hb1 hx2 hx3 hf18) jy_X3_isName lk_X3_64 dX3_mapNamed_18 (recvW C hM jc3 (ls_1 hs).1 (ls_1 hs).2 rfl) rfl rfl hl.1 (Nat.le_of_ble_eq_true rfl) ⟨Nat.le_of_ble_eq_true rfl, Nat.le_of_ble_eq_true rfl⟩ ⟨rfl, rfl⟩ ⟨Nat.zero_le _, Nat.zero_le _⟩ (fun H locs hr18 hM1 => ?_)
        refine r_if_eq C 27 hr18 dX3_mapNamed_21 (by decide) (fun cq => ?_) (fun cq => ?_)
        · replace h := ifp cq h
          replace h := ck_some h
          obtain ⟨hc2, h⟩ := h
          refine r_iinc (j := 4) (x := x4) C [(4, .int (jI (x4 + 1))), (0, .ref (z + (s + 1))), (1, .ref (z + b1)), (2, .int (jI x2)), (3, .int (jI x3))] dX3_mapNamed_27 hl rfl (by decide) rfl (fun ls hl => ?_)
          refine r_goto C 3 dX3_mapNamed_30 (by decide) ?_
          exact ih3 _ hc2 _ _ _ h hM1 (lv_sub hl [1, 2, 3, 4, 0] rfl)
        · replace h := ifn cq h
          refine r_iload C dX3_mapNamed_24 hl 4 rfl ?_
          exact r_ireturn C hM1 hr hlk hx4 h rfl dX3_mapNamed_26
  exact hL3 jFuel _ ⟨by decide, by decide⟩ _ _ _ h hM0 (lv_sub hl [1, 2, 3, 4, 0] rfl)
set_option maxRecDepth 100000 in
set_option maxHeartbeats 4000000 in
theorem c_X3_readBan (l : Launch) (E : jE) (z : Nat) {s : Nat} {M M' : Mem} {r : Int} (hs : isSt s) (h : f_X3_readBan s M = some (r, M')) : CtI l yX3_readBan cX3_readBan 2 (some .boolean) { frames := 3, cells := 0, slots := 0, locals := 63 } E z LyC [.ref (z + (s + 1)), .ref (z + 1)] M r M' := by
  refine jm (by decide +kernel) (Nat.le_of_ble_eq_true rfl) ?_
  intro p e sM m below meth c C hM0 hr hlk ls hl
  replace hl : lv_has ls 2 [(0, .ref (z + (s + 1))), (1, .ref (z + 1))] := hl
  unfold f_X3_readBan at h
  refine r_aload_n C dX3_readBan_0 rfl hl 0 rfl ?_
  refine r_getI C hM0 jc3 6 rfl dX3_readBan_1 lk_X3_32 (ls_1 hs).1 (ls_1 hs).2 rfl rfl (by decide) rfl ?_
  refine r_bipush C dX3_readBan_4 rfl ?_
  refine r_icmp_lt C 15 (hM0.ok _ _) ⟨by decide, by decide⟩ dX3_readBan_6 (by decide) (fun cq => ?_) (fun cq => ?_)
  · replace h := ifp cq h
    refine r_aload_n C dX3_readBan_15 rfl hl 1 rfl ?_
    replace h := bd_some h
    obtain ⟨M16, hf16, h⟩ := h
    refine r_callV (As := []) (rest := []) C hM0 (c_X8_advance l E z hf16) jy_X8_advance lk_X3_124 dX3_readBan_16 (recvW C hM0 jc8 lc_1.1 lc_1.2 rfl) rfl rfl hl.1 (Nat.le_of_ble_eq_true rfl) ⟨Nat.le_of_ble_eq_true rfl, Nat.le_of_ble_eq_true rfl⟩ ⟨rfl, rfl⟩ ⟨Nat.zero_le _, Nat.zero_le _⟩ (fun H locs hM1 => ?_)
    refine r_aload_n C dX3_readBan_19 rfl hl 1 rfl ?_
    refine r_iconst C dX3_readBan_20 ?_
    refine r_iconst C dX3_readBan_21 ?_
    replace h := bd_some h
    obtain ⟨⟨r22, M22⟩, hf22, h⟩ := h
    try dsimp only at h
    refine r_callI (As := [.int (jI 0), .int (jI 5)]) (rest := []) C hM1 (c_X8_takeNumber l E z ⟨by decide, by decide⟩ ⟨by decide, by decide⟩ hf22) jy_X8_takeNumber lk_X3_127 dX3_readBan_22 (recvW C hM1 jc8 lc_1.1 lc_1.2 rfl) rfl rfl hl.1 (Nat.le_of_ble_eq_true rfl) ⟨Nat.le_of_ble_eq_true rfl, Nat.le_of_ble_eq_true rfl⟩ ⟨rfl, rfl⟩ ⟨Nat.zero_le _, Nat.zero_le _⟩ (fun H locs hr22 hM2 => ?_)
    refine r_if_ne C 30 hr22 dX3_readBan_25 (by decide) (fun cq => ?_) (fun cq => ?_)
    · replace h := ifn cq h
      refine r_aload_n C dX3_readBan_30 rfl hl 0 rfl ?_
      refine r_getR C hM2 jc3 7 (s + 6) dX3_readBan_31 lk_X3_35 (ls_1 hs).1 (ls_1 hs).2 rfl rfl (by decide) rfl ?_
      refine r_aload_n C dX3_readBan_34 rfl hl 0 rfl ?_
      refine r_getI C hM2 jc3 6 rfl dX3_readBan_35 lk_X3_32 (ls_1 hs).1 (ls_1 hs).2 rfl rfl (by decide) rfl ?_
      refine r_aload_n C dX3_readBan_38 rfl hl 1 rfl ?_
      refine r_getI C hM2 jc8 6 rfl dX3_readBan_39 lk_X3_130 lc_1.1 lc_1.2 rfl rfl (by decide) rfl ?_
      replace h := ck_some h
      obtain ⟨hc3, h⟩ := h
      refine r_iast C hM2 dX3_readBan_42 (ls_6 hs).1 (ls_6 hs).2 hc3 (hM2.ok _ _) (hM2.ok _ _) (fun H locs hM4 => ?_)
      replace h := lt_some h
      obtain ⟨N5, eN5, h⟩ := h
      rw [← eN5] at hM4
      refine r_aload_n C dX3_readBan_43 rfl hl 1 rfl ?_
      refine r_iconst C dX3_readBan_44 ?_
      refine r_bipush C dX3_readBan_45 rfl ?_
      replace h := bd_some h
      obtain ⟨⟨r47, M47⟩, hf47, h⟩ := h
      try dsimp only at h
      refine r_callI (As := [.int (jI 0), .int (jI 99)]) (rest := []) C hM4 (c_X8_takeNumber l E z ⟨by decide, by decide⟩ ⟨by decide, by decide⟩ hf47) jy_X8_takeNumber lk_X3_127 dX3_readBan_47 (recvW C hM4 jc8 lc_1.1 lc_1.2 rfl) rfl rfl hl.1 (Nat.le_of_ble_eq_true rfl) ⟨Nat.le_of_ble_eq_true rfl, Nat.le_of_ble_eq_true rfl⟩ ⟨rfl, rfl⟩ ⟨Nat.zero_le _, Nat.zero_le _⟩ (fun H locs hr47 hM6 => ?_)
      refine r_if_ne C 55 hr47 dX3_readBan_50 (by decide) (fun cq => ?_) (fun cq => ?_)
      · replace h := ifn cq h
        refine r_aload_n C dX3_readBan_55 rfl hl 0 rfl ?_
        refine r_getR C hM6 jc3 8 (s + 7) dX3_readBan_56 lk_X3_38 (ls_1 hs).1 (ls_1 hs).2 rfl rfl (by decide) rfl ?_
        refine r_aload_n C dX3_readBan_59 rfl hl 0 rfl ?_
        refine r_getI C hM6 jc3 6 rfl dX3_readBan_60 lk_X3_32 (ls_1 hs).1 (ls_1 hs).2 rfl rfl (by decide) rfl ?_
        refine r_aload_n C dX3_readBan_63 rfl hl 1 rfl ?_
        refine r_getI C hM6 jc8 6 rfl dX3_readBan_64 lk_X3_130 lc_1.1 lc_1.2 rfl rfl (by decide) rfl ?_
        replace h := ck_some h
        obtain ⟨hc7, h⟩ := h
        refine r_iast C hM6 dX3_readBan_67 (ls_7 hs).1 (ls_7 hs).2 hc7 (hM6.ok _ _) (hM6.ok _ _) (fun H locs hM8 => ?_)
        replace h := lt_some h
        obtain ⟨N9, eN9, h⟩ := h
        rw [← eN9] at hM8
        refine r_aload_n C dX3_readBan_68 rfl hl 1 rfl ?_
        refine r_aload_n C dX3_readBan_69 rfl hl 0 rfl ?_
        refine r_getR C hM8 jc3 8 (s + 7) dX3_readBan_70 lk_X3_38 (ls_1 hs).1 (ls_1 hs).2 rfl rfl (by decide) rfl ?_
        refine r_aload_n C dX3_readBan_73 rfl hl 0 rfl ?_
        refine r_getI C hM8 jc3 6 (rd_skip eN9 (ne_off (by decide)) rfl) dX3_readBan_74 lk_X3_32 (ls_1 hs).1 (ls_1 hs).2 rfl rfl (by decide) rfl ?_
        refine r_iald C hM8 rfl dX3_readBan_77 (ls_7 hs).1 (ls_7 hs).2 hc7 (hM6.ok _ _) ?_
        refine r_bipush C dX3_readBan_78 rfl ?_
        replace h := bd_some h
        obtain ⟨⟨r80, M80⟩, hf80, h⟩ := h
        try dsimp only at h
        refine r_callI (As := [.int (jI (N9 (s + 7) (M47 (s + 1) 6).toNat)), .int (jI 99)]) (rest := []) C hM8 (c_X8_takeNumber l E z (hM8.ok _ _) ⟨by decide, by decide⟩ hf80) jy_X8_takeNumber lk_X3_127 dX3_readBan_80 (recvW C hM8 jc8 lc_1.1 lc_1.2 rfl) rfl rfl hl.1 (Nat.le_of_ble_eq_true rfl) ⟨Nat.le_of_ble_eq_true rfl, Nat.le_of_ble_eq_true rfl⟩ ⟨rfl, rfl⟩ ⟨Nat.zero_le _, Nat.zero_le _⟩ (fun H locs hr80 hM10 => ?_)
        refine r_if_ne C 88 hr80 dX3_readBan_83 (by decide) (fun cq => ?_) (fun cq => ?_)
        · replace h := ifn cq h
          refine r_aload_n C dX3_readBan_88 rfl hl 0 rfl ?_
          refine r_getR C hM10 jc3 9 (s + 8) dX3_readBan_89 lk_X3_41 (ls_1 hs).1 (ls_1 hs).2 rfl rfl (by decide) rfl ?_
          refine r_aload_n C dX3_readBan_92 rfl hl 0 rfl ?_
          refine r_getI C hM10 jc3 6 rfl dX3_readBan_93 lk_X3_32 (ls_1 hs).1 (ls_1 hs).2 rfl rfl (by decide) rfl ?_
          refine r_aload_n C dX3_readBan_96 rfl hl 1 rfl ?_
          refine r_getI C hM10 jc8 6 rfl dX3_readBan_97 lk_X3_130 lc_1.1 lc_1.2 rfl rfl (by decide) rfl ?_
          replace h := ck_some h
          obtain ⟨hc11, h⟩ := h
          refine r_iast C hM10 dX3_readBan_100 (ls_8 hs).1 (ls_8 hs).2 hc11 (hM10.ok _ _) (hM10.ok _ _) (fun H locs hM12 => ?_)
          replace h := lt_some h
          obtain ⟨N13, eN13, h⟩ := h
          rw [← eN13] at hM12
          refine r_aload_n C dX3_readBan_101 rfl hl 0 rfl ?_
          refine r_dup C dX3_readBan_102 rfl ?_
          refine r_getI C hM12 jc3 6 (rd_skip eN13 (ne_off (by decide)) rfl) dX3_readBan_103 lk_X3_32 (ls_1 hs).1 (ls_1 hs).2 rfl rfl (by decide) rfl ?_
          refine r_iconst C dX3_readBan_106 ?_
          replace h := ck_some h
          obtain ⟨hc14, h⟩ := h
          refine r_iadd C dX3_readBan_107 ?_
          refine r_putI C hM12 jc3 6 hc14 dX3_readBan_108 lk_X3_32 (ls_1 hs).1 (ls_1 hs).2 rfl rfl (by decide) rfl rfl rfl (Nat.le_of_ble_eq_true rfl) (by decide) (fun H locs hM15 => ?_)
          replace h := lt_some h
          obtain ⟨N16, eN16, h⟩ := h
          rw [← eN16] at hM15
          refine r_iconst C dX3_readBan_111 ?_
          exact r_zreturnM C hM15 hr hlk (Or.inr rfl) h dX3_readBan_112
        · replace h := ifp cq h
          refine r_iconst C dX3_readBan_86 ?_
          exact r_zreturnM C hM10 hr hlk (Or.inl rfl) h dX3_readBan_87
      · replace h := ifp cq h
        refine r_iconst C dX3_readBan_53 ?_
        exact r_zreturnM C hM6 hr hlk (Or.inl rfl) h dX3_readBan_54
    · replace h := ifp cq h
      refine r_iconst C dX3_readBan_28 ?_
      exact r_zreturnM C hM2 hr hlk (Or.inl rfl) h dX3_readBan_29
  · replace h := ifn cq h
    refine r_aload_n C dX3_readBan_9 rfl hl 1 rfl ?_
    refine r_iconst C dX3_readBan_10 ?_
    replace h := bd_some h
    obtain ⟨⟨r11, M11⟩, hf11, h⟩ := h
    try dsimp only at h
    refine r_callI (As := [.int (jI 4)]) (rest := []) C hM0 (c_X8_fail l E z ⟨by decide, by decide⟩ hf11) jy_X8_fail lk_X3_107 dX3_readBan_11 (recvW C hM0 jc8 lc_1.1 lc_1.2 rfl) rfl rfl hl.1 (Nat.le_of_ble_eq_true rfl) ⟨Nat.le_of_ble_eq_true rfl, Nat.le_of_ble_eq_true rfl⟩ ⟨rfl, rfl⟩ ⟨Nat.zero_le _, Nat.zero_le _⟩ (fun H locs hr11 hM17 => ?_)
    replace h := ck_some h
    obtain ⟨hc18, h⟩ := h
    exact r_zreturnM C hM17 hr hlk hc18 h dX3_readBan_14
set_option maxRecDepth 100000 in
set_option maxHeartbeats 4000000 in
theorem c_X3_readName (l : Launch) (E : jE) (z : Nat) {s : Nat} {M M' : Mem} {r : Int} (hs : isSt s) (h : f_X3_readName s M = some (r, M')) : CtI l yX3_readName cX3_readName 3 (some .boolean) { frames := 2, cells := 0, slots := 0, locals := 49 } E z LyC [.ref (z + (s + 1)), .ref (z + 1)] M r M' := by
  refine jm (by decide +kernel) (Nat.le_of_ble_eq_true rfl) ?_
  intro p e sM m below meth c C hM0 hr hlk ls hl
  replace hl : lv_has ls 3 [(0, .ref (z + (s + 1))), (1, .ref (z + 1))] := hl
  unfold f_X3_readName at h
  refine r_aload_n C dX3_readName_0 rfl hl 0 rfl ?_
  refine r_getI C hM0 jc3 3 rfl dX3_readName_1 lk_X3_22 (ls_1 hs).1 (ls_1 hs).2 rfl rfl (by decide) rfl ?_
  refine r_bipush C dX3_readName_4 rfl ?_
  refine r_icmp_lt C 15 (hM0.ok _ _) ⟨by decide, by decide⟩ dX3_readName_6 (by decide) (fun cq => ?_) (fun cq => ?_)
  · replace h := ifp cq h
    refine r_aload_n C dX3_readName_15 rfl hl 1 rfl ?_
    replace h := bd_some h
    obtain ⟨M16, hf16, h⟩ := h
    refine r_callV (As := []) (rest := []) C hM0 (c_X8_advance l E z hf16) jy_X8_advance lk_X3_124 dX3_readName_16 (recvW C hM0 jc8 lc_1.1 lc_1.2 rfl) rfl rfl hl.1 (Nat.le_of_ble_eq_true rfl) ⟨Nat.le_of_ble_eq_true rfl, Nat.le_of_ble_eq_true rfl⟩ ⟨rfl, rfl⟩ ⟨Nat.zero_le _, Nat.zero_le _⟩ (fun H locs hM1 => ?_)
    refine r_aload_n C dX3_readName_19 rfl hl 1 rfl ?_
    refine r_getI C hM1 jc8 2 rfl dX3_readName_20 lk_X3_73 lc_1.1 lc_1.2 rfl rfl (by decide) rfl ?_
    refine r_iconst C dX3_readName_23 ?_
    refine r_icmp_eq C 33 (hM1.ok _ _) ⟨by decide, by decide⟩ dX3_readName_24 (by decide) (fun cq => ?_) (fun cq => ?_)
    · replace h := ifp cq h
      refine r_aload_n C dX3_readName_33 rfl hl 1 rfl ?_
      replace h := bd_some h
      obtain ⟨r34, hf34, h⟩ := h
      refine r_callI (As := []) (rest := []) C hM1 (c_X8_size l E z hf34) jy_X8_size lk_X3_133 dX3_readName_34 (recvW C hM1 jc8 lc_1.1 lc_1.2 rfl) rfl rfl hl.1 (Nat.le_of_ble_eq_true rfl) ⟨Nat.le_of_ble_eq_true rfl, Nat.le_of_ble_eq_true rfl⟩ ⟨rfl, rfl⟩ ⟨Nat.zero_le _, Nat.zero_le _⟩ (fun H locs hr34 hM2 => ?_)
      refine r_istore_n C [(2, .int (jI r34)), (0, .ref (z + (s + 1))), (1, .ref (z + 1))] dX3_readName_37 rfl hl (by decide) rfl (fun ls hl => ?_)
      refine r_iload_n C dX3_readName_38 rfl hl 0 rfl ?_
      refine r_bipush C dX3_readName_39 rfl ?_
      refine r_icmp_le C 50 hr34 ⟨by decide, by decide⟩ dX3_readName_41 (by decide) (fun cq => ?_) (fun cq => ?_)
      · replace h := ifp cq h
        refine r_aload_n C dX3_readName_50 rfl hl 1 rfl ?_
        refine r_aload_n C dX3_readName_51 rfl hl 2 rfl ?_
        refine r_getR C hM2 jc8 0 2 dX3_readName_52 lk_X3_137 lc_1.1 lc_1.2 rfl rfl (by decide) rfl ?_
        refine r_aload_n C dX3_readName_55 rfl hl 2 rfl ?_
        refine r_getI C hM2 jc8 3 rfl dX3_readName_56 lk_X3_140 lc_1.1 lc_1.2 rfl rfl (by decide) rfl ?_
        refine r_iload_n C dX3_readName_59 rfl hl 0 rfl ?_
        replace h := bd_some h
        obtain ⟨r60, hf60, h⟩ := h
        refine r_callI (As := [.ref (z + 2), .int (jI (M16 1 3)), .int (jI r34)]) (rest := []) C hM2 (c_X3_mapNamed l E z hs lc_2 (hM1.ok _ _) hr34 hf60) jy_X3_mapNamed lk_X3_143 dX3_readName_60 (recvW C hM2 jc3 (ls_1 hs).1 (ls_1 hs).2 rfl) rfl rfl hl.1 (Nat.le_of_ble_eq_true rfl) ⟨Nat.le_of_ble_eq_true rfl, Nat.le_of_ble_eq_true rfl⟩ ⟨rfl, rfl⟩ ⟨Nat.zero_le _, Nat.zero_le _⟩ (fun H locs hr60 hM3 => ?_)
        refine r_iconst C dX3_readName_63 ?_
        refine r_icmp_eq C 73 hr60 ⟨by decide, by decide⟩ dX3_readName_64 (by decide) (fun cq => ?_) (fun cq => ?_)
        · replace h := ifp cq h
          refine r_aload_n C dX3_readName_73 rfl hl 2 rfl ?_
          refine r_getR C hM3 jc8 0 2 dX3_readName_74 lk_X3_137 lc_1.1 lc_1.2 rfl rfl (by decide) rfl ?_
          refine r_aload_n C dX3_readName_77 rfl hl 2 rfl ?_
          refine r_getI C hM3 jc8 3 rfl dX3_readName_78 lk_X3_140 lc_1.1 lc_1.2 rfl rfl (by decide) rfl ?_
          refine r_aload_n C dX3_readName_81 rfl hl 1 rfl ?_
          refine r_getR C hM3 jc3 4 (s + 4) dX3_readName_82 lk_X3_25 (ls_1 hs).1 (ls_1 hs).2 rfl rfl (by decide) rfl ?_
          refine r_aload_n C dX3_readName_85 rfl hl 1 rfl ?_
          refine r_getI C hM3 jc3 3 rfl dX3_readName_86 lk_X3_22 (ls_1 hs).1 (ls_1 hs).2 rfl rfl (by decide) rfl ?_
          refine r_bipush C dX3_readName_89 rfl ?_
          replace h := ck_some h
          obtain ⟨hc4, h⟩ := h
          refine r_imul C dX3_readName_91 ?_
          refine r_iload_n C dX3_readName_92 rfl hl 0 rfl ?_
          replace h := ck_some h
          obtain ⟨hc5, h⟩ := h
          refine r_copy (t := 1) C hM3 lk_X3_54 dX3_readName_93 (Or.inr (Or.inl ⟨rfl, rfl⟩)) rfl lc_2.1 (ls_4 hs).1 lc_2.2 (ls_4 hs).2 (hM1.ok _ _) hc4 hr34 hc5 hl.1 ⟨Nat.le_of_ble_eq_true rfl, Nat.le_of_ble_eq_true rfl⟩ (fun H locs hM6 => ?_)
          replace h := lt_some h
          obtain ⟨N7, eN7, h⟩ := h
          rw [← eN7] at hM6
          refine r_aload_n C dX3_readName_96 rfl hl 1 rfl ?_
          refine r_getR C hM6 jc3 5 (s + 5) dX3_readName_97 lk_X3_29 (ls_1 hs).1 (ls_1 hs).2 rfl rfl (by decide) rfl ?_
          refine r_aload_n C dX3_readName_100 rfl hl 1 rfl ?_
          refine r_getI C hM6 jc3 3 (rd_cskip eN7 (ne_off (by decide)) rfl) dX3_readName_101 lk_X3_22 (ls_1 hs).1 (ls_1 hs).2 rfl rfl (by decide) rfl ?_
          refine r_iload_n C dX3_readName_104 rfl hl 0 rfl ?_
          replace h := ck_some h
          obtain ⟨hc8, h⟩ := h
          refine r_iast C hM6 dX3_readName_105 (ls_5 hs).1 (ls_5 hs).2 hc8 (hM1.ok _ _) hr34 (fun H locs hM9 => ?_)
          replace h := lt_some h
          obtain ⟨N10, eN10, h⟩ := h
          rw [← eN10] at hM9
          refine r_aload_n C dX3_readName_106 rfl hl 1 rfl ?_
          refine r_dup C dX3_readName_107 rfl ?_
          refine r_getI C hM9 jc3 3 (rd_skip eN10 (ne_off (by decide)) (rd_cskip eN7 (ne_off (by decide)) rfl)) dX3_readName_108 lk_X3_22 (ls_1 hs).1 (ls_1 hs).2 rfl rfl (by decide) rfl ?_
          refine r_iconst C dX3_readName_111 ?_
          replace h := ck_some h
          obtain ⟨hc11, h⟩ := h
          refine r_iadd C dX3_readName_112 ?_
          refine r_putI C hM9 jc3 3 hc11 dX3_readName_113 lk_X3_22 (ls_1 hs).1 (ls_1 hs).2 rfl rfl (by decide) rfl rfl rfl (Nat.le_of_ble_eq_true rfl) (by decide) (fun H locs hM12 => ?_)
          replace h := lt_some h
          obtain ⟨N13, eN13, h⟩ := h
          rw [← eN13] at hM12
          refine r_aload_n C dX3_readName_116 rfl hl 2 rfl ?_
          replace h := bd_some h
          obtain ⟨M117, hf117, h⟩ := h
          refine r_callV (As := []) (rest := []) C hM12 (c_X8_advance l E z hf117) jy_X8_advance lk_X3_124 dX3_readName_117 (recvW C hM12 jc8 lc_1.1 lc_1.2 rfl) rfl rfl hl.1 (Nat.le_of_ble_eq_true rfl) ⟨Nat.le_of_ble_eq_true rfl, Nat.le_of_ble_eq_true rfl⟩ ⟨rfl, rfl⟩ ⟨Nat.zero_le _, Nat.zero_le _⟩ (fun H locs hM14 => ?_)
          refine r_iconst C dX3_readName_120 ?_
          exact r_zreturnM C hM14 hr hlk (Or.inr rfl) h dX3_readName_121
        · replace h := ifn cq h
          refine r_aload_n C dX3_readName_67 rfl hl 2 rfl ?_
          refine r_iconst C dX3_readName_68 ?_
          replace h := bd_some h
          obtain ⟨⟨r69, M69⟩, hf69, h⟩ := h
          try dsimp only at h
          refine r_callI (As := [.int (jI 3)]) (rest := []) C hM3 (c_X8_fail l E z ⟨by decide, by decide⟩ hf69) jy_X8_fail lk_X3_107 dX3_readName_69 (recvW C hM3 jc8 lc_1.1 lc_1.2 rfl) rfl rfl hl.1 (Nat.le_of_ble_eq_true rfl) ⟨Nat.le_of_ble_eq_true rfl, Nat.le_of_ble_eq_true rfl⟩ ⟨rfl, rfl⟩ ⟨Nat.zero_le _, Nat.zero_le _⟩ (fun H locs hr69 hM15 => ?_)
          replace h := ck_some h
          obtain ⟨hc16, h⟩ := h
          exact r_zreturnM C hM15 hr hlk hc16 h dX3_readName_72
      · replace h := ifn cq h
        refine r_aload_n C dX3_readName_44 rfl hl 2 rfl ?_
        refine r_iconst C dX3_readName_45 ?_
        replace h := bd_some h
        obtain ⟨⟨r46, M46⟩, hf46, h⟩ := h
        try dsimp only at h
        refine r_callI (As := [.int (jI 2)]) (rest := []) C hM2 (c_X8_fail l E z ⟨by decide, by decide⟩ hf46) jy_X8_fail lk_X3_107 dX3_readName_46 (recvW C hM2 jc8 lc_1.1 lc_1.2 rfl) rfl rfl hl.1 (Nat.le_of_ble_eq_true rfl) ⟨Nat.le_of_ble_eq_true rfl, Nat.le_of_ble_eq_true rfl⟩ ⟨rfl, rfl⟩ ⟨Nat.zero_le _, Nat.zero_le _⟩ (fun H locs hr46 hM17 => ?_)
        replace h := ck_some h
        obtain ⟨hc18, h⟩ := h
        exact r_zreturnM C hM17 hr hlk hc18 h dX3_readName_49
    · replace h := ifn cq h
      refine r_aload_n C dX3_readName_27 rfl hl 1 rfl ?_
      refine r_iconst C dX3_readName_28 ?_
      replace h := bd_some h
      obtain ⟨⟨r29, M29⟩, hf29, h⟩ := h
      try dsimp only at h
      refine r_callI (As := [.int (jI 1)]) (rest := []) C hM1 (c_X8_fail l E z ⟨by decide, by decide⟩ hf29) jy_X8_fail lk_X3_107 dX3_readName_29 (recvW C hM1 jc8 lc_1.1 lc_1.2 rfl) rfl rfl hl.1 (Nat.le_of_ble_eq_true rfl) ⟨Nat.le_of_ble_eq_true rfl, Nat.le_of_ble_eq_true rfl⟩ ⟨rfl, rfl⟩ ⟨Nat.zero_le _, Nat.zero_le _⟩ (fun H locs hr29 hM19 => ?_)
      replace h := ck_some h
      obtain ⟨hc20, h⟩ := h
      exact r_zreturnM C hM19 hr hlk hc20 h dX3_readName_32
  · replace h := ifn cq h
    refine r_aload_n C dX3_readName_9 rfl hl 1 rfl ?_
    refine r_iconst C dX3_readName_10 ?_
    replace h := bd_some h
    obtain ⟨⟨r11, M11⟩, hf11, h⟩ := h
    try dsimp only at h
    refine r_callI (As := [.int (jI 4)]) (rest := []) C hM0 (c_X8_fail l E z ⟨by decide, by decide⟩ hf11) jy_X8_fail lk_X3_107 dX3_readName_11 (recvW C hM0 jc8 lc_1.1 lc_1.2 rfl) rfl rfl hl.1 (Nat.le_of_ble_eq_true rfl) ⟨Nat.le_of_ble_eq_true rfl, Nat.le_of_ble_eq_true rfl⟩ ⟨rfl, rfl⟩ ⟨Nat.zero_le _, Nat.zero_le _⟩ (fun H locs hr11 hM21 => ?_)
    replace h := ck_some h
    obtain ⟨hc22, h⟩ := h
    exact r_zreturnM C hM21 hr hlk hc22 h dX3_readName_14
set_option maxRecDepth 100000 in
set_option maxHeartbeats 4000000 in
theorem c_X3_readSetting (l : Launch) (E : jE) (z : Nat) {s : Nat} {x2 : Int} {M M' : Mem} {r : Int} (hs : isSt s) (hx2 : inR x2) (h : f_X3_readSetting s x2 M = some (r, M')) : CtI l yX3_readSetting cX3_readSetting 3 (some .boolean) { frames := 3, cells := 0, slots := 0, locals := 63 } E z LyC [.ref (z + (s + 1)), .ref (z + 1), .int (jI x2)] M r M' := by
  refine jm (by decide +kernel) (Nat.le_of_ble_eq_true rfl) ?_
  intro p e sM m below meth c C hM0 hr hlk ls hl
  replace hl : lv_has ls 3 [(0, .ref (z + (s + 1))), (1, .ref (z + 1)), (2, .int (jI x2))] := hl
  unfold f_X3_readSetting at h
  refine r_aload_n C dX3_readSetting_0 rfl hl 0 rfl ?_
  refine r_getR C hM0 jc3 11 (s + 10) dX3_readSetting_1 lk_X3_47 (ls_1 hs).1 (ls_1 hs).2 rfl rfl (by decide) rfl ?_
  refine r_iload_n C dX3_readSetting_4 rfl hl 2 rfl ?_
  replace h := ck_some h
  obtain ⟨hc1, h⟩ := h
  refine r_zald C hM0 rfl dX3_readSetting_5 (ls_10 hs).1 (ls_10 hs).2 hc1 hx2 ?_
  refine r_if_eq C 15 (hM0.ok _ _) dX3_readSetting_6 (by decide) (fun cq => ?_) (fun cq => ?_)
  · replace h := ifp cq h
    refine r_aload_n C dX3_readSetting_15 rfl hl 0 rfl ?_
    refine r_getR C hM0 jc3 11 (s + 10) dX3_readSetting_16 lk_X3_47 (ls_1 hs).1 (ls_1 hs).2 rfl rfl (by decide) rfl ?_
    refine r_iload_n C dX3_readSetting_19 rfl hl 2 rfl ?_
    refine r_iconst C dX3_readSetting_20 ?_
    refine r_zast C hM0 dX3_readSetting_21 (ls_10 hs).1 (ls_10 hs).2 hc1 hx2 (fun H locs hM2 => ?_)
    replace h := lt_some h
    obtain ⟨N3, eN3, h⟩ := h
    rw [← eN3] at hM2
    refine r_aload_n C dX3_readSetting_22 rfl hl 1 rfl ?_
    replace h := bd_some h
    obtain ⟨M23, hf23, h⟩ := h
    refine r_callV (As := []) (rest := []) C hM2 (c_X8_advance l E z hf23) jy_X8_advance lk_X3_124 dX3_readSetting_23 (recvW C hM2 jc8 lc_1.1 lc_1.2 rfl) rfl rfl hl.1 (Nat.le_of_ble_eq_true rfl) ⟨Nat.le_of_ble_eq_true rfl, Nat.le_of_ble_eq_true rfl⟩ ⟨rfl, rfl⟩ ⟨Nat.zero_le _, Nat.zero_le _⟩ (fun H locs hM4 => ?_)
    refine r_aload_n C dX3_readSetting_26 rfl hl 1 rfl ?_
    refine r_getsN C hM4 1 (by decide) rfl rfl (by decide) dX3_readSetting_27 ?_
    refine r_iload_n C dX3_readSetting_30 rfl hl 2 rfl ?_
    refine r_tald C hM4 1 (by decide) hc1 hx2 dX3_readSetting_31 ?_
    refine r_getsN C hM4 2 (by decide) rfl rfl (by decide) dX3_readSetting_32 ?_
    refine r_iload_n C dX3_readSetting_35 rfl hl 2 rfl ?_
    refine r_tald C hM4 2 (by decide) hc1 hx2 dX3_readSetting_36 ?_
    replace h := bd_some h
    obtain ⟨⟨r37, M37⟩, hf37, h⟩ := h
    try dsimp only at h
    refine r_callI (As := [.int (jI ((jTab 1).getD x2.toNat 0)), .int (jI ((jTab 2).getD x2.toNat 0))]) (rest := []) C hM4 (c_X8_takeNumber l E z (jTab_R _ _) (jTab_R _ _) hf37) jy_X8_takeNumber lk_X3_127 dX3_readSetting_37 (recvW C hM4 jc8 lc_1.1 lc_1.2 rfl) rfl rfl hl.1 (Nat.le_of_ble_eq_true rfl) ⟨Nat.le_of_ble_eq_true rfl, Nat.le_of_ble_eq_true rfl⟩ ⟨rfl, rfl⟩ ⟨Nat.zero_le _, Nat.zero_le _⟩ (fun H locs hr37 hM5 => ?_)
    refine r_if_ne C 45 hr37 dX3_readSetting_40 (by decide) (fun cq => ?_) (fun cq => ?_)
    · replace h := ifn cq h
      refine r_aload_n C dX3_readSetting_45 rfl hl 0 rfl ?_
      refine r_getR C hM5 jc3 10 (s + 9) dX3_readSetting_46 lk_X3_44 (ls_1 hs).1 (ls_1 hs).2 rfl rfl (by decide) rfl ?_
      refine r_iload_n C dX3_readSetting_49 rfl hl 2 rfl ?_
      refine r_aload_n C dX3_readSetting_50 rfl hl 1 rfl ?_
      refine r_getI C hM5 jc8 6 rfl dX3_readSetting_51 lk_X3_130 lc_1.1 lc_1.2 rfl rfl (by decide) rfl ?_
      refine r_iast C hM5 dX3_readSetting_54 (ls_9 hs).1 (ls_9 hs).2 hc1 hx2 (hM5.ok _ _) (fun H locs hM6 => ?_)
      replace h := lt_some h
      obtain ⟨N7, eN7, h⟩ := h
      rw [← eN7] at hM6
      refine r_iconst C dX3_readSetting_55 ?_
      exact r_zreturnM C hM6 hr hlk (Or.inr rfl) h dX3_readSetting_56
    · replace h := ifp cq h
      refine r_iconst C dX3_readSetting_43 ?_
      exact r_zreturnM C hM5 hr hlk (Or.inl rfl) h dX3_readSetting_44
  · replace h := ifn cq h
    refine r_aload_n C dX3_readSetting_9 rfl hl 1 rfl ?_
    refine r_iconst C dX3_readSetting_10 ?_
    replace h := bd_some h
    obtain ⟨⟨r11, M11⟩, hf11, h⟩ := h
    try dsimp only at h
    refine r_callI (As := [.int (jI 3)]) (rest := []) C hM0 (c_X8_fail l E z ⟨by decide, by decide⟩ hf11) jy_X8_fail lk_X3_107 dX3_readSetting_11 (recvW C hM0 jc8 lc_1.1 lc_1.2 rfl) rfl rfl hl.1 (Nat.le_of_ble_eq_true rfl) ⟨Nat.le_of_ble_eq_true rfl, Nat.le_of_ble_eq_true rfl⟩ ⟨rfl, rfl⟩ ⟨Nat.zero_le _, Nat.zero_le _⟩ (fun H locs hr11 hM8 => ?_)
    replace h := ck_some h
    obtain ⟨hc9, h⟩ := h
    exact r_zreturnM C hM8 hr hlk hc9 h dX3_readSetting_14
set_option maxRecDepth 100000 in
set_option maxHeartbeats 4000000 in
theorem c_X3_readShot (l : Launch) (E : jE) (z : Nat) {s : Nat} {M M' : Mem} {r : Int} (hs : isSt s) (h : f_X3_readShot s M = some (r, M')) : CtI l yX3_readShot cX3_readShot 2 (some .boolean) { frames := 3, cells := 0, slots := 0, locals := 63 } E z LyC [.ref (z + (s + 1)), .ref (z + 1)] M r M' := by
  refine jm (by decide +kernel) (Nat.le_of_ble_eq_true rfl) ?_
  intro p e sM m below meth c C hM0 hr hlk ls hl
  replace hl : lv_has ls 2 [(0, .ref (z + (s + 1))), (1, .ref (z + 1))] := hl
  unfold f_X3_readShot at h
  refine r_aload_n C dX3_readShot_0 rfl hl 0 rfl ?_
  refine r_getI C hM0 jc3 0 rfl dX3_readShot_1 lk_X3_9 (ls_1 hs).1 (ls_1 hs).2 rfl rfl (by decide) rfl ?_
  refine r_bipush C dX3_readShot_4 rfl ?_
  refine r_icmp_lt C 15 (hM0.ok _ _) ⟨by decide, by decide⟩ dX3_readShot_6 (by decide) (fun cq => ?_) (fun cq => ?_)
  · replace h := ifp cq h
    refine r_aload_n C dX3_readShot_15 rfl hl 1 rfl ?_
    replace h := bd_some h
    obtain ⟨M16, hf16, h⟩ := h
    refine r_callV (As := []) (rest := []) C hM0 (c_X8_advance l E z hf16) jy_X8_advance lk_X3_124 dX3_readShot_16 (recvW C hM0 jc8 lc_1.1 lc_1.2 rfl) rfl rfl hl.1 (Nat.le_of_ble_eq_true rfl) ⟨Nat.le_of_ble_eq_true rfl, Nat.le_of_ble_eq_true rfl⟩ ⟨rfl, rfl⟩ ⟨Nat.zero_le _, Nat.zero_le _⟩ (fun H locs hM1 => ?_)
    refine r_aload_n C dX3_readShot_19 rfl hl 1 rfl ?_
    refine r_iconst C dX3_readShot_20 ?_
    refine r_iconst C dX3_readShot_21 ?_
    replace h := bd_some h
    obtain ⟨⟨r22, M22⟩, hf22, h⟩ := h
    try dsimp only at h
    refine r_callI (As := [.int (jI 0), .int (jI 5)]) (rest := []) C hM1 (c_X8_takeNumber l E z ⟨by decide, by decide⟩ ⟨by decide, by decide⟩ hf22) jy_X8_takeNumber lk_X3_127 dX3_readShot_22 (recvW C hM1 jc8 lc_1.1 lc_1.2 rfl) rfl rfl hl.1 (Nat.le_of_ble_eq_true rfl) ⟨Nat.le_of_ble_eq_true rfl, Nat.le_of_ble_eq_true rfl⟩ ⟨rfl, rfl⟩ ⟨Nat.zero_le _, Nat.zero_le _⟩ (fun H locs hr22 hM2 => ?_)
    refine r_if_ne C 30 hr22 dX3_readShot_25 (by decide) (fun cq => ?_) (fun cq => ?_)
    · replace h := ifn cq h
      refine r_aload_n C dX3_readShot_30 rfl hl 0 rfl ?_
      refine r_getR C hM2 jc3 1 (s + 2) dX3_readShot_31 lk_X3_15 (ls_1 hs).1 (ls_1 hs).2 rfl rfl (by decide) rfl ?_
      refine r_aload_n C dX3_readShot_34 rfl hl 0 rfl ?_
      refine r_getI C hM2 jc3 0 rfl dX3_readShot_35 lk_X3_9 (ls_1 hs).1 (ls_1 hs).2 rfl rfl (by decide) rfl ?_
      refine r_aload_n C dX3_readShot_38 rfl hl 1 rfl ?_
      refine r_getI C hM2 jc8 6 rfl dX3_readShot_39 lk_X3_130 lc_1.1 lc_1.2 rfl rfl (by decide) rfl ?_
      replace h := ck_some h
      obtain ⟨hc3, h⟩ := h
      refine r_iast C hM2 dX3_readShot_42 (ls_2 hs).1 (ls_2 hs).2 hc3 (hM2.ok _ _) (hM2.ok _ _) (fun H locs hM4 => ?_)
      replace h := lt_some h
      obtain ⟨N5, eN5, h⟩ := h
      rw [← eN5] at hM4
      refine r_aload_n C dX3_readShot_43 rfl hl 1 rfl ?_
      refine r_iconst C dX3_readShot_44 ?_
      refine r_sipush C dX3_readShot_45 rfl ?_
      replace h := bd_some h
      obtain ⟨⟨r48, M48⟩, hf48, h⟩ := h
      try dsimp only at h
      refine r_callI (As := [.int (jI 1), .int (jI 400)]) (rest := []) C hM4 (c_X8_takeNumber l E z ⟨by decide, by decide⟩ ⟨by decide, by decide⟩ hf48) jy_X8_takeNumber lk_X3_127 dX3_readShot_48 (recvW C hM4 jc8 lc_1.1 lc_1.2 rfl) rfl rfl hl.1 (Nat.le_of_ble_eq_true rfl) ⟨Nat.le_of_ble_eq_true rfl, Nat.le_of_ble_eq_true rfl⟩ ⟨rfl, rfl⟩ ⟨Nat.zero_le _, Nat.zero_le _⟩ (fun H locs hr48 hM6 => ?_)
      refine r_if_ne C 56 hr48 dX3_readShot_51 (by decide) (fun cq => ?_) (fun cq => ?_)
      · replace h := ifn cq h
        refine r_aload_n C dX3_readShot_56 rfl hl 0 rfl ?_
        refine r_getR C hM6 jc3 2 (s + 3) dX3_readShot_57 lk_X3_19 (ls_1 hs).1 (ls_1 hs).2 rfl rfl (by decide) rfl ?_
        refine r_aload_n C dX3_readShot_60 rfl hl 0 rfl ?_
        refine r_getI C hM6 jc3 0 rfl dX3_readShot_61 lk_X3_9 (ls_1 hs).1 (ls_1 hs).2 rfl rfl (by decide) rfl ?_
        refine r_aload_n C dX3_readShot_64 rfl hl 1 rfl ?_
        refine r_getI C hM6 jc8 6 rfl dX3_readShot_65 lk_X3_130 lc_1.1 lc_1.2 rfl rfl (by decide) rfl ?_
        replace h := ck_some h
        obtain ⟨hc7, h⟩ := h
        refine r_iast C hM6 dX3_readShot_68 (ls_3 hs).1 (ls_3 hs).2 hc7 (hM6.ok _ _) (hM6.ok _ _) (fun H locs hM8 => ?_)
        replace h := lt_some h
        obtain ⟨N9, eN9, h⟩ := h
        rw [← eN9] at hM8
        refine r_aload_n C dX3_readShot_69 rfl hl 0 rfl ?_
        refine r_dup C dX3_readShot_70 rfl ?_
        refine r_getI C hM8 jc3 0 (rd_skip eN9 (ne_off (by decide)) rfl) dX3_readShot_71 lk_X3_9 (ls_1 hs).1 (ls_1 hs).2 rfl rfl (by decide) rfl ?_
        refine r_iconst C dX3_readShot_74 ?_
        replace h := ck_some h
        obtain ⟨hc10, h⟩ := h
        refine r_iadd C dX3_readShot_75 ?_
        refine r_putI C hM8 jc3 0 hc10 dX3_readShot_76 lk_X3_9 (ls_1 hs).1 (ls_1 hs).2 rfl rfl (by decide) rfl rfl rfl (Nat.le_of_ble_eq_true rfl) (by decide) (fun H locs hM11 => ?_)
        replace h := lt_some h
        obtain ⟨N12, eN12, h⟩ := h
        rw [← eN12] at hM11
        refine r_iconst C dX3_readShot_79 ?_
        exact r_zreturnM C hM11 hr hlk (Or.inr rfl) h dX3_readShot_80
      · replace h := ifp cq h
        refine r_iconst C dX3_readShot_54 ?_
        exact r_zreturnM C hM6 hr hlk (Or.inl rfl) h dX3_readShot_55
    · replace h := ifp cq h
      refine r_iconst C dX3_readShot_28 ?_
      exact r_zreturnM C hM2 hr hlk (Or.inl rfl) h dX3_readShot_29
  · replace h := ifn cq h
    refine r_aload_n C dX3_readShot_9 rfl hl 1 rfl ?_
    refine r_iconst C dX3_readShot_10 ?_
    replace h := bd_some h
    obtain ⟨⟨r11, M11⟩, hf11, h⟩ := h
    try dsimp only at h
    refine r_callI (As := [.int (jI 4)]) (rest := []) C hM0 (c_X8_fail l E z ⟨by decide, by decide⟩ hf11) jy_X8_fail lk_X3_107 dX3_readShot_11 (recvW C hM0 jc8 lc_1.1 lc_1.2 rfl) rfl rfl hl.1 (Nat.le_of_ble_eq_true rfl) ⟨Nat.le_of_ble_eq_true rfl, Nat.le_of_ble_eq_true rfl⟩ ⟨rfl, rfl⟩ ⟨Nat.zero_le _, Nat.zero_le _⟩ (fun H locs hr11 hM13 => ?_)
    replace h := ck_some h
    obtain ⟨hc14, h⟩ := h
    exact r_zreturnM C hM13 hr hlk hc14 h dX3_readShot_14
set_option maxRecDepth 100000 in
set_option maxHeartbeats 4000000 in
theorem c_X3_settingTold (l : Launch) (E : jE) (z : Nat) {M : Mem} {r : Int} (h : f_X3_settingTold M = some r) : CtI l yX3_settingTold cX3_settingTold 1 (some .int) { frames := 7, cells := 0, slots := 0, locals := 322 } E z LyC [.ref (z + 1)] M r M := by
  refine jm (by decide +kernel) (Nat.le_of_ble_eq_true rfl) ?_
  intro p e sM m below meth c C hM0 hr hlk ls hl
  replace hl : lv_has ls 1 [(0, .ref (z + 1))] := hl
  unfold f_X3_settingTold at h
  refine r_aload_n C dX3_settingTold_0 rfl hl 0 rfl ?_
  refine r_ldcS (i := 3) C (List.mem_of_getElem? (i := 3) rfl) dX3_settingTold_1 ?_
  replace h := bd_some h
  obtain ⟨r3, hf3, h⟩ := h
  refine r_callI (As := [.ref (eK E 3)]) (rest := []) C hM0 (c_X8_isWord l E z (show 3 < nST by decide) hf3) jy_X8_isWord lk_X3_86 dX3_settingTold_3 (recvW C hM0 jc8 lc_1.1 lc_1.2 rfl) rfl rfl hl.1 (Nat.le_of_ble_eq_true rfl) ⟨Nat.le_of_ble_eq_true rfl, Nat.le_of_ble_eq_true rfl⟩ ⟨rfl, rfl⟩ ⟨Nat.zero_le _, Nat.zero_le _⟩ (fun H locs hr3 hM1 => ?_)
  refine r_if_eq C 11 hr3 dX3_settingTold_6 (by decide) (fun cq => ?_) (fun cq => ?_)
  · replace h := ifp cq h
    refine r_aload_n C dX3_settingTold_11 rfl hl 0 rfl ?_
    refine r_ldcS (i := 4) C (List.mem_of_getElem? (i := 4) rfl) dX3_settingTold_12 ?_
    replace h := bd_some h
    obtain ⟨r14, hf14, h⟩ := h
    refine r_callI (As := [.ref (eK E 4)]) (rest := []) C hM1 (c_X8_isWord l E z (show 4 < nST by decide) hf14) jy_X8_isWord lk_X3_86 dX3_settingTold_14 (recvW C hM1 jc8 lc_1.1 lc_1.2 rfl) rfl rfl hl.1 (Nat.le_of_ble_eq_true rfl) ⟨Nat.le_of_ble_eq_true rfl, Nat.le_of_ble_eq_true rfl⟩ ⟨rfl, rfl⟩ ⟨Nat.zero_le _, Nat.zero_le _⟩ (fun H locs hr14 hM2 => ?_)
    refine r_if_eq C 22 hr14 dX3_settingTold_17 (by decide) (fun cq => ?_) (fun cq => ?_)
    · replace h := ifp cq h
      refine r_aload_n C dX3_settingTold_22 rfl hl 0 rfl ?_
      refine r_ldcS (i := 5) C (List.mem_of_getElem? (i := 5) rfl) dX3_settingTold_23 ?_
      replace h := bd_some h
      obtain ⟨r25, hf25, h⟩ := h
      refine r_callI (As := [.ref (eK E 5)]) (rest := []) C hM2 (c_X8_isWord l E z (show 5 < nST by decide) hf25) jy_X8_isWord lk_X3_86 dX3_settingTold_25 (recvW C hM2 jc8 lc_1.1 lc_1.2 rfl) rfl rfl hl.1 (Nat.le_of_ble_eq_true rfl) ⟨Nat.le_of_ble_eq_true rfl, Nat.le_of_ble_eq_true rfl⟩ ⟨rfl, rfl⟩ ⟨Nat.zero_le _, Nat.zero_le _⟩ (fun H locs hr25 hM3 => ?_)
      refine r_if_eq C 33 hr25 dX3_settingTold_28 (by decide) (fun cq => ?_) (fun cq => ?_)
      · replace h := ifp cq h
        refine r_aload_n C dX3_settingTold_33 rfl hl 0 rfl ?_
        refine r_ldcS (i := 6) C (List.mem_of_getElem? (i := 6) rfl) dX3_settingTold_34 ?_
        replace h := bd_some h
        obtain ⟨r36, hf36, h⟩ := h
        refine r_callI (As := [.ref (eK E 6)]) (rest := []) C hM3 (c_X8_isWord l E z (show 6 < nST by decide) hf36) jy_X8_isWord lk_X3_86 dX3_settingTold_36 (recvW C hM3 jc8 lc_1.1 lc_1.2 rfl) rfl rfl hl.1 (Nat.le_of_ble_eq_true rfl) ⟨Nat.le_of_ble_eq_true rfl, Nat.le_of_ble_eq_true rfl⟩ ⟨rfl, rfl⟩ ⟨Nat.zero_le _, Nat.zero_le _⟩ (fun H locs hr36 hM4 => ?_)
        refine r_if_eq C 44 hr36 dX3_settingTold_39 (by decide) (fun cq => ?_) (fun cq => ?_)
        · replace h := ifp cq h
          refine r_aload_n C dX3_settingTold_44 rfl hl 0 rfl ?_
          refine r_ldcS (i := 7) C (List.mem_of_getElem? (i := 7) rfl) dX3_settingTold_45 ?_
          replace h := bd_some h
          obtain ⟨r47, hf47, h⟩ := h
          refine r_callI (As := [.ref (eK E 7)]) (rest := []) C hM4 (c_X8_isWord l E z (show 7 < nST by decide) hf47) jy_X8_isWord lk_X3_86 dX3_settingTold_47 (recvW C hM4 jc8 lc_1.1 lc_1.2 rfl) rfl rfl hl.1 (Nat.le_of_ble_eq_true rfl) ⟨Nat.le_of_ble_eq_true rfl, Nat.le_of_ble_eq_true rfl⟩ ⟨rfl, rfl⟩ ⟨Nat.zero_le _, Nat.zero_le _⟩ (fun H locs hr47 hM5 => ?_)
          refine r_if_eq C 57 hr47 dX3_settingTold_50 (by decide) (fun cq => ?_) (fun cq => ?_)
          · replace h := ifp cq h
            refine r_iconst C dX3_settingTold_57 ?_
            exact r_ireturn C hM5 hr hlk ⟨by decide, by decide⟩ h rfl dX3_settingTold_58
          · replace h := ifn cq h
            refine r_iconst C dX3_settingTold_53 ?_
            refine r_goto C 58 dX3_settingTold_54 (by decide) ?_
            exact r_ireturn C hM5 hr hlk ⟨by decide, by decide⟩ h rfl dX3_settingTold_58
        · replace h := ifn cq h
          refine r_iconst C dX3_settingTold_42 ?_
          exact r_ireturn C hM4 hr hlk ⟨by decide, by decide⟩ h rfl dX3_settingTold_43
      · replace h := ifn cq h
        refine r_iconst C dX3_settingTold_31 ?_
        exact r_ireturn C hM3 hr hlk ⟨by decide, by decide⟩ h rfl dX3_settingTold_32
    · replace h := ifn cq h
      refine r_iconst C dX3_settingTold_20 ?_
      exact r_ireturn C hM2 hr hlk ⟨by decide, by decide⟩ h rfl dX3_settingTold_21
  · replace h := ifn cq h
    refine r_iconst C dX3_settingTold_9 ?_
    exact r_ireturn C hM1 hr hlk ⟨by decide, by decide⟩ h rfl dX3_settingTold_10
set_option maxRecDepth 100000 in
set_option maxHeartbeats 4000000 in
theorem c_X3_readStatement (l : Launch) (E : jE) (z : Nat) {s : Nat} {M M' : Mem} {r : Int} (hs : isSt s) (h : f_X3_readStatement s M = some (r, M')) : CtI l yX3_readStatement cX3_readStatement 3 (some .boolean) { frames := 8, cells := 0, slots := 0, locals := 342 } E z LyC [.ref (z + (s + 1)), .ref (z + 1)] M r M' := by
  refine jm (by decide +kernel) (Nat.le_of_ble_eq_true rfl) ?_
  intro p e sM m below meth c C hM0 hr hlk ls hl
  replace hl : lv_has ls 3 [(0, .ref (z + (s + 1))), (1, .ref (z + 1))] := hl
  unfold f_X3_readStatement at h
  refine r_aload_n C dX3_readStatement_0 rfl hl 1 rfl ?_
  refine r_ldcS (i := 0) C (List.mem_of_getElem? (i := 0) rfl) dX3_readStatement_1 ?_
  replace h := bd_some h
  obtain ⟨r3, hf3, h⟩ := h
  refine r_callI (As := [.ref (eK E 0)]) (rest := []) C hM0 (c_X8_isWord l E z (show 0 < nST by decide) hf3) jy_X8_isWord lk_X3_86 dX3_readStatement_3 (recvW C hM0 jc8 lc_1.1 lc_1.2 rfl) rfl rfl hl.1 (Nat.le_of_ble_eq_true rfl) ⟨Nat.le_of_ble_eq_true rfl, Nat.le_of_ble_eq_true rfl⟩ ⟨rfl, rfl⟩ ⟨Nat.zero_le _, Nat.zero_le _⟩ (fun H locs hr3 hM1 => ?_)
  refine r_if_eq C 15 hr3 dX3_readStatement_6 (by decide) (fun cq => ?_) (fun cq => ?_)
  · replace h := ifp cq h
    refine r_aload_n C dX3_readStatement_15 rfl hl 1 rfl ?_
    refine r_ldcS (i := 1) C (List.mem_of_getElem? (i := 1) rfl) dX3_readStatement_16 ?_
    replace h := bd_some h
    obtain ⟨r18, hf18, h⟩ := h
    refine r_callI (As := [.ref (eK E 1)]) (rest := []) C hM1 (c_X8_isWord l E z (show 1 < nST by decide) hf18) jy_X8_isWord lk_X3_86 dX3_readStatement_18 (recvW C hM1 jc8 lc_1.1 lc_1.2 rfl) rfl rfl hl.1 (Nat.le_of_ble_eq_true rfl) ⟨Nat.le_of_ble_eq_true rfl, Nat.le_of_ble_eq_true rfl⟩ ⟨rfl, rfl⟩ ⟨Nat.zero_le _, Nat.zero_le _⟩ (fun H locs hr18 hM2 => ?_)
    refine r_if_eq C 30 hr18 dX3_readStatement_21 (by decide) (fun cq => ?_) (fun cq => ?_)
    · replace h := ifp cq h
      refine r_aload_n C dX3_readStatement_30 rfl hl 1 rfl ?_
      refine r_ldcS (i := 2) C (List.mem_of_getElem? (i := 2) rfl) dX3_readStatement_31 ?_
      replace h := bd_some h
      obtain ⟨r33, hf33, h⟩ := h
      refine r_callI (As := [.ref (eK E 2)]) (rest := []) C hM2 (c_X8_isWord l E z (show 2 < nST by decide) hf33) jy_X8_isWord lk_X3_86 dX3_readStatement_33 (recvW C hM2 jc8 lc_1.1 lc_1.2 rfl) rfl rfl hl.1 (Nat.le_of_ble_eq_true rfl) ⟨Nat.le_of_ble_eq_true rfl, Nat.le_of_ble_eq_true rfl⟩ ⟨rfl, rfl⟩ ⟨Nat.zero_le _, Nat.zero_le _⟩ (fun H locs hr33 hM3 => ?_)
      refine r_if_eq C 45 hr33 dX3_readStatement_36 (by decide) (fun cq => ?_) (fun cq => ?_)
      · replace h := ifp cq h
        refine r_aload_n C dX3_readStatement_45 rfl hl 1 rfl ?_
        replace h := bd_some h
        obtain ⟨r46, hf46, h⟩ := h
        refine r_callSI (As := [.ref (z + 1)]) (rest := []) C hM3 (c_X3_settingTold l E z hf46) jy_X3_settingTold lk_X3_103 dX3_readStatement_46 rfl rfl hl.1 (Nat.le_of_ble_eq_true rfl) ⟨Nat.le_of_ble_eq_true rfl, Nat.le_of_ble_eq_true rfl⟩ ⟨rfl, rfl⟩ ⟨Nat.zero_le _, Nat.zero_le _⟩ (fun H locs hr46 hM4 => ?_)
        refine r_istore_n C [(2, .int (jI r46)), (0, .ref (z + (s + 1))), (1, .ref (z + 1))] dX3_readStatement_49 rfl hl (by decide) rfl (fun ls hl => ?_)
        refine r_iload_n C dX3_readStatement_50 rfl hl 0 rfl ?_
        refine r_iconst C dX3_readStatement_51 ?_
        refine r_icmp_ne C 63 hr46 ⟨by decide, by decide⟩ dX3_readStatement_52 (by decide) (fun cq => ?_) (fun cq => ?_)
        · replace h := ifn cq h
          refine r_aload_n C dX3_readStatement_63 rfl hl 1 rfl ?_
          refine r_aload_n C dX3_readStatement_64 rfl hl 2 rfl ?_
          refine r_iload_n C dX3_readStatement_65 rfl hl 0 rfl ?_
          replace h := bd_some h
          obtain ⟨⟨r66, M66⟩, hf66, h⟩ := h
          try dsimp only at h
          refine r_callI (As := [.ref (z + 1), .int (jI r46)]) (rest := []) C hM4 (c_X3_readSetting l E z hs hr46 hf66) jy_X3_readSetting lk_X3_110 dX3_readStatement_66 (recvW C hM4 jc3 (ls_1 hs).1 (ls_1 hs).2 rfl) rfl rfl hl.1 (Nat.le_of_ble_eq_true rfl) ⟨Nat.le_of_ble_eq_true rfl, Nat.le_of_ble_eq_true rfl⟩ ⟨rfl, rfl⟩ ⟨Nat.zero_le _, Nat.zero_le _⟩ (fun H locs hr66 hM5 => ?_)
          replace h := ck_some h
          obtain ⟨hc6, h⟩ := h
          exact r_zreturnM C hM5 hr hlk hc6 h dX3_readStatement_69
        · replace h := ifp cq h
          refine r_aload_n C dX3_readStatement_55 rfl hl 2 rfl ?_
          refine r_iconst C dX3_readStatement_56 ?_
          replace h := bd_some h
          obtain ⟨⟨r57, M57⟩, hf57, h⟩ := h
          try dsimp only at h
          refine r_callI (As := [.int (jI 1)]) (rest := []) C hM4 (c_X8_fail l E z ⟨by decide, by decide⟩ hf57) jy_X8_fail lk_X3_107 dX3_readStatement_57 (recvW C hM4 jc8 lc_1.1 lc_1.2 rfl) rfl rfl hl.1 (Nat.le_of_ble_eq_true rfl) ⟨Nat.le_of_ble_eq_true rfl, Nat.le_of_ble_eq_true rfl⟩ ⟨rfl, rfl⟩ ⟨Nat.zero_le _, Nat.zero_le _⟩ (fun H locs hr57 hM7 => ?_)
          refine r_goto C 69 dX3_readStatement_60 (by decide) ?_
          replace h := ck_some h
          obtain ⟨hc8, h⟩ := h
          exact r_zreturnM C hM7 hr hlk hc8 h dX3_readStatement_69
      · replace h := ifn cq h
        refine r_aload_n C dX3_readStatement_39 rfl hl 0 rfl ?_
        refine r_aload_n C dX3_readStatement_40 rfl hl 1 rfl ?_
        replace h := bd_some h
        obtain ⟨⟨r41, M41⟩, hf41, h⟩ := h
        try dsimp only at h
        refine r_callI (As := [.ref (z + 1)]) (rest := []) C hM3 (c_X3_readBan l E z hs hf41) jy_X3_readBan lk_X3_100 dX3_readStatement_41 (recvW C hM3 jc3 (ls_1 hs).1 (ls_1 hs).2 rfl) rfl rfl hl.1 (Nat.le_of_ble_eq_true rfl) ⟨Nat.le_of_ble_eq_true rfl, Nat.le_of_ble_eq_true rfl⟩ ⟨rfl, rfl⟩ ⟨Nat.zero_le _, Nat.zero_le _⟩ (fun H locs hr41 hM9 => ?_)
        replace h := ck_some h
        obtain ⟨hc10, h⟩ := h
        exact r_zreturnM C hM9 hr hlk hc10 h dX3_readStatement_44
    · replace h := ifn cq h
      refine r_aload_n C dX3_readStatement_24 rfl hl 0 rfl ?_
      refine r_aload_n C dX3_readStatement_25 rfl hl 1 rfl ?_
      replace h := bd_some h
      obtain ⟨⟨r26, M26⟩, hf26, h⟩ := h
      try dsimp only at h
      refine r_callI (As := [.ref (z + 1)]) (rest := []) C hM2 (c_X3_readName l E z hs hf26) jy_X3_readName lk_X3_95 dX3_readStatement_26 (recvW C hM2 jc3 (ls_1 hs).1 (ls_1 hs).2 rfl) rfl rfl hl.1 (Nat.le_of_ble_eq_true rfl) ⟨Nat.le_of_ble_eq_true rfl, Nat.le_of_ble_eq_true rfl⟩ ⟨rfl, rfl⟩ ⟨Nat.zero_le _, Nat.zero_le _⟩ (fun H locs hr26 hM11 => ?_)
      replace h := ck_some h
      obtain ⟨hc12, h⟩ := h
      exact r_zreturnM C hM11 hr hlk hc12 h dX3_readStatement_29
  · replace h := ifn cq h
    refine r_aload_n C dX3_readStatement_9 rfl hl 0 rfl ?_
    refine r_aload_n C dX3_readStatement_10 rfl hl 1 rfl ?_
    replace h := bd_some h
    obtain ⟨⟨r11, M11⟩, hf11, h⟩ := h
    try dsimp only at h
    refine r_callI (As := [.ref (z + 1)]) (rest := []) C hM1 (c_X3_readShot l E z hs hf11) jy_X3_readShot lk_X3_90 dX3_readStatement_11 (recvW C hM1 jc3 (ls_1 hs).1 (ls_1 hs).2 rfl) rfl rfl hl.1 (Nat.le_of_ble_eq_true rfl) ⟨Nat.le_of_ble_eq_true rfl, Nat.le_of_ble_eq_true rfl⟩ ⟨rfl, rfl⟩ ⟨Nat.zero_le _, Nat.zero_le _⟩ (fun H locs hr11 hM13 => ?_)
    replace h := ck_some h
    obtain ⟨hc14, h⟩ := h
    exact r_zreturnM C hM13 hr hlk hc14 h dX3_readStatement_14
set_option maxRecDepth 100000 in
set_option maxHeartbeats 4000000 in
theorem c_X3_readFrom (l : Launch) (E : jE) (z : Nat) {s : Nat} {M M' : Mem} {r : Int} (hs : isSt s) (h : f_X3_readFrom s M = some (r, M')) : CtI l yX3_readFrom cX3_readFrom 3 (some .boolean) { frames := 9, cells := 0, slots := 0, locals := 364 } E z LyC [.ref (z + (s + 1)), .ref (z + 1)] M r M' := by
  refine jm (by decide +kernel) (Nat.le_of_ble_eq_true rfl) ?_
  intro p e sM m below meth c C hM0 hr hlk ls hl
  replace hl : lv_has ls 3 [(0, .ref (z + (s + 1))), (1, .ref (z + 1))] := hl
  unfold f_X3_readFrom at h
  refine r_aload_n C dX3_readFrom_0 rfl hl 0 rfl ?_
  refine r_iconst C dX3_readFrom_1 ?_
  refine r_putI C hM0 jc3 0 ⟨by decide, by decide⟩ dX3_readFrom_2 lk_X3_9 (ls_1 hs).1 (ls_1 hs).2 rfl rfl (by decide) rfl rfl rfl (Nat.le_of_ble_eq_true rfl) (by decide) (fun H locs hM1 => ?_)
  replace h := lt_some h
  obtain ⟨N2, eN2, h⟩ := h
  rw [← eN2] at hM1
  refine r_aload_n C dX3_readFrom_5 rfl hl 0 rfl ?_
  refine r_iconst C dX3_readFrom_6 ?_
  refine r_putI C hM1 jc3 3 ⟨by decide, by decide⟩ dX3_readFrom_7 lk_X3_22 (ls_1 hs).1 (ls_1 hs).2 rfl rfl (by decide) rfl rfl rfl (Nat.le_of_ble_eq_true rfl) (by decide) (fun H locs hM3 => ?_)
  replace h := lt_some h
  obtain ⟨N4, eN4, h⟩ := h
  rw [← eN4] at hM3
  refine r_aload_n C dX3_readFrom_10 rfl hl 0 rfl ?_
  refine r_iconst C dX3_readFrom_11 ?_
  refine r_putI C hM3 jc3 6 ⟨by decide, by decide⟩ dX3_readFrom_12 lk_X3_32 (ls_1 hs).1 (ls_1 hs).2 rfl rfl (by decide) rfl rfl rfl (Nat.le_of_ble_eq_true rfl) (by decide) (fun H locs hM5 => ?_)
  replace h := lt_some h
  obtain ⟨N6, eN6, h⟩ := h
  rw [← eN6] at hM5
  refine r_iconst C dX3_readFrom_15 ?_
  refine r_istore_n C [(2, .int (jI 0)), (0, .ref (z + (s + 1))), (1, .ref (z + 1))] dX3_readFrom_16 rfl hl (by decide) rfl (fun ls hl => ?_)
  have hL17 : ∀ n17 : Nat, ∀ (x2 : Int) (M : Mem), inR x2 → ∀ (H : Heap) (locs : List Loc) (ls : Array Slot), f_X3_readFrom_L17 s n17  x2 M = some (r, M') → HS E z LyC M sM H locs → lv_has ls 3 [(0, .ref (z + (s + 1))), (1, .ref (z + 1)), (2, .int (jI x2))] → W p l e ({ frames := 9, cells := 0, slots := 0, locals := 364 } : Room) sM m (([.ref (z + (s + 1)), .ref (z + 1)] : List Value).toArray) below meth c H locs 0 0 (MQ below (va_Qi (fun (w : Int32) (_ : Unit) => w = jI r ∧ inR r ∧ Mok LyC M') (fun _ t => va_P (eD E) vwCl (Wd (eC E) z LyC M') t.heap) (eA E)) (([.ref (z + (s + 1)), .ref (z + 1)] : List Value).toArray) sM 0 0 (eA E)) (F0 m 17 ls []) := by
    intro n17
    induction n17 with
    | zero =>
      intro x2 M hx2 H locs ls h hM hl
      exact absurd h (by simp [f_X3_readFrom_L17])
    | succ n17 ih17 =>
      intro x2 M hx2 H locs ls h hM hl
      rw [f_X3_readFrom_L17] at h
      refine r_iload_n C dX3_readFrom_17 rfl hl 2 rfl ?_
      refine r_iconst C dX3_readFrom_18 ?_
      refine r_icmp_ge C 46 hx2 ⟨by decide, by decide⟩ dX3_readFrom_19 (by decide) (fun cq => ?_) (fun cq => ?_)
      · replace h := ifp cq h
        refine r_aload_n C dX3_readFrom_46 rfl hl 1 rfl ?_
        replace h := bd_some h
        obtain ⟨M47, hf47, h⟩ := h
        refine r_callV (As := []) (rest := []) C hM (c_X8_startReading l E z hf47) jy_X8_startReading lk_X3_68 dX3_readFrom_47 (recvW C hM jc8 lc_1.1 lc_1.2 rfl) rfl rfl hl.1 (Nat.le_of_ble_eq_true rfl) ⟨Nat.le_of_ble_eq_true rfl, Nat.le_of_ble_eq_true rfl⟩ ⟨rfl, rfl⟩ ⟨Nat.zero_le _, Nat.zero_le _⟩ (fun H locs hM7 => ?_)
        refine r_iconst C dX3_readFrom_50 ?_
        refine r_istore_n C [(2, .int (jI 0)), (0, .ref (z + (s + 1))), (1, .ref (z + 1))] dX3_readFrom_51 rfl hl (by decide) rfl (fun ls hl => ?_)
        have hL52 : ∀ n52 : Nat, ∀ (x2 : Int) (M : Mem), inR x2 → ∀ (H : Heap) (locs : List Loc) (ls : Array Slot), f_X3_readFrom_L52 s n52  x2 M = some (r, M') → HS E z LyC M sM H locs → lv_has ls 3 [(0, .ref (z + (s + 1))), (1, .ref (z + 1)), (2, .int (jI x2))] → W p l e ({ frames := 9, cells := 0, slots := 0, locals := 364 } : Room) sM m (([.ref (z + (s + 1)), .ref (z + 1)] : List Value).toArray) below meth c H locs 0 0 (MQ below (va_Qi (fun (w : Int32) (_ : Unit) => w = jI r ∧ inR r ∧ Mok LyC M') (fun _ t => va_P (eD E) vwCl (Wd (eC E) z LyC M') t.heap) (eA E)) (([.ref (z + (s + 1)), .ref (z + 1)] : List Value).toArray) sM 0 0 (eA E)) (F0 m 52 ls []) := by
          intro n52
          induction n52 with
          | zero =>
            intro x2 M hx2 H locs ls h hM hl
            exact absurd h (by simp [f_X3_readFrom_L52])
          | succ n52 ih52 =>
            intro x2 M hx2 H locs ls h hM hl
            rw [f_X3_readFrom_L52] at h
            refine r_iload_n C dX3_readFrom_52 rfl hl 2 rfl ?_
            refine r_sipush C dX3_readFrom_53 rfl ?_
            refine r_icmp_ge C 90 hx2 ⟨by decide, by decide⟩ dX3_readFrom_56 (by decide) (fun cq => ?_) (fun cq => ?_)
            · replace h := ifp cq h
              refine r_iconst C dX3_readFrom_90 ?_
              exact r_zreturnM C hM hr hlk (Or.inr rfl) h dX3_readFrom_91
            · replace h := ifn cq h
              refine r_aload_n C dX3_readFrom_59 rfl hl 1 rfl ?_
              refine r_getI C hM jc8 2 rfl dX3_readFrom_60 lk_X3_73 lc_1.1 lc_1.2 rfl rfl (by decide) rfl ?_
              refine r_if_eq C 90 (hM.ok _ _) dX3_readFrom_63 (by decide) (fun cq => ?_) (fun cq => ?_)
              · replace h := ifp cq h
                refine r_iconst C dX3_readFrom_90 ?_
                exact r_zreturnM C hM hr hlk (Or.inr rfl) h dX3_readFrom_91
              · replace h := ifn cq h
                refine r_aload_n C dX3_readFrom_66 rfl hl 0 rfl ?_
                refine r_aload_n C dX3_readFrom_67 rfl hl 1 rfl ?_
                replace h := bd_some h
                obtain ⟨⟨r68, M68⟩, hf68, h⟩ := h
                try dsimp only at h
                refine r_callI (As := [.ref (z + 1)]) (rest := []) C hM (c_X3_readStatement l E z hs hf68) jy_X3_readStatement lk_X3_76 dX3_readFrom_68 (recvW C hM jc3 (ls_1 hs).1 (ls_1 hs).2 rfl) rfl rfl hl.1 (Nat.le_of_ble_eq_true rfl) ⟨Nat.le_of_ble_eq_true rfl, Nat.le_of_ble_eq_true rfl⟩ ⟨rfl, rfl⟩ ⟨Nat.zero_le _, Nat.zero_le _⟩ (fun H locs hr68 hM8 => ?_)
                refine r_if_eq C 82 hr68 dX3_readFrom_71 (by decide) (fun cq => ?_) (fun cq => ?_)
                · replace h := ifp cq h
                  refine r_iconst C dX3_readFrom_82 ?_
                  exact r_zreturnM C hM8 hr hlk (Or.inl rfl) h dX3_readFrom_83
                · replace h := ifn cq h
                  refine r_aload_n C dX3_readFrom_74 rfl hl 1 rfl ?_
                  refine r_iconst C dX3_readFrom_75 ?_
                  replace h := bd_some h
                  obtain ⟨⟨r76, M76⟩, hf76, h⟩ := h
                  try dsimp only at h
                  refine r_callI (As := [.int (jI 3)]) (rest := []) C hM8 (c_X8_take l E z ⟨by decide, by decide⟩ hf76) jy_X8_take lk_X3_80 dX3_readFrom_76 (recvW C hM8 jc8 lc_1.1 lc_1.2 rfl) rfl rfl hl.1 (Nat.le_of_ble_eq_true rfl) ⟨Nat.le_of_ble_eq_true rfl, Nat.le_of_ble_eq_true rfl⟩ ⟨rfl, rfl⟩ ⟨Nat.zero_le _, Nat.zero_le _⟩ (fun H locs hr76 hM9 => ?_)
                  refine r_if_ne C 84 hr76 dX3_readFrom_79 (by decide) (fun cq => ?_) (fun cq => ?_)
                  · replace h := ifn cq h
                    replace h := ck_some h
                    obtain ⟨hc10, h⟩ := h
                    refine r_iinc (j := 2) (x := x2) C [(2, .int (jI (x2 + 1))), (0, .ref (z + (s + 1))), (1, .ref (z + 1))] dX3_readFrom_84 hl rfl (by decide) rfl (fun ls hl => ?_)
                    refine r_goto C 52 dX3_readFrom_87 (by decide) ?_
                    exact ih52 _ _ hc10 _ _ _ h hM9 (lv_sub hl [1, 2, 0] rfl)
                  · replace h := ifp cq h
                    refine r_iconst C dX3_readFrom_82 ?_
                    exact r_zreturnM C hM9 hr hlk (Or.inl rfl) h dX3_readFrom_83
        exact hL52 jFuel _ _ ⟨by decide, by decide⟩ _ _ _ h hM7 (lv_sub hl [1, 2, 0] rfl)
      · replace h := ifn cq h
        refine r_aload_n C dX3_readFrom_22 rfl hl 0 rfl ?_
        refine r_getR C hM jc3 10 (s + 9) dX3_readFrom_23 lk_X3_44 (ls_1 hs).1 (ls_1 hs).2 rfl rfl (by decide) rfl ?_
        refine r_iload_n C dX3_readFrom_26 rfl hl 2 rfl ?_
        refine r_getsN C hM 0 (by decide) rfl rfl (by decide) dX3_readFrom_27 ?_
        refine r_iload_n C dX3_readFrom_30 rfl hl 2 rfl ?_
        replace h := ck_some h
        obtain ⟨hc11, h⟩ := h
        refine r_tald C hM 0 (by decide) hc11 hx2 dX3_readFrom_31 ?_
        refine r_iast C hM dX3_readFrom_32 (ls_9 hs).1 (ls_9 hs).2 hc11 hx2 (jTab_R _ _) (fun H locs hM12 => ?_)
        replace h := lt_some h
        obtain ⟨N13, eN13, h⟩ := h
        rw [← eN13] at hM12
        refine r_aload_n C dX3_readFrom_33 rfl hl 0 rfl ?_
        refine r_getR C hM12 jc3 11 (s + 10) dX3_readFrom_34 lk_X3_47 (ls_1 hs).1 (ls_1 hs).2 rfl rfl (by decide) rfl ?_
        refine r_iload_n C dX3_readFrom_37 rfl hl 2 rfl ?_
        refine r_iconst C dX3_readFrom_38 ?_
        refine r_zast C hM12 dX3_readFrom_39 (ls_10 hs).1 (ls_10 hs).2 hc11 hx2 (fun H locs hM14 => ?_)
        replace h := lt_some h
        obtain ⟨N15, eN15, h⟩ := h
        rw [← eN15] at hM14
        replace h := ck_some h
        obtain ⟨hc16, h⟩ := h
        refine r_iinc (j := 2) (x := x2) C [(2, .int (jI (x2 + 1))), (0, .ref (z + (s + 1))), (1, .ref (z + 1))] dX3_readFrom_40 hl rfl (by decide) rfl (fun ls hl => ?_)
        refine r_goto C 17 dX3_readFrom_43 (by decide) ?_
        exact ih17 _ _ hc16 _ _ _ h hM14 (lv_sub hl [1, 2, 0] rfl)
  exact hL17 jFuel _ _ ⟨by decide, by decide⟩ _ _ _ h hM5 (lv_sub hl [1, 2, 0] rfl)
