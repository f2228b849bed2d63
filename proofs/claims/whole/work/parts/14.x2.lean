set_option maxRecDepth 100000 in
set_option maxHeartbeats 4000000 in
theorem c_X2_clear (l : Launch) (E : jE) (z : Nat) {s : Nat} {M M' : Mem} (hs : isSt s) (h : f_X2_clear s M = some M') : CtV l yX2_clear cX2_clear 1 none { frames := 0, cells := 0, slots := 0, locals := 0 } E z LyC [.ref (z + (s + 17))] M M' := by
  refine jm (by decide +kernel) (Nat.le_of_ble_eq_true rfl) ?_
  intro p e sM m below meth c C hM0 hr hlk ls hl
  replace hl : lv_has ls 1 [(0, .ref (z + (s + 17)))] := hl
  unfold f_X2_clear at h
  refine r_aload_n C dX2_clear_0 rfl hl 0 rfl ?_
  refine r_iconst C dX2_clear_1 ?_
  refine r_putI C hM0 jc2 0 ⟨by decide, by decide⟩ dX2_clear_2 lk_X2_9 (ls_17 hs).1 (ls_17 hs).2 rfl rfl (by decide) rfl rfl rfl (Nat.le_of_ble_eq_true rfl) (by decide) (fun H locs hM1 => ?_)
  replace h := lt_some h
  obtain ⟨N2, eN2, h⟩ := h
  rw [← eN2] at hM1
  exact r_return C hM1 hr hlk h dX2_clear_5
set_option maxRecDepth 100000 in
set_option maxHeartbeats 4000000 in
theorem c_X2_copyFrom (l : Launch) (E : jE) (z : Nat) {s : Nat} {s1 : Nat} {M M' : Mem} (hs : isSt s) (hs1 : isSt s1) (h : f_X2_copyFrom s s1 M = some M') : CtV l yX2_copyFrom cX2_copyFrom 2 none { frames := 1, cells := 0, slots := 0, locals := 18 } E z LyC [.ref (z + (s + 17)), .ref (z + (s1 + 17))] M M' := by
  refine jm (by decide +kernel) (Nat.le_of_ble_eq_true rfl) ?_
  intro p e sM m below meth c C hM0 hr hlk ls hl
  replace hl : lv_has ls 2 [(0, .ref (z + (s + 17))), (1, .ref (z + (s1 + 17)))] := hl
  unfold f_X2_copyFrom at h
  refine r_aload_n C dX2_copyFrom_0 rfl hl 0 rfl ?_
  refine r_aload_n C dX2_copyFrom_1 rfl hl 1 rfl ?_
  refine r_getI C hM0 jc2 0 rfl dX2_copyFrom_2 lk_X2_9 (ls_17 hs1).1 (ls_17 hs1).2 rfl rfl (by decide) rfl ?_
  refine r_putI C hM0 jc2 0 (hM0.ok _ _) dX2_copyFrom_5 lk_X2_9 (ls_17 hs).1 (ls_17 hs).2 rfl rfl (by decide) rfl rfl rfl (Nat.le_of_ble_eq_true rfl) (by decide) (fun H locs hM1 => ?_)
  replace h := lt_some h
  obtain ⟨N2, eN2, h⟩ := h
  rw [← eN2] at hM1
  refine r_aload_n C dX2_copyFrom_8 rfl hl 1 rfl ?_
  refine r_getR C hM1 jc2 1 (s1 + 18) dX2_copyFrom_9 lk_X2_15 (ls_17 hs1).1 (ls_17 hs1).2 rfl rfl (by decide) rfl ?_
  refine r_iconst C dX2_copyFrom_12 ?_
  refine r_aload_n C dX2_copyFrom_13 rfl hl 0 rfl ?_
  refine r_getR C hM1 jc2 1 (s + 18) dX2_copyFrom_14 lk_X2_15 (ls_17 hs).1 (ls_17 hs).2 rfl rfl (by decide) rfl ?_
  refine r_iconst C dX2_copyFrom_17 ?_
  refine r_bipush C dX2_copyFrom_18 rfl ?_
  refine r_copy (t := 0) C hM1 lk_X2_34 dX2_copyFrom_20 (Or.inl ⟨rfl, rfl⟩) rfl (ls_18 hs1).1 (ls_18 hs).1 (ls_18 hs1).2 (ls_18 hs).2 ⟨by decide, by decide⟩ ⟨by decide, by decide⟩ ⟨by decide, by decide⟩ (show ((0 : Int) ≤ 0 ∧ (0 : Int) ≤ 0 ∧ (0 : Int) ≤ 30 ∧ (0 + 30 : Int) ≤ 30 ∧ (0 + 30 : Int) ≤ 30 : Prop) by decide) hl.1 ⟨Nat.le_of_ble_eq_true rfl, Nat.le_of_ble_eq_true rfl⟩ (fun H locs hM3 => ?_)
  replace h := lt_some h
  obtain ⟨N4, eN4, h⟩ := h
  rw [← eN4] at hM3
  refine r_aload_n C dX2_copyFrom_23 rfl hl 1 rfl ?_
  refine r_getR C hM3 jc2 2 (s1 + 19) dX2_copyFrom_24 lk_X2_19 (ls_17 hs1).1 (ls_17 hs1).2 rfl rfl (by decide) rfl ?_
  refine r_iconst C dX2_copyFrom_27 ?_
  refine r_aload_n C dX2_copyFrom_28 rfl hl 0 rfl ?_
  refine r_getR C hM3 jc2 2 (s + 19) dX2_copyFrom_29 lk_X2_19 (ls_17 hs).1 (ls_17 hs).2 rfl rfl (by decide) rfl ?_
  refine r_iconst C dX2_copyFrom_32 ?_
  refine r_bipush C dX2_copyFrom_33 rfl ?_
  refine r_copy (t := 0) C hM3 lk_X2_34 dX2_copyFrom_35 (Or.inl ⟨rfl, rfl⟩) rfl (ls_19 hs1).1 (ls_19 hs).1 (ls_19 hs1).2 (ls_19 hs).2 ⟨by decide, by decide⟩ ⟨by decide, by decide⟩ ⟨by decide, by decide⟩ (show ((0 : Int) ≤ 0 ∧ (0 : Int) ≤ 0 ∧ (0 : Int) ≤ 30 ∧ (0 + 30 : Int) ≤ 30 ∧ (0 + 30 : Int) ≤ 30 : Prop) by decide) hl.1 ⟨Nat.le_of_ble_eq_true rfl, Nat.le_of_ble_eq_true rfl⟩ (fun H locs hM5 => ?_)
  replace h := lt_some h
  obtain ⟨N6, eN6, h⟩ := h
  rw [← eN6] at hM5
  refine r_aload_n C dX2_copyFrom_38 rfl hl 1 rfl ?_
  refine r_getR C hM5 jc2 3 (s1 + 20) dX2_copyFrom_39 lk_X2_22 (ls_17 hs1).1 (ls_17 hs1).2 rfl rfl (by decide) rfl ?_
  refine r_iconst C dX2_copyFrom_42 ?_
  refine r_aload_n C dX2_copyFrom_43 rfl hl 0 rfl ?_
  refine r_getR C hM5 jc2 3 (s + 20) dX2_copyFrom_44 lk_X2_22 (ls_17 hs).1 (ls_17 hs).2 rfl rfl (by decide) rfl ?_
  refine r_iconst C dX2_copyFrom_47 ?_
  refine r_bipush C dX2_copyFrom_48 rfl ?_
  refine r_copy (t := 0) C hM5 lk_X2_34 dX2_copyFrom_50 (Or.inl ⟨rfl, rfl⟩) rfl (ls_20 hs1).1 (ls_20 hs).1 (ls_20 hs1).2 (ls_20 hs).2 ⟨by decide, by decide⟩ ⟨by decide, by decide⟩ ⟨by decide, by decide⟩ (show ((0 : Int) ≤ 0 ∧ (0 : Int) ≤ 0 ∧ (0 : Int) ≤ 30 ∧ (0 + 30 : Int) ≤ 30 ∧ (0 + 30 : Int) ≤ 30 : Prop) by decide) hl.1 ⟨Nat.le_of_ble_eq_true rfl, Nat.le_of_ble_eq_true rfl⟩ (fun H locs hM7 => ?_)
  replace h := lt_some h
  obtain ⟨N8, eN8, h⟩ := h
  rw [← eN8] at hM7
  refine r_aload_n C dX2_copyFrom_53 rfl hl 1 rfl ?_
  refine r_getR C hM7 jc2 4 (s1 + 21) dX2_copyFrom_54 lk_X2_25 (ls_17 hs1).1 (ls_17 hs1).2 rfl rfl (by decide) rfl ?_
  refine r_iconst C dX2_copyFrom_57 ?_
  refine r_aload_n C dX2_copyFrom_58 rfl hl 0 rfl ?_
  refine r_getR C hM7 jc2 4 (s + 21) dX2_copyFrom_59 lk_X2_25 (ls_17 hs).1 (ls_17 hs).2 rfl rfl (by decide) rfl ?_
  refine r_iconst C dX2_copyFrom_62 ?_
  refine r_bipush C dX2_copyFrom_63 rfl ?_
  refine r_copy (t := 0) C hM7 lk_X2_34 dX2_copyFrom_65 (Or.inl ⟨rfl, rfl⟩) rfl (ls_21 hs1).1 (ls_21 hs).1 (ls_21 hs1).2 (ls_21 hs).2 ⟨by decide, by decide⟩ ⟨by decide, by decide⟩ ⟨by decide, by decide⟩ (show ((0 : Int) ≤ 0 ∧ (0 : Int) ≤ 0 ∧ (0 : Int) ≤ 30 ∧ (0 + 30 : Int) ≤ 30 ∧ (0 + 30 : Int) ≤ 30 : Prop) by decide) hl.1 ⟨Nat.le_of_ble_eq_true rfl, Nat.le_of_ble_eq_true rfl⟩ (fun H locs hM9 => ?_)
  replace h := lt_some h
  obtain ⟨N10, eN10, h⟩ := h
  rw [← eN10] at hM9
  refine r_aload_n C dX2_copyFrom_68 rfl hl 1 rfl ?_
  refine r_getR C hM9 jc2 5 (s1 + 22) dX2_copyFrom_69 lk_X2_28 (ls_17 hs1).1 (ls_17 hs1).2 rfl rfl (by decide) rfl ?_
  refine r_iconst C dX2_copyFrom_72 ?_
  refine r_aload_n C dX2_copyFrom_73 rfl hl 0 rfl ?_
  refine r_getR C hM9 jc2 5 (s + 22) dX2_copyFrom_74 lk_X2_28 (ls_17 hs).1 (ls_17 hs).2 rfl rfl (by decide) rfl ?_
  refine r_iconst C dX2_copyFrom_77 ?_
  refine r_bipush C dX2_copyFrom_78 rfl ?_
  refine r_copy (t := 0) C hM9 lk_X2_34 dX2_copyFrom_80 (Or.inl ⟨rfl, rfl⟩) rfl (ls_22 hs1).1 (ls_22 hs).1 (ls_22 hs1).2 (ls_22 hs).2 ⟨by decide, by decide⟩ ⟨by decide, by decide⟩ ⟨by decide, by decide⟩ (show ((0 : Int) ≤ 0 ∧ (0 : Int) ≤ 0 ∧ (0 : Int) ≤ 30 ∧ (0 + 30 : Int) ≤ 30 ∧ (0 + 30 : Int) ≤ 30 : Prop) by decide) hl.1 ⟨Nat.le_of_ble_eq_true rfl, Nat.le_of_ble_eq_true rfl⟩ (fun H locs hM11 => ?_)
  replace h := lt_some h
  obtain ⟨N12, eN12, h⟩ := h
  rw [← eN12] at hM11
  exact r_return C hM11 hr hlk h dX2_copyFrom_83
set_option maxRecDepth 100000 in
set_option maxHeartbeats 4000000 in
theorem c_X2_add (l : Launch) (E : jE) (z : Nat) {s : Nat} {x1 : Int} {x2 : Int} {x3 : Int} {x4 : Int} {x5 : Int} {M M' : Mem} (hs : isSt s) (hx1 : inR x1) (hx2 : inR x2) (hx3 : inR x3) (hx4 : inR x4) (hx5 : inR x5) (h : f_X2_add s x1 x2 x3 x4 x5 M = some M') : CtV l yX2_add cX2_add 6 none { frames := 0, cells := 0, slots := 0, locals := 0 } E z LyC [.ref (z + (s + 17)), .int (jI x1), .int (jI x2), .int (jI x3), .int (jI x4), .int (jI x5)] M M' := by
  refine jm (by decide +kernel) (Nat.le_of_ble_eq_true rfl) ?_
  intro p e sM m below meth c C hM0 hr hlk ls hl
  replace hl : lv_has ls 6 [(0, .ref (z + (s + 17))), (1, .int (jI x1)), (2, .int (jI x2)), (3, .int (jI x3)), (4, .int (jI x4)), (5, .int (jI x5))] := hl
  unfold f_X2_add at h
  refine r_aload_n C dX2_add_0 rfl hl 0 rfl ?_
  refine r_getI C hM0 jc2 0 rfl dX2_add_1 lk_X2_9 (ls_17 hs).1 (ls_17 hs).2 rfl rfl (by decide) rfl ?_
  refine r_bipush C dX2_add_4 rfl ?_
  refine r_icmp_lt C 10 (hM0.ok _ _) ⟨by decide, by decide⟩ dX2_add_6 (by decide) (fun cq => ?_) (fun cq => ?_)
  · replace h := ifp cq h
    refine r_aload_n C dX2_add_10 rfl hl 0 rfl ?_
    refine r_getR C hM0 jc2 1 (s + 18) dX2_add_11 lk_X2_15 (ls_17 hs).1 (ls_17 hs).2 rfl rfl (by decide) rfl ?_
    refine r_aload_n C dX2_add_14 rfl hl 0 rfl ?_
    refine r_getI C hM0 jc2 0 rfl dX2_add_15 lk_X2_9 (ls_17 hs).1 (ls_17 hs).2 rfl rfl (by decide) rfl ?_
    refine r_iload_n C dX2_add_18 rfl hl 1 rfl ?_
    replace h := ck_some h
    obtain ⟨hc1, h⟩ := h
    refine r_iast C hM0 dX2_add_19 (ls_18 hs).1 (ls_18 hs).2 hc1 (hM0.ok _ _) hx1 (fun H locs hM2 => ?_)
    replace h := lt_some h
    obtain ⟨N3, eN3, h⟩ := h
    rw [← eN3] at hM2
    refine r_aload_n C dX2_add_20 rfl hl 0 rfl ?_
    refine r_getR C hM2 jc2 2 (s + 19) dX2_add_21 lk_X2_19 (ls_17 hs).1 (ls_17 hs).2 rfl rfl (by decide) rfl ?_
    refine r_aload_n C dX2_add_24 rfl hl 0 rfl ?_
    refine r_getI C hM2 jc2 0 (rd_skip eN3 (ne_off (by decide)) rfl) dX2_add_25 lk_X2_9 (ls_17 hs).1 (ls_17 hs).2 rfl rfl (by decide) rfl ?_
    refine r_iload_n C dX2_add_28 rfl hl 2 rfl ?_
    refine r_iast C hM2 dX2_add_29 (ls_19 hs).1 (ls_19 hs).2 hc1 (hM0.ok _ _) hx2 (fun H locs hM4 => ?_)
    replace h := lt_some h
    obtain ⟨N5, eN5, h⟩ := h
    rw [← eN5] at hM4
    refine r_aload_n C dX2_add_30 rfl hl 0 rfl ?_
    refine r_getR C hM4 jc2 3 (s + 20) dX2_add_31 lk_X2_22 (ls_17 hs).1 (ls_17 hs).2 rfl rfl (by decide) rfl ?_
    refine r_aload_n C dX2_add_34 rfl hl 0 rfl ?_
    refine r_getI C hM4 jc2 0 (rd_skip eN5 (ne_off (by decide)) (rd_skip eN3 (ne_off (by decide)) rfl)) dX2_add_35 lk_X2_9 (ls_17 hs).1 (ls_17 hs).2 rfl rfl (by decide) rfl ?_
    refine r_iload_n C dX2_add_38 rfl hl 3 rfl ?_
    refine r_iast C hM4 dX2_add_39 (ls_20 hs).1 (ls_20 hs).2 hc1 (hM0.ok _ _) hx3 (fun H locs hM6 => ?_)
    replace h := lt_some h
    obtain ⟨N7, eN7, h⟩ := h
    rw [← eN7] at hM6
    refine r_aload_n C dX2_add_40 rfl hl 0 rfl ?_
    refine r_getR C hM6 jc2 4 (s + 21) dX2_add_41 lk_X2_25 (ls_17 hs).1 (ls_17 hs).2 rfl rfl (by decide) rfl ?_
    refine r_aload_n C dX2_add_44 rfl hl 0 rfl ?_
    refine r_getI C hM6 jc2 0 (rd_skip eN7 (ne_off (by decide)) (rd_skip eN5 (ne_off (by decide)) (rd_skip eN3 (ne_off (by decide)) rfl))) dX2_add_45 lk_X2_9 (ls_17 hs).1 (ls_17 hs).2 rfl rfl (by decide) rfl ?_
    refine r_iload C dX2_add_48 hl 4 rfl ?_
    refine r_iast C hM6 dX2_add_50 (ls_21 hs).1 (ls_21 hs).2 hc1 (hM0.ok _ _) hx4 (fun H locs hM8 => ?_)
    replace h := lt_some h
    obtain ⟨N9, eN9, h⟩ := h
    rw [← eN9] at hM8
    refine r_aload_n C dX2_add_51 rfl hl 0 rfl ?_
    refine r_getR C hM8 jc2 5 (s + 22) dX2_add_52 lk_X2_28 (ls_17 hs).1 (ls_17 hs).2 rfl rfl (by decide) rfl ?_
    refine r_aload_n C dX2_add_55 rfl hl 0 rfl ?_
    refine r_getI C hM8 jc2 0 (rd_skip eN9 (ne_off (by decide)) (rd_skip eN7 (ne_off (by decide)) (rd_skip eN5 (ne_off (by decide)) (rd_skip eN3 (ne_off (by decide)) rfl)))) dX2_add_56 lk_X2_9 (ls_17 hs).1 (ls_17 hs).2 rfl rfl (by decide) rfl ?_
    refine r_iload C dX2_add_59 hl 5 rfl ?_
    refine r_iast C hM8 dX2_add_61 (ls_22 hs).1 (ls_22 hs).2 hc1 (hM0.ok _ _) hx5 (fun H locs hM10 => ?_)
    replace h := lt_some h
    obtain ⟨N11, eN11, h⟩ := h
    rw [← eN11] at hM10
    refine r_aload_n C dX2_add_62 rfl hl 0 rfl ?_
    refine r_dup C dX2_add_63 rfl ?_
    refine r_getI C hM10 jc2 0 (rd_skip eN11 (ne_off (by decide)) (rd_skip eN9 (ne_off (by decide)) (rd_skip eN7 (ne_off (by decide)) (rd_skip eN5 (ne_off (by decide)) (rd_skip eN3 (ne_off (by decide)) rfl))))) dX2_add_64 lk_X2_9 (ls_17 hs).1 (ls_17 hs).2 rfl rfl (by decide) rfl ?_
    refine r_iconst C dX2_add_67 ?_
    replace h := ck_some h
    obtain ⟨hc12, h⟩ := h
    refine r_iadd C dX2_add_68 ?_
    refine r_putI C hM10 jc2 0 hc12 dX2_add_69 lk_X2_9 (ls_17 hs).1 (ls_17 hs).2 rfl rfl (by decide) rfl rfl rfl (Nat.le_of_ble_eq_true rfl) (by decide) (fun H locs hM13 => ?_)
    replace h := lt_some h
    obtain ⟨N14, eN14, h⟩ := h
    rw [← eN14] at hM13
    exact r_return C hM13 hr hlk h dX2_add_72
  · replace h := ifn cq h
    exact r_return C hM0 hr hlk h dX2_add_9
set_option maxRecDepth 100000 in
set_option maxHeartbeats 4000000 in
theorem c_X2_topIndex (l : Launch) (E : jE) (z : Nat) {s : Nat} {x1 : Int} {M : Mem} {r : Int} (hs : isSt s) (hx1 : inR x1) (h : f_X2_topIndex s x1 M = some r) : CtI l yX2_topIndex cX2_topIndex 4 (some .int) { frames := 0, cells := 0, slots := 0, locals := 0 } E z LyC [.ref (z + (s + 17)), .int (jI x1)] M r M := by
  refine jm (by decide +kernel) (Nat.le_of_ble_eq_true rfl) ?_
  intro p e sM m below meth c C hM0 hr hlk ls hl
  replace hl : lv_has ls 4 [(0, .ref (z + (s + 17))), (1, .int (jI x1))] := hl
  unfold f_X2_topIndex at h
  refine r_iconst C dX2_topIndex_0 ?_
  refine r_istore_n C [(2, .int (jI 0)), (0, .ref (z + (s + 17))), (1, .int (jI x1))] dX2_topIndex_1 rfl hl (by decide) rfl (fun ls hl => ?_)
  refine r_iconst C dX2_topIndex_2 ?_
  refine r_istore_n C [(3, .int (jI 0)), (2, .int (jI 0)), (0, .ref (z + (s + 17))), (1, .int (jI x1))] dX2_topIndex_3 rfl hl (by decide) rfl (fun ls hl => ?_)
  have hL4 : ∀ n4 : Nat, ∀ (x2 : Int) (x3 : Int), inR x2 → inR x3 → ∀ (H : Heap) (locs : List Loc) (ls : Array Slot), f_X2_topIndex_L4 s x1 M n4  x2 x3 = some r → HS E z LyC M sM H locs → lv_has ls 4 [(0, .ref (z + (s + 17))), (1, .int (jI x1)), (2, .int (jI x2)), (3, .int (jI x3))] → W p l e ({ frames := 0, cells := 0, slots := 0, locals := 0 } : Room) sM m (([.ref (z + (s + 17)), .int (jI x1)] : List Value).toArray) below meth c H locs 0 0 (MQ below (va_Qi (fun (w : Int32) (_ : Unit) => w = jI r ∧ inR r ∧ Mok LyC M) (fun _ t => va_P (eD E) vwCl (Wd (eC E) z LyC M) t.heap) (eA E)) (([.ref (z + (s + 17)), .int (jI x1)] : List Value).toArray) sM 0 0 (eA E)) (F0 m 4 ls []) := by
    intro n4
    induction n4 with
    | zero =>
      intro x2 x3 hx2 hx3 H locs ls h hM hl
      exact absurd h (by simp [f_X2_topIndex_L4])
    | succ n4 ih4 =>
      intro x2 x3 hx2 hx3 H locs ls h hM hl
      rw [f_X2_topIndex_L4] at h
      refine r_iload_n C dX2_topIndex_4 rfl hl 3 rfl ?_
      refine r_aload_n C dX2_topIndex_5 rfl hl 0 rfl ?_
      refine r_getI C hM jc2 0 rfl dX2_topIndex_6 lk_X2_9 (ls_17 hs).1 (ls_17 hs).2 rfl rfl (by decide) rfl ?_
      refine r_icmp_ge C 37 hx3 (hM.ok _ _) dX2_topIndex_9 (by decide) (fun cq => ?_) (fun cq => ?_)
      · replace h := ifp cq h
        refine r_aload_n C dX2_topIndex_37 rfl hl 0 rfl ?_
        refine r_getI C hM jc2 0 rfl dX2_topIndex_38 lk_X2_9 (ls_17 hs).1 (ls_17 hs).2 rfl rfl (by decide) rfl ?_
        exact r_ireturn C hM hr hlk (hM.ok _ _) h rfl dX2_topIndex_41
      · replace h := ifn cq h
        refine r_aload_n C dX2_topIndex_12 rfl hl 0 rfl ?_
        refine r_getR C hM jc2 5 (s + 22) dX2_topIndex_13 lk_X2_28 (ls_17 hs).1 (ls_17 hs).2 rfl rfl (by decide) rfl ?_
        refine r_iload_n C dX2_topIndex_16 rfl hl 3 rfl ?_
        replace h := ck_some h
        obtain ⟨hc1, h⟩ := h
        refine r_iald C hM rfl dX2_topIndex_17 (ls_22 hs).1 (ls_22 hs).2 hc1 hx3 ?_
        refine r_if_ne C 31 (hM.ok _ _) dX2_topIndex_18 (by decide) (fun cq => ?_) (fun cq => ?_)
        · replace h := ifn cq h
          replace h := ck_some h
          obtain ⟨hc2, h⟩ := h
          refine r_iinc (j := 3) (x := x3) C [(3, .int (jI (x3 + 1))), (0, .ref (z + (s + 17))), (1, .int (jI x1)), (2, .int (jI x2))] dX2_topIndex_31 hl rfl (by decide) rfl (fun ls hl => ?_)
          refine r_goto C 4 dX2_topIndex_34 (by decide) ?_
          exact ih4 _ _ hx2 hc2 _ _ _ h hM (lv_sub hl [1, 2, 3, 0] rfl)
        · replace h := ifp cq h
          refine r_iload_n C dX2_topIndex_21 rfl hl 2 rfl ?_
          refine r_iload_n C dX2_topIndex_22 rfl hl 1 rfl ?_
          refine r_icmp_ne C 28 hx2 hx1 dX2_topIndex_23 (by decide) (fun cq => ?_) (fun cq => ?_)
          · replace h := ifn cq h
            replace h := ck_some h
            obtain ⟨hc3, h⟩ := h
            refine r_iinc (j := 2) (x := x2) C [(2, .int (jI (x2 + 1))), (0, .ref (z + (s + 17))), (1, .int (jI x1)), (3, .int (jI x3))] dX2_topIndex_28 hl rfl (by decide) rfl (fun ls hl => ?_)
            replace h := ck_some h
            obtain ⟨hc4, h⟩ := h
            refine r_iinc (j := 3) (x := x3) C [(3, .int (jI (x3 + 1))), (2, .int (jI (x2 + 1))), (0, .ref (z + (s + 17))), (1, .int (jI x1))] dX2_topIndex_31 hl rfl (by decide) rfl (fun ls hl => ?_)
            refine r_goto C 4 dX2_topIndex_34 (by decide) ?_
            exact ih4 _ _ hc3 hc4 _ _ _ h hM (lv_sub hl [2, 3, 1, 0] rfl)
          · replace h := ifp cq h
            refine r_iload_n C dX2_topIndex_26 rfl hl 3 rfl ?_
            exact r_ireturn C hM hr hlk hx3 h rfl dX2_topIndex_27
  exact hL4 jFuel _ _ ⟨by decide, by decide⟩ ⟨by decide, by decide⟩ _ _ _ h hM0 (lv_sub hl [2, 3, 1, 0] rfl)
set_option maxRecDepth 100000 in
set_option maxHeartbeats 4000000 in
theorem c_X2_addTop (l : Launch) (E : jE) (z : Nat) {s : Nat} {s1 : Nat} {x2 : Int} {M M' : Mem} (hs : isSt s) (hs1 : isSt s1) (hx2 : inR x2) (h : f_X2_addTop s s1 x2 M = some M') : CtV l yX2_addTop cX2_addTop 5 none { frames := 1, cells := 0, slots := 0, locals := 25 } E z LyC [.ref (z + (s + 17)), .ref (z + (s1 + 17)), .int (jI x2)] M M' := by
  refine jm (by decide +kernel) (Nat.le_of_ble_eq_true rfl) ?_
  intro p e sM m below meth c C hM0 hr hlk ls hl
  replace hl : lv_has ls 5 [(0, .ref (z + (s + 17))), (1, .ref (z + (s1 + 17))), (2, .int (jI x2))] := hl
  unfold f_X2_addTop at h
  refine r_aload_n C dX2_addTop_0 rfl hl 1 rfl ?_
  refine r_iload_n C dX2_addTop_1 rfl hl 2 rfl ?_
  refine r_iconst C dX2_addTop_2 ?_
  replace h := ck_some h
  obtain ⟨hc1, h⟩ := h
  refine r_iadd C dX2_addTop_3 ?_
  replace h := bd_some h
  obtain ⟨r4, hf4, h⟩ := h
  refine r_callI (As := [.int (jI (x2 + 1))]) (rest := []) C hM0 (c_X2_topIndex l E z hs1 hc1 hf4) jy_X2_topIndex lk_X2_40 dX2_addTop_4 (recvW C hM0 jc2 (ls_17 hs1).1 (ls_17 hs1).2 rfl) rfl rfl hl.1 (Nat.le_of_ble_eq_true rfl) ⟨Nat.le_of_ble_eq_true rfl, Nat.le_of_ble_eq_true rfl⟩ ⟨rfl, rfl⟩ ⟨Nat.zero_le _, Nat.zero_le _⟩ (fun H locs hr4 hM2 => ?_)
  refine r_istore_n C [(3, .int (jI r4)), (0, .ref (z + (s + 17))), (1, .ref (z + (s1 + 17))), (2, .int (jI x2))] dX2_addTop_7 rfl hl (by decide) rfl (fun ls hl => ?_)
  refine r_aload_n C dX2_addTop_8 rfl hl 2 rfl ?_
  refine r_iload_n C dX2_addTop_9 rfl hl 3 rfl ?_
  replace h := bd_some h
  obtain ⟨r10, hf10, h⟩ := h
  refine r_callI (As := [.int (jI x2)]) (rest := []) C hM2 (c_X2_topIndex l E z hs1 hx2 hf10) jy_X2_topIndex lk_X2_40 dX2_addTop_10 (recvW C hM2 jc2 (ls_17 hs1).1 (ls_17 hs1).2 rfl) rfl rfl hl.1 (Nat.le_of_ble_eq_true rfl) ⟨Nat.le_of_ble_eq_true rfl, Nat.le_of_ble_eq_true rfl⟩ ⟨rfl, rfl⟩ ⟨Nat.zero_le _, Nat.zero_le _⟩ (fun H locs hr10 hM3 => ?_)
  refine r_istore C [(4, .int (jI r10)), (3, .int (jI r4)), (0, .ref (z + (s + 17))), (1, .ref (z + (s1 + 17))), (2, .int (jI x2))] dX2_addTop_13 hl (by decide) rfl (fun ls hl => ?_)
  obtain ⟨y3, ey3⟩ : ∃ y : Int, y = r4 := ⟨_, rfl⟩
  have hy3 : inR y3 := by rw [ey3]; exact hr4
  have hL15 : ∀ n15 : Nat, ∀ (x4 : Int) (M : Mem), inR x4 → ∀ (H : Heap) (locs : List Loc) (ls : Array Slot), f_X2_addTop_L15 s s1 y3 n15  x4 M = some M' → HS E z LyC M sM H locs → lv_has ls 5 [(0, .ref (z + (s + 17))), (1, .ref (z + (s1 + 17))), (3, .int (jI y3)), (4, .int (jI x4))] → W p l e ({ frames := 1, cells := 0, slots := 0, locals := 25 } : Room) sM m (([.ref (z + (s + 17)), .ref (z + (s1 + 17)), .int (jI x2)] : List Value).toArray) below meth c H locs 0 0 (MQ below (va_Qv (fun (_ : Unit) => Mok LyC M') (fun _ t => va_P (eD E) vwCl (Wd (eC E) z LyC M') t.heap) (eA E)) (([.ref (z + (s + 17)), .ref (z + (s1 + 17)), .int (jI x2)] : List Value).toArray) sM 0 0 (eA E)) (F0 m 15 ls []) := by
    intro n15
    induction n15 with
    | zero =>
      intro x4 M hx4 H locs ls h hM hl
      exact absurd h (by simp [f_X2_addTop_L15])
    | succ n15 ih15 =>
      intro x4 M hx4 H locs ls h hM hl
      rw [f_X2_addTop_L15] at h
      refine r_iload C dX2_addTop_15 hl 3 rfl ?_
      refine r_iload_n C dX2_addTop_17 rfl hl 2 rfl ?_
      refine r_icmp_ge C 66 hx4 hy3 dX2_addTop_18 (by decide) (fun cq => ?_) (fun cq => ?_)
      · replace h := ifp cq h
        exact r_return C hM hr hlk h dX2_addTop_66
      · replace h := ifn cq h
        refine r_aload_n C dX2_addTop_21 rfl hl 0 rfl ?_
        refine r_aload_n C dX2_addTop_22 rfl hl 1 rfl ?_
        refine r_getR C hM jc2 1 (s1 + 18) dX2_addTop_23 lk_X2_15 (ls_17 hs1).1 (ls_17 hs1).2 rfl rfl (by decide) rfl ?_
        refine r_iload C dX2_addTop_26 hl 3 rfl ?_
        replace h := ck_some h
        obtain ⟨hc4, h⟩ := h
        refine r_iald C hM rfl dX2_addTop_28 (ls_18 hs1).1 (ls_18 hs1).2 hc4 hx4 ?_
        refine r_aload_n C dX2_addTop_29 rfl hl 1 rfl ?_
        refine r_getR C hM jc2 2 (s1 + 19) dX2_addTop_30 lk_X2_19 (ls_17 hs1).1 (ls_17 hs1).2 rfl rfl (by decide) rfl ?_
        refine r_iload C dX2_addTop_33 hl 3 rfl ?_
        refine r_iald C hM rfl dX2_addTop_35 (ls_19 hs1).1 (ls_19 hs1).2 hc4 hx4 ?_
        refine r_aload_n C dX2_addTop_36 rfl hl 1 rfl ?_
        refine r_getR C hM jc2 3 (s1 + 20) dX2_addTop_37 lk_X2_22 (ls_17 hs1).1 (ls_17 hs1).2 rfl rfl (by decide) rfl ?_
        refine r_iload C dX2_addTop_40 hl 3 rfl ?_
        refine r_iald C hM rfl dX2_addTop_42 (ls_20 hs1).1 (ls_20 hs1).2 hc4 hx4 ?_
        refine r_aload_n C dX2_addTop_43 rfl hl 1 rfl ?_
        refine r_getR C hM jc2 4 (s1 + 21) dX2_addTop_44 lk_X2_25 (ls_17 hs1).1 (ls_17 hs1).2 rfl rfl (by decide) rfl ?_
        refine r_iload C dX2_addTop_47 hl 3 rfl ?_
        refine r_iald C hM rfl dX2_addTop_49 (ls_21 hs1).1 (ls_21 hs1).2 hc4 hx4 ?_
        refine r_aload_n C dX2_addTop_50 rfl hl 1 rfl ?_
        refine r_getR C hM jc2 5 (s1 + 22) dX2_addTop_51 lk_X2_28 (ls_17 hs1).1 (ls_17 hs1).2 rfl rfl (by decide) rfl ?_
        refine r_iload C dX2_addTop_54 hl 3 rfl ?_
        refine r_iald C hM rfl dX2_addTop_56 (ls_22 hs1).1 (ls_22 hs1).2 hc4 hx4 ?_
        replace h := bd_some h
        obtain ⟨M57, hf57, h⟩ := h
        refine r_callV (As := [.int (jI (M (s1 + 18) x4.toNat)), .int (jI (M (s1 + 19) x4.toNat)), .int (jI (M (s1 + 20) x4.toNat)), .int (jI (M (s1 + 21) x4.toNat)), .int (jI (M (s1 + 22) x4.toNat))]) (rest := []) C hM (c_X2_add l E z hs (hM.ok _ _) (hM.ok _ _) (hM.ok _ _) (hM.ok _ _) (hM.ok _ _) hf57) jy_X2_add lk_X2_44 dX2_addTop_57 (recvW C hM jc2 (ls_17 hs).1 (ls_17 hs).2 rfl) rfl rfl hl.1 (Nat.le_of_ble_eq_true rfl) ⟨Nat.le_of_ble_eq_true rfl, Nat.le_of_ble_eq_true rfl⟩ ⟨rfl, rfl⟩ ⟨Nat.zero_le _, Nat.zero_le _⟩ (fun H locs hM5 => ?_)
        replace h := ck_some h
        obtain ⟨hc6, h⟩ := h
        refine r_iinc (j := 3) (x := x4) C [(4, .int (jI (x4 + 1))), (0, .ref (z + (s + 17))), (1, .ref (z + (s1 + 17))), (3, .int (jI y3))] dX2_addTop_60 hl rfl (by decide) rfl (fun ls hl => ?_)
        refine r_goto C 15 dX2_addTop_63 (by decide) ?_
        exact ih15 _ _ hc6 _ _ _ h hM5 (lv_sub hl [1, 2, 3, 0] rfl)
  rw [← ey3] at h
  have hl := lv_sub (l' := [(0, .ref (z + (s + 17))), (1, .ref (z + (s1 + 17))), (3, .int (jI y3)), (4, .int (jI r10))]) hl [2, 3, 1, 0] (by rw [ey3]; rfl)
  exact hL15 jFuel _ _ hr10 _ _ _ h hM3 hl
set_option maxRecDepth 100000 in
set_option maxHeartbeats 4000000 in
theorem c_X2_topCount (l : Launch) (E : jE) (z : Nat) {s : Nat} {M : Mem} {r : Int} (hs : isSt s) (h : f_X2_topCount s M = some r) : CtI l yX2_topCount cX2_topCount 3 (some .int) { frames := 0, cells := 0, slots := 0, locals := 0 } E z LyC [.ref (z + (s + 17))] M r M := by
  refine jm (by decide +kernel) (Nat.le_of_ble_eq_true rfl) ?_
  intro p e sM m below meth c C hM0 hr hlk ls hl
  replace hl : lv_has ls 3 [(0, .ref (z + (s + 17)))] := hl
  unfold f_X2_topCount at h
  refine r_iconst C dX2_topCount_0 ?_
  refine r_istore_n C [(1, .int (jI 0)), (0, .ref (z + (s + 17)))] dX2_topCount_1 rfl hl (by decide) rfl (fun ls hl => ?_)
  refine r_iconst C dX2_topCount_2 ?_
  refine r_istore_n C [(2, .int (jI 0)), (1, .int (jI 0)), (0, .ref (z + (s + 17)))] dX2_topCount_3 rfl hl (by decide) rfl (fun ls hl => ?_)
  have hL4 : ∀ n4 : Nat, ∀ (x1 : Int) (x2 : Int), inR x1 → inR x2 → ∀ (H : Heap) (locs : List Loc) (ls : Array Slot), f_X2_topCount_L4 s M n4  x1 x2 = some r → HS E z LyC M sM H locs → lv_has ls 3 [(0, .ref (z + (s + 17))), (1, .int (jI x1)), (2, .int (jI x2))] → W p l e ({ frames := 0, cells := 0, slots := 0, locals := 0 } : Room) sM m (([.ref (z + (s + 17))] : List Value).toArray) below meth c H locs 0 0 (MQ below (va_Qi (fun (w : Int32) (_ : Unit) => w = jI r ∧ inR r ∧ Mok LyC M) (fun _ t => va_P (eD E) vwCl (Wd (eC E) z LyC M) t.heap) (eA E)) (([.ref (z + (s + 17))] : List Value).toArray) sM 0 0 (eA E)) (F0 m 4 ls []) := by
    intro n4
    induction n4 with
    | zero =>
      intro x1 x2 hx1 hx2 H locs ls h hM hl
      exact absurd h (by simp [f_X2_topCount_L4])
    | succ n4 ih4 =>
      intro x1 x2 hx1 hx2 H locs ls h hM hl
      rw [f_X2_topCount_L4] at h
      refine r_iload_n C dX2_topCount_4 rfl hl 2 rfl ?_
      refine r_aload_n C dX2_topCount_5 rfl hl 0 rfl ?_
      refine r_getI C hM jc2 0 rfl dX2_topCount_6 lk_X2_9 (ls_17 hs).1 (ls_17 hs).2 rfl rfl (by decide) rfl ?_
      refine r_icmp_ge C 30 hx2 (hM.ok _ _) dX2_topCount_9 (by decide) (fun cq => ?_) (fun cq => ?_)
      · replace h := ifp cq h
        refine r_iload_n C dX2_topCount_30 rfl hl 1 rfl ?_
        exact r_ireturn C hM hr hlk hx1 h rfl dX2_topCount_31
      · replace h := ifn cq h
        refine r_aload_n C dX2_topCount_12 rfl hl 0 rfl ?_
        refine r_getR C hM jc2 5 (s + 22) dX2_topCount_13 lk_X2_28 (ls_17 hs).1 (ls_17 hs).2 rfl rfl (by decide) rfl ?_
        refine r_iload_n C dX2_topCount_16 rfl hl 2 rfl ?_
        replace h := ck_some h
        obtain ⟨hc1, h⟩ := h
        refine r_iald C hM rfl dX2_topCount_17 (ls_22 hs).1 (ls_22 hs).2 hc1 hx2 ?_
        refine r_if_ne C 24 (hM.ok _ _) dX2_topCount_18 (by decide) (fun cq => ?_) (fun cq => ?_)
        · replace h := ifn cq h
          replace h := ck_some h
          obtain ⟨hc2, h⟩ := h
          refine r_iinc (j := 2) (x := x2) C [(2, .int (jI (x2 + 1))), (0, .ref (z + (s + 17))), (1, .int (jI x1))] dX2_topCount_24 hl rfl (by decide) rfl (fun ls hl => ?_)
          refine r_goto C 4 dX2_topCount_27 (by decide) ?_
          exact ih4 _ _ hx1 hc2 _ _ _ h hM (lv_sub hl [1, 2, 0] rfl)
        · replace h := ifp cq h
          replace h := ck_some h
          obtain ⟨hc3, h⟩ := h
          refine r_iinc (j := 1) (x := x1) C [(1, .int (jI (x1 + 1))), (0, .ref (z + (s + 17))), (2, .int (jI x2))] dX2_topCount_21 hl rfl (by decide) rfl (fun ls hl => ?_)
          replace h := ck_some h
          obtain ⟨hc4, h⟩ := h
          refine r_iinc (j := 2) (x := x2) C [(2, .int (jI (x2 + 1))), (1, .int (jI (x1 + 1))), (0, .ref (z + (s + 17)))] dX2_topCount_24 hl rfl (by decide) rfl (fun ls hl => ?_)
          refine r_goto C 4 dX2_topCount_27 (by decide) ?_
          exact ih4 _ _ hc3 hc4 _ _ _ h hM (lv_sub hl [2, 1, 0] rfl)
  exact hL4 jFuel _ _ ⟨by decide, by decide⟩ ⟨by decide, by decide⟩ _ _ _ h hM0 (lv_sub hl [2, 1, 0] rfl)
set_option maxRecDepth 100000 in
set_option maxHeartbeats 4000000 in
theorem c_X2_behind (l : Launch) (E : jE) (z : Nat) {s : Nat} {x1 : Int} {M : Mem} {r : Int} (hs : isSt s) (hx1 : inR x1) (h : f_X2_behind s x1 M = some r) : CtI l yX2_behind cX2_behind 3 (some .int) { frames := 0, cells := 0, slots := 0, locals := 0 } E z LyC [.ref (z + (s + 17)), .int (jI x1)] M r M := by
  refine jm (by decide +kernel) (Nat.le_of_ble_eq_true rfl) ?_
  intro p e sM m below meth c C hM0 hr hlk ls hl
  replace hl : lv_has ls 3 [(0, .ref (z + (s + 17))), (1, .int (jI x1))] := hl
  unfold f_X2_behind at h
  refine r_iload_n C dX2_behind_0 rfl hl 1 rfl ?_
  refine r_if_lt C 12 hx1 dX2_behind_1 (by decide) (fun cq => ?_) (fun cq => ?_)
  · replace h := ifp cq h
    refine r_aload_n C dX2_behind_12 rfl hl 0 rfl ?_
    refine r_getI C hM0 jc2 0 rfl dX2_behind_13 lk_X2_9 (ls_17 hs).1 (ls_17 hs).2 rfl rfl (by decide) rfl ?_
    exact r_ireturn C hM0 hr hlk (hM0.ok _ _) h rfl dX2_behind_16
  · replace h := ifn cq h
    refine r_iload_n C dX2_behind_4 rfl hl 1 rfl ?_
    refine r_aload_n C dX2_behind_5 rfl hl 0 rfl ?_
    refine r_getI C hM0 jc2 0 rfl dX2_behind_6 lk_X2_9 (ls_17 hs).1 (ls_17 hs).2 rfl rfl (by decide) rfl ?_
    refine r_icmp_lt C 17 hx1 (hM0.ok _ _) dX2_behind_9 (by decide) (fun cq => ?_) (fun cq => ?_)
    · replace h := ifp cq h
      refine r_iload_n C dX2_behind_17 rfl hl 1 rfl ?_
      refine r_iconst C dX2_behind_18 ?_
      replace h := ck_some h
      obtain ⟨hc1, h⟩ := h
      refine r_iadd C dX2_behind_19 ?_
      refine r_istore_n C [(2, .int (jI (x1 + 1))), (0, .ref (z + (s + 17))), (1, .int (jI x1))] dX2_behind_20 rfl hl (by decide) rfl (fun ls hl => ?_)
      have hL21 : ∀ n21 : Nat, ∀ (x2 : Int), inR x2 → ∀ (H : Heap) (locs : List Loc) (ls : Array Slot), f_X2_behind_L21 s x1 M n21  x2 = some r → HS E z LyC M sM H locs → lv_has ls 3 [(0, .ref (z + (s + 17))), (1, .int (jI x1)), (2, .int (jI x2))] → W p l e ({ frames := 0, cells := 0, slots := 0, locals := 0 } : Room) sM m (([.ref (z + (s + 17)), .int (jI x1)] : List Value).toArray) below meth c H locs 0 0 (MQ below (va_Qi (fun (w : Int32) (_ : Unit) => w = jI r ∧ inR r ∧ Mok LyC M) (fun _ t => va_P (eD E) vwCl (Wd (eC E) z LyC M) t.heap) (eA E)) (([.ref (z + (s + 17)), .int (jI x1)] : List Value).toArray) sM 0 0 (eA E)) (F0 m 21 ls []) := by
        intro n21
        induction n21 with
        | zero =>
          intro x2 hx2 H locs ls h hM hl
          exact absurd h (by simp [f_X2_behind_L21])
        | succ n21 ih21 =>
          intro x2 hx2 H locs ls h hM hl
          rw [f_X2_behind_L21] at h
          refine r_iload_n C dX2_behind_21 rfl hl 2 rfl ?_
          refine r_aload_n C dX2_behind_22 rfl hl 0 rfl ?_
          refine r_getI C hM jc2 0 rfl dX2_behind_23 lk_X2_9 (ls_17 hs).1 (ls_17 hs).2 rfl rfl (by decide) rfl ?_
          refine r_icmp_ge C 52 hx2 (hM.ok _ _) dX2_behind_26 (by decide) (fun cq => ?_) (fun cq => ?_)
          · replace h := ifp cq h
            refine r_aload_n C dX2_behind_52 rfl hl 0 rfl ?_
            refine r_getI C hM jc2 0 rfl dX2_behind_53 lk_X2_9 (ls_17 hs).1 (ls_17 hs).2 rfl rfl (by decide) rfl ?_
            exact r_ireturn C hM hr hlk (hM.ok _ _) h rfl dX2_behind_56
          · replace h := ifn cq h
            refine r_aload_n C dX2_behind_29 rfl hl 0 rfl ?_
            refine r_getR C hM jc2 5 (s + 22) dX2_behind_30 lk_X2_28 (ls_17 hs).1 (ls_17 hs).2 rfl rfl (by decide) rfl ?_
            refine r_iload_n C dX2_behind_33 rfl hl 2 rfl ?_
            replace h := ck_some h
            obtain ⟨hc2, h⟩ := h
            refine r_iald C hM rfl dX2_behind_34 (ls_22 hs).1 (ls_22 hs).2 hc2 hx2 ?_
            refine r_aload_n C dX2_behind_35 rfl hl 0 rfl ?_
            refine r_getR C hM jc2 5 (s + 22) dX2_behind_36 lk_X2_28 (ls_17 hs).1 (ls_17 hs).2 rfl rfl (by decide) rfl ?_
            refine r_iload_n C dX2_behind_39 rfl hl 1 rfl ?_
            replace h := ck_some h
            obtain ⟨hc3, h⟩ := h
            refine r_iald C hM rfl dX2_behind_40 (ls_22 hs).1 (ls_22 hs).2 hc3 hx1 ?_
            refine r_icmp_gt C 46 (hM.ok _ _) (hM.ok _ _) dX2_behind_41 (by decide) (fun cq => ?_) (fun cq => ?_)
            · replace h := ifp cq h
              replace h := ck_some h
              obtain ⟨hc4, h⟩ := h
              refine r_iinc (j := 2) (x := x2) C [(2, .int (jI (x2 + 1))), (0, .ref (z + (s + 17))), (1, .int (jI x1))] dX2_behind_46 hl rfl (by decide) rfl (fun ls hl => ?_)
              refine r_goto C 21 dX2_behind_49 (by decide) ?_
              exact ih21 _ hc4 _ _ _ h hM (lv_sub hl [1, 2, 0] rfl)
            · replace h := ifn cq h
              refine r_iload_n C dX2_behind_44 rfl hl 2 rfl ?_
              exact r_ireturn C hM hr hlk hx2 h rfl dX2_behind_45
      exact hL21 jFuel _ hc1 _ _ _ h hM0 (lv_sub hl [1, 2, 0] rfl)
    · replace h := ifn cq h
      refine r_aload_n C dX2_behind_12 rfl hl 0 rfl ?_
      refine r_getI C hM0 jc2 0 rfl dX2_behind_13 lk_X2_9 (ls_17 hs).1 (ls_17 hs).2 rfl rfl (by decide) rfl ?_
      exact r_ireturn C hM0 hr hlk (hM0.ok _ _) h rfl dX2_behind_16
set_option maxRecDepth 100000 in
set_option maxHeartbeats 4000000 in
theorem c_X2_isBlock (l : Launch) (E : jE) (z : Nat) {s : Nat} {x1 : Int} {M : Mem} {r : Int} (hs : isSt s) (hx1 : inR x1) (h : f_X2_isBlock s x1 M = some r) : CtI l yX2_isBlock cX2_isBlock 2 (some .boolean) { frames := 0, cells := 0, slots := 0, locals := 0 } E z LyC [.ref (z + (s + 17)), .int (jI x1)] M r M := by
  refine jm (by decide +kernel) (Nat.le_of_ble_eq_true rfl) ?_
  intro p e sM m below meth c C hM0 hr hlk ls hl
  replace hl : lv_has ls 2 [(0, .ref (z + (s + 17))), (1, .int (jI x1))] := hl
  unfold f_X2_isBlock at h
  refine r_iload_n C dX2_isBlock_0 rfl hl 1 rfl ?_
  refine r_if_lt C 26 hx1 dX2_isBlock_1 (by decide) (fun cq => ?_) (fun cq => ?_)
  · replace h := ifp cq h
    refine r_iconst C dX2_isBlock_26 ?_
    exact r_zreturn C hM0 hr hlk (Or.inl rfl) h rfl dX2_isBlock_27
  · replace h := ifn cq h
    refine r_iload_n C dX2_isBlock_4 rfl hl 1 rfl ?_
    refine r_aload_n C dX2_isBlock_5 rfl hl 0 rfl ?_
    refine r_getI C hM0 jc2 0 rfl dX2_isBlock_6 lk_X2_9 (ls_17 hs).1 (ls_17 hs).2 rfl rfl (by decide) rfl ?_
    refine r_icmp_ge C 26 hx1 (hM0.ok _ _) dX2_isBlock_9 (by decide) (fun cq => ?_) (fun cq => ?_)
    · replace h := ifp cq h
      refine r_iconst C dX2_isBlock_26 ?_
      exact r_zreturn C hM0 hr hlk (Or.inl rfl) h rfl dX2_isBlock_27
    · replace h := ifn cq h
      refine r_aload_n C dX2_isBlock_12 rfl hl 0 rfl ?_
      refine r_getR C hM0 jc2 1 (s + 18) dX2_isBlock_13 lk_X2_15 (ls_17 hs).1 (ls_17 hs).2 rfl rfl (by decide) rfl ?_
      refine r_iload_n C dX2_isBlock_16 rfl hl 1 rfl ?_
      replace h := ck_some h
      obtain ⟨hc1, h⟩ := h
      refine r_iald C hM0 rfl dX2_isBlock_17 (ls_18 hs).1 (ls_18 hs).2 hc1 hx1 ?_
      refine r_iconst C dX2_isBlock_18 ?_
      refine r_icmp_lt C 26 (hM0.ok _ _) ⟨by decide, by decide⟩ dX2_isBlock_19 (by decide) (fun cq => ?_) (fun cq => ?_)
      · replace h := ifp cq h
        refine r_iconst C dX2_isBlock_26 ?_
        exact r_zreturn C hM0 hr hlk (Or.inl rfl) h rfl dX2_isBlock_27
      · replace h := ifn cq h
        refine r_iconst C dX2_isBlock_22 ?_
        refine r_goto C 27 dX2_isBlock_23 (by decide) ?_
        exact r_zreturn C hM0 hr hlk (Or.inr rfl) h rfl dX2_isBlock_27
set_option maxRecDepth 100000 in
set_option maxHeartbeats 4000000 in
theorem c_X2_framesOf (l : Launch) (E : jE) (z : Nat) {s : Nat} {x1 : Int} {M : Mem} {r : Int} (hs : isSt s) (hx1 : inR x1) (h : f_X2_framesOf s x1 M = some r) : CtI l yX2_framesOf cX2_framesOf 2 (some .int) { frames := 0, cells := 0, slots := 0, locals := 0 } E z LyC [.ref (z + (s + 17)), .int (jI x1)] M r M := by
  refine jm (by decide +kernel) (Nat.le_of_ble_eq_true rfl) ?_
  intro p e sM m below meth c C hM0 hr hlk ls hl
  replace hl : lv_has ls 2 [(0, .ref (z + (s + 17))), (1, .int (jI x1))] := hl
  unfold f_X2_framesOf at h
  refine r_iload_n C dX2_framesOf_0 rfl hl 1 rfl ?_
  refine r_if_lt C 30 hx1 dX2_framesOf_1 (by decide) (fun cq => ?_) (fun cq => ?_)
  · replace h := ifp cq h
    refine r_iconst C dX2_framesOf_30 ?_
    exact r_ireturn C hM0 hr hlk ⟨by decide, by decide⟩ h rfl dX2_framesOf_31
  · replace h := ifn cq h
    refine r_iload_n C dX2_framesOf_4 rfl hl 1 rfl ?_
    refine r_aload_n C dX2_framesOf_5 rfl hl 0 rfl ?_
    refine r_getI C hM0 jc2 0 rfl dX2_framesOf_6 lk_X2_9 (ls_17 hs).1 (ls_17 hs).2 rfl rfl (by decide) rfl ?_
    refine r_icmp_ge C 30 hx1 (hM0.ok _ _) dX2_framesOf_9 (by decide) (fun cq => ?_) (fun cq => ?_)
    · replace h := ifp cq h
      refine r_iconst C dX2_framesOf_30 ?_
      exact r_ireturn C hM0 hr hlk ⟨by decide, by decide⟩ h rfl dX2_framesOf_31
    · replace h := ifn cq h
      refine r_aload_n C dX2_framesOf_12 rfl hl 0 rfl ?_
      refine r_getR C hM0 jc2 4 (s + 21) dX2_framesOf_13 lk_X2_25 (ls_17 hs).1 (ls_17 hs).2 rfl rfl (by decide) rfl ?_
      refine r_iload_n C dX2_framesOf_16 rfl hl 1 rfl ?_
      replace h := ck_some h
      obtain ⟨hc1, h⟩ := h
      refine r_iald C hM0 rfl dX2_framesOf_17 (ls_21 hs).1 (ls_21 hs).2 hc1 hx1 ?_
      refine r_aload_n C dX2_framesOf_18 rfl hl 0 rfl ?_
      refine r_getR C hM0 jc2 3 (s + 20) dX2_framesOf_19 lk_X2_22 (ls_17 hs).1 (ls_17 hs).2 rfl rfl (by decide) rfl ?_
      refine r_iload_n C dX2_framesOf_22 rfl hl 1 rfl ?_
      refine r_iald C hM0 rfl dX2_framesOf_23 (ls_20 hs).1 (ls_20 hs).2 hc1 hx1 ?_
      replace h := ck_some h
      obtain ⟨hc2, h⟩ := h
      refine r_isub C dX2_framesOf_24 ?_
      refine r_iconst C dX2_framesOf_25 ?_
      replace h := ck_some h
      obtain ⟨hc3, h⟩ := h
      refine r_iadd C dX2_framesOf_26 ?_
      refine r_goto C 31 dX2_framesOf_27 (by decide) ?_
      exact r_ireturn C hM0 hr hlk hc3 h rfl dX2_framesOf_31
set_option maxRecDepth 100000 in
set_option maxHeartbeats 4000000 in
theorem c_X2_shorten (l : Launch) (E : jE) (z : Nat) {s : Nat} {x1 : Int} {x2 : Int} {M M' : Mem} (hs : isSt s) (hx1 : inR x1) (hx2 : inR x2) (h : f_X2_shorten s x1 x2 M = some M') : CtV l yX2_shorten cX2_shorten 3 none { frames := 0, cells := 0, slots := 0, locals := 0 } E z LyC [.ref (z + (s + 17)), .int (jI x1), .int (jI x2)] M M' := by
  refine jm (by decide +kernel) (Nat.le_of_ble_eq_true rfl) ?_
  intro p e sM m below meth c C hM0 hr hlk ls hl
  replace hl : lv_has ls 3 [(0, .ref (z + (s + 17))), (1, .int (jI x1)), (2, .int (jI x2))] := hl
  unfold f_X2_shorten at h
  refine r_iload_n C dX2_shorten_0 rfl hl 1 rfl ?_
  refine r_if_lt C 22 hx1 dX2_shorten_1 (by decide) (fun cq => ?_) (fun cq => ?_)
  · replace h := ifp cq h
    exact r_return C hM0 hr hlk h dX2_shorten_22
  · replace h := ifn cq h
    refine r_iload_n C dX2_shorten_4 rfl hl 1 rfl ?_
    refine r_aload_n C dX2_shorten_5 rfl hl 0 rfl ?_
    refine r_getI C hM0 jc2 0 rfl dX2_shorten_6 lk_X2_9 (ls_17 hs).1 (ls_17 hs).2 rfl rfl (by decide) rfl ?_
    refine r_icmp_ge C 22 hx1 (hM0.ok _ _) dX2_shorten_9 (by decide) (fun cq => ?_) (fun cq => ?_)
    · replace h := ifp cq h
      exact r_return C hM0 hr hlk h dX2_shorten_22
    · replace h := ifn cq h
      refine r_aload_n C dX2_shorten_12 rfl hl 0 rfl ?_
      refine r_getR C hM0 jc2 4 (s + 21) dX2_shorten_13 lk_X2_25 (ls_17 hs).1 (ls_17 hs).2 rfl rfl (by decide) rfl ?_
      refine r_iload_n C dX2_shorten_16 rfl hl 1 rfl ?_
      refine r_dup2 C dX2_shorten_17 rfl rfl ?_
      replace h := ck_some h
      obtain ⟨hc1, h⟩ := h
      refine r_iald C hM0 rfl dX2_shorten_18 (ls_21 hs).1 (ls_21 hs).2 hc1 hx1 ?_
      refine r_iload_n C dX2_shorten_19 rfl hl 2 rfl ?_
      replace h := ck_some h
      obtain ⟨hc2, h⟩ := h
      refine r_isub C dX2_shorten_20 ?_
      refine r_iast C hM0 dX2_shorten_21 (ls_21 hs).1 (ls_21 hs).2 hc1 hx1 hc2 (fun H locs hM3 => ?_)
      replace h := lt_some h
      obtain ⟨N4, eN4, h⟩ := h
      rw [← eN4] at hM3
      exact r_return C hM3 hr hlk h dX2_shorten_22
set_option maxRecDepth 100000 in
set_option maxHeartbeats 4000000 in
theorem c_X2_deepest (l : Launch) (E : jE) (z : Nat) {s : Nat} {M : Mem} {r : Int} (hs : isSt s) (h : f_X2_deepest s M = some r) : CtI l yX2_deepest cX2_deepest 3 (some .int) { frames := 1, cells := 0, slots := 0, locals := 21 } E z LyC [.ref (z + (s + 17))] M r M := by
  refine jm (by decide +kernel) (Nat.le_of_ble_eq_true rfl) ?_
  intro p e sM m below meth c C hM0 hr hlk ls hl
  replace hl : lv_has ls 3 [(0, .ref (z + (s + 17)))] := hl
  unfold f_X2_deepest at h
  refine r_iconst C dX2_deepest_0 ?_
  refine r_istore_n C [(1, .int (jI 0)), (0, .ref (z + (s + 17)))] dX2_deepest_1 rfl hl (by decide) rfl (fun ls hl => ?_)
  refine r_iconst C dX2_deepest_2 ?_
  refine r_istore_n C [(2, .int (jI 0)), (1, .int (jI 0)), (0, .ref (z + (s + 17)))] dX2_deepest_3 rfl hl (by decide) rfl (fun ls hl => ?_)
  have hL4 : ∀ n4 : Nat, ∀ (x1 : Int) (x2 : Int), inR x1 → inR x2 → ∀ (H : Heap) (locs : List Loc) (ls : Array Slot), f_X2_deepest_L4 s M n4  x1 x2 = some r → HS E z LyC M sM H locs → lv_has ls 3 [(0, .ref (z + (s + 17))), (1, .int (jI x1)), (2, .int (jI x2))] → W p l e ({ frames := 1, cells := 0, slots := 0, locals := 21 } : Room) sM m (([.ref (z + (s + 17))] : List Value).toArray) below meth c H locs 0 0 (MQ below (va_Qi (fun (w : Int32) (_ : Unit) => w = jI r ∧ inR r ∧ Mok LyC M) (fun _ t => va_P (eD E) vwCl (Wd (eC E) z LyC M) t.heap) (eA E)) (([.ref (z + (s + 17))] : List Value).toArray) sM 0 0 (eA E)) (F0 m 4 ls []) := by
    intro n4
    induction n4 with
    | zero =>
      intro x1 x2 hx1 hx2 H locs ls h hM hl
      exact absurd h (by simp [f_X2_deepest_L4])
    | succ n4 ih4 =>
      intro x1 x2 hx1 hx2 H locs ls h hM hl
      rw [f_X2_deepest_L4] at h
      refine r_iload_n C dX2_deepest_4 rfl hl 2 rfl ?_
      refine r_aload_n C dX2_deepest_5 rfl hl 0 rfl ?_
      refine r_getI C hM jc2 0 rfl dX2_deepest_6 lk_X2_9 (ls_17 hs).1 (ls_17 hs).2 rfl rfl (by decide) rfl ?_
      refine r_icmp_ge C 39 hx2 (hM.ok _ _) dX2_deepest_9 (by decide) (fun cq => ?_) (fun cq => ?_)
      · replace h := ifp cq h
        refine r_iload_n C dX2_deepest_39 rfl hl 1 rfl ?_
        exact r_ireturn C hM hr hlk hx1 h rfl dX2_deepest_40
      · replace h := ifn cq h
        refine r_aload_n C dX2_deepest_12 rfl hl 0 rfl ?_
        refine r_iload_n C dX2_deepest_13 rfl hl 2 rfl ?_
        replace h := bd_some h
        obtain ⟨r14, hf14, h⟩ := h
        refine r_callI (As := [.int (jI x2)]) (rest := []) C hM (c_X2_isBlock l E z hs hx2 hf14) jy_X2_isBlock lk_X2_48 dX2_deepest_14 (recvW C hM jc2 (ls_17 hs).1 (ls_17 hs).2 rfl) rfl rfl hl.1 (Nat.le_of_ble_eq_true rfl) ⟨Nat.le_of_ble_eq_true rfl, Nat.le_of_ble_eq_true rfl⟩ ⟨rfl, rfl⟩ ⟨Nat.zero_le _, Nat.zero_le _⟩ (fun H locs hr14 hM1 => ?_)
        refine r_if_eq C 33 hr14 dX2_deepest_17 (by decide) (fun cq => ?_) (fun cq => ?_)
        · replace h := ifp cq h
          replace h := ck_some h
          obtain ⟨hc2, h⟩ := h
          refine r_iinc (j := 2) (x := x2) C [(2, .int (jI (x2 + 1))), (0, .ref (z + (s + 17))), (1, .int (jI x1))] dX2_deepest_33 hl rfl (by decide) rfl (fun ls hl => ?_)
          refine r_goto C 4 dX2_deepest_36 (by decide) ?_
          exact ih4 _ _ hx1 hc2 _ _ _ h hM1 (lv_sub hl [1, 2, 0] rfl)
        · replace h := ifn cq h
          refine r_iload_n C dX2_deepest_20 rfl hl 1 rfl ?_
          refine r_aload_n C dX2_deepest_21 rfl hl 0 rfl ?_
          refine r_getR C hM1 jc2 5 (s + 22) dX2_deepest_22 lk_X2_28 (ls_17 hs).1 (ls_17 hs).2 rfl rfl (by decide) rfl ?_
          refine r_iload_n C dX2_deepest_25 rfl hl 2 rfl ?_
          replace h := ck_some h
          obtain ⟨hc3, h⟩ := h
          refine r_iald C hM1 rfl dX2_deepest_26 (ls_22 hs).1 (ls_22 hs).2 hc3 hx2 ?_
          refine r_iconst C dX2_deepest_27 ?_
          replace h := ck_some h
          obtain ⟨hc4, h⟩ := h
          refine r_iadd C dX2_deepest_28 ?_
          refine r_max C hx1 hc4 lk_X2_52 dX2_deepest_29 hl.1 ⟨Nat.le_of_ble_eq_true rfl, Nat.le_of_ble_eq_true rfl⟩ ⟨Nat.zero_le _, Nat.zero_le _⟩ ?_
          refine r_istore_n C [(1, .int (jI (max x1 ((M (s + 22) x2.toNat) + 1)))), (0, .ref (z + (s + 17))), (2, .int (jI x2))] dX2_deepest_32 rfl hl (by decide) rfl (fun ls hl => ?_)
          replace h := ck_some h
          obtain ⟨hc5, h⟩ := h
          refine r_iinc (j := 2) (x := x2) C [(2, .int (jI (x2 + 1))), (1, .int (jI (max x1 ((M (s + 22) x2.toNat) + 1)))), (0, .ref (z + (s + 17)))] dX2_deepest_33 hl rfl (by decide) rfl (fun ls hl => ?_)
          refine r_goto C 4 dX2_deepest_36 (by decide) ?_
          exact ih4 _ _ (max_R hx1 hc4) hc5 _ _ _ h hM1 (lv_sub hl [2, 1, 0] rfl)
  exact hL4 jFuel _ _ ⟨by decide, by decide⟩ ⟨by decide, by decide⟩ _ _ _ h hM0 (lv_sub hl [2, 1, 0] rfl)
set_option maxRecDepth 100000 in
set_option maxHeartbeats 4000000 in
theorem c_X2_pieceCount (l : Launch) (E : jE) (z : Nat) {s : Nat} {M M' : Mem} {r : Int} (hs : isSt s) (h : f_X2_pieceCount s M = some (r, M')) : CtI l yX2_pieceCount cX2_pieceCount 4 (some .int) { frames := 1, cells := 0, slots := 0, locals := 21 } E z LyC [.ref (z + (s + 17))] M r M' := by
  refine jm (by decide +kernel) (Nat.le_of_ble_eq_true rfl) ?_
  intro p e sM m below meth c C hM0 hr hlk ls hl
  replace hl : lv_has ls 4 [(0, .ref (z + (s + 17)))] := hl
  unfold f_X2_pieceCount at h
  refine r_iconst C dX2_pieceCount_0 ?_
  refine r_istore_n C [(1, .int (jI 0)), (0, .ref (z + (s + 17)))] dX2_pieceCount_1 rfl hl (by decide) rfl (fun ls hl => ?_)
  refine r_aload_n C dX2_pieceCount_2 rfl hl 1 rfl ?_
  refine r_getR C hM0 jc2 6 (s + 23) dX2_pieceCount_3 lk_X2_31 (ls_17 hs).1 (ls_17 hs).2 rfl rfl (by decide) rfl ?_
  refine r_iconst C dX2_pieceCount_6 ?_
  refine r_iconst C dX2_pieceCount_7 ?_
  refine r_iast C hM0 dX2_pieceCount_8 (ls_23 hs).1 (ls_23 hs).2 (show (0 : Int) ≤ 0 ∧ (0 : Int) < 5 by decide) ⟨by decide, by decide⟩ ⟨by decide, by decide⟩ (fun H locs hM1 => ?_)
  replace h := lt_some h
  obtain ⟨N2, eN2, h⟩ := h
  rw [← eN2] at hM1
  refine r_iconst C dX2_pieceCount_9 ?_
  refine r_istore_n C [(2, .int (jI 0)), (1, .int (jI 0)), (0, .ref (z + (s + 17)))] dX2_pieceCount_10 rfl hl (by decide) rfl (fun ls hl => ?_)
  have hL11 : ∀ n11 : Nat, ∀ (x1 : Int) (x2 : Int) (M : Mem), inR x1 → inR x2 → ∀ (H : Heap) (locs : List Loc) (ls : Array Slot), f_X2_pieceCount_L11 s n11  x1 x2 M = some (r, M') → HS E z LyC M sM H locs → lv_has ls 4 [(0, .ref (z + (s + 17))), (1, .int (jI x1)), (2, .int (jI x2))] → W p l e ({ frames := 1, cells := 0, slots := 0, locals := 21 } : Room) sM m (([.ref (z + (s + 17))] : List Value).toArray) below meth c H locs 0 0 (MQ below (va_Qi (fun (w : Int32) (_ : Unit) => w = jI r ∧ inR r ∧ Mok LyC M') (fun _ t => va_P (eD E) vwCl (Wd (eC E) z LyC M') t.heap) (eA E)) (([.ref (z + (s + 17))] : List Value).toArray) sM 0 0 (eA E)) (F0 m 11 ls []) := by
    intro n11
    induction n11 with
    | zero =>
      intro x1 x2 M hx1 hx2 H locs ls h hM hl
      exact absurd h (by simp [f_X2_pieceCount_L11])
    | succ n11 ih11 =>
      intro x1 x2 M hx1 hx2 H locs ls h hM hl
      rw [f_X2_pieceCount_L11] at h
      refine r_iload_n C dX2_pieceCount_11 rfl hl 2 rfl ?_
      refine r_aload_n C dX2_pieceCount_12 rfl hl 0 rfl ?_
      refine r_getI C hM jc2 0 rfl dX2_pieceCount_13 lk_X2_9 (ls_17 hs).1 (ls_17 hs).2 rfl rfl (by decide) rfl ?_
      refine r_icmp_ge C 104 hx2 (hM.ok _ _) dX2_pieceCount_16 (by decide) (fun cq => ?_) (fun cq => ?_)
      · replace h := ifp cq h
        refine r_iload_n C dX2_pieceCount_104 rfl hl 1 rfl ?_
        exact r_ireturnM C hM hr hlk hx1 h dX2_pieceCount_105
      · replace h := ifn cq h
        refine r_aload_n C dX2_pieceCount_19 rfl hl 0 rfl ?_
        refine r_getR C hM jc2 5 (s + 22) dX2_pieceCount_20 lk_X2_28 (ls_17 hs).1 (ls_17 hs).2 rfl rfl (by decide) rfl ?_
        refine r_iload_n C dX2_pieceCount_23 rfl hl 2 rfl ?_
        replace h := ck_some h
        obtain ⟨hc3, h⟩ := h
        refine r_iald C hM rfl dX2_pieceCount_24 (ls_22 hs).1 (ls_22 hs).2 hc3 hx2 ?_
        refine r_istore_n C [(3, .int (jI (M (s + 22) x2.toNat))), (0, .ref (z + (s + 17))), (1, .int (jI x1)), (2, .int (jI x2))] dX2_pieceCount_25 rfl hl (by decide) rfl (fun ls hl => ?_)
        refine r_iload_n C dX2_pieceCount_26 rfl hl 0 rfl ?_
        refine r_if_lt C 35 (hM.ok _ _) dX2_pieceCount_27 (by decide) (fun cq => ?_) (fun cq => ?_)
        · replace h := ifp cq h
          refine r_bipush C dX2_pieceCount_35 rfl ?_
          exact r_ireturnM C hM hr hlk ⟨by decide, by decide⟩ h dX2_pieceCount_37
        · replace h := ifn cq h
          refine r_iload_n C dX2_pieceCount_30 rfl hl 0 rfl ?_
          refine r_iconst C dX2_pieceCount_31 ?_
          refine r_icmp_le C 38 (hM.ok _ _) ⟨by decide, by decide⟩ dX2_pieceCount_32 (by decide) (fun cq => ?_) (fun cq => ?_)
          · replace h := ifp cq h
            refine r_aload_n C dX2_pieceCount_38 rfl hl 1 rfl ?_
            refine r_iload_n C dX2_pieceCount_39 rfl hl 3 rfl ?_
            replace h := bd_some h
            obtain ⟨r40, hf40, h⟩ := h
            refine r_callI (As := [.int (jI x2)]) (rest := []) C hM (c_X2_isBlock l E z hs hx2 hf40) jy_X2_isBlock lk_X2_48 dX2_pieceCount_40 (recvW C hM jc2 (ls_17 hs).1 (ls_17 hs).2 rfl) rfl rfl hl.1 (Nat.le_of_ble_eq_true rfl) ⟨Nat.le_of_ble_eq_true rfl, Nat.le_of_ble_eq_true rfl⟩ ⟨rfl, rfl⟩ ⟨Nat.zero_le _, Nat.zero_le _⟩ (fun H locs hr40 hM4 => ?_)
            refine r_if_ne C 58 hr40 dX2_pieceCount_43 (by decide) (fun cq => ?_) (fun cq => ?_)
            · replace h := ifn cq h
              refine r_iload_n C dX2_pieceCount_58 rfl hl 0 rfl ?_
              refine r_iconst C dX2_pieceCount_59 ?_
              refine r_icmp_ge C 98 (hM.ok _ _) ⟨by decide, by decide⟩ dX2_pieceCount_60 (by decide) (fun cq => ?_) (fun cq => ?_)
              · replace h := ifp cq h
                replace h := ck_some h
                obtain ⟨hc5, h⟩ := h
                refine r_iinc (j := 3) (x := x2) C [(2, .int (jI (x2 + 1))), (3, .int (jI (M (s + 22) x2.toNat))), (0, .ref (z + (s + 17))), (1, .int (jI x1))] dX2_pieceCount_98 hl rfl (by decide) rfl (fun ls hl => ?_)
                refine r_goto C 11 dX2_pieceCount_101 (by decide) ?_
                exact ih11 _ _ _ hx1 hc5 _ _ _ h hM4 (lv_sub hl [2, 3, 0] rfl)
              · replace h := ifn cq h
                refine r_aload_n C dX2_pieceCount_63 rfl hl 1 rfl ?_
                refine r_getR C hM4 jc2 6 (s + 23) dX2_pieceCount_64 lk_X2_31 (ls_17 hs).1 (ls_17 hs).2 rfl rfl (by decide) rfl ?_
                refine r_iload_n C dX2_pieceCount_67 rfl hl 0 rfl ?_
                refine r_iconst C dX2_pieceCount_68 ?_
                replace h := ck_some h
                obtain ⟨hc6, h⟩ := h
                refine r_iadd C dX2_pieceCount_69 ?_
                refine r_aload_n C dX2_pieceCount_70 rfl hl 1 rfl ?_
                refine r_getR C hM4 jc2 6 (s + 23) dX2_pieceCount_71 lk_X2_31 (ls_17 hs).1 (ls_17 hs).2 rfl rfl (by decide) rfl ?_
                refine r_iload_n C dX2_pieceCount_74 rfl hl 0 rfl ?_
                replace h := ck_some h
                obtain ⟨hc7, h⟩ := h
                refine r_iald C hM4 rfl dX2_pieceCount_75 (ls_23 hs).1 (ls_23 hs).2 hc7 (hM.ok _ _) ?_
                refine r_aload_n C dX2_pieceCount_76 rfl hl 1 rfl ?_
                refine r_getR C hM4 jc2 1 (s + 18) dX2_pieceCount_77 lk_X2_15 (ls_17 hs).1 (ls_17 hs).2 rfl rfl (by decide) rfl ?_
                refine r_iload_n C dX2_pieceCount_80 rfl hl 3 rfl ?_
                refine r_iald C hM4 rfl dX2_pieceCount_81 (ls_18 hs).1 (ls_18 hs).2 hc3 hx2 ?_
                refine r_iconst C dX2_pieceCount_82 ?_
                refine r_icmp_ne C 95 (hM.ok _ _) ⟨by decide, by decide⟩ dX2_pieceCount_83 (by decide) (fun cq => ?_) (fun cq => ?_)
                · replace h := ifn cq h
                  refine r_iconst C dX2_pieceCount_95 ?_
                  replace h := ck_some h
                  obtain ⟨hc8, h⟩ := h
                  refine r_imul C dX2_pieceCount_96 ?_
                  replace h := ck_some h
                  obtain ⟨hc9, h⟩ := h
                  refine r_iast C hM4 dX2_pieceCount_97 (ls_23 hs).1 (ls_23 hs).2 hc9 hc6 hc8 (fun H locs hM10 => ?_)
                  replace h := lt_some h
                  obtain ⟨N11, eN11, h⟩ := h
                  rw [← eN11] at hM10
                  replace h := ck_some h
                  obtain ⟨hc12, h⟩ := h
                  refine r_iinc (j := 3) (x := x2) C [(2, .int (jI (x2 + 1))), (3, .int (jI (M (s + 22) x2.toNat))), (0, .ref (z + (s + 17))), (1, .int (jI x1))] dX2_pieceCount_98 hl rfl (by decide) rfl (fun ls hl => ?_)
                  refine r_goto C 11 dX2_pieceCount_101 (by decide) ?_
                  exact ih11 _ _ _ hx1 hc12 _ _ _ h hM10 (lv_sub hl [2, 3, 0] rfl)
                · replace h := ifp cq h
                  refine r_aload_n C dX2_pieceCount_86 rfl hl 1 rfl ?_
                  refine r_getR C hM4 jc2 2 (s + 19) dX2_pieceCount_87 lk_X2_19 (ls_17 hs).1 (ls_17 hs).2 rfl rfl (by decide) rfl ?_
                  refine r_iload_n C dX2_pieceCount_90 rfl hl 3 rfl ?_
                  refine r_iald C hM4 rfl dX2_pieceCount_91 (ls_19 hs).1 (ls_19 hs).2 hc3 hx2 ?_
                  refine r_goto C 96 dX2_pieceCount_92 (by decide) ?_
                  replace h := ck_some h
                  obtain ⟨hc13, h⟩ := h
                  refine r_imul C dX2_pieceCount_96 ?_
                  replace h := ck_some h
                  obtain ⟨hc14, h⟩ := h
                  refine r_iast C hM4 dX2_pieceCount_97 (ls_23 hs).1 (ls_23 hs).2 hc14 hc6 hc13 (fun H locs hM15 => ?_)
                  replace h := lt_some h
                  obtain ⟨N16, eN16, h⟩ := h
                  rw [← eN16] at hM15
                  replace h := ck_some h
                  obtain ⟨hc17, h⟩ := h
                  refine r_iinc (j := 3) (x := x2) C [(2, .int (jI (x2 + 1))), (3, .int (jI (M (s + 22) x2.toNat))), (0, .ref (z + (s + 17))), (1, .int (jI x1))] dX2_pieceCount_98 hl rfl (by decide) rfl (fun ls hl => ?_)
                  refine r_goto C 11 dX2_pieceCount_101 (by decide) ?_
                  exact ih11 _ _ _ hx1 hc17 _ _ _ h hM15 (lv_sub hl [2, 3, 0] rfl)
            · replace h := ifp cq h
              refine r_iload_n C dX2_pieceCount_46 rfl hl 2 rfl ?_
              refine r_aload_n C dX2_pieceCount_47 rfl hl 1 rfl ?_
              refine r_getR C hM4 jc2 6 (s + 23) dX2_pieceCount_48 lk_X2_31 (ls_17 hs).1 (ls_17 hs).2 rfl rfl (by decide) rfl ?_
              refine r_iload_n C dX2_pieceCount_51 rfl hl 0 rfl ?_
              replace h := ck_some h
              obtain ⟨hc18, h⟩ := h
              refine r_iald C hM4 rfl dX2_pieceCount_52 (ls_23 hs).1 (ls_23 hs).2 hc18 (hM.ok _ _) ?_
              replace h := ck_some h
              obtain ⟨hc19, h⟩ := h
              refine r_iadd C dX2_pieceCount_53 ?_
              refine r_istore_n C [(1, .int (jI (x1 + (M (s + 23) (M (s + 22) x2.toNat).toNat)))), (3, .int (jI (M (s + 22) x2.toNat))), (0, .ref (z + (s + 17))), (2, .int (jI x2))] dX2_pieceCount_54 rfl hl (by decide) rfl (fun ls hl => ?_)
              refine r_goto C 98 dX2_pieceCount_55 (by decide) ?_
              replace h := ck_some h
              obtain ⟨hc20, h⟩ := h
              refine r_iinc (j := 3) (x := x2) C [(2, .int (jI (x2 + 1))), (1, .int (jI (x1 + (M (s + 23) (M (s + 22) x2.toNat).toNat)))), (3, .int (jI (M (s + 22) x2.toNat))), (0, .ref (z + (s + 17)))] dX2_pieceCount_98 hl rfl (by decide) rfl (fun ls hl => ?_)
              refine r_goto C 11 dX2_pieceCount_101 (by decide) ?_
              exact ih11 _ _ _ hc19 hc20 _ _ _ h hM4 (lv_sub hl [3, 1, 0] rfl)
          · replace h := ifn cq h
            refine r_bipush C dX2_pieceCount_35 rfl ?_
            exact r_ireturnM C hM hr hlk ⟨by decide, by decide⟩ h dX2_pieceCount_37
  exact hL11 jFuel _ _ _ ⟨by decide, by decide⟩ ⟨by decide, by decide⟩ _ _ _ h hM1 (lv_sub hl [2, 1, 0] rfl)
set_option maxRecDepth 100000 in
set_option maxHeartbeats 4000000 in
theorem c_X2_kindTold (l : Launch) (E : jE) (z : Nat) {M : Mem} {r : Int} (h : f_X2_kindTold M = some r) : CtI l yX2_kindTold cX2_kindTold 1 (some .int) { frames := 7, cells := 0, slots := 0, locals := 322 } E z LyC [.ref (z + 1)] M r M := by
  refine jm (by decide +kernel) (Nat.le_of_ble_eq_true rfl) ?_
  intro p e sM m below meth c C hM0 hr hlk ls hl
  replace hl : lv_has ls 1 [(0, .ref (z + 1))] := hl
  unfold f_X2_kindTold at h
  refine r_aload_n C dX2_kindTold_0 rfl hl 0 rfl ?_
  refine r_ldcS (i := 0) C (List.mem_of_getElem? (i := 8) rfl) dX2_kindTold_1 ?_
  replace h := bd_some h
  obtain ⟨r3, hf3, h⟩ := h
  refine r_callI (As := [.ref (eK E 0)]) (rest := []) C hM0 (c_X8_isWord l E z (show 0 < nST by decide) hf3) jy_X8_isWord lk_X2_105 dX2_kindTold_3 (recvW C hM0 jc8 lc_1.1 lc_1.2 rfl) rfl rfl hl.1 (Nat.le_of_ble_eq_true rfl) ⟨Nat.le_of_ble_eq_true rfl, Nat.le_of_ble_eq_true rfl⟩ ⟨rfl, rfl⟩ ⟨Nat.zero_le _, Nat.zero_le _⟩ (fun H locs hr3 hM1 => ?_)
  refine r_if_eq C 11 hr3 dX2_kindTold_6 (by decide) (fun cq => ?_) (fun cq => ?_)
  · replace h := ifp cq h
    refine r_aload_n C dX2_kindTold_11 rfl hl 0 rfl ?_
    refine r_ldcS (i := 1) C (List.mem_of_getElem? (i := 9) rfl) dX2_kindTold_12 ?_
    replace h := bd_some h
    obtain ⟨r14, hf14, h⟩ := h
    refine r_callI (As := [.ref (eK E 1)]) (rest := []) C hM1 (c_X8_isWord l E z (show 1 < nST by decide) hf14) jy_X8_isWord lk_X2_105 dX2_kindTold_14 (recvW C hM1 jc8 lc_1.1 lc_1.2 rfl) rfl rfl hl.1 (Nat.le_of_ble_eq_true rfl) ⟨Nat.le_of_ble_eq_true rfl, Nat.le_of_ble_eq_true rfl⟩ ⟨rfl, rfl⟩ ⟨Nat.zero_le _, Nat.zero_le _⟩ (fun H locs hr14 hM2 => ?_)
    refine r_if_eq C 22 hr14 dX2_kindTold_17 (by decide) (fun cq => ?_) (fun cq => ?_)
    · replace h := ifp cq h
      refine r_aload_n C dX2_kindTold_22 rfl hl 0 rfl ?_
      refine r_ldcS (i := 8) C (List.mem_of_getElem? (i := 10) rfl) dX2_kindTold_23 ?_
      replace h := bd_some h
      obtain ⟨r25, hf25, h⟩ := h
      refine r_callI (As := [.ref (eK E 8)]) (rest := []) C hM2 (c_X8_isWord l E z (show 8 < nST by decide) hf25) jy_X8_isWord lk_X2_105 dX2_kindTold_25 (recvW C hM2 jc8 lc_1.1 lc_1.2 rfl) rfl rfl hl.1 (Nat.le_of_ble_eq_true rfl) ⟨Nat.le_of_ble_eq_true rfl, Nat.le_of_ble_eq_true rfl⟩ ⟨rfl, rfl⟩ ⟨Nat.zero_le _, Nat.zero_le _⟩ (fun H locs hr25 hM3 => ?_)
      refine r_if_eq C 33 hr25 dX2_kindTold_28 (by decide) (fun cq => ?_) (fun cq => ?_)
      · replace h := ifp cq h
        refine r_aload_n C dX2_kindTold_33 rfl hl 0 rfl ?_
        refine r_ldcS (i := 9) C (List.mem_of_getElem? (i := 11) rfl) dX2_kindTold_34 ?_
        replace h := bd_some h
        obtain ⟨r36, hf36, h⟩ := h
        refine r_callI (As := [.ref (eK E 9)]) (rest := []) C hM3 (c_X8_isWord l E z (show 9 < nST by decide) hf36) jy_X8_isWord lk_X2_105 dX2_kindTold_36 (recvW C hM3 jc8 lc_1.1 lc_1.2 rfl) rfl rfl hl.1 (Nat.le_of_ble_eq_true rfl) ⟨Nat.le_of_ble_eq_true rfl, Nat.le_of_ble_eq_true rfl⟩ ⟨rfl, rfl⟩ ⟨Nat.zero_le _, Nat.zero_le _⟩ (fun H locs hr36 hM4 => ?_)
        refine r_if_eq C 46 hr36 dX2_kindTold_39 (by decide) (fun cq => ?_) (fun cq => ?_)
        · replace h := ifp cq h
          refine r_iconst C dX2_kindTold_46 ?_
          exact r_ireturn C hM4 hr hlk ⟨by decide, by decide⟩ h rfl dX2_kindTold_47
        · replace h := ifn cq h
          refine r_iconst C dX2_kindTold_42 ?_
          refine r_goto C 47 dX2_kindTold_43 (by decide) ?_
          exact r_ireturn C hM4 hr hlk ⟨by decide, by decide⟩ h rfl dX2_kindTold_47
      · replace h := ifn cq h
        refine r_iconst C dX2_kindTold_31 ?_
        exact r_ireturn C hM3 hr hlk ⟨by decide, by decide⟩ h rfl dX2_kindTold_32
    · replace h := ifn cq h
      refine r_iconst C dX2_kindTold_20 ?_
      exact r_ireturn C hM2 hr hlk ⟨by decide, by decide⟩ h rfl dX2_kindTold_21
  · replace h := ifn cq h
    refine r_iconst C dX2_kindTold_9 ?_
    exact r_ireturn C hM1 hr hlk ⟨by decide, by decide⟩ h rfl dX2_kindTold_10
set_option maxRecDepth 100000 in
set_option maxHeartbeats 4000000 in
theorem c_X2_readCut (l : Launch) (E : jE) (z : Nat) {s : Nat} {s2 : Nat} {x3 : Int} {M M' : Mem} {r : Int} (hs : isSt s) (hs2 : isSt s2) (hx3 : inR x3) (h : f_X2_readCut s s2 x3 M = some (r, M')) : CtI l yX2_readCut cX2_readCut 7 (some .boolean) { frames := 8, cells := 0, slots := 0, locals := 343 } E z LyC [.ref (z + (s + 17)), .ref (z + 1), .ref (z + (s2 + 1)), .int (jI x3)] M r M' := by
  refine jm (by decide +kernel) (Nat.le_of_ble_eq_true rfl) ?_
  intro p e sM m below meth c C hM0 hr hlk ls hl
  replace hl : lv_has ls 7 [(0, .ref (z + (s + 17))), (1, .ref (z + 1)), (2, .ref (z + (s2 + 1))), (3, .int (jI x3))] := hl
  unfold f_X2_readCut at h
  refine r_aload_n C dX2_readCut_0 rfl hl 1 rfl ?_
  refine r_iconst C dX2_readCut_1 ?_
  refine r_aload_n C dX2_readCut_2 rfl hl 2 rfl ?_
  refine r_getI C hM0 jc3 0 rfl dX2_readCut_3 lk_X2_115 (ls_1 hs2).1 (ls_1 hs2).2 rfl rfl (by decide) rfl ?_
  refine r_iconst C dX2_readCut_6 ?_
  replace h := ck_some h
  obtain ⟨hc1, h⟩ := h
  refine r_isub C dX2_readCut_7 ?_
  replace h := bd_some h
  obtain ⟨⟨r8, M8⟩, hf8, h⟩ := h
  try dsimp only at h
  refine r_callI (As := [.int (jI 0), .int (jI ((M (s2 + 1) 0) - 1))]) (rest := []) C hM0 (c_X8_takeNumber l E z ⟨by decide, by decide⟩ hc1 hf8) jy_X8_takeNumber lk_X2_95 dX2_readCut_8 (recvW C hM0 jc8 lc_1.1 lc_1.2 rfl) rfl rfl hl.1 (Nat.le_of_ble_eq_true rfl) ⟨Nat.le_of_ble_eq_true rfl, Nat.le_of_ble_eq_true rfl⟩ ⟨rfl, rfl⟩ ⟨Nat.zero_le _, Nat.zero_le _⟩ (fun H locs hr8 hM2 => ?_)
  refine r_if_ne C 16 hr8 dX2_readCut_11 (by decide) (fun cq => ?_) (fun cq => ?_)
  · replace h := ifn cq h
    refine r_aload_n C dX2_readCut_16 rfl hl 1 rfl ?_
    refine r_getI C hM2 jc8 6 rfl dX2_readCut_17 lk_X2_120 lc_1.1 lc_1.2 rfl rfl (by decide) rfl ?_
    refine r_istore C [(4, .int (jI (M8 1 6))), (0, .ref (z + (s + 17))), (1, .ref (z + 1)), (2, .ref (z + (s2 + 1))), (3, .int (jI x3))] dX2_readCut_20 hl (by decide) rfl (fun ls hl => ?_)
    refine r_iconst C dX2_readCut_22 ?_
    refine r_istore C [(5, .int (jI 0)), (4, .int (jI (M8 1 6))), (0, .ref (z + (s + 17))), (1, .ref (z + 1)), (2, .ref (z + (s2 + 1))), (3, .int (jI x3))] dX2_readCut_23 hl (by decide) rfl (fun ls hl => ?_)
    refine r_aload_n C dX2_readCut_25 rfl hl 4 rfl ?_
    refine r_iload C dX2_readCut_26 hl 1 rfl ?_
    replace h := bd_some h
    obtain ⟨r28, hf28, h⟩ := h
    refine r_callI (As := [.int (jI (M8 1 6))]) (rest := []) C hM2 (c_X3_lengthOf l E z hs2 (hM2.ok _ _) hf28) jy_X3_lengthOf lk_X2_123 dX2_readCut_28 (recvW C hM2 jc3 (ls_1 hs2).1 (ls_1 hs2).2 rfl) rfl rfl hl.1 (Nat.le_of_ble_eq_true rfl) ⟨Nat.le_of_ble_eq_true rfl, Nat.le_of_ble_eq_true rfl⟩ ⟨rfl, rfl⟩ ⟨Nat.zero_le _, Nat.zero_le _⟩ (fun H locs hr28 hM3 => ?_)
    refine r_iconst C dX2_readCut_31 ?_
    replace h := ck_some h
    obtain ⟨hc4, h⟩ := h
    refine r_isub C dX2_readCut_32 ?_
    refine r_istore C [(6, .int (jI (r28 - 1))), (5, .int (jI 0)), (4, .int (jI (M8 1 6))), (0, .ref (z + (s + 17))), (1, .ref (z + 1)), (2, .ref (z + (s2 + 1))), (3, .int (jI x3))] dX2_readCut_33 hl (by decide) rfl (fun ls hl => ?_)
    refine r_aload_n C dX2_readCut_35 rfl hl 4 rfl ?_
    refine r_ldcS (i := 10) C (List.mem_of_getElem? (i := 12) rfl) dX2_readCut_36 ?_
    replace h := bd_some h
    obtain ⟨r38, hf38, h⟩ := h
    refine r_callI (As := [.ref (eK E 10)]) (rest := []) C hM3 (c_X8_isWord l E z (show 10 < nST by decide) hf38) jy_X8_isWord lk_X2_105 dX2_readCut_38 (recvW C hM3 jc8 lc_1.1 lc_1.2 rfl) rfl rfl hl.1 (Nat.le_of_ble_eq_true rfl) ⟨Nat.le_of_ble_eq_true rfl, Nat.le_of_ble_eq_true rfl⟩ ⟨rfl, rfl⟩ ⟨Nat.zero_le _, Nat.zero_le _⟩ (fun H locs hr38 hM5 => ?_)
    replace h := jn_some h
    obtain ⟨k94, hk94, h⟩ := h
    have hJ94 : ∀ (x5_94 : Int) (x6_94 : Int) (M94 : Mem), inR x5_94 → inR x6_94 → ∀ (H : Heap) (locs : List Loc) (ls : Array Slot), k94 x5_94 x6_94 M94 = some (r, M') → HS E z LyC M94 sM H locs → lv_has ls 7 [(0, .ref (z + (s + 17))), (3, .int (jI x3)), (4, .int (jI (M8 1 6))), (5, .int (jI x5_94)), (6, .int (jI x6_94))] → W p l e ({ frames := 8, cells := 0, slots := 0, locals := 343 } : Room) sM m (([.ref (z + (s + 17)), .ref (z + 1), .ref (z + (s2 + 1)), .int (jI x3)] : List Value).toArray) below meth c H locs 0 0 (MQ below (va_Qi (fun (w : Int32) (_ : Unit) => w = jI r ∧ inR r ∧ Mok LyC M') (fun _ t => va_P (eD E) vwCl (Wd (eC E) z LyC M') t.heap) (eA E)) (([.ref (z + (s + 17)), .ref (z + 1), .ref (z + (s2 + 1)), .int (jI x3)] : List Value).toArray) sM 0 0 (eA E)) (F0 m 94 ls []) := by
      intro x5_94 x6_94 M94 hx5_94 hx6_94 H locs ls h hMj94 hl
      subst hk94
      try dsimp only at h
      refine r_aload_n C dX2_readCut_94 rfl hl 0 rfl ?_
      refine r_iconst C dX2_readCut_95 ?_
      refine r_iload C dX2_readCut_96 hl 2 rfl ?_
      refine r_iload C dX2_readCut_98 hl 3 rfl ?_
      refine r_iload C dX2_readCut_100 hl 4 rfl ?_
      refine r_iload_n C dX2_readCut_102 rfl hl 1 rfl ?_
      replace h := bd_some h
      obtain ⟨M103, hf103, h⟩ := h
      refine r_callV (As := [.int (jI 0), .int (jI (M8 1 6)), .int (jI x5_94), .int (jI x6_94), .int (jI x3)]) (rest := []) C hMj94 (c_X2_add l E z hs ⟨by decide, by decide⟩ (hM2.ok _ _) hx5_94 hx6_94 hx3 hf103) jy_X2_add lk_X2_44 dX2_readCut_103 (recvW C hMj94 jc2 (ls_17 hs).1 (ls_17 hs).2 rfl) rfl rfl hl.1 (Nat.le_of_ble_eq_true rfl) ⟨Nat.le_of_ble_eq_true rfl, Nat.le_of_ble_eq_true rfl⟩ ⟨rfl, rfl⟩ ⟨Nat.zero_le _, Nat.zero_le _⟩ (fun H locs hM6 => ?_)
      refine r_iconst C dX2_readCut_106 ?_
      exact r_zreturnM C hM6 hr hlk (Or.inr rfl) h dX2_readCut_107
    refine r_if_eq C 94 hr38 dX2_readCut_41 (by decide) (fun cq => ?_) (fun cq => ?_)
    · replace h := ifp cq h
      exact hJ94 _ _ _ ⟨by decide, by decide⟩ hc4 _ _ _ h hM5 (lv_sub hl [3, 6, 2, 1, 0] rfl)
    · replace h := ifn cq h
      refine r_aload_n C dX2_readCut_44 rfl hl 4 rfl ?_
      replace h := bd_some h
      obtain ⟨M45, hf45, h⟩ := h
      refine r_callV (As := []) (rest := []) C hM5 (c_X8_advance l E z hf45) jy_X8_advance lk_X2_86 dX2_readCut_45 (recvW C hM5 jc8 lc_1.1 lc_1.2 rfl) rfl rfl hl.1 (Nat.le_of_ble_eq_true rfl) ⟨Nat.le_of_ble_eq_true rfl, Nat.le_of_ble_eq_true rfl⟩ ⟨rfl, rfl⟩ ⟨Nat.zero_le _, Nat.zero_le _⟩ (fun H locs hM7 => ?_)
      refine r_aload_n C dX2_readCut_48 rfl hl 4 rfl ?_
      refine r_iconst C dX2_readCut_49 ?_
      refine r_iload C dX2_readCut_50 hl 0 rfl ?_
      replace h := bd_some h
      obtain ⟨⟨r52, M52⟩, hf52, h⟩ := h
      try dsimp only at h
      refine r_callI (As := [.int (jI 0), .int (jI (r28 - 1))]) (rest := []) C hM7 (c_X8_takeNumber l E z ⟨by decide, by decide⟩ hc4 hf52) jy_X8_takeNumber lk_X2_95 dX2_readCut_52 (recvW C hM7 jc8 lc_1.1 lc_1.2 rfl) rfl rfl hl.1 (Nat.le_of_ble_eq_true rfl) ⟨Nat.le_of_ble_eq_true rfl, Nat.le_of_ble_eq_true rfl⟩ ⟨rfl, rfl⟩ ⟨Nat.zero_le _, Nat.zero_le _⟩ (fun H locs hr52 hM8 => ?_)
      refine r_if_ne C 60 hr52 dX2_readCut_55 (by decide) (fun cq => ?_) (fun cq => ?_)
      · replace h := ifn cq h
        refine r_aload_n C dX2_readCut_60 rfl hl 4 rfl ?_
        refine r_getI C hM8 jc8 6 rfl dX2_readCut_61 lk_X2_120 lc_1.1 lc_1.2 rfl rfl (by decide) rfl ?_
        refine r_istore C [(5, .int (jI (M52 1 6))), (6, .int (jI (r28 - 1))), (4, .int (jI (M8 1 6))), (0, .ref (z + (s + 17))), (1, .ref (z + 1)), (2, .ref (z + (s2 + 1))), (3, .int (jI x3))] dX2_readCut_64 hl (by decide) rfl (fun ls hl => ?_)
        refine r_aload_n C dX2_readCut_66 rfl hl 4 rfl ?_
        refine r_ldcS (i := 11) C (List.mem_of_getElem? (i := 13) rfl) dX2_readCut_67 ?_
        replace h := bd_some h
        obtain ⟨⟨r69, M69⟩, hf69, h⟩ := h
        try dsimp only at h
        refine r_callI (As := [.ref (eK E 11)]) (rest := []) C hM8 (c_X8_takeWord l E z (show 11 < nST by decide) hf69) jy_X8_takeWord lk_X2_130 dX2_readCut_69 (recvW C hM8 jc8 lc_1.1 lc_1.2 rfl) rfl rfl hl.1 (Nat.le_of_ble_eq_true rfl) ⟨Nat.le_of_ble_eq_true rfl, Nat.le_of_ble_eq_true rfl⟩ ⟨rfl, rfl⟩ ⟨Nat.zero_le _, Nat.zero_le _⟩ (fun H locs hr69 hM9 => ?_)
        refine r_if_eq C 86 hr69 dX2_readCut_72 (by decide) (fun cq => ?_) (fun cq => ?_)
        · replace h := ifp cq h
          refine r_iconst C dX2_readCut_86 ?_
          exact r_zreturnM C hM9 hr hlk (Or.inl rfl) h dX2_readCut_87
        · replace h := ifn cq h
          refine r_aload_n C dX2_readCut_75 rfl hl 4 rfl ?_
          refine r_iload C dX2_readCut_76 hl 0 rfl ?_
          refine r_iload C dX2_readCut_78 hl 1 rfl ?_
          replace h := bd_some h
          obtain ⟨⟨r80, M80⟩, hf80, h⟩ := h
          try dsimp only at h
          refine r_callI (As := [.int (jI (M52 1 6)), .int (jI (r28 - 1))]) (rest := []) C hM9 (c_X8_takeNumber l E z (hM8.ok _ _) hc4 hf80) jy_X8_takeNumber lk_X2_95 dX2_readCut_80 (recvW C hM9 jc8 lc_1.1 lc_1.2 rfl) rfl rfl hl.1 (Nat.le_of_ble_eq_true rfl) ⟨Nat.le_of_ble_eq_true rfl, Nat.le_of_ble_eq_true rfl⟩ ⟨rfl, rfl⟩ ⟨Nat.zero_le _, Nat.zero_le _⟩ (fun H locs hr80 hM10 => ?_)
          refine r_if_ne C 88 hr80 dX2_readCut_83 (by decide) (fun cq => ?_) (fun cq => ?_)
          · replace h := ifn cq h
            refine r_aload_n C dX2_readCut_88 rfl hl 4 rfl ?_
            refine r_getI C hM10 jc8 6 rfl dX2_readCut_89 lk_X2_120 lc_1.1 lc_1.2 rfl rfl (by decide) rfl ?_
            refine r_istore C [(6, .int (jI (M80 1 6))), (5, .int (jI (M52 1 6))), (4, .int (jI (M8 1 6))), (0, .ref (z + (s + 17))), (1, .ref (z + 1)), (2, .ref (z + (s2 + 1))), (3, .int (jI x3))] dX2_readCut_92 hl (by decide) rfl (fun ls hl => ?_)
            exact hJ94 _ _ _ (hM8.ok _ _) (hM10.ok _ _) _ _ _ h hM10 (lv_sub hl [3, 6, 2, 1, 0] rfl)
          · replace h := ifp cq h
            refine r_iconst C dX2_readCut_86 ?_
            exact r_zreturnM C hM10 hr hlk (Or.inl rfl) h dX2_readCut_87
      · replace h := ifp cq h
        refine r_iconst C dX2_readCut_58 ?_
        exact r_zreturnM C hM8 hr hlk (Or.inl rfl) h dX2_readCut_59
  · replace h := ifp cq h
    refine r_iconst C dX2_readCut_14 ?_
    exact r_zreturnM C hM2 hr hlk (Or.inl rfl) h dX2_readCut_15
set_option maxRecDepth 100000 in
set_option maxHeartbeats 4000000 in
theorem c_X2_readMap (l : Launch) (E : jE) (z : Nat) {s : Nat} {s2 : Nat} {x3 : Int} {M M' : Mem} {r : Int} (hs : isSt s) (hs2 : isSt s2) (hx3 : inR x3) (h : f_X2_readMap s s2 x3 M = some (r, M')) : CtI l yX2_readMap cX2_readMap 5 (some .boolean) { frames := 3, cells := 0, slots := 0, locals := 63 } E z LyC [.ref (z + (s + 17)), .ref (z + 1), .ref (z + (s2 + 1)), .int (jI x3)] M r M' := by
  refine jm (by decide +kernel) (Nat.le_of_ble_eq_true rfl) ?_
  intro p e sM m below meth c C hM0 hr hlk ls hl
  replace hl : lv_has ls 5 [(0, .ref (z + (s + 17))), (1, .ref (z + 1)), (2, .ref (z + (s2 + 1))), (3, .int (jI x3))] := hl
  unfold f_X2_readMap at h
  refine r_aload_n C dX2_readMap_0 rfl hl 1 rfl ?_
  refine r_iconst C dX2_readMap_1 ?_
  refine r_aload_n C dX2_readMap_2 rfl hl 2 rfl ?_
  refine r_getI C hM0 jc3 3 rfl dX2_readMap_3 lk_X2_133 (ls_1 hs2).1 (ls_1 hs2).2 rfl rfl (by decide) rfl ?_
  refine r_iconst C dX2_readMap_6 ?_
  replace h := ck_some h
  obtain ⟨hc1, h⟩ := h
  refine r_isub C dX2_readMap_7 ?_
  replace h := bd_some h
  obtain ⟨⟨r8, M8⟩, hf8, h⟩ := h
  try dsimp only at h
  refine r_callI (As := [.int (jI 0), .int (jI ((M (s2 + 1) 3) - 1))]) (rest := []) C hM0 (c_X8_takeNumber l E z ⟨by decide, by decide⟩ hc1 hf8) jy_X8_takeNumber lk_X2_95 dX2_readMap_8 (recvW C hM0 jc8 lc_1.1 lc_1.2 rfl) rfl rfl hl.1 (Nat.le_of_ble_eq_true rfl) ⟨Nat.le_of_ble_eq_true rfl, Nat.le_of_ble_eq_true rfl⟩ ⟨rfl, rfl⟩ ⟨Nat.zero_le _, Nat.zero_le _⟩ (fun H locs hr8 hM2 => ?_)
  refine r_if_ne C 16 hr8 dX2_readMap_11 (by decide) (fun cq => ?_) (fun cq => ?_)
  · replace h := ifn cq h
    refine r_aload_n C dX2_readMap_16 rfl hl 1 rfl ?_
    refine r_getI C hM2 jc8 6 rfl dX2_readMap_17 lk_X2_120 lc_1.1 lc_1.2 rfl rfl (by decide) rfl ?_
    refine r_istore C [(4, .int (jI (M8 1 6))), (0, .ref (z + (s + 17))), (1, .ref (z + 1)), (2, .ref (z + (s2 + 1))), (3, .int (jI x3))] dX2_readMap_20 hl (by decide) rfl (fun ls hl => ?_)
    refine r_aload_n C dX2_readMap_22 rfl hl 2 rfl ?_
    refine r_iconst C dX2_readMap_23 ?_
    refine r_sipush C dX2_readMap_24 rfl ?_
    replace h := bd_some h
    obtain ⟨⟨r27, M27⟩, hf27, h⟩ := h
    try dsimp only at h
    refine r_callI (As := [.int (jI 1), .int (jI 400)]) (rest := []) C hM2 (c_X8_takeNumber l E z ⟨by decide, by decide⟩ ⟨by decide, by decide⟩ hf27) jy_X8_takeNumber lk_X2_95 dX2_readMap_27 (recvW C hM2 jc8 lc_1.1 lc_1.2 rfl) rfl rfl hl.1 (Nat.le_of_ble_eq_true rfl) ⟨Nat.le_of_ble_eq_true rfl, Nat.le_of_ble_eq_true rfl⟩ ⟨rfl, rfl⟩ ⟨Nat.zero_le _, Nat.zero_le _⟩ (fun H locs hr27 hM3 => ?_)
    refine r_if_ne C 35 hr27 dX2_readMap_30 (by decide) (fun cq => ?_) (fun cq => ?_)
    · replace h := ifn cq h
      refine r_aload_n C dX2_readMap_35 rfl hl 1 rfl ?_
      refine r_iconst C dX2_readMap_36 ?_
      refine r_iload C dX2_readMap_37 hl 0 rfl ?_
      refine r_iconst C dX2_readMap_39 ?_
      refine r_aload_n C dX2_readMap_40 rfl hl 2 rfl ?_
      refine r_getI C hM3 jc8 6 rfl dX2_readMap_41 lk_X2_120 lc_1.1 lc_1.2 rfl rfl (by decide) rfl ?_
      refine r_iconst C dX2_readMap_44 ?_
      replace h := ck_some h
      obtain ⟨hc4, h⟩ := h
      refine r_isub C dX2_readMap_45 ?_
      refine r_iload_n C dX2_readMap_46 rfl hl 4 rfl ?_
      replace h := bd_some h
      obtain ⟨M47, hf47, h⟩ := h
      refine r_callV (As := [.int (jI 1), .int (jI (M8 1 6)), .int (jI 0), .int (jI ((M27 1 6) - 1)), .int (jI x3)]) (rest := []) C hM3 (c_X2_add l E z hs ⟨by decide, by decide⟩ (hM2.ok _ _) ⟨by decide, by decide⟩ hc4 hx3 hf47) jy_X2_add lk_X2_44 dX2_readMap_47 (recvW C hM3 jc2 (ls_17 hs).1 (ls_17 hs).2 rfl) rfl rfl hl.1 (Nat.le_of_ble_eq_true rfl) ⟨Nat.le_of_ble_eq_true rfl, Nat.le_of_ble_eq_true rfl⟩ ⟨rfl, rfl⟩ ⟨Nat.zero_le _, Nat.zero_le _⟩ (fun H locs hM5 => ?_)
      refine r_iconst C dX2_readMap_50 ?_
      exact r_zreturnM C hM5 hr hlk (Or.inr rfl) h dX2_readMap_51
    · replace h := ifp cq h
      refine r_iconst C dX2_readMap_33 ?_
      exact r_zreturnM C hM3 hr hlk (Or.inl rfl) h dX2_readMap_34
  · replace h := ifp cq h
    refine r_iconst C dX2_readMap_14 ?_
    exact r_zreturnM C hM2 hr hlk (Or.inl rfl) h dX2_readMap_15
