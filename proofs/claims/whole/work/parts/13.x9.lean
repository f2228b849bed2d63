set_option maxRecDepth 100000 in
set_option maxHeartbeats 4000000 in
theorem c_X9_clear (l : Launch) (E : jE) (z : Nat) {s : Nat} {M M' : Mem} (hs : isSt s) (h : f_X9_clear s M = some M') : CtV l yX9_clear cX9_clear 1 none { frames := 0, cells := 0, slots := 0, locals := 0 } E z LyC [.ref (z + (s + 11))] M M' := by
  refine jm (by decide +kernel) (Nat.le_of_ble_eq_true rfl) ?_
  intro p e sM m below meth c C hM0 hr hlk ls hl
  replace hl : lv_has ls 1 [(0, .ref (z + (s + 11)))] := hl
  unfold f_X9_clear at h
  refine r_aload_n C dX9_clear_0 rfl hl 0 rfl ?_
  refine r_iconst C dX9_clear_1 ?_
  refine r_putI C hM0 jc9 0 ⟨by decide, by decide⟩ dX9_clear_2 lk_X9_9 (ls_11 hs).1 (ls_11 hs).2 rfl rfl (by decide) rfl rfl rfl (Nat.le_of_ble_eq_true rfl) (by decide) (fun H locs hM1 => ?_)
  replace h := lt_some h
  obtain ⟨N2, eN2, h⟩ := h
  rw [← eN2] at hM1
  refine r_aload_n C dX9_clear_5 rfl hl 0 rfl ?_
  refine r_iconst C dX9_clear_6 ?_
  refine r_putI C hM1 jc9 1 ⟨by decide, by decide⟩ dX9_clear_7 lk_X9_15 (ls_11 hs).1 (ls_11 hs).2 rfl rfl (by decide) rfl rfl rfl (Nat.le_of_ble_eq_true rfl) (by decide) (fun H locs hM3 => ?_)
  replace h := lt_some h
  obtain ⟨N4, eN4, h⟩ := h
  rw [← eN4] at hM3
  exact r_return C hM3 hr hlk h dX9_clear_10
set_option maxRecDepth 100000 in
set_option maxHeartbeats 4000000 in
theorem c_X9_copyFrom (l : Launch) (E : jE) (z : Nat) {s : Nat} {s1 : Nat} {M M' : Mem} (hs : isSt s) (hs1 : isSt s1) (h : f_X9_copyFrom s s1 M = some M') : CtV l yX9_copyFrom cX9_copyFrom 2 none { frames := 1, cells := 0, slots := 0, locals := 18 } E z LyC [.ref (z + (s + 11)), .ref (z + (s1 + 11))] M M' := by
  refine jm (by decide +kernel) (Nat.le_of_ble_eq_true rfl) ?_
  intro p e sM m below meth c C hM0 hr hlk ls hl
  replace hl : lv_has ls 2 [(0, .ref (z + (s + 11))), (1, .ref (z + (s1 + 11)))] := hl
  unfold f_X9_copyFrom at h
  refine r_aload_n C dX9_copyFrom_0 rfl hl 0 rfl ?_
  refine r_aload_n C dX9_copyFrom_1 rfl hl 1 rfl ?_
  refine r_getI C hM0 jc9 0 rfl dX9_copyFrom_2 lk_X9_9 (ls_11 hs1).1 (ls_11 hs1).2 rfl rfl (by decide) rfl ?_
  refine r_putI C hM0 jc9 0 (hM0.ok _ _) dX9_copyFrom_5 lk_X9_9 (ls_11 hs).1 (ls_11 hs).2 rfl rfl (by decide) rfl rfl rfl (Nat.le_of_ble_eq_true rfl) (by decide) (fun H locs hM1 => ?_)
  replace h := lt_some h
  obtain ⟨N2, eN2, h⟩ := h
  rw [← eN2] at hM1
  refine r_aload_n C dX9_copyFrom_8 rfl hl 0 rfl ?_
  refine r_aload_n C dX9_copyFrom_9 rfl hl 1 rfl ?_
  refine r_getI C hM1 jc9 1 rfl dX9_copyFrom_10 lk_X9_15 (ls_11 hs1).1 (ls_11 hs1).2 rfl rfl (by decide) rfl ?_
  refine r_putI C hM1 jc9 1 (hM1.ok _ _) dX9_copyFrom_13 lk_X9_15 (ls_11 hs).1 (ls_11 hs).2 rfl rfl (by decide) rfl rfl rfl (Nat.le_of_ble_eq_true rfl) (by decide) (fun H locs hM3 => ?_)
  replace h := lt_some h
  obtain ⟨N4, eN4, h⟩ := h
  rw [← eN4] at hM3
  refine r_aload_n C dX9_copyFrom_16 rfl hl 1 rfl ?_
  refine r_getR C hM3 jc9 2 (s1 + 12) dX9_copyFrom_17 lk_X9_18 (ls_11 hs1).1 (ls_11 hs1).2 rfl rfl (by decide) rfl ?_
  refine r_iconst C dX9_copyFrom_20 ?_
  refine r_aload_n C dX9_copyFrom_21 rfl hl 0 rfl ?_
  refine r_getR C hM3 jc9 2 (s + 12) dX9_copyFrom_22 lk_X9_18 (ls_11 hs).1 (ls_11 hs).2 rfl rfl (by decide) rfl ?_
  refine r_iconst C dX9_copyFrom_25 ?_
  refine r_sipush C dX9_copyFrom_26 rfl ?_
  refine r_copy (t := 1) C hM3 lk_X9_36 dX9_copyFrom_29 (Or.inr (Or.inl ⟨rfl, rfl⟩)) rfl (ls_12 hs1).1 (ls_12 hs).1 (ls_12 hs1).2 (ls_12 hs).2 ⟨by decide, by decide⟩ ⟨by decide, by decide⟩ ⟨by decide, by decide⟩ (show ((0 : Int) ≤ 0 ∧ (0 : Int) ≤ 0 ∧ (0 : Int) ≤ 500 ∧ (0 + 500 : Int) ≤ 500 ∧ (0 + 500 : Int) ≤ 500 : Prop) by decide) hl.1 ⟨Nat.le_of_ble_eq_true rfl, Nat.le_of_ble_eq_true rfl⟩ (fun H locs hM5 => ?_)
  replace h := lt_some h
  obtain ⟨N6, eN6, h⟩ := h
  rw [← eN6] at hM5
  refine r_aload_n C dX9_copyFrom_32 rfl hl 1 rfl ?_
  refine r_getR C hM5 jc9 3 (s1 + 13) dX9_copyFrom_33 lk_X9_22 (ls_11 hs1).1 (ls_11 hs1).2 rfl rfl (by decide) rfl ?_
  refine r_iconst C dX9_copyFrom_36 ?_
  refine r_aload_n C dX9_copyFrom_37 rfl hl 0 rfl ?_
  refine r_getR C hM5 jc9 3 (s + 13) dX9_copyFrom_38 lk_X9_22 (ls_11 hs).1 (ls_11 hs).2 rfl rfl (by decide) rfl ?_
  refine r_iconst C dX9_copyFrom_41 ?_
  refine r_bipush C dX9_copyFrom_42 rfl ?_
  refine r_copy (t := 0) C hM5 lk_X9_36 dX9_copyFrom_44 (Or.inl ⟨rfl, rfl⟩) rfl (ls_13 hs1).1 (ls_13 hs).1 (ls_13 hs1).2 (ls_13 hs).2 ⟨by decide, by decide⟩ ⟨by decide, by decide⟩ ⟨by decide, by decide⟩ (show ((0 : Int) ≤ 0 ∧ (0 : Int) ≤ 0 ∧ (0 : Int) ≤ 60 ∧ (0 + 60 : Int) ≤ 60 ∧ (0 + 60 : Int) ≤ 60 : Prop) by decide) hl.1 ⟨Nat.le_of_ble_eq_true rfl, Nat.le_of_ble_eq_true rfl⟩ (fun H locs hM7 => ?_)
  replace h := lt_some h
  obtain ⟨N8, eN8, h⟩ := h
  rw [← eN8] at hM7
  refine r_aload_n C dX9_copyFrom_47 rfl hl 1 rfl ?_
  refine r_getR C hM7 jc9 4 (s1 + 14) dX9_copyFrom_48 lk_X9_26 (ls_11 hs1).1 (ls_11 hs1).2 rfl rfl (by decide) rfl ?_
  refine r_iconst C dX9_copyFrom_51 ?_
  refine r_aload_n C dX9_copyFrom_52 rfl hl 0 rfl ?_
  refine r_getR C hM7 jc9 4 (s + 14) dX9_copyFrom_53 lk_X9_26 (ls_11 hs).1 (ls_11 hs).2 rfl rfl (by decide) rfl ?_
  refine r_iconst C dX9_copyFrom_56 ?_
  refine r_bipush C dX9_copyFrom_57 rfl ?_
  refine r_copy (t := 0) C hM7 lk_X9_36 dX9_copyFrom_59 (Or.inl ⟨rfl, rfl⟩) rfl (ls_14 hs1).1 (ls_14 hs).1 (ls_14 hs1).2 (ls_14 hs).2 ⟨by decide, by decide⟩ ⟨by decide, by decide⟩ ⟨by decide, by decide⟩ (show ((0 : Int) ≤ 0 ∧ (0 : Int) ≤ 0 ∧ (0 : Int) ≤ 60 ∧ (0 + 60 : Int) ≤ 60 ∧ (0 + 60 : Int) ≤ 60 : Prop) by decide) hl.1 ⟨Nat.le_of_ble_eq_true rfl, Nat.le_of_ble_eq_true rfl⟩ (fun H locs hM9 => ?_)
  replace h := lt_some h
  obtain ⟨N10, eN10, h⟩ := h
  rw [← eN10] at hM9
  refine r_aload_n C dX9_copyFrom_62 rfl hl 1 rfl ?_
  refine r_getR C hM9 jc9 5 (s1 + 15) dX9_copyFrom_63 lk_X9_29 (ls_11 hs1).1 (ls_11 hs1).2 rfl rfl (by decide) rfl ?_
  refine r_iconst C dX9_copyFrom_66 ?_
  refine r_aload_n C dX9_copyFrom_67 rfl hl 0 rfl ?_
  refine r_getR C hM9 jc9 5 (s + 15) dX9_copyFrom_68 lk_X9_29 (ls_11 hs).1 (ls_11 hs).2 rfl rfl (by decide) rfl ?_
  refine r_iconst C dX9_copyFrom_71 ?_
  refine r_bipush C dX9_copyFrom_72 rfl ?_
  refine r_copy (t := 0) C hM9 lk_X9_36 dX9_copyFrom_74 (Or.inl ⟨rfl, rfl⟩) rfl (ls_15 hs1).1 (ls_15 hs).1 (ls_15 hs1).2 (ls_15 hs).2 ⟨by decide, by decide⟩ ⟨by decide, by decide⟩ ⟨by decide, by decide⟩ (show ((0 : Int) ≤ 0 ∧ (0 : Int) ≤ 0 ∧ (0 : Int) ≤ 60 ∧ (0 + 60 : Int) ≤ 60 ∧ (0 + 60 : Int) ≤ 60 : Prop) by decide) hl.1 ⟨Nat.le_of_ble_eq_true rfl, Nat.le_of_ble_eq_true rfl⟩ (fun H locs hM11 => ?_)
  replace h := lt_some h
  obtain ⟨N12, eN12, h⟩ := h
  rw [← eN12] at hM11
  refine r_aload_n C dX9_copyFrom_77 rfl hl 1 rfl ?_
  refine r_getR C hM11 jc9 6 (s1 + 16) dX9_copyFrom_78 lk_X9_32 (ls_11 hs1).1 (ls_11 hs1).2 rfl rfl (by decide) rfl ?_
  refine r_iconst C dX9_copyFrom_81 ?_
  refine r_aload_n C dX9_copyFrom_82 rfl hl 0 rfl ?_
  refine r_getR C hM11 jc9 6 (s + 16) dX9_copyFrom_83 lk_X9_32 (ls_11 hs).1 (ls_11 hs).2 rfl rfl (by decide) rfl ?_
  refine r_iconst C dX9_copyFrom_86 ?_
  refine r_bipush C dX9_copyFrom_87 rfl ?_
  refine r_copy (t := 2) C hM11 lk_X9_36 dX9_copyFrom_89 (Or.inr (Or.inr ⟨rfl, rfl⟩)) rfl (ls_16 hs1).1 (ls_16 hs).1 (ls_16 hs1).2 (ls_16 hs).2 ⟨by decide, by decide⟩ ⟨by decide, by decide⟩ ⟨by decide, by decide⟩ (show ((0 : Int) ≤ 0 ∧ (0 : Int) ≤ 0 ∧ (0 : Int) ≤ 60 ∧ (0 + 60 : Int) ≤ 60 ∧ (0 + 60 : Int) ≤ 60 : Prop) by decide) hl.1 ⟨Nat.le_of_ble_eq_true rfl, Nat.le_of_ble_eq_true rfl⟩ (fun H locs hM13 => ?_)
  replace h := lt_some h
  obtain ⟨N14, eN14, h⟩ := h
  rw [← eN14] at hM13
  exact r_return C hM13 hr hlk h dX9_copyFrom_92
set_option maxRecDepth 100000 in
set_option maxHeartbeats 4000000 in
theorem c_X9_allSyllables (l : Launch) (E : jE) (z : Nat) {s : Nat} {M : Mem} {r : Int} (hs : isSt s) (h : f_X9_allSyllables s M = some r) : CtI l yX9_allSyllables cX9_allSyllables 3 (some .int) { frames := 0, cells := 0, slots := 0, locals := 0 } E z LyC [.ref (z + (s + 11))] M r M := by
  refine jm (by decide +kernel) (Nat.le_of_ble_eq_true rfl) ?_
  intro p e sM m below meth c C hM0 hr hlk ls hl
  replace hl : lv_has ls 3 [(0, .ref (z + (s + 11)))] := hl
  unfold f_X9_allSyllables at h
  refine r_iconst C dX9_allSyllables_0 ?_
  refine r_istore_n C [(1, .int (jI 0)), (0, .ref (z + (s + 11)))] dX9_allSyllables_1 rfl hl (by decide) rfl (fun ls hl => ?_)
  refine r_iconst C dX9_allSyllables_2 ?_
  refine r_istore_n C [(2, .int (jI 0)), (1, .int (jI 0)), (0, .ref (z + (s + 11)))] dX9_allSyllables_3 rfl hl (by decide) rfl (fun ls hl => ?_)
  have hL4 : ∀ n4 : Nat, ∀ (x1 : Int) (x2 : Int), inR x1 → inR x2 → ∀ (H : Heap) (locs : List Loc) (ls : Array Slot), f_X9_allSyllables_L4 s M n4  x1 x2 = some r → HS E z LyC M sM H locs → lv_has ls 3 [(0, .ref (z + (s + 11))), (1, .int (jI x1)), (2, .int (jI x2))] → W p l e ({ frames := 0, cells := 0, slots := 0, locals := 0 } : Room) sM m (([.ref (z + (s + 11))] : List Value).toArray) below meth c H locs 0 0 (MQ below (va_Qi (fun (w : Int32) (_ : Unit) => w = jI r ∧ inR r ∧ Mok LyC M) (fun _ t => va_P (eD E) vwCl (Wd (eC E) z LyC M) t.heap) (eA E)) (([.ref (z + (s + 11))] : List Value).toArray) sM 0 0 (eA E)) (F0 m 4 ls []) := by
    intro n4
    induction n4 with
    | zero =>
      intro x1 x2 hx1 hx2 H locs ls h hM hl
      exact absurd h (by simp [f_X9_allSyllables_L4])
    | succ n4 ih4 =>
      intro x1 x2 hx1 hx2 H locs ls h hM hl
      rw [f_X9_allSyllables_L4] at h
      refine r_iload_n C dX9_allSyllables_4 rfl hl 2 rfl ?_
      refine r_aload_n C dX9_allSyllables_5 rfl hl 0 rfl ?_
      refine r_getI C hM jc9 0 rfl dX9_allSyllables_6 lk_X9_9 (ls_11 hs).1 (ls_11 hs).2 rfl rfl (by decide) rfl ?_
      refine r_icmp_ge C 27 hx2 (hM.ok _ _) dX9_allSyllables_9 (by decide) (fun cq => ?_) (fun cq => ?_)
      · replace h := ifp cq h
        refine r_iload_n C dX9_allSyllables_27 rfl hl 1 rfl ?_
        exact r_ireturn C hM hr hlk hx1 h rfl dX9_allSyllables_28
      · replace h := ifn cq h
        refine r_iload_n C dX9_allSyllables_12 rfl hl 1 rfl ?_
        refine r_aload_n C dX9_allSyllables_13 rfl hl 0 rfl ?_
        refine r_getR C hM jc9 5 (s + 15) dX9_allSyllables_14 lk_X9_29 (ls_11 hs).1 (ls_11 hs).2 rfl rfl (by decide) rfl ?_
        refine r_iload_n C dX9_allSyllables_17 rfl hl 2 rfl ?_
        replace h := ck_some h
        obtain ⟨hc1, h⟩ := h
        refine r_iald C hM rfl dX9_allSyllables_18 (ls_15 hs).1 (ls_15 hs).2 hc1 hx2 ?_
        replace h := ck_some h
        obtain ⟨hc2, h⟩ := h
        refine r_iadd C dX9_allSyllables_19 ?_
        refine r_istore_n C [(1, .int (jI (x1 + (M (s + 15) x2.toNat)))), (0, .ref (z + (s + 11))), (2, .int (jI x2))] dX9_allSyllables_20 rfl hl (by decide) rfl (fun ls hl => ?_)
        replace h := ck_some h
        obtain ⟨hc3, h⟩ := h
        refine r_iinc (j := 2) (x := x2) C [(2, .int (jI (x2 + 1))), (1, .int (jI (x1 + (M (s + 15) x2.toNat)))), (0, .ref (z + (s + 11)))] dX9_allSyllables_21 hl rfl (by decide) rfl (fun ls hl => ?_)
        refine r_goto C 4 dX9_allSyllables_24 (by decide) ?_
        exact ih4 _ _ hc2 hc3 _ _ _ h hM (lv_sub hl [2, 1, 0] rfl)
  exact hL4 jFuel _ _ ⟨by decide, by decide⟩ ⟨by decide, by decide⟩ _ _ _ h hM0 (lv_sub hl [2, 1, 0] rfl)
set_option maxRecDepth 100000 in
set_option maxHeartbeats 4000000 in
theorem c_X9_sentenceOf (l : Launch) (E : jE) (z : Nat) {s : Nat} {x1 : Int} {M : Mem} {r : Int} (hs : isSt s) (hx1 : inR x1) (h : f_X9_sentenceOf s x1 M = some r) : CtI l yX9_sentenceOf cX9_sentenceOf 4 (some .int) { frames := 0, cells := 0, slots := 0, locals := 0 } E z LyC [.ref (z + (s + 11)), .int (jI x1)] M r M := by
  refine jm (by decide +kernel) (Nat.le_of_ble_eq_true rfl) ?_
  intro p e sM m below meth c C hM0 hr hlk ls hl
  replace hl : lv_has ls 4 [(0, .ref (z + (s + 11))), (1, .int (jI x1))] := hl
  unfold f_X9_sentenceOf at h
  refine r_iconst C dX9_sentenceOf_0 ?_
  refine r_istore_n C [(2, .int (jI 0)), (0, .ref (z + (s + 11))), (1, .int (jI x1))] dX9_sentenceOf_1 rfl hl (by decide) rfl (fun ls hl => ?_)
  refine r_iconst C dX9_sentenceOf_2 ?_
  refine r_istore_n C [(3, .int (jI 0)), (2, .int (jI 0)), (0, .ref (z + (s + 11))), (1, .int (jI x1))] dX9_sentenceOf_3 rfl hl (by decide) rfl (fun ls hl => ?_)
  have hL4 : ∀ n4 : Nat, ∀ (x2 : Int) (x3 : Int), inR x2 → inR x3 → ∀ (H : Heap) (locs : List Loc) (ls : Array Slot), f_X9_sentenceOf_L4 s x1 M n4  x2 x3 = some r → HS E z LyC M sM H locs → lv_has ls 4 [(0, .ref (z + (s + 11))), (1, .int (jI x1)), (2, .int (jI x2)), (3, .int (jI x3))] → W p l e ({ frames := 0, cells := 0, slots := 0, locals := 0 } : Room) sM m (([.ref (z + (s + 11)), .int (jI x1)] : List Value).toArray) below meth c H locs 0 0 (MQ below (va_Qi (fun (w : Int32) (_ : Unit) => w = jI r ∧ inR r ∧ Mok LyC M) (fun _ t => va_P (eD E) vwCl (Wd (eC E) z LyC M) t.heap) (eA E)) (([.ref (z + (s + 11)), .int (jI x1)] : List Value).toArray) sM 0 0 (eA E)) (F0 m 4 ls []) := by
    intro n4
    induction n4 with
    | zero =>
      intro x2 x3 hx2 hx3 H locs ls h hM hl
      exact absurd h (by simp [f_X9_sentenceOf_L4])
    | succ n4 ih4 =>
      intro x2 x3 hx2 hx3 H locs ls h hM hl
      rw [f_X9_sentenceOf_L4] at h
      refine r_iload_n C dX9_sentenceOf_4 rfl hl 3 rfl ?_
      refine r_iload_n C dX9_sentenceOf_5 rfl hl 1 rfl ?_
      refine r_icmp_ge C 35 hx3 hx1 dX9_sentenceOf_6 (by decide) (fun cq => ?_) (fun cq => ?_)
      · replace h := ifp cq h
        refine r_iload_n C dX9_sentenceOf_35 rfl hl 2 rfl ?_
        exact r_ireturn C hM hr hlk hx2 h rfl dX9_sentenceOf_36
      · replace h := ifn cq h
        refine r_iload_n C dX9_sentenceOf_9 rfl hl 3 rfl ?_
        refine r_aload_n C dX9_sentenceOf_10 rfl hl 0 rfl ?_
        refine r_getI C hM jc9 0 rfl dX9_sentenceOf_11 lk_X9_9 (ls_11 hs).1 (ls_11 hs).2 rfl rfl (by decide) rfl ?_
        refine r_icmp_ge C 35 hx3 (hM.ok _ _) dX9_sentenceOf_14 (by decide) (fun cq => ?_) (fun cq => ?_)
        · replace h := ifp cq h
          refine r_iload_n C dX9_sentenceOf_35 rfl hl 2 rfl ?_
          exact r_ireturn C hM hr hlk hx2 h rfl dX9_sentenceOf_36
        · replace h := ifn cq h
          refine r_aload_n C dX9_sentenceOf_17 rfl hl 0 rfl ?_
          refine r_getR C hM jc9 6 (s + 16) dX9_sentenceOf_18 lk_X9_32 (ls_11 hs).1 (ls_11 hs).2 rfl rfl (by decide) rfl ?_
          refine r_iload_n C dX9_sentenceOf_21 rfl hl 3 rfl ?_
          replace h := ck_some h
          obtain ⟨hc1, h⟩ := h
          refine r_zald C hM rfl dX9_sentenceOf_22 (ls_16 hs).1 (ls_16 hs).2 hc1 hx3 ?_
          refine r_if_eq C 29 (hM.ok _ _) dX9_sentenceOf_23 (by decide) (fun cq => ?_) (fun cq => ?_)
          · replace h := ifp cq h
            replace h := ck_some h
            obtain ⟨hc2, h⟩ := h
            refine r_iinc (j := 3) (x := x3) C [(3, .int (jI (x3 + 1))), (0, .ref (z + (s + 11))), (1, .int (jI x1)), (2, .int (jI x2))] dX9_sentenceOf_29 hl rfl (by decide) rfl (fun ls hl => ?_)
            refine r_goto C 4 dX9_sentenceOf_32 (by decide) ?_
            exact ih4 _ _ hx2 hc2 _ _ _ h hM (lv_sub hl [1, 2, 3, 0] rfl)
          · replace h := ifn cq h
            replace h := ck_some h
            obtain ⟨hc3, h⟩ := h
            refine r_iinc (j := 2) (x := x2) C [(2, .int (jI (x2 + 1))), (0, .ref (z + (s + 11))), (1, .int (jI x1)), (3, .int (jI x3))] dX9_sentenceOf_26 hl rfl (by decide) rfl (fun ls hl => ?_)
            replace h := ck_some h
            obtain ⟨hc4, h⟩ := h
            refine r_iinc (j := 3) (x := x3) C [(3, .int (jI (x3 + 1))), (2, .int (jI (x2 + 1))), (0, .ref (z + (s + 11))), (1, .int (jI x1))] dX9_sentenceOf_29 hl rfl (by decide) rfl (fun ls hl => ?_)
            refine r_goto C 4 dX9_sentenceOf_32 (by decide) ?_
            exact ih4 _ _ hc3 hc4 _ _ _ h hM (lv_sub hl [2, 3, 1, 0] rfl)
  exact hL4 jFuel _ _ ⟨by decide, by decide⟩ ⟨by decide, by decide⟩ _ _ _ h hM0 (lv_sub hl [2, 3, 1, 0] rfl)
set_option maxRecDepth 100000 in
set_option maxHeartbeats 4000000 in
theorem c_X9_sentences (l : Launch) (E : jE) (z : Nat) {s : Nat} {M : Mem} {r : Int} (hs : isSt s) (h : f_X9_sentences s M = some r) : CtI l yX9_sentences cX9_sentences 1 (some .int) { frames := 1, cells := 0, slots := 0, locals := 23 } E z LyC [.ref (z + (s + 11))] M r M := by
  refine jm (by decide +kernel) (Nat.le_of_ble_eq_true rfl) ?_
  intro p e sM m below meth c C hM0 hr hlk ls hl
  replace hl : lv_has ls 1 [(0, .ref (z + (s + 11)))] := hl
  unfold f_X9_sentences at h
  refine r_aload_n C dX9_sentences_0 rfl hl 0 rfl ?_
  refine r_aload_n C dX9_sentences_1 rfl hl 0 rfl ?_
  refine r_getI C hM0 jc9 0 rfl dX9_sentences_2 lk_X9_9 (ls_11 hs).1 (ls_11 hs).2 rfl rfl (by decide) rfl ?_
  replace h := bd_some h
  obtain ⟨r5, hf5, h⟩ := h
  refine r_callI (As := [.int (jI (M (s + 11) 0))]) (rest := []) C hM0 (c_X9_sentenceOf l E z hs (hM0.ok _ _) hf5) jy_X9_sentenceOf lk_X9_42 dX9_sentences_5 (recvW C hM0 jc9 (ls_11 hs).1 (ls_11 hs).2 rfl) rfl rfl hl.1 (Nat.le_of_ble_eq_true rfl) ⟨Nat.le_of_ble_eq_true rfl, Nat.le_of_ble_eq_true rfl⟩ ⟨rfl, rfl⟩ ⟨Nat.zero_le _, Nat.zero_le _⟩ (fun H locs hr5 hM1 => ?_)
  exact r_ireturn C hM1 hr hlk hr5 h rfl dX9_sentences_8
set_option maxRecDepth 100000 in
set_option maxHeartbeats 4000000 in
theorem c_X9_endAt (l : Launch) (E : jE) (z : Nat) {s : Nat} {x1 : Int} {x2 : Int} {M : Mem} {r : Int} (hs : isSt s) (hx1 : inR x1) (hx2 : inR x2) (h : f_X9_endAt s x1 x2 M = some r) : CtI l yX9_endAt cX9_endAt 3 (some .int) { frames := 2, cells := 0, slots := 0, locals := 43 } E z LyC [.ref (z + (s + 11)), .int (jI x1), .int (jI x2)] M r M := by
  refine jm (by decide +kernel) (Nat.le_of_ble_eq_true rfl) ?_
  intro p e sM m below meth c C hM0 hr hlk ls hl
  replace hl : lv_has ls 3 [(0, .ref (z + (s + 11))), (1, .int (jI x1)), (2, .int (jI x2))] := hl
  unfold f_X9_endAt at h
  refine r_aload_n C dX9_endAt_0 rfl hl 0 rfl ?_
  refine r_getI C hM0 jc9 0 rfl dX9_endAt_1 lk_X9_9 (ls_11 hs).1 (ls_11 hs).2 rfl rfl (by decide) rfl ?_
  refine r_if_ne C 11 (hM0.ok _ _) dX9_endAt_4 (by decide) (fun cq => ?_) (fun cq => ?_)
  · replace h := ifn cq h
    refine r_iload_n C dX9_endAt_11 rfl hl 1 rfl ?_
    refine r_aload_n C dX9_endAt_12 rfl hl 0 rfl ?_
    replace h := bd_some h
    obtain ⟨r13, hf13, h⟩ := h
    refine r_callI (As := []) (rest := [.int (jI x1)]) C hM0 (c_X9_allSyllables l E z hs hf13) jy_X9_allSyllables lk_X9_46 dX9_endAt_13 (recvW C hM0 jc9 (ls_11 hs).1 (ls_11 hs).2 rfl) rfl rfl hl.1 (Nat.le_of_ble_eq_true rfl) ⟨Nat.le_of_ble_eq_true rfl, Nat.le_of_ble_eq_true rfl⟩ ⟨rfl, rfl⟩ ⟨Nat.zero_le _, Nat.zero_le _⟩ (fun H locs hr13 hM1 => ?_)
    replace h := ck_some h
    obtain ⟨hc2, h⟩ := h
    refine r_imul C dX9_endAt_16 ?_
    refine r_iload_n C dX9_endAt_17 rfl hl 2 rfl ?_
    refine r_aload_n C dX9_endAt_18 rfl hl 0 rfl ?_
    replace h := bd_some h
    obtain ⟨r19, hf19, h⟩ := h
    refine r_callI (As := []) (rest := [.int (jI x2), .int (jI (x1 * r13))]) C hM1 (c_X9_sentences l E z hs hf19) jy_X9_sentences lk_X9_50 dX9_endAt_19 (recvW C hM1 jc9 (ls_11 hs).1 (ls_11 hs).2 rfl) rfl rfl hl.1 (Nat.le_of_ble_eq_true rfl) ⟨Nat.le_of_ble_eq_true rfl, Nat.le_of_ble_eq_true rfl⟩ ⟨rfl, rfl⟩ ⟨Nat.zero_le _, Nat.zero_le _⟩ (fun H locs hr19 hM3 => ?_)
    refine r_iconst C dX9_endAt_22 ?_
    replace h := ck_some h
    obtain ⟨hc4, h⟩ := h
    refine r_isub C dX9_endAt_23 ?_
    replace h := ck_some h
    obtain ⟨hc5, h⟩ := h
    refine r_imul C dX9_endAt_24 ?_
    replace h := ck_some h
    obtain ⟨hc6, h⟩ := h
    refine r_iadd C dX9_endAt_25 ?_
    exact r_ireturn C hM3 hr hlk hc6 h rfl dX9_endAt_26
  · replace h := ifp cq h
    refine r_iconst C dX9_endAt_7 ?_
    refine r_goto C 26 dX9_endAt_8 (by decide) ?_
    exact r_ireturn C hM0 hr hlk ⟨by decide, by decide⟩ h rfl dX9_endAt_26
set_option maxRecDepth 100000 in
set_option maxHeartbeats 4000000 in
theorem c_X9_isVowel (l : Launch) (E : jE) (z : Nat) {x0 : Int} {M : Mem} {r : Int} (hx0 : inR x0) (h : f_X9_isVowel x0 M = some r) : CtI l yX9_isVowel cX9_isVowel 1 (some .boolean) { frames := 0, cells := 0, slots := 0, locals := 0 } E z LyC [.int (jI x0)] M r M := by
  refine jm (by decide +kernel) (Nat.le_of_ble_eq_true rfl) ?_
  intro p e sM m below meth c C hM0 hr hlk ls hl
  replace hl : lv_has ls 1 [(0, .int (jI x0))] := hl
  unfold f_X9_isVowel at h
  refine r_iload_n C dX9_isVowel_0 rfl hl 0 rfl ?_
  refine r_bipush C dX9_isVowel_1 rfl ?_
  refine r_icmp_eq C 36 hx0 ⟨by decide, by decide⟩ dX9_isVowel_3 (by decide) (fun cq => ?_) (fun cq => ?_)
  · replace h := ifp cq h
    refine r_iconst C dX9_isVowel_36 ?_
    refine r_goto C 41 dX9_isVowel_37 (by decide) ?_
    exact r_zreturn C hM0 hr hlk (Or.inr rfl) h rfl dX9_isVowel_41
  · replace h := ifn cq h
    refine r_iload_n C dX9_isVowel_6 rfl hl 0 rfl ?_
    refine r_bipush C dX9_isVowel_7 rfl ?_
    refine r_icmp_eq C 36 hx0 ⟨by decide, by decide⟩ dX9_isVowel_9 (by decide) (fun cq => ?_) (fun cq => ?_)
    · replace h := ifp cq h
      refine r_iconst C dX9_isVowel_36 ?_
      refine r_goto C 41 dX9_isVowel_37 (by decide) ?_
      exact r_zreturn C hM0 hr hlk (Or.inr rfl) h rfl dX9_isVowel_41
    · replace h := ifn cq h
      refine r_iload_n C dX9_isVowel_12 rfl hl 0 rfl ?_
      refine r_bipush C dX9_isVowel_13 rfl ?_
      refine r_icmp_eq C 36 hx0 ⟨by decide, by decide⟩ dX9_isVowel_15 (by decide) (fun cq => ?_) (fun cq => ?_)
      · replace h := ifp cq h
        refine r_iconst C dX9_isVowel_36 ?_
        refine r_goto C 41 dX9_isVowel_37 (by decide) ?_
        exact r_zreturn C hM0 hr hlk (Or.inr rfl) h rfl dX9_isVowel_41
      · replace h := ifn cq h
        refine r_iload_n C dX9_isVowel_18 rfl hl 0 rfl ?_
        refine r_bipush C dX9_isVowel_19 rfl ?_
        refine r_icmp_eq C 36 hx0 ⟨by decide, by decide⟩ dX9_isVowel_21 (by decide) (fun cq => ?_) (fun cq => ?_)
        · replace h := ifp cq h
          refine r_iconst C dX9_isVowel_36 ?_
          refine r_goto C 41 dX9_isVowel_37 (by decide) ?_
          exact r_zreturn C hM0 hr hlk (Or.inr rfl) h rfl dX9_isVowel_41
        · replace h := ifn cq h
          refine r_iload_n C dX9_isVowel_24 rfl hl 0 rfl ?_
          refine r_bipush C dX9_isVowel_25 rfl ?_
          refine r_icmp_eq C 36 hx0 ⟨by decide, by decide⟩ dX9_isVowel_27 (by decide) (fun cq => ?_) (fun cq => ?_)
          · replace h := ifp cq h
            refine r_iconst C dX9_isVowel_36 ?_
            refine r_goto C 41 dX9_isVowel_37 (by decide) ?_
            exact r_zreturn C hM0 hr hlk (Or.inr rfl) h rfl dX9_isVowel_41
          · replace h := ifn cq h
            refine r_iload_n C dX9_isVowel_30 rfl hl 0 rfl ?_
            refine r_bipush C dX9_isVowel_31 rfl ?_
            refine r_icmp_ne C 40 hx0 ⟨by decide, by decide⟩ dX9_isVowel_33 (by decide) (fun cq => ?_) (fun cq => ?_)
            · replace h := ifn cq h
              refine r_iconst C dX9_isVowel_40 ?_
              exact r_zreturn C hM0 hr hlk (Or.inl rfl) h rfl dX9_isVowel_41
            · replace h := ifp cq h
              refine r_iconst C dX9_isVowel_36 ?_
              refine r_goto C 41 dX9_isVowel_37 (by decide) ?_
              exact r_zreturn C hM0 hr hlk (Or.inr rfl) h rfl dX9_isVowel_41
set_option maxRecDepth 100000 in
set_option maxHeartbeats 4000000 in
theorem c_X9_syllablesOf (l : Launch) (E : jE) (z : Nat) {s : Nat} {x1 : Int} {x2 : Int} {M : Mem} {r : Int} (hs : isSt s) (hx1 : inR x1) (hx2 : inR x2) (h : f_X9_syllablesOf s x1 x2 M = some r) : CtI l yX9_syllablesOf cX9_syllablesOf 7 (some .int) { frames := 1, cells := 0, slots := 0, locals := 20 } E z LyC [.ref (z + (s + 11)), .int (jI x1), .int (jI x2)] M r M := by
  refine jm (by decide +kernel) (Nat.le_of_ble_eq_true rfl) ?_
  intro p e sM m below meth c C hM0 hr hlk ls hl
  replace hl : lv_has ls 7 [(0, .ref (z + (s + 11))), (1, .int (jI x1)), (2, .int (jI x2))] := hl
  unfold f_X9_syllablesOf at h
  refine r_iconst C dX9_syllablesOf_0 ?_
  refine r_istore_n C [(3, .int (jI 0)), (0, .ref (z + (s + 11))), (1, .int (jI x1)), (2, .int (jI x2))] dX9_syllablesOf_1 rfl hl (by decide) rfl (fun ls hl => ?_)
  refine r_iconst C dX9_syllablesOf_2 ?_
  refine r_istore C [(4, .int (jI 0)), (3, .int (jI 0)), (0, .ref (z + (s + 11))), (1, .int (jI x1)), (2, .int (jI x2))] dX9_syllablesOf_3 hl (by decide) rfl (fun ls hl => ?_)
  refine r_iload_n C dX9_syllablesOf_5 rfl hl 3 rfl ?_
  refine r_istore C [(5, .int (jI x1)), (4, .int (jI 0)), (3, .int (jI 0)), (0, .ref (z + (s + 11))), (1, .int (jI x1)), (2, .int (jI x2))] dX9_syllablesOf_6 hl (by decide) rfl (fun ls hl => ?_)
  have hL8 : ∀ n8 : Nat, ∀ (x3 : Int) (x4 : Int) (x5 : Int), inR x3 → inR x4 → inR x5 → ∀ (H : Heap) (locs : List Loc) (ls : Array Slot), f_X9_syllablesOf_L8 s x1 x2 M n8  x3 x4 x5 = some r → HS E z LyC M sM H locs → lv_has ls 7 [(0, .ref (z + (s + 11))), (1, .int (jI x1)), (2, .int (jI x2)), (3, .int (jI x3)), (4, .int (jI x4)), (5, .int (jI x5))] → W p l e ({ frames := 1, cells := 0, slots := 0, locals := 20 } : Room) sM m (([.ref (z + (s + 11)), .int (jI x1), .int (jI x2)] : List Value).toArray) below meth c H locs 0 0 (MQ below (va_Qi (fun (w : Int32) (_ : Unit) => w = jI r ∧ inR r ∧ Mok LyC M) (fun _ t => va_P (eD E) vwCl (Wd (eC E) z LyC M) t.heap) (eA E)) (([.ref (z + (s + 11)), .int (jI x1), .int (jI x2)] : List Value).toArray) sM 0 0 (eA E)) (F0 m 8 ls []) := by
    intro n8
    induction n8 with
    | zero =>
      intro x3 x4 x5 hx3 hx4 hx5 H locs ls h hM hl
      exact absurd h (by simp [f_X9_syllablesOf_L8])
    | succ n8 ih8 =>
      intro x3 x4 x5 hx3 hx4 hx5 H locs ls h hM hl
      rw [f_X9_syllablesOf_L8] at h
      refine r_iload C dX9_syllablesOf_8 hl 5 rfl ?_
      refine r_iload_n C dX9_syllablesOf_10 rfl hl 1 rfl ?_
      refine r_iload_n C dX9_syllablesOf_11 rfl hl 2 rfl ?_
      replace h := ck_some h
      obtain ⟨hc1, h⟩ := h
      refine r_iadd C dX9_syllablesOf_12 ?_
      refine r_icmp_ge C 51 hx5 hc1 dX9_syllablesOf_13 (by decide) (fun cq => ?_) (fun cq => ?_)
      · replace h := ifp cq h
        refine r_iload_n C dX9_syllablesOf_51 rfl hl 3 rfl ?_
        refine r_iconst C dX9_syllablesOf_52 ?_
        refine r_max C hx3 ⟨by decide, by decide⟩ lk_X9_91 dX9_syllablesOf_53 hl.1 ⟨Nat.le_of_ble_eq_true rfl, Nat.le_of_ble_eq_true rfl⟩ ⟨Nat.zero_le _, Nat.zero_le _⟩ ?_
        exact r_ireturn C hM hr hlk (max_R hx3 ⟨by decide, by decide⟩) h rfl dX9_syllablesOf_56
      · replace h := ifn cq h
        refine r_aload_n C dX9_syllablesOf_16 rfl hl 0 rfl ?_
        refine r_getR C hM jc9 2 (s + 12) dX9_syllablesOf_17 lk_X9_18 (ls_11 hs).1 (ls_11 hs).2 rfl rfl (by decide) rfl ?_
        refine r_iload C dX9_syllablesOf_20 hl 5 rfl ?_
        replace h := ck_some h
        obtain ⟨hc2, h⟩ := h
        refine r_bald C hM rfl dX9_syllablesOf_22 (ls_12 hs).1 (ls_12 hs).2 hc2 hx5 ?_
        replace h := bd_some h
        obtain ⟨r23, hf23, h⟩ := h
        refine r_callSI (As := [.int (jI (M (s + 12) x5.toNat))]) (rest := []) C hM (c_X9_isVowel l E z (hM.ok _ _) hf23) jy_X9_isVowel lk_X9_88 dX9_syllablesOf_23 rfl rfl hl.1 (Nat.le_of_ble_eq_true rfl) ⟨Nat.le_of_ble_eq_true rfl, Nat.le_of_ble_eq_true rfl⟩ ⟨rfl, rfl⟩ ⟨Nat.zero_le _, Nat.zero_le _⟩ (fun H locs hr23 hM3 => ?_)
        refine r_istore C [(6, .int (jI r23)), (0, .ref (z + (s + 11))), (1, .int (jI x1)), (2, .int (jI x2)), (3, .int (jI x3)), (4, .int (jI x4)), (5, .int (jI x5))] dX9_syllablesOf_26 hl (by decide) rfl (fun ls hl => ?_)
        refine r_iload C dX9_syllablesOf_28 hl 0 rfl ?_
        refine r_if_eq C 41 hr23 dX9_syllablesOf_30 (by decide) (fun cq => ?_) (fun cq => ?_)
        · replace h := ifp cq h
          refine r_iload C dX9_syllablesOf_41 hl 0 rfl ?_
          refine r_istore C [(4, .int (jI r23)), (6, .int (jI r23)), (0, .ref (z + (s + 11))), (1, .int (jI x1)), (2, .int (jI x2)), (3, .int (jI x3)), (5, .int (jI x5))] dX9_syllablesOf_43 hl (by decide) rfl (fun ls hl => ?_)
          replace h := ck_some h
          obtain ⟨hc4, h⟩ := h
          refine r_iinc (j := 6) (x := x5) C [(5, .int (jI (x5 + 1))), (4, .int (jI r23)), (6, .int (jI r23)), (0, .ref (z + (s + 11))), (1, .int (jI x1)), (2, .int (jI x2)), (3, .int (jI x3))] dX9_syllablesOf_45 hl rfl (by decide) rfl (fun ls hl => ?_)
          refine r_goto C 8 dX9_syllablesOf_48 (by decide) ?_
          exact ih8 _ _ _ hx3 hr23 hc4 _ _ _ h hM3 (lv_sub hl [3, 4, 5, 6, 1, 0] rfl)
        · replace h := ifn cq h
          refine r_iload C dX9_syllablesOf_33 hl 5 rfl ?_
          refine r_if_ne C 41 hx4 dX9_syllablesOf_35 (by decide) (fun cq => ?_) (fun cq => ?_)
          · replace h := ifn cq h
            refine r_iload C dX9_syllablesOf_41 hl 0 rfl ?_
            refine r_istore C [(4, .int (jI r23)), (6, .int (jI r23)), (0, .ref (z + (s + 11))), (1, .int (jI x1)), (2, .int (jI x2)), (3, .int (jI x3)), (5, .int (jI x5))] dX9_syllablesOf_43 hl (by decide) rfl (fun ls hl => ?_)
            replace h := ck_some h
            obtain ⟨hc5, h⟩ := h
            refine r_iinc (j := 6) (x := x5) C [(5, .int (jI (x5 + 1))), (4, .int (jI r23)), (6, .int (jI r23)), (0, .ref (z + (s + 11))), (1, .int (jI x1)), (2, .int (jI x2)), (3, .int (jI x3))] dX9_syllablesOf_45 hl rfl (by decide) rfl (fun ls hl => ?_)
            refine r_goto C 8 dX9_syllablesOf_48 (by decide) ?_
            exact ih8 _ _ _ hx3 hr23 hc5 _ _ _ h hM3 (lv_sub hl [3, 4, 5, 6, 1, 0] rfl)
          · replace h := ifp cq h
            replace h := ck_some h
            obtain ⟨hc6, h⟩ := h
            refine r_iinc (j := 4) (x := x3) C [(3, .int (jI (x3 + 1))), (6, .int (jI r23)), (0, .ref (z + (s + 11))), (1, .int (jI x1)), (2, .int (jI x2)), (4, .int (jI x4)), (5, .int (jI x5))] dX9_syllablesOf_38 hl rfl (by decide) rfl (fun ls hl => ?_)
            refine r_iload C dX9_syllablesOf_41 hl 1 rfl ?_
            refine r_istore C [(4, .int (jI r23)), (3, .int (jI (x3 + 1))), (6, .int (jI r23)), (0, .ref (z + (s + 11))), (1, .int (jI x1)), (2, .int (jI x2)), (5, .int (jI x5))] dX9_syllablesOf_43 hl (by decide) rfl (fun ls hl => ?_)
            replace h := ck_some h
            obtain ⟨hc7, h⟩ := h
            refine r_iinc (j := 6) (x := x5) C [(5, .int (jI (x5 + 1))), (4, .int (jI r23)), (3, .int (jI (x3 + 1))), (6, .int (jI r23)), (0, .ref (z + (s + 11))), (1, .int (jI x1)), (2, .int (jI x2))] dX9_syllablesOf_45 hl rfl (by decide) rfl (fun ls hl => ?_)
            refine r_goto C 8 dX9_syllablesOf_48 (by decide) ?_
            exact ih8 _ _ _ hc6 hr23 hc7 _ _ _ h hM3 (lv_sub hl [4, 5, 6, 2, 1, 0] rfl)
  exact hL8 jFuel _ _ _ ⟨by decide, by decide⟩ ⟨by decide, by decide⟩ hx1 _ _ _ h hM0 (lv_sub hl [3, 4, 5, 2, 1, 0] rfl)
set_option maxRecDepth 100000 in
set_option maxHeartbeats 4000000 in
theorem c_X9_readWord (l : Launch) (E : jE) (z : Nat) {s : Nat} {M M' : Mem} {r : Int} (hs : isSt s) (h : f_X9_readWord s M = some (r, M')) : CtI l yX9_readWord cX9_readWord 3 (some .boolean) { frames := 2, cells := 0, slots := 0, locals := 46 } E z LyC [.ref (z + (s + 11)), .ref (z + 1)] M r M' := by
  refine jm (by decide +kernel) (Nat.le_of_ble_eq_true rfl) ?_
  intro p e sM m below meth c C hM0 hr hlk ls hl
  replace hl : lv_has ls 3 [(0, .ref (z + (s + 11))), (1, .ref (z + 1))] := hl
  unfold f_X9_readWord at h
  refine r_aload_n C dX9_readWord_0 rfl hl 1 rfl ?_
  replace h := bd_some h
  obtain ⟨r1, hf1, h⟩ := h
  refine r_callI (As := []) (rest := []) C hM0 (c_X8_size l E z hf1) jy_X8_size lk_X9_75 dX9_readWord_1 (recvW C hM0 jc8 lc_1.1 lc_1.2 rfl) rfl rfl hl.1 (Nat.le_of_ble_eq_true rfl) ⟨Nat.le_of_ble_eq_true rfl, Nat.le_of_ble_eq_true rfl⟩ ⟨rfl, rfl⟩ ⟨Nat.zero_le _, Nat.zero_le _⟩ (fun H locs hr1 hM1 => ?_)
  refine r_istore_n C [(2, .int (jI r1)), (0, .ref (z + (s + 11))), (1, .ref (z + 1))] dX9_readWord_4 rfl hl (by decide) rfl (fun ls hl => ?_)
  refine r_iload_n C dX9_readWord_5 rfl hl 0 rfl ?_
  refine r_bipush C dX9_readWord_6 rfl ?_
  refine r_icmp_le C 17 hr1 ⟨by decide, by decide⟩ dX9_readWord_8 (by decide) (fun cq => ?_) (fun cq => ?_)
  · replace h := ifp cq h
    refine r_aload_n C dX9_readWord_17 rfl hl 1 rfl ?_
    refine r_getI C hM1 jc9 0 rfl dX9_readWord_18 lk_X9_9 (ls_11 hs).1 (ls_11 hs).2 rfl rfl (by decide) rfl ?_
    refine r_bipush C dX9_readWord_21 rfl ?_
    refine r_icmp_ge C 38 (hM0.ok _ _) ⟨by decide, by decide⟩ dX9_readWord_23 (by decide) (fun cq => ?_) (fun cq => ?_)
    · replace h := ifp cq h
      refine r_aload_n C dX9_readWord_38 rfl hl 2 rfl ?_
      refine r_iconst C dX9_readWord_39 ?_
      replace h := bd_some h
      obtain ⟨⟨r40, M40⟩, hf40, h⟩ := h
      try dsimp only at h
      refine r_callI (As := [.int (jI 4)]) (rest := []) C hM1 (c_X8_fail l E z ⟨by decide, by decide⟩ hf40) jy_X8_fail lk_X9_71 dX9_readWord_40 (recvW C hM1 jc8 lc_1.1 lc_1.2 rfl) rfl rfl hl.1 (Nat.le_of_ble_eq_true rfl) ⟨Nat.le_of_ble_eq_true rfl, Nat.le_of_ble_eq_true rfl⟩ ⟨rfl, rfl⟩ ⟨Nat.zero_le _, Nat.zero_le _⟩ (fun H locs hr40 hM2 => ?_)
      replace h := ck_some h
      obtain ⟨hc3, h⟩ := h
      exact r_zreturnM C hM2 hr hlk hc3 h dX9_readWord_43
    · replace h := ifn cq h
      refine r_iload_n C dX9_readWord_26 rfl hl 0 rfl ?_
      refine r_sipush C dX9_readWord_27 rfl ?_
      refine r_aload_n C dX9_readWord_30 rfl hl 1 rfl ?_
      refine r_getI C hM1 jc9 1 rfl dX9_readWord_31 lk_X9_15 (ls_11 hs).1 (ls_11 hs).2 rfl rfl (by decide) rfl ?_
      replace h := ck_some h
      obtain ⟨hc4, h⟩ := h
      refine r_isub C dX9_readWord_34 ?_
      refine r_icmp_le C 44 hr1 hc4 dX9_readWord_35 (by decide) (fun cq => ?_) (fun cq => ?_)
      · replace h := ifp cq h
        refine r_aload_n C dX9_readWord_44 rfl hl 2 rfl ?_
        refine r_getR C hM1 jc8 0 2 dX9_readWord_45 lk_X9_78 lc_1.1 lc_1.2 rfl rfl (by decide) rfl ?_
        refine r_aload_n C dX9_readWord_48 rfl hl 2 rfl ?_
        refine r_getI C hM1 jc8 3 rfl dX9_readWord_49 lk_X9_81 lc_1.1 lc_1.2 rfl rfl (by decide) rfl ?_
        refine r_aload_n C dX9_readWord_52 rfl hl 1 rfl ?_
        refine r_getR C hM1 jc9 2 (s + 12) dX9_readWord_53 lk_X9_18 (ls_11 hs).1 (ls_11 hs).2 rfl rfl (by decide) rfl ?_
        refine r_aload_n C dX9_readWord_56 rfl hl 1 rfl ?_
        refine r_getI C hM1 jc9 1 rfl dX9_readWord_57 lk_X9_15 (ls_11 hs).1 (ls_11 hs).2 rfl rfl (by decide) rfl ?_
        refine r_iload_n C dX9_readWord_60 rfl hl 0 rfl ?_
        replace h := ck_some h
        obtain ⟨hc5, h⟩ := h
        refine r_copy (t := 1) C hM1 lk_X9_36 dX9_readWord_61 (Or.inr (Or.inl ⟨rfl, rfl⟩)) rfl lc_2.1 (ls_12 hs).1 lc_2.2 (ls_12 hs).2 (hM0.ok _ _) (hM0.ok _ _) hr1 hc5 hl.1 ⟨Nat.le_of_ble_eq_true rfl, Nat.le_of_ble_eq_true rfl⟩ (fun H locs hM6 => ?_)
        replace h := lt_some h
        obtain ⟨N7, eN7, h⟩ := h
        rw [← eN7] at hM6
        refine r_aload_n C dX9_readWord_64 rfl hl 1 rfl ?_
        refine r_getR C hM6 jc9 3 (s + 13) dX9_readWord_65 lk_X9_22 (ls_11 hs).1 (ls_11 hs).2 rfl rfl (by decide) rfl ?_
        refine r_aload_n C dX9_readWord_68 rfl hl 1 rfl ?_
        refine r_getI C hM6 jc9 0 (rd_cskip eN7 (ne_off (by decide)) rfl) dX9_readWord_69 lk_X9_9 (ls_11 hs).1 (ls_11 hs).2 rfl rfl (by decide) rfl ?_
        refine r_aload_n C dX9_readWord_72 rfl hl 1 rfl ?_
        refine r_getI C hM6 jc9 1 (rd_cskip eN7 (ne_off (by decide)) rfl) dX9_readWord_73 lk_X9_15 (ls_11 hs).1 (ls_11 hs).2 rfl rfl (by decide) rfl ?_
        replace h := ck_some h
        obtain ⟨hc8, h⟩ := h
        refine r_iast C hM6 dX9_readWord_76 (ls_13 hs).1 (ls_13 hs).2 hc8 (hM0.ok _ _) (hM0.ok _ _) (fun H locs hM9 => ?_)
        replace h := lt_some h
        obtain ⟨N10, eN10, h⟩ := h
        rw [← eN10] at hM9
        refine r_aload_n C dX9_readWord_77 rfl hl 1 rfl ?_
        refine r_getR C hM9 jc9 4 (s + 14) dX9_readWord_78 lk_X9_26 (ls_11 hs).1 (ls_11 hs).2 rfl rfl (by decide) rfl ?_
        refine r_aload_n C dX9_readWord_81 rfl hl 1 rfl ?_
        refine r_getI C hM9 jc9 0 (rd_skip eN10 (ne_off (by decide)) (rd_cskip eN7 (ne_off (by decide)) rfl)) dX9_readWord_82 lk_X9_9 (ls_11 hs).1 (ls_11 hs).2 rfl rfl (by decide) rfl ?_
        refine r_iload_n C dX9_readWord_85 rfl hl 0 rfl ?_
        refine r_iast C hM9 dX9_readWord_86 (ls_14 hs).1 (ls_14 hs).2 hc8 (hM0.ok _ _) hr1 (fun H locs hM11 => ?_)
        replace h := lt_some h
        obtain ⟨N12, eN12, h⟩ := h
        rw [← eN12] at hM11
        refine r_aload_n C dX9_readWord_87 rfl hl 1 rfl ?_
        refine r_getR C hM11 jc9 6 (s + 16) dX9_readWord_88 lk_X9_32 (ls_11 hs).1 (ls_11 hs).2 rfl rfl (by decide) rfl ?_
        refine r_aload_n C dX9_readWord_91 rfl hl 1 rfl ?_
        refine r_getI C hM11 jc9 0 (rd_skip eN12 (ne_off (by decide)) (rd_skip eN10 (ne_off (by decide)) (rd_cskip eN7 (ne_off (by decide)) rfl))) dX9_readWord_92 lk_X9_9 (ls_11 hs).1 (ls_11 hs).2 rfl rfl (by decide) rfl ?_
        refine r_iconst C dX9_readWord_95 ?_
        refine r_zast C hM11 dX9_readWord_96 (ls_16 hs).1 (ls_16 hs).2 hc8 (hM0.ok _ _) (fun H locs hM13 => ?_)
        replace h := lt_some h
        obtain ⟨N14, eN14, h⟩ := h
        rw [← eN14] at hM13
        refine r_aload_n C dX9_readWord_97 rfl hl 1 rfl ?_
        refine r_getR C hM13 jc9 5 (s + 15) dX9_readWord_98 lk_X9_29 (ls_11 hs).1 (ls_11 hs).2 rfl rfl (by decide) rfl ?_
        refine r_aload_n C dX9_readWord_101 rfl hl 1 rfl ?_
        refine r_getI C hM13 jc9 0 (rd_skip eN14 (ne_off (by decide)) (rd_skip eN12 (ne_off (by decide)) (rd_skip eN10 (ne_off (by decide)) (rd_cskip eN7 (ne_off (by decide)) rfl)))) dX9_readWord_102 lk_X9_9 (ls_11 hs).1 (ls_11 hs).2 rfl rfl (by decide) rfl ?_
        refine r_aload_n C dX9_readWord_105 rfl hl 1 rfl ?_
        refine r_aload_n C dX9_readWord_106 rfl hl 1 rfl ?_
        refine r_getI C hM13 jc9 1 (rd_skip eN14 (ne_off (by decide)) (rd_skip eN12 (ne_off (by decide)) (rd_skip eN10 (ne_off (by decide)) (rd_cskip eN7 (ne_off (by decide)) rfl)))) dX9_readWord_107 lk_X9_15 (ls_11 hs).1 (ls_11 hs).2 rfl rfl (by decide) rfl ?_
        refine r_iload_n C dX9_readWord_110 rfl hl 0 rfl ?_
        replace h := bd_some h
        obtain ⟨r111, hf111, h⟩ := h
        refine r_callI (As := [.int (jI (M (s + 11) 1)), .int (jI r1)]) (rest := [.int (jI (M (s + 11) 0)), .ref (z + (s + 15))]) C hM13 (c_X9_syllablesOf l E z hs (hM0.ok _ _) hr1 hf111) jy_X9_syllablesOf lk_X9_84 dX9_readWord_111 (recvW C hM13 jc9 (ls_11 hs).1 (ls_11 hs).2 rfl) rfl rfl hl.1 (Nat.le_of_ble_eq_true rfl) ⟨Nat.le_of_ble_eq_true rfl, Nat.le_of_ble_eq_true rfl⟩ ⟨rfl, rfl⟩ ⟨Nat.zero_le _, Nat.zero_le _⟩ (fun H locs hr111 hM15 => ?_)
        refine r_iast C hM15 dX9_readWord_114 (ls_15 hs).1 (ls_15 hs).2 hc8 (hM0.ok _ _) hr111 (fun H locs hM16 => ?_)
        replace h := lt_some h
        obtain ⟨N17, eN17, h⟩ := h
        rw [← eN17] at hM16
        refine r_aload_n C dX9_readWord_115 rfl hl 1 rfl ?_
        refine r_dup C dX9_readWord_116 rfl ?_
        refine r_getI C hM16 jc9 1 (rd_skip eN17 (ne_off (by decide)) (rd_skip eN14 (ne_off (by decide)) (rd_skip eN12 (ne_off (by decide)) (rd_skip eN10 (ne_off (by decide)) (rd_cskip eN7 (ne_off (by decide)) rfl))))) dX9_readWord_117 lk_X9_15 (ls_11 hs).1 (ls_11 hs).2 rfl rfl (by decide) rfl ?_
        refine r_iload_n C dX9_readWord_120 rfl hl 0 rfl ?_
        replace h := ck_some h
        obtain ⟨hc18, h⟩ := h
        refine r_iadd C dX9_readWord_121 ?_
        refine r_putI C hM16 jc9 1 hc18 dX9_readWord_122 lk_X9_15 (ls_11 hs).1 (ls_11 hs).2 rfl rfl (by decide) rfl rfl rfl (Nat.le_of_ble_eq_true rfl) (by decide) (fun H locs hM19 => ?_)
        replace h := lt_some h
        obtain ⟨N20, eN20, h⟩ := h
        rw [← eN20] at hM19
        refine r_aload_n C dX9_readWord_125 rfl hl 1 rfl ?_
        refine r_dup C dX9_readWord_126 rfl ?_
        refine r_getI C hM19 jc9 0 (rd_slot eN20 (by decide) (rd_skip eN17 (ne_off (by decide)) (rd_skip eN14 (ne_off (by decide)) (rd_skip eN12 (ne_off (by decide)) (rd_skip eN10 (ne_off (by decide)) (rd_cskip eN7 (ne_off (by decide)) rfl)))))) dX9_readWord_127 lk_X9_9 (ls_11 hs).1 (ls_11 hs).2 rfl rfl (by decide) rfl ?_
        refine r_iconst C dX9_readWord_130 ?_
        replace h := ck_some h
        obtain ⟨hc21, h⟩ := h
        refine r_iadd C dX9_readWord_131 ?_
        refine r_putI C hM19 jc9 0 hc21 dX9_readWord_132 lk_X9_9 (ls_11 hs).1 (ls_11 hs).2 rfl rfl (by decide) rfl rfl rfl (Nat.le_of_ble_eq_true rfl) (by decide) (fun H locs hM22 => ?_)
        replace h := lt_some h
        obtain ⟨N23, eN23, h⟩ := h
        rw [← eN23] at hM22
        refine r_aload_n C dX9_readWord_135 rfl hl 2 rfl ?_
        replace h := bd_some h
        obtain ⟨M136, hf136, h⟩ := h
        refine r_callV (As := []) (rest := []) C hM22 (c_X8_advance l E z hf136) jy_X8_advance lk_X9_68 dX9_readWord_136 (recvW C hM22 jc8 lc_1.1 lc_1.2 rfl) rfl rfl hl.1 (Nat.le_of_ble_eq_true rfl) ⟨Nat.le_of_ble_eq_true rfl, Nat.le_of_ble_eq_true rfl⟩ ⟨rfl, rfl⟩ ⟨Nat.zero_le _, Nat.zero_le _⟩ (fun H locs hM24 => ?_)
        refine r_iconst C dX9_readWord_139 ?_
        exact r_zreturnM C hM24 hr hlk (Or.inr rfl) h dX9_readWord_140
      · replace h := ifn cq h
        refine r_aload_n C dX9_readWord_38 rfl hl 2 rfl ?_
        refine r_iconst C dX9_readWord_39 ?_
        replace h := bd_some h
        obtain ⟨⟨r40, M40⟩, hf40, h⟩ := h
        try dsimp only at h
        refine r_callI (As := [.int (jI 4)]) (rest := []) C hM1 (c_X8_fail l E z ⟨by decide, by decide⟩ hf40) jy_X8_fail lk_X9_71 dX9_readWord_40 (recvW C hM1 jc8 lc_1.1 lc_1.2 rfl) rfl rfl hl.1 (Nat.le_of_ble_eq_true rfl) ⟨Nat.le_of_ble_eq_true rfl, Nat.le_of_ble_eq_true rfl⟩ ⟨rfl, rfl⟩ ⟨Nat.zero_le _, Nat.zero_le _⟩ (fun H locs hr40 hM25 => ?_)
        replace h := ck_some h
        obtain ⟨hc26, h⟩ := h
        exact r_zreturnM C hM25 hr hlk hc26 h dX9_readWord_43
  · replace h := ifn cq h
    refine r_aload_n C dX9_readWord_11 rfl hl 2 rfl ?_
    refine r_iconst C dX9_readWord_12 ?_
    replace h := bd_some h
    obtain ⟨⟨r13, M13⟩, hf13, h⟩ := h
    try dsimp only at h
    refine r_callI (As := [.int (jI 2)]) (rest := []) C hM1 (c_X8_fail l E z ⟨by decide, by decide⟩ hf13) jy_X8_fail lk_X9_71 dX9_readWord_13 (recvW C hM1 jc8 lc_1.1 lc_1.2 rfl) rfl rfl hl.1 (Nat.le_of_ble_eq_true rfl) ⟨Nat.le_of_ble_eq_true rfl, Nat.le_of_ble_eq_true rfl⟩ ⟨rfl, rfl⟩ ⟨Nat.zero_le _, Nat.zero_le _⟩ (fun H locs hr13 hM27 => ?_)
    replace h := ck_some h
    obtain ⟨hc28, h⟩ := h
    exact r_zreturnM C hM27 hr hlk hc28 h dX9_readWord_16
set_option maxRecDepth 100000 in
set_option maxHeartbeats 4000000 in
theorem c_X9_readFrom (l : Launch) (E : jE) (z : Nat) {s : Nat} {M M' : Mem} {r : Int} (hs : isSt s) (h : f_X9_readFrom s M = some (r, M')) : CtI l yX9_readFrom cX9_readFrom 4 (some .boolean) { frames := 3, cells := 0, slots := 0, locals := 68 } E z LyC [.ref (z + (s + 11)), .ref (z + 1)] M r M' := by
  refine jm (by decide +kernel) (Nat.le_of_ble_eq_true rfl) ?_
  intro p e sM m below meth c C hM0 hr hlk ls hl
  replace hl : lv_has ls 4 [(0, .ref (z + (s + 11))), (1, .ref (z + 1))] := hl
  unfold f_X9_readFrom at h
  refine r_aload_n C dX9_readFrom_0 rfl hl 0 rfl ?_
  replace h := bd_some h
  obtain ⟨M1, hf1, h⟩ := h
  refine r_callV (As := []) (rest := []) C hM0 (c_X9_clear l E z hs hf1) jy_X9_clear lk_X9_53 dX9_readFrom_1 (recvW C hM0 jc9 (ls_11 hs).1 (ls_11 hs).2 rfl) rfl rfl hl.1 (Nat.le_of_ble_eq_true rfl) ⟨Nat.le_of_ble_eq_true rfl, Nat.le_of_ble_eq_true rfl⟩ ⟨rfl, rfl⟩ ⟨Nat.zero_le _, Nat.zero_le _⟩ (fun H locs hM1 => ?_)
  refine r_iconst C dX9_readFrom_4 ?_
  refine r_istore_n C [(2, .int (jI 0)), (0, .ref (z + (s + 11))), (1, .ref (z + 1))] dX9_readFrom_5 rfl hl (by decide) rfl (fun ls hl => ?_)
  refine r_aload_n C dX9_readFrom_6 rfl hl 2 rfl ?_
  replace h := bd_some h
  obtain ⟨M7, hf7, h⟩ := h
  refine r_callV (As := []) (rest := []) C hM1 (c_X8_startReading l E z hf7) jy_X8_startReading lk_X9_56 dX9_readFrom_7 (recvW C hM1 jc8 lc_1.1 lc_1.2 rfl) rfl rfl hl.1 (Nat.le_of_ble_eq_true rfl) ⟨Nat.le_of_ble_eq_true rfl, Nat.le_of_ble_eq_true rfl⟩ ⟨rfl, rfl⟩ ⟨Nat.zero_le _, Nat.zero_le _⟩ (fun H locs hM2 => ?_)
  refine r_iconst C dX9_readFrom_10 ?_
  refine r_istore_n C [(3, .int (jI 0)), (2, .int (jI 0)), (0, .ref (z + (s + 11))), (1, .ref (z + 1))] dX9_readFrom_11 rfl hl (by decide) rfl (fun ls hl => ?_)
  have hL12 : ∀ n12 : Nat, ∀ (x2 : Int) (x3 : Int) (M : Mem), inR x2 → inR x3 → ∀ (H : Heap) (locs : List Loc) (ls : Array Slot), f_X9_readFrom_L12 s n12  x2 x3 M = some (r, M') → HS E z LyC M sM H locs → lv_has ls 4 [(0, .ref (z + (s + 11))), (1, .ref (z + 1)), (2, .int (jI x2)), (3, .int (jI x3))] → W p l e ({ frames := 3, cells := 0, slots := 0, locals := 68 } : Room) sM m (([.ref (z + (s + 11)), .ref (z + 1)] : List Value).toArray) below meth c H locs 0 0 (MQ below (va_Qi (fun (w : Int32) (_ : Unit) => w = jI r ∧ inR r ∧ Mok LyC M') (fun _ t => va_P (eD E) vwCl (Wd (eC E) z LyC M') t.heap) (eA E)) (([.ref (z + (s + 11)), .ref (z + 1)] : List Value).toArray) sM 0 0 (eA E)) (F0 m 12 ls []) := by
    intro n12
    induction n12 with
    | zero =>
      intro x2 x3 M hx2 hx3 H locs ls h hM hl
      exact absurd h (by simp [f_X9_readFrom_L12])
    | succ n12 ih12 =>
      intro x2 x3 M hx2 hx3 H locs ls h hM hl
      rw [f_X9_readFrom_L12] at h
      refine r_iload_n C dX9_readFrom_12 rfl hl 3 rfl ?_
      refine r_sipush C dX9_readFrom_13 rfl ?_
      replace h := jn_some h
      obtain ⟨k102, hk102, h⟩ := h
      have hJ102 : ∀ (_ : Unit), ∀ (H : Heap) (locs : List Loc) (ls : Array Slot), k102 () = some (r, M') → HS E z LyC M sM H locs → lv_has ls 4 [(1, .ref (z + 1)), (2, .int (jI x2))] → W p l e ({ frames := 3, cells := 0, slots := 0, locals := 68 } : Room) sM m (([.ref (z + (s + 11)), .ref (z + 1)] : List Value).toArray) below meth c H locs 0 0 (MQ below (va_Qi (fun (w : Int32) (_ : Unit) => w = jI r ∧ inR r ∧ Mok LyC M') (fun _ t => va_P (eD E) vwCl (Wd (eC E) z LyC M') t.heap) (eA E)) (([.ref (z + (s + 11)), .ref (z + 1)] : List Value).toArray) sM 0 0 (eA E)) (F0 m 102 ls []) := by
        intro _ H locs ls h hMj102 hl
        subst hk102
        try dsimp only at h
        refine r_iload_n C dX9_readFrom_102 rfl hl 1 rfl ?_
        refine r_if_eq C 114 hx2 dX9_readFrom_103 (by decide) (fun cq => ?_) (fun cq => ?_)
        · replace h := ifp cq h
          refine r_iconst C dX9_readFrom_114 ?_
          exact r_zreturnM C hMj102 hr hlk (Or.inr rfl) h dX9_readFrom_115
        · replace h := ifn cq h
          refine r_aload_n C dX9_readFrom_106 rfl hl 0 rfl ?_
          refine r_iconst C dX9_readFrom_107 ?_
          replace h := bd_some h
          obtain ⟨⟨r108, M108⟩, hf108, h⟩ := h
          try dsimp only at h
          refine r_callI (As := [.int (jI 1)]) (rest := []) C hMj102 (c_X8_fail l E z ⟨by decide, by decide⟩ hf108) jy_X8_fail lk_X9_71 dX9_readFrom_108 (recvW C hMj102 jc8 lc_1.1 lc_1.2 rfl) rfl rfl hl.1 (Nat.le_of_ble_eq_true rfl) ⟨Nat.le_of_ble_eq_true rfl, Nat.le_of_ble_eq_true rfl⟩ ⟨rfl, rfl⟩ ⟨Nat.zero_le _, Nat.zero_le _⟩ (fun H locs hr108 hM3 => ?_)
          refine r_goto C 115 dX9_readFrom_111 (by decide) ?_
          replace h := ck_some h
          obtain ⟨hc4, h⟩ := h
          exact r_zreturnM C hM3 hr hlk hc4 h dX9_readFrom_115
      refine r_icmp_ge C 102 hx3 ⟨by decide, by decide⟩ dX9_readFrom_16 (by decide) (fun cq => ?_) (fun cq => ?_)
      · replace h := ifp cq h
        exact hJ102 () _ _ _ h hM (lv_sub hl [1, 2] rfl)
      · replace h := ifn cq h
        refine r_aload_n C dX9_readFrom_19 rfl hl 1 rfl ?_
        refine r_getI C hM jc8 2 rfl dX9_readFrom_20 lk_X9_61 lc_1.1 lc_1.2 rfl rfl (by decide) rfl ?_
        refine r_if_eq C 102 (hM.ok _ _) dX9_readFrom_23 (by decide) (fun cq => ?_) (fun cq => ?_)
        · replace h := ifp cq h
          exact hJ102 () _ _ _ h hM (lv_sub hl [1, 2] rfl)
        · replace h := ifn cq h
          refine r_aload_n C dX9_readFrom_26 rfl hl 1 rfl ?_
          refine r_getI C hM jc8 2 rfl dX9_readFrom_27 lk_X9_61 lc_1.1 lc_1.2 rfl rfl (by decide) rfl ?_
          refine r_iconst C dX9_readFrom_30 ?_
          refine r_icmp_ne C 49 (hM.ok _ _) ⟨by decide, by decide⟩ dX9_readFrom_31 (by decide) (fun cq => ?_) (fun cq => ?_)
          · replace h := ifn cq h
            refine r_aload_n C dX9_readFrom_49 rfl hl 1 rfl ?_
            refine r_getI C hM jc8 2 rfl dX9_readFrom_50 lk_X9_61 lc_1.1 lc_1.2 rfl rfl (by decide) rfl ?_
            refine r_bipush C dX9_readFrom_53 rfl ?_
            refine r_icmp_ne C 90 (hM.ok _ _) ⟨by decide, by decide⟩ dX9_readFrom_55 (by decide) (fun cq => ?_) (fun cq => ?_)
            · replace h := ifn cq h
              refine r_aload_n C dX9_readFrom_90 rfl hl 1 rfl ?_
              refine r_iconst C dX9_readFrom_91 ?_
              replace h := bd_some h
              obtain ⟨⟨r92, M92⟩, hf92, h⟩ := h
              try dsimp only at h
              refine r_callI (As := [.int (jI 1)]) (rest := []) C hM (c_X8_fail l E z ⟨by decide, by decide⟩ hf92) jy_X8_fail lk_X9_71 dX9_readFrom_92 (recvW C hM jc8 lc_1.1 lc_1.2 rfl) rfl rfl hl.1 (Nat.le_of_ble_eq_true rfl) ⟨Nat.le_of_ble_eq_true rfl, Nat.le_of_ble_eq_true rfl⟩ ⟨rfl, rfl⟩ ⟨Nat.zero_le _, Nat.zero_le _⟩ (fun H locs hr92 hM5 => ?_)
              replace h := ck_some h
              obtain ⟨hc6, h⟩ := h
              exact r_zreturnM C hM5 hr hlk hc6 h dX9_readFrom_95
            · replace h := ifp cq h
              refine r_iload_n C dX9_readFrom_58 rfl hl 2 rfl ?_
              refine r_if_eq C 90 hx2 dX9_readFrom_59 (by decide) (fun cq => ?_) (fun cq => ?_)
              · replace h := ifp cq h
                refine r_aload_n C dX9_readFrom_90 rfl hl 1 rfl ?_
                refine r_iconst C dX9_readFrom_91 ?_
                replace h := bd_some h
                obtain ⟨⟨r92, M92⟩, hf92, h⟩ := h
                try dsimp only at h
                refine r_callI (As := [.int (jI 1)]) (rest := []) C hM (c_X8_fail l E z ⟨by decide, by decide⟩ hf92) jy_X8_fail lk_X9_71 dX9_readFrom_92 (recvW C hM jc8 lc_1.1 lc_1.2 rfl) rfl rfl hl.1 (Nat.le_of_ble_eq_true rfl) ⟨Nat.le_of_ble_eq_true rfl, Nat.le_of_ble_eq_true rfl⟩ ⟨rfl, rfl⟩ ⟨Nat.zero_le _, Nat.zero_le _⟩ (fun H locs hr92 hM7 => ?_)
                replace h := ck_some h
                obtain ⟨hc8, h⟩ := h
                exact r_zreturnM C hM7 hr hlk hc8 h dX9_readFrom_95
              · replace h := ifn cq h
                refine r_aload_n C dX9_readFrom_62 rfl hl 0 rfl ?_
                refine r_getI C hM jc9 0 rfl dX9_readFrom_63 lk_X9_9 (ls_11 hs).1 (ls_11 hs).2 rfl rfl (by decide) rfl ?_
                refine r_if_le C 90 (hM.ok _ _) dX9_readFrom_66 (by decide) (fun cq => ?_) (fun cq => ?_)
                · replace h := ifp cq h
                  refine r_aload_n C dX9_readFrom_90 rfl hl 1 rfl ?_
                  refine r_iconst C dX9_readFrom_91 ?_
                  replace h := bd_some h
                  obtain ⟨⟨r92, M92⟩, hf92, h⟩ := h
                  try dsimp only at h
                  refine r_callI (As := [.int (jI 1)]) (rest := []) C hM (c_X8_fail l E z ⟨by decide, by decide⟩ hf92) jy_X8_fail lk_X9_71 dX9_readFrom_92 (recvW C hM jc8 lc_1.1 lc_1.2 rfl) rfl rfl hl.1 (Nat.le_of_ble_eq_true rfl) ⟨Nat.le_of_ble_eq_true rfl, Nat.le_of_ble_eq_true rfl⟩ ⟨rfl, rfl⟩ ⟨Nat.zero_le _, Nat.zero_le _⟩ (fun H locs hr92 hM9 => ?_)
                  replace h := ck_some h
                  obtain ⟨hc10, h⟩ := h
                  exact r_zreturnM C hM9 hr hlk hc10 h dX9_readFrom_95
                · replace h := ifn cq h
                  refine r_aload_n C dX9_readFrom_69 rfl hl 0 rfl ?_
                  refine r_getR C hM jc9 6 (s + 16) dX9_readFrom_70 lk_X9_32 (ls_11 hs).1 (ls_11 hs).2 rfl rfl (by decide) rfl ?_
                  refine r_aload_n C dX9_readFrom_73 rfl hl 0 rfl ?_
                  refine r_getI C hM jc9 0 rfl dX9_readFrom_74 lk_X9_9 (ls_11 hs).1 (ls_11 hs).2 rfl rfl (by decide) rfl ?_
                  refine r_iconst C dX9_readFrom_77 ?_
                  replace h := ck_some h
                  obtain ⟨hc11, h⟩ := h
                  refine r_isub C dX9_readFrom_78 ?_
                  refine r_iconst C dX9_readFrom_79 ?_
                  replace h := ck_some h
                  obtain ⟨hc12, h⟩ := h
                  refine r_zast C hM dX9_readFrom_80 (ls_16 hs).1 (ls_16 hs).2 hc12 hc11 (fun H locs hM13 => ?_)
                  replace h := lt_some h
                  obtain ⟨N14, eN14, h⟩ := h
                  rw [← eN14] at hM13
                  refine r_iconst C dX9_readFrom_81 ?_
                  refine r_istore_n C [(2, .int (jI 0)), (0, .ref (z + (s + 11))), (1, .ref (z + 1)), (3, .int (jI x3))] dX9_readFrom_82 rfl hl (by decide) rfl (fun ls hl => ?_)
                  refine r_aload_n C dX9_readFrom_83 rfl hl 2 rfl ?_
                  replace h := bd_some h
                  obtain ⟨M84, hf84, h⟩ := h
                  refine r_callV (As := []) (rest := []) C hM13 (c_X8_advance l E z hf84) jy_X8_advance lk_X9_68 dX9_readFrom_84 (recvW C hM13 jc8 lc_1.1 lc_1.2 rfl) rfl rfl hl.1 (Nat.le_of_ble_eq_true rfl) ⟨Nat.le_of_ble_eq_true rfl, Nat.le_of_ble_eq_true rfl⟩ ⟨rfl, rfl⟩ ⟨Nat.zero_le _, Nat.zero_le _⟩ (fun H locs hM15 => ?_)
                  refine r_goto C 96 dX9_readFrom_87 (by decide) ?_
                  replace h := ck_some h
                  obtain ⟨hc16, h⟩ := h
                  refine r_iinc (j := 3) (x := x3) C [(3, .int (jI (x3 + 1))), (2, .int (jI 0)), (0, .ref (z + (s + 11))), (1, .ref (z + 1))] dX9_readFrom_96 hl rfl (by decide) rfl (fun ls hl => ?_)
                  refine r_goto C 12 dX9_readFrom_99 (by decide) ?_
                  exact ih12 _ _ _ ⟨by decide, by decide⟩ hc16 _ _ _ h hM15 (lv_sub hl [2, 3, 1, 0] rfl)
          · replace h := ifp cq h
            refine r_aload_n C dX9_readFrom_34 rfl hl 0 rfl ?_
            refine r_aload_n C dX9_readFrom_35 rfl hl 1 rfl ?_
            replace h := bd_some h
            obtain ⟨⟨r36, M36⟩, hf36, h⟩ := h
            try dsimp only at h
            refine r_callI (As := [.ref (z + 1)]) (rest := []) C hM (c_X9_readWord l E z hs hf36) jy_X9_readWord lk_X9_64 dX9_readFrom_36 (recvW C hM jc9 (ls_11 hs).1 (ls_11 hs).2 rfl) rfl rfl hl.1 (Nat.le_of_ble_eq_true rfl) ⟨Nat.le_of_ble_eq_true rfl, Nat.le_of_ble_eq_true rfl⟩ ⟨rfl, rfl⟩ ⟨Nat.zero_le _, Nat.zero_le _⟩ (fun H locs hr36 hM17 => ?_)
            refine r_if_ne C 44 hr36 dX9_readFrom_39 (by decide) (fun cq => ?_) (fun cq => ?_)
            · replace h := ifn cq h
              refine r_iconst C dX9_readFrom_44 ?_
              refine r_istore_n C [(2, .int (jI 1)), (0, .ref (z + (s + 11))), (1, .ref (z + 1)), (3, .int (jI x3))] dX9_readFrom_45 rfl hl (by decide) rfl (fun ls hl => ?_)
              refine r_goto C 96 dX9_readFrom_46 (by decide) ?_
              replace h := ck_some h
              obtain ⟨hc18, h⟩ := h
              refine r_iinc (j := 3) (x := x3) C [(3, .int (jI (x3 + 1))), (2, .int (jI 1)), (0, .ref (z + (s + 11))), (1, .ref (z + 1))] dX9_readFrom_96 hl rfl (by decide) rfl (fun ls hl => ?_)
              refine r_goto C 12 dX9_readFrom_99 (by decide) ?_
              exact ih12 _ _ _ ⟨by decide, by decide⟩ hc18 _ _ _ h hM17 (lv_sub hl [2, 3, 1, 0] rfl)
            · replace h := ifp cq h
              refine r_iconst C dX9_readFrom_42 ?_
              exact r_zreturnM C hM17 hr hlk (Or.inl rfl) h dX9_readFrom_43
  exact hL12 jFuel _ _ _ ⟨by decide, by decide⟩ ⟨by decide, by decide⟩ _ _ _ h hM2 (lv_sub hl [2, 3, 1, 0] rfl)
