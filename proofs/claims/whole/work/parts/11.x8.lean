set_option maxRecDepth 100000 in
set_option maxHeartbeats 4000000 in
theorem c_X8_append (l : Launch) (E : jE) (z : Nat) {x1 : Int} {M M' : Mem} (hx1 : inR x1) (h : f_X8_append x1 M = some M') : CtV l yX8_append cX8_append 3 none { frames := 0, cells := 0, slots := 0, locals := 0 } E z LyC [.ref (z + 1), .int (jI x1)] M M' := by
  refine jm (by decide +kernel) (Nat.le_of_ble_eq_true rfl) ?_
  intro p e sM m below meth c C hM0 hr hlk ls hl
  replace hl : lv_has ls 3 [(0, .ref (z + 1)), (1, .int (jI x1))] := hl
  unfold f_X8_append at h
  refine r_bipush C dX8_append_0 rfl ?_
  refine r_istore_n C [(2, .int (jI 24)), (0, .ref (z + 1)), (1, .int (jI x1))] dX8_append_2 rfl hl (by decide) rfl (fun ls hl => ?_)
  have hL3 : ∀ n3 : Nat, ∀ (x2 : Int) (M : Mem), inR x2 → ∀ (H : Heap) (locs : List Loc) (ls : Array Slot), f_X8_append_L3 x1 n3  x2 M = some M' → HS E z LyC M sM H locs → lv_has ls 3 [(0, .ref (z + 1)), (1, .int (jI x1)), (2, .int (jI x2))] → W p l e ({ frames := 0, cells := 0, slots := 0, locals := 0 } : Room) sM m (([.ref (z + 1), .int (jI x1)] : List Value).toArray) below meth c H locs 0 0 (MQ below (va_Qv (fun (_ : Unit) => Mok LyC M') (fun _ t => va_P (eD E) vwCl (Wd (eC E) z LyC M') t.heap) (eA E)) (([.ref (z + 1), .int (jI x1)] : List Value).toArray) sM 0 0 (eA E)) (F0 m 3 ls []) := by
    intro n3
    induction n3 with
    | zero =>
      intro x2 M hx2 H locs ls h hM hl
      exact absurd h (by simp [f_X8_append_L3])
    | succ n3 ih3 =>
      intro x2 M hx2 H locs ls h hM hl
      rw [f_X8_append_L3] at h
      refine r_iload_n C dX8_append_3 rfl hl 2 rfl ?_
      refine r_if_lt C 46 hx2 dX8_append_4 (by decide) (fun cq => ?_) (fun cq => ?_)
      · replace h := ifp cq h
        exact r_return C hM hr hlk h dX8_append_46
      · replace h := ifn cq h
        refine r_aload_n C dX8_append_7 rfl hl 0 rfl ?_
        refine r_getI C hM jc8 1 rfl dX8_append_8 lk_X8_15 lc_1.1 lc_1.2 rfl rfl (by decide) rfl ?_
        refine r_sipush C dX8_append_11 rfl ?_
        refine r_icmp_ge C 40 (hM.ok _ _) ⟨by decide, by decide⟩ dX8_append_14 (by decide) (fun cq => ?_) (fun cq => ?_)
        · replace h := ifp cq h
          replace h := ck_some h
          obtain ⟨hc1, h⟩ := h
          refine r_iinc (j := 2) (x := x2) C [(2, .int (jI (x2 + (-8)))), (0, .ref (z + 1)), (1, .int (jI x1))] dX8_append_40 hl rfl (by decide) rfl (fun ls hl => ?_)
          refine r_goto C 3 dX8_append_43 (by decide) ?_
          exact ih3 _ _ hc1 _ _ _ h hM (lv_sub hl [1, 2, 0] rfl)
        · replace h := ifn cq h
          refine r_aload_n C dX8_append_17 rfl hl 0 rfl ?_
          refine r_getR C hM jc8 0 2 dX8_append_18 lk_X8_9 lc_1.1 lc_1.2 rfl rfl (by decide) rfl ?_
          refine r_aload_n C dX8_append_21 rfl hl 0 rfl ?_
          refine r_getI C hM jc8 1 rfl dX8_append_22 lk_X8_15 lc_1.1 lc_1.2 rfl rfl (by decide) rfl ?_
          refine r_iload_n C dX8_append_25 rfl hl 1 rfl ?_
          refine r_iload_n C dX8_append_26 rfl hl 2 rfl ?_
          refine r_ishr C dX8_append_27 ?_
          refine r_i2b C dX8_append_28 ?_
          replace h := ck_some h
          obtain ⟨hc2, h⟩ := h
          refine r_bast C hM dX8_append_29 lc_2.1 lc_2.2 hc2 (hM.ok _ _) (fun H locs hM3 => ?_)
          replace h := lt_some h
          obtain ⟨N4, eN4, h⟩ := h
          rw [← eN4] at hM3
          refine r_aload_n C dX8_append_30 rfl hl 0 rfl ?_
          refine r_dup C dX8_append_31 rfl ?_
          refine r_getI C hM3 jc8 1 (rd_skip eN4 (by decide) rfl) dX8_append_32 lk_X8_15 lc_1.1 lc_1.2 rfl rfl (by decide) rfl ?_
          refine r_iconst C dX8_append_35 ?_
          replace h := ck_some h
          obtain ⟨hc5, h⟩ := h
          refine r_iadd C dX8_append_36 ?_
          refine r_putI C hM3 jc8 1 hc5 dX8_append_37 lk_X8_15 lc_1.1 lc_1.2 rfl rfl (by decide) rfl rfl rfl (Nat.le_of_ble_eq_true rfl) (by decide) (fun H locs hM6 => ?_)
          replace h := lt_some h
          obtain ⟨N7, eN7, h⟩ := h
          rw [← eN7] at hM6
          replace h := ck_some h
          obtain ⟨hc8, h⟩ := h
          refine r_iinc (j := 2) (x := x2) C [(2, .int (jI (x2 + (-8)))), (0, .ref (z + 1)), (1, .int (jI x1))] dX8_append_40 hl rfl (by decide) rfl (fun ls hl => ?_)
          refine r_goto C 3 dX8_append_43 (by decide) ?_
          exact ih3 _ _ hc8 _ _ _ h hM6 (lv_sub hl [1, 2, 0] rfl)
  exact hL3 jFuel _ _ ⟨by decide, by decide⟩ _ _ _ h hM0 (lv_sub hl [1, 2, 0] rfl)
set_option maxRecDepth 100000 in
set_option maxHeartbeats 4000000 in
theorem c_X8_isDigit (l : Launch) (E : jE) (z : Nat) {x0 : Int} {M : Mem} {r : Int} (hx0 : inR x0) (h : f_X8_isDigit x0 M = some r) : CtI l yX8_isDigit cX8_isDigit 1 (some .boolean) { frames := 0, cells := 0, slots := 0, locals := 0 } E z LyC [.int (jI x0)] M r M := by
  refine jm (by decide +kernel) (Nat.le_of_ble_eq_true rfl) ?_
  intro p e sM m below meth c C hM0 hr hlk ls hl
  replace hl : lv_has ls 1 [(0, .int (jI x0))] := hl
  unfold f_X8_isDigit at h
  refine r_iload_n C dX8_isDigit_0 rfl hl 0 rfl ?_
  refine r_bipush C dX8_isDigit_1 rfl ?_
  refine r_icmp_lt C 16 hx0 ⟨by decide, by decide⟩ dX8_isDigit_3 (by decide) (fun cq => ?_) (fun cq => ?_)
  · replace h := ifp cq h
    refine r_iconst C dX8_isDigit_16 ?_
    exact r_zreturn C hM0 hr hlk (Or.inl rfl) h rfl dX8_isDigit_17
  · replace h := ifn cq h
    refine r_iload_n C dX8_isDigit_6 rfl hl 0 rfl ?_
    refine r_bipush C dX8_isDigit_7 rfl ?_
    refine r_icmp_gt C 16 hx0 ⟨by decide, by decide⟩ dX8_isDigit_9 (by decide) (fun cq => ?_) (fun cq => ?_)
    · replace h := ifp cq h
      refine r_iconst C dX8_isDigit_16 ?_
      exact r_zreturn C hM0 hr hlk (Or.inl rfl) h rfl dX8_isDigit_17
    · replace h := ifn cq h
      refine r_iconst C dX8_isDigit_12 ?_
      refine r_goto C 17 dX8_isDigit_13 (by decide) ?_
      exact r_zreturn C hM0 hr hlk (Or.inr rfl) h rfl dX8_isDigit_17
set_option maxRecDepth 100000 in
set_option maxHeartbeats 4000000 in
theorem c_X8_isLetter (l : Launch) (E : jE) (z : Nat) {x0 : Int} {M : Mem} {r : Int} (hx0 : inR x0) (h : f_X8_isLetter x0 M = some r) : CtI l yX8_isLetter cX8_isLetter 1 (some .boolean) { frames := 0, cells := 0, slots := 0, locals := 0 } E z LyC [.int (jI x0)] M r M := by
  refine jm (by decide +kernel) (Nat.le_of_ble_eq_true rfl) ?_
  intro p e sM m below meth c C hM0 hr hlk ls hl
  replace hl : lv_has ls 1 [(0, .int (jI x0))] := hl
  unfold f_X8_isLetter at h
  refine r_iload_n C dX8_isLetter_0 rfl hl 0 rfl ?_
  refine r_bipush C dX8_isLetter_1 rfl ?_
  refine r_icmp_lt C 16 hx0 ⟨by decide, by decide⟩ dX8_isLetter_3 (by decide) (fun cq => ?_) (fun cq => ?_)
  · replace h := ifp cq h
    refine r_iconst C dX8_isLetter_16 ?_
    exact r_zreturn C hM0 hr hlk (Or.inl rfl) h rfl dX8_isLetter_17
  · replace h := ifn cq h
    refine r_iload_n C dX8_isLetter_6 rfl hl 0 rfl ?_
    refine r_bipush C dX8_isLetter_7 rfl ?_
    refine r_icmp_gt C 16 hx0 ⟨by decide, by decide⟩ dX8_isLetter_9 (by decide) (fun cq => ?_) (fun cq => ?_)
    · replace h := ifp cq h
      refine r_iconst C dX8_isLetter_16 ?_
      exact r_zreturn C hM0 hr hlk (Or.inl rfl) h rfl dX8_isLetter_17
    · replace h := ifn cq h
      refine r_iconst C dX8_isLetter_12 ?_
      refine r_goto C 17 dX8_isLetter_13 (by decide) ?_
      exact r_zreturn C hM0 hr hlk (Or.inr rfl) h rfl dX8_isLetter_17
set_option maxRecDepth 100000 in
set_option maxHeartbeats 4000000 in
theorem c_X8_kindOfSign (l : Launch) (E : jE) (z : Nat) {x0 : Int} {M : Mem} {r : Int} (hx0 : inR x0) (h : f_X8_kindOfSign x0 M = some r) : CtI l yX8_kindOfSign cX8_kindOfSign 1 (some .int) { frames := 0, cells := 0, slots := 0, locals := 0 } E z LyC [.int (jI x0)] M r M := by
  refine jm (by decide +kernel) (Nat.le_of_ble_eq_true rfl) ?_
  intro p e sM m below meth c C hM0 hr hlk ls hl
  replace hl : lv_has ls 1 [(0, .int (jI x0))] := hl
  unfold f_X8_kindOfSign at h
  refine r_iload_n C dX8_kindOfSign_0 rfl hl 0 rfl ?_
  by_cases cq : x0 = 46
  · replace h := ifp cq h
    refine r_lookup C 50 (49) hx0 dX8_kindOfSign_1 (by decide) (by rw [cq]; rfl) (by decide) ?_
    refine r_bipush C dX8_kindOfSign_50 rfl ?_
    exact r_ireturn C hM0 hr hlk ⟨by decide, by decide⟩ h rfl dX8_kindOfSign_52
  · replace h := ifn cq h
    have c1_46 := cq
    by_cases cq : x0 = 59
    · replace h := ifp cq h
      refine r_lookup C 44 (43) hx0 dX8_kindOfSign_1 (by decide) (by rw [cq]; rfl) (by decide) ?_
      refine r_iconst C dX8_kindOfSign_44 ?_
      exact r_ireturn C hM0 hr hlk ⟨by decide, by decide⟩ h rfl dX8_kindOfSign_45
    · replace h := ifn cq h
      have c1_59 := cq
      by_cases cq : x0 = 123
      · replace h := ifp cq h
        refine r_lookup C 46 (45) hx0 dX8_kindOfSign_1 (by decide) (by rw [cq]; rfl) (by decide) ?_
        refine r_iconst C dX8_kindOfSign_46 ?_
        exact r_ireturn C hM0 hr hlk ⟨by decide, by decide⟩ h rfl dX8_kindOfSign_47
      · replace h := ifn cq h
        have c1_123 := cq
        by_cases cq : x0 = 125
        · replace h := ifp cq h
          refine r_lookup C 48 (47) hx0 dX8_kindOfSign_1 (by decide) (by rw [cq]; rfl) (by decide) ?_
          refine r_iconst C dX8_kindOfSign_48 ?_
          exact r_ireturn C hM0 hr hlk ⟨by decide, by decide⟩ h rfl dX8_kindOfSign_49
        · replace h := ifn cq h
          have c1_125 := cq
          refine r_lookup C 53 (52) hx0 dX8_kindOfSign_1 (by decide) ?_ (by decide) ?_
          · simp only [Op.lookupswitch.offset, List.find?]
            (repeat' split) <;> first | rfl | omega | simp_all
          · refine r_bipush C dX8_kindOfSign_53 rfl ?_
            exact r_ireturn C hM0 hr hlk ⟨by decide, by decide⟩ h rfl dX8_kindOfSign_55
set_option maxRecDepth 100000 in
set_option maxHeartbeats 4000000 in
theorem c_X8_advance (l : Launch) (E : jE) (z : Nat) {M M' : Mem} (h : f_X8_advance M = some M') : CtV l yX8_advance cX8_advance 2 none { frames := 1, cells := 0, slots := 0, locals := 20 } E z LyC [.ref (z + 1)] M M' := by
  refine jm (by decide +kernel) (Nat.le_of_ble_eq_true rfl) ?_
  intro p e sM m below meth c C hM0 hr hlk ls hl
  replace hl : lv_has ls 2 [(0, .ref (z + 1))] := hl
  unfold f_X8_advance at h
  refine r_aload_n C dX8_advance_0 rfl hl 0 rfl ?_
  refine r_getI C hM0 jc8 4 rfl dX8_advance_1 lk_X8_25 lc_1.1 lc_1.2 rfl rfl (by decide) rfl ?_
  refine r_istore_n C [(1, .int (jI (M 1 4))), (0, .ref (z + 1))] dX8_advance_4 rfl hl (by decide) rfl (fun ls hl => ?_)
  have hL5 : ∀ n5 : Nat, ∀ (x1 : Int) (M : Mem), inR x1 → ∀ (H : Heap) (locs : List Loc) (ls : Array Slot), f_X8_advance_L5 n5  x1 M = some M' → HS E z LyC M sM H locs → lv_has ls 2 [(0, .ref (z + 1)), (1, .int (jI x1))] → W p l e ({ frames := 1, cells := 0, slots := 0, locals := 20 } : Room) sM m (([.ref (z + 1)] : List Value).toArray) below meth c H locs 0 0 (MQ below (va_Qv (fun (_ : Unit) => Mok LyC M') (fun _ t => va_P (eD E) vwCl (Wd (eC E) z LyC M') t.heap) (eA E)) (([.ref (z + 1)] : List Value).toArray) sM 0 0 (eA E)) (F0 m 5 ls []) := by
    intro n5
    induction n5 with
    | zero =>
      intro x1 M hx1 H locs ls h hM hl
      exact absurd h (by simp [f_X8_advance_L5])
    | succ n5 ih5 =>
      intro x1 M hx1 H locs ls h hM hl
      rw [f_X8_advance_L5] at h
      refine r_iload_n C dX8_advance_5 rfl hl 1 rfl ?_
      refine r_aload_n C dX8_advance_6 rfl hl 0 rfl ?_
      refine r_getI C hM jc8 1 rfl dX8_advance_7 lk_X8_15 lc_1.1 lc_1.2 rfl rfl (by decide) rfl ?_
      replace h := jn_some h
      obtain ⟨k41, hk41, h⟩ := h
      have hJ41 : ∀ (_ : Unit), ∀ (H : Heap) (locs : List Loc) (ls : Array Slot), k41 () = some M' → HS E z LyC M sM H locs → lv_has ls 2 [(0, .ref (z + 1)), (1, .int (jI x1))] → W p l e ({ frames := 1, cells := 0, slots := 0, locals := 20 } : Room) sM m (([.ref (z + 1)] : List Value).toArray) below meth c H locs 0 0 (MQ below (va_Qv (fun (_ : Unit) => Mok LyC M') (fun _ t => va_P (eD E) vwCl (Wd (eC E) z LyC M') t.heap) (eA E)) (([.ref (z + 1)] : List Value).toArray) sM 0 0 (eA E)) (F0 m 41 ls []) := by
        intro _ H locs ls h hMj41 hl
        subst hk41
        try dsimp only at h
        refine r_aload_n C dX8_advance_41 rfl hl 0 rfl ?_
        refine r_iload_n C dX8_advance_42 rfl hl 1 rfl ?_
        refine r_putI C hMj41 jc8 3 hx1 dX8_advance_43 lk_X8_22 lc_1.1 lc_1.2 rfl rfl (by decide) rfl rfl rfl (Nat.le_of_ble_eq_true rfl) (by decide) (fun H locs hM1 => ?_)
        replace h := lt_some h
        obtain ⟨N2, eN2, h⟩ := h
        rw [← eN2] at hM1
        refine r_iload_n C dX8_advance_46 rfl hl 1 rfl ?_
        refine r_aload_n C dX8_advance_47 rfl hl 0 rfl ?_
        refine r_getI C hM1 jc8 1 (rd_slot eN2 (by decide) rfl) dX8_advance_48 lk_X8_15 lc_1.1 lc_1.2 rfl rfl (by decide) rfl ?_
        refine r_icmp_lt C 62 hx1 (hM.ok _ _) dX8_advance_51 (by decide) (fun cq => ?_) (fun cq => ?_)
        · replace h := ifp cq h
          refine r_aload_n C dX8_advance_62 rfl hl 0 rfl ?_
          refine r_getR C hM1 jc8 0 2 dX8_advance_63 lk_X8_9 lc_1.1 lc_1.2 rfl rfl (by decide) rfl ?_
          refine r_iload_n C dX8_advance_66 rfl hl 1 rfl ?_
          replace h := ck_some h
          obtain ⟨hc3, h⟩ := h
          refine r_bald C hM1 (rd_skip eN2 (by decide) rfl) dX8_advance_67 lc_2.1 lc_2.2 hc3 hx1 ?_
          replace h := bd_some h
          obtain ⟨r68, hf68, h⟩ := h
          refine r_callSI (As := [.int (jI (M 2 x1.toNat))]) (rest := []) C hM1 (c_X8_isLetter l E z (hM.ok _ _) hf68) jy_X8_isLetter lk_X8_43 dX8_advance_68 rfl rfl hl.1 (Nat.le_of_ble_eq_true rfl) ⟨Nat.le_of_ble_eq_true rfl, Nat.le_of_ble_eq_true rfl⟩ ⟨rfl, rfl⟩ ⟨Nat.zero_le _, Nat.zero_le _⟩ (fun H locs hr68 hM4 => ?_)
          refine r_if_eq C 105 hr68 dX8_advance_71 (by decide) (fun cq => ?_) (fun cq => ?_)
          · replace h := ifp cq h
            refine r_aload_n C dX8_advance_105 rfl hl 0 rfl ?_
            refine r_getR C hM4 jc8 0 2 dX8_advance_106 lk_X8_9 lc_1.1 lc_1.2 rfl rfl (by decide) rfl ?_
            refine r_iload_n C dX8_advance_109 rfl hl 1 rfl ?_
            refine r_bald C hM4 (rd_skip eN2 (by decide) rfl) dX8_advance_110 lc_2.1 lc_2.2 hc3 hx1 ?_
            replace h := bd_some h
            obtain ⟨r111, hf111, h⟩ := h
            refine r_callSI (As := [.int (jI (M 2 x1.toNat))]) (rest := []) C hM4 (c_X8_isDigit l E z (hM.ok _ _) hf111) jy_X8_isDigit lk_X8_47 dX8_advance_111 rfl rfl hl.1 (Nat.le_of_ble_eq_true rfl) ⟨Nat.le_of_ble_eq_true rfl, Nat.le_of_ble_eq_true rfl⟩ ⟨rfl, rfl⟩ ⟨Nat.zero_le _, Nat.zero_le _⟩ (fun H locs hr111 hM5 => ?_)
            refine r_if_eq C 179 hr111 dX8_advance_114 (by decide) (fun cq => ?_) (fun cq => ?_)
            · replace h := ifp cq h
              refine r_aload_n C dX8_advance_179 rfl hl 0 rfl ?_
              refine r_aload_n C dX8_advance_180 rfl hl 0 rfl ?_
              refine r_getR C hM5 jc8 0 2 dX8_advance_181 lk_X8_9 lc_1.1 lc_1.2 rfl rfl (by decide) rfl ?_
              refine r_iload_n C dX8_advance_184 rfl hl 1 rfl ?_
              refine r_bald C hM5 (rd_skip eN2 (by decide) rfl) dX8_advance_185 lc_2.1 lc_2.2 hc3 hx1 ?_
              replace h := bd_some h
              obtain ⟨r186, hf186, h⟩ := h
              refine r_callSI (As := [.int (jI (M 2 x1.toNat))]) (rest := [.ref (z + 1)]) C hM5 (c_X8_kindOfSign l E z (hM.ok _ _) hf186) jy_X8_kindOfSign lk_X8_57 dX8_advance_186 rfl rfl hl.1 (Nat.le_of_ble_eq_true rfl) ⟨Nat.le_of_ble_eq_true rfl, Nat.le_of_ble_eq_true rfl⟩ ⟨rfl, rfl⟩ ⟨Nat.zero_le _, Nat.zero_le _⟩ (fun H locs hr186 hM6 => ?_)
              refine r_putI C hM6 jc8 2 hr186 dX8_advance_189 lk_X8_19 lc_1.1 lc_1.2 rfl rfl (by decide) rfl rfl rfl (Nat.le_of_ble_eq_true rfl) (by decide) (fun H locs hM7 => ?_)
              replace h := lt_some h
              obtain ⟨N8, eN8, h⟩ := h
              rw [← eN8] at hM7
              replace h := ck_some h
              obtain ⟨hc9, h⟩ := h
              refine r_iinc (j := 1) (x := x1) C [(1, .int (jI (x1 + 1))), (0, .ref (z + 1))] dX8_advance_192 hl rfl (by decide) rfl (fun ls hl => ?_)
              refine r_aload_n C dX8_advance_195 rfl hl 1 rfl ?_
              refine r_iload_n C dX8_advance_196 rfl hl 0 rfl ?_
              refine r_putI C hM7 jc8 4 hc9 dX8_advance_197 lk_X8_25 lc_1.1 lc_1.2 rfl rfl (by decide) rfl rfl rfl (Nat.le_of_ble_eq_true rfl) (by decide) (fun H locs hM10 => ?_)
              replace h := lt_some h
              obtain ⟨N11, eN11, h⟩ := h
              rw [← eN11] at hM10
              exact r_return C hM10 hr hlk h dX8_advance_200
            · replace h := ifn cq h
              refine r_aload_n C dX8_advance_117 rfl hl 0 rfl ?_
              refine r_iconst C dX8_advance_118 ?_
              refine r_putI C hM5 jc8 2 ⟨by decide, by decide⟩ dX8_advance_119 lk_X8_19 lc_1.1 lc_1.2 rfl rfl (by decide) rfl rfl rfl (Nat.le_of_ble_eq_true rfl) (by decide) (fun H locs hM12 => ?_)
              replace h := lt_some h
              obtain ⟨N13, eN13, h⟩ := h
              rw [← eN13] at hM12
              refine r_aload_n C dX8_advance_122 rfl hl 0 rfl ?_
              refine r_iconst C dX8_advance_123 ?_
              refine r_putI C hM12 jc8 5 ⟨by decide, by decide⟩ dX8_advance_124 lk_X8_28 lc_1.1 lc_1.2 rfl rfl (by decide) rfl rfl rfl (Nat.le_of_ble_eq_true rfl) (by decide) (fun H locs hM14 => ?_)
              replace h := lt_some h
              obtain ⟨N15, eN15, h⟩ := h
              rw [← eN15] at hM14
              have hL127 : ∀ n127 : Nat, ∀ (x1 : Int) (M : Mem), inR x1 → ∀ (H : Heap) (locs : List Loc) (ls : Array Slot), f_X8_advance_L127 n127  x1 M = some M' → HS E z LyC M sM H locs → lv_has ls 2 [(0, .ref (z + 1)), (1, .int (jI x1))] → W p l e ({ frames := 1, cells := 0, slots := 0, locals := 20 } : Room) sM m (([.ref (z + 1)] : List Value).toArray) below meth c H locs 0 0 (MQ below (va_Qv (fun (_ : Unit) => Mok LyC M') (fun _ t => va_P (eD E) vwCl (Wd (eC E) z LyC M') t.heap) (eA E)) (([.ref (z + 1)] : List Value).toArray) sM 0 0 (eA E)) (F0 m 127 ls []) := by
                intro n127
                induction n127 with
                | zero =>
                  intro x1 M hx1 H locs ls h hM hl
                  exact absurd h (by simp [f_X8_advance_L127])
                | succ n127 ih127 =>
                  intro x1 M hx1 H locs ls h hM hl
                  rw [f_X8_advance_L127] at h
                  refine r_iload_n C dX8_advance_127 rfl hl 1 rfl ?_
                  refine r_aload_n C dX8_advance_128 rfl hl 0 rfl ?_
                  refine r_getI C hM jc8 1 rfl dX8_advance_129 lk_X8_15 lc_1.1 lc_1.2 rfl rfl (by decide) rfl ?_
                  refine r_icmp_ge C 195 hx1 (hM.ok _ _) dX8_advance_132 (by decide) (fun cq => ?_) (fun cq => ?_)
                  · replace h := ifp cq h
                    refine r_aload_n C dX8_advance_195 rfl hl 0 rfl ?_
                    refine r_iload_n C dX8_advance_196 rfl hl 1 rfl ?_
                    refine r_putI C hM jc8 4 hx1 dX8_advance_197 lk_X8_25 lc_1.1 lc_1.2 rfl rfl (by decide) rfl rfl rfl (Nat.le_of_ble_eq_true rfl) (by decide) (fun H locs hM16 => ?_)
                    replace h := lt_some h
                    obtain ⟨N17, eN17, h⟩ := h
                    rw [← eN17] at hM16
                    exact r_return C hM16 hr hlk h dX8_advance_200
                  · replace h := ifn cq h
                    refine r_aload_n C dX8_advance_135 rfl hl 0 rfl ?_
                    refine r_getR C hM jc8 0 2 dX8_advance_136 lk_X8_9 lc_1.1 lc_1.2 rfl rfl (by decide) rfl ?_
                    refine r_iload_n C dX8_advance_139 rfl hl 1 rfl ?_
                    replace h := ck_some h
                    obtain ⟨hc18, h⟩ := h
                    refine r_bald C hM rfl dX8_advance_140 lc_2.1 lc_2.2 hc18 hx1 ?_
                    replace h := bd_some h
                    obtain ⟨r141, hf141, h⟩ := h
                    refine r_callSI (As := [.int (jI (M 2 x1.toNat))]) (rest := []) C hM (c_X8_isDigit l E z (hM.ok _ _) hf141) jy_X8_isDigit lk_X8_47 dX8_advance_141 rfl rfl hl.1 (Nat.le_of_ble_eq_true rfl) ⟨Nat.le_of_ble_eq_true rfl, Nat.le_of_ble_eq_true rfl⟩ ⟨rfl, rfl⟩ ⟨Nat.zero_le _, Nat.zero_le _⟩ (fun H locs hr141 hM19 => ?_)
                    refine r_if_eq C 195 hr141 dX8_advance_144 (by decide) (fun cq => ?_) (fun cq => ?_)
                    · replace h := ifp cq h
                      refine r_aload_n C dX8_advance_195 rfl hl 0 rfl ?_
                      refine r_iload_n C dX8_advance_196 rfl hl 1 rfl ?_
                      refine r_putI C hM19 jc8 4 hx1 dX8_advance_197 lk_X8_25 lc_1.1 lc_1.2 rfl rfl (by decide) rfl rfl rfl (Nat.le_of_ble_eq_true rfl) (by decide) (fun H locs hM20 => ?_)
                      replace h := lt_some h
                      obtain ⟨N21, eN21, h⟩ := h
                      rw [← eN21] at hM20
                      exact r_return C hM20 hr hlk h dX8_advance_200
                    · replace h := ifn cq h
                      refine r_aload_n C dX8_advance_147 rfl hl 0 rfl ?_
                      refine r_aload_n C dX8_advance_148 rfl hl 0 rfl ?_
                      refine r_getI C hM19 jc8 5 rfl dX8_advance_149 lk_X8_28 lc_1.1 lc_1.2 rfl rfl (by decide) rfl ?_
                      refine r_bipush C dX8_advance_152 rfl ?_
                      replace h := ck_some h
                      obtain ⟨hc22, h⟩ := h
                      refine r_imul C dX8_advance_154 ?_
                      refine r_aload_n C dX8_advance_155 rfl hl 0 rfl ?_
                      refine r_getR C hM19 jc8 0 2 dX8_advance_156 lk_X8_9 lc_1.1 lc_1.2 rfl rfl (by decide) rfl ?_
                      refine r_iload_n C dX8_advance_159 rfl hl 1 rfl ?_
                      refine r_bald C hM19 rfl dX8_advance_160 lc_2.1 lc_2.2 hc18 hx1 ?_
                      refine r_bipush C dX8_advance_161 rfl ?_
                      replace h := ck_some h
                      obtain ⟨hc23, h⟩ := h
                      refine r_isub C dX8_advance_163 ?_
                      replace h := ck_some h
                      obtain ⟨hc24, h⟩ := h
                      refine r_iadd C dX8_advance_164 ?_
                      refine r_ldc C lk_X8_50 dX8_advance_165 ?_
                      refine r_min C hc24 ⟨by decide, by decide⟩ lk_X8_51 dX8_advance_167 hl.1 ⟨Nat.le_of_ble_eq_true rfl, Nat.le_of_ble_eq_true rfl⟩ ⟨Nat.zero_le _, Nat.zero_le _⟩ ?_
                      refine r_putI C hM19 jc8 5 (min_R hc24 ⟨by decide, by decide⟩) dX8_advance_170 lk_X8_28 lc_1.1 lc_1.2 rfl rfl (by decide) rfl rfl rfl (Nat.le_of_ble_eq_true rfl) (by decide) (fun H locs hM25 => ?_)
                      replace h := lt_some h
                      obtain ⟨N26, eN26, h⟩ := h
                      rw [← eN26] at hM25
                      replace h := ck_some h
                      obtain ⟨hc27, h⟩ := h
                      refine r_iinc (j := 1) (x := x1) C [(1, .int (jI (x1 + 1))), (0, .ref (z + 1))] dX8_advance_173 hl rfl (by decide) rfl (fun ls hl => ?_)
                      refine r_goto C 127 dX8_advance_176 (by decide) ?_
                      exact ih127 _ _ hc27 _ _ _ h hM25 (lv_sub hl [1, 0] rfl)
              exact hL127 jFuel _ _ hx1 _ _ _ h hM14 (lv_sub hl [0, 1] rfl)
          · replace h := ifn cq h
            refine r_aload_n C dX8_advance_74 rfl hl 0 rfl ?_
            refine r_iconst C dX8_advance_75 ?_
            refine r_putI C hM4 jc8 2 ⟨by decide, by decide⟩ dX8_advance_76 lk_X8_19 lc_1.1 lc_1.2 rfl rfl (by decide) rfl rfl rfl (Nat.le_of_ble_eq_true rfl) (by decide) (fun H locs hM28 => ?_)
            replace h := lt_some h
            obtain ⟨N29, eN29, h⟩ := h
            rw [← eN29] at hM28
            have hL79 : ∀ n79 : Nat, ∀ (x1 : Int) (M : Mem), inR x1 → ∀ (H : Heap) (locs : List Loc) (ls : Array Slot), f_X8_advance_L79 n79  x1 M = some M' → HS E z LyC M sM H locs → lv_has ls 2 [(0, .ref (z + 1)), (1, .int (jI x1))] → W p l e ({ frames := 1, cells := 0, slots := 0, locals := 20 } : Room) sM m (([.ref (z + 1)] : List Value).toArray) below meth c H locs 0 0 (MQ below (va_Qv (fun (_ : Unit) => Mok LyC M') (fun _ t => va_P (eD E) vwCl (Wd (eC E) z LyC M') t.heap) (eA E)) (([.ref (z + 1)] : List Value).toArray) sM 0 0 (eA E)) (F0 m 79 ls []) := by
              intro n79
              induction n79 with
              | zero =>
                intro x1 M hx1 H locs ls h hM hl
                exact absurd h (by simp [f_X8_advance_L79])
              | succ n79 ih79 =>
                intro x1 M hx1 H locs ls h hM hl
                rw [f_X8_advance_L79] at h
                refine r_iload_n C dX8_advance_79 rfl hl 1 rfl ?_
                refine r_aload_n C dX8_advance_80 rfl hl 0 rfl ?_
                refine r_getI C hM jc8 1 rfl dX8_advance_81 lk_X8_15 lc_1.1 lc_1.2 rfl rfl (by decide) rfl ?_
                refine r_icmp_ge C 195 hx1 (hM.ok _ _) dX8_advance_84 (by decide) (fun cq => ?_) (fun cq => ?_)
                · replace h := ifp cq h
                  refine r_aload_n C dX8_advance_195 rfl hl 0 rfl ?_
                  refine r_iload_n C dX8_advance_196 rfl hl 1 rfl ?_
                  refine r_putI C hM jc8 4 hx1 dX8_advance_197 lk_X8_25 lc_1.1 lc_1.2 rfl rfl (by decide) rfl rfl rfl (Nat.le_of_ble_eq_true rfl) (by decide) (fun H locs hM30 => ?_)
                  replace h := lt_some h
                  obtain ⟨N31, eN31, h⟩ := h
                  rw [← eN31] at hM30
                  exact r_return C hM30 hr hlk h dX8_advance_200
                · replace h := ifn cq h
                  refine r_aload_n C dX8_advance_87 rfl hl 0 rfl ?_
                  refine r_getR C hM jc8 0 2 dX8_advance_88 lk_X8_9 lc_1.1 lc_1.2 rfl rfl (by decide) rfl ?_
                  refine r_iload_n C dX8_advance_91 rfl hl 1 rfl ?_
                  replace h := ck_some h
                  obtain ⟨hc32, h⟩ := h
                  refine r_bald C hM rfl dX8_advance_92 lc_2.1 lc_2.2 hc32 hx1 ?_
                  replace h := bd_some h
                  obtain ⟨r93, hf93, h⟩ := h
                  refine r_callSI (As := [.int (jI (M 2 x1.toNat))]) (rest := []) C hM (c_X8_isLetter l E z (hM.ok _ _) hf93) jy_X8_isLetter lk_X8_43 dX8_advance_93 rfl rfl hl.1 (Nat.le_of_ble_eq_true rfl) ⟨Nat.le_of_ble_eq_true rfl, Nat.le_of_ble_eq_true rfl⟩ ⟨rfl, rfl⟩ ⟨Nat.zero_le _, Nat.zero_le _⟩ (fun H locs hr93 hM33 => ?_)
                  refine r_if_eq C 195 hr93 dX8_advance_96 (by decide) (fun cq => ?_) (fun cq => ?_)
                  · replace h := ifp cq h
                    refine r_aload_n C dX8_advance_195 rfl hl 0 rfl ?_
                    refine r_iload_n C dX8_advance_196 rfl hl 1 rfl ?_
                    refine r_putI C hM33 jc8 4 hx1 dX8_advance_197 lk_X8_25 lc_1.1 lc_1.2 rfl rfl (by decide) rfl rfl rfl (Nat.le_of_ble_eq_true rfl) (by decide) (fun H locs hM34 => ?_)
                    replace h := lt_some h
                    obtain ⟨N35, eN35, h⟩ := h
                    rw [← eN35] at hM34
                    exact r_return C hM34 hr hlk h dX8_advance_200
                  · replace h := ifn cq h
                    replace h := ck_some h
                    obtain ⟨hc36, h⟩ := h
                    refine r_iinc (j := 1) (x := x1) C [(1, .int (jI (x1 + 1))), (0, .ref (z + 1))] dX8_advance_99 hl rfl (by decide) rfl (fun ls hl => ?_)
                    refine r_goto C 79 dX8_advance_102 (by decide) ?_
                    exact ih79 _ _ hc36 _ _ _ h hM33 (lv_sub hl [1, 0] rfl)
            exact hL79 jFuel _ _ hx1 _ _ _ h hM28 (lv_sub hl [0, 1] rfl)
        · replace h := ifn cq h
          refine r_aload_n C dX8_advance_54 rfl hl 0 rfl ?_
          refine r_iconst C dX8_advance_55 ?_
          refine r_putI C hM1 jc8 2 ⟨by decide, by decide⟩ dX8_advance_56 lk_X8_19 lc_1.1 lc_1.2 rfl rfl (by decide) rfl rfl rfl (Nat.le_of_ble_eq_true rfl) (by decide) (fun H locs hM37 => ?_)
          replace h := lt_some h
          obtain ⟨N38, eN38, h⟩ := h
          rw [← eN38] at hM37
          refine r_goto C 195 dX8_advance_59 (by decide) ?_
          refine r_aload_n C dX8_advance_195 rfl hl 0 rfl ?_
          refine r_iload_n C dX8_advance_196 rfl hl 1 rfl ?_
          refine r_putI C hM37 jc8 4 hx1 dX8_advance_197 lk_X8_25 lc_1.1 lc_1.2 rfl rfl (by decide) rfl rfl rfl (Nat.le_of_ble_eq_true rfl) (by decide) (fun H locs hM39 => ?_)
          replace h := lt_some h
          obtain ⟨N40, eN40, h⟩ := h
          rw [← eN40] at hM39
          exact r_return C hM39 hr hlk h dX8_advance_200
      refine r_icmp_ge C 41 hx1 (hM.ok _ _) dX8_advance_10 (by decide) (fun cq => ?_) (fun cq => ?_)
      · replace h := ifp cq h
        exact hJ41 () _ _ _ h hM (lv_sub hl [0, 1] rfl)
      · replace h := ifn cq h
        refine r_aload_n C dX8_advance_13 rfl hl 0 rfl ?_
        refine r_getR C hM jc8 0 2 dX8_advance_14 lk_X8_9 lc_1.1 lc_1.2 rfl rfl (by decide) rfl ?_
        refine r_iload_n C dX8_advance_17 rfl hl 1 rfl ?_
        replace h := ck_some h
        obtain ⟨hc41, h⟩ := h
        refine r_bald C hM rfl dX8_advance_18 lc_2.1 lc_2.2 hc41 hx1 ?_
        refine r_bipush C dX8_advance_19 rfl ?_
        refine r_icmp_eq C 35 (hM.ok _ _) ⟨by decide, by decide⟩ dX8_advance_21 (by decide) (fun cq => ?_) (fun cq => ?_)
        · replace h := ifp cq h
          replace h := ck_some h
          obtain ⟨hc42, h⟩ := h
          refine r_iinc (j := 1) (x := x1) C [(1, .int (jI (x1 + 1))), (0, .ref (z + 1))] dX8_advance_35 hl rfl (by decide) rfl (fun ls hl => ?_)
          refine r_goto C 5 dX8_advance_38 (by decide) ?_
          exact ih5 _ _ hc42 _ _ _ h hM (lv_sub hl [1, 0] rfl)
        · replace h := ifn cq h
          refine r_aload_n C dX8_advance_24 rfl hl 0 rfl ?_
          refine r_getR C hM jc8 0 2 dX8_advance_25 lk_X8_9 lc_1.1 lc_1.2 rfl rfl (by decide) rfl ?_
          refine r_iload_n C dX8_advance_28 rfl hl 1 rfl ?_
          refine r_bald C hM rfl dX8_advance_29 lc_2.1 lc_2.2 hc41 hx1 ?_
          refine r_bipush C dX8_advance_30 rfl ?_
          refine r_icmp_ne C 41 (hM.ok _ _) ⟨by decide, by decide⟩ dX8_advance_32 (by decide) (fun cq => ?_) (fun cq => ?_)
          · replace h := ifn cq h
            exact hJ41 () _ _ _ h hM (lv_sub hl [0, 1] rfl)
          · replace h := ifp cq h
            replace h := ck_some h
            obtain ⟨hc43, h⟩ := h
            refine r_iinc (j := 1) (x := x1) C [(1, .int (jI (x1 + 1))), (0, .ref (z + 1))] dX8_advance_35 hl rfl (by decide) rfl (fun ls hl => ?_)
            refine r_goto C 5 dX8_advance_38 (by decide) ?_
            exact ih5 _ _ hc43 _ _ _ h hM (lv_sub hl [1, 0] rfl)
  exact hL5 jFuel _ _ (hM0.ok _ _) _ _ _ h hM0 (lv_sub hl [1, 0] rfl)
set_option maxRecDepth 100000 in
set_option maxHeartbeats 4000000 in
theorem c_X8_startReading (l : Launch) (E : jE) (z : Nat) {M M' : Mem} (h : f_X8_startReading M = some M') : CtV l yX8_startReading cX8_startReading 1 none { frames := 2, cells := 0, slots := 0, locals := 41 } E z LyC [.ref (z + 1)] M M' := by
  refine jm (by decide +kernel) (Nat.le_of_ble_eq_true rfl) ?_
  intro p e sM m below meth c C hM0 hr hlk ls hl
  replace hl : lv_has ls 1 [(0, .ref (z + 1))] := hl
  unfold f_X8_startReading at h
  refine r_aload_n C dX8_startReading_0 rfl hl 0 rfl ?_
  refine r_iconst C dX8_startReading_1 ?_
  refine r_putI C hM0 jc8 4 ⟨by decide, by decide⟩ dX8_startReading_2 lk_X8_25 lc_1.1 lc_1.2 rfl rfl (by decide) rfl rfl rfl (Nat.le_of_ble_eq_true rfl) (by decide) (fun H locs hM1 => ?_)
  replace h := lt_some h
  obtain ⟨N2, eN2, h⟩ := h
  rw [← eN2] at hM1
  refine r_aload_n C dX8_startReading_5 rfl hl 0 rfl ?_
  refine r_iconst C dX8_startReading_6 ?_
  refine r_putI C hM1 jc8 7 ⟨by decide, by decide⟩ dX8_startReading_7 lk_X8_34 lc_1.1 lc_1.2 rfl rfl (by decide) rfl rfl rfl (Nat.le_of_ble_eq_true rfl) (by decide) (fun H locs hM3 => ?_)
  replace h := lt_some h
  obtain ⟨N4, eN4, h⟩ := h
  rw [← eN4] at hM3
  refine r_aload_n C dX8_startReading_10 rfl hl 0 rfl ?_
  refine r_iconst C dX8_startReading_11 ?_
  refine r_putI C hM3 jc8 8 ⟨by decide, by decide⟩ dX8_startReading_12 lk_X8_37 lc_1.1 lc_1.2 rfl rfl (by decide) rfl rfl rfl (Nat.le_of_ble_eq_true rfl) (by decide) (fun H locs hM5 => ?_)
  replace h := lt_some h
  obtain ⟨N6, eN6, h⟩ := h
  rw [← eN6] at hM5
  refine r_aload_n C dX8_startReading_15 rfl hl 0 rfl ?_
  replace h := bd_some h
  obtain ⟨M16, hf16, h⟩ := h
  refine r_callV (As := []) (rest := []) C hM5 (c_X8_advance l E z hf16) jy_X8_advance lk_X8_40 dX8_startReading_16 (recvW C hM5 jc8 lc_1.1 lc_1.2 rfl) rfl rfl hl.1 (Nat.le_of_ble_eq_true rfl) ⟨Nat.le_of_ble_eq_true rfl, Nat.le_of_ble_eq_true rfl⟩ ⟨rfl, rfl⟩ ⟨Nat.zero_le _, Nat.zero_le _⟩ (fun H locs hM7 => ?_)
  exact r_return C hM7 hr hlk h dX8_startReading_19
set_option maxRecDepth 100000 in
set_option maxHeartbeats 4000000 in
theorem c_X8_fail (l : Launch) (E : jE) (z : Nat) {x1 : Int} {M M' : Mem} {r : Int} (hx1 : inR x1) (h : f_X8_fail x1 M = some (r, M')) : CtI l yX8_fail cX8_fail 2 (some .boolean) { frames := 0, cells := 0, slots := 0, locals := 0 } E z LyC [.ref (z + 1), .int (jI x1)] M r M' := by
  refine jm (by decide +kernel) (Nat.le_of_ble_eq_true rfl) ?_
  intro p e sM m below meth c C hM0 hr hlk ls hl
  replace hl : lv_has ls 2 [(0, .ref (z + 1)), (1, .int (jI x1))] := hl
  unfold f_X8_fail at h
  refine r_aload_n C dX8_fail_0 rfl hl 0 rfl ?_
  refine r_iload_n C dX8_fail_1 rfl hl 1 rfl ?_
  refine r_putI C hM0 jc8 7 hx1 dX8_fail_2 lk_X8_34 lc_1.1 lc_1.2 rfl rfl (by decide) rfl rfl rfl (Nat.le_of_ble_eq_true rfl) (by decide) (fun H locs hM1 => ?_)
  replace h := lt_some h
  obtain ⟨N2, eN2, h⟩ := h
  rw [← eN2] at hM1
  refine r_aload_n C dX8_fail_5 rfl hl 0 rfl ?_
  refine r_aload_n C dX8_fail_6 rfl hl 0 rfl ?_
  refine r_getI C hM1 jc8 3 (rd_slot eN2 (by decide) rfl) dX8_fail_7 lk_X8_22 lc_1.1 lc_1.2 rfl rfl (by decide) rfl ?_
  refine r_putI C hM1 jc8 8 (hM0.ok _ _) dX8_fail_10 lk_X8_37 lc_1.1 lc_1.2 rfl rfl (by decide) rfl rfl rfl (Nat.le_of_ble_eq_true rfl) (by decide) (fun H locs hM3 => ?_)
  replace h := lt_some h
  obtain ⟨N4, eN4, h⟩ := h
  rw [← eN4] at hM3
  refine r_iconst C dX8_fail_13 ?_
  exact r_zreturnM C hM3 hr hlk (Or.inl rfl) h dX8_fail_14
set_option maxRecDepth 100000 in
set_option maxHeartbeats 4000000 in
theorem c_X8_size (l : Launch) (E : jE) (z : Nat) {M : Mem} {r : Int} (h : f_X8_size M = some r) : CtI l yX8_size cX8_size 1 (some .int) { frames := 0, cells := 0, slots := 0, locals := 0 } E z LyC [.ref (z + 1)] M r M := by
  refine jm (by decide +kernel) (Nat.le_of_ble_eq_true rfl) ?_
  intro p e sM m below meth c C hM0 hr hlk ls hl
  replace hl : lv_has ls 1 [(0, .ref (z + 1))] := hl
  unfold f_X8_size at h
  refine r_aload_n C dX8_size_0 rfl hl 0 rfl ?_
  refine r_getI C hM0 jc8 4 rfl dX8_size_1 lk_X8_25 lc_1.1 lc_1.2 rfl rfl (by decide) rfl ?_
  refine r_aload_n C dX8_size_4 rfl hl 0 rfl ?_
  refine r_getI C hM0 jc8 3 rfl dX8_size_5 lk_X8_22 lc_1.1 lc_1.2 rfl rfl (by decide) rfl ?_
  replace h := ck_some h
  obtain ⟨hc1, h⟩ := h
  refine r_isub C dX8_size_8 ?_
  exact r_ireturn C hM0 hr hlk hc1 h rfl dX8_size_9
set_option maxRecDepth 100000 in
set_option maxHeartbeats 4000000 in
theorem c_X8_isWord (l : Launch) (E : jE) (z : Nat) {w1 : Nat} {M : Mem} {r : Int} (hw1 : w1 < nST) (h : f_X8_isWord w1 M = some r) : CtI l yX8_isWord cX8_isWord 3 (some .boolean) { frames := 6, cells := 0, slots := 0, locals := 300 } E z LyC [.ref (z + 1), .ref (eK E w1)] M r M := by
  refine jm (by decide +kernel) (Nat.le_of_ble_eq_true rfl) ?_
  intro p e sM m below meth c C hM0 hr hlk ls hl
  replace hl : lv_has ls 3 [(0, .ref (z + 1)), (1, .ref (eK E w1))] := hl
  unfold f_X8_isWord at h
  refine r_aload_n C dX8_isWord_0 rfl hl 0 rfl ?_
  refine r_getI C hM0 jc8 2 rfl dX8_isWord_1 lk_X8_19 lc_1.1 lc_1.2 rfl rfl (by decide) rfl ?_
  refine r_iconst C dX8_isWord_4 ?_
  refine r_icmp_ne C 19 (hM0.ok _ _) ⟨by decide, by decide⟩ dX8_isWord_5 (by decide) (fun cq => ?_) (fun cq => ?_)
  · replace h := ifn cq h
    refine r_iconst C dX8_isWord_19 ?_
    exact r_zreturn C hM0 hr hlk (Or.inl rfl) h rfl dX8_isWord_20
  · replace h := ifp cq h
    refine r_aload_n C dX8_isWord_8 rfl hl 0 rfl ?_
    replace h := bd_some h
    obtain ⟨r9, hf9, h⟩ := h
    refine r_callI (As := []) (rest := []) C hM0 (c_X8_size l E z hf9) jy_X8_size lk_X8_61 dX8_isWord_9 (recvW C hM0 jc8 lc_1.1 lc_1.2 rfl) rfl rfl hl.1 (Nat.le_of_ble_eq_true rfl) ⟨Nat.le_of_ble_eq_true rfl, Nat.le_of_ble_eq_true rfl⟩ ⟨rfl, rfl⟩ ⟨Nat.zero_le _, Nat.zero_le _⟩ (fun H locs hr9 hM1 => ?_)
    refine r_aload_n C dX8_isWord_12 rfl hl 1 rfl ?_
    refine r_callI (As := []) (rest := [.int (jI r9)]) C hM1 (c_len l E z hw1) jy_J0_length_8abf5 lk_X8_65 dX8_isWord_13 (recvK C hM1 hw1) rfl rfl hl.1 (Nat.le_of_ble_eq_true rfl) ⟨Nat.le_of_ble_eq_true rfl, Nat.le_of_ble_eq_true rfl⟩ ⟨rfl, rfl⟩ ⟨Nat.zero_le _, Nat.zero_le _⟩ (fun H locs hr13 hM2 => ?_)
    refine r_icmp_eq C 21 hr9 (lenST_R _) dX8_isWord_16 (by decide) (fun cq => ?_) (fun cq => ?_)
    · replace h := ifp cq h
      refine r_iconst C dX8_isWord_21 ?_
      refine r_istore_n C [(2, .int (jI 0)), (0, .ref (z + 1)), (1, .ref (eK E w1))] dX8_isWord_22 rfl hl (by decide) rfl (fun ls hl => ?_)
      have hL23 : ∀ n23 : Nat, ∀ (x2 : Int), inR x2 → ∀ (H : Heap) (locs : List Loc) (ls : Array Slot), f_X8_isWord_L23 w1 M n23  x2 = some r → HS E z LyC M sM H locs → lv_has ls 3 [(0, .ref (z + 1)), (1, .ref (eK E w1)), (2, .int (jI x2))] → W p l e ({ frames := 6, cells := 0, slots := 0, locals := 300 } : Room) sM m (([.ref (z + 1), .ref (eK E w1)] : List Value).toArray) below meth c H locs 0 0 (MQ below (va_Qi (fun (w : Int32) (_ : Unit) => w = jI r ∧ inR r ∧ Mok LyC M) (fun _ t => va_P (eD E) vwCl (Wd (eC E) z LyC M) t.heap) (eA E)) (([.ref (z + 1), .ref (eK E w1)] : List Value).toArray) sM 0 0 (eA E)) (F0 m 23 ls []) := by
        intro n23
        induction n23 with
        | zero =>
          intro x2 hx2 H locs ls h hM hl
          exact absurd h (by simp [f_X8_isWord_L23])
        | succ n23 ih23 =>
          intro x2 hx2 H locs ls h hM hl
          rw [f_X8_isWord_L23] at h
          refine r_iload_n C dX8_isWord_23 rfl hl 2 rfl ?_
          refine r_aload_n C dX8_isWord_24 rfl hl 1 rfl ?_
          refine r_callI (As := []) (rest := [.int (jI x2)]) C hM (c_len l E z hw1) jy_J0_length_8abf5 lk_X8_65 dX8_isWord_25 (recvK C hM hw1) rfl rfl hl.1 (Nat.le_of_ble_eq_true rfl) ⟨Nat.le_of_ble_eq_true rfl, Nat.le_of_ble_eq_true rfl⟩ ⟨rfl, rfl⟩ ⟨Nat.zero_le _, Nat.zero_le _⟩ (fun H locs hr25 hM3 => ?_)
          refine r_icmp_ge C 58 hx2 (lenST_R _) dX8_isWord_28 (by decide) (fun cq => ?_) (fun cq => ?_)
          · replace h := ifp cq h
            refine r_iconst C dX8_isWord_58 ?_
            exact r_zreturn C hM3 hr hlk (Or.inr rfl) h rfl dX8_isWord_59
          · replace h := ifn cq h
            refine r_aload_n C dX8_isWord_31 rfl hl 0 rfl ?_
            refine r_getR C hM3 jc8 0 2 dX8_isWord_32 lk_X8_9 lc_1.1 lc_1.2 rfl rfl (by decide) rfl ?_
            refine r_aload_n C dX8_isWord_35 rfl hl 0 rfl ?_
            refine r_getI C hM3 jc8 3 rfl dX8_isWord_36 lk_X8_22 lc_1.1 lc_1.2 rfl rfl (by decide) rfl ?_
            refine r_iload_n C dX8_isWord_39 rfl hl 2 rfl ?_
            replace h := ck_some h
            obtain ⟨hc4, h⟩ := h
            refine r_iadd C dX8_isWord_40 ?_
            replace h := ck_some h
            obtain ⟨hc5, h⟩ := h
            refine r_bald C hM3 rfl dX8_isWord_41 lc_2.1 lc_2.2 hc5 hc4 ?_
            refine r_aload_n C dX8_isWord_42 rfl hl 1 rfl ?_
            refine r_iload_n C dX8_isWord_43 rfl hl 2 rfl ?_
            replace h := ck_some h
            obtain ⟨hc6, h⟩ := h
            refine r_callI (As := [.int (jI x2)]) (rest := [.int (jI (M 2 ((M 1 3) + x2).toNat))]) C hM3 (c_char l E z hw1 hx2 hc6) jy_J0_charAt_5068e lk_X8_69 dX8_isWord_44 (recvK C hM3 hw1) rfl rfl hl.1 (Nat.le_of_ble_eq_true rfl) ⟨Nat.le_of_ble_eq_true rfl, Nat.le_of_ble_eq_true rfl⟩ ⟨rfl, rfl⟩ ⟨Nat.zero_le _, Nat.zero_le _⟩ (fun H locs hr44 hM7 => ?_)
            refine r_icmp_eq C 52 (hM.ok _ _) (chST_R _ _) dX8_isWord_47 (by decide) (fun cq => ?_) (fun cq => ?_)
            · replace h := ifp cq h
              replace h := ck_some h
              obtain ⟨hc8, h⟩ := h
              refine r_iinc (j := 2) (x := x2) C [(2, .int (jI (x2 + 1))), (0, .ref (z + 1)), (1, .ref (eK E w1))] dX8_isWord_52 hl rfl (by decide) rfl (fun ls hl => ?_)
              refine r_goto C 23 dX8_isWord_55 (by decide) ?_
              exact ih23 _ hc8 _ _ _ h hM7 (lv_sub hl [1, 2, 0] rfl)
            · replace h := ifn cq h
              refine r_iconst C dX8_isWord_50 ?_
              exact r_zreturn C hM7 hr hlk (Or.inl rfl) h rfl dX8_isWord_51
      exact hL23 jFuel _ ⟨by decide, by decide⟩ _ _ _ h hM2 (lv_sub hl [1, 2, 0] rfl)
    · replace h := ifn cq h
      refine r_iconst C dX8_isWord_19 ?_
      exact r_zreturn C hM2 hr hlk (Or.inl rfl) h rfl dX8_isWord_20
set_option maxRecDepth 100000 in
set_option maxHeartbeats 4000000 in
theorem c_X8_take (l : Launch) (E : jE) (z : Nat) {x1 : Int} {M M' : Mem} {r : Int} (hx1 : inR x1) (h : f_X8_take x1 M = some (r, M')) : CtI l yX8_take cX8_take 2 (some .boolean) { frames := 2, cells := 0, slots := 0, locals := 41 } E z LyC [.ref (z + 1), .int (jI x1)] M r M' := by
  refine jm (by decide +kernel) (Nat.le_of_ble_eq_true rfl) ?_
  intro p e sM m below meth c C hM0 hr hlk ls hl
  replace hl : lv_has ls 2 [(0, .ref (z + 1)), (1, .int (jI x1))] := hl
  unfold f_X8_take at h
  refine r_aload_n C dX8_take_0 rfl hl 0 rfl ?_
  refine r_getI C hM0 jc8 2 rfl dX8_take_1 lk_X8_19 lc_1.1 lc_1.2 rfl rfl (by decide) rfl ?_
  refine r_iload_n C dX8_take_4 rfl hl 1 rfl ?_
  refine r_icmp_eq C 14 (hM0.ok _ _) hx1 dX8_take_5 (by decide) (fun cq => ?_) (fun cq => ?_)
  · replace h := ifp cq h
    refine r_aload_n C dX8_take_14 rfl hl 0 rfl ?_
    replace h := bd_some h
    obtain ⟨M15, hf15, h⟩ := h
    refine r_callV (As := []) (rest := []) C hM0 (c_X8_advance l E z hf15) jy_X8_advance lk_X8_40 dX8_take_15 (recvW C hM0 jc8 lc_1.1 lc_1.2 rfl) rfl rfl hl.1 (Nat.le_of_ble_eq_true rfl) ⟨Nat.le_of_ble_eq_true rfl, Nat.le_of_ble_eq_true rfl⟩ ⟨rfl, rfl⟩ ⟨Nat.zero_le _, Nat.zero_le _⟩ (fun H locs hM1 => ?_)
    refine r_iconst C dX8_take_18 ?_
    exact r_zreturnM C hM1 hr hlk (Or.inr rfl) h dX8_take_19
  · replace h := ifn cq h
    refine r_aload_n C dX8_take_8 rfl hl 0 rfl ?_
    refine r_iconst C dX8_take_9 ?_
    replace h := bd_some h
    obtain ⟨⟨r10, M10⟩, hf10, h⟩ := h
    try dsimp only at h
    refine r_callI (As := [.int (jI 1)]) (rest := []) C hM0 (c_X8_fail l E z ⟨by decide, by decide⟩ hf10) jy_X8_fail lk_X8_73 dX8_take_10 (recvW C hM0 jc8 lc_1.1 lc_1.2 rfl) rfl rfl hl.1 (Nat.le_of_ble_eq_true rfl) ⟨Nat.le_of_ble_eq_true rfl, Nat.le_of_ble_eq_true rfl⟩ ⟨rfl, rfl⟩ ⟨Nat.zero_le _, Nat.zero_le _⟩ (fun H locs hr10 hM2 => ?_)
    replace h := ck_some h
    obtain ⟨hc3, h⟩ := h
    exact r_zreturnM C hM2 hr hlk hc3 h dX8_take_13
set_option maxRecDepth 100000 in
set_option maxHeartbeats 4000000 in
theorem c_X8_takeWord (l : Launch) (E : jE) (z : Nat) {w1 : Nat} {M M' : Mem} {r : Int} (hw1 : w1 < nST) (h : f_X8_takeWord w1 M = some (r, M')) : CtI l yX8_takeWord cX8_takeWord 2 (some .boolean) { frames := 7, cells := 0, slots := 0, locals := 322 } E z LyC [.ref (z + 1), .ref (eK E w1)] M r M' := by
  refine jm (by decide +kernel) (Nat.le_of_ble_eq_true rfl) ?_
  intro p e sM m below meth c C hM0 hr hlk ls hl
  replace hl : lv_has ls 2 [(0, .ref (z + 1)), (1, .ref (eK E w1))] := hl
  unfold f_X8_takeWord at h
  refine r_aload_n C dX8_takeWord_0 rfl hl 0 rfl ?_
  refine r_aload_n C dX8_takeWord_1 rfl hl 1 rfl ?_
  replace h := bd_some h
  obtain ⟨r2, hf2, h⟩ := h
  refine r_callI (As := [.ref (eK E w1)]) (rest := []) C hM0 (c_X8_isWord l E z hw1 hf2) jy_X8_isWord lk_X8_76 dX8_takeWord_2 (recvW C hM0 jc8 lc_1.1 lc_1.2 rfl) rfl rfl hl.1 (Nat.le_of_ble_eq_true rfl) ⟨Nat.le_of_ble_eq_true rfl, Nat.le_of_ble_eq_true rfl⟩ ⟨rfl, rfl⟩ ⟨Nat.zero_le _, Nat.zero_le _⟩ (fun H locs hr2 hM1 => ?_)
  refine r_if_ne C 14 hr2 dX8_takeWord_5 (by decide) (fun cq => ?_) (fun cq => ?_)
  · replace h := ifn cq h
    refine r_aload_n C dX8_takeWord_14 rfl hl 0 rfl ?_
    replace h := bd_some h
    obtain ⟨M15, hf15, h⟩ := h
    refine r_callV (As := []) (rest := []) C hM1 (c_X8_advance l E z hf15) jy_X8_advance lk_X8_40 dX8_takeWord_15 (recvW C hM1 jc8 lc_1.1 lc_1.2 rfl) rfl rfl hl.1 (Nat.le_of_ble_eq_true rfl) ⟨Nat.le_of_ble_eq_true rfl, Nat.le_of_ble_eq_true rfl⟩ ⟨rfl, rfl⟩ ⟨Nat.zero_le _, Nat.zero_le _⟩ (fun H locs hM2 => ?_)
    refine r_iconst C dX8_takeWord_18 ?_
    exact r_zreturnM C hM2 hr hlk (Or.inr rfl) h dX8_takeWord_19
  · replace h := ifp cq h
    refine r_aload_n C dX8_takeWord_8 rfl hl 0 rfl ?_
    refine r_iconst C dX8_takeWord_9 ?_
    replace h := bd_some h
    obtain ⟨⟨r10, M10⟩, hf10, h⟩ := h
    try dsimp only at h
    refine r_callI (As := [.int (jI 1)]) (rest := []) C hM1 (c_X8_fail l E z ⟨by decide, by decide⟩ hf10) jy_X8_fail lk_X8_73 dX8_takeWord_10 (recvW C hM1 jc8 lc_1.1 lc_1.2 rfl) rfl rfl hl.1 (Nat.le_of_ble_eq_true rfl) ⟨Nat.le_of_ble_eq_true rfl, Nat.le_of_ble_eq_true rfl⟩ ⟨rfl, rfl⟩ ⟨Nat.zero_le _, Nat.zero_le _⟩ (fun H locs hr10 hM3 => ?_)
    replace h := ck_some h
    obtain ⟨hc4, h⟩ := h
    exact r_zreturnM C hM3 hr hlk hc4 h dX8_takeWord_13
set_option maxRecDepth 100000 in
set_option maxHeartbeats 4000000 in
theorem c_X8_takeNumber (l : Launch) (E : jE) (z : Nat) {x1 : Int} {x2 : Int} {M M' : Mem} {r : Int} (hx1 : inR x1) (hx2 : inR x2) (h : f_X8_takeNumber x1 x2 M = some (r, M')) : CtI l yX8_takeNumber cX8_takeNumber 3 (some .boolean) { frames := 2, cells := 0, slots := 0, locals := 41 } E z LyC [.ref (z + 1), .int (jI x1), .int (jI x2)] M r M' := by
  refine jm (by decide +kernel) (Nat.le_of_ble_eq_true rfl) ?_
  intro p e sM m below meth c C hM0 hr hlk ls hl
  replace hl : lv_has ls 3 [(0, .ref (z + 1)), (1, .int (jI x1)), (2, .int (jI x2))] := hl
  unfold f_X8_takeNumber at h
  refine r_aload_n C dX8_takeNumber_0 rfl hl 0 rfl ?_
  refine r_getI C hM0 jc8 2 rfl dX8_takeNumber_1 lk_X8_19 lc_1.1 lc_1.2 rfl rfl (by decide) rfl ?_
  refine r_iconst C dX8_takeNumber_4 ?_
  refine r_icmp_eq C 14 (hM0.ok _ _) ⟨by decide, by decide⟩ dX8_takeNumber_5 (by decide) (fun cq => ?_) (fun cq => ?_)
  · replace h := ifp cq h
    refine r_aload_n C dX8_takeNumber_14 rfl hl 0 rfl ?_
    refine r_getI C hM0 jc8 5 rfl dX8_takeNumber_15 lk_X8_28 lc_1.1 lc_1.2 rfl rfl (by decide) rfl ?_
    refine r_iload_n C dX8_takeNumber_18 rfl hl 1 rfl ?_
    refine r_icmp_lt C 30 (hM0.ok _ _) hx1 dX8_takeNumber_19 (by decide) (fun cq => ?_) (fun cq => ?_)
    · replace h := ifp cq h
      refine r_aload_n C dX8_takeNumber_30 rfl hl 0 rfl ?_
      refine r_iconst C dX8_takeNumber_31 ?_
      replace h := bd_some h
      obtain ⟨⟨r32, M32⟩, hf32, h⟩ := h
      try dsimp only at h
      refine r_callI (As := [.int (jI 2)]) (rest := []) C hM0 (c_X8_fail l E z ⟨by decide, by decide⟩ hf32) jy_X8_fail lk_X8_73 dX8_takeNumber_32 (recvW C hM0 jc8 lc_1.1 lc_1.2 rfl) rfl rfl hl.1 (Nat.le_of_ble_eq_true rfl) ⟨Nat.le_of_ble_eq_true rfl, Nat.le_of_ble_eq_true rfl⟩ ⟨rfl, rfl⟩ ⟨Nat.zero_le _, Nat.zero_le _⟩ (fun H locs hr32 hM1 => ?_)
      replace h := ck_some h
      obtain ⟨hc2, h⟩ := h
      exact r_zreturnM C hM1 hr hlk hc2 h dX8_takeNumber_35
    · replace h := ifn cq h
      refine r_aload_n C dX8_takeNumber_22 rfl hl 0 rfl ?_
      refine r_getI C hM0 jc8 5 rfl dX8_takeNumber_23 lk_X8_28 lc_1.1 lc_1.2 rfl rfl (by decide) rfl ?_
      refine r_iload_n C dX8_takeNumber_26 rfl hl 2 rfl ?_
      refine r_icmp_le C 36 (hM0.ok _ _) hx2 dX8_takeNumber_27 (by decide) (fun cq => ?_) (fun cq => ?_)
      · replace h := ifp cq h
        refine r_aload_n C dX8_takeNumber_36 rfl hl 0 rfl ?_
        refine r_aload_n C dX8_takeNumber_37 rfl hl 0 rfl ?_
        refine r_getI C hM0 jc8 5 rfl dX8_takeNumber_38 lk_X8_28 lc_1.1 lc_1.2 rfl rfl (by decide) rfl ?_
        refine r_putI C hM0 jc8 6 (hM0.ok _ _) dX8_takeNumber_41 lk_X8_31 lc_1.1 lc_1.2 rfl rfl (by decide) rfl rfl rfl (Nat.le_of_ble_eq_true rfl) (by decide) (fun H locs hM3 => ?_)
        replace h := lt_some h
        obtain ⟨N4, eN4, h⟩ := h
        rw [← eN4] at hM3
        refine r_aload_n C dX8_takeNumber_44 rfl hl 0 rfl ?_
        replace h := bd_some h
        obtain ⟨M45, hf45, h⟩ := h
        refine r_callV (As := []) (rest := []) C hM3 (c_X8_advance l E z hf45) jy_X8_advance lk_X8_40 dX8_takeNumber_45 (recvW C hM3 jc8 lc_1.1 lc_1.2 rfl) rfl rfl hl.1 (Nat.le_of_ble_eq_true rfl) ⟨Nat.le_of_ble_eq_true rfl, Nat.le_of_ble_eq_true rfl⟩ ⟨rfl, rfl⟩ ⟨Nat.zero_le _, Nat.zero_le _⟩ (fun H locs hM5 => ?_)
        refine r_iconst C dX8_takeNumber_48 ?_
        exact r_zreturnM C hM5 hr hlk (Or.inr rfl) h dX8_takeNumber_49
      · replace h := ifn cq h
        refine r_aload_n C dX8_takeNumber_30 rfl hl 0 rfl ?_
        refine r_iconst C dX8_takeNumber_31 ?_
        replace h := bd_some h
        obtain ⟨⟨r32, M32⟩, hf32, h⟩ := h
        try dsimp only at h
        refine r_callI (As := [.int (jI 2)]) (rest := []) C hM0 (c_X8_fail l E z ⟨by decide, by decide⟩ hf32) jy_X8_fail lk_X8_73 dX8_takeNumber_32 (recvW C hM0 jc8 lc_1.1 lc_1.2 rfl) rfl rfl hl.1 (Nat.le_of_ble_eq_true rfl) ⟨Nat.le_of_ble_eq_true rfl, Nat.le_of_ble_eq_true rfl⟩ ⟨rfl, rfl⟩ ⟨Nat.zero_le _, Nat.zero_le _⟩ (fun H locs hr32 hM6 => ?_)
        replace h := ck_some h
        obtain ⟨hc7, h⟩ := h
        exact r_zreturnM C hM6 hr hlk hc7 h dX8_takeNumber_35
  · replace h := ifn cq h
    refine r_aload_n C dX8_takeNumber_8 rfl hl 0 rfl ?_
    refine r_iconst C dX8_takeNumber_9 ?_
    replace h := bd_some h
    obtain ⟨⟨r10, M10⟩, hf10, h⟩ := h
    try dsimp only at h
    refine r_callI (As := [.int (jI 1)]) (rest := []) C hM0 (c_X8_fail l E z ⟨by decide, by decide⟩ hf10) jy_X8_fail lk_X8_73 dX8_takeNumber_10 (recvW C hM0 jc8 lc_1.1 lc_1.2 rfl) rfl rfl hl.1 (Nat.le_of_ble_eq_true rfl) ⟨Nat.le_of_ble_eq_true rfl, Nat.le_of_ble_eq_true rfl⟩ ⟨rfl, rfl⟩ ⟨Nat.zero_le _, Nat.zero_le _⟩ (fun H locs hr10 hM8 => ?_)
    replace h := ck_some h
    obtain ⟨hc9, h⟩ := h
    exact r_zreturnM C hM8 hr hlk hc9 h dX8_takeNumber_13
set_option maxRecDepth 100000 in
set_option maxHeartbeats 4000000 in
theorem c_J6_bitCount_0f7a4 (l : Launch) (E : jE) (z : Nat) {x0 : Int} {M : Mem} {r : Int} (hx0 : inR x0) (h : f_J6_bitCount_0f7a4 x0 M = some r) : CtI l yJ6_bitCount_0f7a4 cJ6_bitCount_0f7a4 1 (some .int) { frames := 0, cells := 0, slots := 0, locals := 0 } E z LyC [.int (jI x0)] M r M := by
  refine jm (by decide +kernel) (Nat.le_of_ble_eq_true rfl) ?_
  intro p e sM m below meth c C hM0 hr hlk ls hl
  replace hl : lv_has ls 1 [(0, .int (jI x0))] := hl
  unfold f_J6_bitCount_0f7a4 at h
  refine r_iload_n C dJ6_bitCount_0f7a4_0 rfl hl 0 rfl ?_
  refine r_iload_n C dJ6_bitCount_0f7a4_1 rfl hl 0 rfl ?_
  refine r_iconst C dJ6_bitCount_0f7a4_2 ?_
  refine r_iushr C dJ6_bitCount_0f7a4_3 ?_
  refine r_ldcw C lk_J6_265 dJ6_bitCount_0f7a4_4 ?_
  refine r_iand C dJ6_bitCount_0f7a4_7 ?_
  replace h := ck_some h
  obtain ⟨hc1, h⟩ := h
  refine r_isub C dJ6_bitCount_0f7a4_8 ?_
  refine r_istore_n C [(0, .int (jI (x0 - (iand (iushr x0 1) 1431655765))))] dJ6_bitCount_0f7a4_9 rfl hl (by decide) rfl (fun ls hl => ?_)
  refine r_iload_n C dJ6_bitCount_0f7a4_10 rfl hl 0 rfl ?_
  refine r_ldcw C lk_J6_266 dJ6_bitCount_0f7a4_11 ?_
  refine r_iand C dJ6_bitCount_0f7a4_14 ?_
  refine r_iload_n C dJ6_bitCount_0f7a4_15 rfl hl 0 rfl ?_
  refine r_iconst C dJ6_bitCount_0f7a4_16 ?_
  refine r_iushr C dJ6_bitCount_0f7a4_17 ?_
  refine r_ldcw C lk_J6_266 dJ6_bitCount_0f7a4_18 ?_
  refine r_iand C dJ6_bitCount_0f7a4_21 ?_
  replace h := ck_some h
  obtain ⟨hc2, h⟩ := h
  refine r_iadd C dJ6_bitCount_0f7a4_22 ?_
  refine r_istore_n C [(0, .int (jI ((iand (x0 - (iand (iushr x0 1) 1431655765)) 858993459) + (iand (iushr (x0 - (iand (iushr x0 1) 1431655765)) 2) 858993459))))] dJ6_bitCount_0f7a4_23 rfl hl (by decide) rfl (fun ls hl => ?_)
  refine r_iload_n C dJ6_bitCount_0f7a4_24 rfl hl 0 rfl ?_
  refine r_iload_n C dJ6_bitCount_0f7a4_25 rfl hl 0 rfl ?_
  refine r_iconst C dJ6_bitCount_0f7a4_26 ?_
  refine r_iushr C dJ6_bitCount_0f7a4_27 ?_
  replace h := ck_some h
  obtain ⟨hc3, h⟩ := h
  refine r_iadd C dJ6_bitCount_0f7a4_28 ?_
  refine r_ldcw C lk_J6_267 dJ6_bitCount_0f7a4_29 ?_
  refine r_iand C dJ6_bitCount_0f7a4_32 ?_
  refine r_istore_n C [(0, .int (jI (iand (((iand (x0 - (iand (iushr x0 1) 1431655765)) 858993459) + (iand (iushr (x0 - (iand (iushr x0 1) 1431655765)) 2) 858993459)) + (iushr ((iand (x0 - (iand (iushr x0 1) 1431655765)) 858993459) + (iand (iushr (x0 - (iand (iushr x0 1) 1431655765)) 2) 858993459)) 4)) 252645135)))] dJ6_bitCount_0f7a4_33 rfl hl (by decide) rfl (fun ls hl => ?_)
  refine r_iload_n C dJ6_bitCount_0f7a4_34 rfl hl 0 rfl ?_
  refine r_iload_n C dJ6_bitCount_0f7a4_35 rfl hl 0 rfl ?_
  refine r_bipush C dJ6_bitCount_0f7a4_36 rfl ?_
  refine r_iushr C dJ6_bitCount_0f7a4_38 ?_
  replace h := ck_some h
  obtain ⟨hc4, h⟩ := h
  refine r_iadd C dJ6_bitCount_0f7a4_39 ?_
  refine r_istore_n C [(0, .int (jI ((iand (((iand (x0 - (iand (iushr x0 1) 1431655765)) 858993459) + (iand (iushr (x0 - (iand (iushr x0 1) 1431655765)) 2) 858993459)) + (iushr ((iand (x0 - (iand (iushr x0 1) 1431655765)) 858993459) + (iand (iushr (x0 - (iand (iushr x0 1) 1431655765)) 2) 858993459)) 4)) 252645135) + (iushr (iand (((iand (x0 - (iand (iushr x0 1) 1431655765)) 858993459) + (iand (iushr (x0 - (iand (iushr x0 1) 1431655765)) 2) 858993459)) + (iushr ((iand (x0 - (iand (iushr x0 1) 1431655765)) 858993459) + (iand (iushr (x0 - (iand (iushr x0 1) 1431655765)) 2) 858993459)) 4)) 252645135) 8))))] dJ6_bitCount_0f7a4_40 rfl hl (by decide) rfl (fun ls hl => ?_)
  refine r_iload_n C dJ6_bitCount_0f7a4_41 rfl hl 0 rfl ?_
  refine r_iload_n C dJ6_bitCount_0f7a4_42 rfl hl 0 rfl ?_
  refine r_bipush C dJ6_bitCount_0f7a4_43 rfl ?_
  refine r_iushr C dJ6_bitCount_0f7a4_45 ?_
  replace h := ck_some h
  obtain ⟨hc5, h⟩ := h
  refine r_iadd C dJ6_bitCount_0f7a4_46 ?_
  refine r_istore_n C [(0, .int (jI (((iand (((iand (x0 - (iand (iushr x0 1) 1431655765)) 858993459) + (iand (iushr (x0 - (iand (iushr x0 1) 1431655765)) 2) 858993459)) + (iushr ((iand (x0 - (iand (iushr x0 1) 1431655765)) 858993459) + (iand (iushr (x0 - (iand (iushr x0 1) 1431655765)) 2) 858993459)) 4)) 252645135) + (iushr (iand (((iand (x0 - (iand (iushr x0 1) 1431655765)) 858993459) + (iand (iushr (x0 - (iand (iushr x0 1) 1431655765)) 2) 858993459)) + (iushr ((iand (x0 - (iand (iushr x0 1) 1431655765)) 858993459) + (iand (iushr (x0 - (iand (iushr x0 1) 1431655765)) 2) 858993459)) 4)) 252645135) 8)) + (iushr ((iand (((iand (x0 - (iand (iushr x0 1) 1431655765)) 858993459) + (iand (iushr (x0 - (iand (iushr x0 1) 1431655765)) 2) 858993459)) + (iushr ((iand (x0 - (iand (iushr x0 1) 1431655765)) 858993459) + (iand (iushr (x0 - (iand (iushr x0 1) 1431655765)) 2) 858993459)) 4)) 252645135) + (iushr (iand (((iand (x0 - (iand (iushr x0 1) 1431655765)) 858993459) + (iand (iushr (x0 - (iand (iushr x0 1) 1431655765)) 2) 858993459)) + (iushr ((iand (x0 - (iand (iushr x0 1) 1431655765)) 858993459) + (iand (iushr (x0 - (iand (iushr x0 1) 1431655765)) 2) 858993459)) 4)) 252645135) 8)) 16))))] dJ6_bitCount_0f7a4_47 rfl hl (by decide) rfl (fun ls hl => ?_)
  refine r_iload_n C dJ6_bitCount_0f7a4_48 rfl hl 0 rfl ?_
  refine r_bipush C dJ6_bitCount_0f7a4_49 rfl ?_
  refine r_iand C dJ6_bitCount_0f7a4_51 ?_
  exact r_ireturn C hM0 hr hlk (iand_R _ _) h rfl dJ6_bitCount_0f7a4_52
