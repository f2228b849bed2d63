set_option maxRecDepth 100000 in
set_option maxHeartbeats 4000000 in
theorem c_X11_thrown (l : Launch) (E : jE) (z : Nat) {M : Mem} {r : Int} (h : f_X11_thrown M = some r) : CtI l yX11_thrown cX11_thrown 1 (some .int) { frames := 0, cells := 0, slots := 0, locals := 0 } E z LyR [.ref (z + 0)] M r M := by
  refine jm (by decide +kernel) (Nat.le_of_ble_eq_true rfl) ?_
  intro p e sM m below meth c C hM0 hr hlk ls hl
  replace hl : lv_has ls 1 [(0, .ref (z + 0))] := hl
  unfold f_X11_thrown at h
  refine r_aload_n C dX11_thrown_0 rfl hl 0 rfl ?_
  refine r_getI C hM0 jc11 7 rfl dX11_thrown_1 lk_X11_105 lr_0.1 lr_0.2 rfl rfl (by decide) rfl ?_
  exact r_ireturn C hM0 hr hlk (hM0.ok _ _) h rfl dX11_thrown_4
set_option maxRecDepth 100000 in
set_option maxHeartbeats 4000000 in
theorem c_X11_isIn (l : Launch) (E : jE) (z : Nat) {x0 : Int} {x1 : Int} {x2 : Int} {M : Mem} {r : Int} (hx0 : inR x0) (hx1 : inR x1) (hx2 : inR x2) (h : f_X11_isIn x0 x1 x2 M = some r) : CtI l yX11_isIn cX11_isIn 3 (some .boolean) { frames := 0, cells := 0, slots := 0, locals := 0 } E z LyR [.int (jI x0), .int (jI x1), .int (jI x2)] M r M := by
  refine jm (by decide +kernel) (Nat.le_of_ble_eq_true rfl) ?_
  intro p e sM m below meth c C hM0 hr hlk ls hl
  replace hl : lv_has ls 3 [(0, .int (jI x0)), (1, .int (jI x1)), (2, .int (jI x2))] := hl
  unfold f_X11_isIn at h
  refine r_iload_n C dX11_isIn_0 rfl hl 0 rfl ?_
  refine r_iload_n C dX11_isIn_1 rfl hl 1 rfl ?_
  refine r_icmp_lt C 14 hx0 hx1 dX11_isIn_2 (by decide) (fun cq => ?_) (fun cq => ?_)
  · replace h := ifp cq h
    refine r_iconst C dX11_isIn_14 ?_
    exact r_zreturn C hM0 hr hlk (Or.inl rfl) h rfl dX11_isIn_15
  · replace h := ifn cq h
    refine r_iload_n C dX11_isIn_5 rfl hl 0 rfl ?_
    refine r_iload_n C dX11_isIn_6 rfl hl 2 rfl ?_
    refine r_icmp_gt C 14 hx0 hx2 dX11_isIn_7 (by decide) (fun cq => ?_) (fun cq => ?_)
    · replace h := ifp cq h
      refine r_iconst C dX11_isIn_14 ?_
      exact r_zreturn C hM0 hr hlk (Or.inl rfl) h rfl dX11_isIn_15
    · replace h := ifn cq h
      refine r_iconst C dX11_isIn_10 ?_
      refine r_goto C 15 dX11_isIn_11 (by decide) ?_
      exact r_zreturn C hM0 hr hlk (Or.inr rfl) h rfl dX11_isIn_15
set_option maxRecDepth 100000 in
set_option maxHeartbeats 4000000 in
theorem c_X11_bit (l : Launch) (E : jE) (z : Nat) {x0 : Int} {M : Mem} {r : Int} (hx0 : inR x0) (h : f_X11_bit x0 M = some r) : CtI l yX11_bit cX11_bit 1 (some .int) { frames := 0, cells := 0, slots := 0, locals := 0 } E z LyR [.int (jI x0)] M r M := by
  refine jm (by decide +kernel) (Nat.le_of_ble_eq_true rfl) ?_
  intro p e sM m below meth c C hM0 hr hlk ls hl
  replace hl : lv_has ls 1 [(0, .int (jI x0))] := hl
  unfold f_X11_bit at h
  refine r_iload_n C dX11_bit_0 rfl hl 0 rfl ?_
  refine r_if_eq C 8 hx0 dX11_bit_1 (by decide) (fun cq => ?_) (fun cq => ?_)
  · replace h := ifp cq h
    refine r_iconst C dX11_bit_8 ?_
    exact r_ireturn C hM0 hr hlk ⟨by decide, by decide⟩ h rfl dX11_bit_9
  · replace h := ifn cq h
    refine r_iconst C dX11_bit_4 ?_
    refine r_goto C 9 dX11_bit_5 (by decide) ?_
    exact r_ireturn C hM0 hr hlk ⟨by decide, by decide⟩ h rfl dX11_bit_9
set_option maxRecDepth 100000 in
set_option maxHeartbeats 4000000 in
theorem c_X11_bits (l : Launch) (E : jE) (z : Nat) {x0 : Int} {M : Mem} {r : Int} (hx0 : inR x0) (h : f_X11_bits x0 M = some r) : CtI l yX11_bits cX11_bits 3 (some .int) { frames := 0, cells := 0, slots := 0, locals := 0 } E z LyR [.int (jI x0)] M r M := by
  refine jm (by decide +kernel) (Nat.le_of_ble_eq_true rfl) ?_
  intro p e sM m below meth c C hM0 hr hlk ls hl
  replace hl : lv_has ls 3 [(0, .int (jI x0))] := hl
  unfold f_X11_bits at h
  refine r_iconst C dX11_bits_0 ?_
  refine r_istore_n C [(1, .int (jI 0)), (0, .int (jI x0))] dX11_bits_1 rfl hl (by decide) rfl (fun ls hl => ?_)
  refine r_iload_n C dX11_bits_2 rfl hl 1 rfl ?_
  refine r_istore_n C [(2, .int (jI x0)), (1, .int (jI 0)), (0, .int (jI x0))] dX11_bits_3 rfl hl (by decide) rfl (fun ls hl => ?_)
  have hL4 : ∀ n4 : Nat, ∀ (x1 : Int) (x2 : Int), inR x1 → inR x2 → ∀ (H : Heap) (locs : List Loc) (ls : Array Slot), f_X11_bits_L4 M n4  x1 x2 = some r → HS E z LyR M sM H locs → lv_has ls 3 [(1, .int (jI x1)), (2, .int (jI x2))] → W p l e ({ frames := 0, cells := 0, slots := 0, locals := 0 } : Room) sM m (([.int (jI x0)] : List Value).toArray) below meth c H locs 0 0 (MQ below (va_Qi (fun (w : Int32) (_ : Unit) => w = jI r ∧ inR r ∧ Mok LyR M) (fun _ t => va_P (eD E) vwCl (Wd (eC E) z LyR M) t.heap) (eA E)) (([.int (jI x0)] : List Value).toArray) sM 0 0 (eA E)) (F0 m 4 ls []) := by
    intro n4
    induction n4 with
    | zero =>
      intro x1 x2 hx1 hx2 H locs ls h hM hl
      exact absurd h (by simp [f_X11_bits_L4])
    | succ n4 ih4 =>
      intro x1 x2 hx1 hx2 H locs ls h hM hl
      rw [f_X11_bits_L4] at h
      refine r_iload_n C dX11_bits_4 rfl hl 1 rfl ?_
      refine r_if_le C 21 hx2 dX11_bits_5 (by decide) (fun cq => ?_) (fun cq => ?_)
      · replace h := ifp cq h
        refine r_iload_n C dX11_bits_21 rfl hl 0 rfl ?_
        exact r_ireturn C hM hr hlk hx1 h rfl dX11_bits_22
      · replace h := ifn cq h
        refine r_iload_n C dX11_bits_8 rfl hl 0 rfl ?_
        refine r_iload_n C dX11_bits_9 rfl hl 1 rfl ?_
        refine r_iconst C dX11_bits_10 ?_
        refine r_iand C dX11_bits_11 ?_
        replace h := ck_some h
        obtain ⟨hc1, h⟩ := h
        refine r_iadd C dX11_bits_12 ?_
        refine r_istore_n C [(1, .int (jI (x1 + (iand x2 1)))), (2, .int (jI x2))] dX11_bits_13 rfl hl (by decide) rfl (fun ls hl => ?_)
        refine r_iload_n C dX11_bits_14 rfl hl 1 rfl ?_
        refine r_iconst C dX11_bits_15 ?_
        refine r_ishr C dX11_bits_16 ?_
        refine r_istore_n C [(2, .int (jI (ishr x2 1))), (1, .int (jI (x1 + (iand x2 1))))] dX11_bits_17 rfl hl (by decide) rfl (fun ls hl => ?_)
        refine r_goto C 4 dX11_bits_18 (by decide) ?_
        exact ih4 _ _ hc1 (ishr_R _ _) _ _ _ h hM (lv_sub hl [1, 0] rfl)
  exact hL4 jFuel _ _ ⟨by decide, by decide⟩ hx0 _ _ _ h hM0 (lv_sub hl [1, 0] rfl)
set_option maxRecDepth 100000 in
set_option maxHeartbeats 4000000 in
theorem c_X11_goes (l : Launch) (E : jE) (z : Nat) {x1 : Int} {M M' : Mem} {r : Int} (hx1 : inR x1) (h : f_X11_goes x1 M = some (r, M')) : CtI l yX11_goes cX11_goes 2 (some .boolean) { frames := 0, cells := 0, slots := 0, locals := 0 } E z LyR [.ref (z + 0), .int (jI x1)] M r M' := by
  refine jm (by decide +kernel) (Nat.le_of_ble_eq_true rfl) ?_
  intro p e sM m below meth c C hM0 hr hlk ls hl
  replace hl : lv_has ls 2 [(0, .ref (z + 0)), (1, .int (jI x1))] := hl
  unfold f_X11_goes at h
  refine r_aload_n C dX11_goes_0 rfl hl 0 rfl ?_
  refine r_iload_n C dX11_goes_1 rfl hl 1 rfl ?_
  refine r_if_eq C 9 hx1 dX11_goes_2 (by decide) (fun cq => ?_) (fun cq => ?_)
  · replace h := ifp cq h
    refine r_iconst C dX11_goes_9 ?_
    refine r_putI C hM0 jc11 7 ⟨by decide, by decide⟩ dX11_goes_10 lk_X11_105 lr_0.1 lr_0.2 rfl rfl (by decide) rfl rfl rfl (Nat.le_of_ble_eq_true rfl) (by decide) (fun H locs hM1 => ?_)
    replace h := lt_some h
    obtain ⟨N2, eN2, h⟩ := h
    rw [← eN2] at hM1
    refine r_iload_n C dX11_goes_13 rfl hl 1 rfl ?_
    replace h := ck_some h
    obtain ⟨hc3, h⟩ := h
    exact r_zreturnM C hM1 hr hlk hc3 h dX11_goes_14
  · replace h := ifn cq h
    refine r_iconst C dX11_goes_5 ?_
    refine r_goto C 10 dX11_goes_6 (by decide) ?_
    refine r_putI C hM0 jc11 7 ⟨by decide, by decide⟩ dX11_goes_10 lk_X11_105 lr_0.1 lr_0.2 rfl rfl (by decide) rfl rfl rfl (Nat.le_of_ble_eq_true rfl) (by decide) (fun H locs hM4 => ?_)
    replace h := lt_some h
    obtain ⟨N5, eN5, h⟩ := h
    rw [← eN5] at hM4
    refine r_iload_n C dX11_goes_13 rfl hl 1 rfl ?_
    replace h := ck_some h
    obtain ⟨hc6, h⟩ := h
    exact r_zreturnM C hM4 hr hlk hc6 h dX11_goes_14
set_option maxRecDepth 100000 in
set_option maxHeartbeats 4000000 in
theorem c_X11_goesBoth (l : Launch) (E : jE) (z : Nat) {x1 : Int} {x2 : Int} {M M' : Mem} {r : Int} (hx1 : inR x1) (hx2 : inR x2) (h : f_X11_goesBoth x1 x2 M = some (r, M')) : CtI l yX11_goesBoth cX11_goesBoth 3 (some .boolean) { frames := 0, cells := 0, slots := 0, locals := 0 } E z LyR [.ref (z + 0), .int (jI x1), .int (jI x2)] M r M' := by
  refine jm (by decide +kernel) (Nat.le_of_ble_eq_true rfl) ?_
  intro p e sM m below meth c C hM0 hr hlk ls hl
  replace hl : lv_has ls 3 [(0, .ref (z + 0)), (1, .int (jI x1)), (2, .int (jI x2))] := hl
  unfold f_X11_goesBoth at h
  refine r_aload_n C dX11_goesBoth_0 rfl hl 0 rfl ?_
  refine r_iload_n C dX11_goesBoth_1 rfl hl 1 rfl ?_
  replace h := jn_some h
  obtain ⟨k18, hk18, h⟩ := h
  have hJ18 : ∀ (v18 : Int), inR v18 → ∀ (H : Heap) (locs : List Loc) (ls : Array Slot), k18 v18 = some (r, M') → HS E z LyR M sM H locs → lv_has ls 3 [(0, .ref (z + 0))] → W p l e ({ frames := 0, cells := 0, slots := 0, locals := 0 } : Room) sM m (([.ref (z + 0), .int (jI x1), .int (jI x2)] : List Value).toArray) below meth c H locs 0 0 (MQ below (va_Qi (fun (w : Int32) (_ : Unit) => w = jI r ∧ inR r ∧ Mok LyR M') (fun _ t => va_P (eD E) vwCl (Wd (eC E) z LyR M') t.heap) (eA E)) (([.ref (z + 0), .int (jI x1), .int (jI x2)] : List Value).toArray) sM 0 0 (eA E)) (F0 m 18 ls [.int (jI v18), .ref (z + 0)]) := by
    intro v18 hv18 H locs ls h hMj18 hl
    subst hk18
    try dsimp only at h
    refine r_putI C hMj18 jc11 7 hv18 dX11_goesBoth_18 lk_X11_105 lr_0.1 lr_0.2 rfl rfl (by decide) rfl rfl rfl (Nat.le_of_ble_eq_true rfl) (by decide) (fun H locs hM1 => ?_)
    replace h := lt_some h
    obtain ⟨N2, eN2, h⟩ := h
    rw [← eN2] at hM1
    refine r_aload_n C dX11_goesBoth_21 rfl hl 0 rfl ?_
    refine r_getI C hM1 jc11 7 (rd_hit eN2) dX11_goesBoth_22 lk_X11_105 lr_0.1 lr_0.2 rfl rfl (by decide) rfl ?_
    refine r_if_ne C 32 hv18 dX11_goesBoth_25 (by decide) (fun cq => ?_) (fun cq => ?_)
    · replace h := ifn cq h
      refine r_iconst C dX11_goesBoth_32 ?_
      exact r_zreturnM C hM1 hr hlk (Or.inl rfl) h dX11_goesBoth_33
    · replace h := ifp cq h
      refine r_iconst C dX11_goesBoth_28 ?_
      refine r_goto C 33 dX11_goesBoth_29 (by decide) ?_
      exact r_zreturnM C hM1 hr hlk (Or.inr rfl) h dX11_goesBoth_33
  refine r_if_ne C 9 hx1 dX11_goesBoth_2 (by decide) (fun cq => ?_) (fun cq => ?_)
  · replace h := ifn cq h
    refine r_iload_n C dX11_goesBoth_9 rfl hl 2 rfl ?_
    refine r_if_ne C 17 hx2 dX11_goesBoth_10 (by decide) (fun cq => ?_) (fun cq => ?_)
    · replace h := ifn cq h
      refine r_iconst C dX11_goesBoth_17 ?_
      exact hJ18 _ ⟨by decide, by decide⟩ _ _ _ h hM0 (lv_sub hl [0] rfl)
    · replace h := ifp cq h
      refine r_iconst C dX11_goesBoth_13 ?_
      refine r_goto C 18 dX11_goesBoth_14 (by decide) ?_
      exact hJ18 _ ⟨by decide, by decide⟩ _ _ _ h hM0 (lv_sub hl [0] rfl)
  · replace h := ifp cq h
    refine r_iconst C dX11_goesBoth_5 ?_
    refine r_goto C 18 dX11_goesBoth_6 (by decide) ?_
    exact hJ18 _ ⟨by decide, by decide⟩ _ _ _ h hM0 (lv_sub hl [0] rfl)
set_option maxRecDepth 100000 in
set_option maxHeartbeats 4000000 in
theorem c_X11_clears (l : Launch) (E : jE) (z : Nat) {M M' : Mem} (h : f_X11_clears M = some M') : CtV l yX11_clears cX11_clears 2 none { frames := 0, cells := 0, slots := 0, locals := 0 } E z LyR [.ref (z + 0)] M M' := by
  refine jm (by decide +kernel) (Nat.le_of_ble_eq_true rfl) ?_
  intro p e sM m below meth c C hM0 hr hlk ls hl
  replace hl : lv_has ls 2 [(0, .ref (z + 0))] := hl
  unfold f_X11_clears at h
  refine r_iconst C dX11_clears_0 ?_
  refine r_istore_n C [(1, .int (jI 0)), (0, .ref (z + 0))] dX11_clears_1 rfl hl (by decide) rfl (fun ls hl => ?_)
  have hL2 : ∀ n2 : Nat, ∀ (x1 : Int) (M : Mem), inR x1 → ∀ (H : Heap) (locs : List Loc) (ls : Array Slot), f_X11_clears_L2 n2  x1 M = some M' → HS E z LyR M sM H locs → lv_has ls 2 [(0, .ref (z + 0)), (1, .int (jI x1))] → W p l e ({ frames := 0, cells := 0, slots := 0, locals := 0 } : Room) sM m (([.ref (z + 0)] : List Value).toArray) below meth c H locs 0 0 (MQ below (va_Qv (fun (_ : Unit) => Mok LyR M') (fun _ t => va_P (eD E) vwCl (Wd (eC E) z LyR M') t.heap) (eA E)) (([.ref (z + 0)] : List Value).toArray) sM 0 0 (eA E)) (F0 m 2 ls []) := by
    intro n2
    induction n2 with
    | zero =>
      intro x1 M hx1 H locs ls h hM hl
      exact absurd h (by simp [f_X11_clears_L2])
    | succ n2 ih2 =>
      intro x1 M hx1 H locs ls h hM hl
      rw [f_X11_clears_L2] at h
      refine r_iload_n C dX11_clears_2 rfl hl 1 rfl ?_
      refine r_sipush C dX11_clears_3 rfl ?_
      refine r_icmp_ge C 22 hx1 ⟨by decide, by decide⟩ dX11_clears_6 (by decide) (fun cq => ?_) (fun cq => ?_)
      · replace h := ifp cq h
        refine r_aload_n C dX11_clears_22 rfl hl 0 rfl ?_
        refine r_getR C hM jc11 0 1 dX11_clears_23 lk_X11_7 lr_0.1 lr_0.2 rfl rfl (by decide) rfl ?_
        refine r_iconst C dX11_clears_26 ?_
        refine r_iconst C dX11_clears_27 ?_
        refine r_iast C hM dX11_clears_28 lr_1.1 lr_1.2 (show (0 : Int) ≤ 1 ∧ (1 : Int) < 1062 by decide) ⟨by decide, by decide⟩ ⟨by decide, by decide⟩ (fun H locs hM1 => ?_)
        replace h := lt_some h
        obtain ⟨N2, eN2, h⟩ := h
        rw [← eN2] at hM1
        refine r_aload_n C dX11_clears_29 rfl hl 0 rfl ?_
        refine r_getR C hM1 jc11 0 1 dX11_clears_30 lk_X11_7 lr_0.1 lr_0.2 rfl rfl (by decide) rfl ?_
        refine r_iconst C dX11_clears_33 ?_
        refine r_bipush C dX11_clears_34 rfl ?_
        refine r_iast C hM1 dX11_clears_36 lr_1.1 lr_1.2 (show (0 : Int) ≤ 2 ∧ (2 : Int) < 1062 by decide) ⟨by decide, by decide⟩ ⟨by decide, by decide⟩ (fun H locs hM3 => ?_)
        replace h := lt_some h
        obtain ⟨N4, eN4, h⟩ := h
        rw [← eN4] at hM3
        refine r_aload_n C dX11_clears_37 rfl hl 0 rfl ?_
        refine r_getR C hM3 jc11 0 1 dX11_clears_38 lk_X11_7 lr_0.1 lr_0.2 rfl rfl (by decide) rfl ?_
        refine r_iconst C dX11_clears_41 ?_
        refine r_bipush C dX11_clears_42 rfl ?_
        refine r_iast C hM3 dX11_clears_44 lr_1.1 lr_1.2 (show (0 : Int) ≤ 3 ∧ (3 : Int) < 1062 by decide) ⟨by decide, by decide⟩ ⟨by decide, by decide⟩ (fun H locs hM5 => ?_)
        replace h := lt_some h
        obtain ⟨N6, eN6, h⟩ := h
        rw [← eN6] at hM5
        exact r_return C hM5 hr hlk h dX11_clears_45
      · replace h := ifn cq h
        refine r_aload_n C dX11_clears_9 rfl hl 0 rfl ?_
        refine r_getR C hM jc11 0 1 dX11_clears_10 lk_X11_7 lr_0.1 lr_0.2 rfl rfl (by decide) rfl ?_
        refine r_iload_n C dX11_clears_13 rfl hl 1 rfl ?_
        refine r_iconst C dX11_clears_14 ?_
        replace h := ck_some h
        obtain ⟨hc7, h⟩ := h
        refine r_iast C hM dX11_clears_15 lr_1.1 lr_1.2 hc7 hx1 ⟨by decide, by decide⟩ (fun H locs hM8 => ?_)
        replace h := lt_some h
        obtain ⟨N9, eN9, h⟩ := h
        rw [← eN9] at hM8
        replace h := ck_some h
        obtain ⟨hc10, h⟩ := h
        refine r_iinc (j := 1) (x := x1) C [(1, .int (jI (x1 + 1))), (0, .ref (z + 0))] dX11_clears_16 hl rfl (by decide) rfl (fun ls hl => ?_)
        refine r_goto C 2 dX11_clears_19 (by decide) ?_
        exact ih2 _ _ hc10 _ _ _ h hM8 (lv_sub hl [1, 0] rfl)
  exact hL2 jFuel _ _ ⟨by decide, by decide⟩ _ _ _ h hM0 (lv_sub hl [1, 0] rfl)
set_option maxRecDepth 100000 in
set_option maxHeartbeats 4000000 in
theorem c_X11_copies (l : Launch) (E : jE) (z : Nat) {b0 nb0 : Nat} {x1 : Int} {b2 nb2 : Nat} {x3 : Int} {M M' : Mem} (hb0 : b0 < LyR.1 ∧ LyR.2 b0 = (20, nb0)) (hx1 : inR x1) (hb2 : b2 < LyR.1 ∧ LyR.2 b2 = (20, nb2)) (hx3 : inR x3) (h : f_X11_copies b0 nb0 x1 b2 nb2 x3 M = some M') : CtV l yX11_copies cX11_copies 5 none { frames := 0, cells := 0, slots := 0, locals := 0 } E z LyR [.ref (z + b0), .int (jI x1), .ref (z + b2), .int (jI x3)] M M' := by
  refine jm (by decide +kernel) (Nat.le_of_ble_eq_true rfl) ?_
  intro p e sM m below meth c C hM0 hr hlk ls hl
  replace hl : lv_has ls 5 [(0, .ref (z + b0)), (1, .int (jI x1)), (2, .ref (z + b2)), (3, .int (jI x3))] := hl
  unfold f_X11_copies at h
  refine r_iconst C dX11_copies_0 ?_
  refine r_istore C [(4, .int (jI 0)), (0, .ref (z + b0)), (1, .int (jI x1)), (2, .ref (z + b2)), (3, .int (jI x3))] dX11_copies_1 hl (by decide) rfl (fun ls hl => ?_)
  have hL3 : ∀ n3 : Nat, ∀ (x4 : Int) (M : Mem), inR x4 → ∀ (H : Heap) (locs : List Loc) (ls : Array Slot), f_X11_copies_L3 b0 nb0 b2 nb2 x1 x3 n3  x4 M = some M' → HS E z LyR M sM H locs → lv_has ls 5 [(0, .ref (z + b0)), (1, .int (jI x1)), (2, .ref (z + b2)), (3, .int (jI x3)), (4, .int (jI x4))] → W p l e ({ frames := 0, cells := 0, slots := 0, locals := 0 } : Room) sM m (([.ref (z + b0), .int (jI x1), .ref (z + b2), .int (jI x3)] : List Value).toArray) below meth c H locs 0 0 (MQ below (va_Qv (fun (_ : Unit) => Mok LyR M') (fun _ t => va_P (eD E) vwCl (Wd (eC E) z LyR M') t.heap) (eA E)) (([.ref (z + b0), .int (jI x1), .ref (z + b2), .int (jI x3)] : List Value).toArray) sM 0 0 (eA E)) (F0 m 3 ls []) := by
    intro n3
    induction n3 with
    | zero =>
      intro x4 M hx4 H locs ls h hM hl
      exact absurd h (by simp [f_X11_copies_L3])
    | succ n3 ih3 =>
      intro x4 M hx4 H locs ls h hM hl
      rw [f_X11_copies_L3] at h
      refine r_iload C dX11_copies_3 hl 4 rfl ?_
      refine r_sipush C dX11_copies_5 rfl ?_
      refine r_icmp_ge C 29 hx4 ⟨by decide, by decide⟩ dX11_copies_8 (by decide) (fun cq => ?_) (fun cq => ?_)
      · replace h := ifp cq h
        exact r_return C hM hr hlk h dX11_copies_29
      · replace h := ifn cq h
        refine r_aload_n C dX11_copies_11 rfl hl 2 rfl ?_
        refine r_iload_n C dX11_copies_12 rfl hl 3 rfl ?_
        refine r_iload C dX11_copies_13 hl 4 rfl ?_
        replace h := ck_some h
        obtain ⟨hc1, h⟩ := h
        refine r_iadd C dX11_copies_15 ?_
        refine r_aload_n C dX11_copies_16 rfl hl 0 rfl ?_
        refine r_iload_n C dX11_copies_17 rfl hl 1 rfl ?_
        refine r_iload C dX11_copies_18 hl 4 rfl ?_
        replace h := ck_some h
        obtain ⟨hc2, h⟩ := h
        refine r_iadd C dX11_copies_20 ?_
        replace h := ck_some h
        obtain ⟨hc3, h⟩ := h
        refine r_iald C hM rfl dX11_copies_21 hb0.1 hb0.2 hc3 hc2 ?_
        replace h := ck_some h
        obtain ⟨hc4, h⟩ := h
        refine r_iast C hM dX11_copies_22 hb2.1 hb2.2 hc4 hc1 (hM.ok _ _) (fun H locs hM5 => ?_)
        replace h := lt_some h
        obtain ⟨N6, eN6, h⟩ := h
        rw [← eN6] at hM5
        replace h := ck_some h
        obtain ⟨hc7, h⟩ := h
        refine r_iinc (j := 4) (x := x4) C [(4, .int (jI (x4 + 1))), (0, .ref (z + b0)), (1, .int (jI x1)), (2, .ref (z + b2)), (3, .int (jI x3))] dX11_copies_23 hl rfl (by decide) rfl (fun ls hl => ?_)
        refine r_goto C 3 dX11_copies_26 (by decide) ?_
        exact ih3 _ _ hc7 _ _ _ h hM5 (lv_sub hl [1, 2, 3, 4, 0] rfl)
  exact hL3 jFuel _ _ ⟨by decide, by decide⟩ _ _ _ h hM0 (lv_sub hl [1, 2, 3, 4, 0] rfl)
set_option maxRecDepth 100000 in
set_option maxHeartbeats 4000000 in
theorem c_X11_cameraOf (l : Launch) (E : jE) (z : Nat) {x1 : Int} {M : Mem} {r : Int} (hx1 : inR x1) (h : f_X11_cameraOf x1 M = some r) : CtI l yX11_cameraOf cX11_cameraOf 2 (some .int) { frames := 0, cells := 0, slots := 0, locals := 0 } E z LyR [.ref (z + 0), .int (jI x1)] M r M := by
  refine jm (by decide +kernel) (Nat.le_of_ble_eq_true rfl) ?_
  intro p e sM m below meth c C hM0 hr hlk ls hl
  replace hl : lv_has ls 2 [(0, .ref (z + 0)), (1, .int (jI x1))] := hl
  unfold f_X11_cameraOf at h
  refine r_aload_n C dX11_cameraOf_0 rfl hl 0 rfl ?_
  refine r_getR C hM0 jc11 0 1 dX11_cameraOf_1 lk_X11_7 lr_0.1 lr_0.2 rfl rfl (by decide) rfl ?_
  refine r_bipush C dX11_cameraOf_4 rfl ?_
  refine r_iconst C dX11_cameraOf_6 ?_
  refine r_iload_n C dX11_cameraOf_7 rfl hl 1 rfl ?_
  replace h := ck_some h
  obtain ⟨hc1, h⟩ := h
  refine r_imul C dX11_cameraOf_8 ?_
  replace h := ck_some h
  obtain ⟨hc2, h⟩ := h
  refine r_iadd C dX11_cameraOf_9 ?_
  replace h := ck_some h
  obtain ⟨hc3, h⟩ := h
  refine r_iald C hM0 rfl dX11_cameraOf_10 lr_1.1 lr_1.2 hc3 hc2 ?_
  exact r_ireturn C hM0 hr hlk (hM0.ok _ _) h rfl dX11_cameraOf_11
set_option maxRecDepth 100000 in
set_option maxHeartbeats 4000000 in
theorem c_X11_lengthOf (l : Launch) (E : jE) (z : Nat) {x1 : Int} {M : Mem} {r : Int} (hx1 : inR x1) (h : f_X11_lengthOf x1 M = some r) : CtI l yX11_lengthOf cX11_lengthOf 2 (some .int) { frames := 0, cells := 0, slots := 0, locals := 0 } E z LyR [.ref (z + 0), .int (jI x1)] M r M := by
  refine jm (by decide +kernel) (Nat.le_of_ble_eq_true rfl) ?_
  intro p e sM m below meth c C hM0 hr hlk ls hl
  replace hl : lv_has ls 2 [(0, .ref (z + 0)), (1, .int (jI x1))] := hl
  unfold f_X11_lengthOf at h
  refine r_aload_n C dX11_lengthOf_0 rfl hl 0 rfl ?_
  refine r_getR C hM0 jc11 0 1 dX11_lengthOf_1 lk_X11_7 lr_0.1 lr_0.2 rfl rfl (by decide) rfl ?_
  refine r_bipush C dX11_lengthOf_4 rfl ?_
  refine r_iconst C dX11_lengthOf_6 ?_
  refine r_iload_n C dX11_lengthOf_7 rfl hl 1 rfl ?_
  replace h := ck_some h
  obtain ⟨hc1, h⟩ := h
  refine r_imul C dX11_lengthOf_8 ?_
  replace h := ck_some h
  obtain ⟨hc2, h⟩ := h
  refine r_iadd C dX11_lengthOf_9 ?_
  refine r_iconst C dX11_lengthOf_10 ?_
  replace h := ck_some h
  obtain ⟨hc3, h⟩ := h
  refine r_iadd C dX11_lengthOf_11 ?_
  replace h := ck_some h
  obtain ⟨hc4, h⟩ := h
  refine r_iald C hM0 rfl dX11_lengthOf_12 lr_1.1 lr_1.2 hc4 hc3 ?_
  exact r_ireturn C hM0 hr hlk (hM0.ok _ _) h rfl dX11_lengthOf_13
set_option maxRecDepth 100000 in
set_option maxHeartbeats 4000000 in
theorem c_X11_isBannedIn (l : Launch) (E : jE) (z : Nat) {x1 : Int} {x2 : Int} {M : Mem} {r : Int} (hx1 : inR x1) (hx2 : inR x2) (h : f_X11_isBannedIn x1 x2 M = some r) : CtI l yX11_isBannedIn cX11_isBannedIn 6 (some .boolean) { frames := 1, cells := 0, slots := 0, locals := 22 } E z LyR [.ref (z + 0), .int (jI x1), .int (jI x2)] M r M := by
  refine jm (by decide +kernel) (Nat.le_of_ble_eq_true rfl) ?_
  intro p e sM m below meth c C hM0 hr hlk ls hl
  replace hl : lv_has ls 6 [(0, .ref (z + 0)), (1, .int (jI x1)), (2, .int (jI x2))] := hl
  unfold f_X11_isBannedIn at h
  refine r_iconst C dX11_isBannedIn_0 ?_
  refine r_istore_n C [(3, .int (jI 0)), (0, .ref (z + 0)), (1, .int (jI x1)), (2, .int (jI x2))] dX11_isBannedIn_1 rfl hl (by decide) rfl (fun ls hl => ?_)
  refine r_iconst C dX11_isBannedIn_2 ?_
  refine r_istore C [(4, .int (jI 0)), (3, .int (jI 0)), (0, .ref (z + 0)), (1, .int (jI x1)), (2, .int (jI x2))] dX11_isBannedIn_3 hl (by decide) rfl (fun ls hl => ?_)
  have hL5 : ∀ n5 : Nat, ∀ (x3 : Int) (x4 : Int), inR x3 → inR x4 → ∀ (H : Heap) (locs : List Loc) (ls : Array Slot), f_X11_isBannedIn_L5 x1 x2 M n5  x3 x4 = some r → HS E z LyR M sM H locs → lv_has ls 6 [(0, .ref (z + 0)), (1, .int (jI x1)), (2, .int (jI x2)), (3, .int (jI x3)), (4, .int (jI x4))] → W p l e ({ frames := 1, cells := 0, slots := 0, locals := 22 } : Room) sM m (([.ref (z + 0), .int (jI x1), .int (jI x2)] : List Value).toArray) below meth c H locs 0 0 (MQ below (va_Qi (fun (w : Int32) (_ : Unit) => w = jI r ∧ inR r ∧ Mok LyR M) (fun _ t => va_P (eD E) vwCl (Wd (eC E) z LyR M) t.heap) (eA E)) (([.ref (z + 0), .int (jI x1), .int (jI x2)] : List Value).toArray) sM 0 0 (eA E)) (F0 m 5 ls []) := by
    intro n5
    induction n5 with
    | zero =>
      intro x3 x4 hx3 hx4 H locs ls h hM hl
      exact absurd h (by simp [f_X11_isBannedIn_L5])
    | succ n5 ih5 =>
      intro x3 x4 hx3 hx4 H locs ls h hM hl
      rw [f_X11_isBannedIn_L5] at h
      refine r_iload C dX11_isBannedIn_5 hl 4 rfl ?_
      refine r_aload_n C dX11_isBannedIn_7 rfl hl 0 rfl ?_
      refine r_getR C hM jc11 0 1 dX11_isBannedIn_8 lk_X11_7 lr_0.1 lr_0.2 rfl rfl (by decide) rfl ?_
      refine r_bipush C dX11_isBannedIn_11 rfl ?_
      refine r_iald C hM rfl dX11_isBannedIn_13 lr_1.1 lr_1.2 (show (0 : Int) ≤ 7 ∧ (7 : Int) < 1062 by decide) ⟨by decide, by decide⟩ ?_
      refine r_icmp_ge C 80 hx4 (hM.ok _ _) dX11_isBannedIn_14 (by decide) (fun cq => ?_) (fun cq => ?_)
      · replace h := ifp cq h
        refine r_iload_n C dX11_isBannedIn_80 rfl hl 3 rfl ?_
        replace h := ck_some h
        obtain ⟨hc1, h⟩ := h
        exact r_zreturn C hM hr hlk hc1 h rfl dX11_isBannedIn_81
      · replace h := ifn cq h
        refine r_bipush C dX11_isBannedIn_17 rfl ?_
        refine r_iconst C dX11_isBannedIn_19 ?_
        refine r_iload C dX11_isBannedIn_20 hl 4 rfl ?_
        replace h := ck_some h
        obtain ⟨hc2, h⟩ := h
        refine r_imul C dX11_isBannedIn_22 ?_
        replace h := ck_some h
        obtain ⟨hc3, h⟩ := h
        refine r_iadd C dX11_isBannedIn_23 ?_
        refine r_istore C [(5, .int (jI (96 + (3 * x4)))), (0, .ref (z + 0)), (1, .int (jI x1)), (2, .int (jI x2)), (3, .int (jI x3)), (4, .int (jI x4))] dX11_isBannedIn_24 hl (by decide) rfl (fun ls hl => ?_)
        refine r_iload_n C dX11_isBannedIn_26 rfl hl 4 rfl ?_
        refine r_aload_n C dX11_isBannedIn_27 rfl hl 1 rfl ?_
        refine r_getR C hM jc11 0 1 dX11_isBannedIn_28 lk_X11_7 lr_0.1 lr_0.2 rfl rfl (by decide) rfl ?_
        refine r_iload C dX11_isBannedIn_31 hl 0 rfl ?_
        replace h := ck_some h
        obtain ⟨hc4, h⟩ := h
        refine r_iald C hM rfl dX11_isBannedIn_33 lr_1.1 lr_1.2 hc4 hc3 ?_
        refine r_aload_n C dX11_isBannedIn_34 rfl hl 1 rfl ?_
        refine r_iload_n C dX11_isBannedIn_35 rfl hl 2 rfl ?_
        replace h := bd_some h
        obtain ⟨r36, hf36, h⟩ := h
        refine r_callI (As := [.int (jI x1)]) (rest := [.int (jI (M 1 (96 + (3 * x4)).toNat)), .int (jI x3)]) C hM (c_X11_cameraOf l E z hx1 hf36) jy_X11_cameraOf lk_X11_108 dX11_isBannedIn_36 (recvW C hM jc11 lr_0.1 lr_0.2 rfl) rfl rfl hl.1 (Nat.le_of_ble_eq_true rfl) ⟨Nat.le_of_ble_eq_true rfl, Nat.le_of_ble_eq_true rfl⟩ ⟨rfl, rfl⟩ ⟨Nat.zero_le _, Nat.zero_le _⟩ (fun H locs hr36 hM5 => ?_)
        refine r_icmp_ne C 71 (hM.ok _ _) hr36 dX11_isBannedIn_39 (by decide) (fun cq => ?_) (fun cq => ?_)
        · replace h := ifn cq h
          refine r_iconst C dX11_isBannedIn_71 ?_
          refine r_ior C dX11_isBannedIn_72 ?_
          refine r_istore_n C [(3, .int (jI (ior x3 0))), (5, .int (jI (96 + (3 * x4)))), (0, .ref (z + 0)), (1, .int (jI x1)), (2, .int (jI x2)), (4, .int (jI x4))] dX11_isBannedIn_73 rfl hl (by decide) rfl (fun ls hl => ?_)
          replace h := ck_some h
          obtain ⟨hc6, h⟩ := h
          refine r_iinc (j := 5) (x := x4) C [(4, .int (jI (x4 + 1))), (3, .int (jI (ior x3 0))), (5, .int (jI (96 + (3 * x4)))), (0, .ref (z + 0)), (1, .int (jI x1)), (2, .int (jI x2))] dX11_isBannedIn_74 hl rfl (by decide) rfl (fun ls hl => ?_)
          refine r_goto C 5 dX11_isBannedIn_77 (by decide) ?_
          exact ih5 _ _ (ior_R _ _) hc6 _ _ _ h hM5 (lv_sub hl [3, 4, 5, 1, 0] rfl)
        · replace h := ifp cq h
          refine r_iload_n C dX11_isBannedIn_42 rfl hl 3 rfl ?_
          refine r_aload_n C dX11_isBannedIn_43 rfl hl 1 rfl ?_
          refine r_getR C hM5 jc11 0 1 dX11_isBannedIn_44 lk_X11_7 lr_0.1 lr_0.2 rfl rfl (by decide) rfl ?_
          refine r_iload C dX11_isBannedIn_47 hl 0 rfl ?_
          refine r_iconst C dX11_isBannedIn_49 ?_
          replace h := ck_some h
          obtain ⟨hc7, h⟩ := h
          refine r_iadd C dX11_isBannedIn_50 ?_
          replace h := ck_some h
          obtain ⟨hc8, h⟩ := h
          refine r_iald C hM5 rfl dX11_isBannedIn_51 lr_1.1 lr_1.2 hc8 hc7 ?_
          refine r_aload_n C dX11_isBannedIn_52 rfl hl 1 rfl ?_
          refine r_getR C hM5 jc11 0 1 dX11_isBannedIn_53 lk_X11_7 lr_0.1 lr_0.2 rfl rfl (by decide) rfl ?_
          refine r_iload C dX11_isBannedIn_56 hl 0 rfl ?_
          refine r_iconst C dX11_isBannedIn_58 ?_
          replace h := ck_some h
          obtain ⟨hc9, h⟩ := h
          refine r_iadd C dX11_isBannedIn_59 ?_
          replace h := ck_some h
          obtain ⟨hc10, h⟩ := h
          refine r_iald C hM5 rfl dX11_isBannedIn_60 lr_1.1 lr_1.2 hc10 hc9 ?_
          replace h := bd_some h
          obtain ⟨r61, hf61, h⟩ := h
          refine r_callSI (As := [.int (jI x2), .int (jI (M 1 ((96 + (3 * x4)) + 1).toNat)), .int (jI (M 1 ((96 + (3 * x4)) + 2).toNat))]) (rest := [.int (jI x3)]) C hM5 (c_X11_isIn l E z hx2 (hM.ok _ _) (hM.ok _ _) hf61) jy_X11_isIn lk_X11_112 dX11_isBannedIn_61 rfl rfl hl.1 (Nat.le_of_ble_eq_true rfl) ⟨Nat.le_of_ble_eq_true rfl, Nat.le_of_ble_eq_true rfl⟩ ⟨rfl, rfl⟩ ⟨Nat.zero_le _, Nat.zero_le _⟩ (fun H locs hr61 hM11 => ?_)
          refine r_if_eq C 71 hr61 dX11_isBannedIn_64 (by decide) (fun cq => ?_) (fun cq => ?_)
          · replace h := ifp cq h
            refine r_iconst C dX11_isBannedIn_71 ?_
            refine r_ior C dX11_isBannedIn_72 ?_
            refine r_istore_n C [(3, .int (jI (ior x3 0))), (5, .int (jI (96 + (3 * x4)))), (0, .ref (z + 0)), (1, .int (jI x1)), (2, .int (jI x2)), (4, .int (jI x4))] dX11_isBannedIn_73 rfl hl (by decide) rfl (fun ls hl => ?_)
            replace h := ck_some h
            obtain ⟨hc12, h⟩ := h
            refine r_iinc (j := 5) (x := x4) C [(4, .int (jI (x4 + 1))), (3, .int (jI (ior x3 0))), (5, .int (jI (96 + (3 * x4)))), (0, .ref (z + 0)), (1, .int (jI x1)), (2, .int (jI x2))] dX11_isBannedIn_74 hl rfl (by decide) rfl (fun ls hl => ?_)
            refine r_goto C 5 dX11_isBannedIn_77 (by decide) ?_
            exact ih5 _ _ (ior_R _ _) hc12 _ _ _ h hM11 (lv_sub hl [3, 4, 5, 1, 0] rfl)
          · replace h := ifn cq h
            refine r_iconst C dX11_isBannedIn_67 ?_
            refine r_goto C 72 dX11_isBannedIn_68 (by decide) ?_
            refine r_ior C dX11_isBannedIn_72 ?_
            refine r_istore_n C [(3, .int (jI (ior x3 1))), (5, .int (jI (96 + (3 * x4)))), (0, .ref (z + 0)), (1, .int (jI x1)), (2, .int (jI x2)), (4, .int (jI x4))] dX11_isBannedIn_73 rfl hl (by decide) rfl (fun ls hl => ?_)
            replace h := ck_some h
            obtain ⟨hc13, h⟩ := h
            refine r_iinc (j := 5) (x := x4) C [(4, .int (jI (x4 + 1))), (3, .int (jI (ior x3 1))), (5, .int (jI (96 + (3 * x4)))), (0, .ref (z + 0)), (1, .int (jI x1)), (2, .int (jI x2))] dX11_isBannedIn_74 hl rfl (by decide) rfl (fun ls hl => ?_)
            refine r_goto C 5 dX11_isBannedIn_77 (by decide) ?_
            exact ih5 _ _ (ior_R _ _) hc13 _ _ _ h hM11 (lv_sub hl [3, 4, 5, 1, 0] rfl)
  exact hL5 jFuel _ _ ⟨by decide, by decide⟩ ⟨by decide, by decide⟩ _ _ _ h hM0 (lv_sub hl [2, 3, 4, 1, 0] rfl)
set_option maxRecDepth 100000 in
set_option maxHeartbeats 4000000 in
theorem c_X11_isBanned (l : Launch) (E : jE) (z : Nat) {x1 : Int} {M : Mem} {r : Int} (hx1 : inR x1) (h : f_X11_isBanned x1 M = some r) : CtI l yX11_isBanned cX11_isBanned 2 (some .boolean) { frames := 2, cells := 0, slots := 0, locals := 47 } E z LyR [.ref (z + 0), .int (jI x1)] M r M := by
  refine jm (by decide +kernel) (Nat.le_of_ble_eq_true rfl) ?_
  intro p e sM m below meth c C hM0 hr hlk ls hl
  replace hl : lv_has ls 2 [(0, .ref (z + 0)), (1, .int (jI x1))] := hl
  unfold f_X11_isBanned at h
  refine r_aload_n C dX11_isBanned_0 rfl hl 0 rfl ?_
  refine r_iload_n C dX11_isBanned_1 rfl hl 1 rfl ?_
  refine r_aload_n C dX11_isBanned_2 rfl hl 0 rfl ?_
  refine r_getR C hM0 jc11 0 1 dX11_isBanned_3 lk_X11_7 lr_0.1 lr_0.2 rfl rfl (by decide) rfl ?_
  refine r_iconst C dX11_isBanned_6 ?_
  refine r_iald C hM0 rfl dX11_isBanned_7 lr_1.1 lr_1.2 (show (0 : Int) ≤ 0 ∧ (0 : Int) < 1062 by decide) ⟨by decide, by decide⟩ ?_
  replace h := bd_some h
  obtain ⟨r8, hf8, h⟩ := h
  refine r_callI (As := [.int (jI x1), .int (jI (M 1 (0 : Int).toNat))]) (rest := []) C hM0 (c_X11_isBannedIn l E z hx1 (hM0.ok _ _) hf8) jy_X11_isBannedIn lk_X11_116 dX11_isBanned_8 (recvW C hM0 jc11 lr_0.1 lr_0.2 rfl) rfl rfl hl.1 (Nat.le_of_ble_eq_true rfl) ⟨Nat.le_of_ble_eq_true rfl, Nat.le_of_ble_eq_true rfl⟩ ⟨rfl, rfl⟩ ⟨Nat.zero_le _, Nat.zero_le _⟩ (fun H locs hr8 hM1 => ?_)
  replace h := ck_some h
  obtain ⟨hc2, h⟩ := h
  exact r_zreturn C hM1 hr hlk hc2 h rfl dX11_isBanned_11
set_option maxRecDepth 100000 in
set_option maxHeartbeats 4000000 in
theorem c_X11_r (l : Launch) (E : jE) (z : Nat) {x1 : Int} {x2 : Int} {M : Mem} {r : Int} (hx1 : inR x1) (hx2 : inR x2) (h : f_X11_r x1 x2 M = some r) : CtI l yX11_r cX11_r 3 (some .int) { frames := 0, cells := 0, slots := 0, locals := 0 } E z LyR [.ref (z + 0), .int (jI x1), .int (jI x2)] M r M := by
  refine jm (by decide +kernel) (Nat.le_of_ble_eq_true rfl) ?_
  intro p e sM m below meth c C hM0 hr hlk ls hl
  replace hl : lv_has ls 3 [(0, .ref (z + 0)), (1, .int (jI x1)), (2, .int (jI x2))] := hl
  unfold f_X11_r at h
  refine r_aload_n C dX11_r_0 rfl hl 0 rfl ?_
  refine r_getR C hM0 jc11 0 1 dX11_r_1 lk_X11_7 lr_0.1 lr_0.2 rfl rfl (by decide) rfl ?_
  refine r_bipush C dX11_r_4 rfl ?_
  refine r_iconst C dX11_r_6 ?_
  refine r_iload_n C dX11_r_7 rfl hl 1 rfl ?_
  replace h := ck_some h
  obtain ⟨hc1, h⟩ := h
  refine r_imul C dX11_r_8 ?_
  replace h := ck_some h
  obtain ⟨hc2, h⟩ := h
  refine r_iadd C dX11_r_9 ?_
  refine r_iload_n C dX11_r_10 rfl hl 2 rfl ?_
  replace h := ck_some h
  obtain ⟨hc3, h⟩ := h
  refine r_iadd C dX11_r_11 ?_
  replace h := ck_some h
  obtain ⟨hc4, h⟩ := h
  refine r_iald C hM0 rfl dX11_r_12 lr_1.1 lr_1.2 hc4 hc3 ?_
  exact r_ireturn C hM0 hr hlk (hM0.ok _ _) h rfl dX11_r_13
set_option maxRecDepth 100000 in
set_option maxHeartbeats 4000000 in
theorem c_X11_lays (l : Launch) (E : jE) (z : Nat) {x1 : Int} {x2 : Int} {x3 : Int} {x4 : Int} {x5 : Int} {M M' : Mem} (hx1 : inR x1) (hx2 : inR x2) (hx3 : inR x3) (hx4 : inR x4) (hx5 : inR x5) (h : f_X11_lays x1 x2 x3 x4 x5 M = some M') : CtV l yX11_lays cX11_lays 7 none { frames := 0, cells := 0, slots := 0, locals := 0 } E z LyR [.ref (z + 0), .int (jI x1), .int (jI x2), .int (jI x3), .int (jI x4), .int (jI x5)] M M' := by
  refine jm (by decide +kernel) (Nat.le_of_ble_eq_true rfl) ?_
  intro p e sM m below meth c C hM0 hr hlk ls hl
  replace hl : lv_has ls 7 [(0, .ref (z + 0)), (1, .int (jI x1)), (2, .int (jI x2)), (3, .int (jI x3)), (4, .int (jI x4)), (5, .int (jI x5))] := hl
  unfold f_X11_lays at h
  refine r_bipush C dX11_lays_0 rfl ?_
  refine r_iconst C dX11_lays_2 ?_
  refine r_iload_n C dX11_lays_3 rfl hl 1 rfl ?_
  replace h := ck_some h
  obtain ⟨hc1, h⟩ := h
  refine r_imul C dX11_lays_4 ?_
  replace h := ck_some h
  obtain ⟨hc2, h⟩ := h
  refine r_iadd C dX11_lays_5 ?_
  refine r_istore C [(6, .int (jI (126 + (4 * x1)))), (0, .ref (z + 0)), (1, .int (jI x1)), (2, .int (jI x2)), (3, .int (jI x3)), (4, .int (jI x4)), (5, .int (jI x5))] dX11_lays_6 hl (by decide) rfl (fun ls hl => ?_)
  refine r_aload_n C dX11_lays_8 rfl hl 1 rfl ?_
  refine r_getR C hM0 jc11 0 1 dX11_lays_9 lk_X11_7 lr_0.1 lr_0.2 rfl rfl (by decide) rfl ?_
  refine r_iload C dX11_lays_12 hl 0 rfl ?_
  refine r_iload_n C dX11_lays_14 rfl hl 3 rfl ?_
  replace h := ck_some h
  obtain ⟨hc3, h⟩ := h
  refine r_iast C hM0 dX11_lays_15 lr_1.1 lr_1.2 hc3 hc2 hx2 (fun H locs hM4 => ?_)
  replace h := lt_some h
  obtain ⟨N5, eN5, h⟩ := h
  rw [← eN5] at hM4
  refine r_aload_n C dX11_lays_16 rfl hl 1 rfl ?_
  refine r_getR C hM4 jc11 0 1 dX11_lays_17 lk_X11_7 lr_0.1 lr_0.2 rfl rfl (by decide) rfl ?_
  refine r_iload C dX11_lays_20 hl 0 rfl ?_
  refine r_iconst C dX11_lays_22 ?_
  replace h := ck_some h
  obtain ⟨hc6, h⟩ := h
  refine r_iadd C dX11_lays_23 ?_
  refine r_iload_n C dX11_lays_24 rfl hl 4 rfl ?_
  replace h := ck_some h
  obtain ⟨hc7, h⟩ := h
  refine r_iast C hM4 dX11_lays_25 lr_1.1 lr_1.2 hc7 hc6 hx3 (fun H locs hM8 => ?_)
  replace h := lt_some h
  obtain ⟨N9, eN9, h⟩ := h
  rw [← eN9] at hM8
  refine r_aload_n C dX11_lays_26 rfl hl 1 rfl ?_
  refine r_getR C hM8 jc11 0 1 dX11_lays_27 lk_X11_7 lr_0.1 lr_0.2 rfl rfl (by decide) rfl ?_
  refine r_iload C dX11_lays_30 hl 0 rfl ?_
  refine r_iconst C dX11_lays_32 ?_
  replace h := ck_some h
  obtain ⟨hc10, h⟩ := h
  refine r_iadd C dX11_lays_33 ?_
  refine r_iload C dX11_lays_34 hl 5 rfl ?_
  replace h := ck_some h
  obtain ⟨hc11, h⟩ := h
  refine r_iast C hM8 dX11_lays_36 lr_1.1 lr_1.2 hc11 hc10 hx4 (fun H locs hM12 => ?_)
  replace h := lt_some h
  obtain ⟨N13, eN13, h⟩ := h
  rw [← eN13] at hM12
  refine r_aload_n C dX11_lays_37 rfl hl 1 rfl ?_
  refine r_getR C hM12 jc11 0 1 dX11_lays_38 lk_X11_7 lr_0.1 lr_0.2 rfl rfl (by decide) rfl ?_
  refine r_iload C dX11_lays_41 hl 0 rfl ?_
  refine r_iconst C dX11_lays_43 ?_
  replace h := ck_some h
  obtain ⟨hc14, h⟩ := h
  refine r_iadd C dX11_lays_44 ?_
  refine r_iload C dX11_lays_45 hl 6 rfl ?_
  replace h := ck_some h
  obtain ⟨hc15, h⟩ := h
  refine r_iast C hM12 dX11_lays_47 lr_1.1 lr_1.2 hc15 hc14 hx5 (fun H locs hM16 => ?_)
  replace h := lt_some h
  obtain ⟨N17, eN17, h⟩ := h
  rw [← eN17] at hM16
  exact r_return C hM16 hr hlk h dX11_lays_48
set_option maxRecDepth 100000 in
set_option maxHeartbeats 4000000 in
theorem c_X11_opens (l : Launch) (E : jE) (z : Nat) {x1 : Int} {x2 : Int} {x3 : Int} {M M' : Mem} (hx1 : inR x1) (hx2 : inR x2) (hx3 : inR x3) (h : f_X11_opens x1 x2 x3 M = some M') : CtV l yX11_opens cX11_opens 4 none { frames := 0, cells := 0, slots := 0, locals := 0 } E z LyR [.ref (z + 0), .int (jI x1), .int (jI x2), .int (jI x3)] M M' := by
  refine jm (by decide +kernel) (Nat.le_of_ble_eq_true rfl) ?_
  intro p e sM m below meth c C hM0 hr hlk ls hl
  replace hl : lv_has ls 4 [(0, .ref (z + 0)), (1, .int (jI x1)), (2, .int (jI x2)), (3, .int (jI x3))] := hl
  unfold f_X11_opens at h
  refine r_aload_n C dX11_opens_0 rfl hl 0 rfl ?_
  refine r_getR C hM0 jc11 18 16 dX11_opens_1 lk_X11_56 lr_0.1 lr_0.2 rfl rfl (by decide) rfl ?_
  refine r_aload_n C dX11_opens_4 rfl hl 0 rfl ?_
  refine r_getI C hM0 jc11 21 rfl dX11_opens_5 lk_X11_120 lr_0.1 lr_0.2 rfl rfl (by decide) rfl ?_
  refine r_iload_n C dX11_opens_8 rfl hl 1 rfl ?_
  replace h := ck_some h
  obtain ⟨hc1, h⟩ := h
  refine r_iast C hM0 dX11_opens_9 lr_16.1 lr_16.2 hc1 (hM0.ok _ _) hx1 (fun H locs hM2 => ?_)
  replace h := lt_some h
  obtain ⟨N3, eN3, h⟩ := h
  rw [← eN3] at hM2
  refine r_aload_n C dX11_opens_10 rfl hl 0 rfl ?_
  refine r_getR C hM2 jc11 19 17 dX11_opens_11 lk_X11_59 lr_0.1 lr_0.2 rfl rfl (by decide) rfl ?_
  refine r_aload_n C dX11_opens_14 rfl hl 0 rfl ?_
  refine r_getI C hM2 jc11 21 (rd_skip eN3 (by decide) rfl) dX11_opens_15 lk_X11_120 lr_0.1 lr_0.2 rfl rfl (by decide) rfl ?_
  refine r_iload_n C dX11_opens_18 rfl hl 2 rfl ?_
  refine r_iast C hM2 dX11_opens_19 lr_17.1 lr_17.2 hc1 (hM0.ok _ _) hx2 (fun H locs hM4 => ?_)
  replace h := lt_some h
  obtain ⟨N5, eN5, h⟩ := h
  rw [← eN5] at hM4
  refine r_iload_n C dX11_opens_20 rfl hl 3 rfl ?_
  replace h := jn_some h
  obtain ⟨k34, hk34, h⟩ := h
  have hJ34 : ∀ (M34 : Mem), ∀ (H : Heap) (locs : List Loc) (ls : Array Slot), k34 M34 = some M' → HS E z LyR M34 sM H locs → lv_has ls 4 [(0, .ref (z + 0)), (3, .int (jI x3))] → W p l e ({ frames := 0, cells := 0, slots := 0, locals := 0 } : Room) sM m (([.ref (z + 0), .int (jI x1), .int (jI x2), .int (jI x3)] : List Value).toArray) below meth c H locs 0 0 (MQ below (va_Qv (fun (_ : Unit) => Mok LyR M') (fun _ t => va_P (eD E) vwCl (Wd (eC E) z LyR M') t.heap) (eA E)) (([.ref (z + 0), .int (jI x1), .int (jI x2), .int (jI x3)] : List Value).toArray) sM 0 0 (eA E)) (F0 m 34 ls []) := by
    intro M34 H locs ls h hMj34 hl
    subst hk34
    try dsimp only at h
    refine r_aload_n C dX11_opens_34 rfl hl 0 rfl ?_
    refine r_getR C hMj34 jc11 20 18 dX11_opens_35 lk_X11_62 lr_0.1 lr_0.2 rfl rfl (by decide) rfl ?_
    refine r_aload_n C dX11_opens_38 rfl hl 0 rfl ?_
    refine r_getI C hMj34 jc11 21 rfl dX11_opens_39 lk_X11_120 lr_0.1 lr_0.2 rfl rfl (by decide) rfl ?_
    refine r_iload_n C dX11_opens_42 rfl hl 1 rfl ?_
    replace h := jn_some h
    obtain ⟨k54, hk54, h⟩ := h
    have hJ54 : ∀ (v54 : Int), inR v54 → ∀ (H : Heap) (locs : List Loc) (ls : Array Slot), k54 v54 = some M' → HS E z LyR M34 sM H locs → lv_has ls 4 [(0, .ref (z + 0))] → W p l e ({ frames := 0, cells := 0, slots := 0, locals := 0 } : Room) sM m (([.ref (z + 0), .int (jI x1), .int (jI x2), .int (jI x3)] : List Value).toArray) below meth c H locs 0 0 (MQ below (va_Qv (fun (_ : Unit) => Mok LyR M') (fun _ t => va_P (eD E) vwCl (Wd (eC E) z LyR M') t.heap) (eA E)) (([.ref (z + 0), .int (jI x1), .int (jI x2), .int (jI x3)] : List Value).toArray) sM 0 0 (eA E)) (F0 m 54 ls [.int (jI v54), .int (jI (M34 0 21)), .ref (z + 18)]) := by
      intro v54 hv54 H locs ls h hMj54 hl
      subst hk54
      try dsimp only at h
      replace h := ck_some h
      obtain ⟨hc6, h⟩ := h
      refine r_iast C hMj54 dX11_opens_54 lr_18.1 lr_18.2 hc6 (hMj34.ok _ _) hv54 (fun H locs hM7 => ?_)
      replace h := lt_some h
      obtain ⟨N8, eN8, h⟩ := h
      rw [← eN8] at hM7
      refine r_aload_n C dX11_opens_55 rfl hl 0 rfl ?_
      refine r_dup C dX11_opens_56 rfl ?_
      refine r_getI C hM7 jc11 21 (rd_skip eN8 (by decide) rfl) dX11_opens_57 lk_X11_120 lr_0.1 lr_0.2 rfl rfl (by decide) rfl ?_
      refine r_iconst C dX11_opens_60 ?_
      replace h := ck_some h
      obtain ⟨hc9, h⟩ := h
      refine r_iadd C dX11_opens_61 ?_
      refine r_putI C hM7 jc11 21 hc9 dX11_opens_62 lk_X11_120 lr_0.1 lr_0.2 rfl rfl (by decide) rfl rfl rfl (Nat.le_of_ble_eq_true rfl) (by decide) (fun H locs hM10 => ?_)
      replace h := lt_some h
      obtain ⟨N11, eN11, h⟩ := h
      rw [← eN11] at hM10
      exact r_return C hM10 hr hlk h dX11_opens_65
    refine r_if_eq C 53 hx3 dX11_opens_43 (by decide) (fun cq => ?_) (fun cq => ?_)
    · replace h := ifp cq h
      refine r_iconst C dX11_opens_53 ?_
      exact hJ54 _ ⟨by decide, by decide⟩ _ _ _ h hMj34 (lv_sub hl [0] rfl)
    · replace h := ifn cq h
      refine r_aload_n C dX11_opens_46 rfl hl 0 rfl ?_
      refine r_getI C hMj34 jc11 22 rfl dX11_opens_47 lk_X11_123 lr_0.1 lr_0.2 rfl rfl (by decide) rfl ?_
      refine r_goto C 54 dX11_opens_50 (by decide) ?_
      exact hJ54 _ (hMj34.ok _ _) _ _ _ h hMj34 (lv_sub hl [0] rfl)
  refine r_if_eq C 34 hx3 dX11_opens_21 (by decide) (fun cq => ?_) (fun cq => ?_)
  · replace h := ifp cq h
    exact hJ34 _ _ _ _ h hM4 (lv_sub hl [0, 3] rfl)
  · replace h := ifn cq h
    refine r_aload_n C dX11_opens_24 rfl hl 0 rfl ?_
    refine r_dup C dX11_opens_25 rfl ?_
    refine r_getI C hM4 jc11 22 (rd_skip eN5 (by decide) (rd_skip eN3 (by decide) rfl)) dX11_opens_26 lk_X11_123 lr_0.1 lr_0.2 rfl rfl (by decide) rfl ?_
    refine r_iconst C dX11_opens_29 ?_
    replace h := ck_some h
    obtain ⟨hc12, h⟩ := h
    refine r_iadd C dX11_opens_30 ?_
    refine r_putI C hM4 jc11 22 hc12 dX11_opens_31 lk_X11_123 lr_0.1 lr_0.2 rfl rfl (by decide) rfl rfl rfl (Nat.le_of_ble_eq_true rfl) (by decide) (fun H locs hM13 => ?_)
    replace h := lt_some h
    obtain ⟨N14, eN14, h⟩ := h
    rw [← eN14] at hM13
    exact hJ34 _ _ _ _ h hM13 (lv_sub hl [0, 3] rfl)
set_option maxRecDepth 100000 in
set_option maxHeartbeats 4000000 in
theorem c_X11_addsPiece (l : Launch) (E : jE) (z : Nat) {x1 : Int} {M M' : Mem} (hx1 : inR x1) (h : f_X11_addsPiece x1 M = some M') : CtV l yX11_addsPiece cX11_addsPiece 5 none { frames := 1, cells := 0, slots := 0, locals := 22 } E z LyR [.ref (z + 0), .int (jI x1)] M M' := by
  refine jm (by decide +kernel) (Nat.le_of_ble_eq_true rfl) ?_
  intro p e sM m below meth c C hM0 hr hlk ls hl
  replace hl : lv_has ls 5 [(0, .ref (z + 0)), (1, .int (jI x1))] := hl
  unfold f_X11_addsPiece at h
  refine r_aload_n C dX11_addsPiece_0 rfl hl 0 rfl ?_
  refine r_getI C hM0 jc11 17 rfl dX11_addsPiece_1 lk_X11_126 lr_0.1 lr_0.2 rfl rfl (by decide) rfl ?_
  refine r_istore_n C [(2, .int (jI (M 0 17))), (0, .ref (z + 0)), (1, .int (jI x1))] dX11_addsPiece_4 rfl hl (by decide) rfl (fun ls hl => ?_)
  refine r_aload_n C dX11_addsPiece_5 rfl hl 1 rfl ?_
  refine r_iload_n C dX11_addsPiece_6 rfl hl 2 rfl ?_
  refine r_iconst C dX11_addsPiece_7 ?_
  replace h := bd_some h
  obtain ⟨r8, hf8, h⟩ := h
  refine r_callI (As := [.int (jI x1), .int (jI 0)]) (rest := []) C hM0 (c_X11_r l E z hx1 ⟨by decide, by decide⟩ hf8) jy_X11_r lk_X11_129 dX11_addsPiece_8 (recvW C hM0 jc11 lr_0.1 lr_0.2 rfl) rfl rfl hl.1 (Nat.le_of_ble_eq_true rfl) ⟨Nat.le_of_ble_eq_true rfl, Nat.le_of_ble_eq_true rfl⟩ ⟨rfl, rfl⟩ ⟨Nat.zero_le _, Nat.zero_le _⟩ (fun H locs hr8 hM1 => ?_)
  replace h := jn_some h
  obtain ⟨k19, hk19, h⟩ := h
  have hJ19 : ∀ (v19 : Int), inR v19 → ∀ (H : Heap) (locs : List Loc) (ls : Array Slot), k19 v19 = some M' → HS E z LyR M sM H locs → lv_has ls 5 [(0, .ref (z + 0)), (1, .int (jI x1)), (2, .int (jI (M 0 17)))] → W p l e ({ frames := 1, cells := 0, slots := 0, locals := 22 } : Room) sM m (([.ref (z + 0), .int (jI x1)] : List Value).toArray) below meth c H locs 0 0 (MQ below (va_Qv (fun (_ : Unit) => Mok LyR M') (fun _ t => va_P (eD E) vwCl (Wd (eC E) z LyR M') t.heap) (eA E)) (([.ref (z + 0), .int (jI x1)] : List Value).toArray) sM 0 0 (eA E)) (F0 m 19 ls [.int (jI v19)]) := by
    intro v19 hv19 H locs ls h hMj19 hl
    subst hk19
    try dsimp only at h
    refine r_istore_n C [(3, .int (jI v19)), (0, .ref (z + 0)), (1, .int (jI x1)), (2, .int (jI (M 0 17)))] dX11_addsPiece_19 rfl hl (by decide) rfl (fun ls hl => ?_)
    refine r_aload_n C dX11_addsPiece_20 rfl hl 1 rfl ?_
    refine r_getR C hMj19 jc11 8 7 dX11_addsPiece_21 lk_X11_29 lr_0.1 lr_0.2 rfl rfl (by decide) rfl ?_
    refine r_iload_n C dX11_addsPiece_24 rfl hl 3 rfl ?_
    refine r_iload_n C dX11_addsPiece_25 rfl hl 0 rfl ?_
    replace h := jn_some h
    obtain ⟨k34, hk34, h⟩ := h
    have hJ34 : ∀ (v34 : Int), inR v34 → ∀ (H : Heap) (locs : List Loc) (ls : Array Slot), k34 v34 = some M' → HS E z LyR M sM H locs → lv_has ls 5 [(0, .ref (z + 0)), (1, .int (jI x1)), (2, .int (jI (M 0 17))), (3, .int (jI v19))] → W p l e ({ frames := 1, cells := 0, slots := 0, locals := 22 } : Room) sM m (([.ref (z + 0), .int (jI x1)] : List Value).toArray) below meth c H locs 0 0 (MQ below (va_Qv (fun (_ : Unit) => Mok LyR M') (fun _ t => va_P (eD E) vwCl (Wd (eC E) z LyR M') t.heap) (eA E)) (([.ref (z + 0), .int (jI x1)] : List Value).toArray) sM 0 0 (eA E)) (F0 m 34 ls [.int (jI v34), .int (jI (M 0 17)), .ref (z + 7)]) := by
      intro v34 hv34 H locs ls h hMj34 hl
      subst hk34
      try dsimp only at h
      replace h := bd_some h
      obtain ⟨r34, hf34, h⟩ := h
      refine r_callSI (As := [.int (jI v34)]) (rest := [.int (jI (M 0 17)), .ref (z + 7)]) C hMj34 (c_X11_bit l E z hv34 hf34) jy_X11_bit lk_X11_133 dX11_addsPiece_34 rfl rfl hl.1 (Nat.le_of_ble_eq_true rfl) ⟨Nat.le_of_ble_eq_true rfl, Nat.le_of_ble_eq_true rfl⟩ ⟨rfl, rfl⟩ ⟨Nat.zero_le _, Nat.zero_le _⟩ (fun H locs hr34 hM2 => ?_)
      replace h := ck_some h
      obtain ⟨hc3, h⟩ := h
      refine r_iast C hM2 dX11_addsPiece_37 lr_7.1 lr_7.2 hc3 (hM0.ok _ _) hr34 (fun H locs hM4 => ?_)
      replace h := lt_some h
      obtain ⟨N5, eN5, h⟩ := h
      rw [← eN5] at hM4
      refine r_aload_n C dX11_addsPiece_38 rfl hl 0 rfl ?_
      refine r_getR C hM4 jc11 9 8 dX11_addsPiece_39 lk_X11_32 lr_0.1 lr_0.2 rfl rfl (by decide) rfl ?_
      refine r_iload_n C dX11_addsPiece_42 rfl hl 2 rfl ?_
      refine r_aload_n C dX11_addsPiece_43 rfl hl 0 rfl ?_
      refine r_iload_n C dX11_addsPiece_44 rfl hl 1 rfl ?_
      refine r_iconst C dX11_addsPiece_45 ?_
      replace h := bd_some h
      obtain ⟨r46, hf46, h⟩ := h
      refine r_callI (As := [.int (jI x1), .int (jI 1)]) (rest := [.int (jI (M 0 17)), .ref (z + 8)]) C hM4 (c_X11_r l E z hx1 ⟨by decide, by decide⟩ hf46) jy_X11_r lk_X11_129 dX11_addsPiece_46 (recvW C hM4 jc11 lr_0.1 lr_0.2 rfl) rfl rfl hl.1 (Nat.le_of_ble_eq_true rfl) ⟨Nat.le_of_ble_eq_true rfl, Nat.le_of_ble_eq_true rfl⟩ ⟨rfl, rfl⟩ ⟨Nat.zero_le _, Nat.zero_le _⟩ (fun H locs hr46 hM6 => ?_)
      refine r_iast C hM6 dX11_addsPiece_49 lr_8.1 lr_8.2 hc3 (hM0.ok _ _) hr46 (fun H locs hM7 => ?_)
      replace h := lt_some h
      obtain ⟨N8, eN8, h⟩ := h
      rw [← eN8] at hM7
      refine r_aload_n C dX11_addsPiece_50 rfl hl 0 rfl ?_
      refine r_getR C hM7 jc11 10 9 dX11_addsPiece_51 lk_X11_35 lr_0.1 lr_0.2 rfl rfl (by decide) rfl ?_
      refine r_iload_n C dX11_addsPiece_54 rfl hl 2 rfl ?_
      refine r_iload_n C dX11_addsPiece_55 rfl hl 3 rfl ?_
      replace h := jn_some h
      obtain ⟨k69, hk69, h⟩ := h
      have hJ69 : ∀ (v69 : Int), inR v69 → ∀ (H : Heap) (locs : List Loc) (ls : Array Slot), k69 v69 = some M' → HS E z LyR N8 sM H locs → lv_has ls 5 [(0, .ref (z + 0)), (1, .int (jI x1)), (2, .int (jI (M 0 17))), (3, .int (jI v19))] → W p l e ({ frames := 1, cells := 0, slots := 0, locals := 22 } : Room) sM m (([.ref (z + 0), .int (jI x1)] : List Value).toArray) below meth c H locs 0 0 (MQ below (va_Qv (fun (_ : Unit) => Mok LyR M') (fun _ t => va_P (eD E) vwCl (Wd (eC E) z LyR M') t.heap) (eA E)) (([.ref (z + 0), .int (jI x1)] : List Value).toArray) sM 0 0 (eA E)) (F0 m 69 ls [.int (jI v69), .int (jI (M 0 17)), .ref (z + 9)]) := by
        intro v69 hv69 H locs ls h hMj69 hl
        subst hk69
        try dsimp only at h
        refine r_iast C hMj69 dX11_addsPiece_69 lr_9.1 lr_9.2 hc3 (hM0.ok _ _) hv69 (fun H locs hM9 => ?_)
        replace h := lt_some h
        obtain ⟨N10, eN10, h⟩ := h
        rw [← eN10] at hM9
        refine r_aload_n C dX11_addsPiece_70 rfl hl 0 rfl ?_
        refine r_getR C hM9 jc11 11 10 dX11_addsPiece_71 lk_X11_38 lr_0.1 lr_0.2 rfl rfl (by decide) rfl ?_
        refine r_iload_n C dX11_addsPiece_74 rfl hl 2 rfl ?_
        refine r_iload_n C dX11_addsPiece_75 rfl hl 3 rfl ?_
        replace h := jn_some h
        obtain ⟨k103, hk103, h⟩ := h
        have hJ103 : ∀ (v103 : Int), inR v103 → ∀ (H : Heap) (locs : List Loc) (ls : Array Slot), k103 v103 = some M' → HS E z LyR N10 sM H locs → lv_has ls 5 [(0, .ref (z + 0)), (2, .int (jI (M 0 17)))] → W p l e ({ frames := 1, cells := 0, slots := 0, locals := 22 } : Room) sM m (([.ref (z + 0), .int (jI x1)] : List Value).toArray) below meth c H locs 0 0 (MQ below (va_Qv (fun (_ : Unit) => Mok LyR M') (fun _ t => va_P (eD E) vwCl (Wd (eC E) z LyR M') t.heap) (eA E)) (([.ref (z + 0), .int (jI x1)] : List Value).toArray) sM 0 0 (eA E)) (F0 m 103 ls [.int (jI v103), .int (jI (M 0 17)), .ref (z + 10)]) := by
          intro v103 hv103 H locs ls h hMj103 hl
          subst hk103
          try dsimp only at h
          refine r_iast C hMj103 dX11_addsPiece_103 lr_10.1 lr_10.2 hc3 (hM0.ok _ _) hv103 (fun H locs hM11 => ?_)
          replace h := lt_some h
          obtain ⟨N12, eN12, h⟩ := h
          rw [← eN12] at hM11
          refine r_aload_n C dX11_addsPiece_104 rfl hl 0 rfl ?_
          refine r_getR C hM11 jc11 14 13 dX11_addsPiece_105 lk_X11_47 lr_0.1 lr_0.2 rfl rfl (by decide) rfl ?_
          refine r_iload_n C dX11_addsPiece_108 rfl hl 1 rfl ?_
          refine r_iconst C dX11_addsPiece_109 ?_
          refine r_iast C hM11 dX11_addsPiece_110 lr_13.1 lr_13.2 hc3 (hM0.ok _ _) ⟨by decide, by decide⟩ (fun H locs hM13 => ?_)
          replace h := lt_some h
          obtain ⟨N14, eN14, h⟩ := h
          rw [← eN14] at hM13
          refine r_iconst C dX11_addsPiece_111 ?_
          refine r_istore C [(4, .int (jI 0)), (0, .ref (z + 0)), (2, .int (jI (M 0 17)))] dX11_addsPiece_112 hl (by decide) rfl (fun ls hl => ?_)
          obtain ⟨y2, ey2⟩ : ∃ y : Int, y = (M 0 17) := ⟨_, rfl⟩
          have hy2 : inR y2 := by rw [ey2]; exact (hM0.ok _ _)
          have hL114 : ∀ n114 : Nat, ∀ (x4 : Int) (M : Mem), inR x4 → ∀ (H : Heap) (locs : List Loc) (ls : Array Slot), f_X11_addsPiece_L114 y2 n114  x4 M = some M' → HS E z LyR M sM H locs → lv_has ls 5 [(0, .ref (z + 0)), (2, .int (jI y2)), (4, .int (jI x4))] → W p l e ({ frames := 1, cells := 0, slots := 0, locals := 22 } : Room) sM m (([.ref (z + 0), .int (jI x1)] : List Value).toArray) below meth c H locs 0 0 (MQ below (va_Qv (fun (_ : Unit) => Mok LyR M') (fun _ t => va_P (eD E) vwCl (Wd (eC E) z LyR M') t.heap) (eA E)) (([.ref (z + 0), .int (jI x1)] : List Value).toArray) sM 0 0 (eA E)) (F0 m 114 ls []) := by
            intro n114
            induction n114 with
            | zero =>
              intro x4 M hx4 H locs ls h hM hl
              exact absurd h (by simp [f_X11_addsPiece_L114])
            | succ n114 ih114 =>
              intro x4 M hx4 H locs ls h hM hl
              rw [f_X11_addsPiece_L114] at h
              refine r_iload C dX11_addsPiece_114 hl 2 rfl ?_
              refine r_aload_n C dX11_addsPiece_116 rfl hl 0 rfl ?_
              refine r_getI C hM jc11 21 rfl dX11_addsPiece_117 lk_X11_120 lr_0.1 lr_0.2 rfl rfl (by decide) rfl ?_
              refine r_icmp_ge C 201 hx4 (hM.ok _ _) dX11_addsPiece_120 (by decide) (fun cq => ?_) (fun cq => ?_)
              · replace h := ifp cq h
                refine r_aload_n C dX11_addsPiece_201 rfl hl 0 rfl ?_
                refine r_dup C dX11_addsPiece_202 rfl ?_
                refine r_getI C hM jc11 17 rfl dX11_addsPiece_203 lk_X11_126 lr_0.1 lr_0.2 rfl rfl (by decide) rfl ?_
                refine r_iconst C dX11_addsPiece_206 ?_
                replace h := ck_some h
                obtain ⟨hc15, h⟩ := h
                refine r_iadd C dX11_addsPiece_207 ?_
                refine r_putI C hM jc11 17 hc15 dX11_addsPiece_208 lk_X11_126 lr_0.1 lr_0.2 rfl rfl (by decide) rfl rfl rfl (Nat.le_of_ble_eq_true rfl) (by decide) (fun H locs hM16 => ?_)
                replace h := lt_some h
                obtain ⟨N17, eN17, h⟩ := h
                rw [← eN17] at hM16
                exact r_return C hM16 hr hlk h dX11_addsPiece_211
              · replace h := ifn cq h
                refine r_aload_n C dX11_addsPiece_123 rfl hl 0 rfl ?_
                refine r_getR C hM jc11 20 18 dX11_addsPiece_124 lk_X11_62 lr_0.1 lr_0.2 rfl rfl (by decide) rfl ?_
                refine r_iload C dX11_addsPiece_127 hl 2 rfl ?_
                replace h := ck_some h
                obtain ⟨hc18, h⟩ := h
                refine r_iald C hM rfl dX11_addsPiece_129 lr_18.1 lr_18.2 hc18 hx4 ?_
                refine r_if_ne C 136 (hM.ok _ _) dX11_addsPiece_130 (by decide) (fun cq => ?_) (fun cq => ?_)
                · replace h := ifn cq h
                  refine r_aload_n C dX11_addsPiece_136 rfl hl 0 rfl ?_
                  refine r_getR C hM jc11 15 14 dX11_addsPiece_137 lk_X11_50 lr_0.1 lr_0.2 rfl rfl (by decide) rfl ?_
                  refine r_iconst C dX11_addsPiece_140 ?_
                  refine r_iload_n C dX11_addsPiece_141 rfl hl 1 rfl ?_
                  replace h := ck_some h
                  obtain ⟨hc19, h⟩ := h
                  refine r_imul C dX11_addsPiece_142 ?_
                  refine r_aload_n C dX11_addsPiece_143 rfl hl 0 rfl ?_
                  refine r_getR C hM jc11 14 13 dX11_addsPiece_144 lk_X11_47 lr_0.1 lr_0.2 rfl rfl (by decide) rfl ?_
                  refine r_iload_n C dX11_addsPiece_147 rfl hl 1 rfl ?_
                  replace h := ck_some h
                  obtain ⟨hc20, h⟩ := h
                  refine r_iald C hM rfl dX11_addsPiece_148 lr_13.1 lr_13.2 hc20 hy2 ?_
                  replace h := ck_some h
                  obtain ⟨hc21, h⟩ := h
                  refine r_iadd C dX11_addsPiece_149 ?_
                  refine r_aload_n C dX11_addsPiece_150 rfl hl 0 rfl ?_
                  refine r_getR C hM jc11 20 18 dX11_addsPiece_151 lk_X11_62 lr_0.1 lr_0.2 rfl rfl (by decide) rfl ?_
                  refine r_iload C dX11_addsPiece_154 hl 2 rfl ?_
                  refine r_iald C hM rfl dX11_addsPiece_156 lr_18.1 lr_18.2 hc18 hx4 ?_
                  replace h := ck_some h
                  obtain ⟨hc22, h⟩ := h
                  refine r_iast C hM dX11_addsPiece_157 lr_14.1 lr_14.2 hc22 hc21 (hM.ok _ _) (fun H locs hM23 => ?_)
                  replace h := lt_some h
                  obtain ⟨N24, eN24, h⟩ := h
                  rw [← eN24] at hM23
                  refine r_aload_n C dX11_addsPiece_158 rfl hl 0 rfl ?_
                  refine r_getR C hM23 jc11 16 15 dX11_addsPiece_159 lk_X11_53 lr_0.1 lr_0.2 rfl rfl (by decide) rfl ?_
                  refine r_iconst C dX11_addsPiece_162 ?_
                  refine r_iload_n C dX11_addsPiece_163 rfl hl 1 rfl ?_
                  refine r_imul C dX11_addsPiece_164 ?_
                  refine r_aload_n C dX11_addsPiece_165 rfl hl 0 rfl ?_
                  refine r_getR C hM23 jc11 14 13 dX11_addsPiece_166 lk_X11_47 lr_0.1 lr_0.2 rfl rfl (by decide) rfl ?_
                  refine r_iload_n C dX11_addsPiece_169 rfl hl 1 rfl ?_
                  refine r_iald C hM23 (rd_skip eN24 (by decide) rfl) dX11_addsPiece_170 lr_13.1 lr_13.2 hc20 hy2 ?_
                  refine r_iadd C dX11_addsPiece_171 ?_
                  refine r_aload_n C dX11_addsPiece_172 rfl hl 0 rfl ?_
                  refine r_aload_n C dX11_addsPiece_173 rfl hl 0 rfl ?_
                  refine r_getR C hM23 jc11 18 16 dX11_addsPiece_174 lk_X11_56 lr_0.1 lr_0.2 rfl rfl (by decide) rfl ?_
                  refine r_iload C dX11_addsPiece_177 hl 2 rfl ?_
                  refine r_iald C hM23 (rd_skip eN24 (by decide) rfl) dX11_addsPiece_179 lr_16.1 lr_16.2 hc18 hx4 ?_
                  refine r_iconst C dX11_addsPiece_180 ?_
                  replace h := bd_some h
                  obtain ⟨r181, hf181, h⟩ := h
                  refine r_callI (As := [.int (jI (M 16 x4.toNat)), .int (jI 1)]) (rest := [.int (jI ((4 * y2) + (M 13 y2.toNat))), .ref (z + 15)]) C hM23 (c_X11_r l E z (hM.ok _ _) ⟨by decide, by decide⟩ hf181) jy_X11_r lk_X11_129 dX11_addsPiece_181 (recvW C hM23 jc11 lr_0.1 lr_0.2 rfl) rfl rfl hl.1 (Nat.le_of_ble_eq_true rfl) ⟨Nat.le_of_ble_eq_true rfl, Nat.le_of_ble_eq_true rfl⟩ ⟨rfl, rfl⟩ ⟨Nat.zero_le _, Nat.zero_le _⟩ (fun H locs hr181 hM25 => ?_)
                  refine r_iast C hM25 dX11_addsPiece_184 lr_15.1 lr_15.2 hc22 hc21 hr181 (fun H locs hM26 => ?_)
                  replace h := lt_some h
                  obtain ⟨N27, eN27, h⟩ := h
                  rw [← eN27] at hM26
                  refine r_aload_n C dX11_addsPiece_185 rfl hl 0 rfl ?_
                  refine r_getR C hM26 jc11 14 13 dX11_addsPiece_186 lk_X11_47 lr_0.1 lr_0.2 rfl rfl (by decide) rfl ?_
                  refine r_iload_n C dX11_addsPiece_189 rfl hl 1 rfl ?_
                  refine r_dup2 C dX11_addsPiece_190 rfl rfl ?_
                  refine r_iald C hM26 (rd_skip eN27 (by decide) (rd_skip eN24 (by decide) rfl)) dX11_addsPiece_191 lr_13.1 lr_13.2 hc20 hy2 ?_
                  refine r_iconst C dX11_addsPiece_192 ?_
                  replace h := ck_some h
                  obtain ⟨hc28, h⟩ := h
                  refine r_iadd C dX11_addsPiece_193 ?_
                  refine r_iast C hM26 dX11_addsPiece_194 lr_13.1 lr_13.2 hc20 hy2 hc28 (fun H locs hM29 => ?_)
                  replace h := lt_some h
                  obtain ⟨N30, eN30, h⟩ := h
                  rw [← eN30] at hM29
                  replace h := ck_some h
                  obtain ⟨hc31, h⟩ := h
                  refine r_iinc (j := 2) (x := x4) C [(4, .int (jI (x4 + 1))), (0, .ref (z + 0)), (2, .int (jI y2))] dX11_addsPiece_195 hl rfl (by decide) rfl (fun ls hl => ?_)
                  refine r_goto C 114 dX11_addsPiece_198 (by decide) ?_
                  exact ih114 _ _ hc31 _ _ _ h hM29 (lv_sub hl [1, 2, 0] rfl)
                · replace h := ifp cq h
                  refine r_goto C 195 dX11_addsPiece_133 (by decide) ?_
                  replace h := ck_some h
                  obtain ⟨hc32, h⟩ := h
                  refine r_iinc (j := 2) (x := x4) C [(4, .int (jI (x4 + 1))), (0, .ref (z + 0)), (2, .int (jI y2))] dX11_addsPiece_195 hl rfl (by decide) rfl (fun ls hl => ?_)
                  refine r_goto C 114 dX11_addsPiece_198 (by decide) ?_
                  exact ih114 _ _ hc32 _ _ _ h hM (lv_sub hl [1, 2, 0] rfl)
          rw [← ey2] at h
          have hl := lv_sub (l' := [(0, .ref (z + 0)), (2, .int (jI y2)), (4, .int (jI 0))]) hl [1, 2, 0] (by rw [ey2]; rfl)
          exact hL114 jFuel _ _ ⟨by decide, by decide⟩ _ _ _ h hM13 hl
        refine r_if_eq C 97 hv19 dX11_addsPiece_76 (by decide) (fun cq => ?_) (fun cq => ?_)
        · replace h := ifp cq h
          refine r_aload_n C dX11_addsPiece_97 rfl hl 0 rfl ?_
          refine r_iload_n C dX11_addsPiece_98 rfl hl 1 rfl ?_
          refine r_iconst C dX11_addsPiece_99 ?_
          replace h := bd_some h
          obtain ⟨r100, hf100, h⟩ := h
          refine r_callI (As := [.int (jI x1), .int (jI 2)]) (rest := [.int (jI (M 0 17)), .ref (z + 10)]) C hM9 (c_X11_r l E z hx1 ⟨by decide, by decide⟩ hf100) jy_X11_r lk_X11_129 dX11_addsPiece_100 (recvW C hM9 jc11 lr_0.1 lr_0.2 rfl) rfl rfl hl.1 (Nat.le_of_ble_eq_true rfl) ⟨Nat.le_of_ble_eq_true rfl, Nat.le_of_ble_eq_true rfl⟩ ⟨rfl, rfl⟩ ⟨Nat.zero_le _, Nat.zero_le _⟩ (fun H locs hr100 hM33 => ?_)
          exact hJ103 _ hr100 _ _ _ h hM33 (lv_sub hl [0, 2] rfl)
        · replace h := ifn cq h
          refine r_aload_n C dX11_addsPiece_79 rfl hl 0 rfl ?_
          refine r_iload_n C dX11_addsPiece_80 rfl hl 1 rfl ?_
          refine r_iconst C dX11_addsPiece_81 ?_
          replace h := bd_some h
          obtain ⟨r82, hf82, h⟩ := h
          refine r_callI (As := [.int (jI x1), .int (jI 3)]) (rest := [.int (jI (M 0 17)), .ref (z + 10)]) C hM9 (c_X11_r l E z hx1 ⟨by decide, by decide⟩ hf82) jy_X11_r lk_X11_129 dX11_addsPiece_82 (recvW C hM9 jc11 lr_0.1 lr_0.2 rfl) rfl rfl hl.1 (Nat.le_of_ble_eq_true rfl) ⟨Nat.le_of_ble_eq_true rfl, Nat.le_of_ble_eq_true rfl⟩ ⟨rfl, rfl⟩ ⟨Nat.zero_le _, Nat.zero_le _⟩ (fun H locs hr82 hM34 => ?_)
          refine r_aload_n C dX11_addsPiece_85 rfl hl 0 rfl ?_
          refine r_iload_n C dX11_addsPiece_86 rfl hl 1 rfl ?_
          refine r_iconst C dX11_addsPiece_87 ?_
          replace h := bd_some h
          obtain ⟨r88, hf88, h⟩ := h
          refine r_callI (As := [.int (jI x1), .int (jI 2)]) (rest := [.int (jI r82), .int (jI (M 0 17)), .ref (z + 10)]) C hM34 (c_X11_r l E z hx1 ⟨by decide, by decide⟩ hf88) jy_X11_r lk_X11_129 dX11_addsPiece_88 (recvW C hM34 jc11 lr_0.1 lr_0.2 rfl) rfl rfl hl.1 (Nat.le_of_ble_eq_true rfl) ⟨Nat.le_of_ble_eq_true rfl, Nat.le_of_ble_eq_true rfl⟩ ⟨rfl, rfl⟩ ⟨Nat.zero_le _, Nat.zero_le _⟩ (fun H locs hr88 hM35 => ?_)
          replace h := ck_some h
          obtain ⟨hc36, h⟩ := h
          refine r_isub C dX11_addsPiece_91 ?_
          refine r_iconst C dX11_addsPiece_92 ?_
          replace h := ck_some h
          obtain ⟨hc37, h⟩ := h
          refine r_iadd C dX11_addsPiece_93 ?_
          refine r_goto C 103 dX11_addsPiece_94 (by decide) ?_
          exact hJ103 _ hc37 _ _ _ h hM35 (lv_sub hl [0, 2] rfl)
      refine r_if_eq C 68 hv19 dX11_addsPiece_56 (by decide) (fun cq => ?_) (fun cq => ?_)
      · replace h := ifp cq h
        refine r_iconst C dX11_addsPiece_68 ?_
        exact hJ69 _ ⟨by decide, by decide⟩ _ _ _ h hM7 (lv_sub hl [0, 1, 2, 3] rfl)
      · replace h := ifn cq h
        refine r_aload_n C dX11_addsPiece_59 rfl hl 0 rfl ?_
        refine r_iload_n C dX11_addsPiece_60 rfl hl 1 rfl ?_
        refine r_iconst C dX11_addsPiece_61 ?_
        replace h := bd_some h
        obtain ⟨r62, hf62, h⟩ := h
        refine r_callI (As := [.int (jI x1), .int (jI 2)]) (rest := [.int (jI (M 0 17)), .ref (z + 9)]) C hM7 (c_X11_r l E z hx1 ⟨by decide, by decide⟩ hf62) jy_X11_r lk_X11_129 dX11_addsPiece_62 (recvW C hM7 jc11 lr_0.1 lr_0.2 rfl) rfl rfl hl.1 (Nat.le_of_ble_eq_true rfl) ⟨Nat.le_of_ble_eq_true rfl, Nat.le_of_ble_eq_true rfl⟩ ⟨rfl, rfl⟩ ⟨Nat.zero_le _, Nat.zero_le _⟩ (fun H locs hr62 hM38 => ?_)
        refine r_goto C 69 dX11_addsPiece_65 (by decide) ?_
        exact hJ69 _ hr62 _ _ _ h hM38 (lv_sub hl [0, 1, 2, 3] rfl)
    refine r_if_ne C 33 hv19 dX11_addsPiece_26 (by decide) (fun cq => ?_) (fun cq => ?_)
    · replace h := ifn cq h
      refine r_iconst C dX11_addsPiece_33 ?_
      exact hJ34 _ ⟨by decide, by decide⟩ _ _ _ h hMj19 (lv_sub hl [1, 2, 3, 0] rfl)
    · replace h := ifp cq h
      refine r_iconst C dX11_addsPiece_29 ?_
      refine r_goto C 34 dX11_addsPiece_30 (by decide) ?_
      exact hJ34 _ ⟨by decide, by decide⟩ _ _ _ h hMj19 (lv_sub hl [1, 2, 3, 0] rfl)
  refine r_if_ne C 18 hr8 dX11_addsPiece_11 (by decide) (fun cq => ?_) (fun cq => ?_)
  · replace h := ifn cq h
    refine r_iconst C dX11_addsPiece_18 ?_
    exact hJ19 _ ⟨by decide, by decide⟩ _ _ _ h hM1 (lv_sub hl [1, 2, 0] rfl)
  · replace h := ifp cq h
    refine r_iconst C dX11_addsPiece_14 ?_
    refine r_goto C 19 dX11_addsPiece_15 (by decide) ?_
    exact hJ19 _ ⟨by decide, by decide⟩ _ _ _ h hM1 (lv_sub hl [1, 2, 0] rfl)
set_option maxRecDepth 100000 in
set_option maxHeartbeats 4000000 in
theorem c_X11_commonOverlap (l : Launch) (E : jE) (z : Nat) {x1 : Int} {M : Mem} {r : Int} (hx1 : inR x1) (h : f_X11_commonOverlap x1 M = some r) : CtI l yX11_commonOverlap cX11_commonOverlap 4 (some .int) { frames := 0, cells := 0, slots := 0, locals := 0 } E z LyR [.ref (z + 0), .int (jI x1)] M r M := by
  refine jm (by decide +kernel) (Nat.le_of_ble_eq_true rfl) ?_
  intro p e sM m below meth c C hM0 hr hlk ls hl
  replace hl : lv_has ls 4 [(0, .ref (z + 0)), (1, .int (jI x1))] := hl
  unfold f_X11_commonOverlap at h
  refine r_iconst C dX11_commonOverlap_0 ?_
  refine r_istore_n C [(2, .int (jI 0)), (0, .ref (z + 0)), (1, .int (jI x1))] dX11_commonOverlap_1 rfl hl (by decide) rfl (fun ls hl => ?_)
  refine r_iconst C dX11_commonOverlap_2 ?_
  refine r_istore_n C [(3, .int (jI 0)), (2, .int (jI 0)), (0, .ref (z + 0)), (1, .int (jI x1))] dX11_commonOverlap_3 rfl hl (by decide) rfl (fun ls hl => ?_)
  have hL4 : ∀ n4 : Nat, ∀ (x2 : Int) (x3 : Int), inR x2 → inR x3 → ∀ (H : Heap) (locs : List Loc) (ls : Array Slot), f_X11_commonOverlap_L4 x1 M n4  x2 x3 = some r → HS E z LyR M sM H locs → lv_has ls 4 [(0, .ref (z + 0)), (1, .int (jI x1)), (2, .int (jI x2)), (3, .int (jI x3))] → W p l e ({ frames := 0, cells := 0, slots := 0, locals := 0 } : Room) sM m (([.ref (z + 0), .int (jI x1)] : List Value).toArray) below meth c H locs 0 0 (MQ below (va_Qi (fun (w : Int32) (_ : Unit) => w = jI r ∧ inR r ∧ Mok LyR M) (fun _ t => va_P (eD E) vwCl (Wd (eC E) z LyR M) t.heap) (eA E)) (([.ref (z + 0), .int (jI x1)] : List Value).toArray) sM 0 0 (eA E)) (F0 m 4 ls []) := by
    intro n4
    induction n4 with
    | zero =>
      intro x2 x3 hx2 hx3 H locs ls h hM hl
      exact absurd h (by simp [f_X11_commonOverlap_L4])
    | succ n4 ih4 =>
      intro x2 x3 hx2 hx3 H locs ls h hM hl
      rw [f_X11_commonOverlap_L4] at h
      refine r_iload_n C dX11_commonOverlap_4 rfl hl 3 rfl ?_
      refine r_aload_n C dX11_commonOverlap_5 rfl hl 0 rfl ?_
      refine r_getR C hM jc11 14 13 dX11_commonOverlap_6 lk_X11_47 lr_0.1 lr_0.2 rfl rfl (by decide) rfl ?_
      refine r_iload_n C dX11_commonOverlap_9 rfl hl 1 rfl ?_
      replace h := ck_some h
      obtain ⟨hc1, h⟩ := h
      refine r_iald C hM rfl dX11_commonOverlap_10 lr_13.1 lr_13.2 hc1 hx1 ?_
      refine r_icmp_ge C 68 hx3 (hM.ok _ _) dX11_commonOverlap_11 (by decide) (fun cq => ?_) (fun cq => ?_)
      · replace h := ifp cq h
        refine r_iload_n C dX11_commonOverlap_68 rfl hl 2 rfl ?_
        exact r_ireturn C hM hr hlk hx2 h rfl dX11_commonOverlap_69
      · replace h := ifn cq h
        refine r_iload_n C dX11_commonOverlap_14 rfl hl 3 rfl ?_
        refine r_aload_n C dX11_commonOverlap_15 rfl hl 0 rfl ?_
        refine r_getR C hM jc11 14 13 dX11_commonOverlap_16 lk_X11_47 lr_0.1 lr_0.2 rfl rfl (by decide) rfl ?_
        refine r_iload_n C dX11_commonOverlap_19 rfl hl 1 rfl ?_
        refine r_iconst C dX11_commonOverlap_20 ?_
        replace h := ck_some h
        obtain ⟨hc2, h⟩ := h
        refine r_isub C dX11_commonOverlap_21 ?_
        replace h := ck_some h
        obtain ⟨hc3, h⟩ := h
        refine r_iald C hM rfl dX11_commonOverlap_22 lr_13.1 lr_13.2 hc3 hc2 ?_
        refine r_icmp_ge C 68 hx3 (hM.ok _ _) dX11_commonOverlap_23 (by decide) (fun cq => ?_) (fun cq => ?_)
        · replace h := ifp cq h
          refine r_iload_n C dX11_commonOverlap_68 rfl hl 2 rfl ?_
          exact r_ireturn C hM hr hlk hx2 h rfl dX11_commonOverlap_69
        · replace h := ifn cq h
          refine r_aload_n C dX11_commonOverlap_26 rfl hl 0 rfl ?_
          refine r_getR C hM jc11 15 14 dX11_commonOverlap_27 lk_X11_50 lr_0.1 lr_0.2 rfl rfl (by decide) rfl ?_
          refine r_iconst C dX11_commonOverlap_30 ?_
          refine r_iload_n C dX11_commonOverlap_31 rfl hl 1 rfl ?_
          replace h := ck_some h
          obtain ⟨hc4, h⟩ := h
          refine r_imul C dX11_commonOverlap_32 ?_
          refine r_iload_n C dX11_commonOverlap_33 rfl hl 3 rfl ?_
          replace h := ck_some h
          obtain ⟨hc5, h⟩ := h
          refine r_iadd C dX11_commonOverlap_34 ?_
          replace h := ck_some h
          obtain ⟨hc6, h⟩ := h
          refine r_iald C hM rfl dX11_commonOverlap_35 lr_14.1 lr_14.2 hc6 hc5 ?_
          refine r_aload_n C dX11_commonOverlap_36 rfl hl 0 rfl ?_
          refine r_getR C hM jc11 15 14 dX11_commonOverlap_37 lk_X11_50 lr_0.1 lr_0.2 rfl rfl (by decide) rfl ?_
          refine r_iconst C dX11_commonOverlap_40 ?_
          refine r_iload_n C dX11_commonOverlap_41 rfl hl 1 rfl ?_
          refine r_iconst C dX11_commonOverlap_42 ?_
          refine r_isub C dX11_commonOverlap_43 ?_
          replace h := ck_some h
          obtain ⟨hc7, h⟩ := h
          refine r_imul C dX11_commonOverlap_44 ?_
          refine r_iload_n C dX11_commonOverlap_45 rfl hl 3 rfl ?_
          replace h := ck_some h
          obtain ⟨hc8, h⟩ := h
          refine r_iadd C dX11_commonOverlap_46 ?_
          replace h := ck_some h
          obtain ⟨hc9, h⟩ := h
          refine r_iald C hM rfl dX11_commonOverlap_47 lr_14.1 lr_14.2 hc9 hc8 ?_
          refine r_icmp_ne C 68 (hM.ok _ _) (hM.ok _ _) dX11_commonOverlap_48 (by decide) (fun cq => ?_) (fun cq => ?_)
          · replace h := ifn cq h
            refine r_iload_n C dX11_commonOverlap_68 rfl hl 2 rfl ?_
            exact r_ireturn C hM hr hlk hx2 h rfl dX11_commonOverlap_69
          · replace h := ifp cq h
            refine r_aload_n C dX11_commonOverlap_51 rfl hl 0 rfl ?_
            refine r_getR C hM jc11 16 15 dX11_commonOverlap_52 lk_X11_53 lr_0.1 lr_0.2 rfl rfl (by decide) rfl ?_
            refine r_iconst C dX11_commonOverlap_55 ?_
            refine r_iload_n C dX11_commonOverlap_56 rfl hl 1 rfl ?_
            refine r_imul C dX11_commonOverlap_57 ?_
            refine r_iload_n C dX11_commonOverlap_58 rfl hl 3 rfl ?_
            refine r_iadd C dX11_commonOverlap_59 ?_
            refine r_iald C hM rfl dX11_commonOverlap_60 lr_15.1 lr_15.2 hc6 hc5 ?_
            refine r_istore_n C [(2, .int (jI (M 15 ((4 * x1) + x3).toNat))), (0, .ref (z + 0)), (1, .int (jI x1)), (3, .int (jI x3))] dX11_commonOverlap_61 rfl hl (by decide) rfl (fun ls hl => ?_)
            replace h := ck_some h
            obtain ⟨hc10, h⟩ := h
            refine r_iinc (j := 3) (x := x3) C [(3, .int (jI (x3 + 1))), (2, .int (jI (M 15 ((4 * x1) + x3).toNat))), (0, .ref (z + 0)), (1, .int (jI x1))] dX11_commonOverlap_62 hl rfl (by decide) rfl (fun ls hl => ?_)
            refine r_goto C 4 dX11_commonOverlap_65 (by decide) ?_
            exact ih4 _ _ (hM.ok _ _) hc10 _ _ _ h hM (lv_sub hl [2, 3, 1, 0] rfl)
  exact hL4 jFuel _ _ ⟨by decide, by decide⟩ ⟨by decide, by decide⟩ _ _ _ h hM0 (lv_sub hl [2, 3, 1, 0] rfl)
set_option maxRecDepth 100000 in
set_option maxHeartbeats 4000000 in
theorem c_X11_closes (l : Launch) (E : jE) (z : Nat) {x1 : Int} {M M' : Mem} {r : Int} (hx1 : inR x1) (h : f_X11_closes x1 M = some (r, M')) : CtI l yX11_closes cX11_closes 3 (some .int) { frames := 0, cells := 0, slots := 0, locals := 0 } E z LyR [.ref (z + 0), .int (jI x1)] M r M' := by
  refine jm (by decide +kernel) (Nat.le_of_ble_eq_true rfl) ?_
  intro p e sM m below meth c C hM0 hr hlk ls hl
  replace hl : lv_has ls 3 [(0, .ref (z + 0)), (1, .int (jI x1))] := hl
  unfold f_X11_closes at h
  refine r_aload_n C dX11_closes_0 rfl hl 0 rfl ?_
  refine r_getI C hM0 jc11 21 rfl dX11_closes_1 lk_X11_120 lr_0.1 lr_0.2 rfl rfl (by decide) rfl ?_
  refine r_iconst C dX11_closes_4 ?_
  replace h := ck_some h
  obtain ⟨hc1, h⟩ := h
  refine r_isub C dX11_closes_5 ?_
  refine r_istore_n C [(2, .int (jI ((M 0 21) - 1))), (0, .ref (z + 0)), (1, .int (jI x1))] dX11_closes_6 rfl hl (by decide) rfl (fun ls hl => ?_)
  refine r_aload_n C dX11_closes_7 rfl hl 1 rfl ?_
  refine r_getR C hM0 jc11 19 17 dX11_closes_8 lk_X11_59 lr_0.1 lr_0.2 rfl rfl (by decide) rfl ?_
  refine r_iload_n C dX11_closes_11 rfl hl 0 rfl ?_
  refine r_dup2 C dX11_closes_12 rfl rfl ?_
  replace h := ck_some h
  obtain ⟨hc2, h⟩ := h
  refine r_iald C hM0 rfl dX11_closes_13 lr_17.1 lr_17.2 hc2 hc1 ?_
  refine r_iconst C dX11_closes_14 ?_
  replace h := ck_some h
  obtain ⟨hc3, h⟩ := h
  refine r_isub C dX11_closes_15 ?_
  refine r_iast C hM0 dX11_closes_16 lr_17.1 lr_17.2 hc2 hc1 hc3 (fun H locs hM4 => ?_)
  replace h := lt_some h
  obtain ⟨N5, eN5, h⟩ := h
  rw [← eN5] at hM4
  refine r_aload_n C dX11_closes_17 rfl hl 1 rfl ?_
  refine r_getR C hM4 jc11 19 17 dX11_closes_18 lk_X11_59 lr_0.1 lr_0.2 rfl rfl (by decide) rfl ?_
  refine r_iload_n C dX11_closes_21 rfl hl 0 rfl ?_
  refine r_iald C hM4 rfl dX11_closes_22 lr_17.1 lr_17.2 hc2 hc1 ?_
  refine r_if_le C 35 (hM4.ok _ _) dX11_closes_23 (by decide) (fun cq => ?_) (fun cq => ?_)
  · replace h := ifp cq h
    refine r_aload_n C dX11_closes_35 rfl hl 1 rfl ?_
    refine r_dup C dX11_closes_36 rfl ?_
    refine r_getI C hM4 jc11 21 (rd_skip eN5 (by decide) rfl) dX11_closes_37 lk_X11_120 lr_0.1 lr_0.2 rfl rfl (by decide) rfl ?_
    refine r_iconst C dX11_closes_40 ?_
    refine r_isub C dX11_closes_41 ?_
    refine r_putI C hM4 jc11 21 hc1 dX11_closes_42 lk_X11_120 lr_0.1 lr_0.2 rfl rfl (by decide) rfl rfl rfl (Nat.le_of_ble_eq_true rfl) (by decide) (fun H locs hM6 => ?_)
    replace h := lt_some h
    obtain ⟨N7, eN7, h⟩ := h
    rw [← eN7] at hM6
    refine r_iload_n C dX11_closes_45 rfl hl 2 rfl ?_
    refine r_iconst C dX11_closes_46 ?_
    replace h := ck_some h
    obtain ⟨hc8, h⟩ := h
    refine r_iadd C dX11_closes_47 ?_
    exact r_ireturnM C hM6 hr hlk hc8 h dX11_closes_48
  · replace h := ifn cq h
    refine r_aload_n C dX11_closes_26 rfl hl 1 rfl ?_
    refine r_getR C hM4 jc11 18 16 dX11_closes_27 lk_X11_56 lr_0.1 lr_0.2 rfl rfl (by decide) rfl ?_
    refine r_iload_n C dX11_closes_30 rfl hl 0 rfl ?_
    refine r_iald C hM4 (rd_skip eN5 (by decide) rfl) dX11_closes_31 lr_16.1 lr_16.2 hc2 hc1 ?_
    refine r_iconst C dX11_closes_32 ?_
    replace h := ck_some h
    obtain ⟨hc9, h⟩ := h
    refine r_iadd C dX11_closes_33 ?_
    exact r_ireturnM C hM4 hr hlk hc9 h dX11_closes_34
set_option maxRecDepth 100000 in
set_option maxHeartbeats 4000000 in
theorem c_X11_goesThrough (l : Launch) (E : jE) (z : Nat) {x1 : Int} {M M' : Mem} {r : Int} (hx1 : inR x1) (h : f_X11_goesThrough x1 M = some (r, M')) : CtI l yX11_goesThrough cX11_goesThrough 2 (some .int) { frames := 2, cells := 0, slots := 0, locals := 46 } E z LyR [.ref (z + 0), .int (jI x1)] M r M' := by
  refine jm (by decide +kernel) (Nat.le_of_ble_eq_true rfl) ?_
  intro p e sM m below meth c C hM0 hr hlk ls hl
  replace hl : lv_has ls 2 [(0, .ref (z + 0)), (1, .int (jI x1))] := hl
  unfold f_X11_goesThrough at h
  refine r_aload_n C dX11_goesThrough_0 rfl hl 0 rfl ?_
  refine r_iload_n C dX11_goesThrough_1 rfl hl 1 rfl ?_
  refine r_iconst C dX11_goesThrough_2 ?_
  replace h := bd_some h
  obtain ⟨r3, hf3, h⟩ := h
  refine r_callI (As := [.int (jI x1), .int (jI 0)]) (rest := []) C hM0 (c_X11_r l E z hx1 ⟨by decide, by decide⟩ hf3) jy_X11_r lk_X11_129 dX11_goesThrough_3 (recvW C hM0 jc11 lr_0.1 lr_0.2 rfl) rfl rfl hl.1 (Nat.le_of_ble_eq_true rfl) ⟨Nat.le_of_ble_eq_true rfl, Nat.le_of_ble_eq_true rfl⟩ ⟨rfl, rfl⟩ ⟨Nat.zero_le _, Nat.zero_le _⟩ (fun H locs hr3 hM1 => ?_)
  by_cases cq : r3 = 2
  · replace h := ifp cq h
    refine r_table C 32 hr3 dX11_goesThrough_6 (by decide) (by rw [cq]; rfl) ?_
    refine r_aload_n C dX11_goesThrough_32 rfl hl 0 rfl ?_
    refine r_iload_n C dX11_goesThrough_33 rfl hl 1 rfl ?_
    refine r_aload_n C dX11_goesThrough_34 rfl hl 0 rfl ?_
    refine r_iload_n C dX11_goesThrough_35 rfl hl 1 rfl ?_
    refine r_iconst C dX11_goesThrough_36 ?_
    replace h := bd_some h
    obtain ⟨r37, hf37, h⟩ := h
    refine r_callI (As := [.int (jI x1), .int (jI 1)]) (rest := [.int (jI x1), .ref (z + 0)]) C hM1 (c_X11_r l E z hx1 ⟨by decide, by decide⟩ hf37) jy_X11_r lk_X11_129 dX11_goesThrough_37 (recvW C hM1 jc11 lr_0.1 lr_0.2 rfl) rfl rfl hl.1 (Nat.le_of_ble_eq_true rfl) ⟨Nat.le_of_ble_eq_true rfl, Nat.le_of_ble_eq_true rfl⟩ ⟨rfl, rfl⟩ ⟨Nat.zero_le _, Nat.zero_le _⟩ (fun H locs hr37 hM2 => ?_)
    refine r_iconst C dX11_goesThrough_40 ?_
    replace h := bd_some h
    obtain ⟨M41, hf41, h⟩ := h
    refine r_callV (As := [.int (jI x1), .int (jI r37), .int (jI 0)]) (rest := []) C hM2 (c_X11_opens l E z hx1 hr37 ⟨by decide, by decide⟩ hf41) jy_X11_opens lk_X11_137 dX11_goesThrough_41 (recvW C hM2 jc11 lr_0.1 lr_0.2 rfl) rfl rfl hl.1 (Nat.le_of_ble_eq_true rfl) ⟨Nat.le_of_ble_eq_true rfl, Nat.le_of_ble_eq_true rfl⟩ ⟨rfl, rfl⟩ ⟨Nat.zero_le _, Nat.zero_le _⟩ (fun H locs hM3 => ?_)
    refine r_iload_n C dX11_goesThrough_44 rfl hl 1 rfl ?_
    refine r_iconst C dX11_goesThrough_45 ?_
    replace h := ck_some h
    obtain ⟨hc4, h⟩ := h
    refine r_iadd C dX11_goesThrough_46 ?_
    exact r_ireturnM C hM3 hr hlk hc4 h dX11_goesThrough_47
  · replace h := ifn cq h
    have c6_2 := cq
    by_cases cq : r3 = 3
    · replace h := ifp cq h
      refine r_table C 48 hr3 dX11_goesThrough_6 (by decide) (by rw [cq]; rfl) ?_
      refine r_aload_n C dX11_goesThrough_48 rfl hl 0 rfl ?_
      refine r_iload_n C dX11_goesThrough_49 rfl hl 1 rfl ?_
      refine r_iconst C dX11_goesThrough_50 ?_
      refine r_iconst C dX11_goesThrough_51 ?_
      replace h := bd_some h
      obtain ⟨M52, hf52, h⟩ := h
      refine r_callV (As := [.int (jI x1), .int (jI 1), .int (jI 1)]) (rest := []) C hM1 (c_X11_opens l E z hx1 ⟨by decide, by decide⟩ ⟨by decide, by decide⟩ hf52) jy_X11_opens lk_X11_137 dX11_goesThrough_52 (recvW C hM1 jc11 lr_0.1 lr_0.2 rfl) rfl rfl hl.1 (Nat.le_of_ble_eq_true rfl) ⟨Nat.le_of_ble_eq_true rfl, Nat.le_of_ble_eq_true rfl⟩ ⟨rfl, rfl⟩ ⟨Nat.zero_le _, Nat.zero_le _⟩ (fun H locs hM5 => ?_)
      refine r_iload_n C dX11_goesThrough_55 rfl hl 1 rfl ?_
      refine r_iconst C dX11_goesThrough_56 ?_
      replace h := ck_some h
      obtain ⟨hc6, h⟩ := h
      refine r_iadd C dX11_goesThrough_57 ?_
      exact r_ireturnM C hM5 hr hlk hc6 h dX11_goesThrough_58
    · replace h := ifn cq h
      have c6_3 := cq
      by_cases cq : r3 = 4
      · replace h := ifp cq h
        refine r_table C 59 hr3 dX11_goesThrough_6 (by decide) (by rw [cq]; rfl) ?_
        refine r_aload_n C dX11_goesThrough_59 rfl hl 0 rfl ?_
        refine r_iload_n C dX11_goesThrough_60 rfl hl 1 rfl ?_
        replace h := bd_some h
        obtain ⟨⟨r61, M61⟩, hf61, h⟩ := h
        try dsimp only at h
        refine r_callI (As := [.int (jI x1)]) (rest := []) C hM1 (c_X11_closes l E z hx1 hf61) jy_X11_closes lk_X11_141 dX11_goesThrough_61 (recvW C hM1 jc11 lr_0.1 lr_0.2 rfl) rfl rfl hl.1 (Nat.le_of_ble_eq_true rfl) ⟨Nat.le_of_ble_eq_true rfl, Nat.le_of_ble_eq_true rfl⟩ ⟨rfl, rfl⟩ ⟨Nat.zero_le _, Nat.zero_le _⟩ (fun H locs hr61 hM7 => ?_)
        exact r_ireturnM C hM7 hr hlk hr61 h dX11_goesThrough_64
      · replace h := ifn cq h
        have c6_4 := cq
        have cd : jsw 6 2 4 (59) #[(26), (42), (53)] r3 = (65 : Int) := by
          have cz : (r3 < 2 ∨ 4 < r3) := by omega
          · unfold jsw; rw [if_pos cz]; rfl
        refine r_table C 65 hr3 dX11_goesThrough_6 (by decide) cd ?_
        refine r_aload_n C dX11_goesThrough_65 rfl hl 0 rfl ?_
        refine r_iload_n C dX11_goesThrough_66 rfl hl 1 rfl ?_
        replace h := bd_some h
        obtain ⟨M67, hf67, h⟩ := h
        refine r_callV (As := [.int (jI x1)]) (rest := []) C hM1 (c_X11_addsPiece l E z hx1 hf67) jy_X11_addsPiece lk_X11_144 dX11_goesThrough_67 (recvW C hM1 jc11 lr_0.1 lr_0.2 rfl) rfl rfl hl.1 (Nat.le_of_ble_eq_true rfl) ⟨Nat.le_of_ble_eq_true rfl, Nat.le_of_ble_eq_true rfl⟩ ⟨rfl, rfl⟩ ⟨Nat.zero_le _, Nat.zero_le _⟩ (fun H locs hM8 => ?_)
        refine r_iload_n C dX11_goesThrough_70 rfl hl 1 rfl ?_
        refine r_iconst C dX11_goesThrough_71 ?_
        replace h := ck_some h
        obtain ⟨hc9, h⟩ := h
        refine r_iadd C dX11_goesThrough_72 ?_
        exact r_ireturnM C hM8 hr hlk hc9 h dX11_goesThrough_73
set_option maxRecDepth 100000 in
set_option maxHeartbeats 4000000 in
theorem c_X11_endOf (l : Launch) (E : jE) (z : Nat) {x1 : Int} {M : Mem} {r : Int} (hx1 : inR x1) (h : f_X11_endOf x1 M = some r) : CtI l yX11_endOf cX11_endOf 2 (some .int) { frames := 0, cells := 0, slots := 0, locals := 0 } E z LyR [.ref (z + 0), .int (jI x1)] M r M := by
  refine jm (by decide +kernel) (Nat.le_of_ble_eq_true rfl) ?_
  intro p e sM m below meth c C hM0 hr hlk ls hl
  replace hl : lv_has ls 2 [(0, .ref (z + 0)), (1, .int (jI x1))] := hl
  unfold f_X11_endOf at h
  refine r_aload_n C dX11_endOf_0 rfl hl 0 rfl ?_
  refine r_getR C hM0 jc11 12 11 dX11_endOf_1 lk_X11_41 lr_0.1 lr_0.2 rfl rfl (by decide) rfl ?_
  refine r_iload_n C dX11_endOf_4 rfl hl 1 rfl ?_
  replace h := ck_some h
  obtain ⟨hc1, h⟩ := h
  refine r_iald C hM0 rfl dX11_endOf_5 lr_11.1 lr_11.2 hc1 hx1 ?_
  refine r_aload_n C dX11_endOf_6 rfl hl 0 rfl ?_
  refine r_getR C hM0 jc11 11 10 dX11_endOf_7 lk_X11_38 lr_0.1 lr_0.2 rfl rfl (by decide) rfl ?_
  refine r_iload_n C dX11_endOf_10 rfl hl 1 rfl ?_
  refine r_iald C hM0 rfl dX11_endOf_11 lr_10.1 lr_10.2 hc1 hx1 ?_
  replace h := ck_some h
  obtain ⟨hc2, h⟩ := h
  refine r_iadd C dX11_endOf_12 ?_
  exact r_ireturn C hM0 hr hlk hc2 h rfl dX11_endOf_13
set_option maxRecDepth 100000 in
set_option maxHeartbeats 4000000 in
theorem c_X11_laysPieces (l : Launch) (E : jE) (z : Nat) {M M' : Mem} (h : f_X11_laysPieces M = some M') : CtV l yX11_laysPieces cX11_laysPieces 3 none { frames := 3, cells := 0, slots := 0, locals := 67 } E z LyR [.ref (z + 0)] M M' := by
  refine jm (by decide +kernel) (Nat.le_of_ble_eq_true rfl) ?_
  intro p e sM m below meth c C hM0 hr hlk ls hl
  replace hl : lv_has ls 3 [(0, .ref (z + 0))] := hl
  unfold f_X11_laysPieces at h
  refine r_aload_n C dX11_laysPieces_0 rfl hl 0 rfl ?_
  refine r_iconst C dX11_laysPieces_1 ?_
  refine r_putI C hM0 jc11 17 ⟨by decide, by decide⟩ dX11_laysPieces_2 lk_X11_126 lr_0.1 lr_0.2 rfl rfl (by decide) rfl rfl rfl (Nat.le_of_ble_eq_true rfl) (by decide) (fun H locs hM1 => ?_)
  replace h := lt_some h
  obtain ⟨N2, eN2, h⟩ := h
  rw [← eN2] at hM1
  refine r_aload_n C dX11_laysPieces_5 rfl hl 0 rfl ?_
  refine r_iconst C dX11_laysPieces_6 ?_
  refine r_putI C hM1 jc11 21 ⟨by decide, by decide⟩ dX11_laysPieces_7 lk_X11_120 lr_0.1 lr_0.2 rfl rfl (by decide) rfl rfl rfl (Nat.le_of_ble_eq_true rfl) (by decide) (fun H locs hM3 => ?_)
  replace h := lt_some h
  obtain ⟨N4, eN4, h⟩ := h
  rw [← eN4] at hM3
  refine r_aload_n C dX11_laysPieces_10 rfl hl 0 rfl ?_
  refine r_iconst C dX11_laysPieces_11 ?_
  refine r_putI C hM3 jc11 22 ⟨by decide, by decide⟩ dX11_laysPieces_12 lk_X11_123 lr_0.1 lr_0.2 rfl rfl (by decide) rfl rfl rfl (Nat.le_of_ble_eq_true rfl) (by decide) (fun H locs hM5 => ?_)
  replace h := lt_some h
  obtain ⟨N6, eN6, h⟩ := h
  rw [← eN6] at hM5
  refine r_iconst C dX11_laysPieces_15 ?_
  refine r_istore_n C [(1, .int (jI 0)), (0, .ref (z + 0))] dX11_laysPieces_16 rfl hl (by decide) rfl (fun ls hl => ?_)
  have hL17 : ∀ n17 : Nat, ∀ (x1 : Int) (M : Mem), inR x1 → ∀ (H : Heap) (locs : List Loc) (ls : Array Slot), f_X11_laysPieces_L17 n17  x1 M = some M' → HS E z LyR M sM H locs → lv_has ls 3 [(0, .ref (z + 0)), (1, .int (jI x1))] → W p l e ({ frames := 3, cells := 0, slots := 0, locals := 67 } : Room) sM m (([.ref (z + 0)] : List Value).toArray) below meth c H locs 0 0 (MQ below (va_Qv (fun (_ : Unit) => Mok LyR M') (fun _ t => va_P (eD E) vwCl (Wd (eC E) z LyR M') t.heap) (eA E)) (([.ref (z + 0)] : List Value).toArray) sM 0 0 (eA E)) (F0 m 17 ls []) := by
    intro n17
    induction n17 with
    | zero =>
      intro x1 M hx1 H locs ls h hM hl
      exact absurd h (by simp [f_X11_laysPieces_L17])
    | succ n17 ih17 =>
      intro x1 M hx1 H locs ls h hM hl
      rw [f_X11_laysPieces_L17] at h
      refine r_iload_n C dX11_laysPieces_17 rfl hl 1 rfl ?_
      refine r_aload_n C dX11_laysPieces_18 rfl hl 0 rfl ?_
      refine r_getR C hM jc11 0 1 dX11_laysPieces_19 lk_X11_7 lr_0.1 lr_0.2 rfl rfl (by decide) rfl ?_
      refine r_bipush C dX11_laysPieces_22 rfl ?_
      refine r_iald C hM rfl dX11_laysPieces_24 lr_1.1 lr_1.2 (show (0 : Int) ≤ 8 ∧ (8 : Int) < 1062 by decide) ⟨by decide, by decide⟩ ?_
      refine r_icmp_ge C 46 hx1 (hM.ok _ _) dX11_laysPieces_25 (by decide) (fun cq => ?_) (fun cq => ?_)
      · replace h := ifp cq h
        refine r_iconst C dX11_laysPieces_46 ?_
        refine r_istore_n C [(2, .int (jI 0)), (0, .ref (z + 0)), (1, .int (jI x1))] dX11_laysPieces_47 rfl hl (by decide) rfl (fun ls hl => ?_)
        have hL48 : ∀ n48 : Nat, ∀ (x2 : Int) (M : Mem), inR x2 → ∀ (H : Heap) (locs : List Loc) (ls : Array Slot), f_X11_laysPieces_L48 n48  x2 M = some M' → HS E z LyR M sM H locs → lv_has ls 3 [(0, .ref (z + 0)), (2, .int (jI x2))] → W p l e ({ frames := 3, cells := 0, slots := 0, locals := 67 } : Room) sM m (([.ref (z + 0)] : List Value).toArray) below meth c H locs 0 0 (MQ below (va_Qv (fun (_ : Unit) => Mok LyR M') (fun _ t => va_P (eD E) vwCl (Wd (eC E) z LyR M') t.heap) (eA E)) (([.ref (z + 0)] : List Value).toArray) sM 0 0 (eA E)) (F0 m 48 ls []) := by
          intro n48
          induction n48 with
          | zero =>
            intro x2 M hx2 H locs ls h hM hl
            exact absurd h (by simp [f_X11_laysPieces_L48])
          | succ n48 ih48 =>
            intro x2 M hx2 H locs ls h hM hl
            rw [f_X11_laysPieces_L48] at h
            refine r_iload_n C dX11_laysPieces_48 rfl hl 1 rfl ?_
            refine r_aload_n C dX11_laysPieces_49 rfl hl 0 rfl ?_
            refine r_getI C hM jc11 17 rfl dX11_laysPieces_50 lk_X11_126 lr_0.1 lr_0.2 rfl rfl (by decide) rfl ?_
            refine r_icmp_ge C 131 hx2 (hM.ok _ _) dX11_laysPieces_53 (by decide) (fun cq => ?_) (fun cq => ?_)
            · replace h := ifp cq h
              exact r_return C hM hr hlk h dX11_laysPieces_131
            · replace h := ifn cq h
              refine r_aload_n C dX11_laysPieces_56 rfl hl 0 rfl ?_
              refine r_getR C hM jc11 13 12 dX11_laysPieces_57 lk_X11_44 lr_0.1 lr_0.2 rfl rfl (by decide) rfl ?_
              refine r_iload_n C dX11_laysPieces_60 rfl hl 1 rfl ?_
              refine r_iload_n C dX11_laysPieces_61 rfl hl 1 rfl ?_
              replace h := jn_some h
              obtain ⟨k96, hk96, h⟩ := h
              have hJ96 : ∀ (v96 : Int), inR v96 → ∀ (H : Heap) (locs : List Loc) (ls : Array Slot), k96 v96 = some M' → HS E z LyR M sM H locs → lv_has ls 3 [(0, .ref (z + 0)), (2, .int (jI x2))] → W p l e ({ frames := 3, cells := 0, slots := 0, locals := 67 } : Room) sM m (([.ref (z + 0)] : List Value).toArray) below meth c H locs 0 0 (MQ below (va_Qv (fun (_ : Unit) => Mok LyR M') (fun _ t => va_P (eD E) vwCl (Wd (eC E) z LyR M') t.heap) (eA E)) (([.ref (z + 0)] : List Value).toArray) sM 0 0 (eA E)) (F0 m 96 ls [.int (jI v96), .int (jI x2), .ref (z + 12)]) := by
                intro v96 hv96 H locs ls h hMj96 hl
                subst hk96
                try dsimp only at h
                replace h := ck_some h
                obtain ⟨hc7, h⟩ := h
                refine r_iast C hMj96 dX11_laysPieces_96 lr_12.1 lr_12.2 hc7 hx2 hv96 (fun H locs hM8 => ?_)
                replace h := lt_some h
                obtain ⟨N9, eN9, h⟩ := h
                rw [← eN9] at hM8
                refine r_aload_n C dX11_laysPieces_97 rfl hl 0 rfl ?_
                refine r_getR C hM8 jc11 12 11 dX11_laysPieces_98 lk_X11_41 lr_0.1 lr_0.2 rfl rfl (by decide) rfl ?_
                refine r_iload_n C dX11_laysPieces_101 rfl hl 1 rfl ?_
                refine r_iload_n C dX11_laysPieces_102 rfl hl 1 rfl ?_
                refine r_if_ne C 110 hx2 dX11_laysPieces_103 (by decide) (fun cq => ?_) (fun cq => ?_)
                · replace h := ifn cq h
                  refine r_aload_n C dX11_laysPieces_110 rfl hl 0 rfl ?_
                  refine r_iload_n C dX11_laysPieces_111 rfl hl 1 rfl ?_
                  refine r_iconst C dX11_laysPieces_112 ?_
                  replace h := ck_some h
                  obtain ⟨hc10, h⟩ := h
                  refine r_isub C dX11_laysPieces_113 ?_
                  replace h := bd_some h
                  obtain ⟨r114, hf114, h⟩ := h
                  refine r_callI (As := [.int (jI (x2 - 1))]) (rest := [.int (jI x2), .ref (z + 11)]) C hM8 (c_X11_endOf l E z hc10 hf114) jy_X11_endOf lk_X11_159 dX11_laysPieces_114 (recvW C hM8 jc11 lr_0.1 lr_0.2 rfl) rfl rfl hl.1 (Nat.le_of_ble_eq_true rfl) ⟨Nat.le_of_ble_eq_true rfl, Nat.le_of_ble_eq_true rfl⟩ ⟨rfl, rfl⟩ ⟨Nat.zero_le _, Nat.zero_le _⟩ (fun H locs hr114 hM11 => ?_)
                  refine r_aload_n C dX11_laysPieces_117 rfl hl 0 rfl ?_
                  refine r_getR C hM11 jc11 13 12 dX11_laysPieces_118 lk_X11_44 lr_0.1 lr_0.2 rfl rfl (by decide) rfl ?_
                  refine r_iload_n C dX11_laysPieces_121 rfl hl 1 rfl ?_
                  refine r_iald C hM11 rfl dX11_laysPieces_122 lr_12.1 lr_12.2 hc7 hx2 ?_
                  replace h := ck_some h
                  obtain ⟨hc12, h⟩ := h
                  refine r_isub C dX11_laysPieces_123 ?_
                  refine r_iast C hM11 dX11_laysPieces_124 lr_11.1 lr_11.2 hc7 hx2 hc12 (fun H locs hM13 => ?_)
                  replace h := lt_some h
                  obtain ⟨N14, eN14, h⟩ := h
                  rw [← eN14] at hM13
                  replace h := ck_some h
                  obtain ⟨hc15, h⟩ := h
                  refine r_iinc (j := 1) (x := x2) C [(2, .int (jI (x2 + 1))), (0, .ref (z + 0))] dX11_laysPieces_125 hl rfl (by decide) rfl (fun ls hl => ?_)
                  refine r_goto C 48 dX11_laysPieces_128 (by decide) ?_
                  exact ih48 _ _ hc15 _ _ _ h hM13 (lv_sub hl [1, 0] rfl)
                · replace h := ifp cq h
                  refine r_iconst C dX11_laysPieces_106 ?_
                  refine r_goto C 124 dX11_laysPieces_107 (by decide) ?_
                  refine r_iast C hM8 dX11_laysPieces_124 lr_11.1 lr_11.2 hc7 hx2 ⟨by decide, by decide⟩ (fun H locs hM16 => ?_)
                  replace h := lt_some h
                  obtain ⟨N17, eN17, h⟩ := h
                  rw [← eN17] at hM16
                  replace h := ck_some h
                  obtain ⟨hc18, h⟩ := h
                  refine r_iinc (j := 1) (x := x2) C [(2, .int (jI (x2 + 1))), (0, .ref (z + 0))] dX11_laysPieces_125 hl rfl (by decide) rfl (fun ls hl => ?_)
                  refine r_goto C 48 dX11_laysPieces_128 (by decide) ?_
                  exact ih48 _ _ hc18 _ _ _ h hM16 (lv_sub hl [1, 0] rfl)
              refine r_if_ne C 69 hx2 dX11_laysPieces_62 (by decide) (fun cq => ?_) (fun cq => ?_)
              · replace h := ifn cq h
                refine r_aload_n C dX11_laysPieces_69 rfl hl 0 rfl ?_
                refine r_iload_n C dX11_laysPieces_70 rfl hl 1 rfl ?_
                replace h := bd_some h
                obtain ⟨r71, hf71, h⟩ := h
                refine r_callI (As := [.int (jI x2)]) (rest := [.int (jI x2), .ref (z + 12)]) C hM (c_X11_commonOverlap l E z hx2 hf71) jy_X11_commonOverlap lk_X11_151 dX11_laysPieces_71 (recvW C hM jc11 lr_0.1 lr_0.2 rfl) rfl rfl hl.1 (Nat.le_of_ble_eq_true rfl) ⟨Nat.le_of_ble_eq_true rfl, Nat.le_of_ble_eq_true rfl⟩ ⟨rfl, rfl⟩ ⟨Nat.zero_le _, Nat.zero_le _⟩ (fun H locs hr71 hM19 => ?_)
                refine r_aload_n C dX11_laysPieces_74 rfl hl 0 rfl ?_
                refine r_getR C hM19 jc11 11 10 dX11_laysPieces_75 lk_X11_38 lr_0.1 lr_0.2 rfl rfl (by decide) rfl ?_
                refine r_iload_n C dX11_laysPieces_78 rfl hl 1 rfl ?_
                replace h := ck_some h
                obtain ⟨hc20, h⟩ := h
                refine r_iald C hM19 rfl dX11_laysPieces_79 lr_10.1 lr_10.2 hc20 hx2 ?_
                refine r_aload_n C dX11_laysPieces_80 rfl hl 0 rfl ?_
                refine r_getR C hM19 jc11 11 10 dX11_laysPieces_81 lk_X11_38 lr_0.1 lr_0.2 rfl rfl (by decide) rfl ?_
                refine r_iload_n C dX11_laysPieces_84 rfl hl 1 rfl ?_
                refine r_iconst C dX11_laysPieces_85 ?_
                replace h := ck_some h
                obtain ⟨hc21, h⟩ := h
                refine r_isub C dX11_laysPieces_86 ?_
                replace h := ck_some h
                obtain ⟨hc22, h⟩ := h
                refine r_iald C hM19 rfl dX11_laysPieces_87 lr_10.1 lr_10.2 hc22 hc21 ?_
                refine r_min C (hM.ok _ _) (hM.ok _ _) lk_X11_154 dX11_laysPieces_88 hl.1 ⟨Nat.le_of_ble_eq_true rfl, Nat.le_of_ble_eq_true rfl⟩ ⟨Nat.zero_le _, Nat.zero_le _⟩ ?_
                refine r_iconst C dX11_laysPieces_91 ?_
                refine r_idiv C ⟨by decide, by decide⟩ (by decide) dX11_laysPieces_92 ?_
                refine r_min C hr71 (idiv_R _ _) lk_X11_154 dX11_laysPieces_93 hl.1 ⟨Nat.le_of_ble_eq_true rfl, Nat.le_of_ble_eq_true rfl⟩ ⟨Nat.zero_le _, Nat.zero_le _⟩ ?_
                exact hJ96 _ (min_R hr71 (idiv_R _ _)) _ _ _ h hM19 (lv_sub hl [0, 1] rfl)
              · replace h := ifp cq h
                refine r_iconst C dX11_laysPieces_65 ?_
                refine r_goto C 96 dX11_laysPieces_66 (by decide) ?_
                exact hJ96 _ ⟨by decide, by decide⟩ _ _ _ h hM (lv_sub hl [0, 1] rfl)
        exact hL48 jFuel _ _ ⟨by decide, by decide⟩ _ _ _ h hM (lv_sub hl [1, 0] rfl)
      · replace h := ifn cq h
        refine r_aload_n C dX11_laysPieces_28 rfl hl 0 rfl ?_
        refine r_getI C hM jc11 17 rfl dX11_laysPieces_29 lk_X11_126 lr_0.1 lr_0.2 rfl rfl (by decide) rfl ?_
        refine r_bipush C dX11_laysPieces_32 rfl ?_
        refine r_icmp_gt C 46 (hM.ok _ _) ⟨by decide, by decide⟩ dX11_laysPieces_34 (by decide) (fun cq => ?_) (fun cq => ?_)
        · replace h := ifp cq h
          refine r_iconst C dX11_laysPieces_46 ?_
          refine r_istore_n C [(2, .int (jI 0)), (0, .ref (z + 0)), (1, .int (jI x1))] dX11_laysPieces_47 rfl hl (by decide) rfl (fun ls hl => ?_)
          have hL48 : ∀ n48 : Nat, ∀ (x2 : Int) (M : Mem), inR x2 → ∀ (H : Heap) (locs : List Loc) (ls : Array Slot), f_X11_laysPieces_L48 n48  x2 M = some M' → HS E z LyR M sM H locs → lv_has ls 3 [(0, .ref (z + 0)), (2, .int (jI x2))] → W p l e ({ frames := 3, cells := 0, slots := 0, locals := 67 } : Room) sM m (([.ref (z + 0)] : List Value).toArray) below meth c H locs 0 0 (MQ below (va_Qv (fun (_ : Unit) => Mok LyR M') (fun _ t => va_P (eD E) vwCl (Wd (eC E) z LyR M') t.heap) (eA E)) (([.ref (z + 0)] : List Value).toArray) sM 0 0 (eA E)) (F0 m 48 ls []) := by
            intro n48
            induction n48 with
            | zero =>
              intro x2 M hx2 H locs ls h hM hl
              exact absurd h (by simp [f_X11_laysPieces_L48])
            | succ n48 ih48 =>
              intro x2 M hx2 H locs ls h hM hl
              rw [f_X11_laysPieces_L48] at h
              refine r_iload_n C dX11_laysPieces_48 rfl hl 1 rfl ?_
              refine r_aload_n C dX11_laysPieces_49 rfl hl 0 rfl ?_
              refine r_getI C hM jc11 17 rfl dX11_laysPieces_50 lk_X11_126 lr_0.1 lr_0.2 rfl rfl (by decide) rfl ?_
              refine r_icmp_ge C 131 hx2 (hM.ok _ _) dX11_laysPieces_53 (by decide) (fun cq => ?_) (fun cq => ?_)
              · replace h := ifp cq h
                exact r_return C hM hr hlk h dX11_laysPieces_131
              · replace h := ifn cq h
                refine r_aload_n C dX11_laysPieces_56 rfl hl 0 rfl ?_
                refine r_getR C hM jc11 13 12 dX11_laysPieces_57 lk_X11_44 lr_0.1 lr_0.2 rfl rfl (by decide) rfl ?_
                refine r_iload_n C dX11_laysPieces_60 rfl hl 1 rfl ?_
                refine r_iload_n C dX11_laysPieces_61 rfl hl 1 rfl ?_
                replace h := jn_some h
                obtain ⟨k96, hk96, h⟩ := h
                have hJ96 : ∀ (v96 : Int), inR v96 → ∀ (H : Heap) (locs : List Loc) (ls : Array Slot), k96 v96 = some M' → HS E z LyR M sM H locs → lv_has ls 3 [(0, .ref (z + 0)), (2, .int (jI x2))] → W p l e ({ frames := 3, cells := 0, slots := 0, locals := 67 } : Room) sM m (([.ref (z + 0)] : List Value).toArray) below meth c H locs 0 0 (MQ below (va_Qv (fun (_ : Unit) => Mok LyR M') (fun _ t => va_P (eD E) vwCl (Wd (eC E) z LyR M') t.heap) (eA E)) (([.ref (z + 0)] : List Value).toArray) sM 0 0 (eA E)) (F0 m 96 ls [.int (jI v96), .int (jI x2), .ref (z + 12)]) := by
                  intro v96 hv96 H locs ls h hMj96 hl
                  subst hk96
                  try dsimp only at h
                  replace h := ck_some h
                  obtain ⟨hc23, h⟩ := h
                  refine r_iast C hMj96 dX11_laysPieces_96 lr_12.1 lr_12.2 hc23 hx2 hv96 (fun H locs hM24 => ?_)
                  replace h := lt_some h
                  obtain ⟨N25, eN25, h⟩ := h
                  rw [← eN25] at hM24
                  refine r_aload_n C dX11_laysPieces_97 rfl hl 0 rfl ?_
                  refine r_getR C hM24 jc11 12 11 dX11_laysPieces_98 lk_X11_41 lr_0.1 lr_0.2 rfl rfl (by decide) rfl ?_
                  refine r_iload_n C dX11_laysPieces_101 rfl hl 1 rfl ?_
                  refine r_iload_n C dX11_laysPieces_102 rfl hl 1 rfl ?_
                  refine r_if_ne C 110 hx2 dX11_laysPieces_103 (by decide) (fun cq => ?_) (fun cq => ?_)
                  · replace h := ifn cq h
                    refine r_aload_n C dX11_laysPieces_110 rfl hl 0 rfl ?_
                    refine r_iload_n C dX11_laysPieces_111 rfl hl 1 rfl ?_
                    refine r_iconst C dX11_laysPieces_112 ?_
                    replace h := ck_some h
                    obtain ⟨hc26, h⟩ := h
                    refine r_isub C dX11_laysPieces_113 ?_
                    replace h := bd_some h
                    obtain ⟨r114, hf114, h⟩ := h
                    refine r_callI (As := [.int (jI (x2 - 1))]) (rest := [.int (jI x2), .ref (z + 11)]) C hM24 (c_X11_endOf l E z hc26 hf114) jy_X11_endOf lk_X11_159 dX11_laysPieces_114 (recvW C hM24 jc11 lr_0.1 lr_0.2 rfl) rfl rfl hl.1 (Nat.le_of_ble_eq_true rfl) ⟨Nat.le_of_ble_eq_true rfl, Nat.le_of_ble_eq_true rfl⟩ ⟨rfl, rfl⟩ ⟨Nat.zero_le _, Nat.zero_le _⟩ (fun H locs hr114 hM27 => ?_)
                    refine r_aload_n C dX11_laysPieces_117 rfl hl 0 rfl ?_
                    refine r_getR C hM27 jc11 13 12 dX11_laysPieces_118 lk_X11_44 lr_0.1 lr_0.2 rfl rfl (by decide) rfl ?_
                    refine r_iload_n C dX11_laysPieces_121 rfl hl 1 rfl ?_
                    refine r_iald C hM27 rfl dX11_laysPieces_122 lr_12.1 lr_12.2 hc23 hx2 ?_
                    replace h := ck_some h
                    obtain ⟨hc28, h⟩ := h
                    refine r_isub C dX11_laysPieces_123 ?_
                    refine r_iast C hM27 dX11_laysPieces_124 lr_11.1 lr_11.2 hc23 hx2 hc28 (fun H locs hM29 => ?_)
                    replace h := lt_some h
                    obtain ⟨N30, eN30, h⟩ := h
                    rw [← eN30] at hM29
                    replace h := ck_some h
                    obtain ⟨hc31, h⟩ := h
                    refine r_iinc (j := 1) (x := x2) C [(2, .int (jI (x2 + 1))), (0, .ref (z + 0))] dX11_laysPieces_125 hl rfl (by decide) rfl (fun ls hl => ?_)
                    refine r_goto C 48 dX11_laysPieces_128 (by decide) ?_
                    exact ih48 _ _ hc31 _ _ _ h hM29 (lv_sub hl [1, 0] rfl)
                  · replace h := ifp cq h
                    refine r_iconst C dX11_laysPieces_106 ?_
                    refine r_goto C 124 dX11_laysPieces_107 (by decide) ?_
                    refine r_iast C hM24 dX11_laysPieces_124 lr_11.1 lr_11.2 hc23 hx2 ⟨by decide, by decide⟩ (fun H locs hM32 => ?_)
                    replace h := lt_some h
                    obtain ⟨N33, eN33, h⟩ := h
                    rw [← eN33] at hM32
                    replace h := ck_some h
                    obtain ⟨hc34, h⟩ := h
                    refine r_iinc (j := 1) (x := x2) C [(2, .int (jI (x2 + 1))), (0, .ref (z + 0))] dX11_laysPieces_125 hl rfl (by decide) rfl (fun ls hl => ?_)
                    refine r_goto C 48 dX11_laysPieces_128 (by decide) ?_
                    exact ih48 _ _ hc34 _ _ _ h hM32 (lv_sub hl [1, 0] rfl)
                refine r_if_ne C 69 hx2 dX11_laysPieces_62 (by decide) (fun cq => ?_) (fun cq => ?_)
                · replace h := ifn cq h
                  refine r_aload_n C dX11_laysPieces_69 rfl hl 0 rfl ?_
                  refine r_iload_n C dX11_laysPieces_70 rfl hl 1 rfl ?_
                  replace h := bd_some h
                  obtain ⟨r71, hf71, h⟩ := h
                  refine r_callI (As := [.int (jI x2)]) (rest := [.int (jI x2), .ref (z + 12)]) C hM (c_X11_commonOverlap l E z hx2 hf71) jy_X11_commonOverlap lk_X11_151 dX11_laysPieces_71 (recvW C hM jc11 lr_0.1 lr_0.2 rfl) rfl rfl hl.1 (Nat.le_of_ble_eq_true rfl) ⟨Nat.le_of_ble_eq_true rfl, Nat.le_of_ble_eq_true rfl⟩ ⟨rfl, rfl⟩ ⟨Nat.zero_le _, Nat.zero_le _⟩ (fun H locs hr71 hM35 => ?_)
                  refine r_aload_n C dX11_laysPieces_74 rfl hl 0 rfl ?_
                  refine r_getR C hM35 jc11 11 10 dX11_laysPieces_75 lk_X11_38 lr_0.1 lr_0.2 rfl rfl (by decide) rfl ?_
                  refine r_iload_n C dX11_laysPieces_78 rfl hl 1 rfl ?_
                  replace h := ck_some h
                  obtain ⟨hc36, h⟩ := h
                  refine r_iald C hM35 rfl dX11_laysPieces_79 lr_10.1 lr_10.2 hc36 hx2 ?_
                  refine r_aload_n C dX11_laysPieces_80 rfl hl 0 rfl ?_
                  refine r_getR C hM35 jc11 11 10 dX11_laysPieces_81 lk_X11_38 lr_0.1 lr_0.2 rfl rfl (by decide) rfl ?_
                  refine r_iload_n C dX11_laysPieces_84 rfl hl 1 rfl ?_
                  refine r_iconst C dX11_laysPieces_85 ?_
                  replace h := ck_some h
                  obtain ⟨hc37, h⟩ := h
                  refine r_isub C dX11_laysPieces_86 ?_
                  replace h := ck_some h
                  obtain ⟨hc38, h⟩ := h
                  refine r_iald C hM35 rfl dX11_laysPieces_87 lr_10.1 lr_10.2 hc38 hc37 ?_
                  refine r_min C (hM.ok _ _) (hM.ok _ _) lk_X11_154 dX11_laysPieces_88 hl.1 ⟨Nat.le_of_ble_eq_true rfl, Nat.le_of_ble_eq_true rfl⟩ ⟨Nat.zero_le _, Nat.zero_le _⟩ ?_
                  refine r_iconst C dX11_laysPieces_91 ?_
                  refine r_idiv C ⟨by decide, by decide⟩ (by decide) dX11_laysPieces_92 ?_
                  refine r_min C hr71 (idiv_R _ _) lk_X11_154 dX11_laysPieces_93 hl.1 ⟨Nat.le_of_ble_eq_true rfl, Nat.le_of_ble_eq_true rfl⟩ ⟨Nat.zero_le _, Nat.zero_le _⟩ ?_
                  exact hJ96 _ (min_R hr71 (idiv_R _ _)) _ _ _ h hM35 (lv_sub hl [0, 1] rfl)
                · replace h := ifp cq h
                  refine r_iconst C dX11_laysPieces_65 ?_
                  refine r_goto C 96 dX11_laysPieces_66 (by decide) ?_
                  exact hJ96 _ ⟨by decide, by decide⟩ _ _ _ h hM (lv_sub hl [0, 1] rfl)
          exact hL48 jFuel _ _ ⟨by decide, by decide⟩ _ _ _ h hM (lv_sub hl [1, 0] rfl)
        · replace h := ifn cq h
          refine r_aload_n C dX11_laysPieces_37 rfl hl 0 rfl ?_
          refine r_iload_n C dX11_laysPieces_38 rfl hl 1 rfl ?_
          replace h := bd_some h
          obtain ⟨⟨r39, M39⟩, hf39, h⟩ := h
          try dsimp only at h
          refine r_callI (As := [.int (jI x1)]) (rest := []) C hM (c_X11_goesThrough l E z hx1 hf39) jy_X11_goesThrough lk_X11_148 dX11_laysPieces_39 (recvW C hM jc11 lr_0.1 lr_0.2 rfl) rfl rfl hl.1 (Nat.le_of_ble_eq_true rfl) ⟨Nat.le_of_ble_eq_true rfl, Nat.le_of_ble_eq_true rfl⟩ ⟨rfl, rfl⟩ ⟨Nat.zero_le _, Nat.zero_le _⟩ (fun H locs hr39 hM39 => ?_)
          refine r_istore_n C [(1, .int (jI r39)), (0, .ref (z + 0))] dX11_laysPieces_42 rfl hl (by decide) rfl (fun ls hl => ?_)
          refine r_goto C 17 dX11_laysPieces_43 (by decide) ?_
          exact ih17 _ _ hr39 _ _ _ h hM39 (lv_sub hl [1, 0] rfl)
  exact hL17 jFuel _ _ ⟨by decide, by decide⟩ _ _ _ h hM5 (lv_sub hl [1, 0] rfl)
set_option maxRecDepth 100000 in
set_option maxHeartbeats 4000000 in
theorem c_X11_theEnd (l : Launch) (E : jE) (z : Nat) {M : Mem} {r : Int} (h : f_X11_theEnd M = some r) : CtI l yX11_theEnd cX11_theEnd 3 (some .int) { frames := 1, cells := 0, slots := 0, locals := 21 } E z LyR [.ref (z + 0)] M r M := by
  refine jm (by decide +kernel) (Nat.le_of_ble_eq_true rfl) ?_
  intro p e sM m below meth c C hM0 hr hlk ls hl
  replace hl : lv_has ls 3 [(0, .ref (z + 0))] := hl
  unfold f_X11_theEnd at h
  refine r_iconst C dX11_theEnd_0 ?_
  refine r_istore_n C [(1, .int (jI 0)), (0, .ref (z + 0))] dX11_theEnd_1 rfl hl (by decide) rfl (fun ls hl => ?_)
  refine r_iconst C dX11_theEnd_2 ?_
  refine r_istore_n C [(2, .int (jI 0)), (1, .int (jI 0)), (0, .ref (z + 0))] dX11_theEnd_3 rfl hl (by decide) rfl (fun ls hl => ?_)
  have hL4 : ∀ n4 : Nat, ∀ (x1 : Int) (x2 : Int), inR x1 → inR x2 → ∀ (H : Heap) (locs : List Loc) (ls : Array Slot), f_X11_theEnd_L4 M n4  x1 x2 = some r → HS E z LyR M sM H locs → lv_has ls 3 [(0, .ref (z + 0)), (1, .int (jI x1)), (2, .int (jI x2))] → W p l e ({ frames := 1, cells := 0, slots := 0, locals := 21 } : Room) sM m (([.ref (z + 0)] : List Value).toArray) below meth c H locs 0 0 (MQ below (va_Qi (fun (w : Int32) (_ : Unit) => w = jI r ∧ inR r ∧ Mok LyR M) (fun _ t => va_P (eD E) vwCl (Wd (eC E) z LyR M) t.heap) (eA E)) (([.ref (z + 0)] : List Value).toArray) sM 0 0 (eA E)) (F0 m 4 ls []) := by
    intro n4
    induction n4 with
    | zero =>
      intro x1 x2 hx1 hx2 H locs ls h hM hl
      exact absurd h (by simp [f_X11_theEnd_L4])
    | succ n4 ih4 =>
      intro x1 x2 hx1 hx2 H locs ls h hM hl
      rw [f_X11_theEnd_L4] at h
      refine r_iload_n C dX11_theEnd_4 rfl hl 2 rfl ?_
      refine r_aload_n C dX11_theEnd_5 rfl hl 0 rfl ?_
      refine r_getI C hM jc11 17 rfl dX11_theEnd_6 lk_X11_126 lr_0.1 lr_0.2 rfl rfl (by decide) rfl ?_
      refine r_icmp_ge C 28 hx2 (hM.ok _ _) dX11_theEnd_9 (by decide) (fun cq => ?_) (fun cq => ?_)
      · replace h := ifp cq h
        refine r_iload_n C dX11_theEnd_28 rfl hl 1 rfl ?_
        exact r_ireturn C hM hr hlk hx1 h rfl dX11_theEnd_29
      · replace h := ifn cq h
        refine r_iload_n C dX11_theEnd_12 rfl hl 1 rfl ?_
        refine r_aload_n C dX11_theEnd_13 rfl hl 0 rfl ?_
        refine r_iload_n C dX11_theEnd_14 rfl hl 2 rfl ?_
        replace h := bd_some h
        obtain ⟨r15, hf15, h⟩ := h
        refine r_callI (As := [.int (jI x2)]) (rest := [.int (jI x1)]) C hM (c_X11_endOf l E z hx2 hf15) jy_X11_endOf lk_X11_159 dX11_theEnd_15 (recvW C hM jc11 lr_0.1 lr_0.2 rfl) rfl rfl hl.1 (Nat.le_of_ble_eq_true rfl) ⟨Nat.le_of_ble_eq_true rfl, Nat.le_of_ble_eq_true rfl⟩ ⟨rfl, rfl⟩ ⟨Nat.zero_le _, Nat.zero_le _⟩ (fun H locs hr15 hM1 => ?_)
        refine r_max C hx1 hr15 lk_X11_162 dX11_theEnd_18 hl.1 ⟨Nat.le_of_ble_eq_true rfl, Nat.le_of_ble_eq_true rfl⟩ ⟨Nat.zero_le _, Nat.zero_le _⟩ ?_
        refine r_istore_n C [(1, .int (jI (max x1 r15))), (0, .ref (z + 0)), (2, .int (jI x2))] dX11_theEnd_21 rfl hl (by decide) rfl (fun ls hl => ?_)
        replace h := ck_some h
        obtain ⟨hc2, h⟩ := h
        refine r_iinc (j := 2) (x := x2) C [(2, .int (jI (x2 + 1))), (1, .int (jI (max x1 r15))), (0, .ref (z + 0))] dX11_theEnd_22 hl rfl (by decide) rfl (fun ls hl => ?_)
        refine r_goto C 4 dX11_theEnd_25 (by decide) ?_
        exact ih4 _ _ (max_R hx1 hr15) hc2 _ _ _ h hM1 (lv_sub hl [2, 1, 0] rfl)
  exact hL4 jFuel _ _ ⟨by decide, by decide⟩ ⟨by decide, by decide⟩ _ _ _ h hM0 (lv_sub hl [2, 1, 0] rfl)
set_option maxRecDepth 100000 in
set_option maxHeartbeats 4000000 in
theorem c_X11_screenIn (l : Launch) (E : jE) (z : Nat) {x1 : Int} {M : Mem} {r : Int} (hx1 : inR x1) (h : f_X11_screenIn x1 M = some r) : CtI l yX11_screenIn cX11_screenIn 3 (some .int) { frames := 1, cells := 0, slots := 0, locals := 22 } E z LyR [.ref (z + 0), .int (jI x1)] M r M := by
  refine jm (by decide +kernel) (Nat.le_of_ble_eq_true rfl) ?_
  intro p e sM m below meth c C hM0 hr hlk ls hl
  replace hl : lv_has ls 3 [(0, .ref (z + 0)), (1, .int (jI x1))] := hl
  unfold f_X11_screenIn at h
  refine r_aload_n C dX11_screenIn_0 rfl hl 0 rfl ?_
  refine r_getI C hM0 jc11 17 rfl dX11_screenIn_1 lk_X11_126 lr_0.1 lr_0.2 rfl rfl (by decide) rfl ?_
  refine r_iconst C dX11_screenIn_4 ?_
  replace h := ck_some h
  obtain ⟨hc1, h⟩ := h
  refine r_isub C dX11_screenIn_5 ?_
  refine r_istore_n C [(2, .int (jI ((M 0 17) - 1))), (0, .ref (z + 0)), (1, .int (jI x1))] dX11_screenIn_6 rfl hl (by decide) rfl (fun ls hl => ?_)
  have hL7 : ∀ n7 : Nat, ∀ (x2 : Int), inR x2 → ∀ (H : Heap) (locs : List Loc) (ls : Array Slot), f_X11_screenIn_L7 x1 M n7  x2 = some r → HS E z LyR M sM H locs → lv_has ls 3 [(0, .ref (z + 0)), (1, .int (jI x1)), (2, .int (jI x2))] → W p l e ({ frames := 1, cells := 0, slots := 0, locals := 22 } : Room) sM m (([.ref (z + 0), .int (jI x1)] : List Value).toArray) below meth c H locs 0 0 (MQ below (va_Qi (fun (w : Int32) (_ : Unit) => w = jI r ∧ inR r ∧ Mok LyR M) (fun _ t => va_P (eD E) vwCl (Wd (eC E) z LyR M) t.heap) (eA E)) (([.ref (z + 0), .int (jI x1)] : List Value).toArray) sM 0 0 (eA E)) (F0 m 7 ls []) := by
    intro n7
    induction n7 with
    | zero =>
      intro x2 hx2 H locs ls h hM hl
      exact absurd h (by simp [f_X11_screenIn_L7])
    | succ n7 ih7 =>
      intro x2 hx2 H locs ls h hM hl
      rw [f_X11_screenIn_L7] at h
      refine r_iload_n C dX11_screenIn_7 rfl hl 2 rfl ?_
      refine r_if_lt C 39 hx2 dX11_screenIn_8 (by decide) (fun cq => ?_) (fun cq => ?_)
      · replace h := ifp cq h
        refine r_iconst C dX11_screenIn_39 ?_
        exact r_ireturn C hM hr hlk ⟨by decide, by decide⟩ h rfl dX11_screenIn_40
      · replace h := ifn cq h
        refine r_iload_n C dX11_screenIn_11 rfl hl 1 rfl ?_
        refine r_aload_n C dX11_screenIn_12 rfl hl 0 rfl ?_
        refine r_getR C hM jc11 12 11 dX11_screenIn_13 lk_X11_41 lr_0.1 lr_0.2 rfl rfl (by decide) rfl ?_
        refine r_iload_n C dX11_screenIn_16 rfl hl 2 rfl ?_
        replace h := ck_some h
        obtain ⟨hc2, h⟩ := h
        refine r_iald C hM rfl dX11_screenIn_17 lr_11.1 lr_11.2 hc2 hx2 ?_
        refine r_aload_n C dX11_screenIn_18 rfl hl 0 rfl ?_
        refine r_iload_n C dX11_screenIn_19 rfl hl 2 rfl ?_
        replace h := bd_some h
        obtain ⟨r20, hf20, h⟩ := h
        refine r_callI (As := [.int (jI x2)]) (rest := [.int (jI (M 11 x2.toNat)), .int (jI x1)]) C hM (c_X11_endOf l E z hx2 hf20) jy_X11_endOf lk_X11_159 dX11_screenIn_20 (recvW C hM jc11 lr_0.1 lr_0.2 rfl) rfl rfl hl.1 (Nat.le_of_ble_eq_true rfl) ⟨Nat.le_of_ble_eq_true rfl, Nat.le_of_ble_eq_true rfl⟩ ⟨rfl, rfl⟩ ⟨Nat.zero_le _, Nat.zero_le _⟩ (fun H locs hr20 hM3 => ?_)
        refine r_iconst C dX11_screenIn_23 ?_
        replace h := ck_some h
        obtain ⟨hc4, h⟩ := h
        refine r_isub C dX11_screenIn_24 ?_
        replace h := bd_some h
        obtain ⟨r25, hf25, h⟩ := h
        refine r_callSI (As := [.int (jI x1), .int (jI (M 11 x2.toNat)), .int (jI (r20 - 1))]) (rest := []) C hM3 (c_X11_isIn l E z hx1 (hM.ok _ _) hc4 hf25) jy_X11_isIn lk_X11_112 dX11_screenIn_25 rfl rfl hl.1 (Nat.le_of_ble_eq_true rfl) ⟨Nat.le_of_ble_eq_true rfl, Nat.le_of_ble_eq_true rfl⟩ ⟨rfl, rfl⟩ ⟨Nat.zero_le _, Nat.zero_le _⟩ (fun H locs hr25 hM5 => ?_)
        refine r_if_eq C 33 hr25 dX11_screenIn_28 (by decide) (fun cq => ?_) (fun cq => ?_)
        · replace h := ifp cq h
          replace h := ck_some h
          obtain ⟨hc6, h⟩ := h
          refine r_iinc (j := 2) (x := x2) C [(2, .int (jI (x2 + (-1)))), (0, .ref (z + 0)), (1, .int (jI x1))] dX11_screenIn_33 hl rfl (by decide) rfl (fun ls hl => ?_)
          refine r_goto C 7 dX11_screenIn_36 (by decide) ?_
          exact ih7 _ hc6 _ _ _ h hM5 (lv_sub hl [1, 2, 0] rfl)
        · replace h := ifn cq h
          refine r_iload_n C dX11_screenIn_31 rfl hl 2 rfl ?_
          exact r_ireturn C hM5 hr hlk hx2 h rfl dX11_screenIn_32
  exact hL7 jFuel _ hc1 _ _ _ h hM0 (lv_sub hl [1, 2, 0] rfl)
set_option maxRecDepth 100000 in
set_option maxHeartbeats 4000000 in
theorem c_X11_w (l : Launch) (E : jE) (z : Nat) {x1 : Int} {x2 : Int} {M : Mem} {r : Int} (hx1 : inR x1) (hx2 : inR x2) (h : f_X11_w x1 x2 M = some r) : CtI l yX11_w cX11_w 3 (some .int) { frames := 0, cells := 0, slots := 0, locals := 0 } E z LyR [.ref (z + 0), .int (jI x1), .int (jI x2)] M r M := by
  refine jm (by decide +kernel) (Nat.le_of_ble_eq_true rfl) ?_
  intro p e sM m below meth c C hM0 hr hlk ls hl
  replace hl : lv_has ls 3 [(0, .ref (z + 0)), (1, .int (jI x1)), (2, .int (jI x2))] := hl
  unfold f_X11_w at h
  refine r_aload_n C dX11_w_0 rfl hl 0 rfl ?_
  refine r_getR C hM0 jc11 0 1 dX11_w_1 lk_X11_7 lr_0.1 lr_0.2 rfl rfl (by decide) rfl ?_
  refine r_sipush C dX11_w_4 rfl ?_
  refine r_iconst C dX11_w_7 ?_
  refine r_iload_n C dX11_w_8 rfl hl 1 rfl ?_
  replace h := ck_some h
  obtain ⟨hc1, h⟩ := h
  refine r_imul C dX11_w_9 ?_
  replace h := ck_some h
  obtain ⟨hc2, h⟩ := h
  refine r_iadd C dX11_w_10 ?_
  refine r_iload_n C dX11_w_11 rfl hl 2 rfl ?_
  replace h := ck_some h
  obtain ⟨hc3, h⟩ := h
  refine r_iadd C dX11_w_12 ?_
  replace h := ck_some h
  obtain ⟨hc4, h⟩ := h
  refine r_iald C hM0 rfl dX11_w_13 lr_1.1 lr_1.2 hc4 hc3 ?_
  exact r_ireturn C hM0 hr hlk (hM0.ok _ _) h rfl dX11_w_14
set_option maxRecDepth 100000 in
set_option maxHeartbeats 4000000 in
theorem c_X11_letter (l : Launch) (E : jE) (z : Nat) {x1 : Int} {x2 : Int} {M : Mem} {r : Int} (hx1 : inR x1) (hx2 : inR x2) (h : f_X11_letter x1 x2 M = some r) : CtI l yX11_letter cX11_letter 3 (some .int) { frames := 1, cells := 0, slots := 0, locals := 22 } E z LyR [.ref (z + 0), .int (jI x1), .int (jI x2)] M r M := by
  refine jm (by decide +kernel) (Nat.le_of_ble_eq_true rfl) ?_
  intro p e sM m below meth c C hM0 hr hlk ls hl
  replace hl : lv_has ls 3 [(0, .ref (z + 0)), (1, .int (jI x1)), (2, .int (jI x2))] := hl
  unfold f_X11_letter at h
  refine r_aload_n C dX11_letter_0 rfl hl 0 rfl ?_
  refine r_getR C hM0 jc11 0 1 dX11_letter_1 lk_X11_7 lr_0.1 lr_0.2 rfl rfl (by decide) rfl ?_
  refine r_sipush C dX11_letter_4 rfl ?_
  refine r_aload_n C dX11_letter_7 rfl hl 0 rfl ?_
  refine r_iload_n C dX11_letter_8 rfl hl 1 rfl ?_
  refine r_iconst C dX11_letter_9 ?_
  replace h := bd_some h
  obtain ⟨r10, hf10, h⟩ := h
  refine r_callI (As := [.int (jI x1), .int (jI 0)]) (rest := [.int (jI 562), .ref (z + 1)]) C hM0 (c_X11_w l E z hx1 ⟨by decide, by decide⟩ hf10) jy_X11_w lk_X11_165 dX11_letter_10 (recvW C hM0 jc11 lr_0.1 lr_0.2 rfl) rfl rfl hl.1 (Nat.le_of_ble_eq_true rfl) ⟨Nat.le_of_ble_eq_true rfl, Nat.le_of_ble_eq_true rfl⟩ ⟨rfl, rfl⟩ ⟨Nat.zero_le _, Nat.zero_le _⟩ (fun H locs hr10 hM1 => ?_)
  replace h := ck_some h
  obtain ⟨hc2, h⟩ := h
  refine r_iadd C dX11_letter_13 ?_
  refine r_iload_n C dX11_letter_14 rfl hl 2 rfl ?_
  replace h := ck_some h
  obtain ⟨hc3, h⟩ := h
  refine r_iadd C dX11_letter_15 ?_
  replace h := ck_some h
  obtain ⟨hc4, h⟩ := h
  refine r_iald C hM1 rfl dX11_letter_16 lr_1.1 lr_1.2 hc4 hc3 ?_
  exact r_ireturn C hM1 hr hlk (hM0.ok _ _) h rfl dX11_letter_17
set_option maxRecDepth 100000 in
set_option maxHeartbeats 4000000 in
theorem c_X11_isVowel (l : Launch) (E : jE) (z : Nat) {x0 : Int} {M : Mem} {r : Int} (hx0 : inR x0) (h : f_X11_isVowel x0 M = some r) : CtI l yX11_isVowel cX11_isVowel 1 (some .boolean) { frames := 0, cells := 0, slots := 0, locals := 0 } E z LyR [.int (jI x0)] M r M := by
  refine jm (by decide +kernel) (Nat.le_of_ble_eq_true rfl) ?_
  intro p e sM m below meth c C hM0 hr hlk ls hl
  replace hl : lv_has ls 1 [(0, .int (jI x0))] := hl
  unfold f_X11_isVowel at h
  refine r_iload_n C dX11_isVowel_0 rfl hl 0 rfl ?_
  refine r_bipush C dX11_isVowel_1 rfl ?_
  refine r_icmp_eq C 36 hx0 ⟨by decide, by decide⟩ dX11_isVowel_3 (by decide) (fun cq => ?_) (fun cq => ?_)
  · replace h := ifp cq h
    refine r_iconst C dX11_isVowel_36 ?_
    refine r_goto C 41 dX11_isVowel_37 (by decide) ?_
    exact r_zreturn C hM0 hr hlk (Or.inr rfl) h rfl dX11_isVowel_41
  · replace h := ifn cq h
    refine r_iload_n C dX11_isVowel_6 rfl hl 0 rfl ?_
    refine r_bipush C dX11_isVowel_7 rfl ?_
    refine r_icmp_eq C 36 hx0 ⟨by decide, by decide⟩ dX11_isVowel_9 (by decide) (fun cq => ?_) (fun cq => ?_)
    · replace h := ifp cq h
      refine r_iconst C dX11_isVowel_36 ?_
      refine r_goto C 41 dX11_isVowel_37 (by decide) ?_
      exact r_zreturn C hM0 hr hlk (Or.inr rfl) h rfl dX11_isVowel_41
    · replace h := ifn cq h
      refine r_iload_n C dX11_isVowel_12 rfl hl 0 rfl ?_
      refine r_bipush C dX11_isVowel_13 rfl ?_
      refine r_icmp_eq C 36 hx0 ⟨by decide, by decide⟩ dX11_isVowel_15 (by decide) (fun cq => ?_) (fun cq => ?_)
      · replace h := ifp cq h
        refine r_iconst C dX11_isVowel_36 ?_
        refine r_goto C 41 dX11_isVowel_37 (by decide) ?_
        exact r_zreturn C hM0 hr hlk (Or.inr rfl) h rfl dX11_isVowel_41
      · replace h := ifn cq h
        refine r_iload_n C dX11_isVowel_18 rfl hl 0 rfl ?_
        refine r_bipush C dX11_isVowel_19 rfl ?_
        refine r_icmp_eq C 36 hx0 ⟨by decide, by decide⟩ dX11_isVowel_21 (by decide) (fun cq => ?_) (fun cq => ?_)
        · replace h := ifp cq h
          refine r_iconst C dX11_isVowel_36 ?_
          refine r_goto C 41 dX11_isVowel_37 (by decide) ?_
          exact r_zreturn C hM0 hr hlk (Or.inr rfl) h rfl dX11_isVowel_41
        · replace h := ifn cq h
          refine r_iload_n C dX11_isVowel_24 rfl hl 0 rfl ?_
          refine r_bipush C dX11_isVowel_25 rfl ?_
          refine r_icmp_eq C 36 hx0 ⟨by decide, by decide⟩ dX11_isVowel_27 (by decide) (fun cq => ?_) (fun cq => ?_)
          · replace h := ifp cq h
            refine r_iconst C dX11_isVowel_36 ?_
            refine r_goto C 41 dX11_isVowel_37 (by decide) ?_
            exact r_zreturn C hM0 hr hlk (Or.inr rfl) h rfl dX11_isVowel_41
          · replace h := ifn cq h
            refine r_iload_n C dX11_isVowel_30 rfl hl 0 rfl ?_
            refine r_bipush C dX11_isVowel_31 rfl ?_
            refine r_icmp_ne C 40 hx0 ⟨by decide, by decide⟩ dX11_isVowel_33 (by decide) (fun cq => ?_) (fun cq => ?_)
            · replace h := ifn cq h
              refine r_iconst C dX11_isVowel_40 ?_
              exact r_zreturn C hM0 hr hlk (Or.inl rfl) h rfl dX11_isVowel_41
            · replace h := ifp cq h
              refine r_iconst C dX11_isVowel_36 ?_
              refine r_goto C 41 dX11_isVowel_37 (by decide) ?_
              exact r_zreturn C hM0 hr hlk (Or.inr rfl) h rfl dX11_isVowel_41
set_option maxRecDepth 100000 in
set_option maxHeartbeats 4000000 in
theorem c_X11_syllables (l : Launch) (E : jE) (z : Nat) {x1 : Int} {M : Mem} {r : Int} (hx1 : inR x1) (h : f_X11_syllables x1 M = some r) : CtI l yX11_syllables cX11_syllables 4 (some .int) { frames := 2, cells := 0, slots := 0, locals := 44 } E z LyR [.ref (z + 0), .int (jI x1)] M r M := by
  refine jm (by decide +kernel) (Nat.le_of_ble_eq_true rfl) ?_
  intro p e sM m below meth c C hM0 hr hlk ls hl
  replace hl : lv_has ls 4 [(0, .ref (z + 0)), (1, .int (jI x1))] := hl
  unfold f_X11_syllables at h
  refine r_iconst C dX11_syllables_0 ?_
  refine r_istore_n C [(2, .int (jI 0)), (0, .ref (z + 0)), (1, .int (jI x1))] dX11_syllables_1 rfl hl (by decide) rfl (fun ls hl => ?_)
  refine r_iconst C dX11_syllables_2 ?_
  refine r_istore_n C [(3, .int (jI 0)), (2, .int (jI 0)), (0, .ref (z + 0)), (1, .int (jI x1))] dX11_syllables_3 rfl hl (by decide) rfl (fun ls hl => ?_)
  have hL4 : ∀ n4 : Nat, ∀ (x2 : Int) (x3 : Int), inR x2 → inR x3 → ∀ (H : Heap) (locs : List Loc) (ls : Array Slot), f_X11_syllables_L4 x1 M n4  x2 x3 = some r → HS E z LyR M sM H locs → lv_has ls 4 [(0, .ref (z + 0)), (1, .int (jI x1)), (2, .int (jI x2)), (3, .int (jI x3))] → W p l e ({ frames := 2, cells := 0, slots := 0, locals := 44 } : Room) sM m (([.ref (z + 0), .int (jI x1)] : List Value).toArray) below meth c H locs 0 0 (MQ below (va_Qi (fun (w : Int32) (_ : Unit) => w = jI r ∧ inR r ∧ Mok LyR M) (fun _ t => va_P (eD E) vwCl (Wd (eC E) z LyR M) t.heap) (eA E)) (([.ref (z + 0), .int (jI x1)] : List Value).toArray) sM 0 0 (eA E)) (F0 m 4 ls []) := by
    intro n4
    induction n4 with
    | zero =>
      intro x2 x3 hx2 hx3 H locs ls h hM hl
      exact absurd h (by simp [f_X11_syllables_L4])
    | succ n4 ih4 =>
      intro x2 x3 hx2 hx3 H locs ls h hM hl
      rw [f_X11_syllables_L4] at h
      refine r_iload_n C dX11_syllables_4 rfl hl 3 rfl ?_
      refine r_aload_n C dX11_syllables_5 rfl hl 0 rfl ?_
      refine r_iload_n C dX11_syllables_6 rfl hl 1 rfl ?_
      refine r_iconst C dX11_syllables_7 ?_
      replace h := bd_some h
      obtain ⟨r8, hf8, h⟩ := h
      refine r_callI (As := [.int (jI x1), .int (jI 1)]) (rest := [.int (jI x3)]) C hM (c_X11_w l E z hx1 ⟨by decide, by decide⟩ hf8) jy_X11_w lk_X11_165 dX11_syllables_8 (recvW C hM jc11 lr_0.1 lr_0.2 rfl) rfl rfl hl.1 (Nat.le_of_ble_eq_true rfl) ⟨Nat.le_of_ble_eq_true rfl, Nat.le_of_ble_eq_true rfl⟩ ⟨rfl, rfl⟩ ⟨Nat.zero_le _, Nat.zero_le _⟩ (fun H locs hr8 hM1 => ?_)
      refine r_icmp_ge C 61 hx3 hr8 dX11_syllables_11 (by decide) (fun cq => ?_) (fun cq => ?_)
      · replace h := ifp cq h
        refine r_iconst C dX11_syllables_61 ?_
        refine r_iload_n C dX11_syllables_62 rfl hl 2 rfl ?_
        refine r_max C ⟨by decide, by decide⟩ hx2 lk_X11_162 dX11_syllables_63 hl.1 ⟨Nat.le_of_ble_eq_true rfl, Nat.le_of_ble_eq_true rfl⟩ ⟨Nat.zero_le _, Nat.zero_le _⟩ ?_
        exact r_ireturn C hM1 hr hlk (max_R ⟨by decide, by decide⟩ hx2) h rfl dX11_syllables_66
      · replace h := ifn cq h
        refine r_iload_n C dX11_syllables_14 rfl hl 2 rfl ?_
        refine r_aload_n C dX11_syllables_15 rfl hl 0 rfl ?_
        refine r_iload_n C dX11_syllables_16 rfl hl 1 rfl ?_
        refine r_iload_n C dX11_syllables_17 rfl hl 3 rfl ?_
        replace h := bd_some h
        obtain ⟨r18, hf18, h⟩ := h
        refine r_callI (As := [.int (jI x1), .int (jI x3)]) (rest := [.int (jI x2)]) C hM1 (c_X11_letter l E z hx1 hx3 hf18) jy_X11_letter lk_X11_168 dX11_syllables_18 (recvW C hM1 jc11 lr_0.1 lr_0.2 rfl) rfl rfl hl.1 (Nat.le_of_ble_eq_true rfl) ⟨Nat.le_of_ble_eq_true rfl, Nat.le_of_ble_eq_true rfl⟩ ⟨rfl, rfl⟩ ⟨Nat.zero_le _, Nat.zero_le _⟩ (fun H locs hr18 hM2 => ?_)
        replace h := bd_some h
        obtain ⟨r21, hf21, h⟩ := h
        refine r_callSI (As := [.int (jI r18)]) (rest := [.int (jI x2)]) C hM2 (c_X11_isVowel l E z hr18 hf21) jy_X11_isVowel lk_X11_171 dX11_syllables_21 rfl rfl hl.1 (Nat.le_of_ble_eq_true rfl) ⟨Nat.le_of_ble_eq_true rfl, Nat.le_of_ble_eq_true rfl⟩ ⟨rfl, rfl⟩ ⟨Nat.zero_le _, Nat.zero_le _⟩ (fun H locs hr21 hM3 => ?_)
        replace h := jn_some h
        obtain ⟨k50, hk50, h⟩ := h
        have hJ50 : ∀ (v50 : Int), inR v50 → ∀ (H : Heap) (locs : List Loc) (ls : Array Slot), k50 v50 = some r → HS E z LyR M sM H locs → lv_has ls 4 [(0, .ref (z + 0)), (1, .int (jI x1)), (3, .int (jI x3))] → W p l e ({ frames := 2, cells := 0, slots := 0, locals := 44 } : Room) sM m (([.ref (z + 0), .int (jI x1)] : List Value).toArray) below meth c H locs 0 0 (MQ below (va_Qi (fun (w : Int32) (_ : Unit) => w = jI r ∧ inR r ∧ Mok LyR M) (fun _ t => va_P (eD E) vwCl (Wd (eC E) z LyR M) t.heap) (eA E)) (([.ref (z + 0), .int (jI x1)] : List Value).toArray) sM 0 0 (eA E)) (F0 m 50 ls [.int (jI v50), .int (jI x2)]) := by
          intro v50 hv50 H locs ls h hMj50 hl
          subst hk50
          try dsimp only at h
          replace h := bd_some h
          obtain ⟨r50, hf50, h⟩ := h
          refine r_callSI (As := [.int (jI v50)]) (rest := [.int (jI x2)]) C hMj50 (c_X11_bit l E z hv50 hf50) jy_X11_bit lk_X11_133 dX11_syllables_50 rfl rfl hl.1 (Nat.le_of_ble_eq_true rfl) ⟨Nat.le_of_ble_eq_true rfl, Nat.le_of_ble_eq_true rfl⟩ ⟨rfl, rfl⟩ ⟨Nat.zero_le _, Nat.zero_le _⟩ (fun H locs hr50 hM4 => ?_)
          replace h := ck_some h
          obtain ⟨hc5, h⟩ := h
          refine r_iadd C dX11_syllables_53 ?_
          refine r_istore_n C [(2, .int (jI (x2 + r50))), (0, .ref (z + 0)), (1, .int (jI x1)), (3, .int (jI x3))] dX11_syllables_54 rfl hl (by decide) rfl (fun ls hl => ?_)
          replace h := ck_some h
          obtain ⟨hc6, h⟩ := h
          refine r_iinc (j := 3) (x := x3) C [(3, .int (jI (x3 + 1))), (2, .int (jI (x2 + r50))), (0, .ref (z + 0)), (1, .int (jI x1))] dX11_syllables_55 hl rfl (by decide) rfl (fun ls hl => ?_)
          refine r_goto C 4 dX11_syllables_58 (by decide) ?_
          exact ih4 _ _ hc5 hc6 _ _ _ h hM4 (lv_sub hl [2, 3, 1, 0] rfl)
        replace h := jn_some h
        obtain ⟨k49, hk49, h⟩ := h
        have hJ49 : ∀ (_ : Unit), ∀ (H : Heap) (locs : List Loc) (ls : Array Slot), k49 () = some r → HS E z LyR M sM H locs → lv_has ls 4 [(0, .ref (z + 0)), (1, .int (jI x1)), (3, .int (jI x3))] → W p l e ({ frames := 2, cells := 0, slots := 0, locals := 44 } : Room) sM m (([.ref (z + 0), .int (jI x1)] : List Value).toArray) below meth c H locs 0 0 (MQ below (va_Qi (fun (w : Int32) (_ : Unit) => w = jI r ∧ inR r ∧ Mok LyR M) (fun _ t => va_P (eD E) vwCl (Wd (eC E) z LyR M) t.heap) (eA E)) (([.ref (z + 0), .int (jI x1)] : List Value).toArray) sM 0 0 (eA E)) (F0 m 49 ls [.int (jI x2)]) := by
          intro _ H locs ls h hMj49 hl
          subst hk49
          try dsimp only at h
          refine r_iconst C dX11_syllables_49 ?_
          exact hJ50 _ ⟨by decide, by decide⟩ _ _ _ h hMj49 (lv_sub hl [0, 1, 2] rfl)
        refine r_if_eq C 49 hr21 dX11_syllables_24 (by decide) (fun cq => ?_) (fun cq => ?_)
        · replace h := ifp cq h
          exact hJ49 () _ _ _ h hM3 (lv_sub hl [0, 1, 3] rfl)
        · replace h := ifn cq h
          refine r_iload_n C dX11_syllables_27 rfl hl 3 rfl ?_
          replace h := jn_some h
          obtain ⟨k45, hk45, h⟩ := h
          have hJ45 : ∀ (_ : Unit), ∀ (H : Heap) (locs : List Loc) (ls : Array Slot), k45 () = some r → HS E z LyR M sM H locs → lv_has ls 4 [(0, .ref (z + 0)), (1, .int (jI x1)), (3, .int (jI x3))] → W p l e ({ frames := 2, cells := 0, slots := 0, locals := 44 } : Room) sM m (([.ref (z + 0), .int (jI x1)] : List Value).toArray) below meth c H locs 0 0 (MQ below (va_Qi (fun (w : Int32) (_ : Unit) => w = jI r ∧ inR r ∧ Mok LyR M) (fun _ t => va_P (eD E) vwCl (Wd (eC E) z LyR M) t.heap) (eA E)) (([.ref (z + 0), .int (jI x1)] : List Value).toArray) sM 0 0 (eA E)) (F0 m 45 ls [.int (jI x2)]) := by
            intro _ H locs ls h hMj45 hl
            subst hk45
            try dsimp only at h
            refine r_iconst C dX11_syllables_45 ?_
            refine r_goto C 50 dX11_syllables_46 (by decide) ?_
            exact hJ50 _ ⟨by decide, by decide⟩ _ _ _ h hMj45 (lv_sub hl [0, 1, 2] rfl)
          refine r_if_eq C 45 hx3 dX11_syllables_28 (by decide) (fun cq => ?_) (fun cq => ?_)
          · replace h := ifp cq h
            exact hJ45 () _ _ _ h hM3 (lv_sub hl [0, 1, 3] rfl)
          · replace h := ifn cq h
            refine r_aload_n C dX11_syllables_31 rfl hl 0 rfl ?_
            refine r_iload_n C dX11_syllables_32 rfl hl 1 rfl ?_
            refine r_iload_n C dX11_syllables_33 rfl hl 3 rfl ?_
            refine r_iconst C dX11_syllables_34 ?_
            replace h := ck_some h
            obtain ⟨hc7, h⟩ := h
            refine r_isub C dX11_syllables_35 ?_
            replace h := bd_some h
            obtain ⟨r36, hf36, h⟩ := h
            refine r_callI (As := [.int (jI x1), .int (jI (x3 - 1))]) (rest := [.int (jI x2)]) C hM3 (c_X11_letter l E z hx1 hc7 hf36) jy_X11_letter lk_X11_168 dX11_syllables_36 (recvW C hM3 jc11 lr_0.1 lr_0.2 rfl) rfl rfl hl.1 (Nat.le_of_ble_eq_true rfl) ⟨Nat.le_of_ble_eq_true rfl, Nat.le_of_ble_eq_true rfl⟩ ⟨rfl, rfl⟩ ⟨Nat.zero_le _, Nat.zero_le _⟩ (fun H locs hr36 hM8 => ?_)
            replace h := bd_some h
            obtain ⟨r39, hf39, h⟩ := h
            refine r_callSI (As := [.int (jI r36)]) (rest := [.int (jI x2)]) C hM8 (c_X11_isVowel l E z hr36 hf39) jy_X11_isVowel lk_X11_171 dX11_syllables_39 rfl rfl hl.1 (Nat.le_of_ble_eq_true rfl) ⟨Nat.le_of_ble_eq_true rfl, Nat.le_of_ble_eq_true rfl⟩ ⟨rfl, rfl⟩ ⟨Nat.zero_le _, Nat.zero_le _⟩ (fun H locs hr39 hM9 => ?_)
            refine r_if_ne C 49 hr39 dX11_syllables_42 (by decide) (fun cq => ?_) (fun cq => ?_)
            · replace h := ifn cq h
              exact hJ49 () _ _ _ h hM9 (lv_sub hl [0, 1, 3] rfl)
            · replace h := ifp cq h
              exact hJ45 () _ _ _ h hM9 (lv_sub hl [0, 1, 3] rfl)
  exact hL4 jFuel _ _ ⟨by decide, by decide⟩ ⟨by decide, by decide⟩ _ _ _ h hM0 (lv_sub hl [2, 3, 1, 0] rfl)
set_option maxRecDepth 100000 in
set_option maxHeartbeats 4000000 in
theorem c_X11_allSyllables (l : Launch) (E : jE) (z : Nat) {M : Mem} {r : Int} (h : f_X11_allSyllables M = some r) : CtI l yX11_allSyllables cX11_allSyllables 3 (some .int) { frames := 3, cells := 0, slots := 0, locals := 67 } E z LyR [.ref (z + 0)] M r M := by
  refine jm (by decide +kernel) (Nat.le_of_ble_eq_true rfl) ?_
  intro p e sM m below meth c C hM0 hr hlk ls hl
  replace hl : lv_has ls 3 [(0, .ref (z + 0))] := hl
  unfold f_X11_allSyllables at h
  refine r_iconst C dX11_allSyllables_0 ?_
  refine r_istore_n C [(1, .int (jI 0)), (0, .ref (z + 0))] dX11_allSyllables_1 rfl hl (by decide) rfl (fun ls hl => ?_)
  refine r_iconst C dX11_allSyllables_2 ?_
  refine r_istore_n C [(2, .int (jI 0)), (1, .int (jI 0)), (0, .ref (z + 0))] dX11_allSyllables_3 rfl hl (by decide) rfl (fun ls hl => ?_)
  have hL4 : ∀ n4 : Nat, ∀ (x1 : Int) (x2 : Int), inR x1 → inR x2 → ∀ (H : Heap) (locs : List Loc) (ls : Array Slot), f_X11_allSyllables_L4 M n4  x1 x2 = some r → HS E z LyR M sM H locs → lv_has ls 3 [(0, .ref (z + 0)), (1, .int (jI x1)), (2, .int (jI x2))] → W p l e ({ frames := 3, cells := 0, slots := 0, locals := 67 } : Room) sM m (([.ref (z + 0)] : List Value).toArray) below meth c H locs 0 0 (MQ below (va_Qi (fun (w : Int32) (_ : Unit) => w = jI r ∧ inR r ∧ Mok LyR M) (fun _ t => va_P (eD E) vwCl (Wd (eC E) z LyR M) t.heap) (eA E)) (([.ref (z + 0)] : List Value).toArray) sM 0 0 (eA E)) (F0 m 4 ls []) := by
    intro n4
    induction n4 with
    | zero =>
      intro x1 x2 hx1 hx2 H locs ls h hM hl
      exact absurd h (by simp [f_X11_allSyllables_L4])
    | succ n4 ih4 =>
      intro x1 x2 hx1 hx2 H locs ls h hM hl
      rw [f_X11_allSyllables_L4] at h
      refine r_iload_n C dX11_allSyllables_4 rfl hl 2 rfl ?_
      refine r_aload_n C dX11_allSyllables_5 rfl hl 0 rfl ?_
      refine r_getR C hM jc11 0 1 dX11_allSyllables_6 lk_X11_7 lr_0.1 lr_0.2 rfl rfl (by decide) rfl ?_
      refine r_bipush C dX11_allSyllables_9 rfl ?_
      refine r_iald C hM rfl dX11_allSyllables_11 lr_1.1 lr_1.2 (show (0 : Int) ≤ 9 ∧ (9 : Int) < 1062 by decide) ⟨by decide, by decide⟩ ?_
      refine r_icmp_ge C 29 hx2 (hM.ok _ _) dX11_allSyllables_12 (by decide) (fun cq => ?_) (fun cq => ?_)
      · replace h := ifp cq h
        refine r_iload_n C dX11_allSyllables_29 rfl hl 1 rfl ?_
        exact r_ireturn C hM hr hlk hx1 h rfl dX11_allSyllables_30
      · replace h := ifn cq h
        refine r_iload_n C dX11_allSyllables_15 rfl hl 1 rfl ?_
        refine r_aload_n C dX11_allSyllables_16 rfl hl 0 rfl ?_
        refine r_iload_n C dX11_allSyllables_17 rfl hl 2 rfl ?_
        replace h := bd_some h
        obtain ⟨r18, hf18, h⟩ := h
        refine r_callI (As := [.int (jI x2)]) (rest := [.int (jI x1)]) C hM (c_X11_syllables l E z hx2 hf18) jy_X11_syllables lk_X11_175 dX11_allSyllables_18 (recvW C hM jc11 lr_0.1 lr_0.2 rfl) rfl rfl hl.1 (Nat.le_of_ble_eq_true rfl) ⟨Nat.le_of_ble_eq_true rfl, Nat.le_of_ble_eq_true rfl⟩ ⟨rfl, rfl⟩ ⟨Nat.zero_le _, Nat.zero_le _⟩ (fun H locs hr18 hM1 => ?_)
        replace h := ck_some h
        obtain ⟨hc2, h⟩ := h
        refine r_iadd C dX11_allSyllables_21 ?_
        refine r_istore_n C [(1, .int (jI (x1 + r18))), (0, .ref (z + 0)), (2, .int (jI x2))] dX11_allSyllables_22 rfl hl (by decide) rfl (fun ls hl => ?_)
        replace h := ck_some h
        obtain ⟨hc3, h⟩ := h
        refine r_iinc (j := 2) (x := x2) C [(2, .int (jI (x2 + 1))), (1, .int (jI (x1 + r18))), (0, .ref (z + 0))] dX11_allSyllables_23 hl rfl (by decide) rfl (fun ls hl => ?_)
        refine r_goto C 4 dX11_allSyllables_26 (by decide) ?_
        exact ih4 _ _ hc2 hc3 _ _ _ h hM1 (lv_sub hl [2, 1, 0] rfl)
  exact hL4 jFuel _ _ ⟨by decide, by decide⟩ ⟨by decide, by decide⟩ _ _ _ h hM0 (lv_sub hl [2, 1, 0] rfl)
set_option maxRecDepth 100000 in
set_option maxHeartbeats 4000000 in
theorem c_X11_sentencesAhead (l : Launch) (E : jE) (z : Nat) {x1 : Int} {M : Mem} {r : Int} (hx1 : inR x1) (h : f_X11_sentencesAhead x1 M = some r) : CtI l yX11_sentencesAhead cX11_sentencesAhead 4 (some .int) { frames := 1, cells := 0, slots := 0, locals := 22 } E z LyR [.ref (z + 0), .int (jI x1)] M r M := by
  refine jm (by decide +kernel) (Nat.le_of_ble_eq_true rfl) ?_
  intro p e sM m below meth c C hM0 hr hlk ls hl
  replace hl : lv_has ls 4 [(0, .ref (z + 0)), (1, .int (jI x1))] := hl
  unfold f_X11_sentencesAhead at h
  refine r_iconst C dX11_sentencesAhead_0 ?_
  refine r_istore_n C [(2, .int (jI 0)), (0, .ref (z + 0)), (1, .int (jI x1))] dX11_sentencesAhead_1 rfl hl (by decide) rfl (fun ls hl => ?_)
  refine r_iconst C dX11_sentencesAhead_2 ?_
  refine r_istore_n C [(3, .int (jI 0)), (2, .int (jI 0)), (0, .ref (z + 0)), (1, .int (jI x1))] dX11_sentencesAhead_3 rfl hl (by decide) rfl (fun ls hl => ?_)
  have hL4 : ∀ n4 : Nat, ∀ (x2 : Int) (x3 : Int), inR x2 → inR x3 → ∀ (H : Heap) (locs : List Loc) (ls : Array Slot), f_X11_sentencesAhead_L4 x1 M n4  x2 x3 = some r → HS E z LyR M sM H locs → lv_has ls 4 [(0, .ref (z + 0)), (1, .int (jI x1)), (2, .int (jI x2)), (3, .int (jI x3))] → W p l e ({ frames := 1, cells := 0, slots := 0, locals := 22 } : Room) sM m (([.ref (z + 0), .int (jI x1)] : List Value).toArray) below meth c H locs 0 0 (MQ below (va_Qi (fun (w : Int32) (_ : Unit) => w = jI r ∧ inR r ∧ Mok LyR M) (fun _ t => va_P (eD E) vwCl (Wd (eC E) z LyR M) t.heap) (eA E)) (([.ref (z + 0), .int (jI x1)] : List Value).toArray) sM 0 0 (eA E)) (F0 m 4 ls []) := by
    intro n4
    induction n4 with
    | zero =>
      intro x2 x3 hx2 hx3 H locs ls h hM hl
      exact absurd h (by simp [f_X11_sentencesAhead_L4])
    | succ n4 ih4 =>
      intro x2 x3 hx2 hx3 H locs ls h hM hl
      rw [f_X11_sentencesAhead_L4] at h
      refine r_iload_n C dX11_sentencesAhead_4 rfl hl 3 rfl ?_
      refine r_iload_n C dX11_sentencesAhead_5 rfl hl 1 rfl ?_
      refine r_icmp_ge C 24 hx3 hx1 dX11_sentencesAhead_6 (by decide) (fun cq => ?_) (fun cq => ?_)
      · replace h := ifp cq h
        refine r_iload_n C dX11_sentencesAhead_24 rfl hl 2 rfl ?_
        exact r_ireturn C hM hr hlk hx2 h rfl dX11_sentencesAhead_25
      · replace h := ifn cq h
        refine r_iload_n C dX11_sentencesAhead_9 rfl hl 2 rfl ?_
        refine r_aload_n C dX11_sentencesAhead_10 rfl hl 0 rfl ?_
        refine r_iload_n C dX11_sentencesAhead_11 rfl hl 3 rfl ?_
        refine r_iconst C dX11_sentencesAhead_12 ?_
        replace h := bd_some h
        obtain ⟨r13, hf13, h⟩ := h
        refine r_callI (As := [.int (jI x3), .int (jI 2)]) (rest := [.int (jI x2)]) C hM (c_X11_w l E z hx3 ⟨by decide, by decide⟩ hf13) jy_X11_w lk_X11_165 dX11_sentencesAhead_13 (recvW C hM jc11 lr_0.1 lr_0.2 rfl) rfl rfl hl.1 (Nat.le_of_ble_eq_true rfl) ⟨Nat.le_of_ble_eq_true rfl, Nat.le_of_ble_eq_true rfl⟩ ⟨rfl, rfl⟩ ⟨Nat.zero_le _, Nat.zero_le _⟩ (fun H locs hr13 hM1 => ?_)
        replace h := ck_some h
        obtain ⟨hc2, h⟩ := h
        refine r_iadd C dX11_sentencesAhead_16 ?_
        refine r_istore_n C [(2, .int (jI (x2 + r13))), (0, .ref (z + 0)), (1, .int (jI x1)), (3, .int (jI x3))] dX11_sentencesAhead_17 rfl hl (by decide) rfl (fun ls hl => ?_)
        replace h := ck_some h
        obtain ⟨hc3, h⟩ := h
        refine r_iinc (j := 3) (x := x3) C [(3, .int (jI (x3 + 1))), (2, .int (jI (x2 + r13))), (0, .ref (z + 0)), (1, .int (jI x1))] dX11_sentencesAhead_18 hl rfl (by decide) rfl (fun ls hl => ?_)
        refine r_goto C 4 dX11_sentencesAhead_21 (by decide) ?_
        exact ih4 _ _ hc2 hc3 _ _ _ h hM1 (lv_sub hl [2, 3, 1, 0] rfl)
  exact hL4 jFuel _ _ ⟨by decide, by decide⟩ ⟨by decide, by decide⟩ _ _ _ h hM0 (lv_sub hl [2, 3, 1, 0] rfl)
set_option maxRecDepth 100000 in
set_option maxHeartbeats 4000000 in
theorem c_X11_laysWords (l : Launch) (E : jE) (z : Nat) {M M' : Mem} {r : Int} (h : f_X11_laysWords M = some (r, M')) : CtI l yX11_laysWords cX11_laysWords 3 (some .int) { frames := 3, cells := 0, slots := 0, locals := 67 } E z LyR [.ref (z + 0)] M r M' := by
  refine jm (by decide +kernel) (Nat.le_of_ble_eq_true rfl) ?_
  intro p e sM m below meth c C hM0 hr hlk ls hl
  replace hl : lv_has ls 3 [(0, .ref (z + 0))] := hl
  unfold f_X11_laysWords at h
  refine r_iconst C dX11_laysWords_0 ?_
  refine r_istore_n C [(1, .int (jI 0)), (0, .ref (z + 0))] dX11_laysWords_1 rfl hl (by decide) rfl (fun ls hl => ?_)
  refine r_iconst C dX11_laysWords_2 ?_
  refine r_istore_n C [(2, .int (jI 0)), (1, .int (jI 0)), (0, .ref (z + 0))] dX11_laysWords_3 rfl hl (by decide) rfl (fun ls hl => ?_)
  have hL4 : ∀ n4 : Nat, ∀ (x1 : Int) (x2 : Int) (M : Mem), inR x1 → inR x2 → ∀ (H : Heap) (locs : List Loc) (ls : Array Slot), f_X11_laysWords_L4 n4  x1 x2 M = some (r, M') → HS E z LyR M sM H locs → lv_has ls 3 [(0, .ref (z + 0)), (1, .int (jI x1)), (2, .int (jI x2))] → W p l e ({ frames := 3, cells := 0, slots := 0, locals := 67 } : Room) sM m (([.ref (z + 0)] : List Value).toArray) below meth c H locs 0 0 (MQ below (va_Qi (fun (w : Int32) (_ : Unit) => w = jI r ∧ inR r ∧ Mok LyR M') (fun _ t => va_P (eD E) vwCl (Wd (eC E) z LyR M') t.heap) (eA E)) (([.ref (z + 0)] : List Value).toArray) sM 0 0 (eA E)) (F0 m 4 ls []) := by
    intro n4
    induction n4 with
    | zero =>
      intro x1 x2 M hx1 hx2 H locs ls h hM hl
      exact absurd h (by simp [f_X11_laysWords_L4])
    | succ n4 ih4 =>
      intro x1 x2 M hx1 hx2 H locs ls h hM hl
      rw [f_X11_laysWords_L4] at h
      refine r_iload_n C dX11_laysWords_4 rfl hl 2 rfl ?_
      refine r_aload_n C dX11_laysWords_5 rfl hl 0 rfl ?_
      refine r_getR C hM jc11 0 1 dX11_laysWords_6 lk_X11_7 lr_0.1 lr_0.2 rfl rfl (by decide) rfl ?_
      refine r_bipush C dX11_laysWords_9 rfl ?_
      refine r_iald C hM rfl dX11_laysWords_11 lr_1.1 lr_1.2 (show (0 : Int) ≤ 9 ∧ (9 : Int) < 1062 by decide) ⟨by decide, by decide⟩ ?_
      refine r_icmp_ge C 79 hx2 (hM.ok _ _) dX11_laysWords_12 (by decide) (fun cq => ?_) (fun cq => ?_)
      · replace h := ifp cq h
        refine r_iload_n C dX11_laysWords_79 rfl hl 1 rfl ?_
        exact r_ireturnM C hM hr hlk hx1 h dX11_laysWords_80
      · replace h := ifn cq h
        refine r_iload_n C dX11_laysWords_15 rfl hl 1 rfl ?_
        refine r_iload_n C dX11_laysWords_16 rfl hl 2 rfl ?_
        replace h := jn_some h
        obtain ⟨k42, hk42, h⟩ := h
        have hJ42 : ∀ (v42 : Int), inR v42 → ∀ (H : Heap) (locs : List Loc) (ls : Array Slot), k42 v42 = some (r, M') → HS E z LyR M sM H locs → lv_has ls 3 [(0, .ref (z + 0)), (2, .int (jI x2))] → W p l e ({ frames := 3, cells := 0, slots := 0, locals := 67 } : Room) sM m (([.ref (z + 0)] : List Value).toArray) below meth c H locs 0 0 (MQ below (va_Qi (fun (w : Int32) (_ : Unit) => w = jI r ∧ inR r ∧ Mok LyR M') (fun _ t => va_P (eD E) vwCl (Wd (eC E) z LyR M') t.heap) (eA E)) (([.ref (z + 0)] : List Value).toArray) sM 0 0 (eA E)) (F0 m 42 ls [.int (jI v42), .int (jI x1)]) := by
          intro v42 hv42 H locs ls h hMj42 hl
          subst hk42
          try dsimp only at h
          replace h := ck_some h
          obtain ⟨hc1, h⟩ := h
          refine r_iadd C dX11_laysWords_42 ?_
          refine r_istore_n C [(1, .int (jI (x1 + v42))), (0, .ref (z + 0)), (2, .int (jI x2))] dX11_laysWords_43 rfl hl (by decide) rfl (fun ls hl => ?_)
          refine r_aload_n C dX11_laysWords_44 rfl hl 1 rfl ?_
          refine r_getR C hMj42 jc11 23 19 dX11_laysWords_45 lk_X11_65 lr_0.1 lr_0.2 rfl rfl (by decide) rfl ?_
          refine r_iload_n C dX11_laysWords_48 rfl hl 2 rfl ?_
          refine r_iload_n C dX11_laysWords_49 rfl hl 0 rfl ?_
          replace h := ck_some h
          obtain ⟨hc2, h⟩ := h
          refine r_iast C hMj42 dX11_laysWords_50 lr_19.1 lr_19.2 hc2 hx2 hc1 (fun H locs hM3 => ?_)
          replace h := lt_some h
          obtain ⟨N4, eN4, h⟩ := h
          rw [← eN4] at hM3
          refine r_iload_n C dX11_laysWords_51 rfl hl 0 rfl ?_
          refine r_aload_n C dX11_laysWords_52 rfl hl 1 rfl ?_
          refine r_getR C hM3 jc11 0 1 dX11_laysWords_53 lk_X11_7 lr_0.1 lr_0.2 rfl rfl (by decide) rfl ?_
          refine r_iconst C dX11_laysWords_56 ?_
          refine r_iald C hM3 (rd_skip eN4 (by decide) rfl) dX11_laysWords_57 lr_1.1 lr_1.2 (show (0 : Int) ≤ 1 ∧ (1 : Int) < 1062 by decide) ⟨by decide, by decide⟩ ?_
          refine r_aload_n C dX11_laysWords_58 rfl hl 1 rfl ?_
          refine r_iload_n C dX11_laysWords_59 rfl hl 2 rfl ?_
          replace h := bd_some h
          obtain ⟨r60, hf60, h⟩ := h
          refine r_callI (As := [.int (jI x2)]) (rest := [.int (jI (M 1 (1 : Int).toNat)), .int (jI (x1 + v42))]) C hM3 (c_X11_syllables l E z hx2 hf60) jy_X11_syllables lk_X11_175 dX11_laysWords_60 (recvW C hM3 jc11 lr_0.1 lr_0.2 rfl) rfl rfl hl.1 (Nat.le_of_ble_eq_true rfl) ⟨Nat.le_of_ble_eq_true rfl, Nat.le_of_ble_eq_true rfl⟩ ⟨rfl, rfl⟩ ⟨Nat.zero_le _, Nat.zero_le _⟩ (fun H locs hr60 hM5 => ?_)
          replace h := ck_some h
          obtain ⟨hc6, h⟩ := h
          refine r_imul C dX11_laysWords_63 ?_
          replace h := ck_some h
          obtain ⟨hc7, h⟩ := h
          refine r_iadd C dX11_laysWords_64 ?_
          refine r_istore_n C [(1, .int (jI ((x1 + v42) + ((M 1 (1 : Int).toNat) * r60)))), (0, .ref (z + 0)), (2, .int (jI x2))] dX11_laysWords_65 rfl hl (by decide) rfl (fun ls hl => ?_)
          refine r_aload_n C dX11_laysWords_66 rfl hl 1 rfl ?_
          refine r_getR C hM5 jc11 24 20 dX11_laysWords_67 lk_X11_68 lr_0.1 lr_0.2 rfl rfl (by decide) rfl ?_
          refine r_iload_n C dX11_laysWords_70 rfl hl 2 rfl ?_
          refine r_iload_n C dX11_laysWords_71 rfl hl 0 rfl ?_
          refine r_iast C hM5 dX11_laysWords_72 lr_20.1 lr_20.2 hc2 hx2 hc7 (fun H locs hM8 => ?_)
          replace h := lt_some h
          obtain ⟨N9, eN9, h⟩ := h
          rw [← eN9] at hM8
          replace h := ck_some h
          obtain ⟨hc10, h⟩ := h
          refine r_iinc (j := 2) (x := x2) C [(2, .int (jI (x2 + 1))), (1, .int (jI ((x1 + v42) + ((M 1 (1 : Int).toNat) * r60)))), (0, .ref (z + 0))] dX11_laysWords_73 hl rfl (by decide) rfl (fun ls hl => ?_)
          refine r_goto C 4 dX11_laysWords_76 (by decide) ?_
          exact ih4 _ _ _ hc7 hc10 _ _ _ h hM8 (lv_sub hl [2, 1, 0] rfl)
        replace h := jn_some h
        obtain ⟨k41, hk41, h⟩ := h
        have hJ41 : ∀ (_ : Unit), ∀ (H : Heap) (locs : List Loc) (ls : Array Slot), k41 () = some (r, M') → HS E z LyR M sM H locs → lv_has ls 3 [(0, .ref (z + 0)), (2, .int (jI x2))] → W p l e ({ frames := 3, cells := 0, slots := 0, locals := 67 } : Room) sM m (([.ref (z + 0)] : List Value).toArray) below meth c H locs 0 0 (MQ below (va_Qi (fun (w : Int32) (_ : Unit) => w = jI r ∧ inR r ∧ Mok LyR M') (fun _ t => va_P (eD E) vwCl (Wd (eC E) z LyR M') t.heap) (eA E)) (([.ref (z + 0)] : List Value).toArray) sM 0 0 (eA E)) (F0 m 41 ls [.int (jI x1)]) := by
          intro _ H locs ls h hMj41 hl
          subst hk41
          try dsimp only at h
          refine r_iconst C dX11_laysWords_41 ?_
          exact hJ42 _ ⟨by decide, by decide⟩ _ _ _ h hMj41 (lv_sub hl [0, 1] rfl)
        refine r_if_le C 41 hx2 dX11_laysWords_17 (by decide) (fun cq => ?_) (fun cq => ?_)
        · replace h := ifp cq h
          exact hJ41 () _ _ _ h hM (lv_sub hl [0, 2] rfl)
        · replace h := ifn cq h
          refine r_aload_n C dX11_laysWords_20 rfl hl 0 rfl ?_
          refine r_iload_n C dX11_laysWords_21 rfl hl 2 rfl ?_
          refine r_iconst C dX11_laysWords_22 ?_
          replace h := ck_some h
          obtain ⟨hc11, h⟩ := h
          refine r_isub C dX11_laysWords_23 ?_
          refine r_iconst C dX11_laysWords_24 ?_
          replace h := bd_some h
          obtain ⟨r25, hf25, h⟩ := h
          refine r_callI (As := [.int (jI (x2 - 1)), .int (jI 2)]) (rest := [.int (jI x1)]) C hM (c_X11_w l E z hc11 ⟨by decide, by decide⟩ hf25) jy_X11_w lk_X11_165 dX11_laysWords_25 (recvW C hM jc11 lr_0.1 lr_0.2 rfl) rfl rfl hl.1 (Nat.le_of_ble_eq_true rfl) ⟨Nat.le_of_ble_eq_true rfl, Nat.le_of_ble_eq_true rfl⟩ ⟨rfl, rfl⟩ ⟨Nat.zero_le _, Nat.zero_le _⟩ (fun H locs hr25 hM12 => ?_)
          refine r_iconst C dX11_laysWords_28 ?_
          refine r_icmp_ne C 41 hr25 ⟨by decide, by decide⟩ dX11_laysWords_29 (by decide) (fun cq => ?_) (fun cq => ?_)
          · replace h := ifn cq h
            exact hJ41 () _ _ _ h hM12 (lv_sub hl [0, 2] rfl)
          · replace h := ifp cq h
            refine r_aload_n C dX11_laysWords_32 rfl hl 0 rfl ?_
            refine r_getR C hM12 jc11 0 1 dX11_laysWords_33 lk_X11_7 lr_0.1 lr_0.2 rfl rfl (by decide) rfl ?_
            refine r_iconst C dX11_laysWords_36 ?_
            refine r_iald C hM12 rfl dX11_laysWords_37 lr_1.1 lr_1.2 (show (0 : Int) ≤ 2 ∧ (2 : Int) < 1062 by decide) ⟨by decide, by decide⟩ ?_
            refine r_goto C 42 dX11_laysWords_38 (by decide) ?_
            exact hJ42 _ (hM.ok _ _) _ _ _ h hM12 (lv_sub hl [0, 2] rfl)
  exact hL4 jFuel _ _ _ ⟨by decide, by decide⟩ ⟨by decide, by decide⟩ _ _ _ h hM0 (lv_sub hl [2, 1, 0] rfl)
set_option maxRecDepth 100000 in
set_option maxHeartbeats 4000000 in
theorem c_X11_isNamed (l : Launch) (E : jE) (z : Nat) {x1 : Int} {x2 : Int} {M : Mem} {r : Int} (hx1 : inR x1) (hx2 : inR x2) (h : f_X11_isNamed x1 x2 M = some r) : CtI l yX11_isNamed cX11_isNamed 6 (some .boolean) { frames := 2, cells := 0, slots := 0, locals := 44 } E z LyR [.ref (z + 0), .int (jI x1), .int (jI x2)] M r M := by
  refine jm (by decide +kernel) (Nat.le_of_ble_eq_true rfl) ?_
  intro p e sM m below meth c C hM0 hr hlk ls hl
  replace hl : lv_has ls 6 [(0, .ref (z + 0)), (1, .int (jI x1)), (2, .int (jI x2))] := hl
  unfold f_X11_isNamed at h
  refine r_bipush C dX11_isNamed_0 rfl ?_
  refine r_bipush C dX11_isNamed_2 rfl ?_
  refine r_iload_n C dX11_isNamed_4 rfl hl 2 rfl ?_
  replace h := ck_some h
  obtain ⟨hc1, h⟩ := h
  refine r_imul C dX11_isNamed_5 ?_
  replace h := ck_some h
  obtain ⟨hc2, h⟩ := h
  refine r_iadd C dX11_isNamed_6 ?_
  refine r_istore_n C [(3, .int (jI (36 + (10 * x2)))), (0, .ref (z + 0)), (1, .int (jI x1)), (2, .int (jI x2))] dX11_isNamed_7 rfl hl (by decide) rfl (fun ls hl => ?_)
  refine r_aload_n C dX11_isNamed_8 rfl hl 1 rfl ?_
  refine r_getR C hM0 jc11 0 1 dX11_isNamed_9 lk_X11_7 lr_0.1 lr_0.2 rfl rfl (by decide) rfl ?_
  refine r_iload_n C dX11_isNamed_12 rfl hl 0 rfl ?_
  replace h := ck_some h
  obtain ⟨hc3, h⟩ := h
  refine r_iald C hM0 rfl dX11_isNamed_13 lr_1.1 lr_1.2 hc3 hc2 ?_
  refine r_aload_n C dX11_isNamed_14 rfl hl 1 rfl ?_
  refine r_iload_n C dX11_isNamed_15 rfl hl 2 rfl ?_
  refine r_iconst C dX11_isNamed_16 ?_
  replace h := bd_some h
  obtain ⟨r17, hf17, h⟩ := h
  refine r_callI (As := [.int (jI x1), .int (jI 1)]) (rest := [.int (jI (M 1 (36 + (10 * x2)).toNat))]) C hM0 (c_X11_w l E z hx1 ⟨by decide, by decide⟩ hf17) jy_X11_w lk_X11_165 dX11_isNamed_17 (recvW C hM0 jc11 lr_0.1 lr_0.2 rfl) rfl rfl hl.1 (Nat.le_of_ble_eq_true rfl) ⟨Nat.le_of_ble_eq_true rfl, Nat.le_of_ble_eq_true rfl⟩ ⟨rfl, rfl⟩ ⟨Nat.zero_le _, Nat.zero_le _⟩ (fun H locs hr17 hM4 => ?_)
  refine r_icmp_ne C 27 (hM0.ok _ _) hr17 dX11_isNamed_20 (by decide) (fun cq => ?_) (fun cq => ?_)
  · replace h := ifn cq h
    refine r_iconst C dX11_isNamed_27 ?_
    refine r_istore C [(4, .int (jI 0)), (3, .int (jI (36 + (10 * x2)))), (0, .ref (z + 0)), (1, .int (jI x1)), (2, .int (jI x2))] dX11_isNamed_28 hl (by decide) rfl (fun ls hl => ?_)
    refine r_iconst C dX11_isNamed_30 ?_
    refine r_istore C [(5, .int (jI 0)), (4, .int (jI 0)), (3, .int (jI (36 + (10 * x2)))), (0, .ref (z + 0)), (1, .int (jI x1)), (2, .int (jI x2))] dX11_isNamed_31 hl (by decide) rfl (fun ls hl => ?_)
    obtain ⟨y3, ey3⟩ : ∃ y : Int, y = (36 + (10 * x2)) := ⟨_, rfl⟩
    have hy3 : inR y3 := by rw [ey3]; exact hc2
    have hL33 : ∀ n33 : Nat, ∀ (x4 : Int) (x5 : Int), inR x4 → inR x5 → ∀ (H : Heap) (locs : List Loc) (ls : Array Slot), f_X11_isNamed_L33 x1 y3 M n33  x4 x5 = some r → HS E z LyR M sM H locs → lv_has ls 6 [(0, .ref (z + 0)), (1, .int (jI x1)), (3, .int (jI y3)), (4, .int (jI x4)), (5, .int (jI x5))] → W p l e ({ frames := 2, cells := 0, slots := 0, locals := 44 } : Room) sM m (([.ref (z + 0), .int (jI x1), .int (jI x2)] : List Value).toArray) below meth c H locs 0 0 (MQ below (va_Qi (fun (w : Int32) (_ : Unit) => w = jI r ∧ inR r ∧ Mok LyR M) (fun _ t => va_P (eD E) vwCl (Wd (eC E) z LyR M) t.heap) (eA E)) (([.ref (z + 0), .int (jI x1), .int (jI x2)] : List Value).toArray) sM 0 0 (eA E)) (F0 m 33 ls []) := by
      intro n33
      induction n33 with
      | zero =>
        intro x4 x5 hx4 hx5 H locs ls h hM hl
        exact absurd h (by simp [f_X11_isNamed_L33])
      | succ n33 ih33 =>
        intro x4 x5 hx4 hx5 H locs ls h hM hl
        rw [f_X11_isNamed_L33] at h
        refine r_iload C dX11_isNamed_33 hl 3 rfl ?_
        refine r_if_eq C 83 hx4 dX11_isNamed_35 (by decide) (fun cq => ?_) (fun cq => ?_)
        · replace h := ifp cq h
          refine r_iload C dX11_isNamed_83 hl 3 rfl ?_
          replace h := ck_some h
          obtain ⟨hc5, h⟩ := h
          exact r_zreturn C hM hr hlk hc5 h rfl dX11_isNamed_85
        · replace h := ifn cq h
          refine r_iload C dX11_isNamed_38 hl 4 rfl ?_
          refine r_aload_n C dX11_isNamed_40 rfl hl 0 rfl ?_
          refine r_getR C hM jc11 0 1 dX11_isNamed_41 lk_X11_7 lr_0.1 lr_0.2 rfl rfl (by decide) rfl ?_
          refine r_iload_n C dX11_isNamed_44 rfl hl 2 rfl ?_
          replace h := ck_some h
          obtain ⟨hc6, h⟩ := h
          refine r_iald C hM rfl dX11_isNamed_45 lr_1.1 lr_1.2 hc6 hy3 ?_
          refine r_icmp_ge C 83 hx5 (hM.ok _ _) dX11_isNamed_46 (by decide) (fun cq => ?_) (fun cq => ?_)
          · replace h := ifp cq h
            refine r_iload C dX11_isNamed_83 hl 3 rfl ?_
            replace h := ck_some h
            obtain ⟨hc7, h⟩ := h
            exact r_zreturn C hM hr hlk hc7 h rfl dX11_isNamed_85
          · replace h := ifn cq h
            refine r_aload_n C dX11_isNamed_49 rfl hl 0 rfl ?_
            refine r_getR C hM jc11 0 1 dX11_isNamed_50 lk_X11_7 lr_0.1 lr_0.2 rfl rfl (by decide) rfl ?_
            refine r_iload_n C dX11_isNamed_53 rfl hl 2 rfl ?_
            refine r_iconst C dX11_isNamed_54 ?_
            replace h := ck_some h
            obtain ⟨hc8, h⟩ := h
            refine r_iadd C dX11_isNamed_55 ?_
            refine r_iload C dX11_isNamed_56 hl 4 rfl ?_
            replace h := ck_some h
            obtain ⟨hc9, h⟩ := h
            refine r_iadd C dX11_isNamed_58 ?_
            replace h := ck_some h
            obtain ⟨hc10, h⟩ := h
            refine r_iald C hM rfl dX11_isNamed_59 lr_1.1 lr_1.2 hc10 hc9 ?_
            refine r_aload_n C dX11_isNamed_60 rfl hl 0 rfl ?_
            refine r_iload_n C dX11_isNamed_61 rfl hl 1 rfl ?_
            refine r_iload C dX11_isNamed_62 hl 4 rfl ?_
            replace h := bd_some h
            obtain ⟨r64, hf64, h⟩ := h
            refine r_callI (As := [.int (jI x1), .int (jI x5)]) (rest := [.int (jI (M 1 ((y3 + 1) + x5).toNat))]) C hM (c_X11_letter l E z hx1 hx5 hf64) jy_X11_letter lk_X11_168 dX11_isNamed_64 (recvW C hM jc11 lr_0.1 lr_0.2 rfl) rfl rfl hl.1 (Nat.le_of_ble_eq_true rfl) ⟨Nat.le_of_ble_eq_true rfl, Nat.le_of_ble_eq_true rfl⟩ ⟨rfl, rfl⟩ ⟨Nat.zero_le _, Nat.zero_le _⟩ (fun H locs hr64 hM11 => ?_)
            refine r_icmp_ne C 74 (hM.ok _ _) hr64 dX11_isNamed_67 (by decide) (fun cq => ?_) (fun cq => ?_)
            · replace h := ifn cq h
              refine r_iconst C dX11_isNamed_74 ?_
              refine r_istore C [(4, .int (jI 0)), (0, .ref (z + 0)), (1, .int (jI x1)), (3, .int (jI y3)), (5, .int (jI x5))] dX11_isNamed_75 hl (by decide) rfl (fun ls hl => ?_)
              replace h := ck_some h
              obtain ⟨hc12, h⟩ := h
              refine r_iinc (j := 4) (x := x5) C [(5, .int (jI (x5 + 1))), (4, .int (jI 0)), (0, .ref (z + 0)), (1, .int (jI x1)), (3, .int (jI y3))] dX11_isNamed_77 hl rfl (by decide) rfl (fun ls hl => ?_)
              refine r_goto C 33 dX11_isNamed_80 (by decide) ?_
              exact ih33 _ _ ⟨by decide, by decide⟩ hc12 _ _ _ h hM11 (lv_sub hl [2, 3, 4, 1, 0] rfl)
            · replace h := ifp cq h
              refine r_iconst C dX11_isNamed_70 ?_
              refine r_goto C 75 dX11_isNamed_71 (by decide) ?_
              refine r_istore C [(4, .int (jI 1)), (0, .ref (z + 0)), (1, .int (jI x1)), (3, .int (jI y3)), (5, .int (jI x5))] dX11_isNamed_75 hl (by decide) rfl (fun ls hl => ?_)
              replace h := ck_some h
              obtain ⟨hc13, h⟩ := h
              refine r_iinc (j := 4) (x := x5) C [(5, .int (jI (x5 + 1))), (4, .int (jI 1)), (0, .ref (z + 0)), (1, .int (jI x1)), (3, .int (jI y3))] dX11_isNamed_77 hl rfl (by decide) rfl (fun ls hl => ?_)
              refine r_goto C 33 dX11_isNamed_80 (by decide) ?_
              exact ih33 _ _ ⟨by decide, by decide⟩ hc13 _ _ _ h hM11 (lv_sub hl [2, 3, 4, 1, 0] rfl)
    rw [← ey3] at h
    have hl := lv_sub (l' := [(0, .ref (z + 0)), (1, .int (jI x1)), (3, .int (jI y3)), (4, .int (jI 0)), (5, .int (jI 0))]) hl [3, 4, 2, 1, 0] (by rw [ey3]; rfl)
    exact hL33 jFuel _ _ ⟨by decide, by decide⟩ ⟨by decide, by decide⟩ _ _ _ h hM4 hl
  · replace h := ifp cq h
    refine r_iconst C dX11_isNamed_23 ?_
    refine r_goto C 28 dX11_isNamed_24 (by decide) ?_
    refine r_istore C [(4, .int (jI 1)), (3, .int (jI (36 + (10 * x2)))), (0, .ref (z + 0)), (1, .int (jI x1)), (2, .int (jI x2))] dX11_isNamed_28 hl (by decide) rfl (fun ls hl => ?_)
    refine r_iconst C dX11_isNamed_30 ?_
    refine r_istore C [(5, .int (jI 0)), (4, .int (jI 1)), (3, .int (jI (36 + (10 * x2)))), (0, .ref (z + 0)), (1, .int (jI x1)), (2, .int (jI x2))] dX11_isNamed_31 hl (by decide) rfl (fun ls hl => ?_)
    obtain ⟨y3, ey3⟩ : ∃ y : Int, y = (36 + (10 * x2)) := ⟨_, rfl⟩
    have hy3 : inR y3 := by rw [ey3]; exact hc2
    have hL33 : ∀ n33 : Nat, ∀ (x4 : Int) (x5 : Int), inR x4 → inR x5 → ∀ (H : Heap) (locs : List Loc) (ls : Array Slot), f_X11_isNamed_L33 x1 y3 M n33  x4 x5 = some r → HS E z LyR M sM H locs → lv_has ls 6 [(0, .ref (z + 0)), (1, .int (jI x1)), (3, .int (jI y3)), (4, .int (jI x4)), (5, .int (jI x5))] → W p l e ({ frames := 2, cells := 0, slots := 0, locals := 44 } : Room) sM m (([.ref (z + 0), .int (jI x1), .int (jI x2)] : List Value).toArray) below meth c H locs 0 0 (MQ below (va_Qi (fun (w : Int32) (_ : Unit) => w = jI r ∧ inR r ∧ Mok LyR M) (fun _ t => va_P (eD E) vwCl (Wd (eC E) z LyR M) t.heap) (eA E)) (([.ref (z + 0), .int (jI x1), .int (jI x2)] : List Value).toArray) sM 0 0 (eA E)) (F0 m 33 ls []) := by
      intro n33
      induction n33 with
      | zero =>
        intro x4 x5 hx4 hx5 H locs ls h hM hl
        exact absurd h (by simp [f_X11_isNamed_L33])
      | succ n33 ih33 =>
        intro x4 x5 hx4 hx5 H locs ls h hM hl
        rw [f_X11_isNamed_L33] at h
        refine r_iload C dX11_isNamed_33 hl 3 rfl ?_
        refine r_if_eq C 83 hx4 dX11_isNamed_35 (by decide) (fun cq => ?_) (fun cq => ?_)
        · replace h := ifp cq h
          refine r_iload C dX11_isNamed_83 hl 3 rfl ?_
          replace h := ck_some h
          obtain ⟨hc14, h⟩ := h
          exact r_zreturn C hM hr hlk hc14 h rfl dX11_isNamed_85
        · replace h := ifn cq h
          refine r_iload C dX11_isNamed_38 hl 4 rfl ?_
          refine r_aload_n C dX11_isNamed_40 rfl hl 0 rfl ?_
          refine r_getR C hM jc11 0 1 dX11_isNamed_41 lk_X11_7 lr_0.1 lr_0.2 rfl rfl (by decide) rfl ?_
          refine r_iload_n C dX11_isNamed_44 rfl hl 2 rfl ?_
          replace h := ck_some h
          obtain ⟨hc15, h⟩ := h
          refine r_iald C hM rfl dX11_isNamed_45 lr_1.1 lr_1.2 hc15 hy3 ?_
          refine r_icmp_ge C 83 hx5 (hM.ok _ _) dX11_isNamed_46 (by decide) (fun cq => ?_) (fun cq => ?_)
          · replace h := ifp cq h
            refine r_iload C dX11_isNamed_83 hl 3 rfl ?_
            replace h := ck_some h
            obtain ⟨hc16, h⟩ := h
            exact r_zreturn C hM hr hlk hc16 h rfl dX11_isNamed_85
          · replace h := ifn cq h
            refine r_aload_n C dX11_isNamed_49 rfl hl 0 rfl ?_
            refine r_getR C hM jc11 0 1 dX11_isNamed_50 lk_X11_7 lr_0.1 lr_0.2 rfl rfl (by decide) rfl ?_
            refine r_iload_n C dX11_isNamed_53 rfl hl 2 rfl ?_
            refine r_iconst C dX11_isNamed_54 ?_
            replace h := ck_some h
            obtain ⟨hc17, h⟩ := h
            refine r_iadd C dX11_isNamed_55 ?_
            refine r_iload C dX11_isNamed_56 hl 4 rfl ?_
            replace h := ck_some h
            obtain ⟨hc18, h⟩ := h
            refine r_iadd C dX11_isNamed_58 ?_
            replace h := ck_some h
            obtain ⟨hc19, h⟩ := h
            refine r_iald C hM rfl dX11_isNamed_59 lr_1.1 lr_1.2 hc19 hc18 ?_
            refine r_aload_n C dX11_isNamed_60 rfl hl 0 rfl ?_
            refine r_iload_n C dX11_isNamed_61 rfl hl 1 rfl ?_
            refine r_iload C dX11_isNamed_62 hl 4 rfl ?_
            replace h := bd_some h
            obtain ⟨r64, hf64, h⟩ := h
            refine r_callI (As := [.int (jI x1), .int (jI x5)]) (rest := [.int (jI (M 1 ((y3 + 1) + x5).toNat))]) C hM (c_X11_letter l E z hx1 hx5 hf64) jy_X11_letter lk_X11_168 dX11_isNamed_64 (recvW C hM jc11 lr_0.1 lr_0.2 rfl) rfl rfl hl.1 (Nat.le_of_ble_eq_true rfl) ⟨Nat.le_of_ble_eq_true rfl, Nat.le_of_ble_eq_true rfl⟩ ⟨rfl, rfl⟩ ⟨Nat.zero_le _, Nat.zero_le _⟩ (fun H locs hr64 hM20 => ?_)
            refine r_icmp_ne C 74 (hM.ok _ _) hr64 dX11_isNamed_67 (by decide) (fun cq => ?_) (fun cq => ?_)
            · replace h := ifn cq h
              refine r_iconst C dX11_isNamed_74 ?_
              refine r_istore C [(4, .int (jI 0)), (0, .ref (z + 0)), (1, .int (jI x1)), (3, .int (jI y3)), (5, .int (jI x5))] dX11_isNamed_75 hl (by decide) rfl (fun ls hl => ?_)
              replace h := ck_some h
              obtain ⟨hc21, h⟩ := h
              refine r_iinc (j := 4) (x := x5) C [(5, .int (jI (x5 + 1))), (4, .int (jI 0)), (0, .ref (z + 0)), (1, .int (jI x1)), (3, .int (jI y3))] dX11_isNamed_77 hl rfl (by decide) rfl (fun ls hl => ?_)
              refine r_goto C 33 dX11_isNamed_80 (by decide) ?_
              exact ih33 _ _ ⟨by decide, by decide⟩ hc21 _ _ _ h hM20 (lv_sub hl [2, 3, 4, 1, 0] rfl)
            · replace h := ifp cq h
              refine r_iconst C dX11_isNamed_70 ?_
              refine r_goto C 75 dX11_isNamed_71 (by decide) ?_
              refine r_istore C [(4, .int (jI 1)), (0, .ref (z + 0)), (1, .int (jI x1)), (3, .int (jI y3)), (5, .int (jI x5))] dX11_isNamed_75 hl (by decide) rfl (fun ls hl => ?_)
              replace h := ck_some h
              obtain ⟨hc22, h⟩ := h
              refine r_iinc (j := 4) (x := x5) C [(5, .int (jI (x5 + 1))), (4, .int (jI 1)), (0, .ref (z + 0)), (1, .int (jI x1)), (3, .int (jI y3))] dX11_isNamed_77 hl rfl (by decide) rfl (fun ls hl => ?_)
              refine r_goto C 33 dX11_isNamed_80 (by decide) ?_
              exact ih33 _ _ ⟨by decide, by decide⟩ hc22 _ _ _ h hM20 (lv_sub hl [2, 3, 4, 1, 0] rfl)
    rw [← ey3] at h
    have hl := lv_sub (l' := [(0, .ref (z + 0)), (1, .int (jI x1)), (3, .int (jI y3)), (4, .int (jI 1)), (5, .int (jI 0))]) hl [3, 4, 2, 1, 0] (by rw [ey3]; rfl)
    exact hL33 jFuel _ _ ⟨by decide, by decide⟩ ⟨by decide, by decide⟩ _ _ _ h hM4 hl
set_option maxRecDepth 100000 in
set_option maxHeartbeats 4000000 in
theorem c_X11_mapOf (l : Launch) (E : jE) (z : Nat) {x1 : Int} {M : Mem} {r : Int} (hx1 : inR x1) (h : f_X11_mapOf x1 M = some r) : CtI l yX11_mapOf cX11_mapOf 3 (some .int) { frames := 3, cells := 0, slots := 0, locals := 69 } E z LyR [.ref (z + 0), .int (jI x1)] M r M := by
  refine jm (by decide +kernel) (Nat.le_of_ble_eq_true rfl) ?_
  intro p e sM m below meth c C hM0 hr hlk ls hl
  replace hl : lv_has ls 3 [(0, .ref (z + 0)), (1, .int (jI x1))] := hl
  unfold f_X11_mapOf at h
  refine r_iconst C dX11_mapOf_0 ?_
  refine r_istore_n C [(2, .int (jI 0)), (0, .ref (z + 0)), (1, .int (jI x1))] dX11_mapOf_1 rfl hl (by decide) rfl (fun ls hl => ?_)
  have hL2 : ∀ n2 : Nat, ∀ (x2 : Int), inR x2 → ∀ (H : Heap) (locs : List Loc) (ls : Array Slot), f_X11_mapOf_L2 x1 M n2  x2 = some r → HS E z LyR M sM H locs → lv_has ls 3 [(0, .ref (z + 0)), (1, .int (jI x1)), (2, .int (jI x2))] → W p l e ({ frames := 3, cells := 0, slots := 0, locals := 69 } : Room) sM m (([.ref (z + 0), .int (jI x1)] : List Value).toArray) below meth c H locs 0 0 (MQ below (va_Qi (fun (w : Int32) (_ : Unit) => w = jI r ∧ inR r ∧ Mok LyR M) (fun _ t => va_P (eD E) vwCl (Wd (eC E) z LyR M) t.heap) (eA E)) (([.ref (z + 0), .int (jI x1)] : List Value).toArray) sM 0 0 (eA E)) (F0 m 2 ls []) := by
    intro n2
    induction n2 with
    | zero =>
      intro x2 hx2 H locs ls h hM hl
      exact absurd h (by simp [f_X11_mapOf_L2])
    | succ n2 ih2 =>
      intro x2 hx2 H locs ls h hM hl
      rw [f_X11_mapOf_L2] at h
      refine r_iload_n C dX11_mapOf_2 rfl hl 2 rfl ?_
      refine r_aload_n C dX11_mapOf_3 rfl hl 0 rfl ?_
      refine r_getR C hM jc11 0 1 dX11_mapOf_4 lk_X11_7 lr_0.1 lr_0.2 rfl rfl (by decide) rfl ?_
      refine r_bipush C dX11_mapOf_7 rfl ?_
      refine r_iald C hM rfl dX11_mapOf_9 lr_1.1 lr_1.2 (show (0 : Int) ≤ 6 ∧ (6 : Int) < 1062 by decide) ⟨by decide, by decide⟩ ?_
      refine r_icmp_ge C 30 hx2 (hM.ok _ _) dX11_mapOf_10 (by decide) (fun cq => ?_) (fun cq => ?_)
      · replace h := ifp cq h
        refine r_iconst C dX11_mapOf_30 ?_
        exact r_ireturn C hM hr hlk ⟨by decide, by decide⟩ h rfl dX11_mapOf_31
      · replace h := ifn cq h
        refine r_aload_n C dX11_mapOf_13 rfl hl 0 rfl ?_
        refine r_iload_n C dX11_mapOf_14 rfl hl 1 rfl ?_
        refine r_iload_n C dX11_mapOf_15 rfl hl 2 rfl ?_
        replace h := bd_some h
        obtain ⟨r16, hf16, h⟩ := h
        refine r_callI (As := [.int (jI x1), .int (jI x2)]) (rest := []) C hM (c_X11_isNamed l E z hx1 hx2 hf16) jy_X11_isNamed lk_X11_178 dX11_mapOf_16 (recvW C hM jc11 lr_0.1 lr_0.2 rfl) rfl rfl hl.1 (Nat.le_of_ble_eq_true rfl) ⟨Nat.le_of_ble_eq_true rfl, Nat.le_of_ble_eq_true rfl⟩ ⟨rfl, rfl⟩ ⟨Nat.zero_le _, Nat.zero_le _⟩ (fun H locs hr16 hM1 => ?_)
        refine r_if_eq C 24 hr16 dX11_mapOf_19 (by decide) (fun cq => ?_) (fun cq => ?_)
        · replace h := ifp cq h
          replace h := ck_some h
          obtain ⟨hc2, h⟩ := h
          refine r_iinc (j := 2) (x := x2) C [(2, .int (jI (x2 + 1))), (0, .ref (z + 0)), (1, .int (jI x1))] dX11_mapOf_24 hl rfl (by decide) rfl (fun ls hl => ?_)
          refine r_goto C 2 dX11_mapOf_27 (by decide) ?_
          exact ih2 _ hc2 _ _ _ h hM1 (lv_sub hl [1, 2, 0] rfl)
        · replace h := ifn cq h
          refine r_iload_n C dX11_mapOf_22 rfl hl 2 rfl ?_
          exact r_ireturn C hM1 hr hlk hx2 h rfl dX11_mapOf_23
  exact hL2 jFuel _ ⟨by decide, by decide⟩ _ _ _ h hM0 (lv_sub hl [1, 2, 0] rfl)
set_option maxRecDepth 100000 in
set_option maxHeartbeats 4000000 in
theorem c_X11_isShown (l : Launch) (E : jE) (z : Nat) {x1 : Int} {x2 : Int} {M : Mem} {r : Int} (hx1 : inR x1) (hx2 : inR x2) (h : f_X11_isShown x1 x2 M = some r) : CtI l yX11_isShown cX11_isShown 4 (some .boolean) { frames := 2, cells := 0, slots := 0, locals := 44 } E z LyR [.ref (z + 0), .int (jI x1), .int (jI x2)] M r M := by
  refine jm (by decide +kernel) (Nat.le_of_ble_eq_true rfl) ?_
  intro p e sM m below meth c C hM0 hr hlk ls hl
  replace hl : lv_has ls 4 [(0, .ref (z + 0)), (1, .int (jI x1)), (2, .int (jI x2))] := hl
  unfold f_X11_isShown at h
  refine r_aload_n C dX11_isShown_0 rfl hl 0 rfl ?_
  refine r_aload_n C dX11_isShown_1 rfl hl 0 rfl ?_
  refine r_getR C hM0 jc11 23 19 dX11_isShown_2 lk_X11_65 lr_0.1 lr_0.2 rfl rfl (by decide) rfl ?_
  refine r_iload_n C dX11_isShown_5 rfl hl 2 rfl ?_
  replace h := ck_some h
  obtain ⟨hc1, h⟩ := h
  refine r_iald C hM0 rfl dX11_isShown_6 lr_19.1 lr_19.2 hc1 hx2 ?_
  replace h := bd_some h
  obtain ⟨r7, hf7, h⟩ := h
  refine r_callI (As := [.int (jI (M 19 x2.toNat))]) (rest := []) C hM0 (c_X11_screenIn l E z (hM0.ok _ _) hf7) jy_X11_screenIn lk_X11_181 dX11_isShown_7 (recvW C hM0 jc11 lr_0.1 lr_0.2 rfl) rfl rfl hl.1 (Nat.le_of_ble_eq_true rfl) ⟨Nat.le_of_ble_eq_true rfl, Nat.le_of_ble_eq_true rfl⟩ ⟨rfl, rfl⟩ ⟨Nat.zero_le _, Nat.zero_le _⟩ (fun H locs hr7 hM2 => ?_)
  refine r_istore_n C [(3, .int (jI r7)), (0, .ref (z + 0)), (1, .int (jI x1)), (2, .int (jI x2))] dX11_isShown_10 rfl hl (by decide) rfl (fun ls hl => ?_)
  refine r_iload_n C dX11_isShown_11 rfl hl 0 rfl ?_
  refine r_iconst C dX11_isShown_12 ?_
  refine r_icmp_eq C 40 hr7 ⟨by decide, by decide⟩ dX11_isShown_13 (by decide) (fun cq => ?_) (fun cq => ?_)
  · replace h := ifp cq h
    refine r_iconst C dX11_isShown_40 ?_
    exact r_zreturn C hM2 hr hlk (Or.inl rfl) h rfl dX11_isShown_41
  · replace h := ifn cq h
    refine r_aload_n C dX11_isShown_16 rfl hl 1 rfl ?_
    refine r_getR C hM2 jc11 8 7 dX11_isShown_17 lk_X11_29 lr_0.1 lr_0.2 rfl rfl (by decide) rfl ?_
    refine r_iload_n C dX11_isShown_20 rfl hl 0 rfl ?_
    replace h := ck_some h
    obtain ⟨hc3, h⟩ := h
    refine r_iald C hM2 rfl dX11_isShown_21 lr_7.1 lr_7.2 hc3 hr7 ?_
    refine r_iconst C dX11_isShown_22 ?_
    refine r_icmp_ne C 40 (hM0.ok _ _) ⟨by decide, by decide⟩ dX11_isShown_23 (by decide) (fun cq => ?_) (fun cq => ?_)
    · replace h := ifn cq h
      refine r_iconst C dX11_isShown_40 ?_
      exact r_zreturn C hM2 hr hlk (Or.inl rfl) h rfl dX11_isShown_41
    · replace h := ifp cq h
      refine r_aload_n C dX11_isShown_26 rfl hl 1 rfl ?_
      refine r_getR C hM2 jc11 9 8 dX11_isShown_27 lk_X11_32 lr_0.1 lr_0.2 rfl rfl (by decide) rfl ?_
      refine r_iload_n C dX11_isShown_30 rfl hl 0 rfl ?_
      refine r_iald C hM2 rfl dX11_isShown_31 lr_8.1 lr_8.2 hc3 hr7 ?_
      refine r_iload_n C dX11_isShown_32 rfl hl 2 rfl ?_
      refine r_icmp_ne C 40 (hM0.ok _ _) hx1 dX11_isShown_33 (by decide) (fun cq => ?_) (fun cq => ?_)
      · replace h := ifn cq h
        refine r_iconst C dX11_isShown_40 ?_
        exact r_zreturn C hM2 hr hlk (Or.inl rfl) h rfl dX11_isShown_41
      · replace h := ifp cq h
        refine r_iconst C dX11_isShown_36 ?_
        refine r_goto C 41 dX11_isShown_37 (by decide) ?_
        exact r_zreturn C hM2 hr hlk (Or.inr rfl) h rfl dX11_isShown_41
set_option maxRecDepth 100000 in
set_option maxHeartbeats 4000000 in
theorem c_X11_candidates (l : Launch) (E : jE) (z : Nat) {x1 : Int} {M : Mem} {r : Int} (hx1 : inR x1) (h : f_X11_candidates x1 M = some r) : CtI l yX11_candidates cX11_candidates 2 (some .int) { frames := 0, cells := 0, slots := 0, locals := 0 } E z LyR [.ref (z + 0), .int (jI x1)] M r M := by
  refine jm (by decide +kernel) (Nat.le_of_ble_eq_true rfl) ?_
  intro p e sM m below meth c C hM0 hr hlk ls hl
  replace hl : lv_has ls 2 [(0, .ref (z + 0)), (1, .int (jI x1))] := hl
  unfold f_X11_candidates at h
  refine r_iload_n C dX11_candidates_0 rfl hl 1 rfl ?_
  refine r_iconst C dX11_candidates_1 ?_
  refine r_icmp_ne C 9 hx1 ⟨by decide, by decide⟩ dX11_candidates_2 (by decide) (fun cq => ?_) (fun cq => ?_)
  · replace h := ifn cq h
    refine r_iload_n C dX11_candidates_9 rfl hl 1 rfl ?_
    refine r_iconst C dX11_candidates_10 ?_
    refine r_icmp_ne C 24 hx1 ⟨by decide, by decide⟩ dX11_candidates_11 (by decide) (fun cq => ?_) (fun cq => ?_)
    · replace h := ifn cq h
      refine r_aload_n C dX11_candidates_24 rfl hl 0 rfl ?_
      refine r_getI C hM0 jc11 17 rfl dX11_candidates_25 lk_X11_126 lr_0.1 lr_0.2 rfl rfl (by decide) rfl ?_
      exact r_ireturn C hM0 hr hlk (hM0.ok _ _) h rfl dX11_candidates_28
    · replace h := ifp cq h
      refine r_aload_n C dX11_candidates_14 rfl hl 0 rfl ?_
      refine r_getR C hM0 jc11 0 1 dX11_candidates_15 lk_X11_7 lr_0.1 lr_0.2 rfl rfl (by decide) rfl ?_
      refine r_bipush C dX11_candidates_18 rfl ?_
      refine r_iald C hM0 rfl dX11_candidates_20 lr_1.1 lr_1.2 (show (0 : Int) ≤ 9 ∧ (9 : Int) < 1062 by decide) ⟨by decide, by decide⟩ ?_
      refine r_goto C 28 dX11_candidates_21 (by decide) ?_
      exact r_ireturn C hM0 hr hlk (hM0.ok _ _) h rfl dX11_candidates_28
  · replace h := ifp cq h
    refine r_iconst C dX11_candidates_5 ?_
    refine r_goto C 28 dX11_candidates_6 (by decide) ?_
    exact r_ireturn C hM0 hr hlk ⟨by decide, by decide⟩ h rfl dX11_candidates_28
set_option maxRecDepth 100000 in
set_option maxHeartbeats 4000000 in
theorem c_X11_isShot (l : Launch) (E : jE) (z : Nat) {x1 : Int} {M : Mem} {r : Int} (hx1 : inR x1) (h : f_X11_isShot x1 M = some r) : CtI l yX11_isShot cX11_isShot 2 (some .boolean) { frames := 0, cells := 0, slots := 0, locals := 0 } E z LyR [.ref (z + 0), .int (jI x1)] M r M := by
  refine jm (by decide +kernel) (Nat.le_of_ble_eq_true rfl) ?_
  intro p e sM m below meth c C hM0 hr hlk ls hl
  replace hl : lv_has ls 2 [(0, .ref (z + 0)), (1, .int (jI x1))] := hl
  unfold f_X11_isShot at h
  refine r_aload_n C dX11_isShot_0 rfl hl 0 rfl ?_
  refine r_getR C hM0 jc11 8 7 dX11_isShot_1 lk_X11_29 lr_0.1 lr_0.2 rfl rfl (by decide) rfl ?_
  refine r_iload_n C dX11_isShot_4 rfl hl 1 rfl ?_
  replace h := ck_some h
  obtain ⟨hc1, h⟩ := h
  refine r_iald C hM0 rfl dX11_isShot_5 lr_7.1 lr_7.2 hc1 hx1 ?_
  refine r_if_ne C 13 (hM0.ok _ _) dX11_isShot_6 (by decide) (fun cq => ?_) (fun cq => ?_)
  · replace h := ifn cq h
    refine r_iconst C dX11_isShot_13 ?_
    exact r_zreturn C hM0 hr hlk (Or.inl rfl) h rfl dX11_isShot_14
  · replace h := ifp cq h
    refine r_iconst C dX11_isShot_9 ?_
    refine r_goto C 14 dX11_isShot_10 (by decide) ?_
    exact r_zreturn C hM0 hr hlk (Or.inr rfl) h rfl dX11_isShot_14
set_option maxRecDepth 100000 in
set_option maxHeartbeats 4000000 in
theorem c_X11_isFault (l : Launch) (E : jE) (z : Nat) {x1 : Int} {x2 : Int} {x3 : Int} {M : Mem} {r : Int} (hx1 : inR x1) (hx2 : inR x2) (hx3 : inR x3) (h : f_X11_isFault x1 x2 x3 M = some r) : CtI l yX11_isFault cX11_isFault 4 (some .boolean) { frames := 4, cells := 0, slots := 0, locals := 91 } E z LyR [.ref (z + 0), .int (jI x1), .int (jI x2), .int (jI x3)] M r M := by
  refine jm (by decide +kernel) (Nat.le_of_ble_eq_true rfl) ?_
  intro p e sM m below meth c C hM0 hr hlk ls hl
  replace hl : lv_has ls 4 [(0, .ref (z + 0)), (1, .int (jI x1)), (2, .int (jI x2)), (3, .int (jI x3))] := hl
  unfold f_X11_isFault at h
  refine r_iload_n C dX11_isFault_0 rfl hl 1 rfl ?_
  by_cases cq : x1 = 1
  · replace h := ifp cq h
    refine r_table C 32 hx1 dX11_isFault_1 (by decide) (by rw [cq]; rfl) ?_
    refine r_aload_n C dX11_isFault_32 rfl hl 0 rfl ?_
    refine r_iload_n C dX11_isFault_33 rfl hl 2 rfl ?_
    replace h := bd_some h
    obtain ⟨r34, hf34, h⟩ := h
    refine r_callI (As := [.int (jI x2)]) (rest := []) C hM0 (c_X11_isShot l E z hx2 hf34) jy_X11_isShot lk_X11_184 dX11_isFault_34 (recvW C hM0 jc11 lr_0.1 lr_0.2 rfl) rfl rfl hl.1 (Nat.le_of_ble_eq_true rfl) ⟨Nat.le_of_ble_eq_true rfl, Nat.le_of_ble_eq_true rfl⟩ ⟨rfl, rfl⟩ ⟨Nat.zero_le _, Nat.zero_le _⟩ (fun H locs hr34 hM1 => ?_)
    refine r_if_eq C 57 hr34 dX11_isFault_37 (by decide) (fun cq => ?_) (fun cq => ?_)
    · replace h := ifp cq h
      refine r_iconst C dX11_isFault_57 ?_
      exact r_zreturn C hM1 hr hlk (Or.inl rfl) h rfl dX11_isFault_58
    · replace h := ifn cq h
      refine r_aload_n C dX11_isFault_40 rfl hl 0 rfl ?_
      refine r_aload_n C dX11_isFault_41 rfl hl 0 rfl ?_
      refine r_getR C hM1 jc11 9 8 dX11_isFault_42 lk_X11_32 lr_0.1 lr_0.2 rfl rfl (by decide) rfl ?_
      refine r_iload_n C dX11_isFault_45 rfl hl 2 rfl ?_
      replace h := ck_some h
      obtain ⟨hc2, h⟩ := h
      refine r_iald C hM1 rfl dX11_isFault_46 lr_8.1 lr_8.2 hc2 hx2 ?_
      replace h := bd_some h
      obtain ⟨r47, hf47, h⟩ := h
      refine r_callI (As := [.int (jI (M 8 x2.toNat))]) (rest := []) C hM1 (c_X11_isBanned l E z (hM0.ok _ _) hf47) jy_X11_isBanned lk_X11_187 dX11_isFault_47 (recvW C hM1 jc11 lr_0.1 lr_0.2 rfl) rfl rfl hl.1 (Nat.le_of_ble_eq_true rfl) ⟨Nat.le_of_ble_eq_true rfl, Nat.le_of_ble_eq_true rfl⟩ ⟨rfl, rfl⟩ ⟨Nat.zero_le _, Nat.zero_le _⟩ (fun H locs hr47 hM3 => ?_)
      refine r_if_eq C 57 hr47 dX11_isFault_50 (by decide) (fun cq => ?_) (fun cq => ?_)
      · replace h := ifp cq h
        refine r_iconst C dX11_isFault_57 ?_
        exact r_zreturn C hM3 hr hlk (Or.inl rfl) h rfl dX11_isFault_58
      · replace h := ifn cq h
        refine r_iconst C dX11_isFault_53 ?_
        refine r_goto C 58 dX11_isFault_54 (by decide) ?_
        exact r_zreturn C hM3 hr hlk (Or.inr rfl) h rfl dX11_isFault_58
  · replace h := ifn cq h
    have c1_1 := cq
    by_cases cq : x1 = 2
    · replace h := ifp cq h
      refine r_table C 59 hx1 dX11_isFault_1 (by decide) (by rw [cq]; rfl) ?_
      refine r_aload_n C dX11_isFault_59 rfl hl 0 rfl ?_
      refine r_iload_n C dX11_isFault_60 rfl hl 2 rfl ?_
      replace h := bd_some h
      obtain ⟨r61, hf61, h⟩ := h
      refine r_callI (As := [.int (jI x2)]) (rest := []) C hM0 (c_X11_mapOf l E z hx2 hf61) jy_X11_mapOf lk_X11_190 dX11_isFault_61 (recvW C hM0 jc11 lr_0.1 lr_0.2 rfl) rfl rfl hl.1 (Nat.le_of_ble_eq_true rfl) ⟨Nat.le_of_ble_eq_true rfl, Nat.le_of_ble_eq_true rfl⟩ ⟨rfl, rfl⟩ ⟨Nat.zero_le _, Nat.zero_le _⟩ (fun H locs hr61 hM4 => ?_)
      refine r_iconst C dX11_isFault_64 ?_
      refine r_icmp_eq C 85 hr61 ⟨by decide, by decide⟩ dX11_isFault_65 (by decide) (fun cq => ?_) (fun cq => ?_)
      · replace h := ifp cq h
        refine r_iconst C dX11_isFault_85 ?_
        exact r_zreturn C hM4 hr hlk (Or.inl rfl) h rfl dX11_isFault_86
      · replace h := ifn cq h
        refine r_aload_n C dX11_isFault_68 rfl hl 0 rfl ?_
        refine r_aload_n C dX11_isFault_69 rfl hl 0 rfl ?_
        refine r_iload_n C dX11_isFault_70 rfl hl 2 rfl ?_
        replace h := bd_some h
        obtain ⟨r71, hf71, h⟩ := h
        refine r_callI (As := [.int (jI x2)]) (rest := [.ref (z + 0)]) C hM4 (c_X11_mapOf l E z hx2 hf71) jy_X11_mapOf lk_X11_190 dX11_isFault_71 (recvW C hM4 jc11 lr_0.1 lr_0.2 rfl) rfl rfl hl.1 (Nat.le_of_ble_eq_true rfl) ⟨Nat.le_of_ble_eq_true rfl, Nat.le_of_ble_eq_true rfl⟩ ⟨rfl, rfl⟩ ⟨Nat.zero_le _, Nat.zero_le _⟩ (fun H locs hr71 hM5 => ?_)
        refine r_iload_n C dX11_isFault_74 rfl hl 2 rfl ?_
        replace h := bd_some h
        obtain ⟨r75, hf75, h⟩ := h
        refine r_callI (As := [.int (jI r71), .int (jI x2)]) (rest := []) C hM5 (c_X11_isShown l E z hr71 hx2 hf75) jy_X11_isShown lk_X11_193 dX11_isFault_75 (recvW C hM5 jc11 lr_0.1 lr_0.2 rfl) rfl rfl hl.1 (Nat.le_of_ble_eq_true rfl) ⟨Nat.le_of_ble_eq_true rfl, Nat.le_of_ble_eq_true rfl⟩ ⟨rfl, rfl⟩ ⟨Nat.zero_le _, Nat.zero_le _⟩ (fun H locs hr75 hM6 => ?_)
        refine r_if_ne C 85 hr75 dX11_isFault_78 (by decide) (fun cq => ?_) (fun cq => ?_)
        · replace h := ifn cq h
          refine r_iconst C dX11_isFault_85 ?_
          exact r_zreturn C hM6 hr hlk (Or.inl rfl) h rfl dX11_isFault_86
        · replace h := ifp cq h
          refine r_iconst C dX11_isFault_81 ?_
          refine r_goto C 86 dX11_isFault_82 (by decide) ?_
          exact r_zreturn C hM6 hr hlk (Or.inr rfl) h rfl dX11_isFault_86
    · replace h := ifn cq h
      have c1_2 := cq
      by_cases cq : x1 = 3
      · replace h := ifp cq h
        refine r_table C 87 hx1 dX11_isFault_1 (by decide) (by rw [cq]; rfl) ?_
        refine r_aload_n C dX11_isFault_87 rfl hl 0 rfl ?_
        refine r_getR C hM0 jc11 11 10 dX11_isFault_88 lk_X11_38 lr_0.1 lr_0.2 rfl rfl (by decide) rfl ?_
        refine r_iload_n C dX11_isFault_91 rfl hl 2 rfl ?_
        replace h := ck_some h
        obtain ⟨hc7, h⟩ := h
        refine r_iald C hM0 rfl dX11_isFault_92 lr_10.1 lr_10.2 hc7 hx2 ?_
        refine r_aload_n C dX11_isFault_93 rfl hl 0 rfl ?_
        refine r_getR C hM0 jc11 0 1 dX11_isFault_94 lk_X11_7 lr_0.1 lr_0.2 rfl rfl (by decide) rfl ?_
        refine r_iconst C dX11_isFault_97 ?_
        refine r_iald C hM0 rfl dX11_isFault_98 lr_1.1 lr_1.2 (show (0 : Int) ≤ 3 ∧ (3 : Int) < 1062 by decide) ⟨by decide, by decide⟩ ?_
        refine r_icmp_ge C 106 (hM0.ok _ _) (hM0.ok _ _) dX11_isFault_99 (by decide) (fun cq => ?_) (fun cq => ?_)
        · replace h := ifp cq h
          refine r_iconst C dX11_isFault_106 ?_
          exact r_zreturn C hM0 hr hlk (Or.inl rfl) h rfl dX11_isFault_107
        · replace h := ifn cq h
          refine r_iconst C dX11_isFault_102 ?_
          refine r_goto C 107 dX11_isFault_103 (by decide) ?_
          exact r_zreturn C hM0 hr hlk (Or.inr rfl) h rfl dX11_isFault_107
      · replace h := ifn cq h
        have c1_3 := cq
        by_cases cq : x1 = 4
        · replace h := ifp cq h
          refine r_table C 108 hx1 dX11_isFault_1 (by decide) (by rw [cq]; rfl) ?_
          refine r_iload_n C dX11_isFault_108 rfl hl 2 rfl ?_
          refine r_if_le C 159 hx2 dX11_isFault_109 (by decide) (fun cq => ?_) (fun cq => ?_)
          · replace h := ifp cq h
            refine r_iconst C dX11_isFault_159 ?_
            exact r_zreturn C hM0 hr hlk (Or.inl rfl) h rfl dX11_isFault_160
          · replace h := ifn cq h
            refine r_aload_n C dX11_isFault_112 rfl hl 0 rfl ?_
            refine r_iload_n C dX11_isFault_113 rfl hl 2 rfl ?_
            replace h := bd_some h
            obtain ⟨r114, hf114, h⟩ := h
            refine r_callI (As := [.int (jI x2)]) (rest := []) C hM0 (c_X11_isShot l E z hx2 hf114) jy_X11_isShot lk_X11_184 dX11_isFault_114 (recvW C hM0 jc11 lr_0.1 lr_0.2 rfl) rfl rfl hl.1 (Nat.le_of_ble_eq_true rfl) ⟨Nat.le_of_ble_eq_true rfl, Nat.le_of_ble_eq_true rfl⟩ ⟨rfl, rfl⟩ ⟨Nat.zero_le _, Nat.zero_le _⟩ (fun H locs hr114 hM8 => ?_)
            refine r_if_eq C 159 hr114 dX11_isFault_117 (by decide) (fun cq => ?_) (fun cq => ?_)
            · replace h := ifp cq h
              refine r_iconst C dX11_isFault_159 ?_
              exact r_zreturn C hM8 hr hlk (Or.inl rfl) h rfl dX11_isFault_160
            · replace h := ifn cq h
              refine r_aload_n C dX11_isFault_120 rfl hl 0 rfl ?_
              refine r_iload_n C dX11_isFault_121 rfl hl 2 rfl ?_
              refine r_iconst C dX11_isFault_122 ?_
              replace h := ck_some h
              obtain ⟨hc9, h⟩ := h
              refine r_isub C dX11_isFault_123 ?_
              replace h := bd_some h
              obtain ⟨r124, hf124, h⟩ := h
              refine r_callI (As := [.int (jI (x2 - 1))]) (rest := []) C hM8 (c_X11_isShot l E z hc9 hf124) jy_X11_isShot lk_X11_184 dX11_isFault_124 (recvW C hM8 jc11 lr_0.1 lr_0.2 rfl) rfl rfl hl.1 (Nat.le_of_ble_eq_true rfl) ⟨Nat.le_of_ble_eq_true rfl, Nat.le_of_ble_eq_true rfl⟩ ⟨rfl, rfl⟩ ⟨Nat.zero_le _, Nat.zero_le _⟩ (fun H locs hr124 hM10 => ?_)
              refine r_if_eq C 159 hr124 dX11_isFault_127 (by decide) (fun cq => ?_) (fun cq => ?_)
              · replace h := ifp cq h
                refine r_iconst C dX11_isFault_159 ?_
                exact r_zreturn C hM10 hr hlk (Or.inl rfl) h rfl dX11_isFault_160
              · replace h := ifn cq h
                refine r_aload_n C dX11_isFault_130 rfl hl 0 rfl ?_
                refine r_aload_n C dX11_isFault_131 rfl hl 0 rfl ?_
                refine r_getR C hM10 jc11 9 8 dX11_isFault_132 lk_X11_32 lr_0.1 lr_0.2 rfl rfl (by decide) rfl ?_
                refine r_iload_n C dX11_isFault_135 rfl hl 2 rfl ?_
                replace h := ck_some h
                obtain ⟨hc11, h⟩ := h
                refine r_iald C hM10 rfl dX11_isFault_136 lr_8.1 lr_8.2 hc11 hx2 ?_
                replace h := bd_some h
                obtain ⟨r137, hf137, h⟩ := h
                refine r_callI (As := [.int (jI (M 8 x2.toNat))]) (rest := []) C hM10 (c_X11_cameraOf l E z (hM0.ok _ _) hf137) jy_X11_cameraOf lk_X11_108 dX11_isFault_137 (recvW C hM10 jc11 lr_0.1 lr_0.2 rfl) rfl rfl hl.1 (Nat.le_of_ble_eq_true rfl) ⟨Nat.le_of_ble_eq_true rfl, Nat.le_of_ble_eq_true rfl⟩ ⟨rfl, rfl⟩ ⟨Nat.zero_le _, Nat.zero_le _⟩ (fun H locs hr137 hM12 => ?_)
                refine r_aload_n C dX11_isFault_140 rfl hl 0 rfl ?_
                refine r_aload_n C dX11_isFault_141 rfl hl 0 rfl ?_
                refine r_getR C hM12 jc11 9 8 dX11_isFault_142 lk_X11_32 lr_0.1 lr_0.2 rfl rfl (by decide) rfl ?_
                refine r_iload_n C dX11_isFault_145 rfl hl 2 rfl ?_
                refine r_iconst C dX11_isFault_146 ?_
                refine r_isub C dX11_isFault_147 ?_
                replace h := ck_some h
                obtain ⟨hc13, h⟩ := h
                refine r_iald C hM12 rfl dX11_isFault_148 lr_8.1 lr_8.2 hc13 hc9 ?_
                replace h := bd_some h
                obtain ⟨r149, hf149, h⟩ := h
                refine r_callI (As := [.int (jI (M 8 (x2 - 1).toNat))]) (rest := [.int (jI r137)]) C hM12 (c_X11_cameraOf l E z (hM0.ok _ _) hf149) jy_X11_cameraOf lk_X11_108 dX11_isFault_149 (recvW C hM12 jc11 lr_0.1 lr_0.2 rfl) rfl rfl hl.1 (Nat.le_of_ble_eq_true rfl) ⟨Nat.le_of_ble_eq_true rfl, Nat.le_of_ble_eq_true rfl⟩ ⟨rfl, rfl⟩ ⟨Nat.zero_le _, Nat.zero_le _⟩ (fun H locs hr149 hM14 => ?_)
                refine r_icmp_ne C 159 hr137 hr149 dX11_isFault_152 (by decide) (fun cq => ?_) (fun cq => ?_)
                · replace h := ifn cq h
                  refine r_iconst C dX11_isFault_159 ?_
                  exact r_zreturn C hM14 hr hlk (Or.inl rfl) h rfl dX11_isFault_160
                · replace h := ifp cq h
                  refine r_iconst C dX11_isFault_155 ?_
                  refine r_goto C 160 dX11_isFault_156 (by decide) ?_
                  exact r_zreturn C hM14 hr hlk (Or.inr rfl) h rfl dX11_isFault_160
        · replace h := ifn cq h
          have c1_4 := cq
          have cd : jsw 1 1 4 (160) #[(31), (58), (86), (107)] x1 = (161 : Int) := by
            have cz : (x1 < 1 ∨ 4 < x1) := by omega
            · unfold jsw; rw [if_pos cz]; rfl
          refine r_table C 161 hx1 dX11_isFault_1 (by decide) cd ?_
          refine r_aload_n C dX11_isFault_161 rfl hl 0 rfl ?_
          replace h := bd_some h
          obtain ⟨r162, hf162, h⟩ := h
          refine r_callI (As := []) (rest := []) C hM0 (c_X11_theEnd l E z hf162) jy_X11_theEnd lk_X11_196 dX11_isFault_162 (recvW C hM0 jc11 lr_0.1 lr_0.2 rfl) rfl rfl hl.1 (Nat.le_of_ble_eq_true rfl) ⟨Nat.le_of_ble_eq_true rfl, Nat.le_of_ble_eq_true rfl⟩ ⟨rfl, rfl⟩ ⟨Nat.zero_le _, Nat.zero_le _⟩ (fun H locs hr162 hM15 => ?_)
          refine r_iload_n C dX11_isFault_165 rfl hl 3 rfl ?_
          replace h := ck_some h
          obtain ⟨hc16, h⟩ := h
          refine r_isub C dX11_isFault_166 ?_
          replace h := ck_some h
          obtain ⟨hc17, h⟩ := h
          refine r_abs C hc16 lk_X11_200 dX11_isFault_167 hl.1 ⟨Nat.le_of_ble_eq_true rfl, Nat.le_of_ble_eq_true rfl⟩ ⟨Nat.zero_le _, Nat.zero_le _⟩ ?_
          refine r_aload_n C dX11_isFault_170 rfl hl 0 rfl ?_
          refine r_getR C hM15 jc11 0 1 dX11_isFault_171 lk_X11_7 lr_0.1 lr_0.2 rfl rfl (by decide) rfl ?_
          refine r_iconst C dX11_isFault_174 ?_
          refine r_iald C hM15 rfl dX11_isFault_175 lr_1.1 lr_1.2 (show (0 : Int) ≤ 4 ∧ (4 : Int) < 1062 by decide) ⟨by decide, by decide⟩ ?_
          refine r_icmp_le C 183 (max_R hc16 hc17) (hM0.ok _ _) dX11_isFault_176 (by decide) (fun cq => ?_) (fun cq => ?_)
          · replace h := ifp cq h
            refine r_iconst C dX11_isFault_183 ?_
            exact r_zreturn C hM15 hr hlk (Or.inl rfl) h rfl dX11_isFault_184
          · replace h := ifn cq h
            refine r_iconst C dX11_isFault_179 ?_
            refine r_goto C 184 dX11_isFault_180 (by decide) ?_
            exact r_zreturn C hM15 hr hlk (Or.inr rfl) h rfl dX11_isFault_184
set_option maxRecDepth 100000 in
set_option maxHeartbeats 4000000 in
theorem c_X11_faultsOf (l : Launch) (E : jE) (z : Nat) {x1 : Int} {x2 : Int} {M : Mem} {r : Int} (hx1 : inR x1) (hx2 : inR x2) (h : f_X11_faultsOf x1 x2 M = some r) : CtI l yX11_faultsOf cX11_faultsOf 5 (some .int) { frames := 5, cells := 0, slots := 0, locals := 114 } E z LyR [.ref (z + 0), .int (jI x1), .int (jI x2)] M r M := by
  refine jm (by decide +kernel) (Nat.le_of_ble_eq_true rfl) ?_
  intro p e sM m below meth c C hM0 hr hlk ls hl
  replace hl : lv_has ls 5 [(0, .ref (z + 0)), (1, .int (jI x1)), (2, .int (jI x2))] := hl
  unfold f_X11_faultsOf at h
  refine r_iconst C dX11_faultsOf_0 ?_
  refine r_istore_n C [(3, .int (jI 0)), (0, .ref (z + 0)), (1, .int (jI x1)), (2, .int (jI x2))] dX11_faultsOf_1 rfl hl (by decide) rfl (fun ls hl => ?_)
  refine r_iconst C dX11_faultsOf_2 ?_
  refine r_istore C [(4, .int (jI 0)), (3, .int (jI 0)), (0, .ref (z + 0)), (1, .int (jI x1)), (2, .int (jI x2))] dX11_faultsOf_3 hl (by decide) rfl (fun ls hl => ?_)
  have hL5 : ∀ n5 : Nat, ∀ (x3 : Int) (x4 : Int), inR x3 → inR x4 → ∀ (H : Heap) (locs : List Loc) (ls : Array Slot), f_X11_faultsOf_L5 x1 x2 M n5  x3 x4 = some r → HS E z LyR M sM H locs → lv_has ls 5 [(0, .ref (z + 0)), (1, .int (jI x1)), (2, .int (jI x2)), (3, .int (jI x3)), (4, .int (jI x4))] → W p l e ({ frames := 5, cells := 0, slots := 0, locals := 114 } : Room) sM m (([.ref (z + 0), .int (jI x1), .int (jI x2)] : List Value).toArray) below meth c H locs 0 0 (MQ below (va_Qi (fun (w : Int32) (_ : Unit) => w = jI r ∧ inR r ∧ Mok LyR M) (fun _ t => va_P (eD E) vwCl (Wd (eC E) z LyR M) t.heap) (eA E)) (([.ref (z + 0), .int (jI x1), .int (jI x2)] : List Value).toArray) sM 0 0 (eA E)) (F0 m 5 ls []) := by
    intro n5
    induction n5 with
    | zero =>
      intro x3 x4 hx3 hx4 H locs ls h hM hl
      exact absurd h (by simp [f_X11_faultsOf_L5])
    | succ n5 ih5 =>
      intro x3 x4 hx3 hx4 H locs ls h hM hl
      rw [f_X11_faultsOf_L5] at h
      refine r_iload C dX11_faultsOf_5 hl 4 rfl ?_
      refine r_aload_n C dX11_faultsOf_7 rfl hl 0 rfl ?_
      refine r_iload_n C dX11_faultsOf_8 rfl hl 1 rfl ?_
      replace h := bd_some h
      obtain ⟨r9, hf9, h⟩ := h
      refine r_callI (As := [.int (jI x1)]) (rest := [.int (jI x4)]) C hM (c_X11_candidates l E z hx1 hf9) jy_X11_candidates lk_X11_203 dX11_faultsOf_9 (recvW C hM jc11 lr_0.1 lr_0.2 rfl) rfl rfl hl.1 (Nat.le_of_ble_eq_true rfl) ⟨Nat.le_of_ble_eq_true rfl, Nat.le_of_ble_eq_true rfl⟩ ⟨rfl, rfl⟩ ⟨Nat.zero_le _, Nat.zero_le _⟩ (fun H locs hr9 hM1 => ?_)
      refine r_icmp_ge C 35 hx4 hr9 dX11_faultsOf_12 (by decide) (fun cq => ?_) (fun cq => ?_)
      · replace h := ifp cq h
        refine r_iload_n C dX11_faultsOf_35 rfl hl 3 rfl ?_
        exact r_ireturn C hM1 hr hlk hx3 h rfl dX11_faultsOf_36
      · replace h := ifn cq h
        refine r_iload_n C dX11_faultsOf_15 rfl hl 3 rfl ?_
        refine r_aload_n C dX11_faultsOf_16 rfl hl 0 rfl ?_
        refine r_iload_n C dX11_faultsOf_17 rfl hl 1 rfl ?_
        refine r_iload C dX11_faultsOf_18 hl 4 rfl ?_
        refine r_iload_n C dX11_faultsOf_20 rfl hl 2 rfl ?_
        replace h := bd_some h
        obtain ⟨r21, hf21, h⟩ := h
        refine r_callI (As := [.int (jI x1), .int (jI x4), .int (jI x2)]) (rest := [.int (jI x3)]) C hM1 (c_X11_isFault l E z hx1 hx4 hx2 hf21) jy_X11_isFault lk_X11_206 dX11_faultsOf_21 (recvW C hM1 jc11 lr_0.1 lr_0.2 rfl) rfl rfl hl.1 (Nat.le_of_ble_eq_true rfl) ⟨Nat.le_of_ble_eq_true rfl, Nat.le_of_ble_eq_true rfl⟩ ⟨rfl, rfl⟩ ⟨Nat.zero_le _, Nat.zero_le _⟩ (fun H locs hr21 hM2 => ?_)
        replace h := bd_some h
        obtain ⟨r24, hf24, h⟩ := h
        refine r_callSI (As := [.int (jI r21)]) (rest := [.int (jI x3)]) C hM2 (c_X11_bit l E z hr21 hf24) jy_X11_bit lk_X11_133 dX11_faultsOf_24 rfl rfl hl.1 (Nat.le_of_ble_eq_true rfl) ⟨Nat.le_of_ble_eq_true rfl, Nat.le_of_ble_eq_true rfl⟩ ⟨rfl, rfl⟩ ⟨Nat.zero_le _, Nat.zero_le _⟩ (fun H locs hr24 hM3 => ?_)
        replace h := ck_some h
        obtain ⟨hc4, h⟩ := h
        refine r_iadd C dX11_faultsOf_27 ?_
        refine r_istore_n C [(3, .int (jI (x3 + r24))), (0, .ref (z + 0)), (1, .int (jI x1)), (2, .int (jI x2)), (4, .int (jI x4))] dX11_faultsOf_28 rfl hl (by decide) rfl (fun ls hl => ?_)
        replace h := ck_some h
        obtain ⟨hc5, h⟩ := h
        refine r_iinc (j := 4) (x := x4) C [(4, .int (jI (x4 + 1))), (3, .int (jI (x3 + r24))), (0, .ref (z + 0)), (1, .int (jI x1)), (2, .int (jI x2))] dX11_faultsOf_29 hl rfl (by decide) rfl (fun ls hl => ?_)
        refine r_goto C 5 dX11_faultsOf_32 (by decide) ?_
        exact ih5 _ _ hc4 hc5 _ _ _ h hM3 (lv_sub hl [2, 3, 4, 1, 0] rfl)
  exact hL5 jFuel _ _ ⟨by decide, by decide⟩ ⟨by decide, by decide⟩ _ _ _ h hM0 (lv_sub hl [2, 3, 4, 1, 0] rfl)
set_option maxRecDepth 100000 in
set_option maxHeartbeats 4000000 in
theorem c_X11_allFaults (l : Launch) (E : jE) (z : Nat) {M M' : Mem} {r : Int} (h : f_X11_allFaults M = some (r, M')) : CtI l yX11_allFaults cX11_allFaults 4 (some .int) { frames := 6, cells := 0, slots := 0, locals := 138 } E z LyR [.ref (z + 0)] M r M' := by
  refine jm (by decide +kernel) (Nat.le_of_ble_eq_true rfl) ?_
  intro p e sM m below meth c C hM0 hr hlk ls hl
  replace hl : lv_has ls 4 [(0, .ref (z + 0))] := hl
  unfold f_X11_allFaults at h
  refine r_aload_n C dX11_allFaults_0 rfl hl 0 rfl ?_
  replace h := bd_some h
  obtain ⟨M1, hf1, h⟩ := h
  refine r_callV (As := []) (rest := []) C hM0 (c_X11_laysPieces l E z hf1) jy_X11_laysPieces lk_X11_209 dX11_allFaults_1 (recvW C hM0 jc11 lr_0.1 lr_0.2 rfl) rfl rfl hl.1 (Nat.le_of_ble_eq_true rfl) ⟨Nat.le_of_ble_eq_true rfl, Nat.le_of_ble_eq_true rfl⟩ ⟨rfl, rfl⟩ ⟨Nat.zero_le _, Nat.zero_le _⟩ (fun H locs hM1 => ?_)
  refine r_aload_n C dX11_allFaults_4 rfl hl 0 rfl ?_
  replace h := bd_some h
  obtain ⟨⟨r5, M5⟩, hf5, h⟩ := h
  try dsimp only at h
  refine r_callI (As := []) (rest := []) C hM1 (c_X11_laysWords l E z hf5) jy_X11_laysWords lk_X11_212 dX11_allFaults_5 (recvW C hM1 jc11 lr_0.1 lr_0.2 rfl) rfl rfl hl.1 (Nat.le_of_ble_eq_true rfl) ⟨Nat.le_of_ble_eq_true rfl, Nat.le_of_ble_eq_true rfl⟩ ⟨rfl, rfl⟩ ⟨Nat.zero_le _, Nat.zero_le _⟩ (fun H locs hr5 hM2 => ?_)
  refine r_istore_n C [(1, .int (jI r5)), (0, .ref (z + 0))] dX11_allFaults_8 rfl hl (by decide) rfl (fun ls hl => ?_)
  refine r_iconst C dX11_allFaults_9 ?_
  refine r_istore_n C [(2, .int (jI 0)), (1, .int (jI r5)), (0, .ref (z + 0))] dX11_allFaults_10 rfl hl (by decide) rfl (fun ls hl => ?_)
  refine r_iconst C dX11_allFaults_11 ?_
  refine r_istore_n C [(3, .int (jI 1)), (2, .int (jI 0)), (1, .int (jI r5)), (0, .ref (z + 0))] dX11_allFaults_12 rfl hl (by decide) rfl (fun ls hl => ?_)
  obtain ⟨y1, ey1⟩ : ∃ y : Int, y = r5 := ⟨_, rfl⟩
  have hy1 : inR y1 := by rw [ey1]; exact hr5
  have hL13 : ∀ n13 : Nat, ∀ (x2 : Int) (x3 : Int) (M : Mem), inR x2 → inR x3 → ∀ (H : Heap) (locs : List Loc) (ls : Array Slot), f_X11_allFaults_L13 y1 n13  x2 x3 M = some (r, M') → HS E z LyR M sM H locs → lv_has ls 4 [(0, .ref (z + 0)), (1, .int (jI y1)), (2, .int (jI x2)), (3, .int (jI x3))] → W p l e ({ frames := 6, cells := 0, slots := 0, locals := 138 } : Room) sM m (([.ref (z + 0)] : List Value).toArray) below meth c H locs 0 0 (MQ below (va_Qi (fun (w : Int32) (_ : Unit) => w = jI r ∧ inR r ∧ Mok LyR M') (fun _ t => va_P (eD E) vwCl (Wd (eC E) z LyR M') t.heap) (eA E)) (([.ref (z + 0)] : List Value).toArray) sM 0 0 (eA E)) (F0 m 13 ls []) := by
    intro n13
    induction n13 with
    | zero =>
      intro x2 x3 M hx2 hx3 H locs ls h hM hl
      exact absurd h (by simp [f_X11_allFaults_L13])
    | succ n13 ih13 =>
      intro x2 x3 M hx2 hx3 H locs ls h hM hl
      rw [f_X11_allFaults_L13] at h
      refine r_iload_n C dX11_allFaults_13 rfl hl 3 rfl ?_
      refine r_iconst C dX11_allFaults_14 ?_
      refine r_icmp_gt C 33 hx3 ⟨by decide, by decide⟩ dX11_allFaults_15 (by decide) (fun cq => ?_) (fun cq => ?_)
      · replace h := ifp cq h
        refine r_iload_n C dX11_allFaults_33 rfl hl 2 rfl ?_
        exact r_ireturnM C hM hr hlk hx2 h dX11_allFaults_34
      · replace h := ifn cq h
        refine r_iload_n C dX11_allFaults_18 rfl hl 2 rfl ?_
        refine r_aload_n C dX11_allFaults_19 rfl hl 0 rfl ?_
        refine r_iload_n C dX11_allFaults_20 rfl hl 3 rfl ?_
        refine r_iload_n C dX11_allFaults_21 rfl hl 1 rfl ?_
        replace h := bd_some h
        obtain ⟨r22, hf22, h⟩ := h
        refine r_callI (As := [.int (jI x3), .int (jI y1)]) (rest := [.int (jI x2)]) C hM (c_X11_faultsOf l E z hx3 hy1 hf22) jy_X11_faultsOf lk_X11_215 dX11_allFaults_22 (recvW C hM jc11 lr_0.1 lr_0.2 rfl) rfl rfl hl.1 (Nat.le_of_ble_eq_true rfl) ⟨Nat.le_of_ble_eq_true rfl, Nat.le_of_ble_eq_true rfl⟩ ⟨rfl, rfl⟩ ⟨Nat.zero_le _, Nat.zero_le _⟩ (fun H locs hr22 hM3 => ?_)
        replace h := ck_some h
        obtain ⟨hc4, h⟩ := h
        refine r_iadd C dX11_allFaults_25 ?_
        refine r_istore_n C [(2, .int (jI (x2 + r22))), (0, .ref (z + 0)), (1, .int (jI y1)), (3, .int (jI x3))] dX11_allFaults_26 rfl hl (by decide) rfl (fun ls hl => ?_)
        replace h := ck_some h
        obtain ⟨hc5, h⟩ := h
        refine r_iinc (j := 3) (x := x3) C [(3, .int (jI (x3 + 1))), (2, .int (jI (x2 + r22))), (0, .ref (z + 0)), (1, .int (jI y1))] dX11_allFaults_27 hl rfl (by decide) rfl (fun ls hl => ?_)
        refine r_goto C 13 dX11_allFaults_30 (by decide) ?_
        exact ih13 _ _ _ hc4 hc5 _ _ _ h hM3 (lv_sub hl [2, 3, 1, 0] rfl)
  rw [← ey1] at h
  have hl := lv_sub (l' := [(0, .ref (z + 0)), (1, .int (jI y1)), (2, .int (jI 0)), (3, .int (jI 1))]) hl [3, 2, 1, 0] (by rw [ey1]; rfl)
  exact hL13 jFuel _ _ _ ⟨by decide, by decide⟩ ⟨by decide, by decide⟩ _ _ _ h hM2 hl
set_option maxRecDepth 100000 in
set_option maxHeartbeats 4000000 in
theorem c_X11_laysSums (l : Launch) (E : jE) (z : Nat) {M M' : Mem} (h : f_X11_laysSums M = some M') : CtV l yX11_laysSums cX11_laysSums 4 none { frames := 1, cells := 0, slots := 0, locals := 21 } E z LyR [.ref (z + 0)] M M' := by
  refine jm (by decide +kernel) (Nat.le_of_ble_eq_true rfl) ?_
  intro p e sM m below meth c C hM0 hr hlk ls hl
  replace hl : lv_has ls 4 [(0, .ref (z + 0))] := hl
  unfold f_X11_laysSums at h
  refine r_aload_n C dX11_laysSums_0 rfl hl 0 rfl ?_
  refine r_getR C hM0 jc11 25 21 dX11_laysSums_1 lk_X11_71 lr_0.1 lr_0.2 rfl rfl (by decide) rfl ?_
  refine r_iconst C dX11_laysSums_4 ?_
  refine r_iconst C dX11_laysSums_5 ?_
  refine r_iast C hM0 dX11_laysSums_6 lr_21.1 lr_21.2 (show (0 : Int) ≤ 0 ∧ (0 : Int) < 4096 by decide) ⟨by decide, by decide⟩ ⟨by decide, by decide⟩ (fun H locs hM1 => ?_)
  replace h := lt_some h
  obtain ⟨N2, eN2, h⟩ := h
  rw [← eN2] at hM1
  refine r_iconst C dX11_laysSums_7 ?_
  refine r_istore_n C [(1, .int (jI 0)), (0, .ref (z + 0))] dX11_laysSums_8 rfl hl (by decide) rfl (fun ls hl => ?_)
  have hL9 : ∀ n9 : Nat, ∀ (x1 : Int) (M : Mem), inR x1 → ∀ (H : Heap) (locs : List Loc) (ls : Array Slot), f_X11_laysSums_L9 n9  x1 M = some M' → HS E z LyR M sM H locs → lv_has ls 4 [(0, .ref (z + 0)), (1, .int (jI x1))] → W p l e ({ frames := 1, cells := 0, slots := 0, locals := 21 } : Room) sM m (([.ref (z + 0)] : List Value).toArray) below meth c H locs 0 0 (MQ below (va_Qv (fun (_ : Unit) => Mok LyR M') (fun _ t => va_P (eD E) vwCl (Wd (eC E) z LyR M') t.heap) (eA E)) (([.ref (z + 0)] : List Value).toArray) sM 0 0 (eA E)) (F0 m 9 ls []) := by
    intro n9
    induction n9 with
    | zero =>
      intro x1 M hx1 H locs ls h hM hl
      exact absurd h (by simp [f_X11_laysSums_L9])
    | succ n9 ih9 =>
      intro x1 M hx1 H locs ls h hM hl
      rw [f_X11_laysSums_L9] at h
      refine r_iload_n C dX11_laysSums_9 rfl hl 1 rfl ?_
      refine r_aload_n C dX11_laysSums_10 rfl hl 0 rfl ?_
      refine r_getR C hM jc11 0 1 dX11_laysSums_11 lk_X11_7 lr_0.1 lr_0.2 rfl rfl (by decide) rfl ?_
      refine r_iconst C dX11_laysSums_14 ?_
      refine r_iald C hM rfl dX11_laysSums_15 lr_1.1 lr_1.2 (show (0 : Int) ≤ 5 ∧ (5 : Int) < 1062 by decide) ⟨by decide, by decide⟩ ?_
      refine r_icmp_ge C 62 hx1 (hM.ok _ _) dX11_laysSums_16 (by decide) (fun cq => ?_) (fun cq => ?_)
      · replace h := ifp cq h
        exact r_return C hM hr hlk h dX11_laysSums_62
      · replace h := ifn cq h
        refine r_iconst C dX11_laysSums_19 ?_
        refine r_iload_n C dX11_laysSums_20 rfl hl 1 rfl ?_
        refine r_ishl C dX11_laysSums_21 ?_
        refine r_istore_n C [(2, .int (jI (ishl 1 x1))), (0, .ref (z + 0)), (1, .int (jI x1))] dX11_laysSums_22 rfl hl (by decide) rfl (fun ls hl => ?_)
        refine r_iconst C dX11_laysSums_23 ?_
        refine r_istore_n C [(3, .int (jI 0)), (2, .int (jI (ishl 1 x1))), (0, .ref (z + 0)), (1, .int (jI x1))] dX11_laysSums_24 rfl hl (by decide) rfl (fun ls hl => ?_)
        obtain ⟨y2, ey2⟩ : ∃ y : Int, y = (ishl 1 x1) := ⟨_, rfl⟩
        have hy2 : inR y2 := by rw [ey2]; exact (ishl_R _ _)
        have hL25 : ∀ n25 : Nat, ∀ (x3 : Int) (M : Mem), inR x3 → ∀ (H : Heap) (locs : List Loc) (ls : Array Slot), f_X11_laysSums_L25 (f_X11_laysSums_L9 n9) x1 y2 n25  x3 M = some M' → HS E z LyR M sM H locs → lv_has ls 4 [(0, .ref (z + 0)), (1, .int (jI x1)), (2, .int (jI y2)), (3, .int (jI x3))] → W p l e ({ frames := 1, cells := 0, slots := 0, locals := 21 } : Room) sM m (([.ref (z + 0)] : List Value).toArray) below meth c H locs 0 0 (MQ below (va_Qv (fun (_ : Unit) => Mok LyR M') (fun _ t => va_P (eD E) vwCl (Wd (eC E) z LyR M') t.heap) (eA E)) (([.ref (z + 0)] : List Value).toArray) sM 0 0 (eA E)) (F0 m 25 ls []) := by
          intro n25
          induction n25 with
          | zero =>
            intro x3 M hx3 H locs ls h hM hl
            exact absurd h (by simp [f_X11_laysSums_L25])
          | succ n25 ih25 =>
            intro x3 M hx3 H locs ls h hM hl
            rw [f_X11_laysSums_L25] at h
            refine r_iload_n C dX11_laysSums_25 rfl hl 3 rfl ?_
            refine r_iload_n C dX11_laysSums_26 rfl hl 2 rfl ?_
            refine r_icmp_ge C 56 hx3 hy2 dX11_laysSums_27 (by decide) (fun cq => ?_) (fun cq => ?_)
            · replace h := ifp cq h
              replace h := ck_some h
              obtain ⟨hc3, h⟩ := h
              refine r_iinc (j := 1) (x := x1) C [(1, .int (jI (x1 + 1))), (0, .ref (z + 0)), (2, .int (jI y2)), (3, .int (jI x3))] dX11_laysSums_56 hl rfl (by decide) rfl (fun ls hl => ?_)
              refine r_goto C 9 dX11_laysSums_59 (by decide) ?_
              exact ih9 _ _ hc3 _ _ _ h hM (lv_sub hl [1, 0] rfl)
            · replace h := ifn cq h
              refine r_aload_n C dX11_laysSums_30 rfl hl 0 rfl ?_
              refine r_getR C hM jc11 25 21 dX11_laysSums_31 lk_X11_71 lr_0.1 lr_0.2 rfl rfl (by decide) rfl ?_
              refine r_iload_n C dX11_laysSums_34 rfl hl 2 rfl ?_
              refine r_iload_n C dX11_laysSums_35 rfl hl 3 rfl ?_
              replace h := ck_some h
              obtain ⟨hc4, h⟩ := h
              refine r_iadd C dX11_laysSums_36 ?_
              refine r_aload_n C dX11_laysSums_37 rfl hl 0 rfl ?_
              refine r_getR C hM jc11 25 21 dX11_laysSums_38 lk_X11_71 lr_0.1 lr_0.2 rfl rfl (by decide) rfl ?_
              refine r_iload_n C dX11_laysSums_41 rfl hl 3 rfl ?_
              replace h := ck_some h
              obtain ⟨hc5, h⟩ := h
              refine r_iald C hM rfl dX11_laysSums_42 lr_21.1 lr_21.2 hc5 hx3 ?_
              refine r_aload_n C dX11_laysSums_43 rfl hl 0 rfl ?_
              refine r_iload_n C dX11_laysSums_44 rfl hl 1 rfl ?_
              replace h := bd_some h
              obtain ⟨r45, hf45, h⟩ := h
              refine r_callI (As := [.int (jI x1)]) (rest := [.int (jI (M 21 x3.toNat)), .int (jI (y2 + x3)), .ref (z + 21)]) C hM (c_X11_lengthOf l E z hx1 hf45) jy_X11_lengthOf lk_X11_218 dX11_laysSums_45 (recvW C hM jc11 lr_0.1 lr_0.2 rfl) rfl rfl hl.1 (Nat.le_of_ble_eq_true rfl) ⟨Nat.le_of_ble_eq_true rfl, Nat.le_of_ble_eq_true rfl⟩ ⟨rfl, rfl⟩ ⟨Nat.zero_le _, Nat.zero_le _⟩ (fun H locs hr45 hM6 => ?_)
              replace h := ck_some h
              obtain ⟨hc7, h⟩ := h
              refine r_iadd C dX11_laysSums_48 ?_
              replace h := ck_some h
              obtain ⟨hc8, h⟩ := h
              refine r_iast C hM6 dX11_laysSums_49 lr_21.1 lr_21.2 hc8 hc4 hc7 (fun H locs hM9 => ?_)
              replace h := lt_some h
              obtain ⟨N10, eN10, h⟩ := h
              rw [← eN10] at hM9
              replace h := ck_some h
              obtain ⟨hc11, h⟩ := h
              refine r_iinc (j := 3) (x := x3) C [(3, .int (jI (x3 + 1))), (0, .ref (z + 0)), (1, .int (jI x1)), (2, .int (jI y2))] dX11_laysSums_50 hl rfl (by decide) rfl (fun ls hl => ?_)
              refine r_goto C 25 dX11_laysSums_53 (by decide) ?_
              exact ih25 _ _ hc11 _ _ _ h hM9 (lv_sub hl [1, 2, 3, 0] rfl)
        rw [← ey2] at h
        have hl := lv_sub (l' := [(0, .ref (z + 0)), (1, .int (jI x1)), (2, .int (jI y2)), (3, .int (jI 0))]) hl [2, 3, 1, 0] (by rw [ey2]; rfl)
        exact hL25 jFuel _ _ ⟨by decide, by decide⟩ _ _ _ h hM hl
  exact hL9 jFuel _ _ ⟨by decide, by decide⟩ _ _ _ h hM1 (lv_sub hl [1, 0] rfl)
set_option maxRecDepth 100000 in
set_option maxHeartbeats 4000000 in
theorem c_X11_bannedIn (l : Launch) (E : jE) (z : Nat) {x1 : Int} {M : Mem} {r : Int} (hx1 : inR x1) (h : f_X11_bannedIn x1 M = some r) : CtI l yX11_bannedIn cX11_bannedIn 4 (some .int) { frames := 2, cells := 0, slots := 0, locals := 47 } E z LyR [.ref (z + 0), .int (jI x1)] M r M := by
  refine jm (by decide +kernel) (Nat.le_of_ble_eq_true rfl) ?_
  intro p e sM m below meth c C hM0 hr hlk ls hl
  replace hl : lv_has ls 4 [(0, .ref (z + 0)), (1, .int (jI x1))] := hl
  unfold f_X11_bannedIn at h
  refine r_iconst C dX11_bannedIn_0 ?_
  refine r_istore_n C [(2, .int (jI 0)), (0, .ref (z + 0)), (1, .int (jI x1))] dX11_bannedIn_1 rfl hl (by decide) rfl (fun ls hl => ?_)
  refine r_iconst C dX11_bannedIn_2 ?_
  refine r_istore_n C [(3, .int (jI 0)), (2, .int (jI 0)), (0, .ref (z + 0)), (1, .int (jI x1))] dX11_bannedIn_3 rfl hl (by decide) rfl (fun ls hl => ?_)
  have hL4 : ∀ n4 : Nat, ∀ (x2 : Int) (x3 : Int), inR x2 → inR x3 → ∀ (H : Heap) (locs : List Loc) (ls : Array Slot), f_X11_bannedIn_L4 x1 M n4  x2 x3 = some r → HS E z LyR M sM H locs → lv_has ls 4 [(0, .ref (z + 0)), (1, .int (jI x1)), (2, .int (jI x2)), (3, .int (jI x3))] → W p l e ({ frames := 2, cells := 0, slots := 0, locals := 47 } : Room) sM m (([.ref (z + 0), .int (jI x1)] : List Value).toArray) below meth c H locs 0 0 (MQ below (va_Qi (fun (w : Int32) (_ : Unit) => w = jI r ∧ inR r ∧ Mok LyR M) (fun _ t => va_P (eD E) vwCl (Wd (eC E) z LyR M) t.heap) (eA E)) (([.ref (z + 0), .int (jI x1)] : List Value).toArray) sM 0 0 (eA E)) (F0 m 4 ls []) := by
    intro n4
    induction n4 with
    | zero =>
      intro x2 x3 hx2 hx3 H locs ls h hM hl
      exact absurd h (by simp [f_X11_bannedIn_L4])
    | succ n4 ih4 =>
      intro x2 x3 hx2 hx3 H locs ls h hM hl
      rw [f_X11_bannedIn_L4] at h
      refine r_iload_n C dX11_bannedIn_4 rfl hl 3 rfl ?_
      refine r_aload_n C dX11_bannedIn_5 rfl hl 0 rfl ?_
      refine r_getR C hM jc11 0 1 dX11_bannedIn_6 lk_X11_7 lr_0.1 lr_0.2 rfl rfl (by decide) rfl ?_
      refine r_iconst C dX11_bannedIn_9 ?_
      refine r_iald C hM rfl dX11_bannedIn_10 lr_1.1 lr_1.2 (show (0 : Int) ≤ 5 ∧ (5 : Int) < 1062 by decide) ⟨by decide, by decide⟩ ?_
      refine r_icmp_ge C 34 hx3 (hM.ok _ _) dX11_bannedIn_11 (by decide) (fun cq => ?_) (fun cq => ?_)
      · replace h := ifp cq h
        refine r_iload_n C dX11_bannedIn_34 rfl hl 2 rfl ?_
        exact r_ireturn C hM hr hlk hx2 h rfl dX11_bannedIn_35
      · replace h := ifn cq h
        refine r_iload_n C dX11_bannedIn_14 rfl hl 2 rfl ?_
        refine r_aload_n C dX11_bannedIn_15 rfl hl 0 rfl ?_
        refine r_iload_n C dX11_bannedIn_16 rfl hl 3 rfl ?_
        refine r_iload_n C dX11_bannedIn_17 rfl hl 1 rfl ?_
        replace h := bd_some h
        obtain ⟨r18, hf18, h⟩ := h
        refine r_callI (As := [.int (jI x3), .int (jI x1)]) (rest := [.int (jI x2)]) C hM (c_X11_isBannedIn l E z hx3 hx1 hf18) jy_X11_isBannedIn lk_X11_116 dX11_bannedIn_18 (recvW C hM jc11 lr_0.1 lr_0.2 rfl) rfl rfl hl.1 (Nat.le_of_ble_eq_true rfl) ⟨Nat.le_of_ble_eq_true rfl, Nat.le_of_ble_eq_true rfl⟩ ⟨rfl, rfl⟩ ⟨Nat.zero_le _, Nat.zero_le _⟩ (fun H locs hr18 hM1 => ?_)
        replace h := bd_some h
        obtain ⟨r21, hf21, h⟩ := h
        refine r_callSI (As := [.int (jI r18)]) (rest := [.int (jI x2)]) C hM1 (c_X11_bit l E z hr18 hf21) jy_X11_bit lk_X11_133 dX11_bannedIn_21 rfl rfl hl.1 (Nat.le_of_ble_eq_true rfl) ⟨Nat.le_of_ble_eq_true rfl, Nat.le_of_ble_eq_true rfl⟩ ⟨rfl, rfl⟩ ⟨Nat.zero_le _, Nat.zero_le _⟩ (fun H locs hr21 hM2 => ?_)
        refine r_iload_n C dX11_bannedIn_24 rfl hl 3 rfl ?_
        refine r_ishl C dX11_bannedIn_25 ?_
        refine r_ior C dX11_bannedIn_26 ?_
        refine r_istore_n C [(2, .int (jI (ior x2 (ishl r21 x3)))), (0, .ref (z + 0)), (1, .int (jI x1)), (3, .int (jI x3))] dX11_bannedIn_27 rfl hl (by decide) rfl (fun ls hl => ?_)
        replace h := ck_some h
        obtain ⟨hc3, h⟩ := h
        refine r_iinc (j := 3) (x := x3) C [(3, .int (jI (x3 + 1))), (2, .int (jI (ior x2 (ishl r21 x3)))), (0, .ref (z + 0)), (1, .int (jI x1))] dX11_bannedIn_28 hl rfl (by decide) rfl (fun ls hl => ?_)
        refine r_goto C 4 dX11_bannedIn_31 (by decide) ?_
        exact ih4 _ _ (ior_R _ _) hc3 _ _ _ h hM2 (lv_sub hl [2, 3, 1, 0] rfl)
  exact hL4 jFuel _ _ ⟨by decide, by decide⟩ ⟨by decide, by decide⟩ _ _ _ h hM0 (lv_sub hl [2, 3, 1, 0] rfl)
set_option maxRecDepth 100000 in
set_option maxHeartbeats 4000000 in
theorem c_X11_isBetter (l : Launch) (E : jE) (z : Nat) {x1 : Int} {x2 : Int} {M : Mem} {r : Int} (hx1 : inR x1) (hx2 : inR x2) (h : f_X11_isBetter x1 x2 M = some r) : CtI l yX11_isBetter cX11_isBetter 3 (some .boolean) { frames := 1, cells := 0, slots := 0, locals := 22 } E z LyR [.ref (z + 0), .int (jI x1), .int (jI x2)] M r M := by
  refine jm (by decide +kernel) (Nat.le_of_ble_eq_true rfl) ?_
  intro p e sM m below meth c C hM0 hr hlk ls hl
  replace hl : lv_has ls 3 [(0, .ref (z + 0)), (1, .int (jI x1)), (2, .int (jI x2))] := hl
  unfold f_X11_isBetter at h
  refine r_aload_n C dX11_isBetter_0 rfl hl 0 rfl ?_
  refine r_getI C hM0 jc11 26 rfl dX11_isBetter_1 lk_X11_221 lr_0.1 lr_0.2 rfl rfl (by decide) rfl ?_
  replace h := jn_some h
  obtain ⟨k15, hk15, h⟩ := h
  have hJ15 : ∀ (_ : Unit), ∀ (H : Heap) (locs : List Loc) (ls : Array Slot), k15 () = some r → HS E z LyR M sM H locs → lv_has ls 3 [(0, .ref (z + 0)), (2, .int (jI x2))] → W p l e ({ frames := 1, cells := 0, slots := 0, locals := 22 } : Room) sM m (([.ref (z + 0), .int (jI x1), .int (jI x2)] : List Value).toArray) below meth c H locs 0 0 (MQ below (va_Qi (fun (w : Int32) (_ : Unit) => w = jI r ∧ inR r ∧ Mok LyR M) (fun _ t => va_P (eD E) vwCl (Wd (eC E) z LyR M) t.heap) (eA E)) (([.ref (z + 0), .int (jI x1), .int (jI x2)] : List Value).toArray) sM 0 0 (eA E)) (F0 m 15 ls []) := by
    intro _ H locs ls h hMj15 hl
    subst hk15
    try dsimp only at h
    refine r_aload_n C dX11_isBetter_15 rfl hl 0 rfl ?_
    refine r_getI C hMj15 jc11 26 rfl dX11_isBetter_16 lk_X11_221 lr_0.1 lr_0.2 rfl rfl (by decide) rfl ?_
    refine r_if_eq C 30 (hM0.ok _ _) dX11_isBetter_19 (by decide) (fun cq => ?_) (fun cq => ?_)
    · replace h := ifp cq h
      refine r_iconst C dX11_isBetter_30 ?_
      refine r_goto C 35 dX11_isBetter_31 (by decide) ?_
      exact r_zreturn C hMj15 hr hlk (Or.inr rfl) h rfl dX11_isBetter_35
    · replace h := ifn cq h
      refine r_iload_n C dX11_isBetter_22 rfl hl 1 rfl ?_
      refine r_aload_n C dX11_isBetter_23 rfl hl 0 rfl ?_
      refine r_getI C hMj15 jc11 27 rfl dX11_isBetter_24 lk_X11_224 lr_0.1 lr_0.2 rfl rfl (by decide) rfl ?_
      refine r_icmp_ge C 34 hx2 (hM0.ok _ _) dX11_isBetter_27 (by decide) (fun cq => ?_) (fun cq => ?_)
      · replace h := ifp cq h
        refine r_iconst C dX11_isBetter_34 ?_
        exact r_zreturn C hMj15 hr hlk (Or.inl rfl) h rfl dX11_isBetter_35
      · replace h := ifn cq h
        refine r_iconst C dX11_isBetter_30 ?_
        refine r_goto C 35 dX11_isBetter_31 (by decide) ?_
        exact r_zreturn C hMj15 hr hlk (Or.inr rfl) h rfl dX11_isBetter_35
  refine r_if_eq C 15 (hM0.ok _ _) dX11_isBetter_4 (by decide) (fun cq => ?_) (fun cq => ?_)
  · replace h := ifp cq h
    exact hJ15 () _ _ _ h hM0 (lv_sub hl [0, 2] rfl)
  · replace h := ifn cq h
    refine r_iload_n C dX11_isBetter_7 rfl hl 2 rfl ?_
    refine r_aload_n C dX11_isBetter_8 rfl hl 0 rfl ?_
    refine r_getI C hM0 jc11 27 rfl dX11_isBetter_9 lk_X11_224 lr_0.1 lr_0.2 rfl rfl (by decide) rfl ?_
    refine r_icmp_eq C 36 hx2 (hM0.ok _ _) dX11_isBetter_12 (by decide) (fun cq => ?_) (fun cq => ?_)
    · replace h := ifp cq h
      refine r_iload_n C dX11_isBetter_36 rfl hl 1 rfl ?_
      replace h := bd_some h
      obtain ⟨r37, hf37, h⟩ := h
      refine r_callSI (As := [.int (jI x1)]) (rest := []) C hM0 (c_X11_bits l E z hx1 hf37) jy_X11_bits lk_X11_227 dX11_isBetter_37 rfl rfl hl.1 (Nat.le_of_ble_eq_true rfl) ⟨Nat.le_of_ble_eq_true rfl, Nat.le_of_ble_eq_true rfl⟩ ⟨rfl, rfl⟩ ⟨Nat.zero_le _, Nat.zero_le _⟩ (fun H locs hr37 hM1 => ?_)
      refine r_aload_n C dX11_isBetter_40 rfl hl 0 rfl ?_
      refine r_getI C hM1 jc11 26 rfl dX11_isBetter_41 lk_X11_221 lr_0.1 lr_0.2 rfl rfl (by decide) rfl ?_
      replace h := bd_some h
      obtain ⟨r44, hf44, h⟩ := h
      refine r_callSI (As := [.int (jI (M 0 26))]) (rest := [.int (jI r37)]) C hM1 (c_X11_bits l E z (hM0.ok _ _) hf44) jy_X11_bits lk_X11_227 dX11_isBetter_44 rfl rfl hl.1 (Nat.le_of_ble_eq_true rfl) ⟨Nat.le_of_ble_eq_true rfl, Nat.le_of_ble_eq_true rfl⟩ ⟨rfl, rfl⟩ ⟨Nat.zero_le _, Nat.zero_le _⟩ (fun H locs hr44 hM2 => ?_)
      refine r_icmp_ge C 54 hr37 hr44 dX11_isBetter_47 (by decide) (fun cq => ?_) (fun cq => ?_)
      · replace h := ifp cq h
        refine r_iconst C dX11_isBetter_54 ?_
        exact r_zreturn C hM2 hr hlk (Or.inl rfl) h rfl dX11_isBetter_55
      · replace h := ifn cq h
        refine r_iconst C dX11_isBetter_50 ?_
        refine r_goto C 55 dX11_isBetter_51 (by decide) ?_
        exact r_zreturn C hM2 hr hlk (Or.inr rfl) h rfl dX11_isBetter_55
    · replace h := ifn cq h
      exact hJ15 () _ _ _ h hM0 (lv_sub hl [0, 2] rfl)
set_option maxRecDepth 100000 in
set_option maxHeartbeats 4000000 in
theorem c_X11_chooses (l : Launch) (E : jE) (z : Nat) {x1 : Int} {x2 : Int} {M M' : Mem} {r : Int} (hx1 : inR x1) (hx2 : inR x2) (h : f_X11_chooses x1 x2 M = some (r, M')) : CtI l yX11_chooses cX11_chooses 8 (some .boolean) { frames := 3, cells := 0, slots := 0, locals := 70 } E z LyR [.ref (z + 0), .int (jI x1), .int (jI x2)] M r M' := by
  refine jm (by decide +kernel) (Nat.le_of_ble_eq_true rfl) ?_
  intro p e sM m below meth c C hM0 hr hlk ls hl
  replace hl : lv_has ls 8 [(0, .ref (z + 0)), (1, .int (jI x1)), (2, .int (jI x2))] := hl
  unfold f_X11_chooses at h
  refine r_aload_n C dX11_chooses_0 rfl hl 0 rfl ?_
  refine r_iload_n C dX11_chooses_1 rfl hl 1 rfl ?_
  replace h := bd_some h
  obtain ⟨r2, hf2, h⟩ := h
  refine r_callI (As := [.int (jI x1)]) (rest := []) C hM0 (c_X11_bannedIn l E z hx1 hf2) jy_X11_bannedIn lk_X11_230 dX11_chooses_2 (recvW C hM0 jc11 lr_0.1 lr_0.2 rfl) rfl rfl hl.1 (Nat.le_of_ble_eq_true rfl) ⟨Nat.le_of_ble_eq_true rfl, Nat.le_of_ble_eq_true rfl⟩ ⟨rfl, rfl⟩ ⟨Nat.zero_le _, Nat.zero_le _⟩ (fun H locs hr2 hM1 => ?_)
  refine r_istore_n C [(3, .int (jI r2)), (0, .ref (z + 0)), (1, .int (jI x1)), (2, .int (jI x2))] dX11_chooses_5 rfl hl (by decide) rfl (fun ls hl => ?_)
  refine r_aload_n C dX11_chooses_6 rfl hl 1 rfl ?_
  refine r_iconst C dX11_chooses_7 ?_
  refine r_putI C hM1 jc11 26 ⟨by decide, by decide⟩ dX11_chooses_8 lk_X11_221 lr_0.1 lr_0.2 rfl rfl (by decide) rfl rfl rfl (Nat.le_of_ble_eq_true rfl) (by decide) (fun H locs hM2 => ?_)
  replace h := lt_some h
  obtain ⟨N3, eN3, h⟩ := h
  rw [← eN3] at hM2
  refine r_aload_n C dX11_chooses_11 rfl hl 1 rfl ?_
  refine r_iconst C dX11_chooses_12 ?_
  refine r_putI C hM2 jc11 27 ⟨by decide, by decide⟩ dX11_chooses_13 lk_X11_224 lr_0.1 lr_0.2 rfl rfl (by decide) rfl rfl rfl (Nat.le_of_ble_eq_true rfl) (by decide) (fun H locs hM4 => ?_)
  replace h := lt_some h
  obtain ⟨N5, eN5, h⟩ := h
  rw [← eN5] at hM4
  refine r_iconst C dX11_chooses_16 ?_
  refine r_istore C [(4, .int (jI 0)), (3, .int (jI r2)), (0, .ref (z + 0)), (1, .int (jI x1)), (2, .int (jI x2))] dX11_chooses_17 hl (by decide) rfl (fun ls hl => ?_)
  refine r_iconst C dX11_chooses_19 ?_
  refine r_istore C [(5, .int (jI 1)), (4, .int (jI 0)), (3, .int (jI r2)), (0, .ref (z + 0)), (1, .int (jI x1)), (2, .int (jI x2))] dX11_chooses_20 hl (by decide) rfl (fun ls hl => ?_)
  obtain ⟨y3, ey3⟩ : ∃ y : Int, y = r2 := ⟨_, rfl⟩
  have hy3 : inR y3 := by rw [ey3]; exact hr2
  have hL22 : ∀ n22 : Nat, ∀ (x4 : Int) (x5 : Int) (M : Mem), inR x4 → inR x5 → ∀ (H : Heap) (locs : List Loc) (ls : Array Slot), f_X11_chooses_L22 x2 y3 n22  x4 x5 M = some (r, M') → HS E z LyR M sM H locs → lv_has ls 8 [(0, .ref (z + 0)), (2, .int (jI x2)), (3, .int (jI y3)), (4, .int (jI x4)), (5, .int (jI x5))] → W p l e ({ frames := 3, cells := 0, slots := 0, locals := 70 } : Room) sM m (([.ref (z + 0), .int (jI x1), .int (jI x2)] : List Value).toArray) below meth c H locs 0 0 (MQ below (va_Qi (fun (w : Int32) (_ : Unit) => w = jI r ∧ inR r ∧ Mok LyR M') (fun _ t => va_P (eD E) vwCl (Wd (eC E) z LyR M') t.heap) (eA E)) (([.ref (z + 0), .int (jI x1), .int (jI x2)] : List Value).toArray) sM 0 0 (eA E)) (F0 m 22 ls []) := by
    intro n22
    induction n22 with
    | zero =>
      intro x4 x5 M hx4 hx5 H locs ls h hM hl
      exact absurd h (by simp [f_X11_chooses_L22])
    | succ n22 ih22 =>
      intro x4 x5 M hx4 hx5 H locs ls h hM hl
      rw [f_X11_chooses_L22] at h
      refine r_iload C dX11_chooses_22 hl 4 rfl ?_
      refine r_iconst C dX11_chooses_24 ?_
      refine r_aload_n C dX11_chooses_25 rfl hl 0 rfl ?_
      refine r_getR C hM jc11 0 1 dX11_chooses_26 lk_X11_7 lr_0.1 lr_0.2 rfl rfl (by decide) rfl ?_
      refine r_iconst C dX11_chooses_29 ?_
      refine r_iald C hM rfl dX11_chooses_30 lr_1.1 lr_1.2 (show (0 : Int) ≤ 5 ∧ (5 : Int) < 1062 by decide) ⟨by decide, by decide⟩ ?_
      refine r_ishl C dX11_chooses_31 ?_
      refine r_icmp_ge C 140 hx5 (ishl_R _ _) dX11_chooses_32 (by decide) (fun cq => ?_) (fun cq => ?_)
      · replace h := ifp cq h
        refine r_aload_n C dX11_chooses_140 rfl hl 0 rfl ?_
        refine r_getI C hM jc11 26 rfl dX11_chooses_141 lk_X11_221 lr_0.1 lr_0.2 rfl rfl (by decide) rfl ?_
        refine r_if_eq C 151 (hM.ok _ _) dX11_chooses_144 (by decide) (fun cq => ?_) (fun cq => ?_)
        · replace h := ifp cq h
          refine r_iconst C dX11_chooses_151 ?_
          exact r_zreturnM C hM hr hlk (Or.inl rfl) h dX11_chooses_152
        · replace h := ifn cq h
          refine r_iconst C dX11_chooses_147 ?_
          refine r_goto C 152 dX11_chooses_148 (by decide) ?_
          exact r_zreturnM C hM hr hlk (Or.inr rfl) h dX11_chooses_152
      · replace h := ifn cq h
        refine r_iload C dX11_chooses_35 hl 3 rfl ?_
        refine r_iload C dX11_chooses_37 hl 4 rfl ?_
        refine r_iload C dX11_chooses_39 hl 3 rfl ?_
        refine r_iconst C dX11_chooses_41 ?_
        replace h := ck_some h
        obtain ⟨hc6, h⟩ := h
        refine r_iadd C dX11_chooses_42 ?_
        refine r_ishr C dX11_chooses_43 ?_
        replace h := jn_some h
        obtain ⟨k52, hk52, h⟩ := h
        have hJ52 : ∀ (v52 : Int), inR v52 → ∀ (H : Heap) (locs : List Loc) (ls : Array Slot), k52 v52 = some (r, M') → HS E z LyR M sM H locs → lv_has ls 8 [(0, .ref (z + 0)), (2, .int (jI x2)), (3, .int (jI y3)), (5, .int (jI x5))] → W p l e ({ frames := 3, cells := 0, slots := 0, locals := 70 } : Room) sM m (([.ref (z + 0), .int (jI x1), .int (jI x2)] : List Value).toArray) below meth c H locs 0 0 (MQ below (va_Qi (fun (w : Int32) (_ : Unit) => w = jI r ∧ inR r ∧ Mok LyR M') (fun _ t => va_P (eD E) vwCl (Wd (eC E) z LyR M') t.heap) (eA E)) (([.ref (z + 0), .int (jI x1), .int (jI x2)] : List Value).toArray) sM 0 0 (eA E)) (F0 m 52 ls [.int (jI v52), .int (jI x4)]) := by
          intro v52 hv52 H locs ls h hMj52 hl
          subst hk52
          try dsimp only at h
          replace h := bd_some h
          obtain ⟨r52, hf52, h⟩ := h
          refine r_callSI (As := [.int (jI v52)]) (rest := [.int (jI x4)]) C hMj52 (c_X11_bit l E z hv52 hf52) jy_X11_bit lk_X11_133 dX11_chooses_52 rfl rfl hl.1 (Nat.le_of_ble_eq_true rfl) ⟨Nat.le_of_ble_eq_true rfl, Nat.le_of_ble_eq_true rfl⟩ ⟨rfl, rfl⟩ ⟨Nat.zero_le _, Nat.zero_le _⟩ (fun H locs hr52 hM7 => ?_)
          replace h := ck_some h
          obtain ⟨hc8, h⟩ := h
          refine r_iadd C dX11_chooses_55 ?_
          refine r_istore C [(4, .int (jI (x4 + r52))), (0, .ref (z + 0)), (2, .int (jI x2)), (3, .int (jI y3)), (5, .int (jI x5))] dX11_chooses_56 hl (by decide) rfl (fun ls hl => ?_)
          refine r_aload_n C dX11_chooses_58 rfl hl 1 rfl ?_
          refine r_getR C hM7 jc11 25 21 dX11_chooses_59 lk_X11_71 lr_0.1 lr_0.2 rfl rfl (by decide) rfl ?_
          refine r_iload C dX11_chooses_62 hl 4 rfl ?_
          replace h := ck_some h
          obtain ⟨hc9, h⟩ := h
          refine r_iald C hM7 rfl dX11_chooses_64 lr_21.1 lr_21.2 hc9 hx5 ?_
          refine r_iload_n C dX11_chooses_65 rfl hl 2 rfl ?_
          replace h := ck_some h
          obtain ⟨hc10, h⟩ := h
          refine r_isub C dX11_chooses_66 ?_
          refine r_istore C [(6, .int (jI ((M 21 x5.toNat) - x2))), (4, .int (jI (x4 + r52))), (0, .ref (z + 0)), (2, .int (jI x2)), (3, .int (jI y3)), (5, .int (jI x5))] dX11_chooses_67 hl (by decide) rfl (fun ls hl => ?_)
          refine r_iload C dX11_chooses_69 hl 5 rfl ?_
          refine r_iload_n C dX11_chooses_71 rfl hl 4 rfl ?_
          refine r_iand C dX11_chooses_72 ?_
          replace h := jn_some h
          obtain ⟨k104, hk104, h⟩ := h
          have hJ104 : ∀ (v104 : Int), inR v104 → ∀ (H : Heap) (locs : List Loc) (ls : Array Slot), k104 v104 = some (r, M') → HS E z LyR M sM H locs → lv_has ls 8 [(0, .ref (z + 0)), (2, .int (jI x2)), (3, .int (jI y3)), (4, .int (jI (x4 + r52))), (5, .int (jI x5)), (6, .int (jI ((M 21 x5.toNat) - x2)))] → W p l e ({ frames := 3, cells := 0, slots := 0, locals := 70 } : Room) sM m (([.ref (z + 0), .int (jI x1), .int (jI x2)] : List Value).toArray) below meth c H locs 0 0 (MQ below (va_Qi (fun (w : Int32) (_ : Unit) => w = jI r ∧ inR r ∧ Mok LyR M') (fun _ t => va_P (eD E) vwCl (Wd (eC E) z LyR M') t.heap) (eA E)) (([.ref (z + 0), .int (jI x1), .int (jI x2)] : List Value).toArray) sM 0 0 (eA E)) (F0 m 104 ls [.int (jI v104)]) := by
            intro v104 hv104 H locs ls h hMj104 hl
            subst hk104
            try dsimp only at h
            refine r_istore C [(7, .int (jI v104)), (0, .ref (z + 0)), (2, .int (jI x2)), (3, .int (jI y3)), (4, .int (jI (x4 + r52))), (5, .int (jI x5)), (6, .int (jI ((M 21 x5.toNat) - x2)))] dX11_chooses_104 hl (by decide) rfl (fun ls hl => ?_)
            refine r_iload C dX11_chooses_106 hl 0 rfl ?_
            refine r_if_eq C 134 hv104 dX11_chooses_108 (by decide) (fun cq => ?_) (fun cq => ?_)
            · replace h := ifp cq h
              replace h := ck_some h
              obtain ⟨hc11, h⟩ := h
              refine r_iinc (j := 5) (x := x5) C [(5, .int (jI (x5 + 1))), (7, .int (jI v104)), (0, .ref (z + 0)), (2, .int (jI x2)), (3, .int (jI y3)), (4, .int (jI (x4 + r52))), (6, .int (jI ((M 21 x5.toNat) - x2)))] dX11_chooses_134 hl rfl (by decide) rfl (fun ls hl => ?_)
              refine r_goto C 22 dX11_chooses_137 (by decide) ?_
              exact ih22 _ _ _ hc8 hc11 _ _ _ h hMj104 (lv_sub hl [2, 3, 4, 5, 0] rfl)
            · replace h := ifn cq h
              refine r_aload_n C dX11_chooses_111 rfl hl 1 rfl ?_
              refine r_iload C dX11_chooses_112 hl 5 rfl ?_
              refine r_iload C dX11_chooses_114 hl 6 rfl ?_
              replace h := bd_some h
              obtain ⟨r116, hf116, h⟩ := h
              refine r_callI (As := [.int (jI x5), .int (jI ((M 21 x5.toNat) - x2))]) (rest := []) C hMj104 (c_X11_isBetter l E z hx5 hc10 hf116) jy_X11_isBetter lk_X11_233 dX11_chooses_116 (recvW C hMj104 jc11 lr_0.1 lr_0.2 rfl) rfl rfl hl.1 (Nat.le_of_ble_eq_true rfl) ⟨Nat.le_of_ble_eq_true rfl, Nat.le_of_ble_eq_true rfl⟩ ⟨rfl, rfl⟩ ⟨Nat.zero_le _, Nat.zero_le _⟩ (fun H locs hr116 hM12 => ?_)
              refine r_if_eq C 134 hr116 dX11_chooses_119 (by decide) (fun cq => ?_) (fun cq => ?_)
              · replace h := ifp cq h
                replace h := ck_some h
                obtain ⟨hc13, h⟩ := h
                refine r_iinc (j := 5) (x := x5) C [(5, .int (jI (x5 + 1))), (7, .int (jI v104)), (0, .ref (z + 0)), (2, .int (jI x2)), (3, .int (jI y3)), (4, .int (jI (x4 + r52))), (6, .int (jI ((M 21 x5.toNat) - x2)))] dX11_chooses_134 hl rfl (by decide) rfl (fun ls hl => ?_)
                refine r_goto C 22 dX11_chooses_137 (by decide) ?_
                exact ih22 _ _ _ hc8 hc13 _ _ _ h hM12 (lv_sub hl [2, 3, 4, 5, 0] rfl)
              · replace h := ifn cq h
                refine r_aload_n C dX11_chooses_122 rfl hl 1 rfl ?_
                refine r_iload C dX11_chooses_123 hl 5 rfl ?_
                refine r_putI C hM12 jc11 26 hx5 dX11_chooses_125 lk_X11_221 lr_0.1 lr_0.2 rfl rfl (by decide) rfl rfl rfl (Nat.le_of_ble_eq_true rfl) (by decide) (fun H locs hM14 => ?_)
                replace h := lt_some h
                obtain ⟨N15, eN15, h⟩ := h
                rw [← eN15] at hM14
                refine r_aload_n C dX11_chooses_128 rfl hl 1 rfl ?_
                refine r_iload C dX11_chooses_129 hl 6 rfl ?_
                refine r_putI C hM14 jc11 27 hc10 dX11_chooses_131 lk_X11_224 lr_0.1 lr_0.2 rfl rfl (by decide) rfl rfl rfl (Nat.le_of_ble_eq_true rfl) (by decide) (fun H locs hM16 => ?_)
                replace h := lt_some h
                obtain ⟨N17, eN17, h⟩ := h
                rw [← eN17] at hM16
                replace h := ck_some h
                obtain ⟨hc18, h⟩ := h
                refine r_iinc (j := 5) (x := x5) C [(5, .int (jI (x5 + 1))), (7, .int (jI v104)), (0, .ref (z + 0)), (2, .int (jI x2)), (3, .int (jI y3)), (4, .int (jI (x4 + r52))), (6, .int (jI ((M 21 x5.toNat) - x2)))] dX11_chooses_134 hl rfl (by decide) rfl (fun ls hl => ?_)
                refine r_goto C 22 dX11_chooses_137 (by decide) ?_
                exact ih22 _ _ _ hc8 hc18 _ _ _ h hM16 (lv_sub hl [2, 3, 4, 5, 0] rfl)
          replace h := jn_some h
          obtain ⟨k103, hk103, h⟩ := h
          have hJ103 : ∀ (_ : Unit), ∀ (H : Heap) (locs : List Loc) (ls : Array Slot), k103 () = some (r, M') → HS E z LyR M sM H locs → lv_has ls 8 [(0, .ref (z + 0)), (2, .int (jI x2)), (3, .int (jI y3)), (4, .int (jI (x4 + r52))), (5, .int (jI x5)), (6, .int (jI ((M 21 x5.toNat) - x2)))] → W p l e ({ frames := 3, cells := 0, slots := 0, locals := 70 } : Room) sM m (([.ref (z + 0), .int (jI x1), .int (jI x2)] : List Value).toArray) below meth c H locs 0 0 (MQ below (va_Qi (fun (w : Int32) (_ : Unit) => w = jI r ∧ inR r ∧ Mok LyR M') (fun _ t => va_P (eD E) vwCl (Wd (eC E) z LyR M') t.heap) (eA E)) (([.ref (z + 0), .int (jI x1), .int (jI x2)] : List Value).toArray) sM 0 0 (eA E)) (F0 m 103 ls []) := by
            intro _ H locs ls h hMj103 hl
            subst hk103
            try dsimp only at h
            refine r_iconst C dX11_chooses_103 ?_
            exact hJ104 _ ⟨by decide, by decide⟩ _ _ _ h hMj103 (lv_sub hl [0, 1, 2, 3, 4, 5] rfl)
          refine r_if_ne C 103 (iand_R _ _) dX11_chooses_73 (by decide) (fun cq => ?_) (fun cq => ?_)
          · replace h := ifn cq h
            exact hJ103 () _ _ _ h hM7 (lv_sub hl [2, 3, 4, 1, 5, 0] rfl)
          · replace h := ifp cq h
            refine r_iload C dX11_chooses_76 hl 0 rfl ?_
            refine r_if_lt C 103 hc10 dX11_chooses_78 (by decide) (fun cq => ?_) (fun cq => ?_)
            · replace h := ifp cq h
              exact hJ103 () _ _ _ h hM7 (lv_sub hl [2, 3, 4, 1, 5, 0] rfl)
            · replace h := ifn cq h
              refine r_aload_n C dX11_chooses_81 rfl hl 2 rfl ?_
              refine r_iload C dX11_chooses_82 hl 1 rfl ?_
              replace h := bd_some h
              obtain ⟨r84, hf84, h⟩ := h
              refine r_callI (As := [.int (jI (x4 + r52))]) (rest := []) C hM7 (c_X11_lengthOf l E z hc8 hf84) jy_X11_lengthOf lk_X11_218 dX11_chooses_84 (recvW C hM7 jc11 lr_0.1 lr_0.2 rfl) rfl rfl hl.1 (Nat.le_of_ble_eq_true rfl) ⟨Nat.le_of_ble_eq_true rfl, Nat.le_of_ble_eq_true rfl⟩ ⟨rfl, rfl⟩ ⟨Nat.zero_le _, Nat.zero_le _⟩ (fun H locs hr84 hM19 => ?_)
              refine r_iload C dX11_chooses_87 hl 0 rfl ?_
              replace h := ck_some h
              obtain ⟨hc20, h⟩ := h
              refine r_isub C dX11_chooses_89 ?_
              refine r_aload_n C dX11_chooses_90 rfl hl 2 rfl ?_
              refine r_getR C hM19 jc11 0 1 dX11_chooses_91 lk_X11_7 lr_0.1 lr_0.2 rfl rfl (by decide) rfl ?_
              refine r_iconst C dX11_chooses_94 ?_
              refine r_iald C hM19 rfl dX11_chooses_95 lr_1.1 lr_1.2 (show (0 : Int) ≤ 3 ∧ (3 : Int) < 1062 by decide) ⟨by decide, by decide⟩ ?_
              refine r_icmp_lt C 103 hc20 (hM.ok _ _) dX11_chooses_96 (by decide) (fun cq => ?_) (fun cq => ?_)
              · replace h := ifp cq h
                exact hJ103 () _ _ _ h hM19 (lv_sub hl [2, 3, 4, 1, 5, 0] rfl)
              · replace h := ifn cq h
                refine r_iconst C dX11_chooses_99 ?_
                refine r_goto C 104 dX11_chooses_100 (by decide) ?_
                exact hJ104 _ ⟨by decide, by decide⟩ _ _ _ h hM19 (lv_sub hl [2, 3, 4, 1, 5, 0] rfl)
        refine r_if_le C 51 (ishr_R _ _) dX11_chooses_44 (by decide) (fun cq => ?_) (fun cq => ?_)
        · replace h := ifp cq h
          refine r_iconst C dX11_chooses_51 ?_
          exact hJ52 _ ⟨by decide, by decide⟩ _ _ _ h hM (lv_sub hl [0, 1, 2, 4] rfl)
        · replace h := ifn cq h
          refine r_iconst C dX11_chooses_47 ?_
          refine r_goto C 52 dX11_chooses_48 (by decide) ?_
          exact hJ52 _ ⟨by decide, by decide⟩ _ _ _ h hM (lv_sub hl [0, 1, 2, 4] rfl)
  rw [← ey3] at h
  have hl := lv_sub (l' := [(0, .ref (z + 0)), (2, .int (jI x2)), (3, .int (jI y3)), (4, .int (jI 0)), (5, .int (jI 1))]) hl [3, 5, 2, 1, 0] (by rw [ey3]; rfl)
  exact hL22 jFuel _ _ _ ⟨by decide, by decide⟩ ⟨by decide, by decide⟩ _ _ _ h hM4 hl
