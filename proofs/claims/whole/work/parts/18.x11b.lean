set_option maxRecDepth 100000 in
set_option maxHeartbeats 4000000 in
theorem c_X11_byteAt (l : Launch) (E : jE) (z : Nat) {x1 : Int} {M : Mem} {r : Int} (hx1 : inR x1) (h : f_X11_byteAt x1 M = some r) : CtI l yX11_byteAt cX11_byteAt 2 (some .int) { frames := 0, cells := 0, slots := 0, locals := 0 } E z LyR [.ref (z + 0), .int (jI x1)] M r M := by
  refine jm (by decide +kernel) (Nat.le_of_ble_eq_true rfl) ?_
  intro p e sM m below meth c C hM0 hr hlk ls hl
  replace hl : lv_has ls 2 [(0, .ref (z + 0)), (1, .int (jI x1))] := hl
  unfold f_X11_byteAt at h
  refine r_iload_n C dX11_byteAt_0 rfl hl 1 rfl ?_
  refine r_aload_n C dX11_byteAt_1 rfl hl 0 rfl ?_
  refine r_getI C hM0 jc11 29 rfl dX11_byteAt_2 lk_X11_236 lr_0.1 lr_0.2 rfl rfl (by decide) rfl ?_
  refine r_icmp_ge C 17 hx1 (hM0.ok _ _) dX11_byteAt_5 (by decide) (fun cq => ?_) (fun cq => ?_)
  · replace h := ifp cq h
    refine r_iconst C dX11_byteAt_17 ?_
    exact r_ireturn C hM0 hr hlk ⟨by decide, by decide⟩ h rfl dX11_byteAt_18
  · replace h := ifn cq h
    refine r_aload_n C dX11_byteAt_8 rfl hl 0 rfl ?_
    refine r_getR C hM0 jc11 28 22 dX11_byteAt_9 lk_X11_74 lr_0.1 lr_0.2 rfl rfl (by decide) rfl ?_
    refine r_iload_n C dX11_byteAt_12 rfl hl 1 rfl ?_
    replace h := ck_some h
    obtain ⟨hc1, h⟩ := h
    refine r_iald C hM0 rfl dX11_byteAt_13 lr_22.1 lr_22.2 hc1 hx1 ?_
    refine r_goto C 18 dX11_byteAt_14 (by decide) ?_
    exact r_ireturn C hM0 hr hlk (hM0.ok _ _) h rfl dX11_byteAt_18
set_option maxRecDepth 100000 in
set_option maxHeartbeats 4000000 in
theorem c_X11_isLetter (l : Launch) (E : jE) (z : Nat) {x1 : Int} {M : Mem} {r : Int} (hx1 : inR x1) (h : f_X11_isLetter x1 M = some r) : CtI l yX11_isLetter cX11_isLetter 2 (some .boolean) { frames := 1, cells := 0, slots := 0, locals := 22 } E z LyR [.ref (z + 0), .int (jI x1)] M r M := by
  refine jm (by decide +kernel) (Nat.le_of_ble_eq_true rfl) ?_
  intro p e sM m below meth c C hM0 hr hlk ls hl
  replace hl : lv_has ls 2 [(0, .ref (z + 0)), (1, .int (jI x1))] := hl
  unfold f_X11_isLetter at h
  refine r_aload_n C dX11_isLetter_0 rfl hl 0 rfl ?_
  refine r_iload_n C dX11_isLetter_1 rfl hl 1 rfl ?_
  replace h := bd_some h
  obtain ⟨r2, hf2, h⟩ := h
  refine r_callI (As := [.int (jI x1)]) (rest := []) C hM0 (c_X11_byteAt l E z hx1 hf2) jy_X11_byteAt lk_X11_246 dX11_isLetter_2 (recvW C hM0 jc11 lr_0.1 lr_0.2 rfl) rfl rfl hl.1 (Nat.le_of_ble_eq_true rfl) ⟨Nat.le_of_ble_eq_true rfl, Nat.le_of_ble_eq_true rfl⟩ ⟨rfl, rfl⟩ ⟨Nat.zero_le _, Nat.zero_le _⟩ (fun H locs hr2 hM1 => ?_)
  refine r_bipush C dX11_isLetter_5 rfl ?_
  refine r_bipush C dX11_isLetter_7 rfl ?_
  replace h := bd_some h
  obtain ⟨r9, hf9, h⟩ := h
  refine r_callSI (As := [.int (jI r2), .int (jI 97), .int (jI 122)]) (rest := []) C hM1 (c_X11_isIn l E z hr2 ⟨by decide, by decide⟩ ⟨by decide, by decide⟩ hf9) jy_X11_isIn lk_X11_112 dX11_isLetter_9 rfl rfl hl.1 (Nat.le_of_ble_eq_true rfl) ⟨Nat.le_of_ble_eq_true rfl, Nat.le_of_ble_eq_true rfl⟩ ⟨rfl, rfl⟩ ⟨Nat.zero_le _, Nat.zero_le _⟩ (fun H locs hr9 hM2 => ?_)
  replace h := ck_some h
  obtain ⟨hc3, h⟩ := h
  exact r_zreturn C hM2 hr hlk hc3 h rfl dX11_isLetter_12
set_option maxRecDepth 100000 in
set_option maxHeartbeats 4000000 in
theorem c_X11_isDigit (l : Launch) (E : jE) (z : Nat) {x1 : Int} {M : Mem} {r : Int} (hx1 : inR x1) (h : f_X11_isDigit x1 M = some r) : CtI l yX11_isDigit cX11_isDigit 2 (some .boolean) { frames := 1, cells := 0, slots := 0, locals := 22 } E z LyR [.ref (z + 0), .int (jI x1)] M r M := by
  refine jm (by decide +kernel) (Nat.le_of_ble_eq_true rfl) ?_
  intro p e sM m below meth c C hM0 hr hlk ls hl
  replace hl : lv_has ls 2 [(0, .ref (z + 0)), (1, .int (jI x1))] := hl
  unfold f_X11_isDigit at h
  refine r_aload_n C dX11_isDigit_0 rfl hl 0 rfl ?_
  refine r_iload_n C dX11_isDigit_1 rfl hl 1 rfl ?_
  replace h := bd_some h
  obtain ⟨r2, hf2, h⟩ := h
  refine r_callI (As := [.int (jI x1)]) (rest := []) C hM0 (c_X11_byteAt l E z hx1 hf2) jy_X11_byteAt lk_X11_246 dX11_isDigit_2 (recvW C hM0 jc11 lr_0.1 lr_0.2 rfl) rfl rfl hl.1 (Nat.le_of_ble_eq_true rfl) ⟨Nat.le_of_ble_eq_true rfl, Nat.le_of_ble_eq_true rfl⟩ ⟨rfl, rfl⟩ ⟨Nat.zero_le _, Nat.zero_le _⟩ (fun H locs hr2 hM1 => ?_)
  refine r_bipush C dX11_isDigit_5 rfl ?_
  refine r_bipush C dX11_isDigit_7 rfl ?_
  replace h := bd_some h
  obtain ⟨r9, hf9, h⟩ := h
  refine r_callSI (As := [.int (jI r2), .int (jI 48), .int (jI 57)]) (rest := []) C hM1 (c_X11_isIn l E z hr2 ⟨by decide, by decide⟩ ⟨by decide, by decide⟩ hf9) jy_X11_isIn lk_X11_112 dX11_isDigit_9 rfl rfl hl.1 (Nat.le_of_ble_eq_true rfl) ⟨Nat.le_of_ble_eq_true rfl, Nat.le_of_ble_eq_true rfl⟩ ⟨rfl, rfl⟩ ⟨Nat.zero_le _, Nat.zero_le _⟩ (fun H locs hr9 hM2 => ?_)
  replace h := ck_some h
  obtain ⟨hc3, h⟩ := h
  exact r_zreturn C hM2 hr hlk hc3 h rfl dX11_isDigit_12
set_option maxRecDepth 100000 in
set_option maxHeartbeats 4000000 in
theorem c_X11_isSymbol (l : Launch) (E : jE) (z : Nat) {x0 : Int} {M : Mem} {r : Int} (hx0 : inR x0) (h : f_X11_isSymbol x0 M = some r) : CtI l yX11_isSymbol cX11_isSymbol 1 (some .boolean) { frames := 0, cells := 0, slots := 0, locals := 0 } E z LyR [.int (jI x0)] M r M := by
  refine jm (by decide +kernel) (Nat.le_of_ble_eq_true rfl) ?_
  intro p e sM m below meth c C hM0 hr hlk ls hl
  replace hl : lv_has ls 1 [(0, .int (jI x0))] := hl
  unfold f_X11_isSymbol at h
  refine r_iload_n C dX11_isSymbol_0 rfl hl 0 rfl ?_
  refine r_bipush C dX11_isSymbol_1 rfl ?_
  refine r_icmp_eq C 24 hx0 ⟨by decide, by decide⟩ dX11_isSymbol_3 (by decide) (fun cq => ?_) (fun cq => ?_)
  · replace h := ifp cq h
    refine r_iconst C dX11_isSymbol_24 ?_
    refine r_goto C 29 dX11_isSymbol_25 (by decide) ?_
    exact r_zreturn C hM0 hr hlk (Or.inr rfl) h rfl dX11_isSymbol_29
  · replace h := ifn cq h
    refine r_iload_n C dX11_isSymbol_6 rfl hl 0 rfl ?_
    refine r_bipush C dX11_isSymbol_7 rfl ?_
    refine r_icmp_eq C 24 hx0 ⟨by decide, by decide⟩ dX11_isSymbol_9 (by decide) (fun cq => ?_) (fun cq => ?_)
    · replace h := ifp cq h
      refine r_iconst C dX11_isSymbol_24 ?_
      refine r_goto C 29 dX11_isSymbol_25 (by decide) ?_
      exact r_zreturn C hM0 hr hlk (Or.inr rfl) h rfl dX11_isSymbol_29
    · replace h := ifn cq h
      refine r_iload_n C dX11_isSymbol_12 rfl hl 0 rfl ?_
      refine r_bipush C dX11_isSymbol_13 rfl ?_
      refine r_icmp_eq C 24 hx0 ⟨by decide, by decide⟩ dX11_isSymbol_15 (by decide) (fun cq => ?_) (fun cq => ?_)
      · replace h := ifp cq h
        refine r_iconst C dX11_isSymbol_24 ?_
        refine r_goto C 29 dX11_isSymbol_25 (by decide) ?_
        exact r_zreturn C hM0 hr hlk (Or.inr rfl) h rfl dX11_isSymbol_29
      · replace h := ifn cq h
        refine r_iload_n C dX11_isSymbol_18 rfl hl 0 rfl ?_
        refine r_bipush C dX11_isSymbol_19 rfl ?_
        refine r_icmp_ne C 28 hx0 ⟨by decide, by decide⟩ dX11_isSymbol_21 (by decide) (fun cq => ?_) (fun cq => ?_)
        · replace h := ifn cq h
          refine r_iconst C dX11_isSymbol_28 ?_
          exact r_zreturn C hM0 hr hlk (Or.inl rfl) h rfl dX11_isSymbol_29
        · replace h := ifp cq h
          refine r_iconst C dX11_isSymbol_24 ?_
          refine r_goto C 29 dX11_isSymbol_25 (by decide) ?_
          exact r_zreturn C hM0 hr hlk (Or.inr rfl) h rfl dX11_isSymbol_29
set_option maxRecDepth 100000 in
set_option maxHeartbeats 4000000 in
theorem c_X11_scans (l : Launch) (E : jE) (z : Nat) {M M' : Mem} (h : f_X11_scans M = some M') : CtV l yX11_scans cX11_scans 1 none { frames := 2, cells := 0, slots := 0, locals := 43 } E z LyR [.ref (z + 0)] M M' := by
  refine jm (by decide +kernel) (Nat.le_of_ble_eq_true rfl) ?_
  intro p e sM m below meth c C hM0 hr hlk ls hl
  replace hl : lv_has ls 1 [(0, .ref (z + 0))] := hl
  unfold f_X11_scans at h
  refine r_aload_n C dX11_scans_0 rfl hl 0 rfl ?_
  refine r_aload_n C dX11_scans_1 rfl hl 0 rfl ?_
  refine r_getI C hM0 jc11 30 rfl dX11_scans_2 lk_X11_249 lr_0.1 lr_0.2 rfl rfl (by decide) rfl ?_
  replace h := bd_some h
  obtain ⟨r5, hf5, h⟩ := h
  refine r_callI (As := [.int (jI (M 0 30))]) (rest := []) C hM0 (c_X11_byteAt l E z (hM0.ok _ _) hf5) jy_X11_byteAt lk_X11_246 dX11_scans_5 (recvW C hM0 jc11 lr_0.1 lr_0.2 rfl) rfl rfl hl.1 (Nat.le_of_ble_eq_true rfl) ⟨Nat.le_of_ble_eq_true rfl, Nat.le_of_ble_eq_true rfl⟩ ⟨rfl, rfl⟩ ⟨Nat.zero_le _, Nat.zero_le _⟩ (fun H locs hr5 hM1 => ?_)
  refine r_bipush C dX11_scans_8 rfl ?_
  refine r_icmp_eq C 26 hr5 ⟨by decide, by decide⟩ dX11_scans_10 (by decide) (fun cq => ?_) (fun cq => ?_)
  · replace h := ifp cq h
    refine r_aload_n C dX11_scans_26 rfl hl 0 rfl ?_
    refine r_dup C dX11_scans_27 rfl ?_
    refine r_getI C hM1 jc11 30 rfl dX11_scans_28 lk_X11_249 lr_0.1 lr_0.2 rfl rfl (by decide) rfl ?_
    refine r_iconst C dX11_scans_31 ?_
    replace h := ck_some h
    obtain ⟨hc2, h⟩ := h
    refine r_iadd C dX11_scans_32 ?_
    refine r_putI C hM1 jc11 30 hc2 dX11_scans_33 lk_X11_249 lr_0.1 lr_0.2 rfl rfl (by decide) rfl rfl rfl (Nat.le_of_ble_eq_true rfl) (by decide) (fun H locs hM3 => ?_)
    replace h := lt_some h
    obtain ⟨N4, eN4, h⟩ := h
    rw [← eN4] at hM3
    refine r_goto C 0 dX11_scans_36 (by decide) ?_
    have hL0 : ∀ n0 : Nat, ∀ (M : Mem), ∀ (H : Heap) (locs : List Loc) (ls : Array Slot), f_X11_scans_L0 n0  M = some M' → HS E z LyR M sM H locs → lv_has ls 1 [(0, .ref (z + 0))] → W p l e ({ frames := 2, cells := 0, slots := 0, locals := 43 } : Room) sM m (([.ref (z + 0)] : List Value).toArray) below meth c H locs 0 0 (MQ below (va_Qv (fun (_ : Unit) => Mok LyR M') (fun _ t => va_P (eD E) vwCl (Wd (eC E) z LyR M') t.heap) (eA E)) (([.ref (z + 0)] : List Value).toArray) sM 0 0 (eA E)) (F0 m 0 ls []) := by
      intro n0
      induction n0 with
      | zero =>
        intro M H locs ls h hM hl
        exact absurd h (by simp [f_X11_scans_L0])
      | succ n0 ih0 =>
        intro M H locs ls h hM hl
        rw [f_X11_scans_L0] at h
        refine r_aload_n C dX11_scans_0 rfl hl 0 rfl ?_
        refine r_aload_n C dX11_scans_1 rfl hl 0 rfl ?_
        refine r_getI C hM jc11 30 rfl dX11_scans_2 lk_X11_249 lr_0.1 lr_0.2 rfl rfl (by decide) rfl ?_
        replace h := bd_some h
        obtain ⟨r5, hf5, h⟩ := h
        refine r_callI (As := [.int (jI (M 0 30))]) (rest := []) C hM (c_X11_byteAt l E z (hM.ok _ _) hf5) jy_X11_byteAt lk_X11_246 dX11_scans_5 (recvW C hM jc11 lr_0.1 lr_0.2 rfl) rfl rfl hl.1 (Nat.le_of_ble_eq_true rfl) ⟨Nat.le_of_ble_eq_true rfl, Nat.le_of_ble_eq_true rfl⟩ ⟨rfl, rfl⟩ ⟨Nat.zero_le _, Nat.zero_le _⟩ (fun H locs hr5 hM5 => ?_)
        refine r_bipush C dX11_scans_8 rfl ?_
        refine r_icmp_eq C 26 hr5 ⟨by decide, by decide⟩ dX11_scans_10 (by decide) (fun cq => ?_) (fun cq => ?_)
        · replace h := ifp cq h
          refine r_aload_n C dX11_scans_26 rfl hl 0 rfl ?_
          refine r_dup C dX11_scans_27 rfl ?_
          refine r_getI C hM5 jc11 30 rfl dX11_scans_28 lk_X11_249 lr_0.1 lr_0.2 rfl rfl (by decide) rfl ?_
          refine r_iconst C dX11_scans_31 ?_
          replace h := ck_some h
          obtain ⟨hc6, h⟩ := h
          refine r_iadd C dX11_scans_32 ?_
          refine r_putI C hM5 jc11 30 hc6 dX11_scans_33 lk_X11_249 lr_0.1 lr_0.2 rfl rfl (by decide) rfl rfl rfl (Nat.le_of_ble_eq_true rfl) (by decide) (fun H locs hM7 => ?_)
          replace h := lt_some h
          obtain ⟨N8, eN8, h⟩ := h
          rw [← eN8] at hM7
          refine r_goto C 0 dX11_scans_36 (by decide) ?_
          exact ih0 _ _ _ _ h hM7 (lv_sub hl [0] rfl)
        · replace h := ifn cq h
          refine r_aload_n C dX11_scans_13 rfl hl 0 rfl ?_
          refine r_aload_n C dX11_scans_14 rfl hl 0 rfl ?_
          refine r_getI C hM5 jc11 30 rfl dX11_scans_15 lk_X11_249 lr_0.1 lr_0.2 rfl rfl (by decide) rfl ?_
          replace h := bd_some h
          obtain ⟨r18, hf18, h⟩ := h
          refine r_callI (As := [.int (jI (M 0 30))]) (rest := []) C hM5 (c_X11_byteAt l E z (hM.ok _ _) hf18) jy_X11_byteAt lk_X11_246 dX11_scans_18 (recvW C hM5 jc11 lr_0.1 lr_0.2 rfl) rfl rfl hl.1 (Nat.le_of_ble_eq_true rfl) ⟨Nat.le_of_ble_eq_true rfl, Nat.le_of_ble_eq_true rfl⟩ ⟨rfl, rfl⟩ ⟨Nat.zero_le _, Nat.zero_le _⟩ (fun H locs hr18 hM9 => ?_)
          refine r_bipush C dX11_scans_21 rfl ?_
          refine r_icmp_ne C 39 hr18 ⟨by decide, by decide⟩ dX11_scans_23 (by decide) (fun cq => ?_) (fun cq => ?_)
          · replace h := ifn cq h
            refine r_aload_n C dX11_scans_39 rfl hl 0 rfl ?_
            refine r_aload_n C dX11_scans_40 rfl hl 0 rfl ?_
            refine r_getI C hM9 jc11 30 rfl dX11_scans_41 lk_X11_249 lr_0.1 lr_0.2 rfl rfl (by decide) rfl ?_
            refine r_putI C hM9 jc11 31 (hM.ok _ _) dX11_scans_44 lk_X11_252 lr_0.1 lr_0.2 rfl rfl (by decide) rfl rfl rfl (Nat.le_of_ble_eq_true rfl) (by decide) (fun H locs hM10 => ?_)
            replace h := lt_some h
            obtain ⟨N11, eN11, h⟩ := h
            rw [← eN11] at hM10
            refine r_aload_n C dX11_scans_47 rfl hl 0 rfl ?_
            refine r_aload_n C dX11_scans_48 rfl hl 0 rfl ?_
            refine r_getI C hM10 jc11 30 (rd_slot eN11 (by decide) rfl) dX11_scans_49 lk_X11_249 lr_0.1 lr_0.2 rfl rfl (by decide) rfl ?_
            replace h := bd_some h
            obtain ⟨r52, hf52, h⟩ := h
            refine r_callI (As := [.int (jI (M 0 30))]) (rest := []) C hM10 (c_X11_byteAt l E z (hM.ok _ _) hf52) jy_X11_byteAt lk_X11_246 dX11_scans_52 (recvW C hM10 jc11 lr_0.1 lr_0.2 rfl) rfl rfl hl.1 (Nat.le_of_ble_eq_true rfl) ⟨Nat.le_of_ble_eq_true rfl, Nat.le_of_ble_eq_true rfl⟩ ⟨rfl, rfl⟩ ⟨Nat.zero_le _, Nat.zero_le _⟩ (fun H locs hr52 hM12 => ?_)
            refine r_iconst C dX11_scans_55 ?_
            refine r_icmp_ne C 67 hr52 ⟨by decide, by decide⟩ dX11_scans_56 (by decide) (fun cq => ?_) (fun cq => ?_)
            · replace h := ifn cq h
              refine r_aload_n C dX11_scans_67 rfl hl 0 rfl ?_
              refine r_aload_n C dX11_scans_68 rfl hl 0 rfl ?_
              refine r_getI C hM12 jc11 30 (rd_slot eN11 (by decide) rfl) dX11_scans_69 lk_X11_249 lr_0.1 lr_0.2 rfl rfl (by decide) rfl ?_
              replace h := bd_some h
              obtain ⟨r72, hf72, h⟩ := h
              refine r_callI (As := [.int (jI (M 0 30))]) (rest := []) C hM12 (c_X11_isLetter l E z (hM.ok _ _) hf72) jy_X11_isLetter lk_X11_258 dX11_scans_72 (recvW C hM12 jc11 lr_0.1 lr_0.2 rfl) rfl rfl hl.1 (Nat.le_of_ble_eq_true rfl) ⟨Nat.le_of_ble_eq_true rfl, Nat.le_of_ble_eq_true rfl⟩ ⟨rfl, rfl⟩ ⟨Nat.zero_le _, Nat.zero_le _⟩ (fun H locs hr72 hM13 => ?_)
              refine r_if_eq C 110 hr72 dX11_scans_75 (by decide) (fun cq => ?_) (fun cq => ?_)
              · replace h := ifp cq h
                refine r_aload_n C dX11_scans_110 rfl hl 0 rfl ?_
                refine r_aload_n C dX11_scans_111 rfl hl 0 rfl ?_
                refine r_getI C hM13 jc11 30 (rd_slot eN11 (by decide) rfl) dX11_scans_112 lk_X11_249 lr_0.1 lr_0.2 rfl rfl (by decide) rfl ?_
                replace h := bd_some h
                obtain ⟨r115, hf115, h⟩ := h
                refine r_callI (As := [.int (jI (M 0 30))]) (rest := []) C hM13 (c_X11_isDigit l E z (hM.ok _ _) hf115) jy_X11_isDigit lk_X11_261 dX11_scans_115 (recvW C hM13 jc11 lr_0.1 lr_0.2 rfl) rfl rfl hl.1 (Nat.le_of_ble_eq_true rfl) ⟨Nat.le_of_ble_eq_true rfl, Nat.le_of_ble_eq_true rfl⟩ ⟨rfl, rfl⟩ ⟨Nat.zero_le _, Nat.zero_le _⟩ (fun H locs hr115 hM14 => ?_)
                refine r_if_eq C 188 hr115 dX11_scans_118 (by decide) (fun cq => ?_) (fun cq => ?_)
                · replace h := ifp cq h
                  refine r_aload_n C dX11_scans_188 rfl hl 0 rfl ?_
                  refine r_aload_n C dX11_scans_189 rfl hl 0 rfl ?_
                  refine r_getR C hM14 jc11 28 22 dX11_scans_190 lk_X11_74 lr_0.1 lr_0.2 rfl rfl (by decide) rfl ?_
                  refine r_aload_n C dX11_scans_193 rfl hl 0 rfl ?_
                  refine r_getI C hM14 jc11 30 (rd_slot eN11 (by decide) rfl) dX11_scans_194 lk_X11_249 lr_0.1 lr_0.2 rfl rfl (by decide) rfl ?_
                  replace h := ck_some h
                  obtain ⟨hc15, h⟩ := h
                  refine r_iald C hM14 (rd_skip eN11 (by decide) rfl) dX11_scans_197 lr_22.1 lr_22.2 hc15 (hM.ok _ _) ?_
                  replace h := bd_some h
                  obtain ⟨r198, hf198, h⟩ := h
                  refine r_callSI (As := [.int (jI (M 22 (M 0 30).toNat))]) (rest := [.ref (z + 0)]) C hM14 (c_X11_isSymbol l E z (hM.ok _ _) hf198) jy_X11_isSymbol lk_X11_268 dX11_scans_198 rfl rfl hl.1 (Nat.le_of_ble_eq_true rfl) ⟨Nat.le_of_ble_eq_true rfl, Nat.le_of_ble_eq_true rfl⟩ ⟨rfl, rfl⟩ ⟨Nat.zero_le _, Nat.zero_le _⟩ (fun H locs hr198 hM16 => ?_)
                  replace h := jn_some h
                  obtain ⟨k209, hk209, h⟩ := h
                  have hJ209 : ∀ (v209 : Int), inR v209 → ∀ (H : Heap) (locs : List Loc) (ls : Array Slot), k209 v209 = some M' → HS E z LyR N11 sM H locs → lv_has ls 1 [(0, .ref (z + 0))] → W p l e ({ frames := 2, cells := 0, slots := 0, locals := 43 } : Room) sM m (([.ref (z + 0)] : List Value).toArray) below meth c H locs 0 0 (MQ below (va_Qv (fun (_ : Unit) => Mok LyR M') (fun _ t => va_P (eD E) vwCl (Wd (eC E) z LyR M') t.heap) (eA E)) (([.ref (z + 0)] : List Value).toArray) sM 0 0 (eA E)) (F0 m 209 ls [.int (jI v209), .ref (z + 0)]) := by
                    intro v209 hv209 H locs ls h hMj209 hl
                    subst hk209
                    try dsimp only at h
                    refine r_putI C hMj209 jc11 32 hv209 dX11_scans_209 lk_X11_255 lr_0.1 lr_0.2 rfl rfl (by decide) rfl rfl rfl (Nat.le_of_ble_eq_true rfl) (by decide) (fun H locs hM17 => ?_)
                    replace h := lt_some h
                    obtain ⟨N18, eN18, h⟩ := h
                    rw [← eN18] at hM17
                    refine r_aload_n C dX11_scans_212 rfl hl 0 rfl ?_
                    refine r_dup C dX11_scans_213 rfl ?_
                    refine r_getI C hM17 jc11 30 (rd_slot eN18 (by decide) (rd_slot eN11 (by decide) rfl)) dX11_scans_214 lk_X11_249 lr_0.1 lr_0.2 rfl rfl (by decide) rfl ?_
                    refine r_iconst C dX11_scans_217 ?_
                    replace h := ck_some h
                    obtain ⟨hc19, h⟩ := h
                    refine r_iadd C dX11_scans_218 ?_
                    refine r_putI C hM17 jc11 30 hc19 dX11_scans_219 lk_X11_249 lr_0.1 lr_0.2 rfl rfl (by decide) rfl rfl rfl (Nat.le_of_ble_eq_true rfl) (by decide) (fun H locs hM20 => ?_)
                    replace h := lt_some h
                    obtain ⟨N21, eN21, h⟩ := h
                    rw [← eN21] at hM20
                    exact r_return C hM20 hr hlk h dX11_scans_222
                  refine r_if_eq C 208 hr198 dX11_scans_201 (by decide) (fun cq => ?_) (fun cq => ?_)
                  · replace h := ifp cq h
                    refine r_iconst C dX11_scans_208 ?_
                    exact hJ209 _ ⟨by decide, by decide⟩ _ _ _ h hM16 (lv_sub hl [0] rfl)
                  · replace h := ifn cq h
                    refine r_iconst C dX11_scans_204 ?_
                    refine r_goto C 209 dX11_scans_205 (by decide) ?_
                    exact hJ209 _ ⟨by decide, by decide⟩ _ _ _ h hM16 (lv_sub hl [0] rfl)
                · replace h := ifn cq h
                  refine r_aload_n C dX11_scans_121 rfl hl 0 rfl ?_
                  refine r_iconst C dX11_scans_122 ?_
                  refine r_putI C hM14 jc11 33 ⟨by decide, by decide⟩ dX11_scans_123 lk_X11_264 lr_0.1 lr_0.2 rfl rfl (by decide) rfl rfl rfl (Nat.le_of_ble_eq_true rfl) (by decide) (fun H locs hM22 => ?_)
                  replace h := lt_some h
                  obtain ⟨N23, eN23, h⟩ := h
                  rw [← eN23] at hM22
                  have hL126 : ∀ n126 : Nat, ∀ (M : Mem), ∀ (H : Heap) (locs : List Loc) (ls : Array Slot), f_X11_scans_L126 n126  M = some M' → HS E z LyR M sM H locs → lv_has ls 1 [(0, .ref (z + 0))] → W p l e ({ frames := 2, cells := 0, slots := 0, locals := 43 } : Room) sM m (([.ref (z + 0)] : List Value).toArray) below meth c H locs 0 0 (MQ below (va_Qv (fun (_ : Unit) => Mok LyR M') (fun _ t => va_P (eD E) vwCl (Wd (eC E) z LyR M') t.heap) (eA E)) (([.ref (z + 0)] : List Value).toArray) sM 0 0 (eA E)) (F0 m 126 ls []) := by
                    intro n126
                    induction n126 with
                    | zero =>
                      intro M H locs ls h hM hl
                      exact absurd h (by simp [f_X11_scans_L126])
                    | succ n126 ih126 =>
                      intro M H locs ls h hM hl
                      rw [f_X11_scans_L126] at h
                      refine r_aload_n C dX11_scans_126 rfl hl 0 rfl ?_
                      refine r_aload_n C dX11_scans_127 rfl hl 0 rfl ?_
                      refine r_getI C hM jc11 30 rfl dX11_scans_128 lk_X11_249 lr_0.1 lr_0.2 rfl rfl (by decide) rfl ?_
                      replace h := bd_some h
                      obtain ⟨r131, hf131, h⟩ := h
                      refine r_callI (As := [.int (jI (M 0 30))]) (rest := []) C hM (c_X11_isDigit l E z (hM.ok _ _) hf131) jy_X11_isDigit lk_X11_261 dX11_scans_131 (recvW C hM jc11 lr_0.1 lr_0.2 rfl) rfl rfl hl.1 (Nat.le_of_ble_eq_true rfl) ⟨Nat.le_of_ble_eq_true rfl, Nat.le_of_ble_eq_true rfl⟩ ⟨rfl, rfl⟩ ⟨Nat.zero_le _, Nat.zero_le _⟩ (fun H locs hr131 hM24 => ?_)
                      refine r_if_eq C 180 hr131 dX11_scans_134 (by decide) (fun cq => ?_) (fun cq => ?_)
                      · replace h := ifp cq h
                        refine r_aload_n C dX11_scans_180 rfl hl 0 rfl ?_
                        refine r_iconst C dX11_scans_181 ?_
                        refine r_putI C hM24 jc11 32 ⟨by decide, by decide⟩ dX11_scans_182 lk_X11_255 lr_0.1 lr_0.2 rfl rfl (by decide) rfl rfl rfl (Nat.le_of_ble_eq_true rfl) (by decide) (fun H locs hM25 => ?_)
                        replace h := lt_some h
                        obtain ⟨N26, eN26, h⟩ := h
                        rw [← eN26] at hM25
                        refine r_goto C 222 dX11_scans_185 (by decide) ?_
                        exact r_return C hM25 hr hlk h dX11_scans_222
                      · replace h := ifn cq h
                        refine r_aload_n C dX11_scans_137 rfl hl 0 rfl ?_
                        refine r_ldcw C lk_X11_267 dX11_scans_138 ?_
                        refine r_bipush C dX11_scans_141 rfl ?_
                        refine r_aload_n C dX11_scans_143 rfl hl 0 rfl ?_
                        refine r_getI C hM24 jc11 33 rfl dX11_scans_144 lk_X11_264 lr_0.1 lr_0.2 rfl rfl (by decide) rfl ?_
                        replace h := ck_some h
                        obtain ⟨hc27, h⟩ := h
                        refine r_imul C dX11_scans_147 ?_
                        refine r_aload_n C dX11_scans_148 rfl hl 0 rfl ?_
                        refine r_getR C hM24 jc11 28 22 dX11_scans_149 lk_X11_74 lr_0.1 lr_0.2 rfl rfl (by decide) rfl ?_
                        refine r_aload_n C dX11_scans_152 rfl hl 0 rfl ?_
                        refine r_getI C hM24 jc11 30 rfl dX11_scans_153 lk_X11_249 lr_0.1 lr_0.2 rfl rfl (by decide) rfl ?_
                        replace h := ck_some h
                        obtain ⟨hc28, h⟩ := h
                        refine r_iald C hM24 rfl dX11_scans_156 lr_22.1 lr_22.2 hc28 (hM.ok _ _) ?_
                        replace h := ck_some h
                        obtain ⟨hc29, h⟩ := h
                        refine r_iadd C dX11_scans_157 ?_
                        refine r_bipush C dX11_scans_158 rfl ?_
                        replace h := ck_some h
                        obtain ⟨hc30, h⟩ := h
                        refine r_isub C dX11_scans_160 ?_
                        refine r_min C ⟨by decide, by decide⟩ hc30 lk_X11_154 dX11_scans_161 hl.1 ⟨Nat.le_of_ble_eq_true rfl, Nat.le_of_ble_eq_true rfl⟩ ⟨Nat.zero_le _, Nat.zero_le _⟩ ?_
                        refine r_putI C hM24 jc11 33 (min_R ⟨by decide, by decide⟩ hc30) dX11_scans_164 lk_X11_264 lr_0.1 lr_0.2 rfl rfl (by decide) rfl rfl rfl (Nat.le_of_ble_eq_true rfl) (by decide) (fun H locs hM31 => ?_)
                        replace h := lt_some h
                        obtain ⟨N32, eN32, h⟩ := h
                        rw [← eN32] at hM31
                        refine r_aload_n C dX11_scans_167 rfl hl 0 rfl ?_
                        refine r_dup C dX11_scans_168 rfl ?_
                        refine r_getI C hM31 jc11 30 (rd_slot eN32 (by decide) rfl) dX11_scans_169 lk_X11_249 lr_0.1 lr_0.2 rfl rfl (by decide) rfl ?_
                        refine r_iconst C dX11_scans_172 ?_
                        replace h := ck_some h
                        obtain ⟨hc33, h⟩ := h
                        refine r_iadd C dX11_scans_173 ?_
                        refine r_putI C hM31 jc11 30 hc33 dX11_scans_174 lk_X11_249 lr_0.1 lr_0.2 rfl rfl (by decide) rfl rfl rfl (Nat.le_of_ble_eq_true rfl) (by decide) (fun H locs hM34 => ?_)
                        replace h := lt_some h
                        obtain ⟨N35, eN35, h⟩ := h
                        rw [← eN35] at hM34
                        refine r_goto C 126 dX11_scans_177 (by decide) ?_
                        exact ih126 _ _ _ _ h hM34 (lv_sub hl [0] rfl)
                  exact hL126 jFuel _ _ _ _ h hM22 (lv_sub hl [0] rfl)
              · replace h := ifn cq h
                have hL78 : ∀ n78 : Nat, ∀ (M : Mem), ∀ (H : Heap) (locs : List Loc) (ls : Array Slot), f_X11_scans_L78 n78  M = some M' → HS E z LyR M sM H locs → lv_has ls 1 [(0, .ref (z + 0))] → W p l e ({ frames := 2, cells := 0, slots := 0, locals := 43 } : Room) sM m (([.ref (z + 0)] : List Value).toArray) below meth c H locs 0 0 (MQ below (va_Qv (fun (_ : Unit) => Mok LyR M') (fun _ t => va_P (eD E) vwCl (Wd (eC E) z LyR M') t.heap) (eA E)) (([.ref (z + 0)] : List Value).toArray) sM 0 0 (eA E)) (F0 m 78 ls []) := by
                  intro n78
                  induction n78 with
                  | zero =>
                    intro M H locs ls h hM hl
                    exact absurd h (by simp [f_X11_scans_L78])
                  | succ n78 ih78 =>
                    intro M H locs ls h hM hl
                    rw [f_X11_scans_L78] at h
                    refine r_aload_n C dX11_scans_78 rfl hl 0 rfl ?_
                    refine r_aload_n C dX11_scans_79 rfl hl 0 rfl ?_
                    refine r_getI C hM jc11 30 rfl dX11_scans_80 lk_X11_249 lr_0.1 lr_0.2 rfl rfl (by decide) rfl ?_
                    replace h := bd_some h
                    obtain ⟨r83, hf83, h⟩ := h
                    refine r_callI (As := [.int (jI (M 0 30))]) (rest := []) C hM (c_X11_isLetter l E z (hM.ok _ _) hf83) jy_X11_isLetter lk_X11_258 dX11_scans_83 (recvW C hM jc11 lr_0.1 lr_0.2 rfl) rfl rfl hl.1 (Nat.le_of_ble_eq_true rfl) ⟨Nat.le_of_ble_eq_true rfl, Nat.le_of_ble_eq_true rfl⟩ ⟨rfl, rfl⟩ ⟨Nat.zero_le _, Nat.zero_le _⟩ (fun H locs hr83 hM36 => ?_)
                    refine r_if_eq C 102 hr83 dX11_scans_86 (by decide) (fun cq => ?_) (fun cq => ?_)
                    · replace h := ifp cq h
                      refine r_aload_n C dX11_scans_102 rfl hl 0 rfl ?_
                      refine r_iconst C dX11_scans_103 ?_
                      refine r_putI C hM36 jc11 32 ⟨by decide, by decide⟩ dX11_scans_104 lk_X11_255 lr_0.1 lr_0.2 rfl rfl (by decide) rfl rfl rfl (Nat.le_of_ble_eq_true rfl) (by decide) (fun H locs hM37 => ?_)
                      replace h := lt_some h
                      obtain ⟨N38, eN38, h⟩ := h
                      rw [← eN38] at hM37
                      refine r_goto C 222 dX11_scans_107 (by decide) ?_
                      exact r_return C hM37 hr hlk h dX11_scans_222
                    · replace h := ifn cq h
                      refine r_aload_n C dX11_scans_89 rfl hl 0 rfl ?_
                      refine r_dup C dX11_scans_90 rfl ?_
                      refine r_getI C hM36 jc11 30 rfl dX11_scans_91 lk_X11_249 lr_0.1 lr_0.2 rfl rfl (by decide) rfl ?_
                      refine r_iconst C dX11_scans_94 ?_
                      replace h := ck_some h
                      obtain ⟨hc39, h⟩ := h
                      refine r_iadd C dX11_scans_95 ?_
                      refine r_putI C hM36 jc11 30 hc39 dX11_scans_96 lk_X11_249 lr_0.1 lr_0.2 rfl rfl (by decide) rfl rfl rfl (Nat.le_of_ble_eq_true rfl) (by decide) (fun H locs hM40 => ?_)
                      replace h := lt_some h
                      obtain ⟨N41, eN41, h⟩ := h
                      rw [← eN41] at hM40
                      refine r_goto C 78 dX11_scans_99 (by decide) ?_
                      exact ih78 _ _ _ _ h hM40 (lv_sub hl [0] rfl)
                exact hL78 jFuel _ _ _ _ h hM13 (lv_sub hl [0] rfl)
            · replace h := ifp cq h
              refine r_aload_n C dX11_scans_59 rfl hl 0 rfl ?_
              refine r_iconst C dX11_scans_60 ?_
              refine r_putI C hM12 jc11 32 ⟨by decide, by decide⟩ dX11_scans_61 lk_X11_255 lr_0.1 lr_0.2 rfl rfl (by decide) rfl rfl rfl (Nat.le_of_ble_eq_true rfl) (by decide) (fun H locs hM42 => ?_)
              replace h := lt_some h
              obtain ⟨N43, eN43, h⟩ := h
              rw [← eN43] at hM42
              refine r_goto C 222 dX11_scans_64 (by decide) ?_
              exact r_return C hM42 hr hlk h dX11_scans_222
          · replace h := ifp cq h
            refine r_aload_n C dX11_scans_26 rfl hl 0 rfl ?_
            refine r_dup C dX11_scans_27 rfl ?_
            refine r_getI C hM9 jc11 30 rfl dX11_scans_28 lk_X11_249 lr_0.1 lr_0.2 rfl rfl (by decide) rfl ?_
            refine r_iconst C dX11_scans_31 ?_
            replace h := ck_some h
            obtain ⟨hc44, h⟩ := h
            refine r_iadd C dX11_scans_32 ?_
            refine r_putI C hM9 jc11 30 hc44 dX11_scans_33 lk_X11_249 lr_0.1 lr_0.2 rfl rfl (by decide) rfl rfl rfl (Nat.le_of_ble_eq_true rfl) (by decide) (fun H locs hM45 => ?_)
            replace h := lt_some h
            obtain ⟨N46, eN46, h⟩ := h
            rw [← eN46] at hM45
            refine r_goto C 0 dX11_scans_36 (by decide) ?_
            exact ih0 _ _ _ _ h hM45 (lv_sub hl [0] rfl)
    exact hL0 jFuel _ _ _ _ h hM3 (lv_sub hl [0] rfl)
  · replace h := ifn cq h
    refine r_aload_n C dX11_scans_13 rfl hl 0 rfl ?_
    refine r_aload_n C dX11_scans_14 rfl hl 0 rfl ?_
    refine r_getI C hM1 jc11 30 rfl dX11_scans_15 lk_X11_249 lr_0.1 lr_0.2 rfl rfl (by decide) rfl ?_
    replace h := bd_some h
    obtain ⟨r18, hf18, h⟩ := h
    refine r_callI (As := [.int (jI (M 0 30))]) (rest := []) C hM1 (c_X11_byteAt l E z (hM0.ok _ _) hf18) jy_X11_byteAt lk_X11_246 dX11_scans_18 (recvW C hM1 jc11 lr_0.1 lr_0.2 rfl) rfl rfl hl.1 (Nat.le_of_ble_eq_true rfl) ⟨Nat.le_of_ble_eq_true rfl, Nat.le_of_ble_eq_true rfl⟩ ⟨rfl, rfl⟩ ⟨Nat.zero_le _, Nat.zero_le _⟩ (fun H locs hr18 hM47 => ?_)
    refine r_bipush C dX11_scans_21 rfl ?_
    refine r_icmp_ne C 39 hr18 ⟨by decide, by decide⟩ dX11_scans_23 (by decide) (fun cq => ?_) (fun cq => ?_)
    · replace h := ifn cq h
      refine r_aload_n C dX11_scans_39 rfl hl 0 rfl ?_
      refine r_aload_n C dX11_scans_40 rfl hl 0 rfl ?_
      refine r_getI C hM47 jc11 30 rfl dX11_scans_41 lk_X11_249 lr_0.1 lr_0.2 rfl rfl (by decide) rfl ?_
      refine r_putI C hM47 jc11 31 (hM0.ok _ _) dX11_scans_44 lk_X11_252 lr_0.1 lr_0.2 rfl rfl (by decide) rfl rfl rfl (Nat.le_of_ble_eq_true rfl) (by decide) (fun H locs hM48 => ?_)
      replace h := lt_some h
      obtain ⟨N49, eN49, h⟩ := h
      rw [← eN49] at hM48
      refine r_aload_n C dX11_scans_47 rfl hl 0 rfl ?_
      refine r_aload_n C dX11_scans_48 rfl hl 0 rfl ?_
      refine r_getI C hM48 jc11 30 (rd_slot eN49 (by decide) rfl) dX11_scans_49 lk_X11_249 lr_0.1 lr_0.2 rfl rfl (by decide) rfl ?_
      replace h := bd_some h
      obtain ⟨r52, hf52, h⟩ := h
      refine r_callI (As := [.int (jI (M 0 30))]) (rest := []) C hM48 (c_X11_byteAt l E z (hM0.ok _ _) hf52) jy_X11_byteAt lk_X11_246 dX11_scans_52 (recvW C hM48 jc11 lr_0.1 lr_0.2 rfl) rfl rfl hl.1 (Nat.le_of_ble_eq_true rfl) ⟨Nat.le_of_ble_eq_true rfl, Nat.le_of_ble_eq_true rfl⟩ ⟨rfl, rfl⟩ ⟨Nat.zero_le _, Nat.zero_le _⟩ (fun H locs hr52 hM50 => ?_)
      refine r_iconst C dX11_scans_55 ?_
      refine r_icmp_ne C 67 hr52 ⟨by decide, by decide⟩ dX11_scans_56 (by decide) (fun cq => ?_) (fun cq => ?_)
      · replace h := ifn cq h
        refine r_aload_n C dX11_scans_67 rfl hl 0 rfl ?_
        refine r_aload_n C dX11_scans_68 rfl hl 0 rfl ?_
        refine r_getI C hM50 jc11 30 (rd_slot eN49 (by decide) rfl) dX11_scans_69 lk_X11_249 lr_0.1 lr_0.2 rfl rfl (by decide) rfl ?_
        replace h := bd_some h
        obtain ⟨r72, hf72, h⟩ := h
        refine r_callI (As := [.int (jI (M 0 30))]) (rest := []) C hM50 (c_X11_isLetter l E z (hM0.ok _ _) hf72) jy_X11_isLetter lk_X11_258 dX11_scans_72 (recvW C hM50 jc11 lr_0.1 lr_0.2 rfl) rfl rfl hl.1 (Nat.le_of_ble_eq_true rfl) ⟨Nat.le_of_ble_eq_true rfl, Nat.le_of_ble_eq_true rfl⟩ ⟨rfl, rfl⟩ ⟨Nat.zero_le _, Nat.zero_le _⟩ (fun H locs hr72 hM51 => ?_)
        refine r_if_eq C 110 hr72 dX11_scans_75 (by decide) (fun cq => ?_) (fun cq => ?_)
        · replace h := ifp cq h
          refine r_aload_n C dX11_scans_110 rfl hl 0 rfl ?_
          refine r_aload_n C dX11_scans_111 rfl hl 0 rfl ?_
          refine r_getI C hM51 jc11 30 (rd_slot eN49 (by decide) rfl) dX11_scans_112 lk_X11_249 lr_0.1 lr_0.2 rfl rfl (by decide) rfl ?_
          replace h := bd_some h
          obtain ⟨r115, hf115, h⟩ := h
          refine r_callI (As := [.int (jI (M 0 30))]) (rest := []) C hM51 (c_X11_isDigit l E z (hM0.ok _ _) hf115) jy_X11_isDigit lk_X11_261 dX11_scans_115 (recvW C hM51 jc11 lr_0.1 lr_0.2 rfl) rfl rfl hl.1 (Nat.le_of_ble_eq_true rfl) ⟨Nat.le_of_ble_eq_true rfl, Nat.le_of_ble_eq_true rfl⟩ ⟨rfl, rfl⟩ ⟨Nat.zero_le _, Nat.zero_le _⟩ (fun H locs hr115 hM52 => ?_)
          refine r_if_eq C 188 hr115 dX11_scans_118 (by decide) (fun cq => ?_) (fun cq => ?_)
          · replace h := ifp cq h
            refine r_aload_n C dX11_scans_188 rfl hl 0 rfl ?_
            refine r_aload_n C dX11_scans_189 rfl hl 0 rfl ?_
            refine r_getR C hM52 jc11 28 22 dX11_scans_190 lk_X11_74 lr_0.1 lr_0.2 rfl rfl (by decide) rfl ?_
            refine r_aload_n C dX11_scans_193 rfl hl 0 rfl ?_
            refine r_getI C hM52 jc11 30 (rd_slot eN49 (by decide) rfl) dX11_scans_194 lk_X11_249 lr_0.1 lr_0.2 rfl rfl (by decide) rfl ?_
            replace h := ck_some h
            obtain ⟨hc53, h⟩ := h
            refine r_iald C hM52 (rd_skip eN49 (by decide) rfl) dX11_scans_197 lr_22.1 lr_22.2 hc53 (hM0.ok _ _) ?_
            replace h := bd_some h
            obtain ⟨r198, hf198, h⟩ := h
            refine r_callSI (As := [.int (jI (M 22 (M 0 30).toNat))]) (rest := [.ref (z + 0)]) C hM52 (c_X11_isSymbol l E z (hM0.ok _ _) hf198) jy_X11_isSymbol lk_X11_268 dX11_scans_198 rfl rfl hl.1 (Nat.le_of_ble_eq_true rfl) ⟨Nat.le_of_ble_eq_true rfl, Nat.le_of_ble_eq_true rfl⟩ ⟨rfl, rfl⟩ ⟨Nat.zero_le _, Nat.zero_le _⟩ (fun H locs hr198 hM54 => ?_)
            replace h := jn_some h
            obtain ⟨k209, hk209, h⟩ := h
            have hJ209 : ∀ (v209 : Int), inR v209 → ∀ (H : Heap) (locs : List Loc) (ls : Array Slot), k209 v209 = some M' → HS E z LyR N49 sM H locs → lv_has ls 1 [(0, .ref (z + 0))] → W p l e ({ frames := 2, cells := 0, slots := 0, locals := 43 } : Room) sM m (([.ref (z + 0)] : List Value).toArray) below meth c H locs 0 0 (MQ below (va_Qv (fun (_ : Unit) => Mok LyR M') (fun _ t => va_P (eD E) vwCl (Wd (eC E) z LyR M') t.heap) (eA E)) (([.ref (z + 0)] : List Value).toArray) sM 0 0 (eA E)) (F0 m 209 ls [.int (jI v209), .ref (z + 0)]) := by
              intro v209 hv209 H locs ls h hMj209 hl
              subst hk209
              try dsimp only at h
              refine r_putI C hMj209 jc11 32 hv209 dX11_scans_209 lk_X11_255 lr_0.1 lr_0.2 rfl rfl (by decide) rfl rfl rfl (Nat.le_of_ble_eq_true rfl) (by decide) (fun H locs hM55 => ?_)
              replace h := lt_some h
              obtain ⟨N56, eN56, h⟩ := h
              rw [← eN56] at hM55
              refine r_aload_n C dX11_scans_212 rfl hl 0 rfl ?_
              refine r_dup C dX11_scans_213 rfl ?_
              refine r_getI C hM55 jc11 30 (rd_slot eN56 (by decide) (rd_slot eN49 (by decide) rfl)) dX11_scans_214 lk_X11_249 lr_0.1 lr_0.2 rfl rfl (by decide) rfl ?_
              refine r_iconst C dX11_scans_217 ?_
              replace h := ck_some h
              obtain ⟨hc57, h⟩ := h
              refine r_iadd C dX11_scans_218 ?_
              refine r_putI C hM55 jc11 30 hc57 dX11_scans_219 lk_X11_249 lr_0.1 lr_0.2 rfl rfl (by decide) rfl rfl rfl (Nat.le_of_ble_eq_true rfl) (by decide) (fun H locs hM58 => ?_)
              replace h := lt_some h
              obtain ⟨N59, eN59, h⟩ := h
              rw [← eN59] at hM58
              exact r_return C hM58 hr hlk h dX11_scans_222
            refine r_if_eq C 208 hr198 dX11_scans_201 (by decide) (fun cq => ?_) (fun cq => ?_)
            · replace h := ifp cq h
              refine r_iconst C dX11_scans_208 ?_
              exact hJ209 _ ⟨by decide, by decide⟩ _ _ _ h hM54 (lv_sub hl [0] rfl)
            · replace h := ifn cq h
              refine r_iconst C dX11_scans_204 ?_
              refine r_goto C 209 dX11_scans_205 (by decide) ?_
              exact hJ209 _ ⟨by decide, by decide⟩ _ _ _ h hM54 (lv_sub hl [0] rfl)
          · replace h := ifn cq h
            refine r_aload_n C dX11_scans_121 rfl hl 0 rfl ?_
            refine r_iconst C dX11_scans_122 ?_
            refine r_putI C hM52 jc11 33 ⟨by decide, by decide⟩ dX11_scans_123 lk_X11_264 lr_0.1 lr_0.2 rfl rfl (by decide) rfl rfl rfl (Nat.le_of_ble_eq_true rfl) (by decide) (fun H locs hM60 => ?_)
            replace h := lt_some h
            obtain ⟨N61, eN61, h⟩ := h
            rw [← eN61] at hM60
            have hL126 : ∀ n126 : Nat, ∀ (M : Mem), ∀ (H : Heap) (locs : List Loc) (ls : Array Slot), f_X11_scans_L126 n126  M = some M' → HS E z LyR M sM H locs → lv_has ls 1 [(0, .ref (z + 0))] → W p l e ({ frames := 2, cells := 0, slots := 0, locals := 43 } : Room) sM m (([.ref (z + 0)] : List Value).toArray) below meth c H locs 0 0 (MQ below (va_Qv (fun (_ : Unit) => Mok LyR M') (fun _ t => va_P (eD E) vwCl (Wd (eC E) z LyR M') t.heap) (eA E)) (([.ref (z + 0)] : List Value).toArray) sM 0 0 (eA E)) (F0 m 126 ls []) := by
              intro n126
              induction n126 with
              | zero =>
                intro M H locs ls h hM hl
                exact absurd h (by simp [f_X11_scans_L126])
              | succ n126 ih126 =>
                intro M H locs ls h hM hl
                rw [f_X11_scans_L126] at h
                refine r_aload_n C dX11_scans_126 rfl hl 0 rfl ?_
                refine r_aload_n C dX11_scans_127 rfl hl 0 rfl ?_
                refine r_getI C hM jc11 30 rfl dX11_scans_128 lk_X11_249 lr_0.1 lr_0.2 rfl rfl (by decide) rfl ?_
                replace h := bd_some h
                obtain ⟨r131, hf131, h⟩ := h
                refine r_callI (As := [.int (jI (M 0 30))]) (rest := []) C hM (c_X11_isDigit l E z (hM.ok _ _) hf131) jy_X11_isDigit lk_X11_261 dX11_scans_131 (recvW C hM jc11 lr_0.1 lr_0.2 rfl) rfl rfl hl.1 (Nat.le_of_ble_eq_true rfl) ⟨Nat.le_of_ble_eq_true rfl, Nat.le_of_ble_eq_true rfl⟩ ⟨rfl, rfl⟩ ⟨Nat.zero_le _, Nat.zero_le _⟩ (fun H locs hr131 hM62 => ?_)
                refine r_if_eq C 180 hr131 dX11_scans_134 (by decide) (fun cq => ?_) (fun cq => ?_)
                · replace h := ifp cq h
                  refine r_aload_n C dX11_scans_180 rfl hl 0 rfl ?_
                  refine r_iconst C dX11_scans_181 ?_
                  refine r_putI C hM62 jc11 32 ⟨by decide, by decide⟩ dX11_scans_182 lk_X11_255 lr_0.1 lr_0.2 rfl rfl (by decide) rfl rfl rfl (Nat.le_of_ble_eq_true rfl) (by decide) (fun H locs hM63 => ?_)
                  replace h := lt_some h
                  obtain ⟨N64, eN64, h⟩ := h
                  rw [← eN64] at hM63
                  refine r_goto C 222 dX11_scans_185 (by decide) ?_
                  exact r_return C hM63 hr hlk h dX11_scans_222
                · replace h := ifn cq h
                  refine r_aload_n C dX11_scans_137 rfl hl 0 rfl ?_
                  refine r_ldcw C lk_X11_267 dX11_scans_138 ?_
                  refine r_bipush C dX11_scans_141 rfl ?_
                  refine r_aload_n C dX11_scans_143 rfl hl 0 rfl ?_
                  refine r_getI C hM62 jc11 33 rfl dX11_scans_144 lk_X11_264 lr_0.1 lr_0.2 rfl rfl (by decide) rfl ?_
                  replace h := ck_some h
                  obtain ⟨hc65, h⟩ := h
                  refine r_imul C dX11_scans_147 ?_
                  refine r_aload_n C dX11_scans_148 rfl hl 0 rfl ?_
                  refine r_getR C hM62 jc11 28 22 dX11_scans_149 lk_X11_74 lr_0.1 lr_0.2 rfl rfl (by decide) rfl ?_
                  refine r_aload_n C dX11_scans_152 rfl hl 0 rfl ?_
                  refine r_getI C hM62 jc11 30 rfl dX11_scans_153 lk_X11_249 lr_0.1 lr_0.2 rfl rfl (by decide) rfl ?_
                  replace h := ck_some h
                  obtain ⟨hc66, h⟩ := h
                  refine r_iald C hM62 rfl dX11_scans_156 lr_22.1 lr_22.2 hc66 (hM.ok _ _) ?_
                  replace h := ck_some h
                  obtain ⟨hc67, h⟩ := h
                  refine r_iadd C dX11_scans_157 ?_
                  refine r_bipush C dX11_scans_158 rfl ?_
                  replace h := ck_some h
                  obtain ⟨hc68, h⟩ := h
                  refine r_isub C dX11_scans_160 ?_
                  refine r_min C ⟨by decide, by decide⟩ hc68 lk_X11_154 dX11_scans_161 hl.1 ⟨Nat.le_of_ble_eq_true rfl, Nat.le_of_ble_eq_true rfl⟩ ⟨Nat.zero_le _, Nat.zero_le _⟩ ?_
                  refine r_putI C hM62 jc11 33 (min_R ⟨by decide, by decide⟩ hc68) dX11_scans_164 lk_X11_264 lr_0.1 lr_0.2 rfl rfl (by decide) rfl rfl rfl (Nat.le_of_ble_eq_true rfl) (by decide) (fun H locs hM69 => ?_)
                  replace h := lt_some h
                  obtain ⟨N70, eN70, h⟩ := h
                  rw [← eN70] at hM69
                  refine r_aload_n C dX11_scans_167 rfl hl 0 rfl ?_
                  refine r_dup C dX11_scans_168 rfl ?_
                  refine r_getI C hM69 jc11 30 (rd_slot eN70 (by decide) rfl) dX11_scans_169 lk_X11_249 lr_0.1 lr_0.2 rfl rfl (by decide) rfl ?_
                  refine r_iconst C dX11_scans_172 ?_
                  replace h := ck_some h
                  obtain ⟨hc71, h⟩ := h
                  refine r_iadd C dX11_scans_173 ?_
                  refine r_putI C hM69 jc11 30 hc71 dX11_scans_174 lk_X11_249 lr_0.1 lr_0.2 rfl rfl (by decide) rfl rfl rfl (Nat.le_of_ble_eq_true rfl) (by decide) (fun H locs hM72 => ?_)
                  replace h := lt_some h
                  obtain ⟨N73, eN73, h⟩ := h
                  rw [← eN73] at hM72
                  refine r_goto C 126 dX11_scans_177 (by decide) ?_
                  exact ih126 _ _ _ _ h hM72 (lv_sub hl [0] rfl)
            exact hL126 jFuel _ _ _ _ h hM60 (lv_sub hl [0] rfl)
        · replace h := ifn cq h
          have hL78 : ∀ n78 : Nat, ∀ (M : Mem), ∀ (H : Heap) (locs : List Loc) (ls : Array Slot), f_X11_scans_L78 n78  M = some M' → HS E z LyR M sM H locs → lv_has ls 1 [(0, .ref (z + 0))] → W p l e ({ frames := 2, cells := 0, slots := 0, locals := 43 } : Room) sM m (([.ref (z + 0)] : List Value).toArray) below meth c H locs 0 0 (MQ below (va_Qv (fun (_ : Unit) => Mok LyR M') (fun _ t => va_P (eD E) vwCl (Wd (eC E) z LyR M') t.heap) (eA E)) (([.ref (z + 0)] : List Value).toArray) sM 0 0 (eA E)) (F0 m 78 ls []) := by
            intro n78
            induction n78 with
            | zero =>
              intro M H locs ls h hM hl
              exact absurd h (by simp [f_X11_scans_L78])
            | succ n78 ih78 =>
              intro M H locs ls h hM hl
              rw [f_X11_scans_L78] at h
              refine r_aload_n C dX11_scans_78 rfl hl 0 rfl ?_
              refine r_aload_n C dX11_scans_79 rfl hl 0 rfl ?_
              refine r_getI C hM jc11 30 rfl dX11_scans_80 lk_X11_249 lr_0.1 lr_0.2 rfl rfl (by decide) rfl ?_
              replace h := bd_some h
              obtain ⟨r83, hf83, h⟩ := h
              refine r_callI (As := [.int (jI (M 0 30))]) (rest := []) C hM (c_X11_isLetter l E z (hM.ok _ _) hf83) jy_X11_isLetter lk_X11_258 dX11_scans_83 (recvW C hM jc11 lr_0.1 lr_0.2 rfl) rfl rfl hl.1 (Nat.le_of_ble_eq_true rfl) ⟨Nat.le_of_ble_eq_true rfl, Nat.le_of_ble_eq_true rfl⟩ ⟨rfl, rfl⟩ ⟨Nat.zero_le _, Nat.zero_le _⟩ (fun H locs hr83 hM74 => ?_)
              refine r_if_eq C 102 hr83 dX11_scans_86 (by decide) (fun cq => ?_) (fun cq => ?_)
              · replace h := ifp cq h
                refine r_aload_n C dX11_scans_102 rfl hl 0 rfl ?_
                refine r_iconst C dX11_scans_103 ?_
                refine r_putI C hM74 jc11 32 ⟨by decide, by decide⟩ dX11_scans_104 lk_X11_255 lr_0.1 lr_0.2 rfl rfl (by decide) rfl rfl rfl (Nat.le_of_ble_eq_true rfl) (by decide) (fun H locs hM75 => ?_)
                replace h := lt_some h
                obtain ⟨N76, eN76, h⟩ := h
                rw [← eN76] at hM75
                refine r_goto C 222 dX11_scans_107 (by decide) ?_
                exact r_return C hM75 hr hlk h dX11_scans_222
              · replace h := ifn cq h
                refine r_aload_n C dX11_scans_89 rfl hl 0 rfl ?_
                refine r_dup C dX11_scans_90 rfl ?_
                refine r_getI C hM74 jc11 30 rfl dX11_scans_91 lk_X11_249 lr_0.1 lr_0.2 rfl rfl (by decide) rfl ?_
                refine r_iconst C dX11_scans_94 ?_
                replace h := ck_some h
                obtain ⟨hc77, h⟩ := h
                refine r_iadd C dX11_scans_95 ?_
                refine r_putI C hM74 jc11 30 hc77 dX11_scans_96 lk_X11_249 lr_0.1 lr_0.2 rfl rfl (by decide) rfl rfl rfl (Nat.le_of_ble_eq_true rfl) (by decide) (fun H locs hM78 => ?_)
                replace h := lt_some h
                obtain ⟨N79, eN79, h⟩ := h
                rw [← eN79] at hM78
                refine r_goto C 78 dX11_scans_99 (by decide) ?_
                exact ih78 _ _ _ _ h hM78 (lv_sub hl [0] rfl)
          exact hL78 jFuel _ _ _ _ h hM51 (lv_sub hl [0] rfl)
      · replace h := ifp cq h
        refine r_aload_n C dX11_scans_59 rfl hl 0 rfl ?_
        refine r_iconst C dX11_scans_60 ?_
        refine r_putI C hM50 jc11 32 ⟨by decide, by decide⟩ dX11_scans_61 lk_X11_255 lr_0.1 lr_0.2 rfl rfl (by decide) rfl rfl rfl (Nat.le_of_ble_eq_true rfl) (by decide) (fun H locs hM80 => ?_)
        replace h := lt_some h
        obtain ⟨N81, eN81, h⟩ := h
        rw [← eN81] at hM80
        refine r_goto C 222 dX11_scans_64 (by decide) ?_
        exact r_return C hM80 hr hlk h dX11_scans_222
    · replace h := ifp cq h
      refine r_aload_n C dX11_scans_26 rfl hl 0 rfl ?_
      refine r_dup C dX11_scans_27 rfl ?_
      refine r_getI C hM47 jc11 30 rfl dX11_scans_28 lk_X11_249 lr_0.1 lr_0.2 rfl rfl (by decide) rfl ?_
      refine r_iconst C dX11_scans_31 ?_
      replace h := ck_some h
      obtain ⟨hc82, h⟩ := h
      refine r_iadd C dX11_scans_32 ?_
      refine r_putI C hM47 jc11 30 hc82 dX11_scans_33 lk_X11_249 lr_0.1 lr_0.2 rfl rfl (by decide) rfl rfl rfl (Nat.le_of_ble_eq_true rfl) (by decide) (fun H locs hM83 => ?_)
      replace h := lt_some h
      obtain ⟨N84, eN84, h⟩ := h
      rw [← eN84] at hM83
      refine r_goto C 0 dX11_scans_36 (by decide) ?_
      have hL0 : ∀ n0 : Nat, ∀ (M : Mem), ∀ (H : Heap) (locs : List Loc) (ls : Array Slot), f_X11_scans_L0 n0  M = some M' → HS E z LyR M sM H locs → lv_has ls 1 [(0, .ref (z + 0))] → W p l e ({ frames := 2, cells := 0, slots := 0, locals := 43 } : Room) sM m (([.ref (z + 0)] : List Value).toArray) below meth c H locs 0 0 (MQ below (va_Qv (fun (_ : Unit) => Mok LyR M') (fun _ t => va_P (eD E) vwCl (Wd (eC E) z LyR M') t.heap) (eA E)) (([.ref (z + 0)] : List Value).toArray) sM 0 0 (eA E)) (F0 m 0 ls []) := by
        intro n0
        induction n0 with
        | zero =>
          intro M H locs ls h hM hl
          exact absurd h (by simp [f_X11_scans_L0])
        | succ n0 ih0 =>
          intro M H locs ls h hM hl
          rw [f_X11_scans_L0] at h
          refine r_aload_n C dX11_scans_0 rfl hl 0 rfl ?_
          refine r_aload_n C dX11_scans_1 rfl hl 0 rfl ?_
          refine r_getI C hM jc11 30 rfl dX11_scans_2 lk_X11_249 lr_0.1 lr_0.2 rfl rfl (by decide) rfl ?_
          replace h := bd_some h
          obtain ⟨r5, hf5, h⟩ := h
          refine r_callI (As := [.int (jI (M 0 30))]) (rest := []) C hM (c_X11_byteAt l E z (hM.ok _ _) hf5) jy_X11_byteAt lk_X11_246 dX11_scans_5 (recvW C hM jc11 lr_0.1 lr_0.2 rfl) rfl rfl hl.1 (Nat.le_of_ble_eq_true rfl) ⟨Nat.le_of_ble_eq_true rfl, Nat.le_of_ble_eq_true rfl⟩ ⟨rfl, rfl⟩ ⟨Nat.zero_le _, Nat.zero_le _⟩ (fun H locs hr5 hM85 => ?_)
          refine r_bipush C dX11_scans_8 rfl ?_
          refine r_icmp_eq C 26 hr5 ⟨by decide, by decide⟩ dX11_scans_10 (by decide) (fun cq => ?_) (fun cq => ?_)
          · replace h := ifp cq h
            refine r_aload_n C dX11_scans_26 rfl hl 0 rfl ?_
            refine r_dup C dX11_scans_27 rfl ?_
            refine r_getI C hM85 jc11 30 rfl dX11_scans_28 lk_X11_249 lr_0.1 lr_0.2 rfl rfl (by decide) rfl ?_
            refine r_iconst C dX11_scans_31 ?_
            replace h := ck_some h
            obtain ⟨hc86, h⟩ := h
            refine r_iadd C dX11_scans_32 ?_
            refine r_putI C hM85 jc11 30 hc86 dX11_scans_33 lk_X11_249 lr_0.1 lr_0.2 rfl rfl (by decide) rfl rfl rfl (Nat.le_of_ble_eq_true rfl) (by decide) (fun H locs hM87 => ?_)
            replace h := lt_some h
            obtain ⟨N88, eN88, h⟩ := h
            rw [← eN88] at hM87
            refine r_goto C 0 dX11_scans_36 (by decide) ?_
            exact ih0 _ _ _ _ h hM87 (lv_sub hl [0] rfl)
          · replace h := ifn cq h
            refine r_aload_n C dX11_scans_13 rfl hl 0 rfl ?_
            refine r_aload_n C dX11_scans_14 rfl hl 0 rfl ?_
            refine r_getI C hM85 jc11 30 rfl dX11_scans_15 lk_X11_249 lr_0.1 lr_0.2 rfl rfl (by decide) rfl ?_
            replace h := bd_some h
            obtain ⟨r18, hf18, h⟩ := h
            refine r_callI (As := [.int (jI (M 0 30))]) (rest := []) C hM85 (c_X11_byteAt l E z (hM.ok _ _) hf18) jy_X11_byteAt lk_X11_246 dX11_scans_18 (recvW C hM85 jc11 lr_0.1 lr_0.2 rfl) rfl rfl hl.1 (Nat.le_of_ble_eq_true rfl) ⟨Nat.le_of_ble_eq_true rfl, Nat.le_of_ble_eq_true rfl⟩ ⟨rfl, rfl⟩ ⟨Nat.zero_le _, Nat.zero_le _⟩ (fun H locs hr18 hM89 => ?_)
            refine r_bipush C dX11_scans_21 rfl ?_
            refine r_icmp_ne C 39 hr18 ⟨by decide, by decide⟩ dX11_scans_23 (by decide) (fun cq => ?_) (fun cq => ?_)
            · replace h := ifn cq h
              refine r_aload_n C dX11_scans_39 rfl hl 0 rfl ?_
              refine r_aload_n C dX11_scans_40 rfl hl 0 rfl ?_
              refine r_getI C hM89 jc11 30 rfl dX11_scans_41 lk_X11_249 lr_0.1 lr_0.2 rfl rfl (by decide) rfl ?_
              refine r_putI C hM89 jc11 31 (hM.ok _ _) dX11_scans_44 lk_X11_252 lr_0.1 lr_0.2 rfl rfl (by decide) rfl rfl rfl (Nat.le_of_ble_eq_true rfl) (by decide) (fun H locs hM90 => ?_)
              replace h := lt_some h
              obtain ⟨N91, eN91, h⟩ := h
              rw [← eN91] at hM90
              refine r_aload_n C dX11_scans_47 rfl hl 0 rfl ?_
              refine r_aload_n C dX11_scans_48 rfl hl 0 rfl ?_
              refine r_getI C hM90 jc11 30 (rd_slot eN91 (by decide) rfl) dX11_scans_49 lk_X11_249 lr_0.1 lr_0.2 rfl rfl (by decide) rfl ?_
              replace h := bd_some h
              obtain ⟨r52, hf52, h⟩ := h
              refine r_callI (As := [.int (jI (M 0 30))]) (rest := []) C hM90 (c_X11_byteAt l E z (hM.ok _ _) hf52) jy_X11_byteAt lk_X11_246 dX11_scans_52 (recvW C hM90 jc11 lr_0.1 lr_0.2 rfl) rfl rfl hl.1 (Nat.le_of_ble_eq_true rfl) ⟨Nat.le_of_ble_eq_true rfl, Nat.le_of_ble_eq_true rfl⟩ ⟨rfl, rfl⟩ ⟨Nat.zero_le _, Nat.zero_le _⟩ (fun H locs hr52 hM92 => ?_)
              refine r_iconst C dX11_scans_55 ?_
              refine r_icmp_ne C 67 hr52 ⟨by decide, by decide⟩ dX11_scans_56 (by decide) (fun cq => ?_) (fun cq => ?_)
              · replace h := ifn cq h
                refine r_aload_n C dX11_scans_67 rfl hl 0 rfl ?_
                refine r_aload_n C dX11_scans_68 rfl hl 0 rfl ?_
                refine r_getI C hM92 jc11 30 (rd_slot eN91 (by decide) rfl) dX11_scans_69 lk_X11_249 lr_0.1 lr_0.2 rfl rfl (by decide) rfl ?_
                replace h := bd_some h
                obtain ⟨r72, hf72, h⟩ := h
                refine r_callI (As := [.int (jI (M 0 30))]) (rest := []) C hM92 (c_X11_isLetter l E z (hM.ok _ _) hf72) jy_X11_isLetter lk_X11_258 dX11_scans_72 (recvW C hM92 jc11 lr_0.1 lr_0.2 rfl) rfl rfl hl.1 (Nat.le_of_ble_eq_true rfl) ⟨Nat.le_of_ble_eq_true rfl, Nat.le_of_ble_eq_true rfl⟩ ⟨rfl, rfl⟩ ⟨Nat.zero_le _, Nat.zero_le _⟩ (fun H locs hr72 hM93 => ?_)
                refine r_if_eq C 110 hr72 dX11_scans_75 (by decide) (fun cq => ?_) (fun cq => ?_)
                · replace h := ifp cq h
                  refine r_aload_n C dX11_scans_110 rfl hl 0 rfl ?_
                  refine r_aload_n C dX11_scans_111 rfl hl 0 rfl ?_
                  refine r_getI C hM93 jc11 30 (rd_slot eN91 (by decide) rfl) dX11_scans_112 lk_X11_249 lr_0.1 lr_0.2 rfl rfl (by decide) rfl ?_
                  replace h := bd_some h
                  obtain ⟨r115, hf115, h⟩ := h
                  refine r_callI (As := [.int (jI (M 0 30))]) (rest := []) C hM93 (c_X11_isDigit l E z (hM.ok _ _) hf115) jy_X11_isDigit lk_X11_261 dX11_scans_115 (recvW C hM93 jc11 lr_0.1 lr_0.2 rfl) rfl rfl hl.1 (Nat.le_of_ble_eq_true rfl) ⟨Nat.le_of_ble_eq_true rfl, Nat.le_of_ble_eq_true rfl⟩ ⟨rfl, rfl⟩ ⟨Nat.zero_le _, Nat.zero_le _⟩ (fun H locs hr115 hM94 => ?_)
                  refine r_if_eq C 188 hr115 dX11_scans_118 (by decide) (fun cq => ?_) (fun cq => ?_)
                  · replace h := ifp cq h
                    refine r_aload_n C dX11_scans_188 rfl hl 0 rfl ?_
                    refine r_aload_n C dX11_scans_189 rfl hl 0 rfl ?_
                    refine r_getR C hM94 jc11 28 22 dX11_scans_190 lk_X11_74 lr_0.1 lr_0.2 rfl rfl (by decide) rfl ?_
                    refine r_aload_n C dX11_scans_193 rfl hl 0 rfl ?_
                    refine r_getI C hM94 jc11 30 (rd_slot eN91 (by decide) rfl) dX11_scans_194 lk_X11_249 lr_0.1 lr_0.2 rfl rfl (by decide) rfl ?_
                    replace h := ck_some h
                    obtain ⟨hc95, h⟩ := h
                    refine r_iald C hM94 (rd_skip eN91 (by decide) rfl) dX11_scans_197 lr_22.1 lr_22.2 hc95 (hM.ok _ _) ?_
                    replace h := bd_some h
                    obtain ⟨r198, hf198, h⟩ := h
                    refine r_callSI (As := [.int (jI (M 22 (M 0 30).toNat))]) (rest := [.ref (z + 0)]) C hM94 (c_X11_isSymbol l E z (hM.ok _ _) hf198) jy_X11_isSymbol lk_X11_268 dX11_scans_198 rfl rfl hl.1 (Nat.le_of_ble_eq_true rfl) ⟨Nat.le_of_ble_eq_true rfl, Nat.le_of_ble_eq_true rfl⟩ ⟨rfl, rfl⟩ ⟨Nat.zero_le _, Nat.zero_le _⟩ (fun H locs hr198 hM96 => ?_)
                    replace h := jn_some h
                    obtain ⟨k209, hk209, h⟩ := h
                    have hJ209 : ∀ (v209 : Int), inR v209 → ∀ (H : Heap) (locs : List Loc) (ls : Array Slot), k209 v209 = some M' → HS E z LyR N91 sM H locs → lv_has ls 1 [(0, .ref (z + 0))] → W p l e ({ frames := 2, cells := 0, slots := 0, locals := 43 } : Room) sM m (([.ref (z + 0)] : List Value).toArray) below meth c H locs 0 0 (MQ below (va_Qv (fun (_ : Unit) => Mok LyR M') (fun _ t => va_P (eD E) vwCl (Wd (eC E) z LyR M') t.heap) (eA E)) (([.ref (z + 0)] : List Value).toArray) sM 0 0 (eA E)) (F0 m 209 ls [.int (jI v209), .ref (z + 0)]) := by
                      intro v209 hv209 H locs ls h hMj209 hl
                      subst hk209
                      try dsimp only at h
                      refine r_putI C hMj209 jc11 32 hv209 dX11_scans_209 lk_X11_255 lr_0.1 lr_0.2 rfl rfl (by decide) rfl rfl rfl (Nat.le_of_ble_eq_true rfl) (by decide) (fun H locs hM97 => ?_)
                      replace h := lt_some h
                      obtain ⟨N98, eN98, h⟩ := h
                      rw [← eN98] at hM97
                      refine r_aload_n C dX11_scans_212 rfl hl 0 rfl ?_
                      refine r_dup C dX11_scans_213 rfl ?_
                      refine r_getI C hM97 jc11 30 (rd_slot eN98 (by decide) (rd_slot eN91 (by decide) rfl)) dX11_scans_214 lk_X11_249 lr_0.1 lr_0.2 rfl rfl (by decide) rfl ?_
                      refine r_iconst C dX11_scans_217 ?_
                      replace h := ck_some h
                      obtain ⟨hc99, h⟩ := h
                      refine r_iadd C dX11_scans_218 ?_
                      refine r_putI C hM97 jc11 30 hc99 dX11_scans_219 lk_X11_249 lr_0.1 lr_0.2 rfl rfl (by decide) rfl rfl rfl (Nat.le_of_ble_eq_true rfl) (by decide) (fun H locs hM100 => ?_)
                      replace h := lt_some h
                      obtain ⟨N101, eN101, h⟩ := h
                      rw [← eN101] at hM100
                      exact r_return C hM100 hr hlk h dX11_scans_222
                    refine r_if_eq C 208 hr198 dX11_scans_201 (by decide) (fun cq => ?_) (fun cq => ?_)
                    · replace h := ifp cq h
                      refine r_iconst C dX11_scans_208 ?_
                      exact hJ209 _ ⟨by decide, by decide⟩ _ _ _ h hM96 (lv_sub hl [0] rfl)
                    · replace h := ifn cq h
                      refine r_iconst C dX11_scans_204 ?_
                      refine r_goto C 209 dX11_scans_205 (by decide) ?_
                      exact hJ209 _ ⟨by decide, by decide⟩ _ _ _ h hM96 (lv_sub hl [0] rfl)
                  · replace h := ifn cq h
                    refine r_aload_n C dX11_scans_121 rfl hl 0 rfl ?_
                    refine r_iconst C dX11_scans_122 ?_
                    refine r_putI C hM94 jc11 33 ⟨by decide, by decide⟩ dX11_scans_123 lk_X11_264 lr_0.1 lr_0.2 rfl rfl (by decide) rfl rfl rfl (Nat.le_of_ble_eq_true rfl) (by decide) (fun H locs hM102 => ?_)
                    replace h := lt_some h
                    obtain ⟨N103, eN103, h⟩ := h
                    rw [← eN103] at hM102
                    have hL126 : ∀ n126 : Nat, ∀ (M : Mem), ∀ (H : Heap) (locs : List Loc) (ls : Array Slot), f_X11_scans_L126 n126  M = some M' → HS E z LyR M sM H locs → lv_has ls 1 [(0, .ref (z + 0))] → W p l e ({ frames := 2, cells := 0, slots := 0, locals := 43 } : Room) sM m (([.ref (z + 0)] : List Value).toArray) below meth c H locs 0 0 (MQ below (va_Qv (fun (_ : Unit) => Mok LyR M') (fun _ t => va_P (eD E) vwCl (Wd (eC E) z LyR M') t.heap) (eA E)) (([.ref (z + 0)] : List Value).toArray) sM 0 0 (eA E)) (F0 m 126 ls []) := by
                      intro n126
                      induction n126 with
                      | zero =>
                        intro M H locs ls h hM hl
                        exact absurd h (by simp [f_X11_scans_L126])
                      | succ n126 ih126 =>
                        intro M H locs ls h hM hl
                        rw [f_X11_scans_L126] at h
                        refine r_aload_n C dX11_scans_126 rfl hl 0 rfl ?_
                        refine r_aload_n C dX11_scans_127 rfl hl 0 rfl ?_
                        refine r_getI C hM jc11 30 rfl dX11_scans_128 lk_X11_249 lr_0.1 lr_0.2 rfl rfl (by decide) rfl ?_
                        replace h := bd_some h
                        obtain ⟨r131, hf131, h⟩ := h
                        refine r_callI (As := [.int (jI (M 0 30))]) (rest := []) C hM (c_X11_isDigit l E z (hM.ok _ _) hf131) jy_X11_isDigit lk_X11_261 dX11_scans_131 (recvW C hM jc11 lr_0.1 lr_0.2 rfl) rfl rfl hl.1 (Nat.le_of_ble_eq_true rfl) ⟨Nat.le_of_ble_eq_true rfl, Nat.le_of_ble_eq_true rfl⟩ ⟨rfl, rfl⟩ ⟨Nat.zero_le _, Nat.zero_le _⟩ (fun H locs hr131 hM104 => ?_)
                        refine r_if_eq C 180 hr131 dX11_scans_134 (by decide) (fun cq => ?_) (fun cq => ?_)
                        · replace h := ifp cq h
                          refine r_aload_n C dX11_scans_180 rfl hl 0 rfl ?_
                          refine r_iconst C dX11_scans_181 ?_
                          refine r_putI C hM104 jc11 32 ⟨by decide, by decide⟩ dX11_scans_182 lk_X11_255 lr_0.1 lr_0.2 rfl rfl (by decide) rfl rfl rfl (Nat.le_of_ble_eq_true rfl) (by decide) (fun H locs hM105 => ?_)
                          replace h := lt_some h
                          obtain ⟨N106, eN106, h⟩ := h
                          rw [← eN106] at hM105
                          refine r_goto C 222 dX11_scans_185 (by decide) ?_
                          exact r_return C hM105 hr hlk h dX11_scans_222
                        · replace h := ifn cq h
                          refine r_aload_n C dX11_scans_137 rfl hl 0 rfl ?_
                          refine r_ldcw C lk_X11_267 dX11_scans_138 ?_
                          refine r_bipush C dX11_scans_141 rfl ?_
                          refine r_aload_n C dX11_scans_143 rfl hl 0 rfl ?_
                          refine r_getI C hM104 jc11 33 rfl dX11_scans_144 lk_X11_264 lr_0.1 lr_0.2 rfl rfl (by decide) rfl ?_
                          replace h := ck_some h
                          obtain ⟨hc107, h⟩ := h
                          refine r_imul C dX11_scans_147 ?_
                          refine r_aload_n C dX11_scans_148 rfl hl 0 rfl ?_
                          refine r_getR C hM104 jc11 28 22 dX11_scans_149 lk_X11_74 lr_0.1 lr_0.2 rfl rfl (by decide) rfl ?_
                          refine r_aload_n C dX11_scans_152 rfl hl 0 rfl ?_
                          refine r_getI C hM104 jc11 30 rfl dX11_scans_153 lk_X11_249 lr_0.1 lr_0.2 rfl rfl (by decide) rfl ?_
                          replace h := ck_some h
                          obtain ⟨hc108, h⟩ := h
                          refine r_iald C hM104 rfl dX11_scans_156 lr_22.1 lr_22.2 hc108 (hM.ok _ _) ?_
                          replace h := ck_some h
                          obtain ⟨hc109, h⟩ := h
                          refine r_iadd C dX11_scans_157 ?_
                          refine r_bipush C dX11_scans_158 rfl ?_
                          replace h := ck_some h
                          obtain ⟨hc110, h⟩ := h
                          refine r_isub C dX11_scans_160 ?_
                          refine r_min C ⟨by decide, by decide⟩ hc110 lk_X11_154 dX11_scans_161 hl.1 ⟨Nat.le_of_ble_eq_true rfl, Nat.le_of_ble_eq_true rfl⟩ ⟨Nat.zero_le _, Nat.zero_le _⟩ ?_
                          refine r_putI C hM104 jc11 33 (min_R ⟨by decide, by decide⟩ hc110) dX11_scans_164 lk_X11_264 lr_0.1 lr_0.2 rfl rfl (by decide) rfl rfl rfl (Nat.le_of_ble_eq_true rfl) (by decide) (fun H locs hM111 => ?_)
                          replace h := lt_some h
                          obtain ⟨N112, eN112, h⟩ := h
                          rw [← eN112] at hM111
                          refine r_aload_n C dX11_scans_167 rfl hl 0 rfl ?_
                          refine r_dup C dX11_scans_168 rfl ?_
                          refine r_getI C hM111 jc11 30 (rd_slot eN112 (by decide) rfl) dX11_scans_169 lk_X11_249 lr_0.1 lr_0.2 rfl rfl (by decide) rfl ?_
                          refine r_iconst C dX11_scans_172 ?_
                          replace h := ck_some h
                          obtain ⟨hc113, h⟩ := h
                          refine r_iadd C dX11_scans_173 ?_
                          refine r_putI C hM111 jc11 30 hc113 dX11_scans_174 lk_X11_249 lr_0.1 lr_0.2 rfl rfl (by decide) rfl rfl rfl (Nat.le_of_ble_eq_true rfl) (by decide) (fun H locs hM114 => ?_)
                          replace h := lt_some h
                          obtain ⟨N115, eN115, h⟩ := h
                          rw [← eN115] at hM114
                          refine r_goto C 126 dX11_scans_177 (by decide) ?_
                          exact ih126 _ _ _ _ h hM114 (lv_sub hl [0] rfl)
                    exact hL126 jFuel _ _ _ _ h hM102 (lv_sub hl [0] rfl)
                · replace h := ifn cq h
                  have hL78 : ∀ n78 : Nat, ∀ (M : Mem), ∀ (H : Heap) (locs : List Loc) (ls : Array Slot), f_X11_scans_L78 n78  M = some M' → HS E z LyR M sM H locs → lv_has ls 1 [(0, .ref (z + 0))] → W p l e ({ frames := 2, cells := 0, slots := 0, locals := 43 } : Room) sM m (([.ref (z + 0)] : List Value).toArray) below meth c H locs 0 0 (MQ below (va_Qv (fun (_ : Unit) => Mok LyR M') (fun _ t => va_P (eD E) vwCl (Wd (eC E) z LyR M') t.heap) (eA E)) (([.ref (z + 0)] : List Value).toArray) sM 0 0 (eA E)) (F0 m 78 ls []) := by
                    intro n78
                    induction n78 with
                    | zero =>
                      intro M H locs ls h hM hl
                      exact absurd h (by simp [f_X11_scans_L78])
                    | succ n78 ih78 =>
                      intro M H locs ls h hM hl
                      rw [f_X11_scans_L78] at h
                      refine r_aload_n C dX11_scans_78 rfl hl 0 rfl ?_
                      refine r_aload_n C dX11_scans_79 rfl hl 0 rfl ?_
                      refine r_getI C hM jc11 30 rfl dX11_scans_80 lk_X11_249 lr_0.1 lr_0.2 rfl rfl (by decide) rfl ?_
                      replace h := bd_some h
                      obtain ⟨r83, hf83, h⟩ := h
                      refine r_callI (As := [.int (jI (M 0 30))]) (rest := []) C hM (c_X11_isLetter l E z (hM.ok _ _) hf83) jy_X11_isLetter lk_X11_258 dX11_scans_83 (recvW C hM jc11 lr_0.1 lr_0.2 rfl) rfl rfl hl.1 (Nat.le_of_ble_eq_true rfl) ⟨Nat.le_of_ble_eq_true rfl, Nat.le_of_ble_eq_true rfl⟩ ⟨rfl, rfl⟩ ⟨Nat.zero_le _, Nat.zero_le _⟩ (fun H locs hr83 hM116 => ?_)
                      refine r_if_eq C 102 hr83 dX11_scans_86 (by decide) (fun cq => ?_) (fun cq => ?_)
                      · replace h := ifp cq h
                        refine r_aload_n C dX11_scans_102 rfl hl 0 rfl ?_
                        refine r_iconst C dX11_scans_103 ?_
                        refine r_putI C hM116 jc11 32 ⟨by decide, by decide⟩ dX11_scans_104 lk_X11_255 lr_0.1 lr_0.2 rfl rfl (by decide) rfl rfl rfl (Nat.le_of_ble_eq_true rfl) (by decide) (fun H locs hM117 => ?_)
                        replace h := lt_some h
                        obtain ⟨N118, eN118, h⟩ := h
                        rw [← eN118] at hM117
                        refine r_goto C 222 dX11_scans_107 (by decide) ?_
                        exact r_return C hM117 hr hlk h dX11_scans_222
                      · replace h := ifn cq h
                        refine r_aload_n C dX11_scans_89 rfl hl 0 rfl ?_
                        refine r_dup C dX11_scans_90 rfl ?_
                        refine r_getI C hM116 jc11 30 rfl dX11_scans_91 lk_X11_249 lr_0.1 lr_0.2 rfl rfl (by decide) rfl ?_
                        refine r_iconst C dX11_scans_94 ?_
                        replace h := ck_some h
                        obtain ⟨hc119, h⟩ := h
                        refine r_iadd C dX11_scans_95 ?_
                        refine r_putI C hM116 jc11 30 hc119 dX11_scans_96 lk_X11_249 lr_0.1 lr_0.2 rfl rfl (by decide) rfl rfl rfl (Nat.le_of_ble_eq_true rfl) (by decide) (fun H locs hM120 => ?_)
                        replace h := lt_some h
                        obtain ⟨N121, eN121, h⟩ := h
                        rw [← eN121] at hM120
                        refine r_goto C 78 dX11_scans_99 (by decide) ?_
                        exact ih78 _ _ _ _ h hM120 (lv_sub hl [0] rfl)
                  exact hL78 jFuel _ _ _ _ h hM93 (lv_sub hl [0] rfl)
              · replace h := ifp cq h
                refine r_aload_n C dX11_scans_59 rfl hl 0 rfl ?_
                refine r_iconst C dX11_scans_60 ?_
                refine r_putI C hM92 jc11 32 ⟨by decide, by decide⟩ dX11_scans_61 lk_X11_255 lr_0.1 lr_0.2 rfl rfl (by decide) rfl rfl rfl (Nat.le_of_ble_eq_true rfl) (by decide) (fun H locs hM122 => ?_)
                replace h := lt_some h
                obtain ⟨N123, eN123, h⟩ := h
                rw [← eN123] at hM122
                refine r_goto C 222 dX11_scans_64 (by decide) ?_
                exact r_return C hM122 hr hlk h dX11_scans_222
            · replace h := ifp cq h
              refine r_aload_n C dX11_scans_26 rfl hl 0 rfl ?_
              refine r_dup C dX11_scans_27 rfl ?_
              refine r_getI C hM89 jc11 30 rfl dX11_scans_28 lk_X11_249 lr_0.1 lr_0.2 rfl rfl (by decide) rfl ?_
              refine r_iconst C dX11_scans_31 ?_
              replace h := ck_some h
              obtain ⟨hc124, h⟩ := h
              refine r_iadd C dX11_scans_32 ?_
              refine r_putI C hM89 jc11 30 hc124 dX11_scans_33 lk_X11_249 lr_0.1 lr_0.2 rfl rfl (by decide) rfl rfl rfl (Nat.le_of_ble_eq_true rfl) (by decide) (fun H locs hM125 => ?_)
              replace h := lt_some h
              obtain ⟨N126, eN126, h⟩ := h
              rw [← eN126] at hM125
              refine r_goto C 0 dX11_scans_36 (by decide) ?_
              exact ih0 _ _ _ _ h hM125 (lv_sub hl [0] rfl)
      exact hL0 jFuel _ _ _ _ h hM83 (lv_sub hl [0] rfl)
set_option maxRecDepth 100000 in
set_option maxHeartbeats 4000000 in
theorem c_X11_fails (l : Launch) (E : jE) (z : Nat) {x1 : Int} {M M' : Mem} (hx1 : inR x1) (h : f_X11_fails x1 M = some M') : CtV l yX11_fails cX11_fails 2 none { frames := 0, cells := 0, slots := 0, locals := 0 } E z LyR [.ref (z + 0), .int (jI x1)] M M' := by
  refine jm (by decide +kernel) (Nat.le_of_ble_eq_true rfl) ?_
  intro p e sM m below meth c C hM0 hr hlk ls hl
  replace hl : lv_has ls 2 [(0, .ref (z + 0)), (1, .int (jI x1))] := hl
  unfold f_X11_fails at h
  refine r_aload_n C dX11_fails_0 rfl hl 0 rfl ?_
  refine r_getI C hM0 jc11 34 rfl dX11_fails_1 lk_X11_271 lr_0.1 lr_0.2 rfl rfl (by decide) rfl ?_
  refine r_if_eq C 8 (hM0.ok _ _) dX11_fails_4 (by decide) (fun cq => ?_) (fun cq => ?_)
  · replace h := ifp cq h
    refine r_aload_n C dX11_fails_8 rfl hl 0 rfl ?_
    refine r_iload_n C dX11_fails_9 rfl hl 1 rfl ?_
    refine r_putI C hM0 jc11 34 hx1 dX11_fails_10 lk_X11_271 lr_0.1 lr_0.2 rfl rfl (by decide) rfl rfl rfl (Nat.le_of_ble_eq_true rfl) (by decide) (fun H locs hM1 => ?_)
    replace h := lt_some h
    obtain ⟨N2, eN2, h⟩ := h
    rw [← eN2] at hM1
    refine r_aload_n C dX11_fails_13 rfl hl 0 rfl ?_
    refine r_aload_n C dX11_fails_14 rfl hl 0 rfl ?_
    refine r_getI C hM1 jc11 31 (rd_slot eN2 (by decide) rfl) dX11_fails_15 lk_X11_252 lr_0.1 lr_0.2 rfl rfl (by decide) rfl ?_
    refine r_putI C hM1 jc11 35 (hM0.ok _ _) dX11_fails_18 lk_X11_274 lr_0.1 lr_0.2 rfl rfl (by decide) rfl rfl rfl (Nat.le_of_ble_eq_true rfl) (by decide) (fun H locs hM3 => ?_)
    replace h := lt_some h
    obtain ⟨N4, eN4, h⟩ := h
    rw [← eN4] at hM3
    exact r_return C hM3 hr hlk h dX11_fails_21
  · replace h := ifn cq h
    exact r_return C hM0 hr hlk h dX11_fails_7
set_option maxRecDepth 100000 in
set_option maxHeartbeats 4000000 in
theorem c_X11_isGood (l : Launch) (E : jE) (z : Nat) {M : Mem} {r : Int} (h : f_X11_isGood M = some r) : CtI l yX11_isGood cX11_isGood 1 (some .boolean) { frames := 0, cells := 0, slots := 0, locals := 0 } E z LyR [.ref (z + 0)] M r M := by
  refine jm (by decide +kernel) (Nat.le_of_ble_eq_true rfl) ?_
  intro p e sM m below meth c C hM0 hr hlk ls hl
  replace hl : lv_has ls 1 [(0, .ref (z + 0))] := hl
  unfold f_X11_isGood at h
  refine r_aload_n C dX11_isGood_0 rfl hl 0 rfl ?_
  refine r_getI C hM0 jc11 34 rfl dX11_isGood_1 lk_X11_271 lr_0.1 lr_0.2 rfl rfl (by decide) rfl ?_
  refine r_if_ne C 11 (hM0.ok _ _) dX11_isGood_4 (by decide) (fun cq => ?_) (fun cq => ?_)
  · replace h := ifn cq h
    refine r_iconst C dX11_isGood_11 ?_
    exact r_zreturn C hM0 hr hlk (Or.inl rfl) h rfl dX11_isGood_12
  · replace h := ifp cq h
    refine r_iconst C dX11_isGood_7 ?_
    refine r_goto C 12 dX11_isGood_8 (by decide) ?_
    exact r_zreturn C hM0 hr hlk (Or.inr rfl) h rfl dX11_isGood_12
set_option maxRecDepth 100000 in
set_option maxHeartbeats 4000000 in
theorem c_X11_goesOn (l : Launch) (E : jE) (z : Nat) {M M' : Mem} (h : f_X11_goesOn M = some M') : CtV l yX11_goesOn cX11_goesOn 1 none { frames := 3, cells := 0, slots := 0, locals := 63 } E z LyR [.ref (z + 0)] M M' := by
  refine jm (by decide +kernel) (Nat.le_of_ble_eq_true rfl) ?_
  intro p e sM m below meth c C hM0 hr hlk ls hl
  replace hl : lv_has ls 1 [(0, .ref (z + 0))] := hl
  unfold f_X11_goesOn at h
  refine r_aload_n C dX11_goesOn_0 rfl hl 0 rfl ?_
  replace h := bd_some h
  obtain ⟨r1, hf1, h⟩ := h
  refine r_callI (As := []) (rest := []) C hM0 (c_X11_isGood l E z hf1) jy_X11_isGood lk_X11_277 dX11_goesOn_1 (recvW C hM0 jc11 lr_0.1 lr_0.2 rfl) rfl rfl hl.1 (Nat.le_of_ble_eq_true rfl) ⟨Nat.le_of_ble_eq_true rfl, Nat.le_of_ble_eq_true rfl⟩ ⟨rfl, rfl⟩ ⟨Nat.zero_le _, Nat.zero_le _⟩ (fun H locs hr1 hM1 => ?_)
  refine r_if_eq C 11 hr1 dX11_goesOn_4 (by decide) (fun cq => ?_) (fun cq => ?_)
  · replace h := ifp cq h
    exact r_return C hM1 hr hlk h dX11_goesOn_11
  · replace h := ifn cq h
    refine r_aload_n C dX11_goesOn_7 rfl hl 0 rfl ?_
    replace h := bd_some h
    obtain ⟨M8, hf8, h⟩ := h
    refine r_callV (As := []) (rest := []) C hM1 (c_X11_scans l E z hf8) jy_X11_scans lk_X11_281 dX11_goesOn_8 (recvW C hM1 jc11 lr_0.1 lr_0.2 rfl) rfl rfl hl.1 (Nat.le_of_ble_eq_true rfl) ⟨Nat.le_of_ble_eq_true rfl, Nat.le_of_ble_eq_true rfl⟩ ⟨rfl, rfl⟩ ⟨Nat.zero_le _, Nat.zero_le _⟩ (fun H locs hM2 => ?_)
    exact r_return C hM2 hr hlk h dX11_goesOn_11
set_option maxRecDepth 100000 in
set_option maxHeartbeats 4000000 in
theorem c_X11_isWord (l : Launch) (E : jE) (z : Nat) {w1 : Nat} {M : Mem} {r : Int} (hw1 : w1 < nST) (h : f_X11_isWord w1 M = some r) : CtI l yX11_isWord cX11_isWord 4 (some .boolean) { frames := 6, cells := 0, slots := 0, locals := 300 } E z LyR [.ref (z + 0), .ref (eK E w1)] M r M := by
  refine jm (by decide +kernel) (Nat.le_of_ble_eq_true rfl) ?_
  intro p e sM m below meth c C hM0 hr hlk ls hl
  replace hl : lv_has ls 4 [(0, .ref (z + 0)), (1, .ref (eK E w1))] := hl
  unfold f_X11_isWord at h
  refine r_aload_n C dX11_isWord_0 rfl hl 0 rfl ?_
  replace h := bd_some h
  obtain ⟨r1, hf1, h⟩ := h
  refine r_callI (As := []) (rest := []) C hM0 (c_X11_isGood l E z hf1) jy_X11_isGood lk_X11_277 dX11_isWord_1 (recvW C hM0 jc11 lr_0.1 lr_0.2 rfl) rfl rfl hl.1 (Nat.le_of_ble_eq_true rfl) ⟨Nat.le_of_ble_eq_true rfl, Nat.le_of_ble_eq_true rfl⟩ ⟨rfl, rfl⟩ ⟨Nat.zero_le _, Nat.zero_le _⟩ (fun H locs hr1 hM1 => ?_)
  refine r_if_eq C 35 hr1 dX11_isWord_4 (by decide) (fun cq => ?_) (fun cq => ?_)
  · replace h := ifp cq h
    refine r_iconst C dX11_isWord_35 ?_
    refine r_istore_n C [(2, .int (jI 0)), (0, .ref (z + 0)), (1, .ref (eK E w1))] dX11_isWord_36 rfl hl (by decide) rfl (fun ls hl => ?_)
    refine r_iconst C dX11_isWord_37 ?_
    refine r_istore_n C [(3, .int (jI 0)), (2, .int (jI 0)), (0, .ref (z + 0)), (1, .ref (eK E w1))] dX11_isWord_38 rfl hl (by decide) rfl (fun ls hl => ?_)
    have hL39 : ∀ n39 : Nat, ∀ (x2 : Int) (x3 : Int), inR x2 → inR x3 → ∀ (H : Heap) (locs : List Loc) (ls : Array Slot), f_X11_isWord_L39 w1 M n39  x2 x3 = some r → HS E z LyR M sM H locs → lv_has ls 4 [(0, .ref (z + 0)), (1, .ref (eK E w1)), (2, .int (jI x2)), (3, .int (jI x3))] → W p l e ({ frames := 6, cells := 0, slots := 0, locals := 300 } : Room) sM m (([.ref (z + 0), .ref (eK E w1)] : List Value).toArray) below meth c H locs 0 0 (MQ below (va_Qi (fun (w : Int32) (_ : Unit) => w = jI r ∧ inR r ∧ Mok LyR M) (fun _ t => va_P (eD E) vwCl (Wd (eC E) z LyR M) t.heap) (eA E)) (([.ref (z + 0), .ref (eK E w1)] : List Value).toArray) sM 0 0 (eA E)) (F0 m 39 ls []) := by
      intro n39
      induction n39 with
      | zero =>
        intro x2 x3 hx2 hx3 H locs ls h hM hl
        exact absurd h (by simp [f_X11_isWord_L39])
      | succ n39 ih39 =>
        intro x2 x3 hx2 hx3 H locs ls h hM hl
        rw [f_X11_isWord_L39] at h
        refine r_iload_n C dX11_isWord_39 rfl hl 2 rfl ?_
        refine r_if_eq C 82 hx2 dX11_isWord_40 (by decide) (fun cq => ?_) (fun cq => ?_)
        · replace h := ifp cq h
          refine r_iload_n C dX11_isWord_82 rfl hl 2 rfl ?_
          replace h := ck_some h
          obtain ⟨hc2, h⟩ := h
          exact r_zreturn C hM hr hlk hc2 h rfl dX11_isWord_83
        · replace h := ifn cq h
          refine r_iload_n C dX11_isWord_43 rfl hl 3 rfl ?_
          refine r_aload_n C dX11_isWord_44 rfl hl 1 rfl ?_
          refine r_callI (As := []) (rest := [.int (jI x3)]) C hM (c_len l E z hw1) jy_J0_length_8abf5 lk_X11_284 dX11_isWord_45 (recvK C hM hw1) rfl rfl hl.1 (Nat.le_of_ble_eq_true rfl) ⟨Nat.le_of_ble_eq_true rfl, Nat.le_of_ble_eq_true rfl⟩ ⟨rfl, rfl⟩ ⟨Nat.zero_le _, Nat.zero_le _⟩ (fun H locs hr45 hM3 => ?_)
          refine r_icmp_ge C 82 hx3 (lenST_R _) dX11_isWord_48 (by decide) (fun cq => ?_) (fun cq => ?_)
          · replace h := ifp cq h
            refine r_iload_n C dX11_isWord_82 rfl hl 2 rfl ?_
            replace h := ck_some h
            obtain ⟨hc4, h⟩ := h
            exact r_zreturn C hM3 hr hlk hc4 h rfl dX11_isWord_83
          · replace h := ifn cq h
            refine r_aload_n C dX11_isWord_51 rfl hl 0 rfl ?_
            refine r_getR C hM3 jc11 28 22 dX11_isWord_52 lk_X11_74 lr_0.1 lr_0.2 rfl rfl (by decide) rfl ?_
            refine r_aload_n C dX11_isWord_55 rfl hl 0 rfl ?_
            refine r_getI C hM3 jc11 31 rfl dX11_isWord_56 lk_X11_252 lr_0.1 lr_0.2 rfl rfl (by decide) rfl ?_
            refine r_iload_n C dX11_isWord_59 rfl hl 3 rfl ?_
            replace h := ck_some h
            obtain ⟨hc5, h⟩ := h
            refine r_iadd C dX11_isWord_60 ?_
            replace h := ck_some h
            obtain ⟨hc6, h⟩ := h
            refine r_iald C hM3 rfl dX11_isWord_61 lr_22.1 lr_22.2 hc6 hc5 ?_
            refine r_aload_n C dX11_isWord_62 rfl hl 1 rfl ?_
            refine r_iload_n C dX11_isWord_63 rfl hl 3 rfl ?_
            replace h := ck_some h
            obtain ⟨hc7, h⟩ := h
            refine r_callI (As := [.int (jI x3)]) (rest := [.int (jI (M 22 ((M 0 31) + x3).toNat))]) C hM3 (c_char l E z hw1 hx3 hc7) jy_J0_charAt_5068e lk_X11_288 dX11_isWord_64 (recvK C hM3 hw1) rfl rfl hl.1 (Nat.le_of_ble_eq_true rfl) ⟨Nat.le_of_ble_eq_true rfl, Nat.le_of_ble_eq_true rfl⟩ ⟨rfl, rfl⟩ ⟨Nat.zero_le _, Nat.zero_le _⟩ (fun H locs hr64 hM8 => ?_)
            refine r_icmp_ne C 74 (hM.ok _ _) (chST_R _ _) dX11_isWord_67 (by decide) (fun cq => ?_) (fun cq => ?_)
            · replace h := ifn cq h
              refine r_iconst C dX11_isWord_74 ?_
              refine r_istore_n C [(2, .int (jI 0)), (0, .ref (z + 0)), (1, .ref (eK E w1)), (3, .int (jI x3))] dX11_isWord_75 rfl hl (by decide) rfl (fun ls hl => ?_)
              replace h := ck_some h
              obtain ⟨hc9, h⟩ := h
              refine r_iinc (j := 3) (x := x3) C [(3, .int (jI (x3 + 1))), (2, .int (jI 0)), (0, .ref (z + 0)), (1, .ref (eK E w1))] dX11_isWord_76 hl rfl (by decide) rfl (fun ls hl => ?_)
              refine r_goto C 39 dX11_isWord_79 (by decide) ?_
              exact ih39 _ _ ⟨by decide, by decide⟩ hc9 _ _ _ h hM8 (lv_sub hl [2, 3, 1, 0] rfl)
            · replace h := ifp cq h
              refine r_iconst C dX11_isWord_70 ?_
              refine r_goto C 75 dX11_isWord_71 (by decide) ?_
              refine r_istore_n C [(2, .int (jI 1)), (0, .ref (z + 0)), (1, .ref (eK E w1)), (3, .int (jI x3))] dX11_isWord_75 rfl hl (by decide) rfl (fun ls hl => ?_)
              replace h := ck_some h
              obtain ⟨hc10, h⟩ := h
              refine r_iinc (j := 3) (x := x3) C [(3, .int (jI (x3 + 1))), (2, .int (jI 1)), (0, .ref (z + 0)), (1, .ref (eK E w1))] dX11_isWord_76 hl rfl (by decide) rfl (fun ls hl => ?_)
              refine r_goto C 39 dX11_isWord_79 (by decide) ?_
              exact ih39 _ _ ⟨by decide, by decide⟩ hc10 _ _ _ h hM8 (lv_sub hl [2, 3, 1, 0] rfl)
    exact hL39 jFuel _ _ ⟨by decide, by decide⟩ ⟨by decide, by decide⟩ _ _ _ h hM1 (lv_sub hl [2, 3, 1, 0] rfl)
  · replace h := ifn cq h
    refine r_aload_n C dX11_isWord_7 rfl hl 0 rfl ?_
    refine r_getI C hM1 jc11 32 rfl dX11_isWord_8 lk_X11_255 lr_0.1 lr_0.2 rfl rfl (by decide) rfl ?_
    refine r_iconst C dX11_isWord_11 ?_
    refine r_icmp_ne C 35 (hM0.ok _ _) ⟨by decide, by decide⟩ dX11_isWord_12 (by decide) (fun cq => ?_) (fun cq => ?_)
    · replace h := ifn cq h
      refine r_iconst C dX11_isWord_35 ?_
      refine r_istore_n C [(2, .int (jI 0)), (0, .ref (z + 0)), (1, .ref (eK E w1))] dX11_isWord_36 rfl hl (by decide) rfl (fun ls hl => ?_)
      refine r_iconst C dX11_isWord_37 ?_
      refine r_istore_n C [(3, .int (jI 0)), (2, .int (jI 0)), (0, .ref (z + 0)), (1, .ref (eK E w1))] dX11_isWord_38 rfl hl (by decide) rfl (fun ls hl => ?_)
      have hL39 : ∀ n39 : Nat, ∀ (x2 : Int) (x3 : Int), inR x2 → inR x3 → ∀ (H : Heap) (locs : List Loc) (ls : Array Slot), f_X11_isWord_L39 w1 M n39  x2 x3 = some r → HS E z LyR M sM H locs → lv_has ls 4 [(0, .ref (z + 0)), (1, .ref (eK E w1)), (2, .int (jI x2)), (3, .int (jI x3))] → W p l e ({ frames := 6, cells := 0, slots := 0, locals := 300 } : Room) sM m (([.ref (z + 0), .ref (eK E w1)] : List Value).toArray) below meth c H locs 0 0 (MQ below (va_Qi (fun (w : Int32) (_ : Unit) => w = jI r ∧ inR r ∧ Mok LyR M) (fun _ t => va_P (eD E) vwCl (Wd (eC E) z LyR M) t.heap) (eA E)) (([.ref (z + 0), .ref (eK E w1)] : List Value).toArray) sM 0 0 (eA E)) (F0 m 39 ls []) := by
        intro n39
        induction n39 with
        | zero =>
          intro x2 x3 hx2 hx3 H locs ls h hM hl
          exact absurd h (by simp [f_X11_isWord_L39])
        | succ n39 ih39 =>
          intro x2 x3 hx2 hx3 H locs ls h hM hl
          rw [f_X11_isWord_L39] at h
          refine r_iload_n C dX11_isWord_39 rfl hl 2 rfl ?_
          refine r_if_eq C 82 hx2 dX11_isWord_40 (by decide) (fun cq => ?_) (fun cq => ?_)
          · replace h := ifp cq h
            refine r_iload_n C dX11_isWord_82 rfl hl 2 rfl ?_
            replace h := ck_some h
            obtain ⟨hc11, h⟩ := h
            exact r_zreturn C hM hr hlk hc11 h rfl dX11_isWord_83
          · replace h := ifn cq h
            refine r_iload_n C dX11_isWord_43 rfl hl 3 rfl ?_
            refine r_aload_n C dX11_isWord_44 rfl hl 1 rfl ?_
            refine r_callI (As := []) (rest := [.int (jI x3)]) C hM (c_len l E z hw1) jy_J0_length_8abf5 lk_X11_284 dX11_isWord_45 (recvK C hM hw1) rfl rfl hl.1 (Nat.le_of_ble_eq_true rfl) ⟨Nat.le_of_ble_eq_true rfl, Nat.le_of_ble_eq_true rfl⟩ ⟨rfl, rfl⟩ ⟨Nat.zero_le _, Nat.zero_le _⟩ (fun H locs hr45 hM12 => ?_)
            refine r_icmp_ge C 82 hx3 (lenST_R _) dX11_isWord_48 (by decide) (fun cq => ?_) (fun cq => ?_)
            · replace h := ifp cq h
              refine r_iload_n C dX11_isWord_82 rfl hl 2 rfl ?_
              replace h := ck_some h
              obtain ⟨hc13, h⟩ := h
              exact r_zreturn C hM12 hr hlk hc13 h rfl dX11_isWord_83
            · replace h := ifn cq h
              refine r_aload_n C dX11_isWord_51 rfl hl 0 rfl ?_
              refine r_getR C hM12 jc11 28 22 dX11_isWord_52 lk_X11_74 lr_0.1 lr_0.2 rfl rfl (by decide) rfl ?_
              refine r_aload_n C dX11_isWord_55 rfl hl 0 rfl ?_
              refine r_getI C hM12 jc11 31 rfl dX11_isWord_56 lk_X11_252 lr_0.1 lr_0.2 rfl rfl (by decide) rfl ?_
              refine r_iload_n C dX11_isWord_59 rfl hl 3 rfl ?_
              replace h := ck_some h
              obtain ⟨hc14, h⟩ := h
              refine r_iadd C dX11_isWord_60 ?_
              replace h := ck_some h
              obtain ⟨hc15, h⟩ := h
              refine r_iald C hM12 rfl dX11_isWord_61 lr_22.1 lr_22.2 hc15 hc14 ?_
              refine r_aload_n C dX11_isWord_62 rfl hl 1 rfl ?_
              refine r_iload_n C dX11_isWord_63 rfl hl 3 rfl ?_
              replace h := ck_some h
              obtain ⟨hc16, h⟩ := h
              refine r_callI (As := [.int (jI x3)]) (rest := [.int (jI (M 22 ((M 0 31) + x3).toNat))]) C hM12 (c_char l E z hw1 hx3 hc16) jy_J0_charAt_5068e lk_X11_288 dX11_isWord_64 (recvK C hM12 hw1) rfl rfl hl.1 (Nat.le_of_ble_eq_true rfl) ⟨Nat.le_of_ble_eq_true rfl, Nat.le_of_ble_eq_true rfl⟩ ⟨rfl, rfl⟩ ⟨Nat.zero_le _, Nat.zero_le _⟩ (fun H locs hr64 hM17 => ?_)
              refine r_icmp_ne C 74 (hM.ok _ _) (chST_R _ _) dX11_isWord_67 (by decide) (fun cq => ?_) (fun cq => ?_)
              · replace h := ifn cq h
                refine r_iconst C dX11_isWord_74 ?_
                refine r_istore_n C [(2, .int (jI 0)), (0, .ref (z + 0)), (1, .ref (eK E w1)), (3, .int (jI x3))] dX11_isWord_75 rfl hl (by decide) rfl (fun ls hl => ?_)
                replace h := ck_some h
                obtain ⟨hc18, h⟩ := h
                refine r_iinc (j := 3) (x := x3) C [(3, .int (jI (x3 + 1))), (2, .int (jI 0)), (0, .ref (z + 0)), (1, .ref (eK E w1))] dX11_isWord_76 hl rfl (by decide) rfl (fun ls hl => ?_)
                refine r_goto C 39 dX11_isWord_79 (by decide) ?_
                exact ih39 _ _ ⟨by decide, by decide⟩ hc18 _ _ _ h hM17 (lv_sub hl [2, 3, 1, 0] rfl)
              · replace h := ifp cq h
                refine r_iconst C dX11_isWord_70 ?_
                refine r_goto C 75 dX11_isWord_71 (by decide) ?_
                refine r_istore_n C [(2, .int (jI 1)), (0, .ref (z + 0)), (1, .ref (eK E w1)), (3, .int (jI x3))] dX11_isWord_75 rfl hl (by decide) rfl (fun ls hl => ?_)
                replace h := ck_some h
                obtain ⟨hc19, h⟩ := h
                refine r_iinc (j := 3) (x := x3) C [(3, .int (jI (x3 + 1))), (2, .int (jI 1)), (0, .ref (z + 0)), (1, .ref (eK E w1))] dX11_isWord_76 hl rfl (by decide) rfl (fun ls hl => ?_)
                refine r_goto C 39 dX11_isWord_79 (by decide) ?_
                exact ih39 _ _ ⟨by decide, by decide⟩ hc19 _ _ _ h hM17 (lv_sub hl [2, 3, 1, 0] rfl)
      exact hL39 jFuel _ _ ⟨by decide, by decide⟩ ⟨by decide, by decide⟩ _ _ _ h hM1 (lv_sub hl [2, 3, 1, 0] rfl)
    · replace h := ifp cq h
      refine r_aload_n C dX11_isWord_15 rfl hl 0 rfl ?_
      refine r_getI C hM1 jc11 30 rfl dX11_isWord_16 lk_X11_249 lr_0.1 lr_0.2 rfl rfl (by decide) rfl ?_
      refine r_aload_n C dX11_isWord_19 rfl hl 0 rfl ?_
      refine r_getI C hM1 jc11 31 rfl dX11_isWord_20 lk_X11_252 lr_0.1 lr_0.2 rfl rfl (by decide) rfl ?_
      replace h := ck_some h
      obtain ⟨hc20, h⟩ := h
      refine r_isub C dX11_isWord_23 ?_
      refine r_aload_n C dX11_isWord_24 rfl hl 1 rfl ?_
      refine r_callI (As := []) (rest := [.int (jI ((M 0 30) - (M 0 31)))]) C hM1 (c_len l E z hw1) jy_J0_length_8abf5 lk_X11_284 dX11_isWord_25 (recvK C hM1 hw1) rfl rfl hl.1 (Nat.le_of_ble_eq_true rfl) ⟨Nat.le_of_ble_eq_true rfl, Nat.le_of_ble_eq_true rfl⟩ ⟨rfl, rfl⟩ ⟨Nat.zero_le _, Nat.zero_le _⟩ (fun H locs hr25 hM21 => ?_)
      refine r_icmp_ne C 35 hc20 (lenST_R _) dX11_isWord_28 (by decide) (fun cq => ?_) (fun cq => ?_)
      · replace h := ifn cq h
        refine r_iconst C dX11_isWord_35 ?_
        refine r_istore_n C [(2, .int (jI 0)), (0, .ref (z + 0)), (1, .ref (eK E w1))] dX11_isWord_36 rfl hl (by decide) rfl (fun ls hl => ?_)
        refine r_iconst C dX11_isWord_37 ?_
        refine r_istore_n C [(3, .int (jI 0)), (2, .int (jI 0)), (0, .ref (z + 0)), (1, .ref (eK E w1))] dX11_isWord_38 rfl hl (by decide) rfl (fun ls hl => ?_)
        have hL39 : ∀ n39 : Nat, ∀ (x2 : Int) (x3 : Int), inR x2 → inR x3 → ∀ (H : Heap) (locs : List Loc) (ls : Array Slot), f_X11_isWord_L39 w1 M n39  x2 x3 = some r → HS E z LyR M sM H locs → lv_has ls 4 [(0, .ref (z + 0)), (1, .ref (eK E w1)), (2, .int (jI x2)), (3, .int (jI x3))] → W p l e ({ frames := 6, cells := 0, slots := 0, locals := 300 } : Room) sM m (([.ref (z + 0), .ref (eK E w1)] : List Value).toArray) below meth c H locs 0 0 (MQ below (va_Qi (fun (w : Int32) (_ : Unit) => w = jI r ∧ inR r ∧ Mok LyR M) (fun _ t => va_P (eD E) vwCl (Wd (eC E) z LyR M) t.heap) (eA E)) (([.ref (z + 0), .ref (eK E w1)] : List Value).toArray) sM 0 0 (eA E)) (F0 m 39 ls []) := by
          intro n39
          induction n39 with
          | zero =>
            intro x2 x3 hx2 hx3 H locs ls h hM hl
            exact absurd h (by simp [f_X11_isWord_L39])
          | succ n39 ih39 =>
            intro x2 x3 hx2 hx3 H locs ls h hM hl
            rw [f_X11_isWord_L39] at h
            refine r_iload_n C dX11_isWord_39 rfl hl 2 rfl ?_
            refine r_if_eq C 82 hx2 dX11_isWord_40 (by decide) (fun cq => ?_) (fun cq => ?_)
            · replace h := ifp cq h
              refine r_iload_n C dX11_isWord_82 rfl hl 2 rfl ?_
              replace h := ck_some h
              obtain ⟨hc22, h⟩ := h
              exact r_zreturn C hM hr hlk hc22 h rfl dX11_isWord_83
            · replace h := ifn cq h
              refine r_iload_n C dX11_isWord_43 rfl hl 3 rfl ?_
              refine r_aload_n C dX11_isWord_44 rfl hl 1 rfl ?_
              refine r_callI (As := []) (rest := [.int (jI x3)]) C hM (c_len l E z hw1) jy_J0_length_8abf5 lk_X11_284 dX11_isWord_45 (recvK C hM hw1) rfl rfl hl.1 (Nat.le_of_ble_eq_true rfl) ⟨Nat.le_of_ble_eq_true rfl, Nat.le_of_ble_eq_true rfl⟩ ⟨rfl, rfl⟩ ⟨Nat.zero_le _, Nat.zero_le _⟩ (fun H locs hr45 hM23 => ?_)
              refine r_icmp_ge C 82 hx3 (lenST_R _) dX11_isWord_48 (by decide) (fun cq => ?_) (fun cq => ?_)
              · replace h := ifp cq h
                refine r_iload_n C dX11_isWord_82 rfl hl 2 rfl ?_
                replace h := ck_some h
                obtain ⟨hc24, h⟩ := h
                exact r_zreturn C hM23 hr hlk hc24 h rfl dX11_isWord_83
              · replace h := ifn cq h
                refine r_aload_n C dX11_isWord_51 rfl hl 0 rfl ?_
                refine r_getR C hM23 jc11 28 22 dX11_isWord_52 lk_X11_74 lr_0.1 lr_0.2 rfl rfl (by decide) rfl ?_
                refine r_aload_n C dX11_isWord_55 rfl hl 0 rfl ?_
                refine r_getI C hM23 jc11 31 rfl dX11_isWord_56 lk_X11_252 lr_0.1 lr_0.2 rfl rfl (by decide) rfl ?_
                refine r_iload_n C dX11_isWord_59 rfl hl 3 rfl ?_
                replace h := ck_some h
                obtain ⟨hc25, h⟩ := h
                refine r_iadd C dX11_isWord_60 ?_
                replace h := ck_some h
                obtain ⟨hc26, h⟩ := h
                refine r_iald C hM23 rfl dX11_isWord_61 lr_22.1 lr_22.2 hc26 hc25 ?_
                refine r_aload_n C dX11_isWord_62 rfl hl 1 rfl ?_
                refine r_iload_n C dX11_isWord_63 rfl hl 3 rfl ?_
                replace h := ck_some h
                obtain ⟨hc27, h⟩ := h
                refine r_callI (As := [.int (jI x3)]) (rest := [.int (jI (M 22 ((M 0 31) + x3).toNat))]) C hM23 (c_char l E z hw1 hx3 hc27) jy_J0_charAt_5068e lk_X11_288 dX11_isWord_64 (recvK C hM23 hw1) rfl rfl hl.1 (Nat.le_of_ble_eq_true rfl) ⟨Nat.le_of_ble_eq_true rfl, Nat.le_of_ble_eq_true rfl⟩ ⟨rfl, rfl⟩ ⟨Nat.zero_le _, Nat.zero_le _⟩ (fun H locs hr64 hM28 => ?_)
                refine r_icmp_ne C 74 (hM.ok _ _) (chST_R _ _) dX11_isWord_67 (by decide) (fun cq => ?_) (fun cq => ?_)
                · replace h := ifn cq h
                  refine r_iconst C dX11_isWord_74 ?_
                  refine r_istore_n C [(2, .int (jI 0)), (0, .ref (z + 0)), (1, .ref (eK E w1)), (3, .int (jI x3))] dX11_isWord_75 rfl hl (by decide) rfl (fun ls hl => ?_)
                  replace h := ck_some h
                  obtain ⟨hc29, h⟩ := h
                  refine r_iinc (j := 3) (x := x3) C [(3, .int (jI (x3 + 1))), (2, .int (jI 0)), (0, .ref (z + 0)), (1, .ref (eK E w1))] dX11_isWord_76 hl rfl (by decide) rfl (fun ls hl => ?_)
                  refine r_goto C 39 dX11_isWord_79 (by decide) ?_
                  exact ih39 _ _ ⟨by decide, by decide⟩ hc29 _ _ _ h hM28 (lv_sub hl [2, 3, 1, 0] rfl)
                · replace h := ifp cq h
                  refine r_iconst C dX11_isWord_70 ?_
                  refine r_goto C 75 dX11_isWord_71 (by decide) ?_
                  refine r_istore_n C [(2, .int (jI 1)), (0, .ref (z + 0)), (1, .ref (eK E w1)), (3, .int (jI x3))] dX11_isWord_75 rfl hl (by decide) rfl (fun ls hl => ?_)
                  replace h := ck_some h
                  obtain ⟨hc30, h⟩ := h
                  refine r_iinc (j := 3) (x := x3) C [(3, .int (jI (x3 + 1))), (2, .int (jI 1)), (0, .ref (z + 0)), (1, .ref (eK E w1))] dX11_isWord_76 hl rfl (by decide) rfl (fun ls hl => ?_)
                  refine r_goto C 39 dX11_isWord_79 (by decide) ?_
                  exact ih39 _ _ ⟨by decide, by decide⟩ hc30 _ _ _ h hM28 (lv_sub hl [2, 3, 1, 0] rfl)
        exact hL39 jFuel _ _ ⟨by decide, by decide⟩ ⟨by decide, by decide⟩ _ _ _ h hM21 (lv_sub hl [2, 3, 1, 0] rfl)
      · replace h := ifp cq h
        refine r_iconst C dX11_isWord_31 ?_
        refine r_goto C 36 dX11_isWord_32 (by decide) ?_
        refine r_istore_n C [(2, .int (jI 1)), (0, .ref (z + 0)), (1, .ref (eK E w1))] dX11_isWord_36 rfl hl (by decide) rfl (fun ls hl => ?_)
        refine r_iconst C dX11_isWord_37 ?_
        refine r_istore_n C [(3, .int (jI 0)), (2, .int (jI 1)), (0, .ref (z + 0)), (1, .ref (eK E w1))] dX11_isWord_38 rfl hl (by decide) rfl (fun ls hl => ?_)
        have hL39 : ∀ n39 : Nat, ∀ (x2 : Int) (x3 : Int), inR x2 → inR x3 → ∀ (H : Heap) (locs : List Loc) (ls : Array Slot), f_X11_isWord_L39 w1 M n39  x2 x3 = some r → HS E z LyR M sM H locs → lv_has ls 4 [(0, .ref (z + 0)), (1, .ref (eK E w1)), (2, .int (jI x2)), (3, .int (jI x3))] → W p l e ({ frames := 6, cells := 0, slots := 0, locals := 300 } : Room) sM m (([.ref (z + 0), .ref (eK E w1)] : List Value).toArray) below meth c H locs 0 0 (MQ below (va_Qi (fun (w : Int32) (_ : Unit) => w = jI r ∧ inR r ∧ Mok LyR M) (fun _ t => va_P (eD E) vwCl (Wd (eC E) z LyR M) t.heap) (eA E)) (([.ref (z + 0), .ref (eK E w1)] : List Value).toArray) sM 0 0 (eA E)) (F0 m 39 ls []) := by
          intro n39
          induction n39 with
          | zero =>
            intro x2 x3 hx2 hx3 H locs ls h hM hl
            exact absurd h (by simp [f_X11_isWord_L39])
          | succ n39 ih39 =>
            intro x2 x3 hx2 hx3 H locs ls h hM hl
            rw [f_X11_isWord_L39] at h
            refine r_iload_n C dX11_isWord_39 rfl hl 2 rfl ?_
            refine r_if_eq C 82 hx2 dX11_isWord_40 (by decide) (fun cq => ?_) (fun cq => ?_)
            · replace h := ifp cq h
              refine r_iload_n C dX11_isWord_82 rfl hl 2 rfl ?_
              replace h := ck_some h
              obtain ⟨hc31, h⟩ := h
              exact r_zreturn C hM hr hlk hc31 h rfl dX11_isWord_83
            · replace h := ifn cq h
              refine r_iload_n C dX11_isWord_43 rfl hl 3 rfl ?_
              refine r_aload_n C dX11_isWord_44 rfl hl 1 rfl ?_
              refine r_callI (As := []) (rest := [.int (jI x3)]) C hM (c_len l E z hw1) jy_J0_length_8abf5 lk_X11_284 dX11_isWord_45 (recvK C hM hw1) rfl rfl hl.1 (Nat.le_of_ble_eq_true rfl) ⟨Nat.le_of_ble_eq_true rfl, Nat.le_of_ble_eq_true rfl⟩ ⟨rfl, rfl⟩ ⟨Nat.zero_le _, Nat.zero_le _⟩ (fun H locs hr45 hM32 => ?_)
              refine r_icmp_ge C 82 hx3 (lenST_R _) dX11_isWord_48 (by decide) (fun cq => ?_) (fun cq => ?_)
              · replace h := ifp cq h
                refine r_iload_n C dX11_isWord_82 rfl hl 2 rfl ?_
                replace h := ck_some h
                obtain ⟨hc33, h⟩ := h
                exact r_zreturn C hM32 hr hlk hc33 h rfl dX11_isWord_83
              · replace h := ifn cq h
                refine r_aload_n C dX11_isWord_51 rfl hl 0 rfl ?_
                refine r_getR C hM32 jc11 28 22 dX11_isWord_52 lk_X11_74 lr_0.1 lr_0.2 rfl rfl (by decide) rfl ?_
                refine r_aload_n C dX11_isWord_55 rfl hl 0 rfl ?_
                refine r_getI C hM32 jc11 31 rfl dX11_isWord_56 lk_X11_252 lr_0.1 lr_0.2 rfl rfl (by decide) rfl ?_
                refine r_iload_n C dX11_isWord_59 rfl hl 3 rfl ?_
                replace h := ck_some h
                obtain ⟨hc34, h⟩ := h
                refine r_iadd C dX11_isWord_60 ?_
                replace h := ck_some h
                obtain ⟨hc35, h⟩ := h
                refine r_iald C hM32 rfl dX11_isWord_61 lr_22.1 lr_22.2 hc35 hc34 ?_
                refine r_aload_n C dX11_isWord_62 rfl hl 1 rfl ?_
                refine r_iload_n C dX11_isWord_63 rfl hl 3 rfl ?_
                replace h := ck_some h
                obtain ⟨hc36, h⟩ := h
                refine r_callI (As := [.int (jI x3)]) (rest := [.int (jI (M 22 ((M 0 31) + x3).toNat))]) C hM32 (c_char l E z hw1 hx3 hc36) jy_J0_charAt_5068e lk_X11_288 dX11_isWord_64 (recvK C hM32 hw1) rfl rfl hl.1 (Nat.le_of_ble_eq_true rfl) ⟨Nat.le_of_ble_eq_true rfl, Nat.le_of_ble_eq_true rfl⟩ ⟨rfl, rfl⟩ ⟨Nat.zero_le _, Nat.zero_le _⟩ (fun H locs hr64 hM37 => ?_)
                refine r_icmp_ne C 74 (hM.ok _ _) (chST_R _ _) dX11_isWord_67 (by decide) (fun cq => ?_) (fun cq => ?_)
                · replace h := ifn cq h
                  refine r_iconst C dX11_isWord_74 ?_
                  refine r_istore_n C [(2, .int (jI 0)), (0, .ref (z + 0)), (1, .ref (eK E w1)), (3, .int (jI x3))] dX11_isWord_75 rfl hl (by decide) rfl (fun ls hl => ?_)
                  replace h := ck_some h
                  obtain ⟨hc38, h⟩ := h
                  refine r_iinc (j := 3) (x := x3) C [(3, .int (jI (x3 + 1))), (2, .int (jI 0)), (0, .ref (z + 0)), (1, .ref (eK E w1))] dX11_isWord_76 hl rfl (by decide) rfl (fun ls hl => ?_)
                  refine r_goto C 39 dX11_isWord_79 (by decide) ?_
                  exact ih39 _ _ ⟨by decide, by decide⟩ hc38 _ _ _ h hM37 (lv_sub hl [2, 3, 1, 0] rfl)
                · replace h := ifp cq h
                  refine r_iconst C dX11_isWord_70 ?_
                  refine r_goto C 75 dX11_isWord_71 (by decide) ?_
                  refine r_istore_n C [(2, .int (jI 1)), (0, .ref (z + 0)), (1, .ref (eK E w1)), (3, .int (jI x3))] dX11_isWord_75 rfl hl (by decide) rfl (fun ls hl => ?_)
                  replace h := ck_some h
                  obtain ⟨hc39, h⟩ := h
                  refine r_iinc (j := 3) (x := x3) C [(3, .int (jI (x3 + 1))), (2, .int (jI 1)), (0, .ref (z + 0)), (1, .ref (eK E w1))] dX11_isWord_76 hl rfl (by decide) rfl (fun ls hl => ?_)
                  refine r_goto C 39 dX11_isWord_79 (by decide) ?_
                  exact ih39 _ _ ⟨by decide, by decide⟩ hc39 _ _ _ h hM37 (lv_sub hl [2, 3, 1, 0] rfl)
        exact hL39 jFuel _ _ ⟨by decide, by decide⟩ ⟨by decide, by decide⟩ _ _ _ h hM21 (lv_sub hl [2, 3, 1, 0] rfl)
set_option maxRecDepth 100000 in
set_option maxHeartbeats 4000000 in
theorem c_X11_isSign (l : Launch) (E : jE) (z : Nat) {x1 : Int} {M : Mem} {r : Int} (hx1 : inR x1) (h : f_X11_isSign x1 M = some r) : CtI l yX11_isSign cX11_isSign 2 (some .boolean) { frames := 1, cells := 0, slots := 0, locals := 20 } E z LyR [.ref (z + 0), .int (jI x1)] M r M := by
  refine jm (by decide +kernel) (Nat.le_of_ble_eq_true rfl) ?_
  intro p e sM m below meth c C hM0 hr hlk ls hl
  replace hl : lv_has ls 2 [(0, .ref (z + 0)), (1, .int (jI x1))] := hl
  unfold f_X11_isSign at h
  refine r_aload_n C dX11_isSign_0 rfl hl 0 rfl ?_
  replace h := bd_some h
  obtain ⟨r1, hf1, h⟩ := h
  refine r_callI (As := []) (rest := []) C hM0 (c_X11_isGood l E z hf1) jy_X11_isGood lk_X11_277 dX11_isSign_1 (recvW C hM0 jc11 lr_0.1 lr_0.2 rfl) rfl rfl hl.1 (Nat.le_of_ble_eq_true rfl) ⟨Nat.le_of_ble_eq_true rfl, Nat.le_of_ble_eq_true rfl⟩ ⟨rfl, rfl⟩ ⟨Nat.zero_le _, Nat.zero_le _⟩ (fun H locs hr1 hM1 => ?_)
  refine r_if_eq C 32 hr1 dX11_isSign_4 (by decide) (fun cq => ?_) (fun cq => ?_)
  · replace h := ifp cq h
    refine r_iconst C dX11_isSign_32 ?_
    exact r_zreturn C hM1 hr hlk (Or.inl rfl) h rfl dX11_isSign_33
  · replace h := ifn cq h
    refine r_aload_n C dX11_isSign_7 rfl hl 0 rfl ?_
    refine r_getI C hM1 jc11 32 rfl dX11_isSign_8 lk_X11_255 lr_0.1 lr_0.2 rfl rfl (by decide) rfl ?_
    refine r_iconst C dX11_isSign_11 ?_
    refine r_icmp_ne C 32 (hM0.ok _ _) ⟨by decide, by decide⟩ dX11_isSign_12 (by decide) (fun cq => ?_) (fun cq => ?_)
    · replace h := ifn cq h
      refine r_iconst C dX11_isSign_32 ?_
      exact r_zreturn C hM1 hr hlk (Or.inl rfl) h rfl dX11_isSign_33
    · replace h := ifp cq h
      refine r_aload_n C dX11_isSign_15 rfl hl 0 rfl ?_
      refine r_getR C hM1 jc11 28 22 dX11_isSign_16 lk_X11_74 lr_0.1 lr_0.2 rfl rfl (by decide) rfl ?_
      refine r_aload_n C dX11_isSign_19 rfl hl 0 rfl ?_
      refine r_getI C hM1 jc11 31 rfl dX11_isSign_20 lk_X11_252 lr_0.1 lr_0.2 rfl rfl (by decide) rfl ?_
      replace h := ck_some h
      obtain ⟨hc2, h⟩ := h
      refine r_iald C hM1 rfl dX11_isSign_23 lr_22.1 lr_22.2 hc2 (hM0.ok _ _) ?_
      refine r_iload_n C dX11_isSign_24 rfl hl 1 rfl ?_
      refine r_icmp_ne C 32 (hM0.ok _ _) hx1 dX11_isSign_25 (by decide) (fun cq => ?_) (fun cq => ?_)
      · replace h := ifn cq h
        refine r_iconst C dX11_isSign_32 ?_
        exact r_zreturn C hM1 hr hlk (Or.inl rfl) h rfl dX11_isSign_33
      · replace h := ifp cq h
        refine r_iconst C dX11_isSign_28 ?_
        refine r_goto C 33 dX11_isSign_29 (by decide) ?_
        exact r_zreturn C hM1 hr hlk (Or.inr rfl) h rfl dX11_isSign_33
set_option maxRecDepth 100000 in
set_option maxHeartbeats 4000000 in
theorem c_X11_needsSign (l : Launch) (E : jE) (z : Nat) {x1 : Int} {M M' : Mem} (hx1 : inR x1) (h : f_X11_needsSign x1 M = some M') : CtV l yX11_needsSign cX11_needsSign 2 none { frames := 4, cells := 0, slots := 0, locals := 83 } E z LyR [.ref (z + 0), .int (jI x1)] M M' := by
  refine jm (by decide +kernel) (Nat.le_of_ble_eq_true rfl) ?_
  intro p e sM m below meth c C hM0 hr hlk ls hl
  replace hl : lv_has ls 2 [(0, .ref (z + 0)), (1, .int (jI x1))] := hl
  unfold f_X11_needsSign at h
  refine r_aload_n C dX11_needsSign_0 rfl hl 0 rfl ?_
  refine r_iload_n C dX11_needsSign_1 rfl hl 1 rfl ?_
  replace h := bd_some h
  obtain ⟨r2, hf2, h⟩ := h
  refine r_callI (As := [.int (jI x1)]) (rest := []) C hM0 (c_X11_isSign l E z hx1 hf2) jy_X11_isSign lk_X11_292 dX11_needsSign_2 (recvW C hM0 jc11 lr_0.1 lr_0.2 rfl) rfl rfl hl.1 (Nat.le_of_ble_eq_true rfl) ⟨Nat.le_of_ble_eq_true rfl, Nat.le_of_ble_eq_true rfl⟩ ⟨rfl, rfl⟩ ⟨Nat.zero_le _, Nat.zero_le _⟩ (fun H locs hr2 hM1 => ?_)
  refine r_if_ne C 13 hr2 dX11_needsSign_5 (by decide) (fun cq => ?_) (fun cq => ?_)
  · replace h := ifn cq h
    refine r_aload_n C dX11_needsSign_13 rfl hl 0 rfl ?_
    replace h := bd_some h
    obtain ⟨M14, hf14, h⟩ := h
    refine r_callV (As := []) (rest := []) C hM1 (c_X11_goesOn l E z hf14) jy_X11_goesOn lk_X11_298 dX11_needsSign_14 (recvW C hM1 jc11 lr_0.1 lr_0.2 rfl) rfl rfl hl.1 (Nat.le_of_ble_eq_true rfl) ⟨Nat.le_of_ble_eq_true rfl, Nat.le_of_ble_eq_true rfl⟩ ⟨rfl, rfl⟩ ⟨Nat.zero_le _, Nat.zero_le _⟩ (fun H locs hM2 => ?_)
    exact r_return C hM2 hr hlk h dX11_needsSign_17
  · replace h := ifp cq h
    refine r_aload_n C dX11_needsSign_8 rfl hl 0 rfl ?_
    refine r_iconst C dX11_needsSign_9 ?_
    replace h := bd_some h
    obtain ⟨M10, hf10, h⟩ := h
    refine r_callV (As := [.int (jI 1)]) (rest := []) C hM1 (c_X11_fails l E z ⟨by decide, by decide⟩ hf10) jy_X11_fails lk_X11_295 dX11_needsSign_10 (recvW C hM1 jc11 lr_0.1 lr_0.2 rfl) rfl rfl hl.1 (Nat.le_of_ble_eq_true rfl) ⟨Nat.le_of_ble_eq_true rfl, Nat.le_of_ble_eq_true rfl⟩ ⟨rfl, rfl⟩ ⟨Nat.zero_le _, Nat.zero_le _⟩ (fun H locs hM3 => ?_)
    refine r_aload_n C dX11_needsSign_13 rfl hl 0 rfl ?_
    replace h := bd_some h
    obtain ⟨M14, hf14, h⟩ := h
    refine r_callV (As := []) (rest := []) C hM3 (c_X11_goesOn l E z hf14) jy_X11_goesOn lk_X11_298 dX11_needsSign_14 (recvW C hM3 jc11 lr_0.1 lr_0.2 rfl) rfl rfl hl.1 (Nat.le_of_ble_eq_true rfl) ⟨Nat.le_of_ble_eq_true rfl, Nat.le_of_ble_eq_true rfl⟩ ⟨rfl, rfl⟩ ⟨Nat.zero_le _, Nat.zero_le _⟩ (fun H locs hM4 => ?_)
    exact r_return C hM4 hr hlk h dX11_needsSign_17
set_option maxRecDepth 100000 in
set_option maxHeartbeats 4000000 in
theorem c_X11_needs (l : Launch) (E : jE) (z : Nat) {w1 : Nat} {M M' : Mem} (hw1 : w1 < nST) (h : f_X11_needs w1 M = some M') : CtV l yX11_needs cX11_needs 2 none { frames := 7, cells := 0, slots := 0, locals := 323 } E z LyR [.ref (z + 0), .ref (eK E w1)] M M' := by
  refine jm (by decide +kernel) (Nat.le_of_ble_eq_true rfl) ?_
  intro p e sM m below meth c C hM0 hr hlk ls hl
  replace hl : lv_has ls 2 [(0, .ref (z + 0)), (1, .ref (eK E w1))] := hl
  unfold f_X11_needs at h
  refine r_aload_n C dX11_needs_0 rfl hl 0 rfl ?_
  refine r_aload_n C dX11_needs_1 rfl hl 1 rfl ?_
  replace h := bd_some h
  obtain ⟨r2, hf2, h⟩ := h
  refine r_callI (As := [.ref (eK E w1)]) (rest := []) C hM0 (c_X11_isWord l E z hw1 hf2) jy_X11_isWord lk_X11_301 dX11_needs_2 (recvW C hM0 jc11 lr_0.1 lr_0.2 rfl) rfl rfl hl.1 (Nat.le_of_ble_eq_true rfl) ⟨Nat.le_of_ble_eq_true rfl, Nat.le_of_ble_eq_true rfl⟩ ⟨rfl, rfl⟩ ⟨Nat.zero_le _, Nat.zero_le _⟩ (fun H locs hr2 hM1 => ?_)
  refine r_if_ne C 13 hr2 dX11_needs_5 (by decide) (fun cq => ?_) (fun cq => ?_)
  · replace h := ifn cq h
    refine r_aload_n C dX11_needs_13 rfl hl 0 rfl ?_
    replace h := bd_some h
    obtain ⟨M14, hf14, h⟩ := h
    refine r_callV (As := []) (rest := []) C hM1 (c_X11_goesOn l E z hf14) jy_X11_goesOn lk_X11_298 dX11_needs_14 (recvW C hM1 jc11 lr_0.1 lr_0.2 rfl) rfl rfl hl.1 (Nat.le_of_ble_eq_true rfl) ⟨Nat.le_of_ble_eq_true rfl, Nat.le_of_ble_eq_true rfl⟩ ⟨rfl, rfl⟩ ⟨Nat.zero_le _, Nat.zero_le _⟩ (fun H locs hM2 => ?_)
    exact r_return C hM2 hr hlk h dX11_needs_17
  · replace h := ifp cq h
    refine r_aload_n C dX11_needs_8 rfl hl 0 rfl ?_
    refine r_iconst C dX11_needs_9 ?_
    replace h := bd_some h
    obtain ⟨M10, hf10, h⟩ := h
    refine r_callV (As := [.int (jI 1)]) (rest := []) C hM1 (c_X11_fails l E z ⟨by decide, by decide⟩ hf10) jy_X11_fails lk_X11_295 dX11_needs_10 (recvW C hM1 jc11 lr_0.1 lr_0.2 rfl) rfl rfl hl.1 (Nat.le_of_ble_eq_true rfl) ⟨Nat.le_of_ble_eq_true rfl, Nat.le_of_ble_eq_true rfl⟩ ⟨rfl, rfl⟩ ⟨Nat.zero_le _, Nat.zero_le _⟩ (fun H locs hM3 => ?_)
    refine r_aload_n C dX11_needs_13 rfl hl 0 rfl ?_
    replace h := bd_some h
    obtain ⟨M14, hf14, h⟩ := h
    refine r_callV (As := []) (rest := []) C hM3 (c_X11_goesOn l E z hf14) jy_X11_goesOn lk_X11_298 dX11_needs_14 (recvW C hM3 jc11 lr_0.1 lr_0.2 rfl) rfl rfl hl.1 (Nat.le_of_ble_eq_true rfl) ⟨Nat.le_of_ble_eq_true rfl, Nat.le_of_ble_eq_true rfl⟩ ⟨rfl, rfl⟩ ⟨Nat.zero_le _, Nat.zero_le _⟩ (fun H locs hM4 => ?_)
    exact r_return C hM4 hr hlk h dX11_needs_17
set_option maxRecDepth 100000 in
set_option maxHeartbeats 4000000 in
theorem c_X11_reads (l : Launch) (E : jE) (z : Nat) {x1 : Int} {x2 : Int} {M M' : Mem} {r : Int} (hx1 : inR x1) (hx2 : inR x2) (h : f_X11_reads x1 x2 M = some (r, M')) : CtI l yX11_reads cX11_reads 4 (some .int) { frames := 4, cells := 0, slots := 0, locals := 83 } E z LyR [.ref (z + 0), .int (jI x1), .int (jI x2)] M r M' := by
  refine jm (by decide +kernel) (Nat.le_of_ble_eq_true rfl) ?_
  intro p e sM m below meth c C hM0 hr hlk ls hl
  replace hl : lv_has ls 4 [(0, .ref (z + 0)), (1, .int (jI x1)), (2, .int (jI x2))] := hl
  unfold f_X11_reads at h
  refine r_aload_n C dX11_reads_0 rfl hl 0 rfl ?_
  refine r_getI C hM0 jc11 32 rfl dX11_reads_1 lk_X11_255 lr_0.1 lr_0.2 rfl rfl (by decide) rfl ?_
  refine r_iconst C dX11_reads_4 ?_
  replace h := jn_some h
  obtain ⟨k13, hk13, h⟩ := h
  have hJ13 : ∀ (M13 : Mem), ∀ (H : Heap) (locs : List Loc) (ls : Array Slot), k13 M13 = some (r, M') → HS E z LyR M13 sM H locs → lv_has ls 4 [(0, .ref (z + 0)), (1, .int (jI x1)), (2, .int (jI x2))] → W p l e ({ frames := 4, cells := 0, slots := 0, locals := 83 } : Room) sM m (([.ref (z + 0), .int (jI x1), .int (jI x2)] : List Value).toArray) below meth c H locs 0 0 (MQ below (va_Qi (fun (w : Int32) (_ : Unit) => w = jI r ∧ inR r ∧ Mok LyR M') (fun _ t => va_P (eD E) vwCl (Wd (eC E) z LyR M') t.heap) (eA E)) (([.ref (z + 0), .int (jI x1), .int (jI x2)] : List Value).toArray) sM 0 0 (eA E)) (F0 m 13 ls []) := by
    intro M13 H locs ls h hMj13 hl
    subst hk13
    try dsimp only at h
    refine r_aload_n C dX11_reads_13 rfl hl 0 rfl ?_
    refine r_getI C hMj13 jc11 33 rfl dX11_reads_14 lk_X11_264 lr_0.1 lr_0.2 rfl rfl (by decide) rfl ?_
    refine r_iload_n C dX11_reads_17 rfl hl 1 rfl ?_
    refine r_iload_n C dX11_reads_18 rfl hl 2 rfl ?_
    replace h := bd_some h
    obtain ⟨r19, hf19, h⟩ := h
    refine r_callSI (As := [.int (jI (M13 0 33)), .int (jI x1), .int (jI x2)]) (rest := []) C hMj13 (c_X11_isIn l E z (hMj13.ok _ _) hx1 hx2 hf19) jy_X11_isIn lk_X11_112 dX11_reads_19 rfl rfl hl.1 (Nat.le_of_ble_eq_true rfl) ⟨Nat.le_of_ble_eq_true rfl, Nat.le_of_ble_eq_true rfl⟩ ⟨rfl, rfl⟩ ⟨Nat.zero_le _, Nat.zero_le _⟩ (fun H locs hr19 hM1 => ?_)
    replace h := jn_some h
    obtain ⟨k30, hk30, h⟩ := h
    have hJ30 : ∀ (M30 : Mem), ∀ (H : Heap) (locs : List Loc) (ls : Array Slot), k30 M30 = some (r, M') → HS E z LyR M30 sM H locs → lv_has ls 4 [(0, .ref (z + 0)), (1, .int (jI x1))] → W p l e ({ frames := 4, cells := 0, slots := 0, locals := 83 } : Room) sM m (([.ref (z + 0), .int (jI x1), .int (jI x2)] : List Value).toArray) below meth c H locs 0 0 (MQ below (va_Qi (fun (w : Int32) (_ : Unit) => w = jI r ∧ inR r ∧ Mok LyR M') (fun _ t => va_P (eD E) vwCl (Wd (eC E) z LyR M') t.heap) (eA E)) (([.ref (z + 0), .int (jI x1), .int (jI x2)] : List Value).toArray) sM 0 0 (eA E)) (F0 m 30 ls []) := by
      intro M30 H locs ls h hMj30 hl
      subst hk30
      try dsimp only at h
      refine r_aload_n C dX11_reads_30 rfl hl 0 rfl ?_
      refine r_getI C hMj30 jc11 33 rfl dX11_reads_31 lk_X11_264 lr_0.1 lr_0.2 rfl rfl (by decide) rfl ?_
      refine r_istore_n C [(3, .int (jI (M30 0 33))), (0, .ref (z + 0)), (1, .int (jI x1))] dX11_reads_34 rfl hl (by decide) rfl (fun ls hl => ?_)
      refine r_aload_n C dX11_reads_35 rfl hl 1 rfl ?_
      replace h := bd_some h
      obtain ⟨M36, hf36, h⟩ := h
      refine r_callV (As := []) (rest := []) C hMj30 (c_X11_goesOn l E z hf36) jy_X11_goesOn lk_X11_298 dX11_reads_36 (recvW C hMj30 jc11 lr_0.1 lr_0.2 rfl) rfl rfl hl.1 (Nat.le_of_ble_eq_true rfl) ⟨Nat.le_of_ble_eq_true rfl, Nat.le_of_ble_eq_true rfl⟩ ⟨rfl, rfl⟩ ⟨Nat.zero_le _, Nat.zero_le _⟩ (fun H locs hM2 => ?_)
      refine r_aload_n C dX11_reads_39 rfl hl 1 rfl ?_
      replace h := bd_some h
      obtain ⟨r40, hf40, h⟩ := h
      refine r_callI (As := []) (rest := []) C hM2 (c_X11_isGood l E z hf40) jy_X11_isGood lk_X11_277 dX11_reads_40 (recvW C hM2 jc11 lr_0.1 lr_0.2 rfl) rfl rfl hl.1 (Nat.le_of_ble_eq_true rfl) ⟨Nat.le_of_ble_eq_true rfl, Nat.le_of_ble_eq_true rfl⟩ ⟨rfl, rfl⟩ ⟨Nat.zero_le _, Nat.zero_le _⟩ (fun H locs hr40 hM3 => ?_)
      refine r_if_eq C 50 hr40 dX11_reads_43 (by decide) (fun cq => ?_) (fun cq => ?_)
      · replace h := ifp cq h
        refine r_iload_n C dX11_reads_50 rfl hl 2 rfl ?_
        exact r_ireturnM C hM3 hr hlk hx1 h dX11_reads_51
      · replace h := ifn cq h
        refine r_iload_n C dX11_reads_46 rfl hl 0 rfl ?_
        refine r_goto C 51 dX11_reads_47 (by decide) ?_
        exact r_ireturnM C hM3 hr hlk (hMj30.ok _ _) h dX11_reads_51
    refine r_if_ne C 30 hr19 dX11_reads_22 (by decide) (fun cq => ?_) (fun cq => ?_)
    · replace h := ifn cq h
      exact hJ30 _ _ _ _ h hM1 (lv_sub hl [0, 1] rfl)
    · replace h := ifp cq h
      refine r_aload_n C dX11_reads_25 rfl hl 0 rfl ?_
      refine r_iconst C dX11_reads_26 ?_
      replace h := bd_some h
      obtain ⟨M27, hf27, h⟩ := h
      refine r_callV (As := [.int (jI 2)]) (rest := []) C hM1 (c_X11_fails l E z ⟨by decide, by decide⟩ hf27) jy_X11_fails lk_X11_295 dX11_reads_27 (recvW C hM1 jc11 lr_0.1 lr_0.2 rfl) rfl rfl hl.1 (Nat.le_of_ble_eq_true rfl) ⟨Nat.le_of_ble_eq_true rfl, Nat.le_of_ble_eq_true rfl⟩ ⟨rfl, rfl⟩ ⟨Nat.zero_le _, Nat.zero_le _⟩ (fun H locs hM4 => ?_)
      exact hJ30 _ _ _ _ h hM4 (lv_sub hl [0, 1] rfl)
  refine r_icmp_eq C 13 (hM0.ok _ _) ⟨by decide, by decide⟩ dX11_reads_5 (by decide) (fun cq => ?_) (fun cq => ?_)
  · replace h := ifp cq h
    exact hJ13 _ _ _ _ h hM0 (lv_sub hl [0, 1, 2] rfl)
  · replace h := ifn cq h
    refine r_aload_n C dX11_reads_8 rfl hl 0 rfl ?_
    refine r_iconst C dX11_reads_9 ?_
    replace h := bd_some h
    obtain ⟨M10, hf10, h⟩ := h
    refine r_callV (As := [.int (jI 1)]) (rest := []) C hM0 (c_X11_fails l E z ⟨by decide, by decide⟩ hf10) jy_X11_fails lk_X11_295 dX11_reads_10 (recvW C hM0 jc11 lr_0.1 lr_0.2 rfl) rfl rfl hl.1 (Nat.le_of_ble_eq_true rfl) ⟨Nat.le_of_ble_eq_true rfl, Nat.le_of_ble_eq_true rfl⟩ ⟨rfl, rfl⟩ ⟨Nat.zero_le _, Nat.zero_le _⟩ (fun H locs hM5 => ?_)
    exact hJ13 _ _ _ _ h hM5 (lv_sub hl [0, 1, 2] rfl)
set_option maxRecDepth 100000 in
set_option maxHeartbeats 4000000 in
theorem c_X11_beginsText (l : Launch) (E : jE) (z : Nat) {M M' : Mem} (h : f_X11_beginsText M = some M') : CtV l yX11_beginsText cX11_beginsText 1 none { frames := 3, cells := 0, slots := 0, locals := 63 } E z LyR [.ref (z + 0)] M M' := by
  refine jm (by decide +kernel) (Nat.le_of_ble_eq_true rfl) ?_
  intro p e sM m below meth c C hM0 hr hlk ls hl
  replace hl : lv_has ls 1 [(0, .ref (z + 0))] := hl
  unfold f_X11_beginsText at h
  refine r_aload_n C dX11_beginsText_0 rfl hl 0 rfl ?_
  refine r_iconst C dX11_beginsText_1 ?_
  refine r_putI C hM0 jc11 30 ⟨by decide, by decide⟩ dX11_beginsText_2 lk_X11_249 lr_0.1 lr_0.2 rfl rfl (by decide) rfl rfl rfl (Nat.le_of_ble_eq_true rfl) (by decide) (fun H locs hM1 => ?_)
  replace h := lt_some h
  obtain ⟨N2, eN2, h⟩ := h
  rw [← eN2] at hM1
  refine r_aload_n C dX11_beginsText_5 rfl hl 0 rfl ?_
  refine r_iconst C dX11_beginsText_6 ?_
  refine r_putI C hM1 jc11 34 ⟨by decide, by decide⟩ dX11_beginsText_7 lk_X11_271 lr_0.1 lr_0.2 rfl rfl (by decide) rfl rfl rfl (Nat.le_of_ble_eq_true rfl) (by decide) (fun H locs hM3 => ?_)
  replace h := lt_some h
  obtain ⟨N4, eN4, h⟩ := h
  rw [← eN4] at hM3
  refine r_aload_n C dX11_beginsText_10 rfl hl 0 rfl ?_
  refine r_iconst C dX11_beginsText_11 ?_
  refine r_putI C hM3 jc11 35 ⟨by decide, by decide⟩ dX11_beginsText_12 lk_X11_274 lr_0.1 lr_0.2 rfl rfl (by decide) rfl rfl rfl (Nat.le_of_ble_eq_true rfl) (by decide) (fun H locs hM5 => ?_)
  replace h := lt_some h
  obtain ⟨N6, eN6, h⟩ := h
  rw [← eN6] at hM5
  refine r_aload_n C dX11_beginsText_15 rfl hl 0 rfl ?_
  replace h := bd_some h
  obtain ⟨M16, hf16, h⟩ := h
  refine r_callV (As := []) (rest := []) C hM5 (c_X11_scans l E z hf16) jy_X11_scans lk_X11_281 dX11_beginsText_16 (recvW C hM5 jc11 lr_0.1 lr_0.2 rfl) rfl rfl hl.1 (Nat.le_of_ble_eq_true rfl) ⟨Nat.le_of_ble_eq_true rfl, Nat.le_of_ble_eq_true rfl⟩ ⟨rfl, rfl⟩ ⟨Nat.zero_le _, Nat.zero_le _⟩ (fun H locs hM7 => ?_)
  exact r_return C hM7 hr hlk h dX11_beginsText_19
set_option maxRecDepth 100000 in
set_option maxHeartbeats 4000000 in
theorem c_X11_endsText (l : Launch) (E : jE) (z : Nat) {M M' : Mem} (h : f_X11_endsText M = some M') : CtV l yX11_endsText cX11_endsText 1 none { frames := 0, cells := 0, slots := 0, locals := 0 } E z LyR [.ref (z + 0)] M M' := by
  refine jm (by decide +kernel) (Nat.le_of_ble_eq_true rfl) ?_
  intro p e sM m below meth c C hM0 hr hlk ls hl
  replace hl : lv_has ls 1 [(0, .ref (z + 0))] := hl
  unfold f_X11_endsText at h
  refine r_aload_n C dX11_endsText_0 rfl hl 0 rfl ?_
  refine r_iconst C dX11_endsText_1 ?_
  refine r_putI C hM0 jc11 29 ⟨by decide, by decide⟩ dX11_endsText_2 lk_X11_236 lr_0.1 lr_0.2 rfl rfl (by decide) rfl rfl rfl (Nat.le_of_ble_eq_true rfl) (by decide) (fun H locs hM1 => ?_)
  replace h := lt_some h
  obtain ⟨N2, eN2, h⟩ := h
  rw [← eN2] at hM1
  refine r_aload_n C dX11_endsText_5 rfl hl 0 rfl ?_
  refine r_aload_n C dX11_endsText_6 rfl hl 0 rfl ?_
  refine r_getI C hM1 jc11 34 (rd_slot eN2 (by decide) rfl) dX11_endsText_7 lk_X11_271 lr_0.1 lr_0.2 rfl rfl (by decide) rfl ?_
  refine r_putI C hM1 jc11 36 (hM0.ok _ _) dX11_endsText_10 lk_X11_243 lr_0.1 lr_0.2 rfl rfl (by decide) rfl rfl rfl (Nat.le_of_ble_eq_true rfl) (by decide) (fun H locs hM3 => ?_)
  replace h := lt_some h
  obtain ⟨N4, eN4, h⟩ := h
  rw [← eN4] at hM3
  refine r_aload_n C dX11_endsText_13 rfl hl 0 rfl ?_
  refine r_aload_n C dX11_endsText_14 rfl hl 0 rfl ?_
  refine r_getI C hM3 jc11 35 (rd_slot eN4 (by decide) (rd_slot eN2 (by decide) rfl)) dX11_endsText_15 lk_X11_274 lr_0.1 lr_0.2 rfl rfl (by decide) rfl ?_
  refine r_putI C hM3 jc11 37 (hM0.ok _ _) dX11_endsText_18 lk_X11_77 lr_0.1 lr_0.2 rfl rfl (by decide) rfl rfl rfl (Nat.le_of_ble_eq_true rfl) (by decide) (fun H locs hM5 => ?_)
  replace h := lt_some h
  obtain ⟨N6, eN6, h⟩ := h
  rw [← eN6] at hM5
  exact r_return C hM5 hr hlk h dX11_endsText_21
set_option maxRecDepth 100000 in
set_option maxHeartbeats 4000000 in
theorem c_X11_readsValue (l : Launch) (E : jE) (z : Nat) {x1 : Int} {x2 : Int} {x3 : Int} {M M' : Mem} (hx1 : inR x1) (hx2 : inR x2) (hx3 : inR x3) (h : f_X11_readsValue x1 x2 x3 M = some M') : CtV l yX11_readsValue cX11_readsValue 4 none { frames := 5, cells := 0, slots := 0, locals := 106 } E z LyR [.ref (z + 0), .int (jI x1), .int (jI x2), .int (jI x3)] M M' := by
  refine jm (by decide +kernel) (Nat.le_of_ble_eq_true rfl) ?_
  intro p e sM m below meth c C hM0 hr hlk ls hl
  replace hl : lv_has ls 4 [(0, .ref (z + 0)), (1, .int (jI x1)), (2, .int (jI x2)), (3, .int (jI x3))] := hl
  unfold f_X11_readsValue at h
  refine r_aload_n C dX11_readsValue_0 rfl hl 0 rfl ?_
  refine r_getI C hM0 jc11 38 rfl dX11_readsValue_1 lk_X11_305 lr_0.1 lr_0.2 rfl rfl (by decide) rfl ?_
  refine r_iload_n C dX11_readsValue_4 rfl hl 1 rfl ?_
  refine r_ishr C dX11_readsValue_5 ?_
  refine r_iconst C dX11_readsValue_6 ?_
  refine r_iand C dX11_readsValue_7 ?_
  refine r_iconst C dX11_readsValue_8 ?_
  replace h := jn_some h
  obtain ⟨k17, hk17, h⟩ := h
  have hJ17 : ∀ (M17 : Mem), ∀ (H : Heap) (locs : List Loc) (ls : Array Slot), k17 M17 = some M' → HS E z LyR M17 sM H locs → lv_has ls 4 [(0, .ref (z + 0)), (1, .int (jI x1)), (2, .int (jI x2)), (3, .int (jI x3))] → W p l e ({ frames := 5, cells := 0, slots := 0, locals := 106 } : Room) sM m (([.ref (z + 0), .int (jI x1), .int (jI x2), .int (jI x3)] : List Value).toArray) below meth c H locs 0 0 (MQ below (va_Qv (fun (_ : Unit) => Mok LyR M') (fun _ t => va_P (eD E) vwCl (Wd (eC E) z LyR M') t.heap) (eA E)) (([.ref (z + 0), .int (jI x1), .int (jI x2), .int (jI x3)] : List Value).toArray) sM 0 0 (eA E)) (F0 m 17 ls []) := by
    intro M17 H locs ls h hMj17 hl
    subst hk17
    try dsimp only at h
    refine r_aload_n C dX11_readsValue_17 rfl hl 0 rfl ?_
    refine r_dup C dX11_readsValue_18 rfl ?_
    refine r_getI C hMj17 jc11 38 rfl dX11_readsValue_19 lk_X11_305 lr_0.1 lr_0.2 rfl rfl (by decide) rfl ?_
    refine r_iconst C dX11_readsValue_22 ?_
    refine r_iload_n C dX11_readsValue_23 rfl hl 1 rfl ?_
    refine r_ishl C dX11_readsValue_24 ?_
    refine r_ior C dX11_readsValue_25 ?_
    refine r_putI C hMj17 jc11 38 (ior_R _ _) dX11_readsValue_26 lk_X11_305 lr_0.1 lr_0.2 rfl rfl (by decide) rfl rfl rfl (Nat.le_of_ble_eq_true rfl) (by decide) (fun H locs hM1 => ?_)
    replace h := lt_some h
    obtain ⟨N2, eN2, h⟩ := h
    rw [← eN2] at hM1
    refine r_aload_n C dX11_readsValue_29 rfl hl 0 rfl ?_
    replace h := bd_some h
    obtain ⟨M30, hf30, h⟩ := h
    refine r_callV (As := []) (rest := []) C hM1 (c_X11_goesOn l E z hf30) jy_X11_goesOn lk_X11_298 dX11_readsValue_30 (recvW C hM1 jc11 lr_0.1 lr_0.2 rfl) rfl rfl hl.1 (Nat.le_of_ble_eq_true rfl) ⟨Nat.le_of_ble_eq_true rfl, Nat.le_of_ble_eq_true rfl⟩ ⟨rfl, rfl⟩ ⟨Nat.zero_le _, Nat.zero_le _⟩ (fun H locs hM3 => ?_)
    refine r_aload_n C dX11_readsValue_33 rfl hl 0 rfl ?_
    refine r_getR C hM3 jc11 0 1 dX11_readsValue_34 lk_X11_7 lr_0.1 lr_0.2 rfl rfl (by decide) rfl ?_
    refine r_iload_n C dX11_readsValue_37 rfl hl 1 rfl ?_
    refine r_aload_n C dX11_readsValue_38 rfl hl 0 rfl ?_
    refine r_iload_n C dX11_readsValue_39 rfl hl 2 rfl ?_
    refine r_iload_n C dX11_readsValue_40 rfl hl 3 rfl ?_
    replace h := bd_some h
    obtain ⟨⟨r41, M41⟩, hf41, h⟩ := h
    try dsimp only at h
    refine r_callI (As := [.int (jI x2), .int (jI x3)]) (rest := [.int (jI x1), .ref (z + 1)]) C hM3 (c_X11_reads l E z hx2 hx3 hf41) jy_X11_reads lk_X11_308 dX11_readsValue_41 (recvW C hM3 jc11 lr_0.1 lr_0.2 rfl) rfl rfl hl.1 (Nat.le_of_ble_eq_true rfl) ⟨Nat.le_of_ble_eq_true rfl, Nat.le_of_ble_eq_true rfl⟩ ⟨rfl, rfl⟩ ⟨Nat.zero_le _, Nat.zero_le _⟩ (fun H locs hr41 hM4 => ?_)
    replace h := ck_some h
    obtain ⟨hc5, h⟩ := h
    refine r_iast C hM4 dX11_readsValue_44 lr_1.1 lr_1.2 hc5 hx1 hr41 (fun H locs hM6 => ?_)
    replace h := lt_some h
    obtain ⟨N7, eN7, h⟩ := h
    rw [← eN7] at hM6
    exact r_return C hM6 hr hlk h dX11_readsValue_45
  refine r_icmp_ne C 17 (iand_R _ _) ⟨by decide, by decide⟩ dX11_readsValue_9 (by decide) (fun cq => ?_) (fun cq => ?_)
  · replace h := ifn cq h
    exact hJ17 _ _ _ _ h hM0 (lv_sub hl [0, 1, 2, 3] rfl)
  · replace h := ifp cq h
    refine r_aload_n C dX11_readsValue_12 rfl hl 0 rfl ?_
    refine r_iconst C dX11_readsValue_13 ?_
    replace h := bd_some h
    obtain ⟨M14, hf14, h⟩ := h
    refine r_callV (As := [.int (jI 3)]) (rest := []) C hM0 (c_X11_fails l E z ⟨by decide, by decide⟩ hf14) jy_X11_fails lk_X11_295 dX11_readsValue_14 (recvW C hM0 jc11 lr_0.1 lr_0.2 rfl) rfl rfl hl.1 (Nat.le_of_ble_eq_true rfl) ⟨Nat.le_of_ble_eq_true rfl, Nat.le_of_ble_eq_true rfl⟩ ⟨rfl, rfl⟩ ⟨Nat.zero_le _, Nat.zero_le _⟩ (fun H locs hM8 => ?_)
    exact hJ17 _ _ _ _ h hM8 (lv_sub hl [0, 1, 2, 3] rfl)
set_option maxRecDepth 100000 in
set_option maxHeartbeats 4000000 in
theorem c_X11_readsShot (l : Launch) (E : jE) (z : Nat) {M M' : Mem} (h : f_X11_readsShot M = some M') : CtV l yX11_readsShot cX11_readsShot 3 none { frames := 5, cells := 0, slots := 0, locals := 106 } E z LyR [.ref (z + 0)] M M' := by
  refine jm (by decide +kernel) (Nat.le_of_ble_eq_true rfl) ?_
  intro p e sM m below meth c C hM0 hr hlk ls hl
  replace hl : lv_has ls 3 [(0, .ref (z + 0))] := hl
  unfold f_X11_readsShot at h
  refine r_aload_n C dX11_readsShot_0 rfl hl 0 rfl ?_
  refine r_getR C hM0 jc11 0 1 dX11_readsShot_1 lk_X11_7 lr_0.1 lr_0.2 rfl rfl (by decide) rfl ?_
  refine r_iconst C dX11_readsShot_4 ?_
  refine r_iald C hM0 rfl dX11_readsShot_5 lr_1.1 lr_1.2 (show (0 : Int) ≤ 5 ∧ (5 : Int) < 1062 by decide) ⟨by decide, by decide⟩ ?_
  refine r_bipush C dX11_readsShot_6 rfl ?_
  replace h := jn_some h
  obtain ⟨k16, hk16, h⟩ := h
  have hJ16 : ∀ (M16 : Mem), ∀ (H : Heap) (locs : List Loc) (ls : Array Slot), k16 M16 = some M' → HS E z LyR M16 sM H locs → lv_has ls 3 [(0, .ref (z + 0))] → W p l e ({ frames := 5, cells := 0, slots := 0, locals := 106 } : Room) sM m (([.ref (z + 0)] : List Value).toArray) below meth c H locs 0 0 (MQ below (va_Qv (fun (_ : Unit) => Mok LyR M') (fun _ t => va_P (eD E) vwCl (Wd (eC E) z LyR M') t.heap) (eA E)) (([.ref (z + 0)] : List Value).toArray) sM 0 0 (eA E)) (F0 m 16 ls []) := by
    intro M16 H locs ls h hMj16 hl
    subst hk16
    try dsimp only at h
    refine r_aload_n C dX11_readsShot_16 rfl hl 0 rfl ?_
    replace h := bd_some h
    obtain ⟨M17, hf17, h⟩ := h
    refine r_callV (As := []) (rest := []) C hMj16 (c_X11_goesOn l E z hf17) jy_X11_goesOn lk_X11_298 dX11_readsShot_17 (recvW C hMj16 jc11 lr_0.1 lr_0.2 rfl) rfl rfl hl.1 (Nat.le_of_ble_eq_true rfl) ⟨Nat.le_of_ble_eq_true rfl, Nat.le_of_ble_eq_true rfl⟩ ⟨rfl, rfl⟩ ⟨Nat.zero_le _, Nat.zero_le _⟩ (fun H locs hM1 => ?_)
    refine r_aload_n C dX11_readsShot_20 rfl hl 0 rfl ?_
    refine r_iconst C dX11_readsShot_21 ?_
    refine r_iconst C dX11_readsShot_22 ?_
    replace h := bd_some h
    obtain ⟨⟨r23, M23⟩, hf23, h⟩ := h
    try dsimp only at h
    refine r_callI (As := [.int (jI 0), .int (jI 5)]) (rest := []) C hM1 (c_X11_reads l E z ⟨by decide, by decide⟩ ⟨by decide, by decide⟩ hf23) jy_X11_reads lk_X11_308 dX11_readsShot_23 (recvW C hM1 jc11 lr_0.1 lr_0.2 rfl) rfl rfl hl.1 (Nat.le_of_ble_eq_true rfl) ⟨Nat.le_of_ble_eq_true rfl, Nat.le_of_ble_eq_true rfl⟩ ⟨rfl, rfl⟩ ⟨Nat.zero_le _, Nat.zero_le _⟩ (fun H locs hr23 hM2 => ?_)
    refine r_istore_n C [(1, .int (jI r23)), (0, .ref (z + 0))] dX11_readsShot_26 rfl hl (by decide) rfl (fun ls hl => ?_)
    refine r_aload_n C dX11_readsShot_27 rfl hl 1 rfl ?_
    refine r_iconst C dX11_readsShot_28 ?_
    refine r_sipush C dX11_readsShot_29 rfl ?_
    replace h := bd_some h
    obtain ⟨⟨r32, M32⟩, hf32, h⟩ := h
    try dsimp only at h
    refine r_callI (As := [.int (jI 1), .int (jI 400)]) (rest := []) C hM2 (c_X11_reads l E z ⟨by decide, by decide⟩ ⟨by decide, by decide⟩ hf32) jy_X11_reads lk_X11_308 dX11_readsShot_32 (recvW C hM2 jc11 lr_0.1 lr_0.2 rfl) rfl rfl hl.1 (Nat.le_of_ble_eq_true rfl) ⟨Nat.le_of_ble_eq_true rfl, Nat.le_of_ble_eq_true rfl⟩ ⟨rfl, rfl⟩ ⟨Nat.zero_le _, Nat.zero_le _⟩ (fun H locs hr32 hM3 => ?_)
    refine r_istore_n C [(2, .int (jI r32)), (1, .int (jI r23)), (0, .ref (z + 0))] dX11_readsShot_35 rfl hl (by decide) rfl (fun ls hl => ?_)
    refine r_aload_n C dX11_readsShot_36 rfl hl 2 rfl ?_
    replace h := bd_some h
    obtain ⟨r37, hf37, h⟩ := h
    refine r_callI (As := []) (rest := []) C hM3 (c_X11_isGood l E z hf37) jy_X11_isGood lk_X11_277 dX11_readsShot_37 (recvW C hM3 jc11 lr_0.1 lr_0.2 rfl) rfl rfl hl.1 (Nat.le_of_ble_eq_true rfl) ⟨Nat.le_of_ble_eq_true rfl, Nat.le_of_ble_eq_true rfl⟩ ⟨rfl, rfl⟩ ⟨Nat.zero_le _, Nat.zero_le _⟩ (fun H locs hr37 hM4 => ?_)
    refine r_if_ne C 44 hr37 dX11_readsShot_40 (by decide) (fun cq => ?_) (fun cq => ?_)
    · replace h := ifn cq h
      refine r_aload_n C dX11_readsShot_44 rfl hl 2 rfl ?_
      refine r_getR C hM4 jc11 0 1 dX11_readsShot_45 lk_X11_7 lr_0.1 lr_0.2 rfl rfl (by decide) rfl ?_
      refine r_bipush C dX11_readsShot_48 rfl ?_
      refine r_iconst C dX11_readsShot_50 ?_
      refine r_aload_n C dX11_readsShot_51 rfl hl 2 rfl ?_
      refine r_getR C hM4 jc11 0 1 dX11_readsShot_52 lk_X11_7 lr_0.1 lr_0.2 rfl rfl (by decide) rfl ?_
      refine r_iconst C dX11_readsShot_55 ?_
      refine r_iald C hM4 rfl dX11_readsShot_56 lr_1.1 lr_1.2 (show (0 : Int) ≤ 5 ∧ (5 : Int) < 1062 by decide) ⟨by decide, by decide⟩ ?_
      replace h := ck_some h
      obtain ⟨hc5, h⟩ := h
      refine r_imul C dX11_readsShot_57 ?_
      replace h := ck_some h
      obtain ⟨hc6, h⟩ := h
      refine r_iadd C dX11_readsShot_58 ?_
      refine r_iload_n C dX11_readsShot_59 rfl hl 1 rfl ?_
      replace h := ck_some h
      obtain ⟨hc7, h⟩ := h
      refine r_iast C hM4 dX11_readsShot_60 lr_1.1 lr_1.2 hc7 hc6 hr23 (fun H locs hM8 => ?_)
      replace h := lt_some h
      obtain ⟨N9, eN9, h⟩ := h
      rw [← eN9] at hM8
      refine r_aload_n C dX11_readsShot_61 rfl hl 2 rfl ?_
      refine r_getR C hM8 jc11 0 1 dX11_readsShot_62 lk_X11_7 lr_0.1 lr_0.2 rfl rfl (by decide) rfl ?_
      refine r_bipush C dX11_readsShot_65 rfl ?_
      refine r_iconst C dX11_readsShot_67 ?_
      refine r_aload_n C dX11_readsShot_68 rfl hl 2 rfl ?_
      refine r_getR C hM8 jc11 0 1 dX11_readsShot_69 lk_X11_7 lr_0.1 lr_0.2 rfl rfl (by decide) rfl ?_
      refine r_iconst C dX11_readsShot_72 ?_
      refine r_iald C hM8 rfl dX11_readsShot_73 lr_1.1 lr_1.2 (show (0 : Int) ≤ 5 ∧ (5 : Int) < 1062 by decide) ⟨by decide, by decide⟩ ?_
      replace h := ck_some h
      obtain ⟨hc10, h⟩ := h
      refine r_imul C dX11_readsShot_74 ?_
      replace h := ck_some h
      obtain ⟨hc11, h⟩ := h
      refine r_iadd C dX11_readsShot_75 ?_
      refine r_iconst C dX11_readsShot_76 ?_
      replace h := ck_some h
      obtain ⟨hc12, h⟩ := h
      refine r_iadd C dX11_readsShot_77 ?_
      refine r_iload_n C dX11_readsShot_78 rfl hl 0 rfl ?_
      replace h := ck_some h
      obtain ⟨hc13, h⟩ := h
      refine r_iast C hM8 dX11_readsShot_79 lr_1.1 lr_1.2 hc13 hc12 hr32 (fun H locs hM14 => ?_)
      replace h := lt_some h
      obtain ⟨N15, eN15, h⟩ := h
      rw [← eN15] at hM14
      refine r_aload_n C dX11_readsShot_80 rfl hl 2 rfl ?_
      refine r_getR C hM14 jc11 0 1 dX11_readsShot_81 lk_X11_7 lr_0.1 lr_0.2 rfl rfl (by decide) rfl ?_
      refine r_iconst C dX11_readsShot_84 ?_
      refine r_dup2 C dX11_readsShot_85 rfl rfl ?_
      refine r_iald C hM14 rfl dX11_readsShot_86 lr_1.1 lr_1.2 (show (0 : Int) ≤ 5 ∧ (5 : Int) < 1062 by decide) ⟨by decide, by decide⟩ ?_
      refine r_iconst C dX11_readsShot_87 ?_
      replace h := ck_some h
      obtain ⟨hc16, h⟩ := h
      refine r_iadd C dX11_readsShot_88 ?_
      refine r_iast C hM14 dX11_readsShot_89 lr_1.1 lr_1.2 (show (0 : Int) ≤ 5 ∧ (5 : Int) < 1062 by decide) ⟨by decide, by decide⟩ hc16 (fun H locs hM17 => ?_)
      replace h := lt_some h
      obtain ⟨N18, eN18, h⟩ := h
      rw [← eN18] at hM17
      exact r_return C hM17 hr hlk h dX11_readsShot_90
    · replace h := ifp cq h
      exact r_return C hM4 hr hlk h dX11_readsShot_43
  refine r_icmp_ne C 16 (hM0.ok _ _) ⟨by decide, by decide⟩ dX11_readsShot_8 (by decide) (fun cq => ?_) (fun cq => ?_)
  · replace h := ifn cq h
    exact hJ16 _ _ _ _ h hM0 (lv_sub hl [0] rfl)
  · replace h := ifp cq h
    refine r_aload_n C dX11_readsShot_11 rfl hl 0 rfl ?_
    refine r_iconst C dX11_readsShot_12 ?_
    replace h := bd_some h
    obtain ⟨M13, hf13, h⟩ := h
    refine r_callV (As := [.int (jI 4)]) (rest := []) C hM0 (c_X11_fails l E z ⟨by decide, by decide⟩ hf13) jy_X11_fails lk_X11_295 dX11_readsShot_13 (recvW C hM0 jc11 lr_0.1 lr_0.2 rfl) rfl rfl hl.1 (Nat.le_of_ble_eq_true rfl) ⟨Nat.le_of_ble_eq_true rfl, Nat.le_of_ble_eq_true rfl⟩ ⟨rfl, rfl⟩ ⟨Nat.zero_le _, Nat.zero_le _⟩ (fun H locs hM19 => ?_)
    exact hJ16 _ _ _ _ h hM19 (lv_sub hl [0] rfl)
set_option maxRecDepth 100000 in
set_option maxHeartbeats 4000000 in
theorem c_X11_isTold (l : Launch) (E : jE) (z : Nat) {x1 : Int} {M : Mem} {r : Int} (hx1 : inR x1) (h : f_X11_isTold x1 M = some r) : CtI l yX11_isTold cX11_isTold 5 (some .boolean) { frames := 0, cells := 0, slots := 0, locals := 0 } E z LyR [.ref (z + 0), .int (jI x1)] M r M := by
  refine jm (by decide +kernel) (Nat.le_of_ble_eq_true rfl) ?_
  intro p e sM m below meth c C hM0 hr hlk ls hl
  replace hl : lv_has ls 5 [(0, .ref (z + 0)), (1, .int (jI x1))] := hl
  unfold f_X11_isTold at h
  refine r_bipush C dX11_isTold_0 rfl ?_
  refine r_bipush C dX11_isTold_2 rfl ?_
  refine r_iload_n C dX11_isTold_4 rfl hl 1 rfl ?_
  replace h := ck_some h
  obtain ⟨hc1, h⟩ := h
  refine r_imul C dX11_isTold_5 ?_
  replace h := ck_some h
  obtain ⟨hc2, h⟩ := h
  refine r_iadd C dX11_isTold_6 ?_
  refine r_istore_n C [(2, .int (jI (36 + (10 * x1)))), (0, .ref (z + 0)), (1, .int (jI x1))] dX11_isTold_7 rfl hl (by decide) rfl (fun ls hl => ?_)
  refine r_aload_n C dX11_isTold_8 rfl hl 1 rfl ?_
  refine r_getR C hM0 jc11 0 1 dX11_isTold_9 lk_X11_7 lr_0.1 lr_0.2 rfl rfl (by decide) rfl ?_
  refine r_iload_n C dX11_isTold_12 rfl hl 0 rfl ?_
  replace h := ck_some h
  obtain ⟨hc3, h⟩ := h
  refine r_iald C hM0 rfl dX11_isTold_13 lr_1.1 lr_1.2 hc3 hc2 ?_
  refine r_aload_n C dX11_isTold_14 rfl hl 1 rfl ?_
  refine r_getI C hM0 jc11 30 rfl dX11_isTold_15 lk_X11_249 lr_0.1 lr_0.2 rfl rfl (by decide) rfl ?_
  refine r_aload_n C dX11_isTold_18 rfl hl 1 rfl ?_
  refine r_getI C hM0 jc11 31 rfl dX11_isTold_19 lk_X11_252 lr_0.1 lr_0.2 rfl rfl (by decide) rfl ?_
  replace h := ck_some h
  obtain ⟨hc4, h⟩ := h
  refine r_isub C dX11_isTold_22 ?_
  refine r_icmp_ne C 30 (hM0.ok _ _) hc4 dX11_isTold_23 (by decide) (fun cq => ?_) (fun cq => ?_)
  · replace h := ifn cq h
    refine r_iconst C dX11_isTold_30 ?_
    refine r_istore_n C [(3, .int (jI 0)), (2, .int (jI (36 + (10 * x1)))), (0, .ref (z + 0)), (1, .int (jI x1))] dX11_isTold_31 rfl hl (by decide) rfl (fun ls hl => ?_)
    refine r_iconst C dX11_isTold_32 ?_
    refine r_istore C [(4, .int (jI 0)), (3, .int (jI 0)), (2, .int (jI (36 + (10 * x1)))), (0, .ref (z + 0)), (1, .int (jI x1))] dX11_isTold_33 hl (by decide) rfl (fun ls hl => ?_)
    obtain ⟨y2, ey2⟩ : ∃ y : Int, y = (36 + (10 * x1)) := ⟨_, rfl⟩
    have hy2 : inR y2 := by rw [ey2]; exact hc2
    have hL35 : ∀ n35 : Nat, ∀ (x3 : Int) (x4 : Int), inR x3 → inR x4 → ∀ (H : Heap) (locs : List Loc) (ls : Array Slot), f_X11_isTold_L35 y2 M n35  x3 x4 = some r → HS E z LyR M sM H locs → lv_has ls 5 [(0, .ref (z + 0)), (2, .int (jI y2)), (3, .int (jI x3)), (4, .int (jI x4))] → W p l e ({ frames := 0, cells := 0, slots := 0, locals := 0 } : Room) sM m (([.ref (z + 0), .int (jI x1)] : List Value).toArray) below meth c H locs 0 0 (MQ below (va_Qi (fun (w : Int32) (_ : Unit) => w = jI r ∧ inR r ∧ Mok LyR M) (fun _ t => va_P (eD E) vwCl (Wd (eC E) z LyR M) t.heap) (eA E)) (([.ref (z + 0), .int (jI x1)] : List Value).toArray) sM 0 0 (eA E)) (F0 m 35 ls []) := by
      intro n35
      induction n35 with
      | zero =>
        intro x3 x4 hx3 hx4 H locs ls h hM hl
        exact absurd h (by simp [f_X11_isTold_L35])
      | succ n35 ih35 =>
        intro x3 x4 hx3 hx4 H locs ls h hM hl
        rw [f_X11_isTold_L35] at h
        refine r_iload_n C dX11_isTold_35 rfl hl 2 rfl ?_
        refine r_if_eq C 88 hx3 dX11_isTold_36 (by decide) (fun cq => ?_) (fun cq => ?_)
        · replace h := ifp cq h
          refine r_iload_n C dX11_isTold_88 rfl hl 2 rfl ?_
          replace h := ck_some h
          obtain ⟨hc5, h⟩ := h
          exact r_zreturn C hM hr hlk hc5 h rfl dX11_isTold_89
        · replace h := ifn cq h
          refine r_iload C dX11_isTold_39 hl 3 rfl ?_
          refine r_aload_n C dX11_isTold_41 rfl hl 0 rfl ?_
          refine r_getR C hM jc11 0 1 dX11_isTold_42 lk_X11_7 lr_0.1 lr_0.2 rfl rfl (by decide) rfl ?_
          refine r_iload_n C dX11_isTold_45 rfl hl 1 rfl ?_
          replace h := ck_some h
          obtain ⟨hc6, h⟩ := h
          refine r_iald C hM rfl dX11_isTold_46 lr_1.1 lr_1.2 hc6 hy2 ?_
          refine r_icmp_ge C 88 hx4 (hM.ok _ _) dX11_isTold_47 (by decide) (fun cq => ?_) (fun cq => ?_)
          · replace h := ifp cq h
            refine r_iload_n C dX11_isTold_88 rfl hl 2 rfl ?_
            replace h := ck_some h
            obtain ⟨hc7, h⟩ := h
            exact r_zreturn C hM hr hlk hc7 h rfl dX11_isTold_89
          · replace h := ifn cq h
            refine r_aload_n C dX11_isTold_50 rfl hl 0 rfl ?_
            refine r_getR C hM jc11 0 1 dX11_isTold_51 lk_X11_7 lr_0.1 lr_0.2 rfl rfl (by decide) rfl ?_
            refine r_iload_n C dX11_isTold_54 rfl hl 1 rfl ?_
            refine r_iconst C dX11_isTold_55 ?_
            replace h := ck_some h
            obtain ⟨hc8, h⟩ := h
            refine r_iadd C dX11_isTold_56 ?_
            refine r_iload C dX11_isTold_57 hl 3 rfl ?_
            replace h := ck_some h
            obtain ⟨hc9, h⟩ := h
            refine r_iadd C dX11_isTold_59 ?_
            replace h := ck_some h
            obtain ⟨hc10, h⟩ := h
            refine r_iald C hM rfl dX11_isTold_60 lr_1.1 lr_1.2 hc10 hc9 ?_
            refine r_aload_n C dX11_isTold_61 rfl hl 0 rfl ?_
            refine r_getR C hM jc11 28 22 dX11_isTold_62 lk_X11_74 lr_0.1 lr_0.2 rfl rfl (by decide) rfl ?_
            refine r_aload_n C dX11_isTold_65 rfl hl 0 rfl ?_
            refine r_getI C hM jc11 31 rfl dX11_isTold_66 lk_X11_252 lr_0.1 lr_0.2 rfl rfl (by decide) rfl ?_
            refine r_iload C dX11_isTold_69 hl 3 rfl ?_
            replace h := ck_some h
            obtain ⟨hc11, h⟩ := h
            refine r_iadd C dX11_isTold_71 ?_
            replace h := ck_some h
            obtain ⟨hc12, h⟩ := h
            refine r_iald C hM rfl dX11_isTold_72 lr_22.1 lr_22.2 hc12 hc11 ?_
            refine r_icmp_ne C 80 (hM.ok _ _) (hM.ok _ _) dX11_isTold_73 (by decide) (fun cq => ?_) (fun cq => ?_)
            · replace h := ifn cq h
              refine r_iconst C dX11_isTold_80 ?_
              refine r_istore_n C [(3, .int (jI 0)), (0, .ref (z + 0)), (2, .int (jI y2)), (4, .int (jI x4))] dX11_isTold_81 rfl hl (by decide) rfl (fun ls hl => ?_)
              replace h := ck_some h
              obtain ⟨hc13, h⟩ := h
              refine r_iinc (j := 3) (x := x4) C [(4, .int (jI (x4 + 1))), (3, .int (jI 0)), (0, .ref (z + 0)), (2, .int (jI y2))] dX11_isTold_82 hl rfl (by decide) rfl (fun ls hl => ?_)
              refine r_goto C 35 dX11_isTold_85 (by decide) ?_
              exact ih35 _ _ ⟨by decide, by decide⟩ hc13 _ _ _ h hM (lv_sub hl [2, 3, 1, 0] rfl)
            · replace h := ifp cq h
              refine r_iconst C dX11_isTold_76 ?_
              refine r_goto C 81 dX11_isTold_77 (by decide) ?_
              refine r_istore_n C [(3, .int (jI 1)), (0, .ref (z + 0)), (2, .int (jI y2)), (4, .int (jI x4))] dX11_isTold_81 rfl hl (by decide) rfl (fun ls hl => ?_)
              replace h := ck_some h
              obtain ⟨hc14, h⟩ := h
              refine r_iinc (j := 3) (x := x4) C [(4, .int (jI (x4 + 1))), (3, .int (jI 1)), (0, .ref (z + 0)), (2, .int (jI y2))] dX11_isTold_82 hl rfl (by decide) rfl (fun ls hl => ?_)
              refine r_goto C 35 dX11_isTold_85 (by decide) ?_
              exact ih35 _ _ ⟨by decide, by decide⟩ hc14 _ _ _ h hM (lv_sub hl [2, 3, 1, 0] rfl)
    rw [← ey2] at h
    have hl := lv_sub (l' := [(0, .ref (z + 0)), (2, .int (jI y2)), (3, .int (jI 0)), (4, .int (jI 0))]) hl [3, 2, 1, 0] (by rw [ey2]; rfl)
    exact hL35 jFuel _ _ ⟨by decide, by decide⟩ ⟨by decide, by decide⟩ _ _ _ h hM0 hl
  · replace h := ifp cq h
    refine r_iconst C dX11_isTold_26 ?_
    refine r_goto C 31 dX11_isTold_27 (by decide) ?_
    refine r_istore_n C [(3, .int (jI 1)), (2, .int (jI (36 + (10 * x1)))), (0, .ref (z + 0)), (1, .int (jI x1))] dX11_isTold_31 rfl hl (by decide) rfl (fun ls hl => ?_)
    refine r_iconst C dX11_isTold_32 ?_
    refine r_istore C [(4, .int (jI 0)), (3, .int (jI 1)), (2, .int (jI (36 + (10 * x1)))), (0, .ref (z + 0)), (1, .int (jI x1))] dX11_isTold_33 hl (by decide) rfl (fun ls hl => ?_)
    obtain ⟨y2, ey2⟩ : ∃ y : Int, y = (36 + (10 * x1)) := ⟨_, rfl⟩
    have hy2 : inR y2 := by rw [ey2]; exact hc2
    have hL35 : ∀ n35 : Nat, ∀ (x3 : Int) (x4 : Int), inR x3 → inR x4 → ∀ (H : Heap) (locs : List Loc) (ls : Array Slot), f_X11_isTold_L35 y2 M n35  x3 x4 = some r → HS E z LyR M sM H locs → lv_has ls 5 [(0, .ref (z + 0)), (2, .int (jI y2)), (3, .int (jI x3)), (4, .int (jI x4))] → W p l e ({ frames := 0, cells := 0, slots := 0, locals := 0 } : Room) sM m (([.ref (z + 0), .int (jI x1)] : List Value).toArray) below meth c H locs 0 0 (MQ below (va_Qi (fun (w : Int32) (_ : Unit) => w = jI r ∧ inR r ∧ Mok LyR M) (fun _ t => va_P (eD E) vwCl (Wd (eC E) z LyR M) t.heap) (eA E)) (([.ref (z + 0), .int (jI x1)] : List Value).toArray) sM 0 0 (eA E)) (F0 m 35 ls []) := by
      intro n35
      induction n35 with
      | zero =>
        intro x3 x4 hx3 hx4 H locs ls h hM hl
        exact absurd h (by simp [f_X11_isTold_L35])
      | succ n35 ih35 =>
        intro x3 x4 hx3 hx4 H locs ls h hM hl
        rw [f_X11_isTold_L35] at h
        refine r_iload_n C dX11_isTold_35 rfl hl 2 rfl ?_
        refine r_if_eq C 88 hx3 dX11_isTold_36 (by decide) (fun cq => ?_) (fun cq => ?_)
        · replace h := ifp cq h
          refine r_iload_n C dX11_isTold_88 rfl hl 2 rfl ?_
          replace h := ck_some h
          obtain ⟨hc15, h⟩ := h
          exact r_zreturn C hM hr hlk hc15 h rfl dX11_isTold_89
        · replace h := ifn cq h
          refine r_iload C dX11_isTold_39 hl 3 rfl ?_
          refine r_aload_n C dX11_isTold_41 rfl hl 0 rfl ?_
          refine r_getR C hM jc11 0 1 dX11_isTold_42 lk_X11_7 lr_0.1 lr_0.2 rfl rfl (by decide) rfl ?_
          refine r_iload_n C dX11_isTold_45 rfl hl 1 rfl ?_
          replace h := ck_some h
          obtain ⟨hc16, h⟩ := h
          refine r_iald C hM rfl dX11_isTold_46 lr_1.1 lr_1.2 hc16 hy2 ?_
          refine r_icmp_ge C 88 hx4 (hM.ok _ _) dX11_isTold_47 (by decide) (fun cq => ?_) (fun cq => ?_)
          · replace h := ifp cq h
            refine r_iload_n C dX11_isTold_88 rfl hl 2 rfl ?_
            replace h := ck_some h
            obtain ⟨hc17, h⟩ := h
            exact r_zreturn C hM hr hlk hc17 h rfl dX11_isTold_89
          · replace h := ifn cq h
            refine r_aload_n C dX11_isTold_50 rfl hl 0 rfl ?_
            refine r_getR C hM jc11 0 1 dX11_isTold_51 lk_X11_7 lr_0.1 lr_0.2 rfl rfl (by decide) rfl ?_
            refine r_iload_n C dX11_isTold_54 rfl hl 1 rfl ?_
            refine r_iconst C dX11_isTold_55 ?_
            replace h := ck_some h
            obtain ⟨hc18, h⟩ := h
            refine r_iadd C dX11_isTold_56 ?_
            refine r_iload C dX11_isTold_57 hl 3 rfl ?_
            replace h := ck_some h
            obtain ⟨hc19, h⟩ := h
            refine r_iadd C dX11_isTold_59 ?_
            replace h := ck_some h
            obtain ⟨hc20, h⟩ := h
            refine r_iald C hM rfl dX11_isTold_60 lr_1.1 lr_1.2 hc20 hc19 ?_
            refine r_aload_n C dX11_isTold_61 rfl hl 0 rfl ?_
            refine r_getR C hM jc11 28 22 dX11_isTold_62 lk_X11_74 lr_0.1 lr_0.2 rfl rfl (by decide) rfl ?_
            refine r_aload_n C dX11_isTold_65 rfl hl 0 rfl ?_
            refine r_getI C hM jc11 31 rfl dX11_isTold_66 lk_X11_252 lr_0.1 lr_0.2 rfl rfl (by decide) rfl ?_
            refine r_iload C dX11_isTold_69 hl 3 rfl ?_
            replace h := ck_some h
            obtain ⟨hc21, h⟩ := h
            refine r_iadd C dX11_isTold_71 ?_
            replace h := ck_some h
            obtain ⟨hc22, h⟩ := h
            refine r_iald C hM rfl dX11_isTold_72 lr_22.1 lr_22.2 hc22 hc21 ?_
            refine r_icmp_ne C 80 (hM.ok _ _) (hM.ok _ _) dX11_isTold_73 (by decide) (fun cq => ?_) (fun cq => ?_)
            · replace h := ifn cq h
              refine r_iconst C dX11_isTold_80 ?_
              refine r_istore_n C [(3, .int (jI 0)), (0, .ref (z + 0)), (2, .int (jI y2)), (4, .int (jI x4))] dX11_isTold_81 rfl hl (by decide) rfl (fun ls hl => ?_)
              replace h := ck_some h
              obtain ⟨hc23, h⟩ := h
              refine r_iinc (j := 3) (x := x4) C [(4, .int (jI (x4 + 1))), (3, .int (jI 0)), (0, .ref (z + 0)), (2, .int (jI y2))] dX11_isTold_82 hl rfl (by decide) rfl (fun ls hl => ?_)
              refine r_goto C 35 dX11_isTold_85 (by decide) ?_
              exact ih35 _ _ ⟨by decide, by decide⟩ hc23 _ _ _ h hM (lv_sub hl [2, 3, 1, 0] rfl)
            · replace h := ifp cq h
              refine r_iconst C dX11_isTold_76 ?_
              refine r_goto C 81 dX11_isTold_77 (by decide) ?_
              refine r_istore_n C [(3, .int (jI 1)), (0, .ref (z + 0)), (2, .int (jI y2)), (4, .int (jI x4))] dX11_isTold_81 rfl hl (by decide) rfl (fun ls hl => ?_)
              replace h := ck_some h
              obtain ⟨hc24, h⟩ := h
              refine r_iinc (j := 3) (x := x4) C [(4, .int (jI (x4 + 1))), (3, .int (jI 1)), (0, .ref (z + 0)), (2, .int (jI y2))] dX11_isTold_82 hl rfl (by decide) rfl (fun ls hl => ?_)
              refine r_goto C 35 dX11_isTold_85 (by decide) ?_
              exact ih35 _ _ ⟨by decide, by decide⟩ hc24 _ _ _ h hM (lv_sub hl [2, 3, 1, 0] rfl)
    rw [← ey2] at h
    have hl := lv_sub (l' := [(0, .ref (z + 0)), (2, .int (jI y2)), (3, .int (jI 1)), (4, .int (jI 0))]) hl [3, 2, 1, 0] (by rw [ey2]; rfl)
    exact hL35 jFuel _ _ ⟨by decide, by decide⟩ ⟨by decide, by decide⟩ _ _ _ h hM0 hl
set_option maxRecDepth 100000 in
set_option maxHeartbeats 4000000 in
theorem c_X11_readsMap (l : Launch) (E : jE) (z : Nat) {M M' : Mem} (h : f_X11_readsMap M = some M') : CtV l yX11_readsMap cX11_readsMap 3 none { frames := 4, cells := 0, slots := 0, locals := 83 } E z LyR [.ref (z + 0)] M M' := by
  refine jm (by decide +kernel) (Nat.le_of_ble_eq_true rfl) ?_
  intro p e sM m below meth c C hM0 hr hlk ls hl
  replace hl : lv_has ls 3 [(0, .ref (z + 0))] := hl
  unfold f_X11_readsMap at h
  refine r_aload_n C dX11_readsMap_0 rfl hl 0 rfl ?_
  refine r_getR C hM0 jc11 0 1 dX11_readsMap_1 lk_X11_7 lr_0.1 lr_0.2 rfl rfl (by decide) rfl ?_
  refine r_bipush C dX11_readsMap_4 rfl ?_
  refine r_iald C hM0 rfl dX11_readsMap_6 lr_1.1 lr_1.2 (show (0 : Int) ≤ 6 ∧ (6 : Int) < 1062 by decide) ⟨by decide, by decide⟩ ?_
  refine r_bipush C dX11_readsMap_7 rfl ?_
  replace h := jn_some h
  obtain ⟨k17, hk17, h⟩ := h
  have hJ17 : ∀ (M17 : Mem), ∀ (H : Heap) (locs : List Loc) (ls : Array Slot), k17 M17 = some M' → HS E z LyR M17 sM H locs → lv_has ls 3 [(0, .ref (z + 0))] → W p l e ({ frames := 4, cells := 0, slots := 0, locals := 83 } : Room) sM m (([.ref (z + 0)] : List Value).toArray) below meth c H locs 0 0 (MQ below (va_Qv (fun (_ : Unit) => Mok LyR M') (fun _ t => va_P (eD E) vwCl (Wd (eC E) z LyR M') t.heap) (eA E)) (([.ref (z + 0)] : List Value).toArray) sM 0 0 (eA E)) (F0 m 17 ls []) := by
    intro M17 H locs ls h hMj17 hl
    subst hk17
    try dsimp only at h
    refine r_aload_n C dX11_readsMap_17 rfl hl 0 rfl ?_
    replace h := bd_some h
    obtain ⟨M18, hf18, h⟩ := h
    refine r_callV (As := []) (rest := []) C hMj17 (c_X11_goesOn l E z hf18) jy_X11_goesOn lk_X11_298 dX11_readsMap_18 (recvW C hMj17 jc11 lr_0.1 lr_0.2 rfl) rfl rfl hl.1 (Nat.le_of_ble_eq_true rfl) ⟨Nat.le_of_ble_eq_true rfl, Nat.le_of_ble_eq_true rfl⟩ ⟨rfl, rfl⟩ ⟨Nat.zero_le _, Nat.zero_le _⟩ (fun H locs hM1 => ?_)
    refine r_aload_n C dX11_readsMap_21 rfl hl 0 rfl ?_
    refine r_getI C hM1 jc11 32 rfl dX11_readsMap_22 lk_X11_255 lr_0.1 lr_0.2 rfl rfl (by decide) rfl ?_
    refine r_iconst C dX11_readsMap_25 ?_
    replace h := jn_some h
    obtain ⟨k34, hk34, h⟩ := h
    have hJ34 : ∀ (M34 : Mem), ∀ (H : Heap) (locs : List Loc) (ls : Array Slot), k34 M34 = some M' → HS E z LyR M34 sM H locs → lv_has ls 3 [(0, .ref (z + 0))] → W p l e ({ frames := 4, cells := 0, slots := 0, locals := 83 } : Room) sM m (([.ref (z + 0)] : List Value).toArray) below meth c H locs 0 0 (MQ below (va_Qv (fun (_ : Unit) => Mok LyR M') (fun _ t => va_P (eD E) vwCl (Wd (eC E) z LyR M') t.heap) (eA E)) (([.ref (z + 0)] : List Value).toArray) sM 0 0 (eA E)) (F0 m 34 ls []) := by
      intro M34 H locs ls h hMj34 hl
      subst hk34
      try dsimp only at h
      refine r_aload_n C dX11_readsMap_34 rfl hl 0 rfl ?_
      refine r_getI C hMj34 jc11 30 rfl dX11_readsMap_35 lk_X11_249 lr_0.1 lr_0.2 rfl rfl (by decide) rfl ?_
      refine r_aload_n C dX11_readsMap_38 rfl hl 0 rfl ?_
      refine r_getI C hMj34 jc11 31 rfl dX11_readsMap_39 lk_X11_252 lr_0.1 lr_0.2 rfl rfl (by decide) rfl ?_
      replace h := ck_some h
      obtain ⟨hc2, h⟩ := h
      refine r_isub C dX11_readsMap_42 ?_
      refine r_bipush C dX11_readsMap_43 rfl ?_
      refine r_icmp_le C 53 hc2 ⟨by decide, by decide⟩ dX11_readsMap_45 (by decide) (fun cq => ?_) (fun cq => ?_)
      · replace h := ifp cq h
        refine r_iconst C dX11_readsMap_53 ?_
        refine r_istore_n C [(1, .int (jI 0)), (0, .ref (z + 0))] dX11_readsMap_54 rfl hl (by decide) rfl (fun ls hl => ?_)
        have hL55 : ∀ n55 : Nat, ∀ (x1 : Int) (M : Mem), inR x1 → ∀ (H : Heap) (locs : List Loc) (ls : Array Slot), f_X11_readsMap_L55 n55  x1 M = some M' → HS E z LyR M sM H locs → lv_has ls 3 [(0, .ref (z + 0)), (1, .int (jI x1))] → W p l e ({ frames := 4, cells := 0, slots := 0, locals := 83 } : Room) sM m (([.ref (z + 0)] : List Value).toArray) below meth c H locs 0 0 (MQ below (va_Qv (fun (_ : Unit) => Mok LyR M') (fun _ t => va_P (eD E) vwCl (Wd (eC E) z LyR M') t.heap) (eA E)) (([.ref (z + 0)] : List Value).toArray) sM 0 0 (eA E)) (F0 m 55 ls []) := by
          intro n55
          induction n55 with
          | zero =>
            intro x1 M hx1 H locs ls h hM hl
            exact absurd h (by simp [f_X11_readsMap_L55])
          | succ n55 ih55 =>
            intro x1 M hx1 H locs ls h hM hl
            rw [f_X11_readsMap_L55] at h
            refine r_iload_n C dX11_readsMap_55 rfl hl 1 rfl ?_
            refine r_aload_n C dX11_readsMap_56 rfl hl 0 rfl ?_
            refine r_getR C hM jc11 0 1 dX11_readsMap_57 lk_X11_7 lr_0.1 lr_0.2 rfl rfl (by decide) rfl ?_
            refine r_bipush C dX11_readsMap_60 rfl ?_
            refine r_iald C hM rfl dX11_readsMap_62 lr_1.1 lr_1.2 (show (0 : Int) ≤ 6 ∧ (6 : Int) < 1062 by decide) ⟨by decide, by decide⟩ ?_
            replace h := jn_some h
            obtain ⟨k92, hk92, h⟩ := h
            have hJ92 : ∀ (_ : Unit), ∀ (H : Heap) (locs : List Loc) (ls : Array Slot), k92 () = some M' → HS E z LyR M sM H locs → lv_has ls 3 [(0, .ref (z + 0))] → W p l e ({ frames := 4, cells := 0, slots := 0, locals := 83 } : Room) sM m (([.ref (z + 0)] : List Value).toArray) below meth c H locs 0 0 (MQ below (va_Qv (fun (_ : Unit) => Mok LyR M') (fun _ t => va_P (eD E) vwCl (Wd (eC E) z LyR M') t.heap) (eA E)) (([.ref (z + 0)] : List Value).toArray) sM 0 0 (eA E)) (F0 m 92 ls []) := by
              intro _ H locs ls h hMj92 hl
              subst hk92
              try dsimp only at h
              refine r_aload_n C dX11_readsMap_92 rfl hl 0 rfl ?_
              replace h := bd_some h
              obtain ⟨r93, hf93, h⟩ := h
              refine r_callI (As := []) (rest := []) C hMj92 (c_X11_isGood l E z hf93) jy_X11_isGood lk_X11_277 dX11_readsMap_93 (recvW C hMj92 jc11 lr_0.1 lr_0.2 rfl) rfl rfl hl.1 (Nat.le_of_ble_eq_true rfl) ⟨Nat.le_of_ble_eq_true rfl, Nat.le_of_ble_eq_true rfl⟩ ⟨rfl, rfl⟩ ⟨Nat.zero_le _, Nat.zero_le _⟩ (fun H locs hr93 hM3 => ?_)
              refine r_if_ne C 100 hr93 dX11_readsMap_96 (by decide) (fun cq => ?_) (fun cq => ?_)
              · replace h := ifn cq h
                refine r_bipush C dX11_readsMap_100 rfl ?_
                refine r_bipush C dX11_readsMap_102 rfl ?_
                refine r_aload_n C dX11_readsMap_104 rfl hl 0 rfl ?_
                refine r_getR C hM3 jc11 0 1 dX11_readsMap_105 lk_X11_7 lr_0.1 lr_0.2 rfl rfl (by decide) rfl ?_
                refine r_bipush C dX11_readsMap_108 rfl ?_
                refine r_iald C hM3 rfl dX11_readsMap_110 lr_1.1 lr_1.2 (show (0 : Int) ≤ 6 ∧ (6 : Int) < 1062 by decide) ⟨by decide, by decide⟩ ?_
                replace h := ck_some h
                obtain ⟨hc4, h⟩ := h
                refine r_imul C dX11_readsMap_111 ?_
                replace h := ck_some h
                obtain ⟨hc5, h⟩ := h
                refine r_iadd C dX11_readsMap_112 ?_
                refine r_istore_n C [(1, .int (jI (36 + (10 * (M 1 (6 : Int).toNat))))), (0, .ref (z + 0))] dX11_readsMap_113 rfl hl (by decide) rfl (fun ls hl => ?_)
                refine r_aload_n C dX11_readsMap_114 rfl hl 1 rfl ?_
                refine r_getR C hM3 jc11 0 1 dX11_readsMap_115 lk_X11_7 lr_0.1 lr_0.2 rfl rfl (by decide) rfl ?_
                refine r_iload_n C dX11_readsMap_118 rfl hl 0 rfl ?_
                refine r_aload_n C dX11_readsMap_119 rfl hl 1 rfl ?_
                refine r_getI C hM3 jc11 30 rfl dX11_readsMap_120 lk_X11_249 lr_0.1 lr_0.2 rfl rfl (by decide) rfl ?_
                refine r_aload_n C dX11_readsMap_123 rfl hl 1 rfl ?_
                refine r_getI C hM3 jc11 31 rfl dX11_readsMap_124 lk_X11_252 lr_0.1 lr_0.2 rfl rfl (by decide) rfl ?_
                replace h := ck_some h
                obtain ⟨hc6, h⟩ := h
                refine r_isub C dX11_readsMap_127 ?_
                replace h := ck_some h
                obtain ⟨hc7, h⟩ := h
                refine r_iast C hM3 dX11_readsMap_128 lr_1.1 lr_1.2 hc7 hc5 hc6 (fun H locs hM8 => ?_)
                replace h := lt_some h
                obtain ⟨N9, eN9, h⟩ := h
                rw [← eN9] at hM8
                refine r_iconst C dX11_readsMap_129 ?_
                refine r_istore_n C [(2, .int (jI 0)), (1, .int (jI (36 + (10 * (M 1 (6 : Int).toNat))))), (0, .ref (z + 0))] dX11_readsMap_130 rfl hl (by decide) rfl (fun ls hl => ?_)
                obtain ⟨y1, ey1⟩ : ∃ y : Int, y = (36 + (10 * (M 1 (6 : Int).toNat))) := ⟨_, rfl⟩
                have hy1 : inR y1 := by rw [ey1]; exact hc5
                have hL131 : ∀ n131 : Nat, ∀ (x2 : Int) (M : Mem), inR x2 → ∀ (H : Heap) (locs : List Loc) (ls : Array Slot), f_X11_readsMap_L131 y1 n131  x2 M = some M' → HS E z LyR M sM H locs → lv_has ls 3 [(0, .ref (z + 0)), (1, .int (jI y1)), (2, .int (jI x2))] → W p l e ({ frames := 4, cells := 0, slots := 0, locals := 83 } : Room) sM m (([.ref (z + 0)] : List Value).toArray) below meth c H locs 0 0 (MQ below (va_Qv (fun (_ : Unit) => Mok LyR M') (fun _ t => va_P (eD E) vwCl (Wd (eC E) z LyR M') t.heap) (eA E)) (([.ref (z + 0)] : List Value).toArray) sM 0 0 (eA E)) (F0 m 131 ls []) := by
                  intro n131
                  induction n131 with
                  | zero =>
                    intro x2 M hx2 H locs ls h hM hl
                    exact absurd h (by simp [f_X11_readsMap_L131])
                  | succ n131 ih131 =>
                    intro x2 M hx2 H locs ls h hM hl
                    rw [f_X11_readsMap_L131] at h
                    refine r_iload_n C dX11_readsMap_131 rfl hl 2 rfl ?_
                    refine r_aload_n C dX11_readsMap_132 rfl hl 0 rfl ?_
                    refine r_getR C hM jc11 0 1 dX11_readsMap_133 lk_X11_7 lr_0.1 lr_0.2 rfl rfl (by decide) rfl ?_
                    refine r_iload_n C dX11_readsMap_136 rfl hl 1 rfl ?_
                    replace h := ck_some h
                    obtain ⟨hc10, h⟩ := h
                    refine r_iald C hM rfl dX11_readsMap_137 lr_1.1 lr_1.2 hc10 hy1 ?_
                    refine r_icmp_ge C 168 hx2 (hM.ok _ _) dX11_readsMap_138 (by decide) (fun cq => ?_) (fun cq => ?_)
                    · replace h := ifp cq h
                      refine r_aload_n C dX11_readsMap_168 rfl hl 0 rfl ?_
                      refine r_getR C hM jc11 0 1 dX11_readsMap_169 lk_X11_7 lr_0.1 lr_0.2 rfl rfl (by decide) rfl ?_
                      refine r_bipush C dX11_readsMap_172 rfl ?_
                      refine r_dup2 C dX11_readsMap_174 rfl rfl ?_
                      refine r_iald C hM rfl dX11_readsMap_175 lr_1.1 lr_1.2 (show (0 : Int) ≤ 6 ∧ (6 : Int) < 1062 by decide) ⟨by decide, by decide⟩ ?_
                      refine r_iconst C dX11_readsMap_176 ?_
                      replace h := ck_some h
                      obtain ⟨hc11, h⟩ := h
                      refine r_iadd C dX11_readsMap_177 ?_
                      refine r_iast C hM dX11_readsMap_178 lr_1.1 lr_1.2 (show (0 : Int) ≤ 6 ∧ (6 : Int) < 1062 by decide) ⟨by decide, by decide⟩ hc11 (fun H locs hM12 => ?_)
                      replace h := lt_some h
                      obtain ⟨N13, eN13, h⟩ := h
                      rw [← eN13] at hM12
                      refine r_aload_n C dX11_readsMap_179 rfl hl 0 rfl ?_
                      replace h := bd_some h
                      obtain ⟨M180, hf180, h⟩ := h
                      refine r_callV (As := []) (rest := []) C hM12 (c_X11_scans l E z hf180) jy_X11_scans lk_X11_281 dX11_readsMap_180 (recvW C hM12 jc11 lr_0.1 lr_0.2 rfl) rfl rfl hl.1 (Nat.le_of_ble_eq_true rfl) ⟨Nat.le_of_ble_eq_true rfl, Nat.le_of_ble_eq_true rfl⟩ ⟨rfl, rfl⟩ ⟨Nat.zero_le _, Nat.zero_le _⟩ (fun H locs hM14 => ?_)
                      exact r_return C hM14 hr hlk h dX11_readsMap_183
                    · replace h := ifn cq h
                      refine r_aload_n C dX11_readsMap_141 rfl hl 0 rfl ?_
                      refine r_getR C hM jc11 0 1 dX11_readsMap_142 lk_X11_7 lr_0.1 lr_0.2 rfl rfl (by decide) rfl ?_
                      refine r_iload_n C dX11_readsMap_145 rfl hl 1 rfl ?_
                      refine r_iconst C dX11_readsMap_146 ?_
                      replace h := ck_some h
                      obtain ⟨hc15, h⟩ := h
                      refine r_iadd C dX11_readsMap_147 ?_
                      refine r_iload_n C dX11_readsMap_148 rfl hl 2 rfl ?_
                      replace h := ck_some h
                      obtain ⟨hc16, h⟩ := h
                      refine r_iadd C dX11_readsMap_149 ?_
                      refine r_aload_n C dX11_readsMap_150 rfl hl 0 rfl ?_
                      refine r_getR C hM jc11 28 22 dX11_readsMap_151 lk_X11_74 lr_0.1 lr_0.2 rfl rfl (by decide) rfl ?_
                      refine r_aload_n C dX11_readsMap_154 rfl hl 0 rfl ?_
                      refine r_getI C hM jc11 31 rfl dX11_readsMap_155 lk_X11_252 lr_0.1 lr_0.2 rfl rfl (by decide) rfl ?_
                      refine r_iload_n C dX11_readsMap_158 rfl hl 2 rfl ?_
                      replace h := ck_some h
                      obtain ⟨hc17, h⟩ := h
                      refine r_iadd C dX11_readsMap_159 ?_
                      replace h := ck_some h
                      obtain ⟨hc18, h⟩ := h
                      refine r_iald C hM rfl dX11_readsMap_160 lr_22.1 lr_22.2 hc18 hc17 ?_
                      replace h := ck_some h
                      obtain ⟨hc19, h⟩ := h
                      refine r_iast C hM dX11_readsMap_161 lr_1.1 lr_1.2 hc19 hc16 (hM.ok _ _) (fun H locs hM20 => ?_)
                      replace h := lt_some h
                      obtain ⟨N21, eN21, h⟩ := h
                      rw [← eN21] at hM20
                      replace h := ck_some h
                      obtain ⟨hc22, h⟩ := h
                      refine r_iinc (j := 2) (x := x2) C [(2, .int (jI (x2 + 1))), (0, .ref (z + 0)), (1, .int (jI y1))] dX11_readsMap_162 hl rfl (by decide) rfl (fun ls hl => ?_)
                      refine r_goto C 131 dX11_readsMap_165 (by decide) ?_
                      exact ih131 _ _ hc22 _ _ _ h hM20 (lv_sub hl [1, 2, 0] rfl)
                rw [← ey1] at h
                have hl := lv_sub (l' := [(0, .ref (z + 0)), (1, .int (jI y1)), (2, .int (jI 0))]) hl [2, 1, 0] (by rw [ey1]; rfl)
                exact hL131 jFuel _ _ ⟨by decide, by decide⟩ _ _ _ h hM8 hl
              · replace h := ifp cq h
                exact r_return C hM3 hr hlk h dX11_readsMap_99
            refine r_icmp_ge C 92 hx1 (hM.ok _ _) dX11_readsMap_63 (by decide) (fun cq => ?_) (fun cq => ?_)
            · replace h := ifp cq h
              exact hJ92 () _ _ _ h hM (lv_sub hl [0] rfl)
            · replace h := ifn cq h
              refine r_aload_n C dX11_readsMap_66 rfl hl 0 rfl ?_
              replace h := bd_some h
              obtain ⟨r67, hf67, h⟩ := h
              refine r_callI (As := []) (rest := []) C hM (c_X11_isGood l E z hf67) jy_X11_isGood lk_X11_277 dX11_readsMap_67 (recvW C hM jc11 lr_0.1 lr_0.2 rfl) rfl rfl hl.1 (Nat.le_of_ble_eq_true rfl) ⟨Nat.le_of_ble_eq_true rfl, Nat.le_of_ble_eq_true rfl⟩ ⟨rfl, rfl⟩ ⟨Nat.zero_le _, Nat.zero_le _⟩ (fun H locs hr67 hM23 => ?_)
              refine r_if_eq C 92 hr67 dX11_readsMap_70 (by decide) (fun cq => ?_) (fun cq => ?_)
              · replace h := ifp cq h
                exact hJ92 () _ _ _ h hM23 (lv_sub hl [0] rfl)
              · replace h := ifn cq h
                refine r_aload_n C dX11_readsMap_73 rfl hl 0 rfl ?_
                refine r_iload_n C dX11_readsMap_74 rfl hl 1 rfl ?_
                replace h := bd_some h
                obtain ⟨r75, hf75, h⟩ := h
                refine r_callI (As := [.int (jI x1)]) (rest := []) C hM23 (c_X11_isTold l E z hx1 hf75) jy_X11_isTold lk_X11_311 dX11_readsMap_75 (recvW C hM23 jc11 lr_0.1 lr_0.2 rfl) rfl rfl hl.1 (Nat.le_of_ble_eq_true rfl) ⟨Nat.le_of_ble_eq_true rfl, Nat.le_of_ble_eq_true rfl⟩ ⟨rfl, rfl⟩ ⟨Nat.zero_le _, Nat.zero_le _⟩ (fun H locs hr75 hM24 => ?_)
                refine r_if_eq C 86 hr75 dX11_readsMap_78 (by decide) (fun cq => ?_) (fun cq => ?_)
                · replace h := ifp cq h
                  replace h := ck_some h
                  obtain ⟨hc25, h⟩ := h
                  refine r_iinc (j := 1) (x := x1) C [(1, .int (jI (x1 + 1))), (0, .ref (z + 0))] dX11_readsMap_86 hl rfl (by decide) rfl (fun ls hl => ?_)
                  refine r_goto C 55 dX11_readsMap_89 (by decide) ?_
                  exact ih55 _ _ hc25 _ _ _ h hM24 (lv_sub hl [1, 0] rfl)
                · replace h := ifn cq h
                  refine r_aload_n C dX11_readsMap_81 rfl hl 0 rfl ?_
                  refine r_iconst C dX11_readsMap_82 ?_
                  replace h := bd_some h
                  obtain ⟨M83, hf83, h⟩ := h
                  refine r_callV (As := [.int (jI 3)]) (rest := []) C hM24 (c_X11_fails l E z ⟨by decide, by decide⟩ hf83) jy_X11_fails lk_X11_295 dX11_readsMap_83 (recvW C hM24 jc11 lr_0.1 lr_0.2 rfl) rfl rfl hl.1 (Nat.le_of_ble_eq_true rfl) ⟨Nat.le_of_ble_eq_true rfl, Nat.le_of_ble_eq_true rfl⟩ ⟨rfl, rfl⟩ ⟨Nat.zero_le _, Nat.zero_le _⟩ (fun H locs hM26 => ?_)
                  replace h := ck_some h
                  obtain ⟨hc27, h⟩ := h
                  refine r_iinc (j := 1) (x := x1) C [(1, .int (jI (x1 + 1))), (0, .ref (z + 0))] dX11_readsMap_86 hl rfl (by decide) rfl (fun ls hl => ?_)
                  refine r_goto C 55 dX11_readsMap_89 (by decide) ?_
                  exact ih55 _ _ hc27 _ _ _ h hM26 (lv_sub hl [1, 0] rfl)
        exact hL55 jFuel _ _ ⟨by decide, by decide⟩ _ _ _ h hMj34 (lv_sub hl [1, 0] rfl)
      · replace h := ifn cq h
        refine r_aload_n C dX11_readsMap_48 rfl hl 0 rfl ?_
        refine r_iconst C dX11_readsMap_49 ?_
        replace h := bd_some h
        obtain ⟨M50, hf50, h⟩ := h
        refine r_callV (As := [.int (jI 2)]) (rest := []) C hMj34 (c_X11_fails l E z ⟨by decide, by decide⟩ hf50) jy_X11_fails lk_X11_295 dX11_readsMap_50 (recvW C hMj34 jc11 lr_0.1 lr_0.2 rfl) rfl rfl hl.1 (Nat.le_of_ble_eq_true rfl) ⟨Nat.le_of_ble_eq_true rfl, Nat.le_of_ble_eq_true rfl⟩ ⟨rfl, rfl⟩ ⟨Nat.zero_le _, Nat.zero_le _⟩ (fun H locs hM28 => ?_)
        refine r_iconst C dX11_readsMap_53 ?_
        refine r_istore_n C [(1, .int (jI 0)), (0, .ref (z + 0))] dX11_readsMap_54 rfl hl (by decide) rfl (fun ls hl => ?_)
        have hL55 : ∀ n55 : Nat, ∀ (x1 : Int) (M : Mem), inR x1 → ∀ (H : Heap) (locs : List Loc) (ls : Array Slot), f_X11_readsMap_L55 n55  x1 M = some M' → HS E z LyR M sM H locs → lv_has ls 3 [(0, .ref (z + 0)), (1, .int (jI x1))] → W p l e ({ frames := 4, cells := 0, slots := 0, locals := 83 } : Room) sM m (([.ref (z + 0)] : List Value).toArray) below meth c H locs 0 0 (MQ below (va_Qv (fun (_ : Unit) => Mok LyR M') (fun _ t => va_P (eD E) vwCl (Wd (eC E) z LyR M') t.heap) (eA E)) (([.ref (z + 0)] : List Value).toArray) sM 0 0 (eA E)) (F0 m 55 ls []) := by
          intro n55
          induction n55 with
          | zero =>
            intro x1 M hx1 H locs ls h hM hl
            exact absurd h (by simp [f_X11_readsMap_L55])
          | succ n55 ih55 =>
            intro x1 M hx1 H locs ls h hM hl
            rw [f_X11_readsMap_L55] at h
            refine r_iload_n C dX11_readsMap_55 rfl hl 1 rfl ?_
            refine r_aload_n C dX11_readsMap_56 rfl hl 0 rfl ?_
            refine r_getR C hM jc11 0 1 dX11_readsMap_57 lk_X11_7 lr_0.1 lr_0.2 rfl rfl (by decide) rfl ?_
            refine r_bipush C dX11_readsMap_60 rfl ?_
            refine r_iald C hM rfl dX11_readsMap_62 lr_1.1 lr_1.2 (show (0 : Int) ≤ 6 ∧ (6 : Int) < 1062 by decide) ⟨by decide, by decide⟩ ?_
            replace h := jn_some h
            obtain ⟨k92, hk92, h⟩ := h
            have hJ92 : ∀ (_ : Unit), ∀ (H : Heap) (locs : List Loc) (ls : Array Slot), k92 () = some M' → HS E z LyR M sM H locs → lv_has ls 3 [(0, .ref (z + 0))] → W p l e ({ frames := 4, cells := 0, slots := 0, locals := 83 } : Room) sM m (([.ref (z + 0)] : List Value).toArray) below meth c H locs 0 0 (MQ below (va_Qv (fun (_ : Unit) => Mok LyR M') (fun _ t => va_P (eD E) vwCl (Wd (eC E) z LyR M') t.heap) (eA E)) (([.ref (z + 0)] : List Value).toArray) sM 0 0 (eA E)) (F0 m 92 ls []) := by
              intro _ H locs ls h hMj92 hl
              subst hk92
              try dsimp only at h
              refine r_aload_n C dX11_readsMap_92 rfl hl 0 rfl ?_
              replace h := bd_some h
              obtain ⟨r93, hf93, h⟩ := h
              refine r_callI (As := []) (rest := []) C hMj92 (c_X11_isGood l E z hf93) jy_X11_isGood lk_X11_277 dX11_readsMap_93 (recvW C hMj92 jc11 lr_0.1 lr_0.2 rfl) rfl rfl hl.1 (Nat.le_of_ble_eq_true rfl) ⟨Nat.le_of_ble_eq_true rfl, Nat.le_of_ble_eq_true rfl⟩ ⟨rfl, rfl⟩ ⟨Nat.zero_le _, Nat.zero_le _⟩ (fun H locs hr93 hM29 => ?_)
              refine r_if_ne C 100 hr93 dX11_readsMap_96 (by decide) (fun cq => ?_) (fun cq => ?_)
              · replace h := ifn cq h
                refine r_bipush C dX11_readsMap_100 rfl ?_
                refine r_bipush C dX11_readsMap_102 rfl ?_
                refine r_aload_n C dX11_readsMap_104 rfl hl 0 rfl ?_
                refine r_getR C hM29 jc11 0 1 dX11_readsMap_105 lk_X11_7 lr_0.1 lr_0.2 rfl rfl (by decide) rfl ?_
                refine r_bipush C dX11_readsMap_108 rfl ?_
                refine r_iald C hM29 rfl dX11_readsMap_110 lr_1.1 lr_1.2 (show (0 : Int) ≤ 6 ∧ (6 : Int) < 1062 by decide) ⟨by decide, by decide⟩ ?_
                replace h := ck_some h
                obtain ⟨hc30, h⟩ := h
                refine r_imul C dX11_readsMap_111 ?_
                replace h := ck_some h
                obtain ⟨hc31, h⟩ := h
                refine r_iadd C dX11_readsMap_112 ?_
                refine r_istore_n C [(1, .int (jI (36 + (10 * (M 1 (6 : Int).toNat))))), (0, .ref (z + 0))] dX11_readsMap_113 rfl hl (by decide) rfl (fun ls hl => ?_)
                refine r_aload_n C dX11_readsMap_114 rfl hl 1 rfl ?_
                refine r_getR C hM29 jc11 0 1 dX11_readsMap_115 lk_X11_7 lr_0.1 lr_0.2 rfl rfl (by decide) rfl ?_
                refine r_iload_n C dX11_readsMap_118 rfl hl 0 rfl ?_
                refine r_aload_n C dX11_readsMap_119 rfl hl 1 rfl ?_
                refine r_getI C hM29 jc11 30 rfl dX11_readsMap_120 lk_X11_249 lr_0.1 lr_0.2 rfl rfl (by decide) rfl ?_
                refine r_aload_n C dX11_readsMap_123 rfl hl 1 rfl ?_
                refine r_getI C hM29 jc11 31 rfl dX11_readsMap_124 lk_X11_252 lr_0.1 lr_0.2 rfl rfl (by decide) rfl ?_
                replace h := ck_some h
                obtain ⟨hc32, h⟩ := h
                refine r_isub C dX11_readsMap_127 ?_
                replace h := ck_some h
                obtain ⟨hc33, h⟩ := h
                refine r_iast C hM29 dX11_readsMap_128 lr_1.1 lr_1.2 hc33 hc31 hc32 (fun H locs hM34 => ?_)
                replace h := lt_some h
                obtain ⟨N35, eN35, h⟩ := h
                rw [← eN35] at hM34
                refine r_iconst C dX11_readsMap_129 ?_
                refine r_istore_n C [(2, .int (jI 0)), (1, .int (jI (36 + (10 * (M 1 (6 : Int).toNat))))), (0, .ref (z + 0))] dX11_readsMap_130 rfl hl (by decide) rfl (fun ls hl => ?_)
                obtain ⟨y1, ey1⟩ : ∃ y : Int, y = (36 + (10 * (M 1 (6 : Int).toNat))) := ⟨_, rfl⟩
                have hy1 : inR y1 := by rw [ey1]; exact hc31
                have hL131 : ∀ n131 : Nat, ∀ (x2 : Int) (M : Mem), inR x2 → ∀ (H : Heap) (locs : List Loc) (ls : Array Slot), f_X11_readsMap_L131 y1 n131  x2 M = some M' → HS E z LyR M sM H locs → lv_has ls 3 [(0, .ref (z + 0)), (1, .int (jI y1)), (2, .int (jI x2))] → W p l e ({ frames := 4, cells := 0, slots := 0, locals := 83 } : Room) sM m (([.ref (z + 0)] : List Value).toArray) below meth c H locs 0 0 (MQ below (va_Qv (fun (_ : Unit) => Mok LyR M') (fun _ t => va_P (eD E) vwCl (Wd (eC E) z LyR M') t.heap) (eA E)) (([.ref (z + 0)] : List Value).toArray) sM 0 0 (eA E)) (F0 m 131 ls []) := by
                  intro n131
                  induction n131 with
                  | zero =>
                    intro x2 M hx2 H locs ls h hM hl
                    exact absurd h (by simp [f_X11_readsMap_L131])
                  | succ n131 ih131 =>
                    intro x2 M hx2 H locs ls h hM hl
                    rw [f_X11_readsMap_L131] at h
                    refine r_iload_n C dX11_readsMap_131 rfl hl 2 rfl ?_
                    refine r_aload_n C dX11_readsMap_132 rfl hl 0 rfl ?_
                    refine r_getR C hM jc11 0 1 dX11_readsMap_133 lk_X11_7 lr_0.1 lr_0.2 rfl rfl (by decide) rfl ?_
                    refine r_iload_n C dX11_readsMap_136 rfl hl 1 rfl ?_
                    replace h := ck_some h
                    obtain ⟨hc36, h⟩ := h
                    refine r_iald C hM rfl dX11_readsMap_137 lr_1.1 lr_1.2 hc36 hy1 ?_
                    refine r_icmp_ge C 168 hx2 (hM.ok _ _) dX11_readsMap_138 (by decide) (fun cq => ?_) (fun cq => ?_)
                    · replace h := ifp cq h
                      refine r_aload_n C dX11_readsMap_168 rfl hl 0 rfl ?_
                      refine r_getR C hM jc11 0 1 dX11_readsMap_169 lk_X11_7 lr_0.1 lr_0.2 rfl rfl (by decide) rfl ?_
                      refine r_bipush C dX11_readsMap_172 rfl ?_
                      refine r_dup2 C dX11_readsMap_174 rfl rfl ?_
                      refine r_iald C hM rfl dX11_readsMap_175 lr_1.1 lr_1.2 (show (0 : Int) ≤ 6 ∧ (6 : Int) < 1062 by decide) ⟨by decide, by decide⟩ ?_
                      refine r_iconst C dX11_readsMap_176 ?_
                      replace h := ck_some h
                      obtain ⟨hc37, h⟩ := h
                      refine r_iadd C dX11_readsMap_177 ?_
                      refine r_iast C hM dX11_readsMap_178 lr_1.1 lr_1.2 (show (0 : Int) ≤ 6 ∧ (6 : Int) < 1062 by decide) ⟨by decide, by decide⟩ hc37 (fun H locs hM38 => ?_)
                      replace h := lt_some h
                      obtain ⟨N39, eN39, h⟩ := h
                      rw [← eN39] at hM38
                      refine r_aload_n C dX11_readsMap_179 rfl hl 0 rfl ?_
                      replace h := bd_some h
                      obtain ⟨M180, hf180, h⟩ := h
                      refine r_callV (As := []) (rest := []) C hM38 (c_X11_scans l E z hf180) jy_X11_scans lk_X11_281 dX11_readsMap_180 (recvW C hM38 jc11 lr_0.1 lr_0.2 rfl) rfl rfl hl.1 (Nat.le_of_ble_eq_true rfl) ⟨Nat.le_of_ble_eq_true rfl, Nat.le_of_ble_eq_true rfl⟩ ⟨rfl, rfl⟩ ⟨Nat.zero_le _, Nat.zero_le _⟩ (fun H locs hM40 => ?_)
                      exact r_return C hM40 hr hlk h dX11_readsMap_183
                    · replace h := ifn cq h
                      refine r_aload_n C dX11_readsMap_141 rfl hl 0 rfl ?_
                      refine r_getR C hM jc11 0 1 dX11_readsMap_142 lk_X11_7 lr_0.1 lr_0.2 rfl rfl (by decide) rfl ?_
                      refine r_iload_n C dX11_readsMap_145 rfl hl 1 rfl ?_
                      refine r_iconst C dX11_readsMap_146 ?_
                      replace h := ck_some h
                      obtain ⟨hc41, h⟩ := h
                      refine r_iadd C dX11_readsMap_147 ?_
                      refine r_iload_n C dX11_readsMap_148 rfl hl 2 rfl ?_
                      replace h := ck_some h
                      obtain ⟨hc42, h⟩ := h
                      refine r_iadd C dX11_readsMap_149 ?_
                      refine r_aload_n C dX11_readsMap_150 rfl hl 0 rfl ?_
                      refine r_getR C hM jc11 28 22 dX11_readsMap_151 lk_X11_74 lr_0.1 lr_0.2 rfl rfl (by decide) rfl ?_
                      refine r_aload_n C dX11_readsMap_154 rfl hl 0 rfl ?_
                      refine r_getI C hM jc11 31 rfl dX11_readsMap_155 lk_X11_252 lr_0.1 lr_0.2 rfl rfl (by decide) rfl ?_
                      refine r_iload_n C dX11_readsMap_158 rfl hl 2 rfl ?_
                      replace h := ck_some h
                      obtain ⟨hc43, h⟩ := h
                      refine r_iadd C dX11_readsMap_159 ?_
                      replace h := ck_some h
                      obtain ⟨hc44, h⟩ := h
                      refine r_iald C hM rfl dX11_readsMap_160 lr_22.1 lr_22.2 hc44 hc43 ?_
                      replace h := ck_some h
                      obtain ⟨hc45, h⟩ := h
                      refine r_iast C hM dX11_readsMap_161 lr_1.1 lr_1.2 hc45 hc42 (hM.ok _ _) (fun H locs hM46 => ?_)
                      replace h := lt_some h
                      obtain ⟨N47, eN47, h⟩ := h
                      rw [← eN47] at hM46
                      replace h := ck_some h
                      obtain ⟨hc48, h⟩ := h
                      refine r_iinc (j := 2) (x := x2) C [(2, .int (jI (x2 + 1))), (0, .ref (z + 0)), (1, .int (jI y1))] dX11_readsMap_162 hl rfl (by decide) rfl (fun ls hl => ?_)
                      refine r_goto C 131 dX11_readsMap_165 (by decide) ?_
                      exact ih131 _ _ hc48 _ _ _ h hM46 (lv_sub hl [1, 2, 0] rfl)
                rw [← ey1] at h
                have hl := lv_sub (l' := [(0, .ref (z + 0)), (1, .int (jI y1)), (2, .int (jI 0))]) hl [2, 1, 0] (by rw [ey1]; rfl)
                exact hL131 jFuel _ _ ⟨by decide, by decide⟩ _ _ _ h hM34 hl
              · replace h := ifp cq h
                exact r_return C hM29 hr hlk h dX11_readsMap_99
            refine r_icmp_ge C 92 hx1 (hM.ok _ _) dX11_readsMap_63 (by decide) (fun cq => ?_) (fun cq => ?_)
            · replace h := ifp cq h
              exact hJ92 () _ _ _ h hM (lv_sub hl [0] rfl)
            · replace h := ifn cq h
              refine r_aload_n C dX11_readsMap_66 rfl hl 0 rfl ?_
              replace h := bd_some h
              obtain ⟨r67, hf67, h⟩ := h
              refine r_callI (As := []) (rest := []) C hM (c_X11_isGood l E z hf67) jy_X11_isGood lk_X11_277 dX11_readsMap_67 (recvW C hM jc11 lr_0.1 lr_0.2 rfl) rfl rfl hl.1 (Nat.le_of_ble_eq_true rfl) ⟨Nat.le_of_ble_eq_true rfl, Nat.le_of_ble_eq_true rfl⟩ ⟨rfl, rfl⟩ ⟨Nat.zero_le _, Nat.zero_le _⟩ (fun H locs hr67 hM49 => ?_)
              refine r_if_eq C 92 hr67 dX11_readsMap_70 (by decide) (fun cq => ?_) (fun cq => ?_)
              · replace h := ifp cq h
                exact hJ92 () _ _ _ h hM49 (lv_sub hl [0] rfl)
              · replace h := ifn cq h
                refine r_aload_n C dX11_readsMap_73 rfl hl 0 rfl ?_
                refine r_iload_n C dX11_readsMap_74 rfl hl 1 rfl ?_
                replace h := bd_some h
                obtain ⟨r75, hf75, h⟩ := h
                refine r_callI (As := [.int (jI x1)]) (rest := []) C hM49 (c_X11_isTold l E z hx1 hf75) jy_X11_isTold lk_X11_311 dX11_readsMap_75 (recvW C hM49 jc11 lr_0.1 lr_0.2 rfl) rfl rfl hl.1 (Nat.le_of_ble_eq_true rfl) ⟨Nat.le_of_ble_eq_true rfl, Nat.le_of_ble_eq_true rfl⟩ ⟨rfl, rfl⟩ ⟨Nat.zero_le _, Nat.zero_le _⟩ (fun H locs hr75 hM50 => ?_)
                refine r_if_eq C 86 hr75 dX11_readsMap_78 (by decide) (fun cq => ?_) (fun cq => ?_)
                · replace h := ifp cq h
                  replace h := ck_some h
                  obtain ⟨hc51, h⟩ := h
                  refine r_iinc (j := 1) (x := x1) C [(1, .int (jI (x1 + 1))), (0, .ref (z + 0))] dX11_readsMap_86 hl rfl (by decide) rfl (fun ls hl => ?_)
                  refine r_goto C 55 dX11_readsMap_89 (by decide) ?_
                  exact ih55 _ _ hc51 _ _ _ h hM50 (lv_sub hl [1, 0] rfl)
                · replace h := ifn cq h
                  refine r_aload_n C dX11_readsMap_81 rfl hl 0 rfl ?_
                  refine r_iconst C dX11_readsMap_82 ?_
                  replace h := bd_some h
                  obtain ⟨M83, hf83, h⟩ := h
                  refine r_callV (As := [.int (jI 3)]) (rest := []) C hM50 (c_X11_fails l E z ⟨by decide, by decide⟩ hf83) jy_X11_fails lk_X11_295 dX11_readsMap_83 (recvW C hM50 jc11 lr_0.1 lr_0.2 rfl) rfl rfl hl.1 (Nat.le_of_ble_eq_true rfl) ⟨Nat.le_of_ble_eq_true rfl, Nat.le_of_ble_eq_true rfl⟩ ⟨rfl, rfl⟩ ⟨Nat.zero_le _, Nat.zero_le _⟩ (fun H locs hM52 => ?_)
                  replace h := ck_some h
                  obtain ⟨hc53, h⟩ := h
                  refine r_iinc (j := 1) (x := x1) C [(1, .int (jI (x1 + 1))), (0, .ref (z + 0))] dX11_readsMap_86 hl rfl (by decide) rfl (fun ls hl => ?_)
                  refine r_goto C 55 dX11_readsMap_89 (by decide) ?_
                  exact ih55 _ _ hc53 _ _ _ h hM52 (lv_sub hl [1, 0] rfl)
        exact hL55 jFuel _ _ ⟨by decide, by decide⟩ _ _ _ h hM28 (lv_sub hl [1, 0] rfl)
    refine r_icmp_eq C 34 (hM1.ok _ _) ⟨by decide, by decide⟩ dX11_readsMap_26 (by decide) (fun cq => ?_) (fun cq => ?_)
    · replace h := ifp cq h
      exact hJ34 _ _ _ _ h hM1 (lv_sub hl [0] rfl)
    · replace h := ifn cq h
      refine r_aload_n C dX11_readsMap_29 rfl hl 0 rfl ?_
      refine r_iconst C dX11_readsMap_30 ?_
      replace h := bd_some h
      obtain ⟨M31, hf31, h⟩ := h
      refine r_callV (As := [.int (jI 1)]) (rest := []) C hM1 (c_X11_fails l E z ⟨by decide, by decide⟩ hf31) jy_X11_fails lk_X11_295 dX11_readsMap_31 (recvW C hM1 jc11 lr_0.1 lr_0.2 rfl) rfl rfl hl.1 (Nat.le_of_ble_eq_true rfl) ⟨Nat.le_of_ble_eq_true rfl, Nat.le_of_ble_eq_true rfl⟩ ⟨rfl, rfl⟩ ⟨Nat.zero_le _, Nat.zero_le _⟩ (fun H locs hM54 => ?_)
      exact hJ34 _ _ _ _ h hM54 (lv_sub hl [0] rfl)
  refine r_icmp_ne C 17 (hM0.ok _ _) ⟨by decide, by decide⟩ dX11_readsMap_9 (by decide) (fun cq => ?_) (fun cq => ?_)
  · replace h := ifn cq h
    exact hJ17 _ _ _ _ h hM0 (lv_sub hl [0] rfl)
  · replace h := ifp cq h
    refine r_aload_n C dX11_readsMap_12 rfl hl 0 rfl ?_
    refine r_iconst C dX11_readsMap_13 ?_
    replace h := bd_some h
    obtain ⟨M14, hf14, h⟩ := h
    refine r_callV (As := [.int (jI 4)]) (rest := []) C hM0 (c_X11_fails l E z ⟨by decide, by decide⟩ hf14) jy_X11_fails lk_X11_295 dX11_readsMap_14 (recvW C hM0 jc11 lr_0.1 lr_0.2 rfl) rfl rfl hl.1 (Nat.le_of_ble_eq_true rfl) ⟨Nat.le_of_ble_eq_true rfl, Nat.le_of_ble_eq_true rfl⟩ ⟨rfl, rfl⟩ ⟨Nat.zero_le _, Nat.zero_le _⟩ (fun H locs hM55 => ?_)
    exact hJ17 _ _ _ _ h hM55 (lv_sub hl [0] rfl)
set_option maxRecDepth 100000 in
set_option maxHeartbeats 4000000 in
theorem c_X11_readsBan (l : Launch) (E : jE) (z : Nat) {M M' : Mem} (h : f_X11_readsBan M = some M') : CtV l yX11_readsBan cX11_readsBan 5 none { frames := 5, cells := 0, slots := 0, locals := 106 } E z LyR [.ref (z + 0)] M M' := by
  refine jm (by decide +kernel) (Nat.le_of_ble_eq_true rfl) ?_
  intro p e sM m below meth c C hM0 hr hlk ls hl
  replace hl : lv_has ls 5 [(0, .ref (z + 0))] := hl
  unfold f_X11_readsBan at h
  refine r_aload_n C dX11_readsBan_0 rfl hl 0 rfl ?_
  refine r_getR C hM0 jc11 0 1 dX11_readsBan_1 lk_X11_7 lr_0.1 lr_0.2 rfl rfl (by decide) rfl ?_
  refine r_bipush C dX11_readsBan_4 rfl ?_
  refine r_iald C hM0 rfl dX11_readsBan_6 lr_1.1 lr_1.2 (show (0 : Int) ≤ 7 ∧ (7 : Int) < 1062 by decide) ⟨by decide, by decide⟩ ?_
  refine r_bipush C dX11_readsBan_7 rfl ?_
  replace h := jn_some h
  obtain ⟨k17, hk17, h⟩ := h
  have hJ17 : ∀ (M17 : Mem), ∀ (H : Heap) (locs : List Loc) (ls : Array Slot), k17 M17 = some M' → HS E z LyR M17 sM H locs → lv_has ls 5 [(0, .ref (z + 0))] → W p l e ({ frames := 5, cells := 0, slots := 0, locals := 106 } : Room) sM m (([.ref (z + 0)] : List Value).toArray) below meth c H locs 0 0 (MQ below (va_Qv (fun (_ : Unit) => Mok LyR M') (fun _ t => va_P (eD E) vwCl (Wd (eC E) z LyR M') t.heap) (eA E)) (([.ref (z + 0)] : List Value).toArray) sM 0 0 (eA E)) (F0 m 17 ls []) := by
    intro M17 H locs ls h hMj17 hl
    subst hk17
    try dsimp only at h
    refine r_aload_n C dX11_readsBan_17 rfl hl 0 rfl ?_
    replace h := bd_some h
    obtain ⟨M18, hf18, h⟩ := h
    refine r_callV (As := []) (rest := []) C hMj17 (c_X11_goesOn l E z hf18) jy_X11_goesOn lk_X11_298 dX11_readsBan_18 (recvW C hMj17 jc11 lr_0.1 lr_0.2 rfl) rfl rfl hl.1 (Nat.le_of_ble_eq_true rfl) ⟨Nat.le_of_ble_eq_true rfl, Nat.le_of_ble_eq_true rfl⟩ ⟨rfl, rfl⟩ ⟨Nat.zero_le _, Nat.zero_le _⟩ (fun H locs hM1 => ?_)
    refine r_aload_n C dX11_readsBan_21 rfl hl 0 rfl ?_
    refine r_iconst C dX11_readsBan_22 ?_
    refine r_iconst C dX11_readsBan_23 ?_
    replace h := bd_some h
    obtain ⟨⟨r24, M24⟩, hf24, h⟩ := h
    try dsimp only at h
    refine r_callI (As := [.int (jI 0), .int (jI 5)]) (rest := []) C hM1 (c_X11_reads l E z ⟨by decide, by decide⟩ ⟨by decide, by decide⟩ hf24) jy_X11_reads lk_X11_308 dX11_readsBan_24 (recvW C hM1 jc11 lr_0.1 lr_0.2 rfl) rfl rfl hl.1 (Nat.le_of_ble_eq_true rfl) ⟨Nat.le_of_ble_eq_true rfl, Nat.le_of_ble_eq_true rfl⟩ ⟨rfl, rfl⟩ ⟨Nat.zero_le _, Nat.zero_le _⟩ (fun H locs hr24 hM2 => ?_)
    refine r_istore_n C [(1, .int (jI r24)), (0, .ref (z + 0))] dX11_readsBan_27 rfl hl (by decide) rfl (fun ls hl => ?_)
    refine r_aload_n C dX11_readsBan_28 rfl hl 1 rfl ?_
    refine r_iconst C dX11_readsBan_29 ?_
    refine r_bipush C dX11_readsBan_30 rfl ?_
    replace h := bd_some h
    obtain ⟨⟨r32, M32⟩, hf32, h⟩ := h
    try dsimp only at h
    refine r_callI (As := [.int (jI 0), .int (jI 99)]) (rest := []) C hM2 (c_X11_reads l E z ⟨by decide, by decide⟩ ⟨by decide, by decide⟩ hf32) jy_X11_reads lk_X11_308 dX11_readsBan_32 (recvW C hM2 jc11 lr_0.1 lr_0.2 rfl) rfl rfl hl.1 (Nat.le_of_ble_eq_true rfl) ⟨Nat.le_of_ble_eq_true rfl, Nat.le_of_ble_eq_true rfl⟩ ⟨rfl, rfl⟩ ⟨Nat.zero_le _, Nat.zero_le _⟩ (fun H locs hr32 hM3 => ?_)
    refine r_istore_n C [(2, .int (jI r32)), (1, .int (jI r24)), (0, .ref (z + 0))] dX11_readsBan_35 rfl hl (by decide) rfl (fun ls hl => ?_)
    refine r_aload_n C dX11_readsBan_36 rfl hl 2 rfl ?_
    refine r_iload_n C dX11_readsBan_37 rfl hl 0 rfl ?_
    refine r_bipush C dX11_readsBan_38 rfl ?_
    replace h := bd_some h
    obtain ⟨⟨r40, M40⟩, hf40, h⟩ := h
    try dsimp only at h
    refine r_callI (As := [.int (jI r32), .int (jI 99)]) (rest := []) C hM3 (c_X11_reads l E z hr32 ⟨by decide, by decide⟩ hf40) jy_X11_reads lk_X11_308 dX11_readsBan_40 (recvW C hM3 jc11 lr_0.1 lr_0.2 rfl) rfl rfl hl.1 (Nat.le_of_ble_eq_true rfl) ⟨Nat.le_of_ble_eq_true rfl, Nat.le_of_ble_eq_true rfl⟩ ⟨rfl, rfl⟩ ⟨Nat.zero_le _, Nat.zero_le _⟩ (fun H locs hr40 hM4 => ?_)
    refine r_istore_n C [(3, .int (jI r40)), (2, .int (jI r32)), (1, .int (jI r24)), (0, .ref (z + 0))] dX11_readsBan_43 rfl hl (by decide) rfl (fun ls hl => ?_)
    refine r_aload_n C dX11_readsBan_44 rfl hl 3 rfl ?_
    replace h := bd_some h
    obtain ⟨r45, hf45, h⟩ := h
    refine r_callI (As := []) (rest := []) C hM4 (c_X11_isGood l E z hf45) jy_X11_isGood lk_X11_277 dX11_readsBan_45 (recvW C hM4 jc11 lr_0.1 lr_0.2 rfl) rfl rfl hl.1 (Nat.le_of_ble_eq_true rfl) ⟨Nat.le_of_ble_eq_true rfl, Nat.le_of_ble_eq_true rfl⟩ ⟨rfl, rfl⟩ ⟨Nat.zero_le _, Nat.zero_le _⟩ (fun H locs hr45 hM5 => ?_)
    refine r_if_ne C 52 hr45 dX11_readsBan_48 (by decide) (fun cq => ?_) (fun cq => ?_)
    · replace h := ifn cq h
      refine r_bipush C dX11_readsBan_52 rfl ?_
      refine r_iconst C dX11_readsBan_54 ?_
      refine r_aload_n C dX11_readsBan_55 rfl hl 3 rfl ?_
      refine r_getR C hM5 jc11 0 1 dX11_readsBan_56 lk_X11_7 lr_0.1 lr_0.2 rfl rfl (by decide) rfl ?_
      refine r_bipush C dX11_readsBan_59 rfl ?_
      refine r_iald C hM5 rfl dX11_readsBan_61 lr_1.1 lr_1.2 (show (0 : Int) ≤ 7 ∧ (7 : Int) < 1062 by decide) ⟨by decide, by decide⟩ ?_
      replace h := ck_some h
      obtain ⟨hc6, h⟩ := h
      refine r_imul C dX11_readsBan_62 ?_
      replace h := ck_some h
      obtain ⟨hc7, h⟩ := h
      refine r_iadd C dX11_readsBan_63 ?_
      refine r_istore C [(4, .int (jI (96 + (3 * (M40 1 (7 : Int).toNat))))), (3, .int (jI r40)), (2, .int (jI r32)), (1, .int (jI r24)), (0, .ref (z + 0))] dX11_readsBan_64 hl (by decide) rfl (fun ls hl => ?_)
      refine r_aload_n C dX11_readsBan_66 rfl hl 4 rfl ?_
      refine r_getR C hM5 jc11 0 1 dX11_readsBan_67 lk_X11_7 lr_0.1 lr_0.2 rfl rfl (by decide) rfl ?_
      refine r_iload C dX11_readsBan_70 hl 0 rfl ?_
      refine r_iload_n C dX11_readsBan_72 rfl hl 3 rfl ?_
      replace h := ck_some h
      obtain ⟨hc8, h⟩ := h
      refine r_iast C hM5 dX11_readsBan_73 lr_1.1 lr_1.2 hc8 hc7 hr24 (fun H locs hM9 => ?_)
      replace h := lt_some h
      obtain ⟨N10, eN10, h⟩ := h
      rw [← eN10] at hM9
      refine r_aload_n C dX11_readsBan_74 rfl hl 4 rfl ?_
      refine r_getR C hM9 jc11 0 1 dX11_readsBan_75 lk_X11_7 lr_0.1 lr_0.2 rfl rfl (by decide) rfl ?_
      refine r_iload C dX11_readsBan_78 hl 0 rfl ?_
      refine r_iconst C dX11_readsBan_80 ?_
      replace h := ck_some h
      obtain ⟨hc11, h⟩ := h
      refine r_iadd C dX11_readsBan_81 ?_
      refine r_iload_n C dX11_readsBan_82 rfl hl 2 rfl ?_
      replace h := ck_some h
      obtain ⟨hc12, h⟩ := h
      refine r_iast C hM9 dX11_readsBan_83 lr_1.1 lr_1.2 hc12 hc11 hr32 (fun H locs hM13 => ?_)
      replace h := lt_some h
      obtain ⟨N14, eN14, h⟩ := h
      rw [← eN14] at hM13
      refine r_aload_n C dX11_readsBan_84 rfl hl 4 rfl ?_
      refine r_getR C hM13 jc11 0 1 dX11_readsBan_85 lk_X11_7 lr_0.1 lr_0.2 rfl rfl (by decide) rfl ?_
      refine r_iload C dX11_readsBan_88 hl 0 rfl ?_
      refine r_iconst C dX11_readsBan_90 ?_
      replace h := ck_some h
      obtain ⟨hc15, h⟩ := h
      refine r_iadd C dX11_readsBan_91 ?_
      refine r_iload_n C dX11_readsBan_92 rfl hl 1 rfl ?_
      replace h := ck_some h
      obtain ⟨hc16, h⟩ := h
      refine r_iast C hM13 dX11_readsBan_93 lr_1.1 lr_1.2 hc16 hc15 hr40 (fun H locs hM17 => ?_)
      replace h := lt_some h
      obtain ⟨N18, eN18, h⟩ := h
      rw [← eN18] at hM17
      refine r_aload_n C dX11_readsBan_94 rfl hl 4 rfl ?_
      refine r_getR C hM17 jc11 0 1 dX11_readsBan_95 lk_X11_7 lr_0.1 lr_0.2 rfl rfl (by decide) rfl ?_
      refine r_bipush C dX11_readsBan_98 rfl ?_
      refine r_dup2 C dX11_readsBan_100 rfl rfl ?_
      refine r_iald C hM17 rfl dX11_readsBan_101 lr_1.1 lr_1.2 (show (0 : Int) ≤ 7 ∧ (7 : Int) < 1062 by decide) ⟨by decide, by decide⟩ ?_
      refine r_iconst C dX11_readsBan_102 ?_
      replace h := ck_some h
      obtain ⟨hc19, h⟩ := h
      refine r_iadd C dX11_readsBan_103 ?_
      refine r_iast C hM17 dX11_readsBan_104 lr_1.1 lr_1.2 (show (0 : Int) ≤ 7 ∧ (7 : Int) < 1062 by decide) ⟨by decide, by decide⟩ hc19 (fun H locs hM20 => ?_)
      replace h := lt_some h
      obtain ⟨N21, eN21, h⟩ := h
      rw [← eN21] at hM20
      exact r_return C hM20 hr hlk h dX11_readsBan_105
    · replace h := ifp cq h
      exact r_return C hM5 hr hlk h dX11_readsBan_51
  refine r_icmp_ne C 17 (hM0.ok _ _) ⟨by decide, by decide⟩ dX11_readsBan_9 (by decide) (fun cq => ?_) (fun cq => ?_)
  · replace h := ifn cq h
    exact hJ17 _ _ _ _ h hM0 (lv_sub hl [0] rfl)
  · replace h := ifp cq h
    refine r_aload_n C dX11_readsBan_12 rfl hl 0 rfl ?_
    refine r_iconst C dX11_readsBan_13 ?_
    replace h := bd_some h
    obtain ⟨M14, hf14, h⟩ := h
    refine r_callV (As := [.int (jI 4)]) (rest := []) C hM0 (c_X11_fails l E z ⟨by decide, by decide⟩ hf14) jy_X11_fails lk_X11_295 dX11_readsBan_14 (recvW C hM0 jc11 lr_0.1 lr_0.2 rfl) rfl rfl hl.1 (Nat.le_of_ble_eq_true rfl) ⟨Nat.le_of_ble_eq_true rfl, Nat.le_of_ble_eq_true rfl⟩ ⟨rfl, rfl⟩ ⟨Nat.zero_le _, Nat.zero_le _⟩ (fun H locs hM22 => ?_)
    exact hJ17 _ _ _ _ h hM22 (lv_sub hl [0] rfl)
set_option maxRecDepth 100000 in
set_option maxHeartbeats 4000000 in
theorem c_X11_readsStatement (l : Launch) (E : jE) (z : Nat) {M M' : Mem} (h : f_X11_readsStatement M = some M') : CtV l yX11_readsStatement cX11_readsStatement 1 none { frames := 7, cells := 0, slots := 0, locals := 323 } E z LyR [.ref (z + 0)] M M' := by
  refine jm (by decide +kernel) (Nat.le_of_ble_eq_true rfl) ?_
  intro p e sM m below meth c C hM0 hr hlk ls hl
  replace hl : lv_has ls 1 [(0, .ref (z + 0))] := hl
  unfold f_X11_readsStatement at h
  refine r_aload_n C dX11_readsStatement_0 rfl hl 0 rfl ?_
  refine r_ldcSW (i := 0) C (List.mem_of_getElem? (i := 24) rfl) dX11_readsStatement_1 ?_
  replace h := bd_some h
  obtain ⟨r4, hf4, h⟩ := h
  refine r_callI (As := [.ref (eK E 0)]) (rest := []) C hM0 (c_X11_isWord l E z (show 0 < nST by decide) hf4) jy_X11_isWord lk_X11_301 dX11_readsStatement_4 (recvW C hM0 jc11 lr_0.1 lr_0.2 rfl) rfl rfl hl.1 (Nat.le_of_ble_eq_true rfl) ⟨Nat.le_of_ble_eq_true rfl, Nat.le_of_ble_eq_true rfl⟩ ⟨rfl, rfl⟩ ⟨Nat.zero_le _, Nat.zero_le _⟩ (fun H locs hr4 hM1 => ?_)
  refine r_if_eq C 17 hr4 dX11_readsStatement_7 (by decide) (fun cq => ?_) (fun cq => ?_)
  · replace h := ifp cq h
    refine r_aload_n C dX11_readsStatement_17 rfl hl 0 rfl ?_
    refine r_ldcSW (i := 1) C (List.mem_of_getElem? (i := 25) rfl) dX11_readsStatement_18 ?_
    replace h := bd_some h
    obtain ⟨r21, hf21, h⟩ := h
    refine r_callI (As := [.ref (eK E 1)]) (rest := []) C hM1 (c_X11_isWord l E z (show 1 < nST by decide) hf21) jy_X11_isWord lk_X11_301 dX11_readsStatement_21 (recvW C hM1 jc11 lr_0.1 lr_0.2 rfl) rfl rfl hl.1 (Nat.le_of_ble_eq_true rfl) ⟨Nat.le_of_ble_eq_true rfl, Nat.le_of_ble_eq_true rfl⟩ ⟨rfl, rfl⟩ ⟨Nat.zero_le _, Nat.zero_le _⟩ (fun H locs hr21 hM2 => ?_)
    refine r_if_eq C 34 hr21 dX11_readsStatement_24 (by decide) (fun cq => ?_) (fun cq => ?_)
    · replace h := ifp cq h
      refine r_aload_n C dX11_readsStatement_34 rfl hl 0 rfl ?_
      refine r_ldcSW (i := 2) C (List.mem_of_getElem? (i := 26) rfl) dX11_readsStatement_35 ?_
      replace h := bd_some h
      obtain ⟨r38, hf38, h⟩ := h
      refine r_callI (As := [.ref (eK E 2)]) (rest := []) C hM2 (c_X11_isWord l E z (show 2 < nST by decide) hf38) jy_X11_isWord lk_X11_301 dX11_readsStatement_38 (recvW C hM2 jc11 lr_0.1 lr_0.2 rfl) rfl rfl hl.1 (Nat.le_of_ble_eq_true rfl) ⟨Nat.le_of_ble_eq_true rfl, Nat.le_of_ble_eq_true rfl⟩ ⟨rfl, rfl⟩ ⟨Nat.zero_le _, Nat.zero_le _⟩ (fun H locs hr38 hM3 => ?_)
      refine r_if_eq C 51 hr38 dX11_readsStatement_41 (by decide) (fun cq => ?_) (fun cq => ?_)
      · replace h := ifp cq h
        refine r_aload_n C dX11_readsStatement_51 rfl hl 0 rfl ?_
        refine r_ldcSW (i := 3) C (List.mem_of_getElem? (i := 27) rfl) dX11_readsStatement_52 ?_
        replace h := bd_some h
        obtain ⟨r55, hf55, h⟩ := h
        refine r_callI (As := [.ref (eK E 3)]) (rest := []) C hM3 (c_X11_isWord l E z (show 3 < nST by decide) hf55) jy_X11_isWord lk_X11_301 dX11_readsStatement_55 (recvW C hM3 jc11 lr_0.1 lr_0.2 rfl) rfl rfl hl.1 (Nat.le_of_ble_eq_true rfl) ⟨Nat.le_of_ble_eq_true rfl, Nat.le_of_ble_eq_true rfl⟩ ⟨rfl, rfl⟩ ⟨Nat.zero_le _, Nat.zero_le _⟩ (fun H locs hr55 hM4 => ?_)
        refine r_if_eq C 72 hr55 dX11_readsStatement_58 (by decide) (fun cq => ?_) (fun cq => ?_)
        · replace h := ifp cq h
          refine r_aload_n C dX11_readsStatement_72 rfl hl 0 rfl ?_
          refine r_ldcSW (i := 4) C (List.mem_of_getElem? (i := 28) rfl) dX11_readsStatement_73 ?_
          replace h := bd_some h
          obtain ⟨r76, hf76, h⟩ := h
          refine r_callI (As := [.ref (eK E 4)]) (rest := []) C hM4 (c_X11_isWord l E z (show 4 < nST by decide) hf76) jy_X11_isWord lk_X11_301 dX11_readsStatement_76 (recvW C hM4 jc11 lr_0.1 lr_0.2 rfl) rfl rfl hl.1 (Nat.le_of_ble_eq_true rfl) ⟨Nat.le_of_ble_eq_true rfl, Nat.le_of_ble_eq_true rfl⟩ ⟨rfl, rfl⟩ ⟨Nat.zero_le _, Nat.zero_le _⟩ (fun H locs hr76 hM5 => ?_)
          refine r_if_eq C 93 hr76 dX11_readsStatement_79 (by decide) (fun cq => ?_) (fun cq => ?_)
          · replace h := ifp cq h
            refine r_aload_n C dX11_readsStatement_93 rfl hl 0 rfl ?_
            refine r_ldcSW (i := 5) C (List.mem_of_getElem? (i := 29) rfl) dX11_readsStatement_94 ?_
            replace h := bd_some h
            obtain ⟨r97, hf97, h⟩ := h
            refine r_callI (As := [.ref (eK E 5)]) (rest := []) C hM5 (c_X11_isWord l E z (show 5 < nST by decide) hf97) jy_X11_isWord lk_X11_301 dX11_readsStatement_97 (recvW C hM5 jc11 lr_0.1 lr_0.2 rfl) rfl rfl hl.1 (Nat.le_of_ble_eq_true rfl) ⟨Nat.le_of_ble_eq_true rfl, Nat.le_of_ble_eq_true rfl⟩ ⟨rfl, rfl⟩ ⟨Nat.zero_le _, Nat.zero_le _⟩ (fun H locs hr97 hM6 => ?_)
            refine r_if_eq C 114 hr97 dX11_readsStatement_100 (by decide) (fun cq => ?_) (fun cq => ?_)
            · replace h := ifp cq h
              refine r_aload_n C dX11_readsStatement_114 rfl hl 0 rfl ?_
              refine r_ldcSW (i := 6) C (List.mem_of_getElem? (i := 30) rfl) dX11_readsStatement_115 ?_
              replace h := bd_some h
              obtain ⟨r118, hf118, h⟩ := h
              refine r_callI (As := [.ref (eK E 6)]) (rest := []) C hM6 (c_X11_isWord l E z (show 6 < nST by decide) hf118) jy_X11_isWord lk_X11_301 dX11_readsStatement_118 (recvW C hM6 jc11 lr_0.1 lr_0.2 rfl) rfl rfl hl.1 (Nat.le_of_ble_eq_true rfl) ⟨Nat.le_of_ble_eq_true rfl, Nat.le_of_ble_eq_true rfl⟩ ⟨rfl, rfl⟩ ⟨Nat.zero_le _, Nat.zero_le _⟩ (fun H locs hr118 hM7 => ?_)
              refine r_if_eq C 135 hr118 dX11_readsStatement_121 (by decide) (fun cq => ?_) (fun cq => ?_)
              · replace h := ifp cq h
                refine r_aload_n C dX11_readsStatement_135 rfl hl 0 rfl ?_
                refine r_ldcSW (i := 7) C (List.mem_of_getElem? (i := 31) rfl) dX11_readsStatement_136 ?_
                replace h := bd_some h
                obtain ⟨r139, hf139, h⟩ := h
                refine r_callI (As := [.ref (eK E 7)]) (rest := []) C hM7 (c_X11_isWord l E z (show 7 < nST by decide) hf139) jy_X11_isWord lk_X11_301 dX11_readsStatement_139 (recvW C hM7 jc11 lr_0.1 lr_0.2 rfl) rfl rfl hl.1 (Nat.le_of_ble_eq_true rfl) ⟨Nat.le_of_ble_eq_true rfl, Nat.le_of_ble_eq_true rfl⟩ ⟨rfl, rfl⟩ ⟨Nat.zero_le _, Nat.zero_le _⟩ (fun H locs hr139 hM8 => ?_)
                refine r_if_eq C 156 hr139 dX11_readsStatement_142 (by decide) (fun cq => ?_) (fun cq => ?_)
                · replace h := ifp cq h
                  refine r_aload_n C dX11_readsStatement_156 rfl hl 0 rfl ?_
                  refine r_iconst C dX11_readsStatement_157 ?_
                  replace h := bd_some h
                  obtain ⟨M158, hf158, h⟩ := h
                  refine r_callV (As := [.int (jI 1)]) (rest := []) C hM8 (c_X11_fails l E z ⟨by decide, by decide⟩ hf158) jy_X11_fails lk_X11_295 dX11_readsStatement_158 (recvW C hM8 jc11 lr_0.1 lr_0.2 rfl) rfl rfl hl.1 (Nat.le_of_ble_eq_true rfl) ⟨Nat.le_of_ble_eq_true rfl, Nat.le_of_ble_eq_true rfl⟩ ⟨rfl, rfl⟩ ⟨Nat.zero_le _, Nat.zero_le _⟩ (fun H locs hM9 => ?_)
                  refine r_aload_n C dX11_readsStatement_161 rfl hl 0 rfl ?_
                  refine r_bipush C dX11_readsStatement_162 rfl ?_
                  replace h := bd_some h
                  obtain ⟨M164, hf164, h⟩ := h
                  refine r_callV (As := [.int (jI 59)]) (rest := []) C hM9 (c_X11_needsSign l E z ⟨by decide, by decide⟩ hf164) jy_X11_needsSign lk_X11_343 dX11_readsStatement_164 (recvW C hM9 jc11 lr_0.1 lr_0.2 rfl) rfl rfl hl.1 (Nat.le_of_ble_eq_true rfl) ⟨Nat.le_of_ble_eq_true rfl, Nat.le_of_ble_eq_true rfl⟩ ⟨rfl, rfl⟩ ⟨Nat.zero_le _, Nat.zero_le _⟩ (fun H locs hM10 => ?_)
                  exact r_return C hM10 hr hlk h dX11_readsStatement_167
                · replace h := ifn cq h
                  refine r_aload_n C dX11_readsStatement_145 rfl hl 0 rfl ?_
                  refine r_iconst C dX11_readsStatement_146 ?_
                  refine r_iconst C dX11_readsStatement_147 ?_
                  refine r_bipush C dX11_readsStatement_148 rfl ?_
                  replace h := bd_some h
                  obtain ⟨M150, hf150, h⟩ := h
                  refine r_callV (As := [.int (jI 4), .int (jI 0), .int (jI 100)]) (rest := []) C hM8 (c_X11_readsValue l E z ⟨by decide, by decide⟩ ⟨by decide, by decide⟩ ⟨by decide, by decide⟩ hf150) jy_X11_readsValue lk_X11_331 dX11_readsStatement_150 (recvW C hM8 jc11 lr_0.1 lr_0.2 rfl) rfl rfl hl.1 (Nat.le_of_ble_eq_true rfl) ⟨Nat.le_of_ble_eq_true rfl, Nat.le_of_ble_eq_true rfl⟩ ⟨rfl, rfl⟩ ⟨Nat.zero_le _, Nat.zero_le _⟩ (fun H locs hM11 => ?_)
                  refine r_goto C 161 dX11_readsStatement_153 (by decide) ?_
                  refine r_aload_n C dX11_readsStatement_161 rfl hl 0 rfl ?_
                  refine r_bipush C dX11_readsStatement_162 rfl ?_
                  replace h := bd_some h
                  obtain ⟨M164, hf164, h⟩ := h
                  refine r_callV (As := [.int (jI 59)]) (rest := []) C hM11 (c_X11_needsSign l E z ⟨by decide, by decide⟩ hf164) jy_X11_needsSign lk_X11_343 dX11_readsStatement_164 (recvW C hM11 jc11 lr_0.1 lr_0.2 rfl) rfl rfl hl.1 (Nat.le_of_ble_eq_true rfl) ⟨Nat.le_of_ble_eq_true rfl, Nat.le_of_ble_eq_true rfl⟩ ⟨rfl, rfl⟩ ⟨Nat.zero_le _, Nat.zero_le _⟩ (fun H locs hM12 => ?_)
                  exact r_return C hM12 hr hlk h dX11_readsStatement_167
              · replace h := ifn cq h
                refine r_aload_n C dX11_readsStatement_124 rfl hl 0 rfl ?_
                refine r_iconst C dX11_readsStatement_125 ?_
                refine r_iconst C dX11_readsStatement_126 ?_
                refine r_bipush C dX11_readsStatement_127 rfl ?_
                replace h := bd_some h
                obtain ⟨M129, hf129, h⟩ := h
                refine r_callV (As := [.int (jI 3), .int (jI 1), .int (jI 50)]) (rest := []) C hM7 (c_X11_readsValue l E z ⟨by decide, by decide⟩ ⟨by decide, by decide⟩ ⟨by decide, by decide⟩ hf129) jy_X11_readsValue lk_X11_331 dX11_readsStatement_129 (recvW C hM7 jc11 lr_0.1 lr_0.2 rfl) rfl rfl hl.1 (Nat.le_of_ble_eq_true rfl) ⟨Nat.le_of_ble_eq_true rfl, Nat.le_of_ble_eq_true rfl⟩ ⟨rfl, rfl⟩ ⟨Nat.zero_le _, Nat.zero_le _⟩ (fun H locs hM13 => ?_)
                refine r_goto C 161 dX11_readsStatement_132 (by decide) ?_
                refine r_aload_n C dX11_readsStatement_161 rfl hl 0 rfl ?_
                refine r_bipush C dX11_readsStatement_162 rfl ?_
                replace h := bd_some h
                obtain ⟨M164, hf164, h⟩ := h
                refine r_callV (As := [.int (jI 59)]) (rest := []) C hM13 (c_X11_needsSign l E z ⟨by decide, by decide⟩ hf164) jy_X11_needsSign lk_X11_343 dX11_readsStatement_164 (recvW C hM13 jc11 lr_0.1 lr_0.2 rfl) rfl rfl hl.1 (Nat.le_of_ble_eq_true rfl) ⟨Nat.le_of_ble_eq_true rfl, Nat.le_of_ble_eq_true rfl⟩ ⟨rfl, rfl⟩ ⟨Nat.zero_le _, Nat.zero_le _⟩ (fun H locs hM14 => ?_)
                exact r_return C hM14 hr hlk h dX11_readsStatement_167
            · replace h := ifn cq h
              refine r_aload_n C dX11_readsStatement_103 rfl hl 0 rfl ?_
              refine r_iconst C dX11_readsStatement_104 ?_
              refine r_iconst C dX11_readsStatement_105 ?_
              refine r_bipush C dX11_readsStatement_106 rfl ?_
              replace h := bd_some h
              obtain ⟨M108, hf108, h⟩ := h
              refine r_callV (As := [.int (jI 2), .int (jI 0), .int (jI 50)]) (rest := []) C hM6 (c_X11_readsValue l E z ⟨by decide, by decide⟩ ⟨by decide, by decide⟩ ⟨by decide, by decide⟩ hf108) jy_X11_readsValue lk_X11_331 dX11_readsStatement_108 (recvW C hM6 jc11 lr_0.1 lr_0.2 rfl) rfl rfl hl.1 (Nat.le_of_ble_eq_true rfl) ⟨Nat.le_of_ble_eq_true rfl, Nat.le_of_ble_eq_true rfl⟩ ⟨rfl, rfl⟩ ⟨Nat.zero_le _, Nat.zero_le _⟩ (fun H locs hM15 => ?_)
              refine r_goto C 161 dX11_readsStatement_111 (by decide) ?_
              refine r_aload_n C dX11_readsStatement_161 rfl hl 0 rfl ?_
              refine r_bipush C dX11_readsStatement_162 rfl ?_
              replace h := bd_some h
              obtain ⟨M164, hf164, h⟩ := h
              refine r_callV (As := [.int (jI 59)]) (rest := []) C hM15 (c_X11_needsSign l E z ⟨by decide, by decide⟩ hf164) jy_X11_needsSign lk_X11_343 dX11_readsStatement_164 (recvW C hM15 jc11 lr_0.1 lr_0.2 rfl) rfl rfl hl.1 (Nat.le_of_ble_eq_true rfl) ⟨Nat.le_of_ble_eq_true rfl, Nat.le_of_ble_eq_true rfl⟩ ⟨rfl, rfl⟩ ⟨Nat.zero_le _, Nat.zero_le _⟩ (fun H locs hM16 => ?_)
              exact r_return C hM16 hr hlk h dX11_readsStatement_167
          · replace h := ifn cq h
            refine r_aload_n C dX11_readsStatement_82 rfl hl 0 rfl ?_
            refine r_iconst C dX11_readsStatement_83 ?_
            refine r_iconst C dX11_readsStatement_84 ?_
            refine r_bipush C dX11_readsStatement_85 rfl ?_
            replace h := bd_some h
            obtain ⟨M87, hf87, h⟩ := h
            refine r_callV (As := [.int (jI 1), .int (jI 1), .int (jI 20)]) (rest := []) C hM5 (c_X11_readsValue l E z ⟨by decide, by decide⟩ ⟨by decide, by decide⟩ ⟨by decide, by decide⟩ hf87) jy_X11_readsValue lk_X11_331 dX11_readsStatement_87 (recvW C hM5 jc11 lr_0.1 lr_0.2 rfl) rfl rfl hl.1 (Nat.le_of_ble_eq_true rfl) ⟨Nat.le_of_ble_eq_true rfl, Nat.le_of_ble_eq_true rfl⟩ ⟨rfl, rfl⟩ ⟨Nat.zero_le _, Nat.zero_le _⟩ (fun H locs hM17 => ?_)
            refine r_goto C 161 dX11_readsStatement_90 (by decide) ?_
            refine r_aload_n C dX11_readsStatement_161 rfl hl 0 rfl ?_
            refine r_bipush C dX11_readsStatement_162 rfl ?_
            replace h := bd_some h
            obtain ⟨M164, hf164, h⟩ := h
            refine r_callV (As := [.int (jI 59)]) (rest := []) C hM17 (c_X11_needsSign l E z ⟨by decide, by decide⟩ hf164) jy_X11_needsSign lk_X11_343 dX11_readsStatement_164 (recvW C hM17 jc11 lr_0.1 lr_0.2 rfl) rfl rfl hl.1 (Nat.le_of_ble_eq_true rfl) ⟨Nat.le_of_ble_eq_true rfl, Nat.le_of_ble_eq_true rfl⟩ ⟨rfl, rfl⟩ ⟨Nat.zero_le _, Nat.zero_le _⟩ (fun H locs hM18 => ?_)
            exact r_return C hM18 hr hlk h dX11_readsStatement_167
        · replace h := ifn cq h
          refine r_aload_n C dX11_readsStatement_61 rfl hl 0 rfl ?_
          refine r_iconst C dX11_readsStatement_62 ?_
          refine r_iconst C dX11_readsStatement_63 ?_
          refine r_bipush C dX11_readsStatement_64 rfl ?_
          replace h := bd_some h
          obtain ⟨M66, hf66, h⟩ := h
          refine r_callV (As := [.int (jI 0), .int (jI 0), .int (jI 99)]) (rest := []) C hM4 (c_X11_readsValue l E z ⟨by decide, by decide⟩ ⟨by decide, by decide⟩ ⟨by decide, by decide⟩ hf66) jy_X11_readsValue lk_X11_331 dX11_readsStatement_66 (recvW C hM4 jc11 lr_0.1 lr_0.2 rfl) rfl rfl hl.1 (Nat.le_of_ble_eq_true rfl) ⟨Nat.le_of_ble_eq_true rfl, Nat.le_of_ble_eq_true rfl⟩ ⟨rfl, rfl⟩ ⟨Nat.zero_le _, Nat.zero_le _⟩ (fun H locs hM19 => ?_)
          refine r_goto C 161 dX11_readsStatement_69 (by decide) ?_
          refine r_aload_n C dX11_readsStatement_161 rfl hl 0 rfl ?_
          refine r_bipush C dX11_readsStatement_162 rfl ?_
          replace h := bd_some h
          obtain ⟨M164, hf164, h⟩ := h
          refine r_callV (As := [.int (jI 59)]) (rest := []) C hM19 (c_X11_needsSign l E z ⟨by decide, by decide⟩ hf164) jy_X11_needsSign lk_X11_343 dX11_readsStatement_164 (recvW C hM19 jc11 lr_0.1 lr_0.2 rfl) rfl rfl hl.1 (Nat.le_of_ble_eq_true rfl) ⟨Nat.le_of_ble_eq_true rfl, Nat.le_of_ble_eq_true rfl⟩ ⟨rfl, rfl⟩ ⟨Nat.zero_le _, Nat.zero_le _⟩ (fun H locs hM20 => ?_)
          exact r_return C hM20 hr hlk h dX11_readsStatement_167
      · replace h := ifn cq h
        refine r_aload_n C dX11_readsStatement_44 rfl hl 0 rfl ?_
        replace h := bd_some h
        obtain ⟨M45, hf45, h⟩ := h
        refine r_callV (As := []) (rest := []) C hM3 (c_X11_readsBan l E z hf45) jy_X11_readsBan lk_X11_326 dX11_readsStatement_45 (recvW C hM3 jc11 lr_0.1 lr_0.2 rfl) rfl rfl hl.1 (Nat.le_of_ble_eq_true rfl) ⟨Nat.le_of_ble_eq_true rfl, Nat.le_of_ble_eq_true rfl⟩ ⟨rfl, rfl⟩ ⟨Nat.zero_le _, Nat.zero_le _⟩ (fun H locs hM21 => ?_)
        refine r_goto C 161 dX11_readsStatement_48 (by decide) ?_
        refine r_aload_n C dX11_readsStatement_161 rfl hl 0 rfl ?_
        refine r_bipush C dX11_readsStatement_162 rfl ?_
        replace h := bd_some h
        obtain ⟨M164, hf164, h⟩ := h
        refine r_callV (As := [.int (jI 59)]) (rest := []) C hM21 (c_X11_needsSign l E z ⟨by decide, by decide⟩ hf164) jy_X11_needsSign lk_X11_343 dX11_readsStatement_164 (recvW C hM21 jc11 lr_0.1 lr_0.2 rfl) rfl rfl hl.1 (Nat.le_of_ble_eq_true rfl) ⟨Nat.le_of_ble_eq_true rfl, Nat.le_of_ble_eq_true rfl⟩ ⟨rfl, rfl⟩ ⟨Nat.zero_le _, Nat.zero_le _⟩ (fun H locs hM22 => ?_)
        exact r_return C hM22 hr hlk h dX11_readsStatement_167
    · replace h := ifn cq h
      refine r_aload_n C dX11_readsStatement_27 rfl hl 0 rfl ?_
      replace h := bd_some h
      obtain ⟨M28, hf28, h⟩ := h
      refine r_callV (As := []) (rest := []) C hM2 (c_X11_readsMap l E z hf28) jy_X11_readsMap lk_X11_321 dX11_readsStatement_28 (recvW C hM2 jc11 lr_0.1 lr_0.2 rfl) rfl rfl hl.1 (Nat.le_of_ble_eq_true rfl) ⟨Nat.le_of_ble_eq_true rfl, Nat.le_of_ble_eq_true rfl⟩ ⟨rfl, rfl⟩ ⟨Nat.zero_le _, Nat.zero_le _⟩ (fun H locs hM23 => ?_)
      refine r_goto C 161 dX11_readsStatement_31 (by decide) ?_
      refine r_aload_n C dX11_readsStatement_161 rfl hl 0 rfl ?_
      refine r_bipush C dX11_readsStatement_162 rfl ?_
      replace h := bd_some h
      obtain ⟨M164, hf164, h⟩ := h
      refine r_callV (As := [.int (jI 59)]) (rest := []) C hM23 (c_X11_needsSign l E z ⟨by decide, by decide⟩ hf164) jy_X11_needsSign lk_X11_343 dX11_readsStatement_164 (recvW C hM23 jc11 lr_0.1 lr_0.2 rfl) rfl rfl hl.1 (Nat.le_of_ble_eq_true rfl) ⟨Nat.le_of_ble_eq_true rfl, Nat.le_of_ble_eq_true rfl⟩ ⟨rfl, rfl⟩ ⟨Nat.zero_le _, Nat.zero_le _⟩ (fun H locs hM24 => ?_)
      exact r_return C hM24 hr hlk h dX11_readsStatement_167
  · replace h := ifn cq h
    refine r_aload_n C dX11_readsStatement_10 rfl hl 0 rfl ?_
    replace h := bd_some h
    obtain ⟨M11, hf11, h⟩ := h
    refine r_callV (As := []) (rest := []) C hM1 (c_X11_readsShot l E z hf11) jy_X11_readsShot lk_X11_316 dX11_readsStatement_11 (recvW C hM1 jc11 lr_0.1 lr_0.2 rfl) rfl rfl hl.1 (Nat.le_of_ble_eq_true rfl) ⟨Nat.le_of_ble_eq_true rfl, Nat.le_of_ble_eq_true rfl⟩ ⟨rfl, rfl⟩ ⟨Nat.zero_le _, Nat.zero_le _⟩ (fun H locs hM25 => ?_)
    refine r_goto C 161 dX11_readsStatement_14 (by decide) ?_
    refine r_aload_n C dX11_readsStatement_161 rfl hl 0 rfl ?_
    refine r_bipush C dX11_readsStatement_162 rfl ?_
    replace h := bd_some h
    obtain ⟨M164, hf164, h⟩ := h
    refine r_callV (As := [.int (jI 59)]) (rest := []) C hM25 (c_X11_needsSign l E z ⟨by decide, by decide⟩ hf164) jy_X11_needsSign lk_X11_343 dX11_readsStatement_164 (recvW C hM25 jc11 lr_0.1 lr_0.2 rfl) rfl rfl hl.1 (Nat.le_of_ble_eq_true rfl) ⟨Nat.le_of_ble_eq_true rfl, Nat.le_of_ble_eq_true rfl⟩ ⟨rfl, rfl⟩ ⟨Nat.zero_le _, Nat.zero_le _⟩ (fun H locs hM26 => ?_)
    exact r_return C hM26 hr hlk h dX11_readsStatement_167
set_option maxRecDepth 100000 in
set_option maxHeartbeats 4000000 in
theorem c_X11_load (l : Launch) (E : jE) (z : Nat) {M M' : Mem} {r : Int} (h : f_X11_load M = some (r, M')) : CtI l yX11_load cX11_load 1 (some .int) { frames := 8, cells := 0, slots := 0, locals := 343 } E z LyR [.ref (z + 0)] M r M' := by
  refine jm (by decide +kernel) (Nat.le_of_ble_eq_true rfl) ?_
  intro p e sM m below meth c C hM0 hr hlk ls hl
  replace hl : lv_has ls 1 [(0, .ref (z + 0))] := hl
  unfold f_X11_load at h
  refine r_aload_n C dX11_load_0 rfl hl 0 rfl ?_
  refine r_iconst C dX11_load_1 ?_
  refine r_putI C hM0 jc11 7 ⟨by decide, by decide⟩ dX11_load_2 lk_X11_105 lr_0.1 lr_0.2 rfl rfl (by decide) rfl rfl rfl (Nat.le_of_ble_eq_true rfl) (by decide) (fun H locs hM1 => ?_)
  replace h := lt_some h
  obtain ⟨N2, eN2, h⟩ := h
  rw [← eN2] at hM1
  refine r_aload_n C dX11_load_5 rfl hl 0 rfl ?_
  refine r_getR C hM1 jc11 0 1 dX11_load_6 lk_X11_7 lr_0.1 lr_0.2 rfl rfl (by decide) rfl ?_
  refine r_iconst C dX11_load_9 ?_
  refine r_aload_n C dX11_load_10 rfl hl 0 rfl ?_
  refine r_getR C hM1 jc11 1 2 dX11_load_11 lk_X11_13 lr_0.1 lr_0.2 rfl rfl (by decide) rfl ?_
  refine r_iconst C dX11_load_14 ?_
  replace h := bd_some h
  obtain ⟨M15, hf15, h⟩ := h
  refine r_callSV (As := [.ref (z + 1), .int (jI 0), .ref (z + 2), .int (jI 0)]) (rest := []) C hM1 (c_X11_copies l E z lr_1 ⟨by decide, by decide⟩ lr_2 ⟨by decide, by decide⟩ hf15) jy_X11_copies lk_X11_346 dX11_load_15 rfl rfl hl.1 (Nat.le_of_ble_eq_true rfl) ⟨Nat.le_of_ble_eq_true rfl, Nat.le_of_ble_eq_true rfl⟩ ⟨rfl, rfl⟩ ⟨Nat.zero_le _, Nat.zero_le _⟩ (fun H locs hM3 => ?_)
  refine r_aload_n C dX11_load_18 rfl hl 0 rfl ?_
  replace h := bd_some h
  obtain ⟨M19, hf19, h⟩ := h
  refine r_callV (As := []) (rest := []) C hM3 (c_X11_clears l E z hf19) jy_X11_clears lk_X11_102 dX11_load_19 (recvW C hM3 jc11 lr_0.1 lr_0.2 rfl) rfl rfl hl.1 (Nat.le_of_ble_eq_true rfl) ⟨Nat.le_of_ble_eq_true rfl, Nat.le_of_ble_eq_true rfl⟩ ⟨rfl, rfl⟩ ⟨Nat.zero_le _, Nat.zero_le _⟩ (fun H locs hM4 => ?_)
  refine r_aload_n C dX11_load_22 rfl hl 0 rfl ?_
  refine r_iconst C dX11_load_23 ?_
  refine r_putI C hM4 jc11 38 ⟨by decide, by decide⟩ dX11_load_24 lk_X11_305 lr_0.1 lr_0.2 rfl rfl (by decide) rfl rfl rfl (Nat.le_of_ble_eq_true rfl) (by decide) (fun H locs hM5 => ?_)
  replace h := lt_some h
  obtain ⟨N6, eN6, h⟩ := h
  rw [← eN6] at hM5
  refine r_aload_n C dX11_load_27 rfl hl 0 rfl ?_
  replace h := bd_some h
  obtain ⟨M28, hf28, h⟩ := h
  refine r_callV (As := []) (rest := []) C hM5 (c_X11_beginsText l E z hf28) jy_X11_beginsText lk_X11_350 dX11_load_28 (recvW C hM5 jc11 lr_0.1 lr_0.2 rfl) rfl rfl hl.1 (Nat.le_of_ble_eq_true rfl) ⟨Nat.le_of_ble_eq_true rfl, Nat.le_of_ble_eq_true rfl⟩ ⟨rfl, rfl⟩ ⟨Nat.zero_le _, Nat.zero_le _⟩ (fun H locs hM7 => ?_)
  have hL31 : ∀ n31 : Nat, ∀ (M : Mem), ∀ (H : Heap) (locs : List Loc) (ls : Array Slot), f_X11_load_L31 n31  M = some (r, M') → HS E z LyR M sM H locs → lv_has ls 1 [(0, .ref (z + 0))] → W p l e ({ frames := 8, cells := 0, slots := 0, locals := 343 } : Room) sM m (([.ref (z + 0)] : List Value).toArray) below meth c H locs 0 0 (MQ below (va_Qi (fun (w : Int32) (_ : Unit) => w = jI r ∧ inR r ∧ Mok LyR M') (fun _ t => va_P (eD E) vwCl (Wd (eC E) z LyR M') t.heap) (eA E)) (([.ref (z + 0)] : List Value).toArray) sM 0 0 (eA E)) (F0 m 31 ls []) := by
    intro n31
    induction n31 with
    | zero =>
      intro M H locs ls h hM hl
      exact absurd h (by simp [f_X11_load_L31])
    | succ n31 ih31 =>
      intro M H locs ls h hM hl
      rw [f_X11_load_L31] at h
      refine r_aload_n C dX11_load_31 rfl hl 0 rfl ?_
      replace h := bd_some h
      obtain ⟨r32, hf32, h⟩ := h
      refine r_callI (As := []) (rest := []) C hM (c_X11_isGood l E z hf32) jy_X11_isGood lk_X11_277 dX11_load_32 (recvW C hM jc11 lr_0.1 lr_0.2 rfl) rfl rfl hl.1 (Nat.le_of_ble_eq_true rfl) ⟨Nat.le_of_ble_eq_true rfl, Nat.le_of_ble_eq_true rfl⟩ ⟨rfl, rfl⟩ ⟨Nat.zero_le _, Nat.zero_le _⟩ (fun H locs hr32 hM8 => ?_)
      replace h := jn_some h
      obtain ⟨k52, hk52, h⟩ := h
      have hJ52 : ∀ (_ : Unit), ∀ (H : Heap) (locs : List Loc) (ls : Array Slot), k52 () = some (r, M') → HS E z LyR M sM H locs → lv_has ls 1 [(0, .ref (z + 0))] → W p l e ({ frames := 8, cells := 0, slots := 0, locals := 343 } : Room) sM m (([.ref (z + 0)] : List Value).toArray) below meth c H locs 0 0 (MQ below (va_Qi (fun (w : Int32) (_ : Unit) => w = jI r ∧ inR r ∧ Mok LyR M') (fun _ t => va_P (eD E) vwCl (Wd (eC E) z LyR M') t.heap) (eA E)) (([.ref (z + 0)] : List Value).toArray) sM 0 0 (eA E)) (F0 m 52 ls []) := by
        intro _ H locs ls h hMj52 hl
        subst hk52
        try dsimp only at h
        refine r_aload_n C dX11_load_52 rfl hl 0 rfl ?_
        replace h := bd_some h
        obtain ⟨M53, hf53, h⟩ := h
        refine r_callV (As := []) (rest := []) C hMj52 (c_X11_endsText l E z hf53) jy_X11_endsText lk_X11_356 dX11_load_53 (recvW C hMj52 jc11 lr_0.1 lr_0.2 rfl) rfl rfl hl.1 (Nat.le_of_ble_eq_true rfl) ⟨Nat.le_of_ble_eq_true rfl, Nat.le_of_ble_eq_true rfl⟩ ⟨rfl, rfl⟩ ⟨Nat.zero_le _, Nat.zero_le _⟩ (fun H locs hM9 => ?_)
        refine r_aload_n C dX11_load_56 rfl hl 0 rfl ?_
        replace h := bd_some h
        obtain ⟨r57, hf57, h⟩ := h
        refine r_callI (As := []) (rest := []) C hM9 (c_X11_isGood l E z hf57) jy_X11_isGood lk_X11_277 dX11_load_57 (recvW C hM9 jc11 lr_0.1 lr_0.2 rfl) rfl rfl hl.1 (Nat.le_of_ble_eq_true rfl) ⟨Nat.le_of_ble_eq_true rfl, Nat.le_of_ble_eq_true rfl⟩ ⟨rfl, rfl⟩ ⟨Nat.zero_le _, Nat.zero_le _⟩ (fun H locs hr57 hM10 => ?_)
        refine r_if_ne C 78 hr57 dX11_load_60 (by decide) (fun cq => ?_) (fun cq => ?_)
        · replace h := ifn cq h
          refine r_aload_n C dX11_load_78 rfl hl 0 rfl ?_
          refine r_iconst C dX11_load_79 ?_
          refine r_putI C hM10 jc11 6 ⟨by decide, by decide⟩ dX11_load_80 lk_X11_359 lr_0.1 lr_0.2 rfl rfl (by decide) rfl rfl rfl (Nat.le_of_ble_eq_true rfl) (by decide) (fun H locs hM11 => ?_)
          replace h := lt_some h
          obtain ⟨N12, eN12, h⟩ := h
          rw [← eN12] at hM11
          refine r_aload_n C dX11_load_83 rfl hl 0 rfl ?_
          refine r_getR C hM11 jc11 0 1 dX11_load_84 lk_X11_7 lr_0.1 lr_0.2 rfl rfl (by decide) rfl ?_
          refine r_iconst C dX11_load_87 ?_
          refine r_iald C hM11 (rd_skip eN12 (by decide) rfl) dX11_load_88 lr_1.1 lr_1.2 (show (0 : Int) ≤ 5 ∧ (5 : Int) < 1062 by decide) ⟨by decide, by decide⟩ ?_
          exact r_ireturnM C hM11 hr hlk (hM9.ok _ _) h dX11_load_89
        · replace h := ifp cq h
          refine r_aload_n C dX11_load_63 rfl hl 0 rfl ?_
          refine r_getR C hM10 jc11 1 2 dX11_load_64 lk_X11_13 lr_0.1 lr_0.2 rfl rfl (by decide) rfl ?_
          refine r_iconst C dX11_load_67 ?_
          refine r_aload_n C dX11_load_68 rfl hl 0 rfl ?_
          refine r_getR C hM10 jc11 0 1 dX11_load_69 lk_X11_7 lr_0.1 lr_0.2 rfl rfl (by decide) rfl ?_
          refine r_iconst C dX11_load_72 ?_
          replace h := bd_some h
          obtain ⟨M73, hf73, h⟩ := h
          refine r_callSV (As := [.ref (z + 2), .int (jI 0), .ref (z + 1), .int (jI 0)]) (rest := []) C hM10 (c_X11_copies l E z lr_2 ⟨by decide, by decide⟩ lr_1 ⟨by decide, by decide⟩ hf73) jy_X11_copies lk_X11_346 dX11_load_73 rfl rfl hl.1 (Nat.le_of_ble_eq_true rfl) ⟨Nat.le_of_ble_eq_true rfl, Nat.le_of_ble_eq_true rfl⟩ ⟨rfl, rfl⟩ ⟨Nat.zero_le _, Nat.zero_le _⟩ (fun H locs hM13 => ?_)
          refine r_iconst C dX11_load_76 ?_
          exact r_ireturnM C hM13 hr hlk ⟨by decide, by decide⟩ h dX11_load_77
      refine r_if_eq C 52 hr32 dX11_load_35 (by decide) (fun cq => ?_) (fun cq => ?_)
      · replace h := ifp cq h
        exact hJ52 () _ _ _ h hM8 (lv_sub hl [0] rfl)
      · replace h := ifn cq h
        refine r_aload_n C dX11_load_38 rfl hl 0 rfl ?_
        refine r_getI C hM8 jc11 32 rfl dX11_load_39 lk_X11_255 lr_0.1 lr_0.2 rfl rfl (by decide) rfl ?_
        refine r_if_eq C 52 (hM.ok _ _) dX11_load_42 (by decide) (fun cq => ?_) (fun cq => ?_)
        · replace h := ifp cq h
          exact hJ52 () _ _ _ h hM8 (lv_sub hl [0] rfl)
        · replace h := ifn cq h
          refine r_aload_n C dX11_load_45 rfl hl 0 rfl ?_
          replace h := bd_some h
          obtain ⟨M46, hf46, h⟩ := h
          refine r_callV (As := []) (rest := []) C hM8 (c_X11_readsStatement l E z hf46) jy_X11_readsStatement lk_X11_353 dX11_load_46 (recvW C hM8 jc11 lr_0.1 lr_0.2 rfl) rfl rfl hl.1 (Nat.le_of_ble_eq_true rfl) ⟨Nat.le_of_ble_eq_true rfl, Nat.le_of_ble_eq_true rfl⟩ ⟨rfl, rfl⟩ ⟨Nat.zero_le _, Nat.zero_le _⟩ (fun H locs hM14 => ?_)
          refine r_goto C 31 dX11_load_49 (by decide) ?_
          exact ih31 _ _ _ _ h hM14 (lv_sub hl [0] rfl)
  exact hL31 jFuel _ _ _ _ h hM7 (lv_sub hl [0] rfl)
set_option maxRecDepth 100000 in
set_option maxHeartbeats 4000000 in
theorem c_X11_makes (l : Launch) (E : jE) (z : Nat) {x1 : Int} {x2 : Int} {x3 : Int} {x4 : Int} {M M' : Mem} (hx1 : inR x1) (hx2 : inR x2) (hx3 : inR x3) (hx4 : inR x4) (h : f_X11_makes x1 x2 x3 x4 M = some M') : CtV l yX11_makes cX11_makes 6 none { frames := 1, cells := 0, slots := 0, locals := 20 } E z LyR [.ref (z + 0), .int (jI x1), .int (jI x2), .int (jI x3), .int (jI x4)] M M' := by
  refine jm (by decide +kernel) (Nat.le_of_ble_eq_true rfl) ?_
  intro p e sM m below meth c C hM0 hr hlk ls hl
  replace hl : lv_has ls 6 [(0, .ref (z + 0)), (1, .int (jI x1)), (2, .int (jI x2)), (3, .int (jI x3)), (4, .int (jI x4))] := hl
  unfold f_X11_makes at h
  refine r_aload_n C dX11_makes_0 rfl hl 0 rfl ?_
  replace h := bd_some h
  obtain ⟨r1, hf1, h⟩ := h
  refine r_callI (As := []) (rest := []) C hM0 (c_X11_isGood l E z hf1) jy_X11_isGood lk_X11_277 dX11_makes_1 (recvW C hM0 jc11 lr_0.1 lr_0.2 rfl) rfl rfl hl.1 (Nat.le_of_ble_eq_true rfl) ⟨Nat.le_of_ble_eq_true rfl, Nat.le_of_ble_eq_true rfl⟩ ⟨rfl, rfl⟩ ⟨Nat.zero_le _, Nat.zero_le _⟩ (fun H locs hr1 hM1 => ?_)
  refine r_if_ne C 8 hr1 dX11_makes_4 (by decide) (fun cq => ?_) (fun cq => ?_)
  · replace h := ifn cq h
    refine r_iconst C dX11_makes_8 ?_
    refine r_aload_n C dX11_makes_9 rfl hl 0 rfl ?_
    refine r_getI C hM1 jc11 40 rfl dX11_makes_10 lk_X11_362 lr_0.1 lr_0.2 rfl rfl (by decide) rfl ?_
    replace h := ck_some h
    obtain ⟨hc2, h⟩ := h
    refine r_imul C dX11_makes_13 ?_
    refine r_istore C [(5, .int (jI (4 * (M 0 40)))), (0, .ref (z + 0)), (1, .int (jI x1)), (2, .int (jI x2)), (3, .int (jI x3)), (4, .int (jI x4))] dX11_makes_14 hl (by decide) rfl (fun ls hl => ?_)
    refine r_aload_n C dX11_makes_16 rfl hl 1 rfl ?_
    refine r_getR C hM1 jc11 39 23 dX11_makes_17 lk_X11_81 lr_0.1 lr_0.2 rfl rfl (by decide) rfl ?_
    refine r_iload C dX11_makes_20 hl 0 rfl ?_
    refine r_iload_n C dX11_makes_22 rfl hl 2 rfl ?_
    replace h := ck_some h
    obtain ⟨hc3, h⟩ := h
    refine r_iast C hM1 dX11_makes_23 lr_23.1 lr_23.2 hc3 hc2 hx1 (fun H locs hM4 => ?_)
    replace h := lt_some h
    obtain ⟨N5, eN5, h⟩ := h
    rw [← eN5] at hM4
    refine r_aload_n C dX11_makes_24 rfl hl 1 rfl ?_
    refine r_getR C hM4 jc11 39 23 dX11_makes_25 lk_X11_81 lr_0.1 lr_0.2 rfl rfl (by decide) rfl ?_
    refine r_iload C dX11_makes_28 hl 0 rfl ?_
    refine r_iconst C dX11_makes_30 ?_
    replace h := ck_some h
    obtain ⟨hc6, h⟩ := h
    refine r_iadd C dX11_makes_31 ?_
    refine r_iload_n C dX11_makes_32 rfl hl 3 rfl ?_
    replace h := ck_some h
    obtain ⟨hc7, h⟩ := h
    refine r_iast C hM4 dX11_makes_33 lr_23.1 lr_23.2 hc7 hc6 hx2 (fun H locs hM8 => ?_)
    replace h := lt_some h
    obtain ⟨N9, eN9, h⟩ := h
    rw [← eN9] at hM8
    refine r_aload_n C dX11_makes_34 rfl hl 1 rfl ?_
    refine r_getR C hM8 jc11 39 23 dX11_makes_35 lk_X11_81 lr_0.1 lr_0.2 rfl rfl (by decide) rfl ?_
    refine r_iload C dX11_makes_38 hl 0 rfl ?_
    refine r_iconst C dX11_makes_40 ?_
    replace h := ck_some h
    obtain ⟨hc10, h⟩ := h
    refine r_iadd C dX11_makes_41 ?_
    refine r_iload_n C dX11_makes_42 rfl hl 4 rfl ?_
    replace h := ck_some h
    obtain ⟨hc11, h⟩ := h
    refine r_iast C hM8 dX11_makes_43 lr_23.1 lr_23.2 hc11 hc10 hx3 (fun H locs hM12 => ?_)
    replace h := lt_some h
    obtain ⟨N13, eN13, h⟩ := h
    rw [← eN13] at hM12
    refine r_aload_n C dX11_makes_44 rfl hl 1 rfl ?_
    refine r_getR C hM12 jc11 39 23 dX11_makes_45 lk_X11_81 lr_0.1 lr_0.2 rfl rfl (by decide) rfl ?_
    refine r_iload C dX11_makes_48 hl 0 rfl ?_
    refine r_iconst C dX11_makes_50 ?_
    replace h := ck_some h
    obtain ⟨hc14, h⟩ := h
    refine r_iadd C dX11_makes_51 ?_
    refine r_iload C dX11_makes_52 hl 5 rfl ?_
    replace h := ck_some h
    obtain ⟨hc15, h⟩ := h
    refine r_iast C hM12 dX11_makes_54 lr_23.1 lr_23.2 hc15 hc14 hx4 (fun H locs hM16 => ?_)
    replace h := lt_some h
    obtain ⟨N17, eN17, h⟩ := h
    rw [← eN17] at hM16
    refine r_aload_n C dX11_makes_55 rfl hl 1 rfl ?_
    refine r_dup C dX11_makes_56 rfl ?_
    refine r_getI C hM16 jc11 40 (rd_skip eN17 (by decide) (rd_skip eN13 (by decide) (rd_skip eN9 (by decide) (rd_skip eN5 (by decide) rfl)))) dX11_makes_57 lk_X11_362 lr_0.1 lr_0.2 rfl rfl (by decide) rfl ?_
    refine r_iconst C dX11_makes_60 ?_
    replace h := ck_some h
    obtain ⟨hc18, h⟩ := h
    refine r_iadd C dX11_makes_61 ?_
    refine r_putI C hM16 jc11 40 hc18 dX11_makes_62 lk_X11_362 lr_0.1 lr_0.2 rfl rfl (by decide) rfl rfl rfl (Nat.le_of_ble_eq_true rfl) (by decide) (fun H locs hM19 => ?_)
    replace h := lt_some h
    obtain ⟨N20, eN20, h⟩ := h
    rw [← eN20] at hM19
    exact r_return C hM19 hr hlk h dX11_makes_65
  · replace h := ifp cq h
    exact r_return C hM1 hr hlk h dX11_makes_7
set_option maxRecDepth 100000 in
set_option maxHeartbeats 4000000 in
theorem c_X11_readsCut (l : Launch) (E : jE) (z : Nat) {M M' : Mem} (h : f_X11_readsCut M = some M') : CtV l yX11_readsCut cX11_readsCut 4 none { frames := 8, cells := 0, slots := 0, locals := 344 } E z LyR [.ref (z + 0)] M M' := by
  refine jm (by decide +kernel) (Nat.le_of_ble_eq_true rfl) ?_
  intro p e sM m below meth c C hM0 hr hlk ls hl
  replace hl : lv_has ls 4 [(0, .ref (z + 0))] := hl
  unfold f_X11_readsCut at h
  refine r_aload_n C dX11_readsCut_0 rfl hl 0 rfl ?_
  replace h := bd_some h
  obtain ⟨M1, hf1, h⟩ := h
  refine r_callV (As := []) (rest := []) C hM0 (c_X11_scans l E z hf1) jy_X11_scans lk_X11_281 dX11_readsCut_1 (recvW C hM0 jc11 lr_0.1 lr_0.2 rfl) rfl rfl hl.1 (Nat.le_of_ble_eq_true rfl) ⟨Nat.le_of_ble_eq_true rfl, Nat.le_of_ble_eq_true rfl⟩ ⟨rfl, rfl⟩ ⟨Nat.zero_le _, Nat.zero_le _⟩ (fun H locs hM1 => ?_)
  refine r_aload_n C dX11_readsCut_4 rfl hl 0 rfl ?_
  refine r_iconst C dX11_readsCut_5 ?_
  refine r_aload_n C dX11_readsCut_6 rfl hl 0 rfl ?_
  refine r_getR C hM1 jc11 0 1 dX11_readsCut_7 lk_X11_7 lr_0.1 lr_0.2 rfl rfl (by decide) rfl ?_
  refine r_iconst C dX11_readsCut_10 ?_
  refine r_iald C hM1 rfl dX11_readsCut_11 lr_1.1 lr_1.2 (show (0 : Int) ≤ 5 ∧ (5 : Int) < 1062 by decide) ⟨by decide, by decide⟩ ?_
  refine r_iconst C dX11_readsCut_12 ?_
  replace h := ck_some h
  obtain ⟨hc2, h⟩ := h
  refine r_isub C dX11_readsCut_13 ?_
  replace h := bd_some h
  obtain ⟨⟨r14, M14⟩, hf14, h⟩ := h
  try dsimp only at h
  refine r_callI (As := [.int (jI 0), .int (jI ((M1 1 (5 : Int).toNat) - 1))]) (rest := []) C hM1 (c_X11_reads l E z ⟨by decide, by decide⟩ hc2 hf14) jy_X11_reads lk_X11_308 dX11_readsCut_14 (recvW C hM1 jc11 lr_0.1 lr_0.2 rfl) rfl rfl hl.1 (Nat.le_of_ble_eq_true rfl) ⟨Nat.le_of_ble_eq_true rfl, Nat.le_of_ble_eq_true rfl⟩ ⟨rfl, rfl⟩ ⟨Nat.zero_le _, Nat.zero_le _⟩ (fun H locs hr14 hM3 => ?_)
  refine r_istore_n C [(1, .int (jI r14)), (0, .ref (z + 0))] dX11_readsCut_17 rfl hl (by decide) rfl (fun ls hl => ?_)
  refine r_iconst C dX11_readsCut_18 ?_
  refine r_istore_n C [(2, .int (jI 0)), (1, .int (jI r14)), (0, .ref (z + 0))] dX11_readsCut_19 rfl hl (by decide) rfl (fun ls hl => ?_)
  refine r_aload_n C dX11_readsCut_20 rfl hl 2 rfl ?_
  replace h := bd_some h
  obtain ⟨r21, hf21, h⟩ := h
  refine r_callI (As := []) (rest := []) C hM3 (c_X11_isGood l E z hf21) jy_X11_isGood lk_X11_277 dX11_readsCut_21 (recvW C hM3 jc11 lr_0.1 lr_0.2 rfl) rfl rfl hl.1 (Nat.le_of_ble_eq_true rfl) ⟨Nat.le_of_ble_eq_true rfl, Nat.le_of_ble_eq_true rfl⟩ ⟨rfl, rfl⟩ ⟨Nat.zero_le _, Nat.zero_le _⟩ (fun H locs hr21 hM4 => ?_)
  replace h := jn_some h
  obtain ⟨k38, hk38, h⟩ := h
  have hJ38 : ∀ (v38 : Int), inR v38 → ∀ (H : Heap) (locs : List Loc) (ls : Array Slot), k38 v38 = some M' → HS E z LyR M14 sM H locs → lv_has ls 4 [(0, .ref (z + 0)), (1, .int (jI r14)), (2, .int (jI 0))] → W p l e ({ frames := 8, cells := 0, slots := 0, locals := 344 } : Room) sM m (([.ref (z + 0)] : List Value).toArray) below meth c H locs 0 0 (MQ below (va_Qv (fun (_ : Unit) => Mok LyR M') (fun _ t => va_P (eD E) vwCl (Wd (eC E) z LyR M') t.heap) (eA E)) (([.ref (z + 0)] : List Value).toArray) sM 0 0 (eA E)) (F0 m 38 ls [.int (jI v38)]) := by
    intro v38 hv38 H locs ls h hMj38 hl
    subst hk38
    try dsimp only at h
    refine r_istore_n C [(3, .int (jI v38)), (0, .ref (z + 0)), (1, .int (jI r14)), (2, .int (jI 0))] dX11_readsCut_38 rfl hl (by decide) rfl (fun ls hl => ?_)
    refine r_aload_n C dX11_readsCut_39 rfl hl 1 rfl ?_
    refine r_ldcSW (i := 10) C (List.mem_of_getElem? (i := 34) rfl) dX11_readsCut_40 ?_
    replace h := bd_some h
    obtain ⟨r43, hf43, h⟩ := h
    refine r_callI (As := [.ref (eK E 10)]) (rest := []) C hMj38 (c_X11_isWord l E z (show 10 < nST by decide) hf43) jy_X11_isWord lk_X11_301 dX11_readsCut_43 (recvW C hMj38 jc11 lr_0.1 lr_0.2 rfl) rfl rfl hl.1 (Nat.le_of_ble_eq_true rfl) ⟨Nat.le_of_ble_eq_true rfl, Nat.le_of_ble_eq_true rfl⟩ ⟨rfl, rfl⟩ ⟨Nat.zero_le _, Nat.zero_le _⟩ (fun H locs hr43 hM5 => ?_)
    replace h := jn_some h
    obtain ⟨k74, hk74, h⟩ := h
    have hJ74 : ∀ (x2_74 : Int) (x3_74 : Int) (M74 : Mem), inR x2_74 → inR x3_74 → ∀ (H : Heap) (locs : List Loc) (ls : Array Slot), k74 x2_74 x3_74 M74 = some M' → HS E z LyR M74 sM H locs → lv_has ls 4 [(0, .ref (z + 0)), (1, .int (jI r14)), (2, .int (jI x2_74)), (3, .int (jI x3_74))] → W p l e ({ frames := 8, cells := 0, slots := 0, locals := 344 } : Room) sM m (([.ref (z + 0)] : List Value).toArray) below meth c H locs 0 0 (MQ below (va_Qv (fun (_ : Unit) => Mok LyR M') (fun _ t => va_P (eD E) vwCl (Wd (eC E) z LyR M') t.heap) (eA E)) (([.ref (z + 0)] : List Value).toArray) sM 0 0 (eA E)) (F0 m 74 ls []) := by
      intro x2_74 x3_74 M74 hx2_74 hx3_74 H locs ls h hMj74 hl
      subst hk74
      try dsimp only at h
      refine r_aload_n C dX11_readsCut_74 rfl hl 0 rfl ?_
      refine r_iconst C dX11_readsCut_75 ?_
      refine r_iload_n C dX11_readsCut_76 rfl hl 1 rfl ?_
      refine r_iload_n C dX11_readsCut_77 rfl hl 2 rfl ?_
      refine r_iload_n C dX11_readsCut_78 rfl hl 3 rfl ?_
      replace h := bd_some h
      obtain ⟨M79, hf79, h⟩ := h
      refine r_callV (As := [.int (jI 0), .int (jI r14), .int (jI x2_74), .int (jI x3_74)]) (rest := []) C hMj74 (c_X11_makes l E z ⟨by decide, by decide⟩ hr14 hx2_74 hx3_74 hf79) jy_X11_makes lk_X11_373 dX11_readsCut_79 (recvW C hMj74 jc11 lr_0.1 lr_0.2 rfl) rfl rfl hl.1 (Nat.le_of_ble_eq_true rfl) ⟨Nat.le_of_ble_eq_true rfl, Nat.le_of_ble_eq_true rfl⟩ ⟨rfl, rfl⟩ ⟨Nat.zero_le _, Nat.zero_le _⟩ (fun H locs hM6 => ?_)
      refine r_aload_n C dX11_readsCut_82 rfl hl 0 rfl ?_
      refine r_bipush C dX11_readsCut_83 rfl ?_
      replace h := bd_some h
      obtain ⟨M85, hf85, h⟩ := h
      refine r_callV (As := [.int (jI 59)]) (rest := []) C hM6 (c_X11_needsSign l E z ⟨by decide, by decide⟩ hf85) jy_X11_needsSign lk_X11_343 dX11_readsCut_85 (recvW C hM6 jc11 lr_0.1 lr_0.2 rfl) rfl rfl hl.1 (Nat.le_of_ble_eq_true rfl) ⟨Nat.le_of_ble_eq_true rfl, Nat.le_of_ble_eq_true rfl⟩ ⟨rfl, rfl⟩ ⟨Nat.zero_le _, Nat.zero_le _⟩ (fun H locs hM7 => ?_)
      exact r_return C hM7 hr hlk h dX11_readsCut_88
    refine r_if_eq C 74 hr43 dX11_readsCut_46 (by decide) (fun cq => ?_) (fun cq => ?_)
    · replace h := ifp cq h
      exact hJ74 _ _ _ ⟨by decide, by decide⟩ hv38 _ _ _ h hM5 (lv_sub hl [1, 2, 3, 0] rfl)
    · replace h := ifn cq h
      refine r_aload_n C dX11_readsCut_49 rfl hl 1 rfl ?_
      replace h := bd_some h
      obtain ⟨M50, hf50, h⟩ := h
      refine r_callV (As := []) (rest := []) C hM5 (c_X11_scans l E z hf50) jy_X11_scans lk_X11_281 dX11_readsCut_50 (recvW C hM5 jc11 lr_0.1 lr_0.2 rfl) rfl rfl hl.1 (Nat.le_of_ble_eq_true rfl) ⟨Nat.le_of_ble_eq_true rfl, Nat.le_of_ble_eq_true rfl⟩ ⟨rfl, rfl⟩ ⟨Nat.zero_le _, Nat.zero_le _⟩ (fun H locs hM8 => ?_)
      refine r_aload_n C dX11_readsCut_53 rfl hl 1 rfl ?_
      refine r_iconst C dX11_readsCut_54 ?_
      refine r_iload_n C dX11_readsCut_55 rfl hl 0 rfl ?_
      replace h := bd_some h
      obtain ⟨⟨r56, M56⟩, hf56, h⟩ := h
      try dsimp only at h
      refine r_callI (As := [.int (jI 0), .int (jI v38)]) (rest := []) C hM8 (c_X11_reads l E z ⟨by decide, by decide⟩ hv38 hf56) jy_X11_reads lk_X11_308 dX11_readsCut_56 (recvW C hM8 jc11 lr_0.1 lr_0.2 rfl) rfl rfl hl.1 (Nat.le_of_ble_eq_true rfl) ⟨Nat.le_of_ble_eq_true rfl, Nat.le_of_ble_eq_true rfl⟩ ⟨rfl, rfl⟩ ⟨Nat.zero_le _, Nat.zero_le _⟩ (fun H locs hr56 hM9 => ?_)
      refine r_istore_n C [(2, .int (jI r56)), (3, .int (jI v38)), (0, .ref (z + 0)), (1, .int (jI r14))] dX11_readsCut_59 rfl hl (by decide) rfl (fun ls hl => ?_)
      refine r_aload_n C dX11_readsCut_60 rfl hl 2 rfl ?_
      refine r_ldcSW (i := 11) C (List.mem_of_getElem? (i := 35) rfl) dX11_readsCut_61 ?_
      replace h := bd_some h
      obtain ⟨M64, hf64, h⟩ := h
      refine r_callV (As := [.ref (eK E 11)]) (rest := []) C hM9 (c_X11_needs l E z (show 11 < nST by decide) hf64) jy_X11_needs lk_X11_369 dX11_readsCut_64 (recvW C hM9 jc11 lr_0.1 lr_0.2 rfl) rfl rfl hl.1 (Nat.le_of_ble_eq_true rfl) ⟨Nat.le_of_ble_eq_true rfl, Nat.le_of_ble_eq_true rfl⟩ ⟨rfl, rfl⟩ ⟨Nat.zero_le _, Nat.zero_le _⟩ (fun H locs hM10 => ?_)
      refine r_aload_n C dX11_readsCut_67 rfl hl 2 rfl ?_
      refine r_iload_n C dX11_readsCut_68 rfl hl 0 rfl ?_
      refine r_iload_n C dX11_readsCut_69 rfl hl 1 rfl ?_
      replace h := bd_some h
      obtain ⟨⟨r70, M70⟩, hf70, h⟩ := h
      try dsimp only at h
      refine r_callI (As := [.int (jI r56), .int (jI v38)]) (rest := []) C hM10 (c_X11_reads l E z hr56 hv38 hf70) jy_X11_reads lk_X11_308 dX11_readsCut_70 (recvW C hM10 jc11 lr_0.1 lr_0.2 rfl) rfl rfl hl.1 (Nat.le_of_ble_eq_true rfl) ⟨Nat.le_of_ble_eq_true rfl, Nat.le_of_ble_eq_true rfl⟩ ⟨rfl, rfl⟩ ⟨Nat.zero_le _, Nat.zero_le _⟩ (fun H locs hr70 hM11 => ?_)
      refine r_istore_n C [(3, .int (jI r70)), (2, .int (jI r56)), (0, .ref (z + 0)), (1, .int (jI r14))] dX11_readsCut_73 rfl hl (by decide) rfl (fun ls hl => ?_)
      exact hJ74 _ _ _ hr56 hr70 _ _ _ h hM11 (lv_sub hl [2, 3, 1, 0] rfl)
  refine r_if_eq C 37 hr21 dX11_readsCut_24 (by decide) (fun cq => ?_) (fun cq => ?_)
  · replace h := ifp cq h
    refine r_iconst C dX11_readsCut_37 ?_
    exact hJ38 _ ⟨by decide, by decide⟩ _ _ _ h hM4 (lv_sub hl [2, 1, 0] rfl)
  · replace h := ifn cq h
    refine r_aload_n C dX11_readsCut_27 rfl hl 2 rfl ?_
    refine r_iload_n C dX11_readsCut_28 rfl hl 1 rfl ?_
    replace h := bd_some h
    obtain ⟨r29, hf29, h⟩ := h
    refine r_callI (As := [.int (jI r14)]) (rest := []) C hM4 (c_X11_lengthOf l E z hr14 hf29) jy_X11_lengthOf lk_X11_218 dX11_readsCut_29 (recvW C hM4 jc11 lr_0.1 lr_0.2 rfl) rfl rfl hl.1 (Nat.le_of_ble_eq_true rfl) ⟨Nat.le_of_ble_eq_true rfl, Nat.le_of_ble_eq_true rfl⟩ ⟨rfl, rfl⟩ ⟨Nat.zero_le _, Nat.zero_le _⟩ (fun H locs hr29 hM12 => ?_)
    refine r_iconst C dX11_readsCut_32 ?_
    replace h := ck_some h
    obtain ⟨hc13, h⟩ := h
    refine r_isub C dX11_readsCut_33 ?_
    refine r_goto C 38 dX11_readsCut_34 (by decide) ?_
    exact hJ38 _ hc13 _ _ _ h hM12 (lv_sub hl [2, 1, 0] rfl)
set_option maxRecDepth 100000 in
set_option maxHeartbeats 4000000 in
theorem c_X11_readsHeld (l : Launch) (E : jE) (z : Nat) {M M' : Mem} (h : f_X11_readsHeld M = some M') : CtV l yX11_readsHeld cX11_readsHeld 3 none { frames := 5, cells := 0, slots := 0, locals := 106 } E z LyR [.ref (z + 0)] M M' := by
  refine jm (by decide +kernel) (Nat.le_of_ble_eq_true rfl) ?_
  intro p e sM m below meth c C hM0 hr hlk ls hl
  replace hl : lv_has ls 3 [(0, .ref (z + 0))] := hl
  unfold f_X11_readsHeld at h
  refine r_aload_n C dX11_readsHeld_0 rfl hl 0 rfl ?_
  replace h := bd_some h
  obtain ⟨M1, hf1, h⟩ := h
  refine r_callV (As := []) (rest := []) C hM0 (c_X11_scans l E z hf1) jy_X11_scans lk_X11_281 dX11_readsHeld_1 (recvW C hM0 jc11 lr_0.1 lr_0.2 rfl) rfl rfl hl.1 (Nat.le_of_ble_eq_true rfl) ⟨Nat.le_of_ble_eq_true rfl, Nat.le_of_ble_eq_true rfl⟩ ⟨rfl, rfl⟩ ⟨Nat.zero_le _, Nat.zero_le _⟩ (fun H locs hM1 => ?_)
  refine r_aload_n C dX11_readsHeld_4 rfl hl 0 rfl ?_
  refine r_iconst C dX11_readsHeld_5 ?_
  refine r_aload_n C dX11_readsHeld_6 rfl hl 0 rfl ?_
  refine r_getR C hM1 jc11 0 1 dX11_readsHeld_7 lk_X11_7 lr_0.1 lr_0.2 rfl rfl (by decide) rfl ?_
  refine r_bipush C dX11_readsHeld_10 rfl ?_
  refine r_iald C hM1 rfl dX11_readsHeld_12 lr_1.1 lr_1.2 (show (0 : Int) ≤ 6 ∧ (6 : Int) < 1062 by decide) ⟨by decide, by decide⟩ ?_
  refine r_iconst C dX11_readsHeld_13 ?_
  replace h := ck_some h
  obtain ⟨hc2, h⟩ := h
  refine r_isub C dX11_readsHeld_14 ?_
  replace h := bd_some h
  obtain ⟨⟨r15, M15⟩, hf15, h⟩ := h
  try dsimp only at h
  refine r_callI (As := [.int (jI 0), .int (jI ((M1 1 (6 : Int).toNat) - 1))]) (rest := []) C hM1 (c_X11_reads l E z ⟨by decide, by decide⟩ hc2 hf15) jy_X11_reads lk_X11_308 dX11_readsHeld_15 (recvW C hM1 jc11 lr_0.1 lr_0.2 rfl) rfl rfl hl.1 (Nat.le_of_ble_eq_true rfl) ⟨Nat.le_of_ble_eq_true rfl, Nat.le_of_ble_eq_true rfl⟩ ⟨rfl, rfl⟩ ⟨Nat.zero_le _, Nat.zero_le _⟩ (fun H locs hr15 hM3 => ?_)
  refine r_istore_n C [(1, .int (jI r15)), (0, .ref (z + 0))] dX11_readsHeld_18 rfl hl (by decide) rfl (fun ls hl => ?_)
  refine r_aload_n C dX11_readsHeld_19 rfl hl 1 rfl ?_
  refine r_iconst C dX11_readsHeld_20 ?_
  refine r_sipush C dX11_readsHeld_21 rfl ?_
  replace h := bd_some h
  obtain ⟨⟨r24, M24⟩, hf24, h⟩ := h
  try dsimp only at h
  refine r_callI (As := [.int (jI 1), .int (jI 400)]) (rest := []) C hM3 (c_X11_reads l E z ⟨by decide, by decide⟩ ⟨by decide, by decide⟩ hf24) jy_X11_reads lk_X11_308 dX11_readsHeld_24 (recvW C hM3 jc11 lr_0.1 lr_0.2 rfl) rfl rfl hl.1 (Nat.le_of_ble_eq_true rfl) ⟨Nat.le_of_ble_eq_true rfl, Nat.le_of_ble_eq_true rfl⟩ ⟨rfl, rfl⟩ ⟨Nat.zero_le _, Nat.zero_le _⟩ (fun H locs hr24 hM4 => ?_)
  refine r_istore_n C [(2, .int (jI r24)), (1, .int (jI r15)), (0, .ref (z + 0))] dX11_readsHeld_27 rfl hl (by decide) rfl (fun ls hl => ?_)
  refine r_aload_n C dX11_readsHeld_28 rfl hl 2 rfl ?_
  refine r_iconst C dX11_readsHeld_29 ?_
  refine r_iload_n C dX11_readsHeld_30 rfl hl 1 rfl ?_
  refine r_iload_n C dX11_readsHeld_31 rfl hl 0 rfl ?_
  refine r_iconst C dX11_readsHeld_32 ?_
  replace h := bd_some h
  obtain ⟨M33, hf33, h⟩ := h
  refine r_callV (As := [.int (jI 1), .int (jI r15), .int (jI r24), .int (jI 0)]) (rest := []) C hM4 (c_X11_makes l E z ⟨by decide, by decide⟩ hr15 hr24 ⟨by decide, by decide⟩ hf33) jy_X11_makes lk_X11_373 dX11_readsHeld_33 (recvW C hM4 jc11 lr_0.1 lr_0.2 rfl) rfl rfl hl.1 (Nat.le_of_ble_eq_true rfl) ⟨Nat.le_of_ble_eq_true rfl, Nat.le_of_ble_eq_true rfl⟩ ⟨rfl, rfl⟩ ⟨Nat.zero_le _, Nat.zero_le _⟩ (fun H locs hM5 => ?_)
  refine r_aload_n C dX11_readsHeld_36 rfl hl 2 rfl ?_
  refine r_bipush C dX11_readsHeld_37 rfl ?_
  replace h := bd_some h
  obtain ⟨M39, hf39, h⟩ := h
  refine r_callV (As := [.int (jI 59)]) (rest := []) C hM5 (c_X11_needsSign l E z ⟨by decide, by decide⟩ hf39) jy_X11_needsSign lk_X11_343 dX11_readsHeld_39 (recvW C hM5 jc11 lr_0.1 lr_0.2 rfl) rfl rfl hl.1 (Nat.le_of_ble_eq_true rfl) ⟨Nat.le_of_ble_eq_true rfl, Nat.le_of_ble_eq_true rfl⟩ ⟨rfl, rfl⟩ ⟨Nat.zero_le _, Nat.zero_le _⟩ (fun H locs hM6 => ?_)
  exact r_return C hM6 hr hlk h dX11_readsHeld_42
set_option maxRecDepth 100000 in
set_option maxHeartbeats 4000000 in
theorem c_X11_readsBlock (l : Launch) (E : jE) (z : Nat) {x1 : Int} {x2 : Int} {x3 : Int} {M M' : Mem} (hx1 : inR x1) (hx2 : inR x2) (hx3 : inR x3) (h : f_X11_readsBlock x1 x2 x3 M = some M') : CtV l yX11_readsBlock cX11_readsBlock 5 none { frames := 5, cells := 0, slots := 0, locals := 106 } E z LyR [.ref (z + 0), .int (jI x1), .int (jI x2), .int (jI x3)] M M' := by
  refine jm (by decide +kernel) (Nat.le_of_ble_eq_true rfl) ?_
  intro p e sM m below meth c C hM0 hr hlk ls hl
  replace hl : lv_has ls 5 [(0, .ref (z + 0)), (1, .int (jI x1)), (2, .int (jI x2)), (3, .int (jI x3))] := hl
  unfold f_X11_readsBlock at h
  refine r_aload_n C dX11_readsBlock_0 rfl hl 0 rfl ?_
  replace h := bd_some h
  obtain ⟨M1, hf1, h⟩ := h
  refine r_callV (As := []) (rest := []) C hM0 (c_X11_scans l E z hf1) jy_X11_scans lk_X11_281 dX11_readsBlock_1 (recvW C hM0 jc11 lr_0.1 lr_0.2 rfl) rfl rfl hl.1 (Nat.le_of_ble_eq_true rfl) ⟨Nat.le_of_ble_eq_true rfl, Nat.le_of_ble_eq_true rfl⟩ ⟨rfl, rfl⟩ ⟨Nat.zero_le _, Nat.zero_le _⟩ (fun H locs hM1 => ?_)
  refine r_aload_n C dX11_readsBlock_4 rfl hl 0 rfl ?_
  refine r_iload_n C dX11_readsBlock_5 rfl hl 2 rfl ?_
  refine r_iload_n C dX11_readsBlock_6 rfl hl 3 rfl ?_
  replace h := bd_some h
  obtain ⟨⟨r7, M7⟩, hf7, h⟩ := h
  try dsimp only at h
  refine r_callI (As := [.int (jI x2), .int (jI x3)]) (rest := []) C hM1 (c_X11_reads l E z hx2 hx3 hf7) jy_X11_reads lk_X11_308 dX11_readsBlock_7 (recvW C hM1 jc11 lr_0.1 lr_0.2 rfl) rfl rfl hl.1 (Nat.le_of_ble_eq_true rfl) ⟨Nat.le_of_ble_eq_true rfl, Nat.le_of_ble_eq_true rfl⟩ ⟨rfl, rfl⟩ ⟨Nat.zero_le _, Nat.zero_le _⟩ (fun H locs hr7 hM2 => ?_)
  refine r_istore C [(4, .int (jI r7)), (0, .ref (z + 0)), (1, .int (jI x1)), (2, .int (jI x2)), (3, .int (jI x3))] dX11_readsBlock_10 hl (by decide) rfl (fun ls hl => ?_)
  refine r_aload_n C dX11_readsBlock_12 rfl hl 1 rfl ?_
  refine r_iload_n C dX11_readsBlock_13 rfl hl 2 rfl ?_
  refine r_iload C dX11_readsBlock_14 hl 0 rfl ?_
  refine r_iconst C dX11_readsBlock_16 ?_
  refine r_iconst C dX11_readsBlock_17 ?_
  replace h := bd_some h
  obtain ⟨M18, hf18, h⟩ := h
  refine r_callV (As := [.int (jI x1), .int (jI r7), .int (jI 0), .int (jI 0)]) (rest := []) C hM2 (c_X11_makes l E z hx1 hr7 ⟨by decide, by decide⟩ ⟨by decide, by decide⟩ hf18) jy_X11_makes lk_X11_373 dX11_readsBlock_18 (recvW C hM2 jc11 lr_0.1 lr_0.2 rfl) rfl rfl hl.1 (Nat.le_of_ble_eq_true rfl) ⟨Nat.le_of_ble_eq_true rfl, Nat.le_of_ble_eq_true rfl⟩ ⟨rfl, rfl⟩ ⟨Nat.zero_le _, Nat.zero_le _⟩ (fun H locs hM3 => ?_)
  refine r_aload_n C dX11_readsBlock_21 rfl hl 1 rfl ?_
  refine r_bipush C dX11_readsBlock_22 rfl ?_
  replace h := bd_some h
  obtain ⟨r24, hf24, h⟩ := h
  refine r_callI (As := [.int (jI 123)]) (rest := []) C hM3 (c_X11_isSign l E z ⟨by decide, by decide⟩ hf24) jy_X11_isSign lk_X11_292 dX11_readsBlock_24 (recvW C hM3 jc11 lr_0.1 lr_0.2 rfl) rfl rfl hl.1 (Nat.le_of_ble_eq_true rfl) ⟨Nat.le_of_ble_eq_true rfl, Nat.le_of_ble_eq_true rfl⟩ ⟨rfl, rfl⟩ ⟨Nat.zero_le _, Nat.zero_le _⟩ (fun H locs hr24 hM4 => ?_)
  replace h := jn_some h
  obtain ⟨k35, hk35, h⟩ := h
  have hJ35 : ∀ (M35 : Mem), ∀ (H : Heap) (locs : List Loc) (ls : Array Slot), k35 M35 = some M' → HS E z LyR M35 sM H locs → lv_has ls 5 [(0, .ref (z + 0))] → W p l e ({ frames := 5, cells := 0, slots := 0, locals := 106 } : Room) sM m (([.ref (z + 0), .int (jI x1), .int (jI x2), .int (jI x3)] : List Value).toArray) below meth c H locs 0 0 (MQ below (va_Qv (fun (_ : Unit) => Mok LyR M') (fun _ t => va_P (eD E) vwCl (Wd (eC E) z LyR M') t.heap) (eA E)) (([.ref (z + 0), .int (jI x1), .int (jI x2), .int (jI x3)] : List Value).toArray) sM 0 0 (eA E)) (F0 m 35 ls []) := by
    intro M35 H locs ls h hMj35 hl
    subst hk35
    try dsimp only at h
    refine r_aload_n C dX11_readsBlock_35 rfl hl 0 rfl ?_
    refine r_getI C hMj35 jc11 42 rfl dX11_readsBlock_36 lk_X11_377 lr_0.1 lr_0.2 rfl rfl (by decide) rfl ?_
    refine r_iconst C dX11_readsBlock_39 ?_
    replace h := jn_some h
    obtain ⟨k48, hk48, h⟩ := h
    have hJ48 : ∀ (M48 : Mem), ∀ (H : Heap) (locs : List Loc) (ls : Array Slot), k48 M48 = some M' → HS E z LyR M48 sM H locs → lv_has ls 5 [(0, .ref (z + 0))] → W p l e ({ frames := 5, cells := 0, slots := 0, locals := 106 } : Room) sM m (([.ref (z + 0), .int (jI x1), .int (jI x2), .int (jI x3)] : List Value).toArray) below meth c H locs 0 0 (MQ below (va_Qv (fun (_ : Unit) => Mok LyR M') (fun _ t => va_P (eD E) vwCl (Wd (eC E) z LyR M') t.heap) (eA E)) (([.ref (z + 0), .int (jI x1), .int (jI x2), .int (jI x3)] : List Value).toArray) sM 0 0 (eA E)) (F0 m 48 ls []) := by
      intro M48 H locs ls h hMj48 hl
      subst hk48
      try dsimp only at h
      refine r_aload_n C dX11_readsBlock_48 rfl hl 0 rfl ?_
      refine r_dup C dX11_readsBlock_49 rfl ?_
      refine r_getI C hMj48 jc11 42 rfl dX11_readsBlock_50 lk_X11_377 lr_0.1 lr_0.2 rfl rfl (by decide) rfl ?_
      refine r_iconst C dX11_readsBlock_53 ?_
      replace h := ck_some h
      obtain ⟨hc5, h⟩ := h
      refine r_iadd C dX11_readsBlock_54 ?_
      refine r_putI C hMj48 jc11 42 hc5 dX11_readsBlock_55 lk_X11_377 lr_0.1 lr_0.2 rfl rfl (by decide) rfl rfl rfl (Nat.le_of_ble_eq_true rfl) (by decide) (fun H locs hM6 => ?_)
      replace h := lt_some h
      obtain ⟨N7, eN7, h⟩ := h
      rw [← eN7] at hM6
      refine r_aload_n C dX11_readsBlock_58 rfl hl 0 rfl ?_
      replace h := bd_some h
      obtain ⟨M59, hf59, h⟩ := h
      refine r_callV (As := []) (rest := []) C hM6 (c_X11_goesOn l E z hf59) jy_X11_goesOn lk_X11_298 dX11_readsBlock_59 (recvW C hM6 jc11 lr_0.1 lr_0.2 rfl) rfl rfl hl.1 (Nat.le_of_ble_eq_true rfl) ⟨Nat.le_of_ble_eq_true rfl, Nat.le_of_ble_eq_true rfl⟩ ⟨rfl, rfl⟩ ⟨Nat.zero_le _, Nat.zero_le _⟩ (fun H locs hM8 => ?_)
      exact r_return C hM8 hr hlk h dX11_readsBlock_62
    refine r_icmp_ne C 48 (hMj35.ok _ _) ⟨by decide, by decide⟩ dX11_readsBlock_40 (by decide) (fun cq => ?_) (fun cq => ?_)
    · replace h := ifn cq h
      exact hJ48 _ _ _ _ h hMj35 (lv_sub hl [0] rfl)
    · replace h := ifp cq h
      refine r_aload_n C dX11_readsBlock_43 rfl hl 0 rfl ?_
      refine r_iconst C dX11_readsBlock_44 ?_
      replace h := bd_some h
      obtain ⟨M45, hf45, h⟩ := h
      refine r_callV (As := [.int (jI 5)]) (rest := []) C hMj35 (c_X11_fails l E z ⟨by decide, by decide⟩ hf45) jy_X11_fails lk_X11_295 dX11_readsBlock_45 (recvW C hMj35 jc11 lr_0.1 lr_0.2 rfl) rfl rfl hl.1 (Nat.le_of_ble_eq_true rfl) ⟨Nat.le_of_ble_eq_true rfl, Nat.le_of_ble_eq_true rfl⟩ ⟨rfl, rfl⟩ ⟨Nat.zero_le _, Nat.zero_le _⟩ (fun H locs hM9 => ?_)
      exact hJ48 _ _ _ _ h hM9 (lv_sub hl [0] rfl)
  refine r_if_ne C 35 hr24 dX11_readsBlock_27 (by decide) (fun cq => ?_) (fun cq => ?_)
  · replace h := ifn cq h
    exact hJ35 _ _ _ _ h hM4 (lv_sub hl [1] rfl)
  · replace h := ifp cq h
    refine r_aload_n C dX11_readsBlock_30 rfl hl 1 rfl ?_
    refine r_iconst C dX11_readsBlock_31 ?_
    replace h := bd_some h
    obtain ⟨M32, hf32, h⟩ := h
    refine r_callV (As := [.int (jI 1)]) (rest := []) C hM4 (c_X11_fails l E z ⟨by decide, by decide⟩ hf32) jy_X11_fails lk_X11_295 dX11_readsBlock_32 (recvW C hM4 jc11 lr_0.1 lr_0.2 rfl) rfl rfl hl.1 (Nat.le_of_ble_eq_true rfl) ⟨Nat.le_of_ble_eq_true rfl, Nat.le_of_ble_eq_true rfl⟩ ⟨rfl, rfl⟩ ⟨Nat.zero_le _, Nat.zero_le _⟩ (fun H locs hM10 => ?_)
    exact hJ35 _ _ _ _ h hM10 (lv_sub hl [1] rfl)
set_option maxRecDepth 100000 in
set_option maxHeartbeats 4000000 in
theorem c_X11_readsItem (l : Launch) (E : jE) (z : Nat) {M M' : Mem} (h : f_X11_readsItem M = some M') : CtV l yX11_readsItem cX11_readsItem 2 none { frames := 9, cells := 0, slots := 0, locals := 367 } E z LyR [.ref (z + 0)] M M' := by
  refine jm (by decide +kernel) (Nat.le_of_ble_eq_true rfl) ?_
  intro p e sM m below meth c C hM0 hr hlk ls hl
  replace hl : lv_has ls 2 [(0, .ref (z + 0))] := hl
  unfold f_X11_readsItem at h
  refine r_aload_n C dX11_readsItem_0 rfl hl 0 rfl ?_
  refine r_ldcSW (i := 0) C (List.mem_of_getElem? (i := 24) rfl) dX11_readsItem_1 ?_
  replace h := bd_some h
  obtain ⟨r4, hf4, h⟩ := h
  refine r_callI (As := [.ref (eK E 0)]) (rest := []) C hM0 (c_X11_isWord l E z (show 0 < nST by decide) hf4) jy_X11_isWord lk_X11_301 dX11_readsItem_4 (recvW C hM0 jc11 lr_0.1 lr_0.2 rfl) rfl rfl hl.1 (Nat.le_of_ble_eq_true rfl) ⟨Nat.le_of_ble_eq_true rfl, Nat.le_of_ble_eq_true rfl⟩ ⟨rfl, rfl⟩ ⟨Nat.zero_le _, Nat.zero_le _⟩ (fun H locs hr4 hM1 => ?_)
  replace h := jn_some h
  obtain ⟨k45, hk45, h⟩ := h
  have hJ45 : ∀ (v45 : Int), inR v45 → ∀ (H : Heap) (locs : List Loc) (ls : Array Slot), k45 v45 = some M' → HS E z LyR M sM H locs → lv_has ls 2 [(0, .ref (z + 0))] → W p l e ({ frames := 9, cells := 0, slots := 0, locals := 367 } : Room) sM m (([.ref (z + 0)] : List Value).toArray) below meth c H locs 0 0 (MQ below (va_Qv (fun (_ : Unit) => Mok LyR M') (fun _ t => va_P (eD E) vwCl (Wd (eC E) z LyR M') t.heap) (eA E)) (([.ref (z + 0)] : List Value).toArray) sM 0 0 (eA E)) (F0 m 45 ls [.int (jI v45)]) := by
    intro v45 hv45 H locs ls h hMj45 hl
    subst hk45
    try dsimp only at h
    refine r_istore_n C [(1, .int (jI v45)), (0, .ref (z + 0))] dX11_readsItem_45 rfl hl (by decide) rfl (fun ls hl => ?_)
    refine r_iload_n C dX11_readsItem_46 rfl hl 0 rfl ?_
    replace h := jn_some h
    obtain ⟨k55, hk55, h⟩ := h
    have hJ55 : ∀ (M55 : Mem), ∀ (H : Heap) (locs : List Loc) (ls : Array Slot), k55 M55 = some M' → HS E z LyR M55 sM H locs → lv_has ls 2 [(0, .ref (z + 0))] → W p l e ({ frames := 9, cells := 0, slots := 0, locals := 367 } : Room) sM m (([.ref (z + 0)] : List Value).toArray) below meth c H locs 0 0 (MQ below (va_Qv (fun (_ : Unit) => Mok LyR M') (fun _ t => va_P (eD E) vwCl (Wd (eC E) z LyR M') t.heap) (eA E)) (([.ref (z + 0)] : List Value).toArray) sM 0 0 (eA E)) (F0 m 55 ls []) := by
      intro M55 H locs ls h hMj55 hl
      subst hk55
      try dsimp only at h
      refine r_aload_n C dX11_readsItem_55 rfl hl 0 rfl ?_
      refine r_getI C hMj55 jc11 41 rfl dX11_readsItem_56 lk_X11_384 lr_0.1 lr_0.2 rfl rfl (by decide) rfl ?_
      refine r_bipush C dX11_readsItem_59 rfl ?_
      replace h := jn_some h
      obtain ⟨k69, hk69, h⟩ := h
      have hJ69 : ∀ (M69 : Mem), ∀ (H : Heap) (locs : List Loc) (ls : Array Slot), k69 M69 = some M' → HS E z LyR M69 sM H locs → lv_has ls 2 [(0, .ref (z + 0))] → W p l e ({ frames := 9, cells := 0, slots := 0, locals := 367 } : Room) sM m (([.ref (z + 0)] : List Value).toArray) below meth c H locs 0 0 (MQ below (va_Qv (fun (_ : Unit) => Mok LyR M') (fun _ t => va_P (eD E) vwCl (Wd (eC E) z LyR M') t.heap) (eA E)) (([.ref (z + 0)] : List Value).toArray) sM 0 0 (eA E)) (F0 m 69 ls []) := by
        intro M69 H locs ls h hMj69 hl
        subst hk69
        try dsimp only at h
        refine r_aload_n C dX11_readsItem_69 rfl hl 0 rfl ?_
        replace h := bd_some h
        obtain ⟨r70, hf70, h⟩ := h
        refine r_callI (As := []) (rest := []) C hMj69 (c_X11_isGood l E z hf70) jy_X11_isGood lk_X11_277 dX11_readsItem_70 (recvW C hMj69 jc11 lr_0.1 lr_0.2 rfl) rfl rfl hl.1 (Nat.le_of_ble_eq_true rfl) ⟨Nat.le_of_ble_eq_true rfl, Nat.le_of_ble_eq_true rfl⟩ ⟨rfl, rfl⟩ ⟨Nat.zero_le _, Nat.zero_le _⟩ (fun H locs hr70 hM2 => ?_)
        refine r_if_ne C 77 hr70 dX11_readsItem_73 (by decide) (fun cq => ?_) (fun cq => ?_)
        · replace h := ifn cq h
          refine r_aload_n C dX11_readsItem_77 rfl hl 0 rfl ?_
          refine r_dup C dX11_readsItem_78 rfl ?_
          refine r_getI C hM2 jc11 41 rfl dX11_readsItem_79 lk_X11_384 lr_0.1 lr_0.2 rfl rfl (by decide) rfl ?_
          refine r_iconst C dX11_readsItem_82 ?_
          replace h := ck_some h
          obtain ⟨hc3, h⟩ := h
          refine r_iadd C dX11_readsItem_83 ?_
          refine r_putI C hM2 jc11 41 hc3 dX11_readsItem_84 lk_X11_384 lr_0.1 lr_0.2 rfl rfl (by decide) rfl rfl rfl (Nat.le_of_ble_eq_true rfl) (by decide) (fun H locs hM4 => ?_)
          replace h := lt_some h
          obtain ⟨N5, eN5, h⟩ := h
          rw [← eN5] at hM4
          refine r_aload_n C dX11_readsItem_87 rfl hl 0 rfl ?_
          refine r_ldcSW (i := 0) C (List.mem_of_getElem? (i := 24) rfl) dX11_readsItem_88 ?_
          replace h := bd_some h
          obtain ⟨r91, hf91, h⟩ := h
          refine r_callI (As := [.ref (eK E 0)]) (rest := []) C hM4 (c_X11_isWord l E z (show 0 < nST by decide) hf91) jy_X11_isWord lk_X11_301 dX11_readsItem_91 (recvW C hM4 jc11 lr_0.1 lr_0.2 rfl) rfl rfl hl.1 (Nat.le_of_ble_eq_true rfl) ⟨Nat.le_of_ble_eq_true rfl, Nat.le_of_ble_eq_true rfl⟩ ⟨rfl, rfl⟩ ⟨Nat.zero_le _, Nat.zero_le _⟩ (fun H locs hr91 hM6 => ?_)
          refine r_if_eq C 104 hr91 dX11_readsItem_94 (by decide) (fun cq => ?_) (fun cq => ?_)
          · replace h := ifp cq h
            refine r_aload_n C dX11_readsItem_104 rfl hl 0 rfl ?_
            refine r_ldcSW (i := 1) C (List.mem_of_getElem? (i := 25) rfl) dX11_readsItem_105 ?_
            replace h := bd_some h
            obtain ⟨r108, hf108, h⟩ := h
            refine r_callI (As := [.ref (eK E 1)]) (rest := []) C hM6 (c_X11_isWord l E z (show 1 < nST by decide) hf108) jy_X11_isWord lk_X11_301 dX11_readsItem_108 (recvW C hM6 jc11 lr_0.1 lr_0.2 rfl) rfl rfl hl.1 (Nat.le_of_ble_eq_true rfl) ⟨Nat.le_of_ble_eq_true rfl, Nat.le_of_ble_eq_true rfl⟩ ⟨rfl, rfl⟩ ⟨Nat.zero_le _, Nat.zero_le _⟩ (fun H locs hr108 hM7 => ?_)
            refine r_if_eq C 121 hr108 dX11_readsItem_111 (by decide) (fun cq => ?_) (fun cq => ?_)
            · replace h := ifp cq h
              refine r_aload_n C dX11_readsItem_121 rfl hl 0 rfl ?_
              refine r_ldcSW (i := 8) C (List.mem_of_getElem? (i := 32) rfl) dX11_readsItem_122 ?_
              replace h := bd_some h
              obtain ⟨r125, hf125, h⟩ := h
              refine r_callI (As := [.ref (eK E 8)]) (rest := []) C hM7 (c_X11_isWord l E z (show 8 < nST by decide) hf125) jy_X11_isWord lk_X11_301 dX11_readsItem_125 (recvW C hM7 jc11 lr_0.1 lr_0.2 rfl) rfl rfl hl.1 (Nat.le_of_ble_eq_true rfl) ⟨Nat.le_of_ble_eq_true rfl, Nat.le_of_ble_eq_true rfl⟩ ⟨rfl, rfl⟩ ⟨Nat.zero_le _, Nat.zero_le _⟩ (fun H locs hr125 hM8 => ?_)
              refine r_if_eq C 142 hr125 dX11_readsItem_128 (by decide) (fun cq => ?_) (fun cq => ?_)
              · replace h := ifp cq h
                refine r_aload_n C dX11_readsItem_142 rfl hl 0 rfl ?_
                refine r_iconst C dX11_readsItem_143 ?_
                refine r_iconst C dX11_readsItem_144 ?_
                refine r_bipush C dX11_readsItem_145 rfl ?_
                replace h := bd_some h
                obtain ⟨M147, hf147, h⟩ := h
                refine r_callV (As := [.int (jI 3), .int (jI 0), .int (jI 40)]) (rest := []) C hM8 (c_X11_readsBlock l E z ⟨by decide, by decide⟩ ⟨by decide, by decide⟩ ⟨by decide, by decide⟩ hf147) jy_X11_readsBlock lk_X11_393 dX11_readsItem_147 (recvW C hM8 jc11 lr_0.1 lr_0.2 rfl) rfl rfl hl.1 (Nat.le_of_ble_eq_true rfl) ⟨Nat.le_of_ble_eq_true rfl, Nat.le_of_ble_eq_true rfl⟩ ⟨rfl, rfl⟩ ⟨Nat.zero_le _, Nat.zero_le _⟩ (fun H locs hM9 => ?_)
                exact r_return C hM9 hr hlk h dX11_readsItem_150
              · replace h := ifn cq h
                refine r_aload_n C dX11_readsItem_131 rfl hl 0 rfl ?_
                refine r_iconst C dX11_readsItem_132 ?_
                refine r_iconst C dX11_readsItem_133 ?_
                refine r_bipush C dX11_readsItem_134 rfl ?_
                replace h := bd_some h
                obtain ⟨M136, hf136, h⟩ := h
                refine r_callV (As := [.int (jI 2), .int (jI 1), .int (jI 9)]) (rest := []) C hM8 (c_X11_readsBlock l E z ⟨by decide, by decide⟩ ⟨by decide, by decide⟩ ⟨by decide, by decide⟩ hf136) jy_X11_readsBlock lk_X11_393 dX11_readsItem_136 (recvW C hM8 jc11 lr_0.1 lr_0.2 rfl) rfl rfl hl.1 (Nat.le_of_ble_eq_true rfl) ⟨Nat.le_of_ble_eq_true rfl, Nat.le_of_ble_eq_true rfl⟩ ⟨rfl, rfl⟩ ⟨Nat.zero_le _, Nat.zero_le _⟩ (fun H locs hM10 => ?_)
                refine r_goto C 150 dX11_readsItem_139 (by decide) ?_
                exact r_return C hM10 hr hlk h dX11_readsItem_150
            · replace h := ifn cq h
              refine r_aload_n C dX11_readsItem_114 rfl hl 0 rfl ?_
              replace h := bd_some h
              obtain ⟨M115, hf115, h⟩ := h
              refine r_callV (As := []) (rest := []) C hM7 (c_X11_readsHeld l E z hf115) jy_X11_readsHeld lk_X11_390 dX11_readsItem_115 (recvW C hM7 jc11 lr_0.1 lr_0.2 rfl) rfl rfl hl.1 (Nat.le_of_ble_eq_true rfl) ⟨Nat.le_of_ble_eq_true rfl, Nat.le_of_ble_eq_true rfl⟩ ⟨rfl, rfl⟩ ⟨Nat.zero_le _, Nat.zero_le _⟩ (fun H locs hM11 => ?_)
              refine r_goto C 150 dX11_readsItem_118 (by decide) ?_
              exact r_return C hM11 hr hlk h dX11_readsItem_150
          · replace h := ifn cq h
            refine r_aload_n C dX11_readsItem_97 rfl hl 0 rfl ?_
            replace h := bd_some h
            obtain ⟨M98, hf98, h⟩ := h
            refine r_callV (As := []) (rest := []) C hM6 (c_X11_readsCut l E z hf98) jy_X11_readsCut lk_X11_387 dX11_readsItem_98 (recvW C hM6 jc11 lr_0.1 lr_0.2 rfl) rfl rfl hl.1 (Nat.le_of_ble_eq_true rfl) ⟨Nat.le_of_ble_eq_true rfl, Nat.le_of_ble_eq_true rfl⟩ ⟨rfl, rfl⟩ ⟨Nat.zero_le _, Nat.zero_le _⟩ (fun H locs hM12 => ?_)
            refine r_goto C 150 dX11_readsItem_101 (by decide) ?_
            exact r_return C hM12 hr hlk h dX11_readsItem_150
        · replace h := ifp cq h
          exact r_return C hM2 hr hlk h dX11_readsItem_76
      refine r_icmp_ne C 69 (hMj55.ok _ _) ⟨by decide, by decide⟩ dX11_readsItem_61 (by decide) (fun cq => ?_) (fun cq => ?_)
      · replace h := ifn cq h
        exact hJ69 _ _ _ _ h hMj55 (lv_sub hl [0] rfl)
      · replace h := ifp cq h
        refine r_aload_n C dX11_readsItem_64 rfl hl 0 rfl ?_
        refine r_iconst C dX11_readsItem_65 ?_
        replace h := bd_some h
        obtain ⟨M66, hf66, h⟩ := h
        refine r_callV (As := [.int (jI 4)]) (rest := []) C hMj55 (c_X11_fails l E z ⟨by decide, by decide⟩ hf66) jy_X11_fails lk_X11_295 dX11_readsItem_66 (recvW C hMj55 jc11 lr_0.1 lr_0.2 rfl) rfl rfl hl.1 (Nat.le_of_ble_eq_true rfl) ⟨Nat.le_of_ble_eq_true rfl, Nat.le_of_ble_eq_true rfl⟩ ⟨rfl, rfl⟩ ⟨Nat.zero_le _, Nat.zero_le _⟩ (fun H locs hM13 => ?_)
        exact hJ69 _ _ _ _ h hM13 (lv_sub hl [0] rfl)
    refine r_if_ne C 55 hv45 dX11_readsItem_47 (by decide) (fun cq => ?_) (fun cq => ?_)
    · replace h := ifn cq h
      exact hJ55 _ _ _ _ h hMj45 (lv_sub hl [1] rfl)
    · replace h := ifp cq h
      refine r_aload_n C dX11_readsItem_50 rfl hl 1 rfl ?_
      refine r_iconst C dX11_readsItem_51 ?_
      replace h := bd_some h
      obtain ⟨M52, hf52, h⟩ := h
      refine r_callV (As := [.int (jI 1)]) (rest := []) C hMj45 (c_X11_fails l E z ⟨by decide, by decide⟩ hf52) jy_X11_fails lk_X11_295 dX11_readsItem_52 (recvW C hMj45 jc11 lr_0.1 lr_0.2 rfl) rfl rfl hl.1 (Nat.le_of_ble_eq_true rfl) ⟨Nat.le_of_ble_eq_true rfl, Nat.le_of_ble_eq_true rfl⟩ ⟨rfl, rfl⟩ ⟨Nat.zero_le _, Nat.zero_le _⟩ (fun H locs hM14 => ?_)
      exact hJ55 _ _ _ _ h hM14 (lv_sub hl [1] rfl)
  replace h := jn_some h
  obtain ⟨k40, hk40, h⟩ := h
  have hJ40 : ∀ (_ : Unit), ∀ (H : Heap) (locs : List Loc) (ls : Array Slot), k40 () = some M' → HS E z LyR M sM H locs → lv_has ls 2 [(0, .ref (z + 0))] → W p l e ({ frames := 9, cells := 0, slots := 0, locals := 367 } : Room) sM m (([.ref (z + 0)] : List Value).toArray) below meth c H locs 0 0 (MQ below (va_Qv (fun (_ : Unit) => Mok LyR M') (fun _ t => va_P (eD E) vwCl (Wd (eC E) z LyR M') t.heap) (eA E)) (([.ref (z + 0)] : List Value).toArray) sM 0 0 (eA E)) (F0 m 40 ls []) := by
    intro _ H locs ls h hMj40 hl
    subst hk40
    try dsimp only at h
    refine r_iconst C dX11_readsItem_40 ?_
    refine r_goto C 45 dX11_readsItem_41 (by decide) ?_
    exact hJ45 _ ⟨by decide, by decide⟩ _ _ _ h hMj40 (lv_sub hl [0] rfl)
  refine r_if_ne C 40 hr4 dX11_readsItem_7 (by decide) (fun cq => ?_) (fun cq => ?_)
  · replace h := ifn cq h
    exact hJ40 () _ _ _ h hM1 (lv_sub hl [0] rfl)
  · replace h := ifp cq h
    refine r_aload_n C dX11_readsItem_10 rfl hl 0 rfl ?_
    refine r_ldcSW (i := 1) C (List.mem_of_getElem? (i := 25) rfl) dX11_readsItem_11 ?_
    replace h := bd_some h
    obtain ⟨r14, hf14, h⟩ := h
    refine r_callI (As := [.ref (eK E 1)]) (rest := []) C hM1 (c_X11_isWord l E z (show 1 < nST by decide) hf14) jy_X11_isWord lk_X11_301 dX11_readsItem_14 (recvW C hM1 jc11 lr_0.1 lr_0.2 rfl) rfl rfl hl.1 (Nat.le_of_ble_eq_true rfl) ⟨Nat.le_of_ble_eq_true rfl, Nat.le_of_ble_eq_true rfl⟩ ⟨rfl, rfl⟩ ⟨Nat.zero_le _, Nat.zero_le _⟩ (fun H locs hr14 hM15 => ?_)
    refine r_if_ne C 40 hr14 dX11_readsItem_17 (by decide) (fun cq => ?_) (fun cq => ?_)
    · replace h := ifn cq h
      exact hJ40 () _ _ _ h hM15 (lv_sub hl [0] rfl)
    · replace h := ifp cq h
      refine r_aload_n C dX11_readsItem_20 rfl hl 0 rfl ?_
      refine r_ldcSW (i := 8) C (List.mem_of_getElem? (i := 32) rfl) dX11_readsItem_21 ?_
      replace h := bd_some h
      obtain ⟨r24, hf24, h⟩ := h
      refine r_callI (As := [.ref (eK E 8)]) (rest := []) C hM15 (c_X11_isWord l E z (show 8 < nST by decide) hf24) jy_X11_isWord lk_X11_301 dX11_readsItem_24 (recvW C hM15 jc11 lr_0.1 lr_0.2 rfl) rfl rfl hl.1 (Nat.le_of_ble_eq_true rfl) ⟨Nat.le_of_ble_eq_true rfl, Nat.le_of_ble_eq_true rfl⟩ ⟨rfl, rfl⟩ ⟨Nat.zero_le _, Nat.zero_le _⟩ (fun H locs hr24 hM16 => ?_)
      refine r_if_ne C 40 hr24 dX11_readsItem_27 (by decide) (fun cq => ?_) (fun cq => ?_)
      · replace h := ifn cq h
        exact hJ40 () _ _ _ h hM16 (lv_sub hl [0] rfl)
      · replace h := ifp cq h
        refine r_aload_n C dX11_readsItem_30 rfl hl 0 rfl ?_
        refine r_ldcSW (i := 9) C (List.mem_of_getElem? (i := 33) rfl) dX11_readsItem_31 ?_
        replace h := bd_some h
        obtain ⟨r34, hf34, h⟩ := h
        refine r_callI (As := [.ref (eK E 9)]) (rest := []) C hM16 (c_X11_isWord l E z (show 9 < nST by decide) hf34) jy_X11_isWord lk_X11_301 dX11_readsItem_34 (recvW C hM16 jc11 lr_0.1 lr_0.2 rfl) rfl rfl hl.1 (Nat.le_of_ble_eq_true rfl) ⟨Nat.le_of_ble_eq_true rfl, Nat.le_of_ble_eq_true rfl⟩ ⟨rfl, rfl⟩ ⟨Nat.zero_le _, Nat.zero_le _⟩ (fun H locs hr34 hM17 => ?_)
        refine r_if_eq C 44 hr34 dX11_readsItem_37 (by decide) (fun cq => ?_) (fun cq => ?_)
        · replace h := ifp cq h
          refine r_iconst C dX11_readsItem_44 ?_
          exact hJ45 _ ⟨by decide, by decide⟩ _ _ _ h hM17 (lv_sub hl [0] rfl)
        · replace h := ifn cq h
          exact hJ40 () _ _ _ h hM17 (lv_sub hl [0] rfl)
set_option maxRecDepth 100000 in
set_option maxHeartbeats 4000000 in
theorem c_X11_readsReel (l : Launch) (E : jE) (z : Nat) {M M' : Mem} (h : f_X11_readsReel M = some M') : CtV l yX11_readsReel cX11_readsReel 1 none { frames := 10, cells := 0, slots := 0, locals := 388 } E z LyR [.ref (z + 0)] M M' := by
  refine jm (by decide +kernel) (Nat.le_of_ble_eq_true rfl) ?_
  intro p e sM m below meth c C hM0 hr hlk ls hl
  replace hl : lv_has ls 1 [(0, .ref (z + 0))] := hl
  unfold f_X11_readsReel at h
  refine r_aload_n C dX11_readsReel_0 rfl hl 0 rfl ?_
  refine r_iconst C dX11_readsReel_1 ?_
  refine r_putI C hM0 jc11 40 ⟨by decide, by decide⟩ dX11_readsReel_2 lk_X11_362 lr_0.1 lr_0.2 rfl rfl (by decide) rfl rfl rfl (Nat.le_of_ble_eq_true rfl) (by decide) (fun H locs hM1 => ?_)
  replace h := lt_some h
  obtain ⟨N2, eN2, h⟩ := h
  rw [← eN2] at hM1
  refine r_aload_n C dX11_readsReel_5 rfl hl 0 rfl ?_
  refine r_iconst C dX11_readsReel_6 ?_
  refine r_putI C hM1 jc11 41 ⟨by decide, by decide⟩ dX11_readsReel_7 lk_X11_384 lr_0.1 lr_0.2 rfl rfl (by decide) rfl rfl rfl (Nat.le_of_ble_eq_true rfl) (by decide) (fun H locs hM3 => ?_)
  replace h := lt_some h
  obtain ⟨N4, eN4, h⟩ := h
  rw [← eN4] at hM3
  refine r_aload_n C dX11_readsReel_10 rfl hl 0 rfl ?_
  refine r_iconst C dX11_readsReel_11 ?_
  refine r_putI C hM3 jc11 42 ⟨by decide, by decide⟩ dX11_readsReel_12 lk_X11_377 lr_0.1 lr_0.2 rfl rfl (by decide) rfl rfl rfl (Nat.le_of_ble_eq_true rfl) (by decide) (fun H locs hM5 => ?_)
  replace h := lt_some h
  obtain ⟨N6, eN6, h⟩ := h
  rw [← eN6] at hM5
  refine r_aload_n C dX11_readsReel_15 rfl hl 0 rfl ?_
  replace h := bd_some h
  obtain ⟨M16, hf16, h⟩ := h
  refine r_callV (As := []) (rest := []) C hM5 (c_X11_beginsText l E z hf16) jy_X11_beginsText lk_X11_350 dX11_readsReel_16 (recvW C hM5 jc11 lr_0.1 lr_0.2 rfl) rfl rfl hl.1 (Nat.le_of_ble_eq_true rfl) ⟨Nat.le_of_ble_eq_true rfl, Nat.le_of_ble_eq_true rfl⟩ ⟨rfl, rfl⟩ ⟨Nat.zero_le _, Nat.zero_le _⟩ (fun H locs hM7 => ?_)
  have hL19 : ∀ n19 : Nat, ∀ (M : Mem), ∀ (H : Heap) (locs : List Loc) (ls : Array Slot), f_X11_readsReel_L19 n19  M = some M' → HS E z LyR M sM H locs → lv_has ls 1 [(0, .ref (z + 0))] → W p l e ({ frames := 10, cells := 0, slots := 0, locals := 388 } : Room) sM m (([.ref (z + 0)] : List Value).toArray) below meth c H locs 0 0 (MQ below (va_Qv (fun (_ : Unit) => Mok LyR M') (fun _ t => va_P (eD E) vwCl (Wd (eC E) z LyR M') t.heap) (eA E)) (([.ref (z + 0)] : List Value).toArray) sM 0 0 (eA E)) (F0 m 19 ls []) := by
    intro n19
    induction n19 with
    | zero =>
      intro M H locs ls h hM hl
      exact absurd h (by simp [f_X11_readsReel_L19])
    | succ n19 ih19 =>
      intro M H locs ls h hM hl
      rw [f_X11_readsReel_L19] at h
      refine r_aload_n C dX11_readsReel_19 rfl hl 0 rfl ?_
      replace h := bd_some h
      obtain ⟨r20, hf20, h⟩ := h
      refine r_callI (As := []) (rest := []) C hM (c_X11_isGood l E z hf20) jy_X11_isGood lk_X11_277 dX11_readsReel_20 (recvW C hM jc11 lr_0.1 lr_0.2 rfl) rfl rfl hl.1 (Nat.le_of_ble_eq_true rfl) ⟨Nat.le_of_ble_eq_true rfl, Nat.le_of_ble_eq_true rfl⟩ ⟨rfl, rfl⟩ ⟨Nat.zero_le _, Nat.zero_le _⟩ (fun H locs hr20 hM8 => ?_)
      refine r_if_eq C 94 hr20 dX11_readsReel_23 (by decide) (fun cq => ?_) (fun cq => ?_)
      · replace h := ifp cq h
        refine r_aload_n C dX11_readsReel_94 rfl hl 0 rfl ?_
        replace h := bd_some h
        obtain ⟨M95, hf95, h⟩ := h
        refine r_callV (As := []) (rest := []) C hM8 (c_X11_endsText l E z hf95) jy_X11_endsText lk_X11_356 dX11_readsReel_95 (recvW C hM8 jc11 lr_0.1 lr_0.2 rfl) rfl rfl hl.1 (Nat.le_of_ble_eq_true rfl) ⟨Nat.le_of_ble_eq_true rfl, Nat.le_of_ble_eq_true rfl⟩ ⟨rfl, rfl⟩ ⟨Nat.zero_le _, Nat.zero_le _⟩ (fun H locs hM9 => ?_)
        exact r_return C hM9 hr hlk h dX11_readsReel_98
      · replace h := ifn cq h
        refine r_aload_n C dX11_readsReel_26 rfl hl 0 rfl ?_
        refine r_getI C hM8 jc11 32 rfl dX11_readsReel_27 lk_X11_255 lr_0.1 lr_0.2 rfl rfl (by decide) rfl ?_
        replace h := jn_some h
        obtain ⟨k40, hk40, h⟩ := h
        have hJ40 : ∀ (_ : Unit), ∀ (H : Heap) (locs : List Loc) (ls : Array Slot), k40 () = some M' → HS E z LyR M sM H locs → lv_has ls 1 [(0, .ref (z + 0))] → W p l e ({ frames := 10, cells := 0, slots := 0, locals := 388 } : Room) sM m (([.ref (z + 0)] : List Value).toArray) below meth c H locs 0 0 (MQ below (va_Qv (fun (_ : Unit) => Mok LyR M') (fun _ t => va_P (eD E) vwCl (Wd (eC E) z LyR M') t.heap) (eA E)) (([.ref (z + 0)] : List Value).toArray) sM 0 0 (eA E)) (F0 m 40 ls []) := by
          intro _ H locs ls h hMj40 hl
          subst hk40
          try dsimp only at h
          refine r_aload_n C dX11_readsReel_40 rfl hl 0 rfl ?_
          refine r_getI C hMj40 jc11 42 rfl dX11_readsReel_41 lk_X11_377 lr_0.1 lr_0.2 rfl rfl (by decide) rfl ?_
          refine r_if_le C 87 (hM.ok _ _) dX11_readsReel_44 (by decide) (fun cq => ?_) (fun cq => ?_)
          · replace h := ifp cq h
            refine r_aload_n C dX11_readsReel_87 rfl hl 0 rfl ?_
            replace h := bd_some h
            obtain ⟨M88, hf88, h⟩ := h
            refine r_callV (As := []) (rest := []) C hMj40 (c_X11_readsItem l E z hf88) jy_X11_readsItem lk_X11_396 dX11_readsReel_88 (recvW C hMj40 jc11 lr_0.1 lr_0.2 rfl) rfl rfl hl.1 (Nat.le_of_ble_eq_true rfl) ⟨Nat.le_of_ble_eq_true rfl, Nat.le_of_ble_eq_true rfl⟩ ⟨rfl, rfl⟩ ⟨Nat.zero_le _, Nat.zero_le _⟩ (fun H locs hM10 => ?_)
            refine r_goto C 19 dX11_readsReel_91 (by decide) ?_
            exact ih19 _ _ _ _ h hM10 (lv_sub hl [0] rfl)
          · replace h := ifn cq h
            refine r_aload_n C dX11_readsReel_47 rfl hl 0 rfl ?_
            refine r_bipush C dX11_readsReel_48 rfl ?_
            replace h := bd_some h
            obtain ⟨r50, hf50, h⟩ := h
            refine r_callI (As := [.int (jI 125)]) (rest := []) C hMj40 (c_X11_isSign l E z ⟨by decide, by decide⟩ hf50) jy_X11_isSign lk_X11_292 dX11_readsReel_50 (recvW C hMj40 jc11 lr_0.1 lr_0.2 rfl) rfl rfl hl.1 (Nat.le_of_ble_eq_true rfl) ⟨Nat.le_of_ble_eq_true rfl, Nat.le_of_ble_eq_true rfl⟩ ⟨rfl, rfl⟩ ⟨Nat.zero_le _, Nat.zero_le _⟩ (fun H locs hr50 hM11 => ?_)
            refine r_if_eq C 87 hr50 dX11_readsReel_53 (by decide) (fun cq => ?_) (fun cq => ?_)
            · replace h := ifp cq h
              refine r_aload_n C dX11_readsReel_87 rfl hl 0 rfl ?_
              replace h := bd_some h
              obtain ⟨M88, hf88, h⟩ := h
              refine r_callV (As := []) (rest := []) C hM11 (c_X11_readsItem l E z hf88) jy_X11_readsItem lk_X11_396 dX11_readsReel_88 (recvW C hM11 jc11 lr_0.1 lr_0.2 rfl) rfl rfl hl.1 (Nat.le_of_ble_eq_true rfl) ⟨Nat.le_of_ble_eq_true rfl, Nat.le_of_ble_eq_true rfl⟩ ⟨rfl, rfl⟩ ⟨Nat.zero_le _, Nat.zero_le _⟩ (fun H locs hM12 => ?_)
              refine r_goto C 19 dX11_readsReel_91 (by decide) ?_
              exact ih19 _ _ _ _ h hM12 (lv_sub hl [0] rfl)
            · replace h := ifn cq h
              refine r_aload_n C dX11_readsReel_56 rfl hl 0 rfl ?_
              refine r_iconst C dX11_readsReel_57 ?_
              refine r_iconst C dX11_readsReel_58 ?_
              refine r_iconst C dX11_readsReel_59 ?_
              refine r_iconst C dX11_readsReel_60 ?_
              replace h := bd_some h
              obtain ⟨M61, hf61, h⟩ := h
              refine r_callV (As := [.int (jI 4), .int (jI 0), .int (jI 0), .int (jI 0)]) (rest := []) C hM11 (c_X11_makes l E z ⟨by decide, by decide⟩ ⟨by decide, by decide⟩ ⟨by decide, by decide⟩ ⟨by decide, by decide⟩ hf61) jy_X11_makes lk_X11_373 dX11_readsReel_61 (recvW C hM11 jc11 lr_0.1 lr_0.2 rfl) rfl rfl hl.1 (Nat.le_of_ble_eq_true rfl) ⟨Nat.le_of_ble_eq_true rfl, Nat.le_of_ble_eq_true rfl⟩ ⟨rfl, rfl⟩ ⟨Nat.zero_le _, Nat.zero_le _⟩ (fun H locs hM13 => ?_)
              refine r_aload_n C dX11_readsReel_64 rfl hl 0 rfl ?_
              refine r_dup C dX11_readsReel_65 rfl ?_
              refine r_getI C hM13 jc11 42 rfl dX11_readsReel_66 lk_X11_377 lr_0.1 lr_0.2 rfl rfl (by decide) rfl ?_
              refine r_iconst C dX11_readsReel_69 ?_
              replace h := ck_some h
              obtain ⟨hc14, h⟩ := h
              refine r_isub C dX11_readsReel_70 ?_
              refine r_putI C hM13 jc11 42 hc14 dX11_readsReel_71 lk_X11_377 lr_0.1 lr_0.2 rfl rfl (by decide) rfl rfl rfl (Nat.le_of_ble_eq_true rfl) (by decide) (fun H locs hM15 => ?_)
              replace h := lt_some h
              obtain ⟨N16, eN16, h⟩ := h
              rw [← eN16] at hM15
              refine r_aload_n C dX11_readsReel_74 rfl hl 0 rfl ?_
              replace h := bd_some h
              obtain ⟨M75, hf75, h⟩ := h
              refine r_callV (As := []) (rest := []) C hM15 (c_X11_scans l E z hf75) jy_X11_scans lk_X11_281 dX11_readsReel_75 (recvW C hM15 jc11 lr_0.1 lr_0.2 rfl) rfl rfl hl.1 (Nat.le_of_ble_eq_true rfl) ⟨Nat.le_of_ble_eq_true rfl, Nat.le_of_ble_eq_true rfl⟩ ⟨rfl, rfl⟩ ⟨Nat.zero_le _, Nat.zero_le _⟩ (fun H locs hM17 => ?_)
              refine r_aload_n C dX11_readsReel_78 rfl hl 0 rfl ?_
              refine r_bipush C dX11_readsReel_79 rfl ?_
              replace h := bd_some h
              obtain ⟨M81, hf81, h⟩ := h
              refine r_callV (As := [.int (jI 59)]) (rest := []) C hM17 (c_X11_needsSign l E z ⟨by decide, by decide⟩ hf81) jy_X11_needsSign lk_X11_343 dX11_readsReel_81 (recvW C hM17 jc11 lr_0.1 lr_0.2 rfl) rfl rfl hl.1 (Nat.le_of_ble_eq_true rfl) ⟨Nat.le_of_ble_eq_true rfl, Nat.le_of_ble_eq_true rfl⟩ ⟨rfl, rfl⟩ ⟨Nat.zero_le _, Nat.zero_le _⟩ (fun H locs hM18 => ?_)
              refine r_goto C 19 dX11_readsReel_84 (by decide) ?_
              exact ih19 _ _ _ _ h hM18 (lv_sub hl [0] rfl)
        refine r_if_ne C 40 (hM.ok _ _) dX11_readsReel_30 (by decide) (fun cq => ?_) (fun cq => ?_)
        · replace h := ifn cq h
          exact hJ40 () _ _ _ h hM8 (lv_sub hl [0] rfl)
        · replace h := ifp cq h
          refine r_aload_n C dX11_readsReel_33 rfl hl 0 rfl ?_
          refine r_getI C hM8 jc11 42 rfl dX11_readsReel_34 lk_X11_377 lr_0.1 lr_0.2 rfl rfl (by decide) rfl ?_
          refine r_if_le C 94 (hM.ok _ _) dX11_readsReel_37 (by decide) (fun cq => ?_) (fun cq => ?_)
          · replace h := ifp cq h
            refine r_aload_n C dX11_readsReel_94 rfl hl 0 rfl ?_
            replace h := bd_some h
            obtain ⟨M95, hf95, h⟩ := h
            refine r_callV (As := []) (rest := []) C hM8 (c_X11_endsText l E z hf95) jy_X11_endsText lk_X11_356 dX11_readsReel_95 (recvW C hM8 jc11 lr_0.1 lr_0.2 rfl) rfl rfl hl.1 (Nat.le_of_ble_eq_true rfl) ⟨Nat.le_of_ble_eq_true rfl, Nat.le_of_ble_eq_true rfl⟩ ⟨rfl, rfl⟩ ⟨Nat.zero_le _, Nat.zero_le _⟩ (fun H locs hM19 => ?_)
            exact r_return C hM19 hr hlk h dX11_readsReel_98
          · replace h := ifn cq h
            exact hJ40 () _ _ _ h hM8 (lv_sub hl [0] rfl)
  exact hL19 jFuel _ _ _ _ h hM7 (lv_sub hl [0] rfl)
set_option maxRecDepth 100000 in
set_option maxHeartbeats 4000000 in
theorem c_X11_takesReel (l : Launch) (E : jE) (z : Nat) {M M' : Mem} (h : f_X11_takesReel M = some M') : CtV l yX11_takesReel cX11_takesReel 2 none { frames := 0, cells := 0, slots := 0, locals := 0 } E z LyR [.ref (z + 0)] M M' := by
  refine jm (by decide +kernel) (Nat.le_of_ble_eq_true rfl) ?_
  intro p e sM m below meth c C hM0 hr hlk ls hl
  replace hl : lv_has ls 2 [(0, .ref (z + 0))] := hl
  unfold f_X11_takesReel at h
  refine r_aload_n C dX11_takesReel_0 rfl hl 0 rfl ?_
  refine r_getR C hM0 jc11 0 1 dX11_takesReel_1 lk_X11_7 lr_0.1 lr_0.2 rfl rfl (by decide) rfl ?_
  refine r_bipush C dX11_takesReel_4 rfl ?_
  refine r_aload_n C dX11_takesReel_6 rfl hl 0 rfl ?_
  refine r_getI C hM0 jc11 40 rfl dX11_takesReel_7 lk_X11_362 lr_0.1 lr_0.2 rfl rfl (by decide) rfl ?_
  refine r_iast C hM0 dX11_takesReel_10 lr_1.1 lr_1.2 (show (0 : Int) ≤ 8 ∧ (8 : Int) < 1062 by decide) ⟨by decide, by decide⟩ (hM0.ok _ _) (fun H locs hM1 => ?_)
  replace h := lt_some h
  obtain ⟨N2, eN2, h⟩ := h
  rw [← eN2] at hM1
  refine r_iconst C dX11_takesReel_11 ?_
  refine r_istore_n C [(1, .int (jI 0)), (0, .ref (z + 0))] dX11_takesReel_12 rfl hl (by decide) rfl (fun ls hl => ?_)
  have hL13 : ∀ n13 : Nat, ∀ (x1 : Int) (M : Mem), inR x1 → ∀ (H : Heap) (locs : List Loc) (ls : Array Slot), f_X11_takesReel_L13 n13  x1 M = some M' → HS E z LyR M sM H locs → lv_has ls 2 [(0, .ref (z + 0)), (1, .int (jI x1))] → W p l e ({ frames := 0, cells := 0, slots := 0, locals := 0 } : Room) sM m (([.ref (z + 0)] : List Value).toArray) below meth c H locs 0 0 (MQ below (va_Qv (fun (_ : Unit) => Mok LyR M') (fun _ t => va_P (eD E) vwCl (Wd (eC E) z LyR M') t.heap) (eA E)) (([.ref (z + 0)] : List Value).toArray) sM 0 0 (eA E)) (F0 m 13 ls []) := by
    intro n13
    induction n13 with
    | zero =>
      intro x1 M hx1 H locs ls h hM hl
      exact absurd h (by simp [f_X11_takesReel_L13])
    | succ n13 ih13 =>
      intro x1 M hx1 H locs ls h hM hl
      rw [f_X11_takesReel_L13] at h
      refine r_iload_n C dX11_takesReel_13 rfl hl 1 rfl ?_
      refine r_sipush C dX11_takesReel_14 rfl ?_
      refine r_icmp_ge C 55 hx1 ⟨by decide, by decide⟩ dX11_takesReel_17 (by decide) (fun cq => ?_) (fun cq => ?_)
      · replace h := ifp cq h
        exact r_return C hM hr hlk h dX11_takesReel_55
      · replace h := ifn cq h
        refine r_aload_n C dX11_takesReel_20 rfl hl 0 rfl ?_
        refine r_getR C hM jc11 0 1 dX11_takesReel_21 lk_X11_7 lr_0.1 lr_0.2 rfl rfl (by decide) rfl ?_
        refine r_bipush C dX11_takesReel_24 rfl ?_
        refine r_iload_n C dX11_takesReel_26 rfl hl 1 rfl ?_
        replace h := ck_some h
        obtain ⟨hc3, h⟩ := h
        refine r_iadd C dX11_takesReel_27 ?_
        refine r_iload_n C dX11_takesReel_28 rfl hl 1 rfl ?_
        refine r_iconst C dX11_takesReel_29 ?_
        refine r_aload_n C dX11_takesReel_30 rfl hl 0 rfl ?_
        refine r_getI C hM jc11 40 rfl dX11_takesReel_31 lk_X11_362 lr_0.1 lr_0.2 rfl rfl (by decide) rfl ?_
        replace h := ck_some h
        obtain ⟨hc4, h⟩ := h
        refine r_imul C dX11_takesReel_34 ?_
        refine r_icmp_ge C 47 hx1 hc4 dX11_takesReel_35 (by decide) (fun cq => ?_) (fun cq => ?_)
        · replace h := ifp cq h
          refine r_iconst C dX11_takesReel_47 ?_
          replace h := ck_some h
          obtain ⟨hc5, h⟩ := h
          refine r_iast C hM dX11_takesReel_48 lr_1.1 lr_1.2 hc5 hc3 ⟨by decide, by decide⟩ (fun H locs hM6 => ?_)
          replace h := lt_some h
          obtain ⟨N7, eN7, h⟩ := h
          rw [← eN7] at hM6
          replace h := ck_some h
          obtain ⟨hc8, h⟩ := h
          refine r_iinc (j := 1) (x := x1) C [(1, .int (jI (x1 + 1))), (0, .ref (z + 0))] dX11_takesReel_49 hl rfl (by decide) rfl (fun ls hl => ?_)
          refine r_goto C 13 dX11_takesReel_52 (by decide) ?_
          exact ih13 _ _ hc8 _ _ _ h hM6 (lv_sub hl [1, 0] rfl)
        · replace h := ifn cq h
          refine r_aload_n C dX11_takesReel_38 rfl hl 0 rfl ?_
          refine r_getR C hM jc11 39 23 dX11_takesReel_39 lk_X11_81 lr_0.1 lr_0.2 rfl rfl (by decide) rfl ?_
          refine r_iload_n C dX11_takesReel_42 rfl hl 1 rfl ?_
          replace h := ck_some h
          obtain ⟨hc9, h⟩ := h
          refine r_iald C hM rfl dX11_takesReel_43 lr_23.1 lr_23.2 hc9 hx1 ?_
          refine r_goto C 48 dX11_takesReel_44 (by decide) ?_
          replace h := ck_some h
          obtain ⟨hc10, h⟩ := h
          refine r_iast C hM dX11_takesReel_48 lr_1.1 lr_1.2 hc10 hc3 (hM.ok _ _) (fun H locs hM11 => ?_)
          replace h := lt_some h
          obtain ⟨N12, eN12, h⟩ := h
          rw [← eN12] at hM11
          replace h := ck_some h
          obtain ⟨hc13, h⟩ := h
          refine r_iinc (j := 1) (x := x1) C [(1, .int (jI (x1 + 1))), (0, .ref (z + 0))] dX11_takesReel_49 hl rfl (by decide) rfl (fun ls hl => ?_)
          refine r_goto C 13 dX11_takesReel_52 (by decide) ?_
          exact ih13 _ _ hc13 _ _ _ h hM11 (lv_sub hl [1, 0] rfl)
  exact hL13 jFuel _ _ ⟨by decide, by decide⟩ _ _ _ h hM1 (lv_sub hl [1, 0] rfl)
set_option maxRecDepth 100000 in
set_option maxHeartbeats 4000000 in
theorem c_X11_readsWord (l : Launch) (E : jE) (z : Nat) {M M' : Mem} (h : f_X11_readsWord M = some M') : CtV l yX11_readsWord cX11_readsWord 2 none { frames := 3, cells := 0, slots := 0, locals := 63 } E z LyR [.ref (z + 0)] M M' := by
  refine jm (by decide +kernel) (Nat.le_of_ble_eq_true rfl) ?_
  intro p e sM m below meth c C hM0 hr hlk ls hl
  replace hl : lv_has ls 2 [(0, .ref (z + 0))] := hl
  unfold f_X11_readsWord at h
  refine r_aload_n C dX11_readsWord_0 rfl hl 0 rfl ?_
  refine r_getI C hM0 jc11 30 rfl dX11_readsWord_1 lk_X11_249 lr_0.1 lr_0.2 rfl rfl (by decide) rfl ?_
  refine r_aload_n C dX11_readsWord_4 rfl hl 0 rfl ?_
  refine r_getI C hM0 jc11 31 rfl dX11_readsWord_5 lk_X11_252 lr_0.1 lr_0.2 rfl rfl (by decide) rfl ?_
  replace h := ck_some h
  obtain ⟨hc1, h⟩ := h
  refine r_isub C dX11_readsWord_8 ?_
  refine r_bipush C dX11_readsWord_9 rfl ?_
  replace h := jn_some h
  obtain ⟨k19, hk19, h⟩ := h
  have hJ19 : ∀ (M19 : Mem), ∀ (H : Heap) (locs : List Loc) (ls : Array Slot), k19 M19 = some M' → HS E z LyR M19 sM H locs → lv_has ls 2 [(0, .ref (z + 0))] → W p l e ({ frames := 3, cells := 0, slots := 0, locals := 63 } : Room) sM m (([.ref (z + 0)] : List Value).toArray) below meth c H locs 0 0 (MQ below (va_Qv (fun (_ : Unit) => Mok LyR M') (fun _ t => va_P (eD E) vwCl (Wd (eC E) z LyR M') t.heap) (eA E)) (([.ref (z + 0)] : List Value).toArray) sM 0 0 (eA E)) (F0 m 19 ls []) := by
    intro M19 H locs ls h hMj19 hl
    subst hk19
    try dsimp only at h
    refine r_aload_n C dX11_readsWord_19 rfl hl 0 rfl ?_
    refine r_getI C hMj19 jc11 48 rfl dX11_readsWord_20 lk_X11_399 lr_0.1 lr_0.2 rfl rfl (by decide) rfl ?_
    refine r_bipush C dX11_readsWord_23 rfl ?_
    replace h := jn_some h
    obtain ⟨k33, hk33, h⟩ := h
    have hJ33 : ∀ (M33 : Mem), ∀ (H : Heap) (locs : List Loc) (ls : Array Slot), k33 M33 = some M' → HS E z LyR M33 sM H locs → lv_has ls 2 [(0, .ref (z + 0))] → W p l e ({ frames := 3, cells := 0, slots := 0, locals := 63 } : Room) sM m (([.ref (z + 0)] : List Value).toArray) below meth c H locs 0 0 (MQ below (va_Qv (fun (_ : Unit) => Mok LyR M') (fun _ t => va_P (eD E) vwCl (Wd (eC E) z LyR M') t.heap) (eA E)) (([.ref (z + 0)] : List Value).toArray) sM 0 0 (eA E)) (F0 m 33 ls []) := by
      intro M33 H locs ls h hMj33 hl
      subst hk33
      try dsimp only at h
      refine r_aload_n C dX11_readsWord_33 rfl hl 0 rfl ?_
      replace h := bd_some h
      obtain ⟨r34, hf34, h⟩ := h
      refine r_callI (As := []) (rest := []) C hMj33 (c_X11_isGood l E z hf34) jy_X11_isGood lk_X11_277 dX11_readsWord_34 (recvW C hMj33 jc11 lr_0.1 lr_0.2 rfl) rfl rfl hl.1 (Nat.le_of_ble_eq_true rfl) ⟨Nat.le_of_ble_eq_true rfl, Nat.le_of_ble_eq_true rfl⟩ ⟨rfl, rfl⟩ ⟨Nat.zero_le _, Nat.zero_le _⟩ (fun H locs hr34 hM2 => ?_)
      refine r_if_ne C 41 hr34 dX11_readsWord_37 (by decide) (fun cq => ?_) (fun cq => ?_)
      · replace h := ifn cq h
        refine r_aload_n C dX11_readsWord_41 rfl hl 0 rfl ?_
        refine r_getR C hM2 jc11 44 25 dX11_readsWord_42 lk_X11_87 lr_0.1 lr_0.2 rfl rfl (by decide) rfl ?_
        refine r_aload_n C dX11_readsWord_45 rfl hl 0 rfl ?_
        refine r_getI C hM2 jc11 48 rfl dX11_readsWord_46 lk_X11_399 lr_0.1 lr_0.2 rfl rfl (by decide) rfl ?_
        refine r_aload_n C dX11_readsWord_49 rfl hl 0 rfl ?_
        refine r_getI C hM2 jc11 47 rfl dX11_readsWord_50 lk_X11_402 lr_0.1 lr_0.2 rfl rfl (by decide) rfl ?_
        replace h := ck_some h
        obtain ⟨hc3, h⟩ := h
        refine r_iast C hM2 dX11_readsWord_53 lr_25.1 lr_25.2 hc3 (hMj33.ok _ _) (hMj33.ok _ _) (fun H locs hM4 => ?_)
        replace h := lt_some h
        obtain ⟨N5, eN5, h⟩ := h
        rw [← eN5] at hM4
        refine r_aload_n C dX11_readsWord_54 rfl hl 0 rfl ?_
        refine r_getR C hM4 jc11 45 26 dX11_readsWord_55 lk_X11_90 lr_0.1 lr_0.2 rfl rfl (by decide) rfl ?_
        refine r_aload_n C dX11_readsWord_58 rfl hl 0 rfl ?_
        refine r_getI C hM4 jc11 48 (rd_skip eN5 (by decide) rfl) dX11_readsWord_59 lk_X11_399 lr_0.1 lr_0.2 rfl rfl (by decide) rfl ?_
        refine r_aload_n C dX11_readsWord_62 rfl hl 0 rfl ?_
        refine r_getI C hM4 jc11 30 (rd_skip eN5 (by decide) rfl) dX11_readsWord_63 lk_X11_249 lr_0.1 lr_0.2 rfl rfl (by decide) rfl ?_
        refine r_aload_n C dX11_readsWord_66 rfl hl 0 rfl ?_
        refine r_getI C hM4 jc11 31 (rd_skip eN5 (by decide) rfl) dX11_readsWord_67 lk_X11_252 lr_0.1 lr_0.2 rfl rfl (by decide) rfl ?_
        replace h := ck_some h
        obtain ⟨hc6, h⟩ := h
        refine r_isub C dX11_readsWord_70 ?_
        refine r_iast C hM4 dX11_readsWord_71 lr_26.1 lr_26.2 hc3 (hMj33.ok _ _) hc6 (fun H locs hM7 => ?_)
        replace h := lt_some h
        obtain ⟨N8, eN8, h⟩ := h
        rw [← eN8] at hM7
        refine r_aload_n C dX11_readsWord_72 rfl hl 0 rfl ?_
        refine r_getR C hM7 jc11 46 27 dX11_readsWord_73 lk_X11_93 lr_0.1 lr_0.2 rfl rfl (by decide) rfl ?_
        refine r_aload_n C dX11_readsWord_76 rfl hl 0 rfl ?_
        refine r_getI C hM7 jc11 48 (rd_skip eN8 (by decide) (rd_skip eN5 (by decide) rfl)) dX11_readsWord_77 lk_X11_399 lr_0.1 lr_0.2 rfl rfl (by decide) rfl ?_
        refine r_iconst C dX11_readsWord_80 ?_
        refine r_iast C hM7 dX11_readsWord_81 lr_27.1 lr_27.2 hc3 (hMj33.ok _ _) ⟨by decide, by decide⟩ (fun H locs hM9 => ?_)
        replace h := lt_some h
        obtain ⟨N10, eN10, h⟩ := h
        rw [← eN10] at hM9
        refine r_aload_n C dX11_readsWord_82 rfl hl 0 rfl ?_
        refine r_getI C hM9 jc11 31 (rd_skip eN10 (by decide) (rd_skip eN8 (by decide) (rd_skip eN5 (by decide) rfl))) dX11_readsWord_83 lk_X11_252 lr_0.1 lr_0.2 rfl rfl (by decide) rfl ?_
        refine r_istore_n C [(1, .int (jI (M33 0 31))), (0, .ref (z + 0))] dX11_readsWord_86 rfl hl (by decide) rfl (fun ls hl => ?_)
        have hL87 : ∀ n87 : Nat, ∀ (x1 : Int) (M : Mem), inR x1 → ∀ (H : Heap) (locs : List Loc) (ls : Array Slot), f_X11_readsWord_L87 n87  x1 M = some M' → HS E z LyR M sM H locs → lv_has ls 2 [(0, .ref (z + 0)), (1, .int (jI x1))] → W p l e ({ frames := 3, cells := 0, slots := 0, locals := 63 } : Room) sM m (([.ref (z + 0)] : List Value).toArray) below meth c H locs 0 0 (MQ below (va_Qv (fun (_ : Unit) => Mok LyR M') (fun _ t => va_P (eD E) vwCl (Wd (eC E) z LyR M') t.heap) (eA E)) (([.ref (z + 0)] : List Value).toArray) sM 0 0 (eA E)) (F0 m 87 ls []) := by
          intro n87
          induction n87 with
          | zero =>
            intro x1 M hx1 H locs ls h hM hl
            exact absurd h (by simp [f_X11_readsWord_L87])
          | succ n87 ih87 =>
            intro x1 M hx1 H locs ls h hM hl
            rw [f_X11_readsWord_L87] at h
            refine r_iload_n C dX11_readsWord_87 rfl hl 1 rfl ?_
            refine r_aload_n C dX11_readsWord_88 rfl hl 0 rfl ?_
            refine r_getI C hM jc11 30 rfl dX11_readsWord_89 lk_X11_249 lr_0.1 lr_0.2 rfl rfl (by decide) rfl ?_
            refine r_icmp_ge C 126 hx1 (hM.ok _ _) dX11_readsWord_92 (by decide) (fun cq => ?_) (fun cq => ?_)
            · replace h := ifp cq h
              refine r_aload_n C dX11_readsWord_126 rfl hl 0 rfl ?_
              refine r_dup C dX11_readsWord_127 rfl ?_
              refine r_getI C hM jc11 48 rfl dX11_readsWord_128 lk_X11_399 lr_0.1 lr_0.2 rfl rfl (by decide) rfl ?_
              refine r_iconst C dX11_readsWord_131 ?_
              replace h := ck_some h
              obtain ⟨hc11, h⟩ := h
              refine r_iadd C dX11_readsWord_132 ?_
              refine r_putI C hM jc11 48 hc11 dX11_readsWord_133 lk_X11_399 lr_0.1 lr_0.2 rfl rfl (by decide) rfl rfl rfl (Nat.le_of_ble_eq_true rfl) (by decide) (fun H locs hM12 => ?_)
              replace h := lt_some h
              obtain ⟨N13, eN13, h⟩ := h
              rw [← eN13] at hM12
              refine r_aload_n C dX11_readsWord_136 rfl hl 0 rfl ?_
              replace h := bd_some h
              obtain ⟨M137, hf137, h⟩ := h
              refine r_callV (As := []) (rest := []) C hM12 (c_X11_scans l E z hf137) jy_X11_scans lk_X11_281 dX11_readsWord_137 (recvW C hM12 jc11 lr_0.1 lr_0.2 rfl) rfl rfl hl.1 (Nat.le_of_ble_eq_true rfl) ⟨Nat.le_of_ble_eq_true rfl, Nat.le_of_ble_eq_true rfl⟩ ⟨rfl, rfl⟩ ⟨Nat.zero_le _, Nat.zero_le _⟩ (fun H locs hM14 => ?_)
              exact r_return C hM14 hr hlk h dX11_readsWord_140
            · replace h := ifn cq h
              refine r_aload_n C dX11_readsWord_95 rfl hl 0 rfl ?_
              refine r_getR C hM jc11 43 24 dX11_readsWord_96 lk_X11_84 lr_0.1 lr_0.2 rfl rfl (by decide) rfl ?_
              refine r_aload_n C dX11_readsWord_99 rfl hl 0 rfl ?_
              refine r_getI C hM jc11 47 rfl dX11_readsWord_100 lk_X11_402 lr_0.1 lr_0.2 rfl rfl (by decide) rfl ?_
              refine r_aload_n C dX11_readsWord_103 rfl hl 0 rfl ?_
              refine r_getR C hM jc11 28 22 dX11_readsWord_104 lk_X11_74 lr_0.1 lr_0.2 rfl rfl (by decide) rfl ?_
              refine r_iload_n C dX11_readsWord_107 rfl hl 1 rfl ?_
              replace h := ck_some h
              obtain ⟨hc15, h⟩ := h
              refine r_iald C hM rfl dX11_readsWord_108 lr_22.1 lr_22.2 hc15 hx1 ?_
              replace h := ck_some h
              obtain ⟨hc16, h⟩ := h
              refine r_iast C hM dX11_readsWord_109 lr_24.1 lr_24.2 hc16 (hM.ok _ _) (hM.ok _ _) (fun H locs hM17 => ?_)
              replace h := lt_some h
              obtain ⟨N18, eN18, h⟩ := h
              rw [← eN18] at hM17
              refine r_aload_n C dX11_readsWord_110 rfl hl 0 rfl ?_
              refine r_dup C dX11_readsWord_111 rfl ?_
              refine r_getI C hM17 jc11 47 (rd_skip eN18 (by decide) rfl) dX11_readsWord_112 lk_X11_402 lr_0.1 lr_0.2 rfl rfl (by decide) rfl ?_
              refine r_iconst C dX11_readsWord_115 ?_
              replace h := ck_some h
              obtain ⟨hc19, h⟩ := h
              refine r_iadd C dX11_readsWord_116 ?_
              refine r_putI C hM17 jc11 47 hc19 dX11_readsWord_117 lk_X11_402 lr_0.1 lr_0.2 rfl rfl (by decide) rfl rfl rfl (Nat.le_of_ble_eq_true rfl) (by decide) (fun H locs hM20 => ?_)
              replace h := lt_some h
              obtain ⟨N21, eN21, h⟩ := h
              rw [← eN21] at hM20
              replace h := ck_some h
              obtain ⟨hc22, h⟩ := h
              refine r_iinc (j := 1) (x := x1) C [(1, .int (jI (x1 + 1))), (0, .ref (z + 0))] dX11_readsWord_120 hl rfl (by decide) rfl (fun ls hl => ?_)
              refine r_goto C 87 dX11_readsWord_123 (by decide) ?_
              exact ih87 _ _ hc22 _ _ _ h hM20 (lv_sub hl [1, 0] rfl)
        exact hL87 jFuel _ _ (hMj33.ok _ _) _ _ _ h hM9 (lv_sub hl [1, 0] rfl)
      · replace h := ifp cq h
        exact r_return C hM2 hr hlk h dX11_readsWord_40
    refine r_icmp_ne C 33 (hMj19.ok _ _) ⟨by decide, by decide⟩ dX11_readsWord_25 (by decide) (fun cq => ?_) (fun cq => ?_)
    · replace h := ifn cq h
      exact hJ33 _ _ _ _ h hMj19 (lv_sub hl [0] rfl)
    · replace h := ifp cq h
      refine r_aload_n C dX11_readsWord_28 rfl hl 0 rfl ?_
      refine r_iconst C dX11_readsWord_29 ?_
      replace h := bd_some h
      obtain ⟨M30, hf30, h⟩ := h
      refine r_callV (As := [.int (jI 4)]) (rest := []) C hMj19 (c_X11_fails l E z ⟨by decide, by decide⟩ hf30) jy_X11_fails lk_X11_295 dX11_readsWord_30 (recvW C hMj19 jc11 lr_0.1 lr_0.2 rfl) rfl rfl hl.1 (Nat.le_of_ble_eq_true rfl) ⟨Nat.le_of_ble_eq_true rfl, Nat.le_of_ble_eq_true rfl⟩ ⟨rfl, rfl⟩ ⟨Nat.zero_le _, Nat.zero_le _⟩ (fun H locs hM23 => ?_)
      exact hJ33 _ _ _ _ h hM23 (lv_sub hl [0] rfl)
  refine r_icmp_le C 19 hc1 ⟨by decide, by decide⟩ dX11_readsWord_11 (by decide) (fun cq => ?_) (fun cq => ?_)
  · replace h := ifp cq h
    exact hJ19 _ _ _ _ h hM0 (lv_sub hl [0] rfl)
  · replace h := ifn cq h
    refine r_aload_n C dX11_readsWord_14 rfl hl 0 rfl ?_
    refine r_iconst C dX11_readsWord_15 ?_
    replace h := bd_some h
    obtain ⟨M16, hf16, h⟩ := h
    refine r_callV (As := [.int (jI 2)]) (rest := []) C hM0 (c_X11_fails l E z ⟨by decide, by decide⟩ hf16) jy_X11_fails lk_X11_295 dX11_readsWord_16 (recvW C hM0 jc11 lr_0.1 lr_0.2 rfl) rfl rfl hl.1 (Nat.le_of_ble_eq_true rfl) ⟨Nat.le_of_ble_eq_true rfl, Nat.le_of_ble_eq_true rfl⟩ ⟨rfl, rfl⟩ ⟨Nat.zero_le _, Nat.zero_le _⟩ (fun H locs hM24 => ?_)
    exact hJ19 _ _ _ _ h hM24 (lv_sub hl [0] rfl)
set_option maxRecDepth 100000 in
set_option maxHeartbeats 4000000 in
theorem c_X11_readsSentence (l : Launch) (E : jE) (z : Nat) {M M' : Mem} (h : f_X11_readsSentence M = some M') : CtV l yX11_readsSentence cX11_readsSentence 1 none { frames := 5, cells := 0, slots := 0, locals := 104 } E z LyR [.ref (z + 0)] M M' := by
  refine jm (by decide +kernel) (Nat.le_of_ble_eq_true rfl) ?_
  intro p e sM m below meth c C hM0 hr hlk ls hl
  replace hl : lv_has ls 1 [(0, .ref (z + 0))] := hl
  unfold f_X11_readsSentence at h
  refine r_aload_n C dX11_readsSentence_0 rfl hl 0 rfl ?_
  refine r_getI C hM0 jc11 32 rfl dX11_readsSentence_1 lk_X11_255 lr_0.1 lr_0.2 rfl rfl (by decide) rfl ?_
  refine r_iconst C dX11_readsSentence_4 ?_
  refine r_icmp_eq C 13 (hM0.ok _ _) ⟨by decide, by decide⟩ dX11_readsSentence_5 (by decide) (fun cq => ?_) (fun cq => ?_)
  · replace h := ifp cq h
    have hL13 : ∀ n13 : Nat, ∀ (M : Mem), ∀ (H : Heap) (locs : List Loc) (ls : Array Slot), f_X11_readsSentence_L13 n13  M = some M' → HS E z LyR M sM H locs → lv_has ls 1 [(0, .ref (z + 0))] → W p l e ({ frames := 5, cells := 0, slots := 0, locals := 104 } : Room) sM m (([.ref (z + 0)] : List Value).toArray) below meth c H locs 0 0 (MQ below (va_Qv (fun (_ : Unit) => Mok LyR M') (fun _ t => va_P (eD E) vwCl (Wd (eC E) z LyR M') t.heap) (eA E)) (([.ref (z + 0)] : List Value).toArray) sM 0 0 (eA E)) (F0 m 13 ls []) := by
      intro n13
      induction n13 with
      | zero =>
        intro M H locs ls h hM hl
        exact absurd h (by simp [f_X11_readsSentence_L13])
      | succ n13 ih13 =>
        intro M H locs ls h hM hl
        rw [f_X11_readsSentence_L13] at h
        refine r_aload_n C dX11_readsSentence_13 rfl hl 0 rfl ?_
        replace h := bd_some h
        obtain ⟨r14, hf14, h⟩ := h
        refine r_callI (As := []) (rest := []) C hM (c_X11_isGood l E z hf14) jy_X11_isGood lk_X11_277 dX11_readsSentence_14 (recvW C hM jc11 lr_0.1 lr_0.2 rfl) rfl rfl hl.1 (Nat.le_of_ble_eq_true rfl) ⟨Nat.le_of_ble_eq_true rfl, Nat.le_of_ble_eq_true rfl⟩ ⟨rfl, rfl⟩ ⟨Nat.zero_le _, Nat.zero_le _⟩ (fun H locs hr14 hM1 => ?_)
        replace h := jn_some h
        obtain ⟨k35, hk35, h⟩ := h
        have hJ35 : ∀ (_ : Unit), ∀ (H : Heap) (locs : List Loc) (ls : Array Slot), k35 () = some M' → HS E z LyR M sM H locs → lv_has ls 1 [(0, .ref (z + 0))] → W p l e ({ frames := 5, cells := 0, slots := 0, locals := 104 } : Room) sM m (([.ref (z + 0)] : List Value).toArray) below meth c H locs 0 0 (MQ below (va_Qv (fun (_ : Unit) => Mok LyR M') (fun _ t => va_P (eD E) vwCl (Wd (eC E) z LyR M') t.heap) (eA E)) (([.ref (z + 0)] : List Value).toArray) sM 0 0 (eA E)) (F0 m 35 ls []) := by
          intro _ H locs ls h hMj35 hl
          subst hk35
          try dsimp only at h
          refine r_aload_n C dX11_readsSentence_35 rfl hl 0 rfl ?_
          refine r_bipush C dX11_readsSentence_36 rfl ?_
          replace h := bd_some h
          obtain ⟨r38, hf38, h⟩ := h
          refine r_callI (As := [.int (jI 46)]) (rest := []) C hMj35 (c_X11_isSign l E z ⟨by decide, by decide⟩ hf38) jy_X11_isSign lk_X11_292 dX11_readsSentence_38 (recvW C hMj35 jc11 lr_0.1 lr_0.2 rfl) rfl rfl hl.1 (Nat.le_of_ble_eq_true rfl) ⟨Nat.le_of_ble_eq_true rfl, Nat.le_of_ble_eq_true rfl⟩ ⟨rfl, rfl⟩ ⟨Nat.zero_le _, Nat.zero_le _⟩ (fun H locs hr38 hM2 => ?_)
          refine r_if_eq C 56 hr38 dX11_readsSentence_41 (by decide) (fun cq => ?_) (fun cq => ?_)
          · replace h := ifp cq h
            refine r_aload_n C dX11_readsSentence_56 rfl hl 0 rfl ?_
            refine r_bipush C dX11_readsSentence_57 rfl ?_
            replace h := bd_some h
            obtain ⟨M59, hf59, h⟩ := h
            refine r_callV (As := [.int (jI 46)]) (rest := []) C hM2 (c_X11_needsSign l E z ⟨by decide, by decide⟩ hf59) jy_X11_needsSign lk_X11_343 dX11_readsSentence_59 (recvW C hM2 jc11 lr_0.1 lr_0.2 rfl) rfl rfl hl.1 (Nat.le_of_ble_eq_true rfl) ⟨Nat.le_of_ble_eq_true rfl, Nat.le_of_ble_eq_true rfl⟩ ⟨rfl, rfl⟩ ⟨Nat.zero_le _, Nat.zero_le _⟩ (fun H locs hM3 => ?_)
            exact r_return C hM3 hr hlk h dX11_readsSentence_62
          · replace h := ifn cq h
            refine r_aload_n C dX11_readsSentence_44 rfl hl 0 rfl ?_
            refine r_getR C hM2 jc11 46 27 dX11_readsSentence_45 lk_X11_93 lr_0.1 lr_0.2 rfl rfl (by decide) rfl ?_
            refine r_aload_n C dX11_readsSentence_48 rfl hl 0 rfl ?_
            refine r_getI C hM2 jc11 48 rfl dX11_readsSentence_49 lk_X11_399 lr_0.1 lr_0.2 rfl rfl (by decide) rfl ?_
            refine r_iconst C dX11_readsSentence_52 ?_
            replace h := ck_some h
            obtain ⟨hc4, h⟩ := h
            refine r_isub C dX11_readsSentence_53 ?_
            refine r_iconst C dX11_readsSentence_54 ?_
            replace h := ck_some h
            obtain ⟨hc5, h⟩ := h
            refine r_iast C hM2 dX11_readsSentence_55 lr_27.1 lr_27.2 hc5 hc4 ⟨by decide, by decide⟩ (fun H locs hM6 => ?_)
            replace h := lt_some h
            obtain ⟨N7, eN7, h⟩ := h
            rw [← eN7] at hM6
            refine r_aload_n C dX11_readsSentence_56 rfl hl 0 rfl ?_
            refine r_bipush C dX11_readsSentence_57 rfl ?_
            replace h := bd_some h
            obtain ⟨M59, hf59, h⟩ := h
            refine r_callV (As := [.int (jI 46)]) (rest := []) C hM6 (c_X11_needsSign l E z ⟨by decide, by decide⟩ hf59) jy_X11_needsSign lk_X11_343 dX11_readsSentence_59 (recvW C hM6 jc11 lr_0.1 lr_0.2 rfl) rfl rfl hl.1 (Nat.le_of_ble_eq_true rfl) ⟨Nat.le_of_ble_eq_true rfl, Nat.le_of_ble_eq_true rfl⟩ ⟨rfl, rfl⟩ ⟨Nat.zero_le _, Nat.zero_le _⟩ (fun H locs hM8 => ?_)
            exact r_return C hM8 hr hlk h dX11_readsSentence_62
        refine r_if_eq C 35 hr14 dX11_readsSentence_17 (by decide) (fun cq => ?_) (fun cq => ?_)
        · replace h := ifp cq h
          exact hJ35 () _ _ _ h hM1 (lv_sub hl [0] rfl)
        · replace h := ifn cq h
          refine r_aload_n C dX11_readsSentence_20 rfl hl 0 rfl ?_
          refine r_getI C hM1 jc11 32 rfl dX11_readsSentence_21 lk_X11_255 lr_0.1 lr_0.2 rfl rfl (by decide) rfl ?_
          refine r_iconst C dX11_readsSentence_24 ?_
          refine r_icmp_ne C 35 (hM.ok _ _) ⟨by decide, by decide⟩ dX11_readsSentence_25 (by decide) (fun cq => ?_) (fun cq => ?_)
          · replace h := ifn cq h
            exact hJ35 () _ _ _ h hM1 (lv_sub hl [0] rfl)
          · replace h := ifp cq h
            refine r_aload_n C dX11_readsSentence_28 rfl hl 0 rfl ?_
            replace h := bd_some h
            obtain ⟨M29, hf29, h⟩ := h
            refine r_callV (As := []) (rest := []) C hM1 (c_X11_readsWord l E z hf29) jy_X11_readsWord lk_X11_405 dX11_readsSentence_29 (recvW C hM1 jc11 lr_0.1 lr_0.2 rfl) rfl rfl hl.1 (Nat.le_of_ble_eq_true rfl) ⟨Nat.le_of_ble_eq_true rfl, Nat.le_of_ble_eq_true rfl⟩ ⟨rfl, rfl⟩ ⟨Nat.zero_le _, Nat.zero_le _⟩ (fun H locs hM9 => ?_)
            refine r_goto C 13 dX11_readsSentence_32 (by decide) ?_
            exact ih13 _ _ _ _ h hM9 (lv_sub hl [0] rfl)
    exact hL13 jFuel _ _ _ _ h hM0 (lv_sub hl [0] rfl)
  · replace h := ifn cq h
    refine r_aload_n C dX11_readsSentence_8 rfl hl 0 rfl ?_
    refine r_iconst C dX11_readsSentence_9 ?_
    replace h := bd_some h
    obtain ⟨M10, hf10, h⟩ := h
    refine r_callV (As := [.int (jI 1)]) (rest := []) C hM0 (c_X11_fails l E z ⟨by decide, by decide⟩ hf10) jy_X11_fails lk_X11_295 dX11_readsSentence_10 (recvW C hM0 jc11 lr_0.1 lr_0.2 rfl) rfl rfl hl.1 (Nat.le_of_ble_eq_true rfl) ⟨Nat.le_of_ble_eq_true rfl, Nat.le_of_ble_eq_true rfl⟩ ⟨rfl, rfl⟩ ⟨Nat.zero_le _, Nat.zero_le _⟩ (fun H locs hM10 => ?_)
    have hL13 : ∀ n13 : Nat, ∀ (M : Mem), ∀ (H : Heap) (locs : List Loc) (ls : Array Slot), f_X11_readsSentence_L13 n13  M = some M' → HS E z LyR M sM H locs → lv_has ls 1 [(0, .ref (z + 0))] → W p l e ({ frames := 5, cells := 0, slots := 0, locals := 104 } : Room) sM m (([.ref (z + 0)] : List Value).toArray) below meth c H locs 0 0 (MQ below (va_Qv (fun (_ : Unit) => Mok LyR M') (fun _ t => va_P (eD E) vwCl (Wd (eC E) z LyR M') t.heap) (eA E)) (([.ref (z + 0)] : List Value).toArray) sM 0 0 (eA E)) (F0 m 13 ls []) := by
      intro n13
      induction n13 with
      | zero =>
        intro M H locs ls h hM hl
        exact absurd h (by simp [f_X11_readsSentence_L13])
      | succ n13 ih13 =>
        intro M H locs ls h hM hl
        rw [f_X11_readsSentence_L13] at h
        refine r_aload_n C dX11_readsSentence_13 rfl hl 0 rfl ?_
        replace h := bd_some h
        obtain ⟨r14, hf14, h⟩ := h
        refine r_callI (As := []) (rest := []) C hM (c_X11_isGood l E z hf14) jy_X11_isGood lk_X11_277 dX11_readsSentence_14 (recvW C hM jc11 lr_0.1 lr_0.2 rfl) rfl rfl hl.1 (Nat.le_of_ble_eq_true rfl) ⟨Nat.le_of_ble_eq_true rfl, Nat.le_of_ble_eq_true rfl⟩ ⟨rfl, rfl⟩ ⟨Nat.zero_le _, Nat.zero_le _⟩ (fun H locs hr14 hM11 => ?_)
        replace h := jn_some h
        obtain ⟨k35, hk35, h⟩ := h
        have hJ35 : ∀ (_ : Unit), ∀ (H : Heap) (locs : List Loc) (ls : Array Slot), k35 () = some M' → HS E z LyR M sM H locs → lv_has ls 1 [(0, .ref (z + 0))] → W p l e ({ frames := 5, cells := 0, slots := 0, locals := 104 } : Room) sM m (([.ref (z + 0)] : List Value).toArray) below meth c H locs 0 0 (MQ below (va_Qv (fun (_ : Unit) => Mok LyR M') (fun _ t => va_P (eD E) vwCl (Wd (eC E) z LyR M') t.heap) (eA E)) (([.ref (z + 0)] : List Value).toArray) sM 0 0 (eA E)) (F0 m 35 ls []) := by
          intro _ H locs ls h hMj35 hl
          subst hk35
          try dsimp only at h
          refine r_aload_n C dX11_readsSentence_35 rfl hl 0 rfl ?_
          refine r_bipush C dX11_readsSentence_36 rfl ?_
          replace h := bd_some h
          obtain ⟨r38, hf38, h⟩ := h
          refine r_callI (As := [.int (jI 46)]) (rest := []) C hMj35 (c_X11_isSign l E z ⟨by decide, by decide⟩ hf38) jy_X11_isSign lk_X11_292 dX11_readsSentence_38 (recvW C hMj35 jc11 lr_0.1 lr_0.2 rfl) rfl rfl hl.1 (Nat.le_of_ble_eq_true rfl) ⟨Nat.le_of_ble_eq_true rfl, Nat.le_of_ble_eq_true rfl⟩ ⟨rfl, rfl⟩ ⟨Nat.zero_le _, Nat.zero_le _⟩ (fun H locs hr38 hM12 => ?_)
          refine r_if_eq C 56 hr38 dX11_readsSentence_41 (by decide) (fun cq => ?_) (fun cq => ?_)
          · replace h := ifp cq h
            refine r_aload_n C dX11_readsSentence_56 rfl hl 0 rfl ?_
            refine r_bipush C dX11_readsSentence_57 rfl ?_
            replace h := bd_some h
            obtain ⟨M59, hf59, h⟩ := h
            refine r_callV (As := [.int (jI 46)]) (rest := []) C hM12 (c_X11_needsSign l E z ⟨by decide, by decide⟩ hf59) jy_X11_needsSign lk_X11_343 dX11_readsSentence_59 (recvW C hM12 jc11 lr_0.1 lr_0.2 rfl) rfl rfl hl.1 (Nat.le_of_ble_eq_true rfl) ⟨Nat.le_of_ble_eq_true rfl, Nat.le_of_ble_eq_true rfl⟩ ⟨rfl, rfl⟩ ⟨Nat.zero_le _, Nat.zero_le _⟩ (fun H locs hM13 => ?_)
            exact r_return C hM13 hr hlk h dX11_readsSentence_62
          · replace h := ifn cq h
            refine r_aload_n C dX11_readsSentence_44 rfl hl 0 rfl ?_
            refine r_getR C hM12 jc11 46 27 dX11_readsSentence_45 lk_X11_93 lr_0.1 lr_0.2 rfl rfl (by decide) rfl ?_
            refine r_aload_n C dX11_readsSentence_48 rfl hl 0 rfl ?_
            refine r_getI C hM12 jc11 48 rfl dX11_readsSentence_49 lk_X11_399 lr_0.1 lr_0.2 rfl rfl (by decide) rfl ?_
            refine r_iconst C dX11_readsSentence_52 ?_
            replace h := ck_some h
            obtain ⟨hc14, h⟩ := h
            refine r_isub C dX11_readsSentence_53 ?_
            refine r_iconst C dX11_readsSentence_54 ?_
            replace h := ck_some h
            obtain ⟨hc15, h⟩ := h
            refine r_iast C hM12 dX11_readsSentence_55 lr_27.1 lr_27.2 hc15 hc14 ⟨by decide, by decide⟩ (fun H locs hM16 => ?_)
            replace h := lt_some h
            obtain ⟨N17, eN17, h⟩ := h
            rw [← eN17] at hM16
            refine r_aload_n C dX11_readsSentence_56 rfl hl 0 rfl ?_
            refine r_bipush C dX11_readsSentence_57 rfl ?_
            replace h := bd_some h
            obtain ⟨M59, hf59, h⟩ := h
            refine r_callV (As := [.int (jI 46)]) (rest := []) C hM16 (c_X11_needsSign l E z ⟨by decide, by decide⟩ hf59) jy_X11_needsSign lk_X11_343 dX11_readsSentence_59 (recvW C hM16 jc11 lr_0.1 lr_0.2 rfl) rfl rfl hl.1 (Nat.le_of_ble_eq_true rfl) ⟨Nat.le_of_ble_eq_true rfl, Nat.le_of_ble_eq_true rfl⟩ ⟨rfl, rfl⟩ ⟨Nat.zero_le _, Nat.zero_le _⟩ (fun H locs hM18 => ?_)
            exact r_return C hM18 hr hlk h dX11_readsSentence_62
        refine r_if_eq C 35 hr14 dX11_readsSentence_17 (by decide) (fun cq => ?_) (fun cq => ?_)
        · replace h := ifp cq h
          exact hJ35 () _ _ _ h hM11 (lv_sub hl [0] rfl)
        · replace h := ifn cq h
          refine r_aload_n C dX11_readsSentence_20 rfl hl 0 rfl ?_
          refine r_getI C hM11 jc11 32 rfl dX11_readsSentence_21 lk_X11_255 lr_0.1 lr_0.2 rfl rfl (by decide) rfl ?_
          refine r_iconst C dX11_readsSentence_24 ?_
          refine r_icmp_ne C 35 (hM.ok _ _) ⟨by decide, by decide⟩ dX11_readsSentence_25 (by decide) (fun cq => ?_) (fun cq => ?_)
          · replace h := ifn cq h
            exact hJ35 () _ _ _ h hM11 (lv_sub hl [0] rfl)
          · replace h := ifp cq h
            refine r_aload_n C dX11_readsSentence_28 rfl hl 0 rfl ?_
            replace h := bd_some h
            obtain ⟨M29, hf29, h⟩ := h
            refine r_callV (As := []) (rest := []) C hM11 (c_X11_readsWord l E z hf29) jy_X11_readsWord lk_X11_405 dX11_readsSentence_29 (recvW C hM11 jc11 lr_0.1 lr_0.2 rfl) rfl rfl hl.1 (Nat.le_of_ble_eq_true rfl) ⟨Nat.le_of_ble_eq_true rfl, Nat.le_of_ble_eq_true rfl⟩ ⟨rfl, rfl⟩ ⟨Nat.zero_le _, Nat.zero_le _⟩ (fun H locs hM19 => ?_)
            refine r_goto C 13 dX11_readsSentence_32 (by decide) ?_
            exact ih13 _ _ _ _ h hM19 (lv_sub hl [0] rfl)
    exact hL13 jFuel _ _ _ _ h hM10 (lv_sub hl [0] rfl)
set_option maxRecDepth 100000 in
set_option maxHeartbeats 4000000 in
theorem c_X11_readsVoice (l : Launch) (E : jE) (z : Nat) {M M' : Mem} (h : f_X11_readsVoice M = some M') : CtV l yX11_readsVoice cX11_readsVoice 1 none { frames := 6, cells := 0, slots := 0, locals := 124 } E z LyR [.ref (z + 0)] M M' := by
  refine jm (by decide +kernel) (Nat.le_of_ble_eq_true rfl) ?_
  intro p e sM m below meth c C hM0 hr hlk ls hl
  replace hl : lv_has ls 1 [(0, .ref (z + 0))] := hl
  unfold f_X11_readsVoice at h
  refine r_aload_n C dX11_readsVoice_0 rfl hl 0 rfl ?_
  refine r_iconst C dX11_readsVoice_1 ?_
  refine r_putI C hM0 jc11 47 ⟨by decide, by decide⟩ dX11_readsVoice_2 lk_X11_402 lr_0.1 lr_0.2 rfl rfl (by decide) rfl rfl rfl (Nat.le_of_ble_eq_true rfl) (by decide) (fun H locs hM1 => ?_)
  replace h := lt_some h
  obtain ⟨N2, eN2, h⟩ := h
  rw [← eN2] at hM1
  refine r_aload_n C dX11_readsVoice_5 rfl hl 0 rfl ?_
  refine r_iconst C dX11_readsVoice_6 ?_
  refine r_putI C hM1 jc11 48 ⟨by decide, by decide⟩ dX11_readsVoice_7 lk_X11_399 lr_0.1 lr_0.2 rfl rfl (by decide) rfl rfl rfl (Nat.le_of_ble_eq_true rfl) (by decide) (fun H locs hM3 => ?_)
  replace h := lt_some h
  obtain ⟨N4, eN4, h⟩ := h
  rw [← eN4] at hM3
  refine r_aload_n C dX11_readsVoice_10 rfl hl 0 rfl ?_
  replace h := bd_some h
  obtain ⟨M11, hf11, h⟩ := h
  refine r_callV (As := []) (rest := []) C hM3 (c_X11_beginsText l E z hf11) jy_X11_beginsText lk_X11_350 dX11_readsVoice_11 (recvW C hM3 jc11 lr_0.1 lr_0.2 rfl) rfl rfl hl.1 (Nat.le_of_ble_eq_true rfl) ⟨Nat.le_of_ble_eq_true rfl, Nat.le_of_ble_eq_true rfl⟩ ⟨rfl, rfl⟩ ⟨Nat.zero_le _, Nat.zero_le _⟩ (fun H locs hM5 => ?_)
  have hL14 : ∀ n14 : Nat, ∀ (M : Mem), ∀ (H : Heap) (locs : List Loc) (ls : Array Slot), f_X11_readsVoice_L14 n14  M = some M' → HS E z LyR M sM H locs → lv_has ls 1 [(0, .ref (z + 0))] → W p l e ({ frames := 6, cells := 0, slots := 0, locals := 124 } : Room) sM m (([.ref (z + 0)] : List Value).toArray) below meth c H locs 0 0 (MQ below (va_Qv (fun (_ : Unit) => Mok LyR M') (fun _ t => va_P (eD E) vwCl (Wd (eC E) z LyR M') t.heap) (eA E)) (([.ref (z + 0)] : List Value).toArray) sM 0 0 (eA E)) (F0 m 14 ls []) := by
    intro n14
    induction n14 with
    | zero =>
      intro M H locs ls h hM hl
      exact absurd h (by simp [f_X11_readsVoice_L14])
    | succ n14 ih14 =>
      intro M H locs ls h hM hl
      rw [f_X11_readsVoice_L14] at h
      refine r_aload_n C dX11_readsVoice_14 rfl hl 0 rfl ?_
      replace h := bd_some h
      obtain ⟨r15, hf15, h⟩ := h
      refine r_callI (As := []) (rest := []) C hM (c_X11_isGood l E z hf15) jy_X11_isGood lk_X11_277 dX11_readsVoice_15 (recvW C hM jc11 lr_0.1 lr_0.2 rfl) rfl rfl hl.1 (Nat.le_of_ble_eq_true rfl) ⟨Nat.le_of_ble_eq_true rfl, Nat.le_of_ble_eq_true rfl⟩ ⟨rfl, rfl⟩ ⟨Nat.zero_le _, Nat.zero_le _⟩ (fun H locs hr15 hM6 => ?_)
      refine r_if_eq C 35 hr15 dX11_readsVoice_18 (by decide) (fun cq => ?_) (fun cq => ?_)
      · replace h := ifp cq h
        refine r_aload_n C dX11_readsVoice_35 rfl hl 0 rfl ?_
        replace h := bd_some h
        obtain ⟨M36, hf36, h⟩ := h
        refine r_callV (As := []) (rest := []) C hM6 (c_X11_endsText l E z hf36) jy_X11_endsText lk_X11_356 dX11_readsVoice_36 (recvW C hM6 jc11 lr_0.1 lr_0.2 rfl) rfl rfl hl.1 (Nat.le_of_ble_eq_true rfl) ⟨Nat.le_of_ble_eq_true rfl, Nat.le_of_ble_eq_true rfl⟩ ⟨rfl, rfl⟩ ⟨Nat.zero_le _, Nat.zero_le _⟩ (fun H locs hM7 => ?_)
        exact r_return C hM7 hr hlk h dX11_readsVoice_39
      · replace h := ifn cq h
        refine r_aload_n C dX11_readsVoice_21 rfl hl 0 rfl ?_
        refine r_getI C hM6 jc11 32 rfl dX11_readsVoice_22 lk_X11_255 lr_0.1 lr_0.2 rfl rfl (by decide) rfl ?_
        refine r_if_eq C 35 (hM.ok _ _) dX11_readsVoice_25 (by decide) (fun cq => ?_) (fun cq => ?_)
        · replace h := ifp cq h
          refine r_aload_n C dX11_readsVoice_35 rfl hl 0 rfl ?_
          replace h := bd_some h
          obtain ⟨M36, hf36, h⟩ := h
          refine r_callV (As := []) (rest := []) C hM6 (c_X11_endsText l E z hf36) jy_X11_endsText lk_X11_356 dX11_readsVoice_36 (recvW C hM6 jc11 lr_0.1 lr_0.2 rfl) rfl rfl hl.1 (Nat.le_of_ble_eq_true rfl) ⟨Nat.le_of_ble_eq_true rfl, Nat.le_of_ble_eq_true rfl⟩ ⟨rfl, rfl⟩ ⟨Nat.zero_le _, Nat.zero_le _⟩ (fun H locs hM8 => ?_)
          exact r_return C hM8 hr hlk h dX11_readsVoice_39
        · replace h := ifn cq h
          refine r_aload_n C dX11_readsVoice_28 rfl hl 0 rfl ?_
          replace h := bd_some h
          obtain ⟨M29, hf29, h⟩ := h
          refine r_callV (As := []) (rest := []) C hM6 (c_X11_readsSentence l E z hf29) jy_X11_readsSentence lk_X11_408 dX11_readsVoice_29 (recvW C hM6 jc11 lr_0.1 lr_0.2 rfl) rfl rfl hl.1 (Nat.le_of_ble_eq_true rfl) ⟨Nat.le_of_ble_eq_true rfl, Nat.le_of_ble_eq_true rfl⟩ ⟨rfl, rfl⟩ ⟨Nat.zero_le _, Nat.zero_le _⟩ (fun H locs hM9 => ?_)
          refine r_goto C 14 dX11_readsVoice_32 (by decide) ?_
          exact ih14 _ _ _ _ h hM9 (lv_sub hl [0] rfl)
  exact hL14 jFuel _ _ _ _ h hM5 (lv_sub hl [0] rfl)
set_option maxRecDepth 100000 in
set_option maxHeartbeats 4000000 in
theorem c_X11_takesVoice (l : Launch) (E : jE) (z : Nat) {M M' : Mem} (h : f_X11_takesVoice M = some M') : CtV l yX11_takesVoice cX11_takesVoice 3 none { frames := 0, cells := 0, slots := 0, locals := 0 } E z LyR [.ref (z + 0)] M M' := by
  refine jm (by decide +kernel) (Nat.le_of_ble_eq_true rfl) ?_
  intro p e sM m below meth c C hM0 hr hlk ls hl
  replace hl : lv_has ls 3 [(0, .ref (z + 0))] := hl
  unfold f_X11_takesVoice at h
  refine r_aload_n C dX11_takesVoice_0 rfl hl 0 rfl ?_
  refine r_getR C hM0 jc11 0 1 dX11_takesVoice_1 lk_X11_7 lr_0.1 lr_0.2 rfl rfl (by decide) rfl ?_
  refine r_bipush C dX11_takesVoice_4 rfl ?_
  refine r_aload_n C dX11_takesVoice_6 rfl hl 0 rfl ?_
  refine r_getI C hM0 jc11 48 rfl dX11_takesVoice_7 lk_X11_399 lr_0.1 lr_0.2 rfl rfl (by decide) rfl ?_
  refine r_iast C hM0 dX11_takesVoice_10 lr_1.1 lr_1.2 (show (0 : Int) ≤ 9 ∧ (9 : Int) < 1062 by decide) ⟨by decide, by decide⟩ (hM0.ok _ _) (fun H locs hM1 => ?_)
  replace h := lt_some h
  obtain ⟨N2, eN2, h⟩ := h
  rw [← eN2] at hM1
  refine r_aload_n C dX11_takesVoice_11 rfl hl 0 rfl ?_
  refine r_getR C hM1 jc11 0 1 dX11_takesVoice_12 lk_X11_7 lr_0.1 lr_0.2 rfl rfl (by decide) rfl ?_
  refine r_bipush C dX11_takesVoice_15 rfl ?_
  refine r_aload_n C dX11_takesVoice_17 rfl hl 0 rfl ?_
  refine r_getI C hM1 jc11 47 (rd_skip eN2 (by decide) rfl) dX11_takesVoice_18 lk_X11_402 lr_0.1 lr_0.2 rfl rfl (by decide) rfl ?_
  refine r_iast C hM1 dX11_takesVoice_21 lr_1.1 lr_1.2 (show (0 : Int) ≤ 10 ∧ (10 : Int) < 1062 by decide) ⟨by decide, by decide⟩ (hM0.ok _ _) (fun H locs hM3 => ?_)
  replace h := lt_some h
  obtain ⟨N4, eN4, h⟩ := h
  rw [← eN4] at hM3
  refine r_iconst C dX11_takesVoice_22 ?_
  refine r_istore_n C [(1, .int (jI 0)), (0, .ref (z + 0))] dX11_takesVoice_23 rfl hl (by decide) rfl (fun ls hl => ?_)
  have hL24 : ∀ n24 : Nat, ∀ (x1 : Int) (M : Mem), inR x1 → ∀ (H : Heap) (locs : List Loc) (ls : Array Slot), f_X11_takesVoice_L24 n24  x1 M = some M' → HS E z LyR M sM H locs → lv_has ls 3 [(0, .ref (z + 0)), (1, .int (jI x1))] → W p l e ({ frames := 0, cells := 0, slots := 0, locals := 0 } : Room) sM m (([.ref (z + 0)] : List Value).toArray) below meth c H locs 0 0 (MQ below (va_Qv (fun (_ : Unit) => Mok LyR M') (fun _ t => va_P (eD E) vwCl (Wd (eC E) z LyR M') t.heap) (eA E)) (([.ref (z + 0)] : List Value).toArray) sM 0 0 (eA E)) (F0 m 24 ls []) := by
    intro n24
    induction n24 with
    | zero =>
      intro x1 M hx1 H locs ls h hM hl
      exact absurd h (by simp [f_X11_takesVoice_L24])
    | succ n24 ih24 =>
      intro x1 M hx1 H locs ls h hM hl
      rw [f_X11_takesVoice_L24] at h
      refine r_iload_n C dX11_takesVoice_24 rfl hl 1 rfl ?_
      refine r_bipush C dX11_takesVoice_25 rfl ?_
      refine r_icmp_ge C 132 hx1 ⟨by decide, by decide⟩ dX11_takesVoice_27 (by decide) (fun cq => ?_) (fun cq => ?_)
      · replace h := ifp cq h
        refine r_iconst C dX11_takesVoice_132 ?_
        refine r_istore_n C [(1, .int (jI 0)), (0, .ref (z + 0))] dX11_takesVoice_133 rfl hl (by decide) rfl (fun ls hl => ?_)
        have hL134 : ∀ n134 : Nat, ∀ (x1 : Int) (M : Mem), inR x1 → ∀ (H : Heap) (locs : List Loc) (ls : Array Slot), f_X11_takesVoice_L134 n134  x1 M = some M' → HS E z LyR M sM H locs → lv_has ls 3 [(0, .ref (z + 0)), (1, .int (jI x1))] → W p l e ({ frames := 0, cells := 0, slots := 0, locals := 0 } : Room) sM m (([.ref (z + 0)] : List Value).toArray) below meth c H locs 0 0 (MQ below (va_Qv (fun (_ : Unit) => Mok LyR M') (fun _ t => va_P (eD E) vwCl (Wd (eC E) z LyR M') t.heap) (eA E)) (([.ref (z + 0)] : List Value).toArray) sM 0 0 (eA E)) (F0 m 134 ls []) := by
          intro n134
          induction n134 with
          | zero =>
            intro x1 M hx1 H locs ls h hM hl
            exact absurd h (by simp [f_X11_takesVoice_L134])
          | succ n134 ih134 =>
            intro x1 M hx1 H locs ls h hM hl
            rw [f_X11_takesVoice_L134] at h
            refine r_iload_n C dX11_takesVoice_134 rfl hl 1 rfl ?_
            refine r_sipush C dX11_takesVoice_135 rfl ?_
            refine r_icmp_ge C 175 hx1 ⟨by decide, by decide⟩ dX11_takesVoice_138 (by decide) (fun cq => ?_) (fun cq => ?_)
            · replace h := ifp cq h
              exact r_return C hM hr hlk h dX11_takesVoice_175
            · replace h := ifn cq h
              refine r_aload_n C dX11_takesVoice_141 rfl hl 0 rfl ?_
              refine r_getR C hM jc11 0 1 dX11_takesVoice_142 lk_X11_7 lr_0.1 lr_0.2 rfl rfl (by decide) rfl ?_
              refine r_sipush C dX11_takesVoice_145 rfl ?_
              refine r_iload_n C dX11_takesVoice_148 rfl hl 1 rfl ?_
              replace h := ck_some h
              obtain ⟨hc5, h⟩ := h
              refine r_iadd C dX11_takesVoice_149 ?_
              refine r_iload_n C dX11_takesVoice_150 rfl hl 1 rfl ?_
              refine r_aload_n C dX11_takesVoice_151 rfl hl 0 rfl ?_
              refine r_getI C hM jc11 47 rfl dX11_takesVoice_152 lk_X11_402 lr_0.1 lr_0.2 rfl rfl (by decide) rfl ?_
              refine r_icmp_ge C 167 hx1 (hM.ok _ _) dX11_takesVoice_155 (by decide) (fun cq => ?_) (fun cq => ?_)
              · replace h := ifp cq h
                refine r_iconst C dX11_takesVoice_167 ?_
                replace h := ck_some h
                obtain ⟨hc6, h⟩ := h
                refine r_iast C hM dX11_takesVoice_168 lr_1.1 lr_1.2 hc6 hc5 ⟨by decide, by decide⟩ (fun H locs hM7 => ?_)
                replace h := lt_some h
                obtain ⟨N8, eN8, h⟩ := h
                rw [← eN8] at hM7
                replace h := ck_some h
                obtain ⟨hc9, h⟩ := h
                refine r_iinc (j := 1) (x := x1) C [(1, .int (jI (x1 + 1))), (0, .ref (z + 0))] dX11_takesVoice_169 hl rfl (by decide) rfl (fun ls hl => ?_)
                refine r_goto C 134 dX11_takesVoice_172 (by decide) ?_
                exact ih134 _ _ hc9 _ _ _ h hM7 (lv_sub hl [1, 0] rfl)
              · replace h := ifn cq h
                refine r_aload_n C dX11_takesVoice_158 rfl hl 0 rfl ?_
                refine r_getR C hM jc11 43 24 dX11_takesVoice_159 lk_X11_84 lr_0.1 lr_0.2 rfl rfl (by decide) rfl ?_
                refine r_iload_n C dX11_takesVoice_162 rfl hl 1 rfl ?_
                replace h := ck_some h
                obtain ⟨hc10, h⟩ := h
                refine r_iald C hM rfl dX11_takesVoice_163 lr_24.1 lr_24.2 hc10 hx1 ?_
                refine r_goto C 168 dX11_takesVoice_164 (by decide) ?_
                replace h := ck_some h
                obtain ⟨hc11, h⟩ := h
                refine r_iast C hM dX11_takesVoice_168 lr_1.1 lr_1.2 hc11 hc5 (hM.ok _ _) (fun H locs hM12 => ?_)
                replace h := lt_some h
                obtain ⟨N13, eN13, h⟩ := h
                rw [← eN13] at hM12
                replace h := ck_some h
                obtain ⟨hc14, h⟩ := h
                refine r_iinc (j := 1) (x := x1) C [(1, .int (jI (x1 + 1))), (0, .ref (z + 0))] dX11_takesVoice_169 hl rfl (by decide) rfl (fun ls hl => ?_)
                refine r_goto C 134 dX11_takesVoice_172 (by decide) ?_
                exact ih134 _ _ hc14 _ _ _ h hM12 (lv_sub hl [1, 0] rfl)
        exact hL134 jFuel _ _ ⟨by decide, by decide⟩ _ _ _ h hM (lv_sub hl [1, 0] rfl)
      · replace h := ifn cq h
        refine r_iload_n C dX11_takesVoice_30 rfl hl 1 rfl ?_
        refine r_aload_n C dX11_takesVoice_31 rfl hl 0 rfl ?_
        refine r_getI C hM jc11 48 rfl dX11_takesVoice_32 lk_X11_399 lr_0.1 lr_0.2 rfl rfl (by decide) rfl ?_
        replace h := jn_some h
        obtain ⟨k43, hk43, h⟩ := h
        have hJ43 : ∀ (v43 : Int), inR v43 → ∀ (H : Heap) (locs : List Loc) (ls : Array Slot), k43 v43 = some M' → HS E z LyR M sM H locs → lv_has ls 3 [(0, .ref (z + 0)), (1, .int (jI x1))] → W p l e ({ frames := 0, cells := 0, slots := 0, locals := 0 } : Room) sM m (([.ref (z + 0)] : List Value).toArray) below meth c H locs 0 0 (MQ below (va_Qv (fun (_ : Unit) => Mok LyR M') (fun _ t => va_P (eD E) vwCl (Wd (eC E) z LyR M') t.heap) (eA E)) (([.ref (z + 0)] : List Value).toArray) sM 0 0 (eA E)) (F0 m 43 ls [.int (jI v43)]) := by
          intro v43 hv43 H locs ls h hMj43 hl
          subst hk43
          try dsimp only at h
          refine r_istore_n C [(2, .int (jI v43)), (0, .ref (z + 0)), (1, .int (jI x1))] dX11_takesVoice_43 rfl hl (by decide) rfl (fun ls hl => ?_)
          refine r_aload_n C dX11_takesVoice_44 rfl hl 1 rfl ?_
          refine r_getR C hMj43 jc11 0 1 dX11_takesVoice_45 lk_X11_7 lr_0.1 lr_0.2 rfl rfl (by decide) rfl ?_
          refine r_sipush C dX11_takesVoice_48 rfl ?_
          refine r_iconst C dX11_takesVoice_51 ?_
          refine r_iload_n C dX11_takesVoice_52 rfl hl 2 rfl ?_
          replace h := ck_some h
          obtain ⟨hc15, h⟩ := h
          refine r_imul C dX11_takesVoice_53 ?_
          replace h := ck_some h
          obtain ⟨hc16, h⟩ := h
          refine r_iadd C dX11_takesVoice_54 ?_
          refine r_iload_n C dX11_takesVoice_55 rfl hl 0 rfl ?_
          replace h := jn_some h
          obtain ⟨k69, hk69, h⟩ := h
          have hJ69 : ∀ (v69 : Int), inR v69 → ∀ (H : Heap) (locs : List Loc) (ls : Array Slot), k69 v69 = some M' → HS E z LyR M sM H locs → lv_has ls 3 [(0, .ref (z + 0)), (1, .int (jI x1)), (2, .int (jI v43))] → W p l e ({ frames := 0, cells := 0, slots := 0, locals := 0 } : Room) sM m (([.ref (z + 0)] : List Value).toArray) below meth c H locs 0 0 (MQ below (va_Qv (fun (_ : Unit) => Mok LyR M') (fun _ t => va_P (eD E) vwCl (Wd (eC E) z LyR M') t.heap) (eA E)) (([.ref (z + 0)] : List Value).toArray) sM 0 0 (eA E)) (F0 m 69 ls [.int (jI v69), .int (jI (382 + (3 * x1))), .ref (z + 1)]) := by
            intro v69 hv69 H locs ls h hMj69 hl
            subst hk69
            try dsimp only at h
            replace h := ck_some h
            obtain ⟨hc17, h⟩ := h
            refine r_iast C hMj69 dX11_takesVoice_69 lr_1.1 lr_1.2 hc17 hc16 hv69 (fun H locs hM18 => ?_)
            replace h := lt_some h
            obtain ⟨N19, eN19, h⟩ := h
            rw [← eN19] at hM18
            refine r_aload_n C dX11_takesVoice_70 rfl hl 0 rfl ?_
            refine r_getR C hM18 jc11 0 1 dX11_takesVoice_71 lk_X11_7 lr_0.1 lr_0.2 rfl rfl (by decide) rfl ?_
            refine r_sipush C dX11_takesVoice_74 rfl ?_
            refine r_iconst C dX11_takesVoice_77 ?_
            refine r_iload_n C dX11_takesVoice_78 rfl hl 1 rfl ?_
            refine r_imul C dX11_takesVoice_79 ?_
            refine r_iadd C dX11_takesVoice_80 ?_
            refine r_iconst C dX11_takesVoice_81 ?_
            replace h := ck_some h
            obtain ⟨hc20, h⟩ := h
            refine r_iadd C dX11_takesVoice_82 ?_
            refine r_iload_n C dX11_takesVoice_83 rfl hl 2 rfl ?_
            replace h := jn_some h
            obtain ⟨k97, hk97, h⟩ := h
            have hJ97 : ∀ (v97 : Int), inR v97 → ∀ (H : Heap) (locs : List Loc) (ls : Array Slot), k97 v97 = some M' → HS E z LyR N19 sM H locs → lv_has ls 3 [(0, .ref (z + 0)), (1, .int (jI x1)), (2, .int (jI v43))] → W p l e ({ frames := 0, cells := 0, slots := 0, locals := 0 } : Room) sM m (([.ref (z + 0)] : List Value).toArray) below meth c H locs 0 0 (MQ below (va_Qv (fun (_ : Unit) => Mok LyR M') (fun _ t => va_P (eD E) vwCl (Wd (eC E) z LyR M') t.heap) (eA E)) (([.ref (z + 0)] : List Value).toArray) sM 0 0 (eA E)) (F0 m 97 ls [.int (jI v97), .int (jI ((382 + (3 * x1)) + 1)), .ref (z + 1)]) := by
              intro v97 hv97 H locs ls h hMj97 hl
              subst hk97
              try dsimp only at h
              replace h := ck_some h
              obtain ⟨hc21, h⟩ := h
              refine r_iast C hMj97 dX11_takesVoice_97 lr_1.1 lr_1.2 hc21 hc20 hv97 (fun H locs hM22 => ?_)
              replace h := lt_some h
              obtain ⟨N23, eN23, h⟩ := h
              rw [← eN23] at hM22
              refine r_aload_n C dX11_takesVoice_98 rfl hl 0 rfl ?_
              refine r_getR C hM22 jc11 0 1 dX11_takesVoice_99 lk_X11_7 lr_0.1 lr_0.2 rfl rfl (by decide) rfl ?_
              refine r_sipush C dX11_takesVoice_102 rfl ?_
              refine r_iconst C dX11_takesVoice_105 ?_
              refine r_iload_n C dX11_takesVoice_106 rfl hl 1 rfl ?_
              refine r_imul C dX11_takesVoice_107 ?_
              refine r_iadd C dX11_takesVoice_108 ?_
              refine r_iconst C dX11_takesVoice_109 ?_
              replace h := ck_some h
              obtain ⟨hc24, h⟩ := h
              refine r_iadd C dX11_takesVoice_110 ?_
              refine r_iload_n C dX11_takesVoice_111 rfl hl 2 rfl ?_
              refine r_if_eq C 124 hv43 dX11_takesVoice_112 (by decide) (fun cq => ?_) (fun cq => ?_)
              · replace h := ifp cq h
                refine r_iconst C dX11_takesVoice_124 ?_
                replace h := ck_some h
                obtain ⟨hc25, h⟩ := h
                refine r_iast C hM22 dX11_takesVoice_125 lr_1.1 lr_1.2 hc25 hc24 ⟨by decide, by decide⟩ (fun H locs hM26 => ?_)
                replace h := lt_some h
                obtain ⟨N27, eN27, h⟩ := h
                rw [← eN27] at hM26
                replace h := ck_some h
                obtain ⟨hc28, h⟩ := h
                refine r_iinc (j := 1) (x := x1) C [(1, .int (jI (x1 + 1))), (0, .ref (z + 0)), (2, .int (jI v43))] dX11_takesVoice_126 hl rfl (by decide) rfl (fun ls hl => ?_)
                refine r_goto C 24 dX11_takesVoice_129 (by decide) ?_
                exact ih24 _ _ hc28 _ _ _ h hM26 (lv_sub hl [1, 0] rfl)
              · replace h := ifn cq h
                refine r_aload_n C dX11_takesVoice_115 rfl hl 0 rfl ?_
                refine r_getR C hM22 jc11 46 27 dX11_takesVoice_116 lk_X11_93 lr_0.1 lr_0.2 rfl rfl (by decide) rfl ?_
                refine r_iload_n C dX11_takesVoice_119 rfl hl 1 rfl ?_
                replace h := ck_some h
                obtain ⟨hc29, h⟩ := h
                refine r_iald C hM22 (rd_skip eN23 (by decide) (rd_skip eN19 (by decide) rfl)) dX11_takesVoice_120 lr_27.1 lr_27.2 hc29 hx1 ?_
                refine r_goto C 125 dX11_takesVoice_121 (by decide) ?_
                replace h := ck_some h
                obtain ⟨hc30, h⟩ := h
                refine r_iast C hM22 dX11_takesVoice_125 lr_1.1 lr_1.2 hc30 hc24 (hM.ok _ _) (fun H locs hM31 => ?_)
                replace h := lt_some h
                obtain ⟨N32, eN32, h⟩ := h
                rw [← eN32] at hM31
                replace h := ck_some h
                obtain ⟨hc33, h⟩ := h
                refine r_iinc (j := 1) (x := x1) C [(1, .int (jI (x1 + 1))), (0, .ref (z + 0)), (2, .int (jI v43))] dX11_takesVoice_126 hl rfl (by decide) rfl (fun ls hl => ?_)
                refine r_goto C 24 dX11_takesVoice_129 (by decide) ?_
                exact ih24 _ _ hc33 _ _ _ h hM31 (lv_sub hl [1, 0] rfl)
            refine r_if_eq C 96 hv43 dX11_takesVoice_84 (by decide) (fun cq => ?_) (fun cq => ?_)
            · replace h := ifp cq h
              refine r_iconst C dX11_takesVoice_96 ?_
              exact hJ97 _ ⟨by decide, by decide⟩ _ _ _ h hM18 (lv_sub hl [0, 1, 2] rfl)
            · replace h := ifn cq h
              refine r_aload_n C dX11_takesVoice_87 rfl hl 0 rfl ?_
              refine r_getR C hM18 jc11 45 26 dX11_takesVoice_88 lk_X11_90 lr_0.1 lr_0.2 rfl rfl (by decide) rfl ?_
              refine r_iload_n C dX11_takesVoice_91 rfl hl 1 rfl ?_
              replace h := ck_some h
              obtain ⟨hc34, h⟩ := h
              refine r_iald C hM18 (rd_skip eN19 (by decide) rfl) dX11_takesVoice_92 lr_26.1 lr_26.2 hc34 hx1 ?_
              refine r_goto C 97 dX11_takesVoice_93 (by decide) ?_
              exact hJ97 _ (hM.ok _ _) _ _ _ h hM18 (lv_sub hl [0, 1, 2] rfl)
          refine r_if_eq C 68 hv43 dX11_takesVoice_56 (by decide) (fun cq => ?_) (fun cq => ?_)
          · replace h := ifp cq h
            refine r_iconst C dX11_takesVoice_68 ?_
            exact hJ69 _ ⟨by decide, by decide⟩ _ _ _ h hMj43 (lv_sub hl [1, 2, 0] rfl)
          · replace h := ifn cq h
            refine r_aload_n C dX11_takesVoice_59 rfl hl 1 rfl ?_
            refine r_getR C hMj43 jc11 44 25 dX11_takesVoice_60 lk_X11_87 lr_0.1 lr_0.2 rfl rfl (by decide) rfl ?_
            refine r_iload_n C dX11_takesVoice_63 rfl hl 2 rfl ?_
            replace h := ck_some h
            obtain ⟨hc35, h⟩ := h
            refine r_iald C hMj43 rfl dX11_takesVoice_64 lr_25.1 lr_25.2 hc35 hx1 ?_
            refine r_goto C 69 dX11_takesVoice_65 (by decide) ?_
            exact hJ69 _ (hM.ok _ _) _ _ _ h hMj43 (lv_sub hl [1, 2, 0] rfl)
        refine r_icmp_ge C 42 hx1 (hM.ok _ _) dX11_takesVoice_35 (by decide) (fun cq => ?_) (fun cq => ?_)
        · replace h := ifp cq h
          refine r_iconst C dX11_takesVoice_42 ?_
          exact hJ43 _ ⟨by decide, by decide⟩ _ _ _ h hM (lv_sub hl [0, 1] rfl)
        · replace h := ifn cq h
          refine r_iconst C dX11_takesVoice_38 ?_
          refine r_goto C 43 dX11_takesVoice_39 (by decide) ?_
          exact hJ43 _ ⟨by decide, by decide⟩ _ _ _ h hM (lv_sub hl [0, 1] rfl)
  exact hL24 jFuel _ _ ⟨by decide, by decide⟩ _ _ _ h hM3 (lv_sub hl [1, 0] rfl)
set_option maxRecDepth 100000 in
set_option maxHeartbeats 4000000 in
theorem c_X11_behind (l : Launch) (E : jE) (z : Nat) {x1 : Int} {M : Mem} {r : Int} (hx1 : inR x1) (h : f_X11_behind x1 M = some r) : CtI l yX11_behind cX11_behind 5 (some .int) { frames := 1, cells := 0, slots := 0, locals := 22 } E z LyR [.ref (z + 0), .int (jI x1)] M r M := by
  refine jm (by decide +kernel) (Nat.le_of_ble_eq_true rfl) ?_
  intro p e sM m below meth c C hM0 hr hlk ls hl
  replace hl : lv_has ls 5 [(0, .ref (z + 0)), (1, .int (jI x1))] := hl
  unfold f_X11_behind at h
  refine r_iconst C dX11_behind_0 ?_
  refine r_istore_n C [(2, .int (jI 0)), (0, .ref (z + 0)), (1, .int (jI x1))] dX11_behind_1 rfl hl (by decide) rfl (fun ls hl => ?_)
  refine r_iload_n C dX11_behind_2 rfl hl 2 rfl ?_
  refine r_istore_n C [(3, .int (jI x1)), (2, .int (jI 0)), (0, .ref (z + 0)), (1, .int (jI x1))] dX11_behind_3 rfl hl (by decide) rfl (fun ls hl => ?_)
  have hL4 : ∀ n4 : Nat, ∀ (x2 : Int) (x3 : Int), inR x2 → inR x3 → ∀ (H : Heap) (locs : List Loc) (ls : Array Slot), f_X11_behind_L4 M n4  x2 x3 = some r → HS E z LyR M sM H locs → lv_has ls 5 [(0, .ref (z + 0)), (2, .int (jI x2)), (3, .int (jI x3))] → W p l e ({ frames := 1, cells := 0, slots := 0, locals := 22 } : Room) sM m (([.ref (z + 0), .int (jI x1)] : List Value).toArray) below meth c H locs 0 0 (MQ below (va_Qi (fun (w : Int32) (_ : Unit) => w = jI r ∧ inR r ∧ Mok LyR M) (fun _ t => va_P (eD E) vwCl (Wd (eC E) z LyR M) t.heap) (eA E)) (([.ref (z + 0), .int (jI x1)] : List Value).toArray) sM 0 0 (eA E)) (F0 m 4 ls []) := by
    intro n4
    induction n4 with
    | zero =>
      intro x2 x3 hx2 hx3 H locs ls h hM hl
      exact absurd h (by simp [f_X11_behind_L4])
    | succ n4 ih4 =>
      intro x2 x3 hx2 hx3 H locs ls h hM hl
      rw [f_X11_behind_L4] at h
      refine r_aload_n C dX11_behind_4 rfl hl 0 rfl ?_
      refine r_iload_n C dX11_behind_5 rfl hl 2 rfl ?_
      refine r_iconst C dX11_behind_6 ?_
      replace h := bd_some h
      obtain ⟨r7, hf7, h⟩ := h
      refine r_callI (As := [.int (jI x3), .int (jI 0)]) (rest := []) C hM (c_X11_r l E z hx3 ⟨by decide, by decide⟩ hf7) jy_X11_r lk_X11_129 dX11_behind_7 (recvW C hM jc11 lr_0.1 lr_0.2 rfl) rfl rfl hl.1 (Nat.le_of_ble_eq_true rfl) ⟨Nat.le_of_ble_eq_true rfl, Nat.le_of_ble_eq_true rfl⟩ ⟨rfl, rfl⟩ ⟨Nat.zero_le _, Nat.zero_le _⟩ (fun H locs hr7 hM1 => ?_)
      refine r_istore C [(4, .int (jI r7)), (0, .ref (z + 0)), (2, .int (jI x2)), (3, .int (jI x3))] dX11_behind_10 hl (by decide) rfl (fun ls hl => ?_)
      refine r_iload_n C dX11_behind_12 rfl hl 2 rfl ?_
      refine r_iload C dX11_behind_13 hl 0 rfl ?_
      refine r_iconst C dX11_behind_15 ?_
      replace h := jn_some h
      obtain ⟨k30, hk30, h⟩ := h
      have hJ30 : ∀ (v30 : Int), inR v30 → ∀ (H : Heap) (locs : List Loc) (ls : Array Slot), k30 v30 = some r → HS E z LyR M sM H locs → lv_has ls 5 [(0, .ref (z + 0)), (3, .int (jI x3)), (4, .int (jI r7))] → W p l e ({ frames := 1, cells := 0, slots := 0, locals := 22 } : Room) sM m (([.ref (z + 0), .int (jI x1)] : List Value).toArray) below meth c H locs 0 0 (MQ below (va_Qi (fun (w : Int32) (_ : Unit) => w = jI r ∧ inR r ∧ Mok LyR M) (fun _ t => va_P (eD E) vwCl (Wd (eC E) z LyR M) t.heap) (eA E)) (([.ref (z + 0), .int (jI x1)] : List Value).toArray) sM 0 0 (eA E)) (F0 m 30 ls [.int (jI v30), .int (jI x2)]) := by
        intro v30 hv30 H locs ls h hMj30 hl
        subst hk30
        try dsimp only at h
        replace h := bd_some h
        obtain ⟨r30, hf30, h⟩ := h
        refine r_callSI (As := [.int (jI v30)]) (rest := [.int (jI x2)]) C hMj30 (c_X11_bit l E z hv30 hf30) jy_X11_bit lk_X11_133 dX11_behind_30 rfl rfl hl.1 (Nat.le_of_ble_eq_true rfl) ⟨Nat.le_of_ble_eq_true rfl, Nat.le_of_ble_eq_true rfl⟩ ⟨rfl, rfl⟩ ⟨Nat.zero_le _, Nat.zero_le _⟩ (fun H locs hr30 hM2 => ?_)
        refine r_iload C dX11_behind_33 hl 2 rfl ?_
        refine r_iconst C dX11_behind_35 ?_
        replace h := jn_some h
        obtain ⟨k44, hk44, h⟩ := h
        have hJ44 : ∀ (v44 : Int), inR v44 → ∀ (H : Heap) (locs : List Loc) (ls : Array Slot), k44 v44 = some r → HS E z LyR M sM H locs → lv_has ls 5 [(0, .ref (z + 0)), (3, .int (jI x3))] → W p l e ({ frames := 1, cells := 0, slots := 0, locals := 22 } : Room) sM m (([.ref (z + 0), .int (jI x1)] : List Value).toArray) below meth c H locs 0 0 (MQ below (va_Qi (fun (w : Int32) (_ : Unit) => w = jI r ∧ inR r ∧ Mok LyR M) (fun _ t => va_P (eD E) vwCl (Wd (eC E) z LyR M) t.heap) (eA E)) (([.ref (z + 0), .int (jI x1)] : List Value).toArray) sM 0 0 (eA E)) (F0 m 44 ls [.int (jI v44), .int (jI r30), .int (jI x2)]) := by
          intro v44 hv44 H locs ls h hMj44 hl
          subst hk44
          try dsimp only at h
          replace h := bd_some h
          obtain ⟨r44, hf44, h⟩ := h
          refine r_callSI (As := [.int (jI v44)]) (rest := [.int (jI r30), .int (jI x2)]) C hMj44 (c_X11_bit l E z hv44 hf44) jy_X11_bit lk_X11_133 dX11_behind_44 rfl rfl hl.1 (Nat.le_of_ble_eq_true rfl) ⟨Nat.le_of_ble_eq_true rfl, Nat.le_of_ble_eq_true rfl⟩ ⟨rfl, rfl⟩ ⟨Nat.zero_le _, Nat.zero_le _⟩ (fun H locs hr44 hM3 => ?_)
          replace h := ck_some h
          obtain ⟨hc4, h⟩ := h
          refine r_isub C dX11_behind_47 ?_
          replace h := ck_some h
          obtain ⟨hc5, h⟩ := h
          refine r_iadd C dX11_behind_48 ?_
          refine r_istore_n C [(2, .int (jI (x2 + (r30 - r44)))), (0, .ref (z + 0)), (3, .int (jI x3))] dX11_behind_49 rfl hl (by decide) rfl (fun ls hl => ?_)
          replace h := ck_some h
          obtain ⟨hc6, h⟩ := h
          refine r_iinc (j := 2) (x := x3) C [(3, .int (jI (x3 + 1))), (2, .int (jI (x2 + (r30 - r44)))), (0, .ref (z + 0))] dX11_behind_50 hl rfl (by decide) rfl (fun ls hl => ?_)
          refine r_iload_n C dX11_behind_53 rfl hl 1 rfl ?_
          refine r_if_gt C 4 hc5 dX11_behind_54 (by decide) (fun cq => ?_) (fun cq => ?_)
          · replace h := ifp cq h
            exact ih4 _ _ hc5 hc6 _ _ _ h hM3 (lv_sub hl [2, 1, 0] rfl)
          · replace h := ifn cq h
            refine r_iload_n C dX11_behind_57 rfl hl 0 rfl ?_
            exact r_ireturn C hM3 hr hlk hc6 h rfl dX11_behind_58
        refine r_icmp_ne C 43 hr7 ⟨by decide, by decide⟩ dX11_behind_36 (by decide) (fun cq => ?_) (fun cq => ?_)
        · replace h := ifn cq h
          refine r_iconst C dX11_behind_43 ?_
          exact hJ44 _ ⟨by decide, by decide⟩ _ _ _ h hM2 (lv_sub hl [0, 1] rfl)
        · replace h := ifp cq h
          refine r_iconst C dX11_behind_39 ?_
          refine r_goto C 44 dX11_behind_40 (by decide) ?_
          exact hJ44 _ ⟨by decide, by decide⟩ _ _ _ h hM2 (lv_sub hl [0, 1] rfl)
      replace h := jn_some h
      obtain ⟨k25, hk25, h⟩ := h
      have hJ25 : ∀ (_ : Unit), ∀ (H : Heap) (locs : List Loc) (ls : Array Slot), k25 () = some r → HS E z LyR M sM H locs → lv_has ls 5 [(0, .ref (z + 0)), (3, .int (jI x3)), (4, .int (jI r7))] → W p l e ({ frames := 1, cells := 0, slots := 0, locals := 22 } : Room) sM m (([.ref (z + 0), .int (jI x1)] : List Value).toArray) below meth c H locs 0 0 (MQ below (va_Qi (fun (w : Int32) (_ : Unit) => w = jI r ∧ inR r ∧ Mok LyR M) (fun _ t => va_P (eD E) vwCl (Wd (eC E) z LyR M) t.heap) (eA E)) (([.ref (z + 0), .int (jI x1)] : List Value).toArray) sM 0 0 (eA E)) (F0 m 25 ls [.int (jI x2)]) := by
        intro _ H locs ls h hMj25 hl
        subst hk25
        try dsimp only at h
        refine r_iconst C dX11_behind_25 ?_
        refine r_goto C 30 dX11_behind_26 (by decide) ?_
        exact hJ30 _ ⟨by decide, by decide⟩ _ _ _ h hMj25 (lv_sub hl [0, 1, 2] rfl)
      refine r_icmp_eq C 25 hr7 ⟨by decide, by decide⟩ dX11_behind_16 (by decide) (fun cq => ?_) (fun cq => ?_)
      · replace h := ifp cq h
        exact hJ25 () _ _ _ h hM1 (lv_sub hl [1, 3, 0] rfl)
      · replace h := ifn cq h
        refine r_iload C dX11_behind_19 hl 0 rfl ?_
        refine r_iconst C dX11_behind_21 ?_
        refine r_icmp_ne C 29 hr7 ⟨by decide, by decide⟩ dX11_behind_22 (by decide) (fun cq => ?_) (fun cq => ?_)
        · replace h := ifn cq h
          refine r_iconst C dX11_behind_29 ?_
          exact hJ30 _ ⟨by decide, by decide⟩ _ _ _ h hM1 (lv_sub hl [1, 3, 0] rfl)
        · replace h := ifp cq h
          exact hJ25 () _ _ _ h hM1 (lv_sub hl [1, 3, 0] rfl)
  exact hL4 jFuel _ _ ⟨by decide, by decide⟩ hx1 _ _ _ h hM0 (lv_sub hl [2, 1, 0] rfl)
set_option maxRecDepth 100000 in
set_option maxHeartbeats 4000000 in
theorem c_X11_itemMany (l : Launch) (E : jE) (z : Nat) {M : Mem} {r : Int} (h : f_X11_itemMany M = some r) : CtI l yX11_itemMany cX11_itemMany 3 (some .int) { frames := 2, cells := 0, slots := 0, locals := 46 } E z LyR [.ref (z + 0)] M r M := by
  refine jm (by decide +kernel) (Nat.le_of_ble_eq_true rfl) ?_
  intro p e sM m below meth c C hM0 hr hlk ls hl
  replace hl : lv_has ls 3 [(0, .ref (z + 0))] := hl
  unfold f_X11_itemMany at h
  refine r_iconst C dX11_itemMany_0 ?_
  refine r_istore_n C [(1, .int (jI 0)), (0, .ref (z + 0))] dX11_itemMany_1 rfl hl (by decide) rfl (fun ls hl => ?_)
  refine r_iconst C dX11_itemMany_2 ?_
  refine r_istore_n C [(2, .int (jI 0)), (1, .int (jI 0)), (0, .ref (z + 0))] dX11_itemMany_3 rfl hl (by decide) rfl (fun ls hl => ?_)
  have hL4 : ∀ n4 : Nat, ∀ (x1 : Int) (x2 : Int), inR x1 → inR x2 → ∀ (H : Heap) (locs : List Loc) (ls : Array Slot), f_X11_itemMany_L4 M n4  x1 x2 = some r → HS E z LyR M sM H locs → lv_has ls 3 [(0, .ref (z + 0)), (1, .int (jI x1)), (2, .int (jI x2))] → W p l e ({ frames := 2, cells := 0, slots := 0, locals := 46 } : Room) sM m (([.ref (z + 0)] : List Value).toArray) below meth c H locs 0 0 (MQ below (va_Qi (fun (w : Int32) (_ : Unit) => w = jI r ∧ inR r ∧ Mok LyR M) (fun _ t => va_P (eD E) vwCl (Wd (eC E) z LyR M) t.heap) (eA E)) (([.ref (z + 0)] : List Value).toArray) sM 0 0 (eA E)) (F0 m 4 ls []) := by
    intro n4
    induction n4 with
    | zero =>
      intro x1 x2 hx1 hx2 H locs ls h hM hl
      exact absurd h (by simp [f_X11_itemMany_L4])
    | succ n4 ih4 =>
      intro x1 x2 hx1 hx2 H locs ls h hM hl
      rw [f_X11_itemMany_L4] at h
      refine r_iload_n C dX11_itemMany_4 rfl hl 2 rfl ?_
      refine r_aload_n C dX11_itemMany_5 rfl hl 0 rfl ?_
      refine r_getR C hM jc11 0 1 dX11_itemMany_6 lk_X11_7 lr_0.1 lr_0.2 rfl rfl (by decide) rfl ?_
      refine r_bipush C dX11_itemMany_9 rfl ?_
      refine r_iald C hM rfl dX11_itemMany_11 lr_1.1 lr_1.2 (show (0 : Int) ≤ 8 ∧ (8 : Int) < 1062 by decide) ⟨by decide, by decide⟩ ?_
      refine r_icmp_ge C 27 hx2 (hM.ok _ _) dX11_itemMany_12 (by decide) (fun cq => ?_) (fun cq => ?_)
      · replace h := ifp cq h
        refine r_iload_n C dX11_itemMany_27 rfl hl 1 rfl ?_
        exact r_ireturn C hM hr hlk hx1 h rfl dX11_itemMany_28
      · replace h := ifn cq h
        replace h := ck_some h
        obtain ⟨hc1, h⟩ := h
        refine r_iinc (j := 1) (x := x1) C [(1, .int (jI (x1 + 1))), (0, .ref (z + 0)), (2, .int (jI x2))] dX11_itemMany_15 hl rfl (by decide) rfl (fun ls hl => ?_)
        refine r_aload_n C dX11_itemMany_18 rfl hl 1 rfl ?_
        refine r_iload_n C dX11_itemMany_19 rfl hl 2 rfl ?_
        replace h := bd_some h
        obtain ⟨r20, hf20, h⟩ := h
        refine r_callI (As := [.int (jI x2)]) (rest := []) C hM (c_X11_behind l E z hx2 hf20) jy_X11_behind lk_X11_411 dX11_itemMany_20 (recvW C hM jc11 lr_0.1 lr_0.2 rfl) rfl rfl hl.1 (Nat.le_of_ble_eq_true rfl) ⟨Nat.le_of_ble_eq_true rfl, Nat.le_of_ble_eq_true rfl⟩ ⟨rfl, rfl⟩ ⟨Nat.zero_le _, Nat.zero_le _⟩ (fun H locs hr20 hM2 => ?_)
        refine r_istore_n C [(2, .int (jI r20)), (1, .int (jI (x1 + 1))), (0, .ref (z + 0))] dX11_itemMany_23 rfl hl (by decide) rfl (fun ls hl => ?_)
        refine r_goto C 4 dX11_itemMany_24 (by decide) ?_
        exact ih4 _ _ hc1 hr20 _ _ _ h hM2 (lv_sub hl [2, 1, 0] rfl)
  exact hL4 jFuel _ _ ⟨by decide, by decide⟩ ⟨by decide, by decide⟩ _ _ _ h hM0 (lv_sub hl [2, 1, 0] rfl)
set_option maxRecDepth 100000 in
set_option maxHeartbeats 4000000 in
theorem c_X11_allItems (l : Launch) (E : jE) (z : Nat) {M : Mem} {r : Int} (h : f_X11_allItems M = some r) : CtI l yX11_allItems cX11_allItems 3 (some .int) { frames := 1, cells := 0, slots := 0, locals := 22 } E z LyR [.ref (z + 0)] M r M := by
  refine jm (by decide +kernel) (Nat.le_of_ble_eq_true rfl) ?_
  intro p e sM m below meth c C hM0 hr hlk ls hl
  replace hl : lv_has ls 3 [(0, .ref (z + 0))] := hl
  unfold f_X11_allItems at h
  refine r_iconst C dX11_allItems_0 ?_
  refine r_istore_n C [(1, .int (jI 0)), (0, .ref (z + 0))] dX11_allItems_1 rfl hl (by decide) rfl (fun ls hl => ?_)
  refine r_iconst C dX11_allItems_2 ?_
  refine r_istore_n C [(2, .int (jI 0)), (1, .int (jI 0)), (0, .ref (z + 0))] dX11_allItems_3 rfl hl (by decide) rfl (fun ls hl => ?_)
  have hL4 : ∀ n4 : Nat, ∀ (x1 : Int) (x2 : Int), inR x1 → inR x2 → ∀ (H : Heap) (locs : List Loc) (ls : Array Slot), f_X11_allItems_L4 M n4  x1 x2 = some r → HS E z LyR M sM H locs → lv_has ls 3 [(0, .ref (z + 0)), (1, .int (jI x1)), (2, .int (jI x2))] → W p l e ({ frames := 1, cells := 0, slots := 0, locals := 22 } : Room) sM m (([.ref (z + 0)] : List Value).toArray) below meth c H locs 0 0 (MQ below (va_Qi (fun (w : Int32) (_ : Unit) => w = jI r ∧ inR r ∧ Mok LyR M) (fun _ t => va_P (eD E) vwCl (Wd (eC E) z LyR M) t.heap) (eA E)) (([.ref (z + 0)] : List Value).toArray) sM 0 0 (eA E)) (F0 m 4 ls []) := by
    intro n4
    induction n4 with
    | zero =>
      intro x1 x2 hx1 hx2 H locs ls h hM hl
      exact absurd h (by simp [f_X11_allItems_L4])
    | succ n4 ih4 =>
      intro x1 x2 hx1 hx2 H locs ls h hM hl
      rw [f_X11_allItems_L4] at h
      refine r_iload_n C dX11_allItems_4 rfl hl 2 rfl ?_
      refine r_aload_n C dX11_allItems_5 rfl hl 0 rfl ?_
      refine r_getR C hM jc11 0 1 dX11_allItems_6 lk_X11_7 lr_0.1 lr_0.2 rfl rfl (by decide) rfl ?_
      refine r_bipush C dX11_allItems_9 rfl ?_
      refine r_iald C hM rfl dX11_allItems_11 lr_1.1 lr_1.2 (show (0 : Int) ≤ 8 ∧ (8 : Int) < 1062 by decide) ⟨by decide, by decide⟩ ?_
      refine r_icmp_ge C 42 hx2 (hM.ok _ _) dX11_allItems_12 (by decide) (fun cq => ?_) (fun cq => ?_)
      · replace h := ifp cq h
        refine r_iload_n C dX11_allItems_42 rfl hl 1 rfl ?_
        exact r_ireturn C hM hr hlk hx1 h rfl dX11_allItems_43
      · replace h := ifn cq h
        refine r_iload_n C dX11_allItems_15 rfl hl 1 rfl ?_
        refine r_aload_n C dX11_allItems_16 rfl hl 0 rfl ?_
        refine r_iload_n C dX11_allItems_17 rfl hl 2 rfl ?_
        refine r_iconst C dX11_allItems_18 ?_
        replace h := bd_some h
        obtain ⟨r19, hf19, h⟩ := h
        refine r_callI (As := [.int (jI x2), .int (jI 0)]) (rest := [.int (jI x1)]) C hM (c_X11_r l E z hx2 ⟨by decide, by decide⟩ hf19) jy_X11_r lk_X11_129 dX11_allItems_19 (recvW C hM jc11 lr_0.1 lr_0.2 rfl) rfl rfl hl.1 (Nat.le_of_ble_eq_true rfl) ⟨Nat.le_of_ble_eq_true rfl, Nat.le_of_ble_eq_true rfl⟩ ⟨rfl, rfl⟩ ⟨Nat.zero_le _, Nat.zero_le _⟩ (fun H locs hr19 hM1 => ?_)
        refine r_iconst C dX11_allItems_22 ?_
        replace h := jn_some h
        obtain ⟨k31, hk31, h⟩ := h
        have hJ31 : ∀ (v31 : Int), inR v31 → ∀ (H : Heap) (locs : List Loc) (ls : Array Slot), k31 v31 = some r → HS E z LyR M sM H locs → lv_has ls 3 [(0, .ref (z + 0)), (2, .int (jI x2))] → W p l e ({ frames := 1, cells := 0, slots := 0, locals := 22 } : Room) sM m (([.ref (z + 0)] : List Value).toArray) below meth c H locs 0 0 (MQ below (va_Qi (fun (w : Int32) (_ : Unit) => w = jI r ∧ inR r ∧ Mok LyR M) (fun _ t => va_P (eD E) vwCl (Wd (eC E) z LyR M) t.heap) (eA E)) (([.ref (z + 0)] : List Value).toArray) sM 0 0 (eA E)) (F0 m 31 ls [.int (jI v31), .int (jI x1)]) := by
          intro v31 hv31 H locs ls h hMj31 hl
          subst hk31
          try dsimp only at h
          replace h := bd_some h
          obtain ⟨r31, hf31, h⟩ := h
          refine r_callSI (As := [.int (jI v31)]) (rest := [.int (jI x1)]) C hMj31 (c_X11_bit l E z hv31 hf31) jy_X11_bit lk_X11_133 dX11_allItems_31 rfl rfl hl.1 (Nat.le_of_ble_eq_true rfl) ⟨Nat.le_of_ble_eq_true rfl, Nat.le_of_ble_eq_true rfl⟩ ⟨rfl, rfl⟩ ⟨Nat.zero_le _, Nat.zero_le _⟩ (fun H locs hr31 hM2 => ?_)
          replace h := ck_some h
          obtain ⟨hc3, h⟩ := h
          refine r_iadd C dX11_allItems_34 ?_
          refine r_istore_n C [(1, .int (jI (x1 + r31))), (0, .ref (z + 0)), (2, .int (jI x2))] dX11_allItems_35 rfl hl (by decide) rfl (fun ls hl => ?_)
          replace h := ck_some h
          obtain ⟨hc4, h⟩ := h
          refine r_iinc (j := 2) (x := x2) C [(2, .int (jI (x2 + 1))), (1, .int (jI (x1 + r31))), (0, .ref (z + 0))] dX11_allItems_36 hl rfl (by decide) rfl (fun ls hl => ?_)
          refine r_goto C 4 dX11_allItems_39 (by decide) ?_
          exact ih4 _ _ hc3 hc4 _ _ _ h hM2 (lv_sub hl [2, 1, 0] rfl)
        refine r_icmp_eq C 30 hr19 ⟨by decide, by decide⟩ dX11_allItems_23 (by decide) (fun cq => ?_) (fun cq => ?_)
        · replace h := ifp cq h
          refine r_iconst C dX11_allItems_30 ?_
          exact hJ31 _ ⟨by decide, by decide⟩ _ _ _ h hM1 (lv_sub hl [0, 2] rfl)
        · replace h := ifn cq h
          refine r_iconst C dX11_allItems_26 ?_
          refine r_goto C 31 dX11_allItems_27 (by decide) ?_
          exact hJ31 _ ⟨by decide, by decide⟩ _ _ _ h hM1 (lv_sub hl [0, 2] rfl)
  exact hL4 jFuel _ _ ⟨by decide, by decide⟩ ⟨by decide, by decide⟩ _ _ _ h hM0 (lv_sub hl [2, 1, 0] rfl)
set_option maxRecDepth 100000 in
set_option maxHeartbeats 4000000 in
theorem c_X11_rowOf (l : Launch) (E : jE) (z : Nat) {x1 : Int} {M : Mem} {r : Int} (hx1 : inR x1) (h : f_X11_rowOf x1 M = some r) : CtI l yX11_rowOf cX11_rowOf 4 (some .int) { frames := 2, cells := 0, slots := 0, locals := 46 } E z LyR [.ref (z + 0), .int (jI x1)] M r M := by
  refine jm (by decide +kernel) (Nat.le_of_ble_eq_true rfl) ?_
  intro p e sM m below meth c C hM0 hr hlk ls hl
  replace hl : lv_has ls 4 [(0, .ref (z + 0)), (1, .int (jI x1))] := hl
  unfold f_X11_rowOf at h
  refine r_iconst C dX11_rowOf_0 ?_
  refine r_istore_n C [(2, .int (jI 0)), (0, .ref (z + 0)), (1, .int (jI x1))] dX11_rowOf_1 rfl hl (by decide) rfl (fun ls hl => ?_)
  refine r_iconst C dX11_rowOf_2 ?_
  refine r_istore_n C [(3, .int (jI 0)), (2, .int (jI 0)), (0, .ref (z + 0)), (1, .int (jI x1))] dX11_rowOf_3 rfl hl (by decide) rfl (fun ls hl => ?_)
  have hL4 : ∀ n4 : Nat, ∀ (x2 : Int) (x3 : Int), inR x2 → inR x3 → ∀ (H : Heap) (locs : List Loc) (ls : Array Slot), f_X11_rowOf_L4 x1 M n4  x2 x3 = some r → HS E z LyR M sM H locs → lv_has ls 4 [(0, .ref (z + 0)), (1, .int (jI x1)), (2, .int (jI x2)), (3, .int (jI x3))] → W p l e ({ frames := 2, cells := 0, slots := 0, locals := 46 } : Room) sM m (([.ref (z + 0), .int (jI x1)] : List Value).toArray) below meth c H locs 0 0 (MQ below (va_Qi (fun (w : Int32) (_ : Unit) => w = jI r ∧ inR r ∧ Mok LyR M) (fun _ t => va_P (eD E) vwCl (Wd (eC E) z LyR M) t.heap) (eA E)) (([.ref (z + 0), .int (jI x1)] : List Value).toArray) sM 0 0 (eA E)) (F0 m 4 ls []) := by
    intro n4
    induction n4 with
    | zero =>
      intro x2 x3 hx2 hx3 H locs ls h hM hl
      exact absurd h (by simp [f_X11_rowOf_L4])
    | succ n4 ih4 =>
      intro x2 x3 hx2 hx3 H locs ls h hM hl
      rw [f_X11_rowOf_L4] at h
      refine r_iload_n C dX11_rowOf_4 rfl hl 3 rfl ?_
      refine r_iload_n C dX11_rowOf_5 rfl hl 1 rfl ?_
      refine r_icmp_ge C 21 hx3 hx1 dX11_rowOf_6 (by decide) (fun cq => ?_) (fun cq => ?_)
      · replace h := ifp cq h
        refine r_iload_n C dX11_rowOf_21 rfl hl 2 rfl ?_
        exact r_ireturn C hM hr hlk hx2 h rfl dX11_rowOf_22
      · replace h := ifn cq h
        refine r_aload_n C dX11_rowOf_9 rfl hl 0 rfl ?_
        refine r_iload_n C dX11_rowOf_10 rfl hl 2 rfl ?_
        replace h := bd_some h
        obtain ⟨r11, hf11, h⟩ := h
        refine r_callI (As := [.int (jI x2)]) (rest := []) C hM (c_X11_behind l E z hx2 hf11) jy_X11_behind lk_X11_411 dX11_rowOf_11 (recvW C hM jc11 lr_0.1 lr_0.2 rfl) rfl rfl hl.1 (Nat.le_of_ble_eq_true rfl) ⟨Nat.le_of_ble_eq_true rfl, Nat.le_of_ble_eq_true rfl⟩ ⟨rfl, rfl⟩ ⟨Nat.zero_le _, Nat.zero_le _⟩ (fun H locs hr11 hM1 => ?_)
        refine r_istore_n C [(2, .int (jI r11)), (0, .ref (z + 0)), (1, .int (jI x1)), (3, .int (jI x3))] dX11_rowOf_14 rfl hl (by decide) rfl (fun ls hl => ?_)
        replace h := ck_some h
        obtain ⟨hc2, h⟩ := h
        refine r_iinc (j := 3) (x := x3) C [(3, .int (jI (x3 + 1))), (2, .int (jI r11)), (0, .ref (z + 0)), (1, .int (jI x1))] dX11_rowOf_15 hl rfl (by decide) rfl (fun ls hl => ?_)
        refine r_goto C 4 dX11_rowOf_18 (by decide) ?_
        exact ih4 _ _ hr11 hc2 _ _ _ h hM1 (lv_sub hl [2, 3, 1, 0] rfl)
  exact hL4 jFuel _ _ ⟨by decide, by decide⟩ ⟨by decide, by decide⟩ _ _ _ h hM0 (lv_sub hl [2, 3, 1, 0] rfl)
set_option maxRecDepth 100000 in
set_option maxHeartbeats 4000000 in
theorem c_X11_deepest (l : Launch) (E : jE) (z : Nat) {M : Mem} {r : Int} (h : f_X11_deepest M = some r) : CtI l yX11_deepest cX11_deepest 5 (some .int) { frames := 1, cells := 0, slots := 0, locals := 22 } E z LyR [.ref (z + 0)] M r M := by
  refine jm (by decide +kernel) (Nat.le_of_ble_eq_true rfl) ?_
  intro p e sM m below meth c C hM0 hr hlk ls hl
  replace hl : lv_has ls 5 [(0, .ref (z + 0))] := hl
  unfold f_X11_deepest at h
  refine r_iconst C dX11_deepest_0 ?_
  refine r_istore_n C [(1, .int (jI 0)), (0, .ref (z + 0))] dX11_deepest_1 rfl hl (by decide) rfl (fun ls hl => ?_)
  refine r_iconst C dX11_deepest_2 ?_
  refine r_istore_n C [(2, .int (jI 0)), (1, .int (jI 0)), (0, .ref (z + 0))] dX11_deepest_3 rfl hl (by decide) rfl (fun ls hl => ?_)
  refine r_iconst C dX11_deepest_4 ?_
  refine r_istore_n C [(3, .int (jI 0)), (2, .int (jI 0)), (1, .int (jI 0)), (0, .ref (z + 0))] dX11_deepest_5 rfl hl (by decide) rfl (fun ls hl => ?_)
  have hL6 : ∀ n6 : Nat, ∀ (x1 : Int) (x2 : Int) (x3 : Int), inR x1 → inR x2 → inR x3 → ∀ (H : Heap) (locs : List Loc) (ls : Array Slot), f_X11_deepest_L6 M n6  x1 x2 x3 = some r → HS E z LyR M sM H locs → lv_has ls 5 [(0, .ref (z + 0)), (1, .int (jI x1)), (2, .int (jI x2)), (3, .int (jI x3))] → W p l e ({ frames := 1, cells := 0, slots := 0, locals := 22 } : Room) sM m (([.ref (z + 0)] : List Value).toArray) below meth c H locs 0 0 (MQ below (va_Qi (fun (w : Int32) (_ : Unit) => w = jI r ∧ inR r ∧ Mok LyR M) (fun _ t => va_P (eD E) vwCl (Wd (eC E) z LyR M) t.heap) (eA E)) (([.ref (z + 0)] : List Value).toArray) sM 0 0 (eA E)) (F0 m 6 ls []) := by
    intro n6
    induction n6 with
    | zero =>
      intro x1 x2 x3 hx1 hx2 hx3 H locs ls h hM hl
      exact absurd h (by simp [f_X11_deepest_L6])
    | succ n6 ih6 =>
      intro x1 x2 x3 hx1 hx2 hx3 H locs ls h hM hl
      rw [f_X11_deepest_L6] at h
      refine r_iload_n C dX11_deepest_6 rfl hl 3 rfl ?_
      refine r_aload_n C dX11_deepest_7 rfl hl 0 rfl ?_
      refine r_getR C hM jc11 0 1 dX11_deepest_8 lk_X11_7 lr_0.1 lr_0.2 rfl rfl (by decide) rfl ?_
      refine r_bipush C dX11_deepest_11 rfl ?_
      refine r_iald C hM rfl dX11_deepest_13 lr_1.1 lr_1.2 (show (0 : Int) ≤ 8 ∧ (8 : Int) < 1062 by decide) ⟨by decide, by decide⟩ ?_
      refine r_icmp_ge C 75 hx3 (hM.ok _ _) dX11_deepest_14 (by decide) (fun cq => ?_) (fun cq => ?_)
      · replace h := ifp cq h
        refine r_iload_n C dX11_deepest_75 rfl hl 1 rfl ?_
        exact r_ireturn C hM hr hlk hx1 h rfl dX11_deepest_76
      · replace h := ifn cq h
        refine r_aload_n C dX11_deepest_17 rfl hl 0 rfl ?_
        refine r_iload_n C dX11_deepest_18 rfl hl 3 rfl ?_
        refine r_iconst C dX11_deepest_19 ?_
        replace h := bd_some h
        obtain ⟨r20, hf20, h⟩ := h
        refine r_callI (As := [.int (jI x3), .int (jI 0)]) (rest := []) C hM (c_X11_r l E z hx3 ⟨by decide, by decide⟩ hf20) jy_X11_r lk_X11_129 dX11_deepest_20 (recvW C hM jc11 lr_0.1 lr_0.2 rfl) rfl rfl hl.1 (Nat.le_of_ble_eq_true rfl) ⟨Nat.le_of_ble_eq_true rfl, Nat.le_of_ble_eq_true rfl⟩ ⟨rfl, rfl⟩ ⟨Nat.zero_le _, Nat.zero_le _⟩ (fun H locs hr20 hM1 => ?_)
        refine r_istore C [(4, .int (jI r20)), (0, .ref (z + 0)), (1, .int (jI x1)), (2, .int (jI x2)), (3, .int (jI x3))] dX11_deepest_23 hl (by decide) rfl (fun ls hl => ?_)
        refine r_iload_n C dX11_deepest_25 rfl hl 3 rfl ?_
        refine r_iload C dX11_deepest_26 hl 0 rfl ?_
        refine r_iconst C dX11_deepest_28 ?_
        replace h := jn_some h
        obtain ⟨k43, hk43, h⟩ := h
        have hJ43 : ∀ (v43 : Int), inR v43 → ∀ (H : Heap) (locs : List Loc) (ls : Array Slot), k43 v43 = some r → HS E z LyR M sM H locs → lv_has ls 5 [(0, .ref (z + 0)), (1, .int (jI x1)), (3, .int (jI x3)), (4, .int (jI r20))] → W p l e ({ frames := 1, cells := 0, slots := 0, locals := 22 } : Room) sM m (([.ref (z + 0)] : List Value).toArray) below meth c H locs 0 0 (MQ below (va_Qi (fun (w : Int32) (_ : Unit) => w = jI r ∧ inR r ∧ Mok LyR M) (fun _ t => va_P (eD E) vwCl (Wd (eC E) z LyR M) t.heap) (eA E)) (([.ref (z + 0)] : List Value).toArray) sM 0 0 (eA E)) (F0 m 43 ls [.int (jI v43), .int (jI x2)]) := by
          intro v43 hv43 H locs ls h hMj43 hl
          subst hk43
          try dsimp only at h
          replace h := bd_some h
          obtain ⟨r43, hf43, h⟩ := h
          refine r_callSI (As := [.int (jI v43)]) (rest := [.int (jI x2)]) C hMj43 (c_X11_bit l E z hv43 hf43) jy_X11_bit lk_X11_133 dX11_deepest_43 rfl rfl hl.1 (Nat.le_of_ble_eq_true rfl) ⟨Nat.le_of_ble_eq_true rfl, Nat.le_of_ble_eq_true rfl⟩ ⟨rfl, rfl⟩ ⟨Nat.zero_le _, Nat.zero_le _⟩ (fun H locs hr43 hM2 => ?_)
          refine r_iload C dX11_deepest_46 hl 3 rfl ?_
          refine r_iconst C dX11_deepest_48 ?_
          replace h := jn_some h
          obtain ⟨k57, hk57, h⟩ := h
          have hJ57 : ∀ (v57 : Int), inR v57 → ∀ (H : Heap) (locs : List Loc) (ls : Array Slot), k57 v57 = some r → HS E z LyR M sM H locs → lv_has ls 5 [(0, .ref (z + 0)), (1, .int (jI x1)), (3, .int (jI x3))] → W p l e ({ frames := 1, cells := 0, slots := 0, locals := 22 } : Room) sM m (([.ref (z + 0)] : List Value).toArray) below meth c H locs 0 0 (MQ below (va_Qi (fun (w : Int32) (_ : Unit) => w = jI r ∧ inR r ∧ Mok LyR M) (fun _ t => va_P (eD E) vwCl (Wd (eC E) z LyR M) t.heap) (eA E)) (([.ref (z + 0)] : List Value).toArray) sM 0 0 (eA E)) (F0 m 57 ls [.int (jI v57), .int (jI r43), .int (jI x2)]) := by
            intro v57 hv57 H locs ls h hMj57 hl
            subst hk57
            try dsimp only at h
            replace h := bd_some h
            obtain ⟨r57, hf57, h⟩ := h
            refine r_callSI (As := [.int (jI v57)]) (rest := [.int (jI r43), .int (jI x2)]) C hMj57 (c_X11_bit l E z hv57 hf57) jy_X11_bit lk_X11_133 dX11_deepest_57 rfl rfl hl.1 (Nat.le_of_ble_eq_true rfl) ⟨Nat.le_of_ble_eq_true rfl, Nat.le_of_ble_eq_true rfl⟩ ⟨rfl, rfl⟩ ⟨Nat.zero_le _, Nat.zero_le _⟩ (fun H locs hr57 hM3 => ?_)
            replace h := ck_some h
            obtain ⟨hc4, h⟩ := h
            refine r_isub C dX11_deepest_60 ?_
            replace h := ck_some h
            obtain ⟨hc5, h⟩ := h
            refine r_iadd C dX11_deepest_61 ?_
            refine r_istore_n C [(2, .int (jI (x2 + (r43 - r57)))), (0, .ref (z + 0)), (1, .int (jI x1)), (3, .int (jI x3))] dX11_deepest_62 rfl hl (by decide) rfl (fun ls hl => ?_)
            refine r_iload_n C dX11_deepest_63 rfl hl 2 rfl ?_
            refine r_iload_n C dX11_deepest_64 rfl hl 0 rfl ?_
            refine r_max C hx1 hc5 lk_X11_162 dX11_deepest_65 hl.1 ⟨Nat.le_of_ble_eq_true rfl, Nat.le_of_ble_eq_true rfl⟩ ⟨Nat.zero_le _, Nat.zero_le _⟩ ?_
            refine r_istore_n C [(1, .int (jI (max x1 (x2 + (r43 - r57))))), (2, .int (jI (x2 + (r43 - r57)))), (0, .ref (z + 0)), (3, .int (jI x3))] dX11_deepest_68 rfl hl (by decide) rfl (fun ls hl => ?_)
            replace h := ck_some h
            obtain ⟨hc6, h⟩ := h
            refine r_iinc (j := 3) (x := x3) C [(3, .int (jI (x3 + 1))), (1, .int (jI (max x1 (x2 + (r43 - r57))))), (2, .int (jI (x2 + (r43 - r57)))), (0, .ref (z + 0))] dX11_deepest_69 hl rfl (by decide) rfl (fun ls hl => ?_)
            refine r_goto C 6 dX11_deepest_72 (by decide) ?_
            exact ih6 _ _ _ (max_R hx1 hc5) hc5 hc6 _ _ _ h hM3 (lv_sub hl [3, 1, 2, 0] rfl)
          refine r_icmp_ne C 56 hr20 ⟨by decide, by decide⟩ dX11_deepest_49 (by decide) (fun cq => ?_) (fun cq => ?_)
          · replace h := ifn cq h
            refine r_iconst C dX11_deepest_56 ?_
            exact hJ57 _ ⟨by decide, by decide⟩ _ _ _ h hM2 (lv_sub hl [0, 1, 2] rfl)
          · replace h := ifp cq h
            refine r_iconst C dX11_deepest_52 ?_
            refine r_goto C 57 dX11_deepest_53 (by decide) ?_
            exact hJ57 _ ⟨by decide, by decide⟩ _ _ _ h hM2 (lv_sub hl [0, 1, 2] rfl)
        replace h := jn_some h
        obtain ⟨k38, hk38, h⟩ := h
        have hJ38 : ∀ (_ : Unit), ∀ (H : Heap) (locs : List Loc) (ls : Array Slot), k38 () = some r → HS E z LyR M sM H locs → lv_has ls 5 [(0, .ref (z + 0)), (1, .int (jI x1)), (3, .int (jI x3)), (4, .int (jI r20))] → W p l e ({ frames := 1, cells := 0, slots := 0, locals := 22 } : Room) sM m (([.ref (z + 0)] : List Value).toArray) below meth c H locs 0 0 (MQ below (va_Qi (fun (w : Int32) (_ : Unit) => w = jI r ∧ inR r ∧ Mok LyR M) (fun _ t => va_P (eD E) vwCl (Wd (eC E) z LyR M) t.heap) (eA E)) (([.ref (z + 0)] : List Value).toArray) sM 0 0 (eA E)) (F0 m 38 ls [.int (jI x2)]) := by
          intro _ H locs ls h hMj38 hl
          subst hk38
          try dsimp only at h
          refine r_iconst C dX11_deepest_38 ?_
          refine r_goto C 43 dX11_deepest_39 (by decide) ?_
          exact hJ43 _ ⟨by decide, by decide⟩ _ _ _ h hMj38 (lv_sub hl [0, 1, 2, 3] rfl)
        refine r_icmp_eq C 38 hr20 ⟨by decide, by decide⟩ dX11_deepest_29 (by decide) (fun cq => ?_) (fun cq => ?_)
        · replace h := ifp cq h
          exact hJ38 () _ _ _ h hM1 (lv_sub hl [1, 2, 4, 0] rfl)
        · replace h := ifn cq h
          refine r_iload C dX11_deepest_32 hl 0 rfl ?_
          refine r_iconst C dX11_deepest_34 ?_
          refine r_icmp_ne C 42 hr20 ⟨by decide, by decide⟩ dX11_deepest_35 (by decide) (fun cq => ?_) (fun cq => ?_)
          · replace h := ifn cq h
            refine r_iconst C dX11_deepest_42 ?_
            exact hJ43 _ ⟨by decide, by decide⟩ _ _ _ h hM1 (lv_sub hl [1, 2, 4, 0] rfl)
          · replace h := ifp cq h
            exact hJ38 () _ _ _ h hM1 (lv_sub hl [1, 2, 4, 0] rfl)
  exact hL6 jFuel _ _ _ ⟨by decide, by decide⟩ ⟨by decide, by decide⟩ ⟨by decide, by decide⟩ _ _ _ h hM0 (lv_sub hl [3, 2, 1, 0] rfl)
set_option maxRecDepth 100000 in
set_option maxHeartbeats 4000000 in
theorem c_X11_shiftsBack (l : Launch) (E : jE) (z : Nat) {x1 : Int} {x2 : Int} {M M' : Mem} (hx1 : inR x1) (hx2 : inR x2) (h : f_X11_shiftsBack x1 x2 M = some M') : CtV l yX11_shiftsBack cX11_shiftsBack 4 none { frames := 0, cells := 0, slots := 0, locals := 0 } E z LyR [.ref (z + 0), .int (jI x1), .int (jI x2)] M M' := by
  refine jm (by decide +kernel) (Nat.le_of_ble_eq_true rfl) ?_
  intro p e sM m below meth c C hM0 hr hlk ls hl
  replace hl : lv_has ls 4 [(0, .ref (z + 0)), (1, .int (jI x1)), (2, .int (jI x2))] := hl
  unfold f_X11_shiftsBack at h
  refine r_bipush C dX11_shiftsBack_0 rfl ?_
  refine r_iconst C dX11_shiftsBack_2 ?_
  refine r_aload_n C dX11_shiftsBack_3 rfl hl 0 rfl ?_
  refine r_getR C hM0 jc11 0 1 dX11_shiftsBack_4 lk_X11_7 lr_0.1 lr_0.2 rfl rfl (by decide) rfl ?_
  refine r_bipush C dX11_shiftsBack_7 rfl ?_
  refine r_iald C hM0 rfl dX11_shiftsBack_9 lr_1.1 lr_1.2 (show (0 : Int) ≤ 8 ∧ (8 : Int) < 1062 by decide) ⟨by decide, by decide⟩ ?_
  replace h := ck_some h
  obtain ⟨hc1, h⟩ := h
  refine r_imul C dX11_shiftsBack_10 ?_
  replace h := ck_some h
  obtain ⟨hc2, h⟩ := h
  refine r_iadd C dX11_shiftsBack_11 ?_
  refine r_iconst C dX11_shiftsBack_12 ?_
  replace h := ck_some h
  obtain ⟨hc3, h⟩ := h
  refine r_isub C dX11_shiftsBack_13 ?_
  refine r_istore_n C [(3, .int (jI ((126 + (4 * (M 1 (8 : Int).toNat))) - 1))), (0, .ref (z + 0)), (1, .int (jI x1)), (2, .int (jI x2))] dX11_shiftsBack_14 rfl hl (by decide) rfl (fun ls hl => ?_)
  have hL15 : ∀ n15 : Nat, ∀ (x3 : Int) (M : Mem), inR x3 → ∀ (H : Heap) (locs : List Loc) (ls : Array Slot), f_X11_shiftsBack_L15 x1 x2 n15  x3 M = some M' → HS E z LyR M sM H locs → lv_has ls 4 [(0, .ref (z + 0)), (1, .int (jI x1)), (2, .int (jI x2)), (3, .int (jI x3))] → W p l e ({ frames := 0, cells := 0, slots := 0, locals := 0 } : Room) sM m (([.ref (z + 0), .int (jI x1), .int (jI x2)] : List Value).toArray) below meth c H locs 0 0 (MQ below (va_Qv (fun (_ : Unit) => Mok LyR M') (fun _ t => va_P (eD E) vwCl (Wd (eC E) z LyR M') t.heap) (eA E)) (([.ref (z + 0), .int (jI x1), .int (jI x2)] : List Value).toArray) sM 0 0 (eA E)) (F0 m 15 ls []) := by
    intro n15
    induction n15 with
    | zero =>
      intro x3 M hx3 H locs ls h hM hl
      exact absurd h (by simp [f_X11_shiftsBack_L15])
    | succ n15 ih15 =>
      intro x3 M hx3 H locs ls h hM hl
      rw [f_X11_shiftsBack_L15] at h
      refine r_iload_n C dX11_shiftsBack_15 rfl hl 3 rfl ?_
      refine r_bipush C dX11_shiftsBack_16 rfl ?_
      refine r_iconst C dX11_shiftsBack_18 ?_
      refine r_iload_n C dX11_shiftsBack_19 rfl hl 1 rfl ?_
      replace h := ck_some h
      obtain ⟨hc4, h⟩ := h
      refine r_imul C dX11_shiftsBack_20 ?_
      replace h := ck_some h
      obtain ⟨hc5, h⟩ := h
      refine r_iadd C dX11_shiftsBack_21 ?_
      refine r_icmp_lt C 47 hx3 hc5 dX11_shiftsBack_22 (by decide) (fun cq => ?_) (fun cq => ?_)
      · replace h := ifp cq h
        refine r_aload_n C dX11_shiftsBack_47 rfl hl 0 rfl ?_
        refine r_getR C hM jc11 0 1 dX11_shiftsBack_48 lk_X11_7 lr_0.1 lr_0.2 rfl rfl (by decide) rfl ?_
        refine r_bipush C dX11_shiftsBack_51 rfl ?_
        refine r_dup2 C dX11_shiftsBack_53 rfl rfl ?_
        refine r_iald C hM rfl dX11_shiftsBack_54 lr_1.1 lr_1.2 (show (0 : Int) ≤ 8 ∧ (8 : Int) < 1062 by decide) ⟨by decide, by decide⟩ ?_
        refine r_iload_n C dX11_shiftsBack_55 rfl hl 2 rfl ?_
        replace h := ck_some h
        obtain ⟨hc6, h⟩ := h
        refine r_iadd C dX11_shiftsBack_56 ?_
        refine r_iast C hM dX11_shiftsBack_57 lr_1.1 lr_1.2 (show (0 : Int) ≤ 8 ∧ (8 : Int) < 1062 by decide) ⟨by decide, by decide⟩ hc6 (fun H locs hM7 => ?_)
        replace h := lt_some h
        obtain ⟨N8, eN8, h⟩ := h
        rw [← eN8] at hM7
        exact r_return C hM7 hr hlk h dX11_shiftsBack_58
      · replace h := ifn cq h
        refine r_aload_n C dX11_shiftsBack_25 rfl hl 0 rfl ?_
        refine r_getR C hM jc11 0 1 dX11_shiftsBack_26 lk_X11_7 lr_0.1 lr_0.2 rfl rfl (by decide) rfl ?_
        refine r_iload_n C dX11_shiftsBack_29 rfl hl 3 rfl ?_
        refine r_iconst C dX11_shiftsBack_30 ?_
        refine r_iload_n C dX11_shiftsBack_31 rfl hl 2 rfl ?_
        replace h := ck_some h
        obtain ⟨hc9, h⟩ := h
        refine r_imul C dX11_shiftsBack_32 ?_
        replace h := ck_some h
        obtain ⟨hc10, h⟩ := h
        refine r_iadd C dX11_shiftsBack_33 ?_
        refine r_aload_n C dX11_shiftsBack_34 rfl hl 0 rfl ?_
        refine r_getR C hM jc11 0 1 dX11_shiftsBack_35 lk_X11_7 lr_0.1 lr_0.2 rfl rfl (by decide) rfl ?_
        refine r_iload_n C dX11_shiftsBack_38 rfl hl 3 rfl ?_
        replace h := ck_some h
        obtain ⟨hc11, h⟩ := h
        refine r_iald C hM rfl dX11_shiftsBack_39 lr_1.1 lr_1.2 hc11 hx3 ?_
        replace h := ck_some h
        obtain ⟨hc12, h⟩ := h
        refine r_iast C hM dX11_shiftsBack_40 lr_1.1 lr_1.2 hc12 hc10 (hM.ok _ _) (fun H locs hM13 => ?_)
        replace h := lt_some h
        obtain ⟨N14, eN14, h⟩ := h
        rw [← eN14] at hM13
        replace h := ck_some h
        obtain ⟨hc15, h⟩ := h
        refine r_iinc (j := 3) (x := x3) C [(3, .int (jI (x3 + (-1)))), (0, .ref (z + 0)), (1, .int (jI x1)), (2, .int (jI x2))] dX11_shiftsBack_41 hl rfl (by decide) rfl (fun ls hl => ?_)
        refine r_goto C 15 dX11_shiftsBack_44 (by decide) ?_
        exact ih15 _ _ hc15 _ _ _ h hM13 (lv_sub hl [1, 2, 3, 0] rfl)
  exact hL15 jFuel _ _ hc3 _ _ _ h hM0 (lv_sub hl [1, 2, 3, 0] rfl)
set_option maxRecDepth 100000 in
set_option maxHeartbeats 4000000 in
theorem c_X11_shiftsFront (l : Launch) (E : jE) (z : Nat) {x1 : Int} {x2 : Int} {M M' : Mem} (hx1 : inR x1) (hx2 : inR x2) (h : f_X11_shiftsFront x1 x2 M = some M') : CtV l yX11_shiftsFront cX11_shiftsFront 4 none { frames := 0, cells := 0, slots := 0, locals := 0 } E z LyR [.ref (z + 0), .int (jI x1), .int (jI x2)] M M' := by
  refine jm (by decide +kernel) (Nat.le_of_ble_eq_true rfl) ?_
  intro p e sM m below meth c C hM0 hr hlk ls hl
  replace hl : lv_has ls 4 [(0, .ref (z + 0)), (1, .int (jI x1)), (2, .int (jI x2))] := hl
  unfold f_X11_shiftsFront at h
  refine r_bipush C dX11_shiftsFront_0 rfl ?_
  refine r_iconst C dX11_shiftsFront_2 ?_
  refine r_iload_n C dX11_shiftsFront_3 rfl hl 1 rfl ?_
  refine r_iload_n C dX11_shiftsFront_4 rfl hl 2 rfl ?_
  replace h := ck_some h
  obtain ⟨hc1, h⟩ := h
  refine r_iadd C dX11_shiftsFront_5 ?_
  replace h := ck_some h
  obtain ⟨hc2, h⟩ := h
  refine r_imul C dX11_shiftsFront_6 ?_
  replace h := ck_some h
  obtain ⟨hc3, h⟩ := h
  refine r_iadd C dX11_shiftsFront_7 ?_
  refine r_istore_n C [(3, .int (jI (126 + (4 * (x1 + x2))))), (0, .ref (z + 0)), (1, .int (jI x1)), (2, .int (jI x2))] dX11_shiftsFront_8 rfl hl (by decide) rfl (fun ls hl => ?_)
  have hL9 : ∀ n9 : Nat, ∀ (x3 : Int) (M : Mem), inR x3 → ∀ (H : Heap) (locs : List Loc) (ls : Array Slot), f_X11_shiftsFront_L9 x2 n9  x3 M = some M' → HS E z LyR M sM H locs → lv_has ls 4 [(0, .ref (z + 0)), (2, .int (jI x2)), (3, .int (jI x3))] → W p l e ({ frames := 0, cells := 0, slots := 0, locals := 0 } : Room) sM m (([.ref (z + 0), .int (jI x1), .int (jI x2)] : List Value).toArray) below meth c H locs 0 0 (MQ below (va_Qv (fun (_ : Unit) => Mok LyR M') (fun _ t => va_P (eD E) vwCl (Wd (eC E) z LyR M') t.heap) (eA E)) (([.ref (z + 0), .int (jI x1), .int (jI x2)] : List Value).toArray) sM 0 0 (eA E)) (F0 m 9 ls []) := by
    intro n9
    induction n9 with
    | zero =>
      intro x3 M hx3 H locs ls h hM hl
      exact absurd h (by simp [f_X11_shiftsFront_L9])
    | succ n9 ih9 =>
      intro x3 M hx3 H locs ls h hM hl
      rw [f_X11_shiftsFront_L9] at h
      refine r_iload_n C dX11_shiftsFront_9 rfl hl 2 rfl ?_
      refine r_bipush C dX11_shiftsFront_10 rfl ?_
      refine r_iconst C dX11_shiftsFront_12 ?_
      refine r_aload_n C dX11_shiftsFront_13 rfl hl 0 rfl ?_
      refine r_getR C hM jc11 0 1 dX11_shiftsFront_14 lk_X11_7 lr_0.1 lr_0.2 rfl rfl (by decide) rfl ?_
      refine r_bipush C dX11_shiftsFront_17 rfl ?_
      refine r_iald C hM rfl dX11_shiftsFront_19 lr_1.1 lr_1.2 (show (0 : Int) ≤ 8 ∧ (8 : Int) < 1062 by decide) ⟨by decide, by decide⟩ ?_
      replace h := ck_some h
      obtain ⟨hc4, h⟩ := h
      refine r_imul C dX11_shiftsFront_20 ?_
      replace h := ck_some h
      obtain ⟨hc5, h⟩ := h
      refine r_iadd C dX11_shiftsFront_21 ?_
      refine r_icmp_ge C 47 hx3 hc5 dX11_shiftsFront_22 (by decide) (fun cq => ?_) (fun cq => ?_)
      · replace h := ifp cq h
        refine r_aload_n C dX11_shiftsFront_47 rfl hl 0 rfl ?_
        refine r_getR C hM jc11 0 1 dX11_shiftsFront_48 lk_X11_7 lr_0.1 lr_0.2 rfl rfl (by decide) rfl ?_
        refine r_bipush C dX11_shiftsFront_51 rfl ?_
        refine r_dup2 C dX11_shiftsFront_53 rfl rfl ?_
        refine r_iald C hM rfl dX11_shiftsFront_54 lr_1.1 lr_1.2 (show (0 : Int) ≤ 8 ∧ (8 : Int) < 1062 by decide) ⟨by decide, by decide⟩ ?_
        refine r_iload_n C dX11_shiftsFront_55 rfl hl 1 rfl ?_
        replace h := ck_some h
        obtain ⟨hc6, h⟩ := h
        refine r_isub C dX11_shiftsFront_56 ?_
        refine r_iast C hM dX11_shiftsFront_57 lr_1.1 lr_1.2 (show (0 : Int) ≤ 8 ∧ (8 : Int) < 1062 by decide) ⟨by decide, by decide⟩ hc6 (fun H locs hM7 => ?_)
        replace h := lt_some h
        obtain ⟨N8, eN8, h⟩ := h
        rw [← eN8] at hM7
        exact r_return C hM7 hr hlk h dX11_shiftsFront_58
      · replace h := ifn cq h
        refine r_aload_n C dX11_shiftsFront_25 rfl hl 0 rfl ?_
        refine r_getR C hM jc11 0 1 dX11_shiftsFront_26 lk_X11_7 lr_0.1 lr_0.2 rfl rfl (by decide) rfl ?_
        refine r_iload_n C dX11_shiftsFront_29 rfl hl 2 rfl ?_
        refine r_iconst C dX11_shiftsFront_30 ?_
        refine r_iload_n C dX11_shiftsFront_31 rfl hl 1 rfl ?_
        replace h := ck_some h
        obtain ⟨hc9, h⟩ := h
        refine r_imul C dX11_shiftsFront_32 ?_
        replace h := ck_some h
        obtain ⟨hc10, h⟩ := h
        refine r_isub C dX11_shiftsFront_33 ?_
        refine r_aload_n C dX11_shiftsFront_34 rfl hl 0 rfl ?_
        refine r_getR C hM jc11 0 1 dX11_shiftsFront_35 lk_X11_7 lr_0.1 lr_0.2 rfl rfl (by decide) rfl ?_
        refine r_iload_n C dX11_shiftsFront_38 rfl hl 2 rfl ?_
        replace h := ck_some h
        obtain ⟨hc11, h⟩ := h
        refine r_iald C hM rfl dX11_shiftsFront_39 lr_1.1 lr_1.2 hc11 hx3 ?_
        replace h := ck_some h
        obtain ⟨hc12, h⟩ := h
        refine r_iast C hM dX11_shiftsFront_40 lr_1.1 lr_1.2 hc12 hc10 (hM.ok _ _) (fun H locs hM13 => ?_)
        replace h := lt_some h
        obtain ⟨N14, eN14, h⟩ := h
        rw [← eN14] at hM13
        replace h := ck_some h
        obtain ⟨hc15, h⟩ := h
        refine r_iinc (j := 2) (x := x3) C [(3, .int (jI (x3 + 1))), (0, .ref (z + 0)), (2, .int (jI x2))] dX11_shiftsFront_41 hl rfl (by decide) rfl (fun ls hl => ?_)
        refine r_goto C 9 dX11_shiftsFront_44 (by decide) ?_
        exact ih9 _ _ hc15 _ _ _ h hM13 (lv_sub hl [1, 2, 0] rfl)
  exact hL9 jFuel _ _ hc3 _ _ _ h hM0 (lv_sub hl [1, 3, 0] rfl)
