set_option maxRecDepth 100000 in
set_option maxHeartbeats 4000000 in
theorem c_X2_readBlock (l : Launch) (E : jE) (z : Nat) {fr lo : Nat} {rc : Nat → Nat → Int → Mem → Option (Int × Mem)} (hrc : ∀ {s : Nat} {s2 : Nat} {x3 : Int} {M M' : Mem} {r : Int}, isSt s → isSt s2 → inR x3 → rc s s2 x3 M = some (r, M') → CtI l yX2_readItems cX2_readItems 5 (some .boolean) { frames := fr, cells := 0, slots := 0, locals := lo } E z LyC [.ref (z + (s + 17)), .ref (z + 1), .ref (z + (s2 + 1)), .int (jI x3)] M r M') {s : Nat} {x1 : Int} {s3 : Nat} {x4 : Int} {M M' : Mem} {r : Int} (hs : isSt s) (hx1 : inR x1) (hs3 : isSt s3) (hx4 : inR x4) (h : f_X2_readBlock rc s x1 s3 x4 M = some (r, M')) : CtI l yX2_readBlock cX2_readBlock 5 (some .boolean) { frames := fr + 3, cells := 0, slots := 0, locals := lo + 100 } E z LyC [.ref (z + (s + 17)), .int (jI x1), .ref (z + 1), .ref (z + (s3 + 1)), .int (jI x4)] M r M' := by
  refine jm (by decide +kernel) (Nat.le_of_ble_eq_true rfl) ?_
  intro p e sM m below meth c C hM0 hr hlk ls hl
  replace hl : lv_has ls 5 [(0, .ref (z + (s + 17))), (1, .int (jI x1)), (2, .ref (z + 1)), (3, .ref (z + (s3 + 1))), (4, .int (jI x4))] := hl
  unfold f_X2_readBlock at h
  refine r_aload_n C dX2_readBlock_0 rfl hl 0 rfl ?_
  refine r_iload_n C dX2_readBlock_1 rfl hl 1 rfl ?_
  refine r_aload_n C dX2_readBlock_2 rfl hl 2 rfl ?_
  refine r_getI C hM0 jc8 6 rfl dX2_readBlock_3 lk_X2_120 lc_1.1 lc_1.2 rfl rfl (by decide) rfl ?_
  refine r_iconst C dX2_readBlock_6 ?_
  refine r_iconst C dX2_readBlock_7 ?_
  refine r_iload C dX2_readBlock_8 hl 4 rfl ?_
  replace h := bd_some h
  obtain ⟨M10, hf10, h⟩ := h
  refine r_callV (As := [.int (jI x1), .int (jI (M 1 6)), .int (jI 0), .int (jI 0), .int (jI x4)]) (rest := []) C hM0 (c_X2_add l E z hs hx1 (hM0.ok _ _) ⟨by decide, by decide⟩ ⟨by decide, by decide⟩ hx4 hf10) jy_X2_add lk_X2_44 dX2_readBlock_10 (recvW C hM0 jc2 (ls_17 hs).1 (ls_17 hs).2 rfl) rfl rfl hl.1 (Nat.le_of_ble_eq_true rfl) ⟨show 0 + 1 ≤ fr + 3 by omega, show 8 + (6 + 11) + (0) ≤ lo + 100 by omega⟩ ⟨rfl, rfl⟩ ⟨Nat.zero_le _, Nat.zero_le _⟩ (fun H locs hM1 => ?_)
  refine r_aload_n C dX2_readBlock_13 rfl hl 2 rfl ?_
  refine r_getI C hM1 jc8 2 rfl dX2_readBlock_14 lk_X2_73 lc_1.1 lc_1.2 rfl rfl (by decide) rfl ?_
  refine r_iconst C dX2_readBlock_17 ?_
  replace h := jn_some h
  obtain ⟨k33, hk33, h⟩ := h
  have hJ33 : ∀ (_ : Unit), ∀ (H : Heap) (locs : List Loc) (ls : Array Slot), k33 () = some (r, M') → HS E z LyC M10 sM H locs → lv_has ls 5 [(0, .ref (z + (s + 17))), (2, .ref (z + 1)), (3, .ref (z + (s3 + 1))), (4, .int (jI x4))] → W p l e ({ frames := fr + 3, cells := 0, slots := 0, locals := lo + 100 } : Room) sM m (([.ref (z + (s + 17)), .int (jI x1), .ref (z + 1), .ref (z + (s3 + 1)), .int (jI x4)] : List Value).toArray) below meth c H locs 0 0 (MQ below (va_Qi (fun (w : Int32) (_ : Unit) => w = jI r ∧ inR r ∧ Mok LyC M') (fun _ t => va_P (eD E) vwCl (Wd (eC E) z LyC M') t.heap) (eA E)) (([.ref (z + (s + 17)), .int (jI x1), .ref (z + 1), .ref (z + (s3 + 1)), .int (jI x4)] : List Value).toArray) sM 0 0 (eA E)) (F0 m 33 ls []) := by
    intro _ H locs ls h hMj33 hl
    subst hk33
    try dsimp only at h
    refine r_aload_n C dX2_readBlock_33 rfl hl 1 rfl ?_
    refine r_iconst C dX2_readBlock_34 ?_
    replace h := bd_some h
    obtain ⟨⟨r35, M35⟩, hf35, h⟩ := h
    try dsimp only at h
    refine r_callI (As := [.int (jI 4)]) (rest := []) C hMj33 (c_X8_take l E z ⟨by decide, by decide⟩ hf35) jy_X8_take lk_X2_70 dX2_readBlock_35 (recvW C hMj33 jc8 lc_1.1 lc_1.2 rfl) rfl rfl hl.1 (Nat.le_of_ble_eq_true rfl) ⟨show 2 + 1 ≤ fr + 3 by omega, show 8 + (2 + 11) + (41) ≤ lo + 100 by omega⟩ ⟨rfl, rfl⟩ ⟨Nat.zero_le _, Nat.zero_le _⟩ (fun H locs hr35 hM2 => ?_)
    refine r_if_eq C 66 hr35 dX2_readBlock_38 (by decide) (fun cq => ?_) (fun cq => ?_)
    · replace h := ifp cq h
      refine r_iconst C dX2_readBlock_66 ?_
      exact r_zreturnM C hM2 hr hlk (Or.inl rfl) h dX2_readBlock_67
    · replace h := ifn cq h
      refine r_aload_n C dX2_readBlock_41 rfl hl 0 rfl ?_
      refine r_aload_n C dX2_readBlock_42 rfl hl 1 rfl ?_
      refine r_aload_n C dX2_readBlock_43 rfl hl 2 rfl ?_
      refine r_iload C dX2_readBlock_44 hl 3 rfl ?_
      refine r_iconst C dX2_readBlock_46 ?_
      replace h := ck_some h
      obtain ⟨hc3, h⟩ := h
      refine r_iadd C dX2_readBlock_47 ?_
      replace h := bd_some h
      obtain ⟨⟨r48, M48⟩, hf48, h⟩ := h
      try dsimp only at h
      refine r_callI (As := [.ref (z + 1), .ref (z + (s3 + 1)), .int (jI (x4 + 1))]) (rest := []) C hM2 (hrc hs hs3 hc3 hf48) jy_X2_readItems lk_X2_66 dX2_readBlock_48 (recvW C hM2 jc2 (ls_17 hs).1 (ls_17 hs).2 rfl) rfl rfl hl.1 (Nat.le_of_ble_eq_true rfl) ⟨show fr + 1 ≤ fr + 3 by omega, show 8 + (5 + 11) + (lo) ≤ lo + 100 by omega⟩ ⟨rfl, rfl⟩ ⟨Nat.zero_le _, Nat.zero_le _⟩ (fun H locs hr48 hM4 => ?_)
      refine r_if_eq C 66 hr48 dX2_readBlock_51 (by decide) (fun cq => ?_) (fun cq => ?_)
      · replace h := ifp cq h
        refine r_iconst C dX2_readBlock_66 ?_
        exact r_zreturnM C hM4 hr hlk (Or.inl rfl) h dX2_readBlock_67
      · replace h := ifn cq h
        refine r_aload_n C dX2_readBlock_54 rfl hl 1 rfl ?_
        refine r_iconst C dX2_readBlock_55 ?_
        replace h := bd_some h
        obtain ⟨⟨r56, M56⟩, hf56, h⟩ := h
        try dsimp only at h
        refine r_callI (As := [.int (jI 5)]) (rest := []) C hM4 (c_X8_take l E z ⟨by decide, by decide⟩ hf56) jy_X8_take lk_X2_70 dX2_readBlock_56 (recvW C hM4 jc8 lc_1.1 lc_1.2 rfl) rfl rfl hl.1 (Nat.le_of_ble_eq_true rfl) ⟨show 2 + 1 ≤ fr + 3 by omega, show 8 + (2 + 11) + (41) ≤ lo + 100 by omega⟩ ⟨rfl, rfl⟩ ⟨Nat.zero_le _, Nat.zero_le _⟩ (fun H locs hr56 hM5 => ?_)
        refine r_if_eq C 66 hr56 dX2_readBlock_59 (by decide) (fun cq => ?_) (fun cq => ?_)
        · replace h := ifp cq h
          refine r_iconst C dX2_readBlock_66 ?_
          exact r_zreturnM C hM5 hr hlk (Or.inl rfl) h dX2_readBlock_67
        · replace h := ifn cq h
          refine r_iconst C dX2_readBlock_62 ?_
          refine r_goto C 67 dX2_readBlock_63 (by decide) ?_
          exact r_zreturnM C hM5 hr hlk (Or.inr rfl) h dX2_readBlock_67
  refine r_icmp_ne C 33 (hM1.ok _ _) ⟨by decide, by decide⟩ dX2_readBlock_18 (by decide) (fun cq => ?_) (fun cq => ?_)
  · replace h := ifn cq h
    exact hJ33 () _ _ _ h hM1 (lv_sub hl [0, 2, 3, 4] rfl)
  · replace h := ifp cq h
    refine r_iload C dX2_readBlock_21 hl 4 rfl ?_
    refine r_iconst C dX2_readBlock_23 ?_
    refine r_icmp_lt C 33 hx4 ⟨by decide, by decide⟩ dX2_readBlock_24 (by decide) (fun cq => ?_) (fun cq => ?_)
    · replace h := ifp cq h
      exact hJ33 () _ _ _ h hM1 (lv_sub hl [0, 2, 3, 4] rfl)
    · replace h := ifn cq h
      refine r_aload_n C dX2_readBlock_27 rfl hl 2 rfl ?_
      refine r_iconst C dX2_readBlock_28 ?_
      replace h := bd_some h
      obtain ⟨⟨r29, M29⟩, hf29, h⟩ := h
      try dsimp only at h
      refine r_callI (As := [.int (jI 5)]) (rest := []) C hM1 (c_X8_fail l E z ⟨by decide, by decide⟩ hf29) jy_X8_fail lk_X2_83 dX2_readBlock_29 (recvW C hM1 jc8 lc_1.1 lc_1.2 rfl) rfl rfl hl.1 (Nat.le_of_ble_eq_true rfl) ⟨show 0 + 1 ≤ fr + 3 by omega, show 8 + (2 + 11) + (0) ≤ lo + 100 by omega⟩ ⟨rfl, rfl⟩ ⟨Nat.zero_le _, Nat.zero_le _⟩ (fun H locs hr29 hM6 => ?_)
      replace h := ck_some h
      obtain ⟨hc7, h⟩ := h
      exact r_zreturnM C hM6 hr hlk hc7 h dX2_readBlock_32
set_option maxRecDepth 100000 in
set_option maxHeartbeats 4000000 in
theorem c_X2_readItem (l : Launch) (E : jE) (z : Nat) {fr lo : Nat} {rc : Nat → Nat → Int → Mem → Option (Int × Mem)} (hrc : ∀ {s : Nat} {s2 : Nat} {x3 : Int} {M M' : Mem} {r : Int}, isSt s → isSt s2 → inR x3 → rc s s2 x3 M = some (r, M') → CtI l yX2_readItems cX2_readItems 5 (some .boolean) { frames := fr, cells := 0, slots := 0, locals := lo } E z LyC [.ref (z + (s + 17)), .ref (z + 1), .ref (z + (s2 + 1)), .int (jI x3)] M r M') {s : Nat} {s2 : Nat} {x3 : Int} {M M' : Mem} {r : Int} (hs : isSt s) (hs2 : isSt s2) (hx3 : inR x3) (h : f_X2_readItem rc s s2 x3 M = some (r, M')) : CtI l yX2_readItem cX2_readItem 5 (some .boolean) { frames := fr + 9, cells := 0, slots := 0, locals := lo + 369 } E z LyC [.ref (z + (s + 17)), .ref (z + 1), .ref (z + (s2 + 1)), .int (jI x3)] M r M' := by
  refine jm (by decide +kernel) (Nat.le_of_ble_eq_true rfl) ?_
  intro p e sM m below meth c C hM0 hr hlk ls hl
  replace hl : lv_has ls 5 [(0, .ref (z + (s + 17))), (1, .ref (z + 1)), (2, .ref (z + (s2 + 1))), (3, .int (jI x3))] := hl
  unfold f_X2_readItem at h
  refine r_aload_n C dX2_readItem_0 rfl hl 1 rfl ?_
  replace h := bd_some h
  obtain ⟨r1, hf1, h⟩ := h
  refine r_callSI (As := [.ref (z + 1)]) (rest := []) C hM0 (c_X2_kindTold l E z hf1) jy_X2_kindTold lk_X2_79 dX2_readItem_1 rfl rfl hl.1 (Nat.le_of_ble_eq_true rfl) ⟨show 7 + 1 ≤ fr + 9 by omega, show 8 + (1 + 11) + (322) ≤ lo + 369 by omega⟩ ⟨rfl, rfl⟩ ⟨Nat.zero_le _, Nat.zero_le _⟩ (fun H locs hr1 hM1 => ?_)
  refine r_istore C [(4, .int (jI r1)), (0, .ref (z + (s + 17))), (1, .ref (z + 1)), (2, .ref (z + (s2 + 1))), (3, .int (jI x3))] dX2_readItem_4 hl (by decide) rfl (fun ls hl => ?_)
  refine r_iload C dX2_readItem_6 hl 0 rfl ?_
  refine r_iconst C dX2_readItem_8 ?_
  refine r_icmp_ne C 18 hr1 ⟨by decide, by decide⟩ dX2_readItem_9 (by decide) (fun cq => ?_) (fun cq => ?_)
  · replace h := ifn cq h
    refine r_aload_n C dX2_readItem_18 rfl hl 1 rfl ?_
    refine r_getI C hM1 jc2 0 rfl dX2_readItem_19 lk_X2_9 (ls_17 hs).1 (ls_17 hs).2 rfl rfl (by decide) rfl ?_
    refine r_bipush C dX2_readItem_22 rfl ?_
    refine r_icmp_lt C 33 (hM0.ok _ _) ⟨by decide, by decide⟩ dX2_readItem_24 (by decide) (fun cq => ?_) (fun cq => ?_)
    · replace h := ifp cq h
      refine r_aload_n C dX2_readItem_33 rfl hl 2 rfl ?_
      replace h := bd_some h
      obtain ⟨M34, hf34, h⟩ := h
      refine r_callV (As := []) (rest := []) C hM1 (c_X8_advance l E z hf34) jy_X8_advance lk_X2_86 dX2_readItem_34 (recvW C hM1 jc8 lc_1.1 lc_1.2 rfl) rfl rfl hl.1 (Nat.le_of_ble_eq_true rfl) ⟨show 1 + 1 ≤ fr + 9 by omega, show 8 + (2 + 11) + (20) ≤ lo + 369 by omega⟩ ⟨rfl, rfl⟩ ⟨Nat.zero_le _, Nat.zero_le _⟩ (fun H locs hM2 => ?_)
      refine r_iload C dX2_readItem_37 hl 0 rfl ?_
      by_cases cq : r1 = 0
      · replace h := ifp cq h
        refine r_table C 64 hr1 dX2_readItem_39 (by decide) (by rw [cq]; rfl) ?_
        refine r_aload_n C dX2_readItem_64 rfl hl 1 rfl ?_
        refine r_aload_n C dX2_readItem_65 rfl hl 2 rfl ?_
        refine r_aload_n C dX2_readItem_66 rfl hl 3 rfl ?_
        refine r_iload_n C dX2_readItem_67 rfl hl 4 rfl ?_
        replace h := bd_some h
        obtain ⟨⟨r68, M68⟩, hf68, h⟩ := h
        try dsimp only at h
        refine r_callI (As := [.ref (z + 1), .ref (z + (s2 + 1)), .int (jI x3)]) (rest := []) C hM2 (c_X2_readCut l E z hs hs2 hx3 hf68) jy_X2_readCut lk_X2_89 dX2_readItem_68 (recvW C hM2 jc2 (ls_17 hs).1 (ls_17 hs).2 rfl) rfl rfl hl.1 (Nat.le_of_ble_eq_true rfl) ⟨show 8 + 1 ≤ fr + 9 by omega, show 8 + (7 + 11) + (343) ≤ lo + 369 by omega⟩ ⟨rfl, rfl⟩ ⟨Nat.zero_le _, Nat.zero_le _⟩ (fun H locs hr68 hM3 => ?_)
        replace h := ck_some h
        obtain ⟨hc4, h⟩ := h
        exact r_zreturnM C hM3 hr hlk hc4 h dX2_readItem_71
      · replace h := ifn cq h
        have c39_0 := cq
        by_cases cq : r1 = 1
        · replace h := ifp cq h
          refine r_table C 72 hr1 dX2_readItem_39 (by decide) (by rw [cq]; rfl) ?_
          refine r_aload_n C dX2_readItem_72 rfl hl 1 rfl ?_
          refine r_aload_n C dX2_readItem_73 rfl hl 2 rfl ?_
          refine r_aload_n C dX2_readItem_74 rfl hl 3 rfl ?_
          refine r_iload_n C dX2_readItem_75 rfl hl 4 rfl ?_
          replace h := bd_some h
          obtain ⟨⟨r76, M76⟩, hf76, h⟩ := h
          try dsimp only at h
          refine r_callI (As := [.ref (z + 1), .ref (z + (s2 + 1)), .int (jI x3)]) (rest := []) C hM2 (c_X2_readMap l E z hs hs2 hx3 hf76) jy_X2_readMap lk_X2_92 dX2_readItem_76 (recvW C hM2 jc2 (ls_17 hs).1 (ls_17 hs).2 rfl) rfl rfl hl.1 (Nat.le_of_ble_eq_true rfl) ⟨show 3 + 1 ≤ fr + 9 by omega, show 8 + (5 + 11) + (63) ≤ lo + 369 by omega⟩ ⟨rfl, rfl⟩ ⟨Nat.zero_le _, Nat.zero_le _⟩ (fun H locs hr76 hM5 => ?_)
          replace h := ck_some h
          obtain ⟨hc6, h⟩ := h
          exact r_zreturnM C hM5 hr hlk hc6 h dX2_readItem_79
        · replace h := ifn cq h
          have c39_1 := cq
          by_cases cq : r1 = 2
          · replace h := ifp cq h
            refine r_table C 80 hr1 dX2_readItem_39 (by decide) (by rw [cq]; rfl) ?_
            refine r_aload_n C dX2_readItem_80 rfl hl 2 rfl ?_
            refine r_iconst C dX2_readItem_81 ?_
            refine r_bipush C dX2_readItem_82 rfl ?_
            replace h := bd_some h
            obtain ⟨⟨r84, M84⟩, hf84, h⟩ := h
            try dsimp only at h
            refine r_callI (As := [.int (jI 1), .int (jI 9)]) (rest := []) C hM2 (c_X8_takeNumber l E z ⟨by decide, by decide⟩ ⟨by decide, by decide⟩ hf84) jy_X8_takeNumber lk_X2_95 dX2_readItem_84 (recvW C hM2 jc8 lc_1.1 lc_1.2 rfl) rfl rfl hl.1 (Nat.le_of_ble_eq_true rfl) ⟨show 2 + 1 ≤ fr + 9 by omega, show 8 + (3 + 11) + (41) ≤ lo + 369 by omega⟩ ⟨rfl, rfl⟩ ⟨Nat.zero_le _, Nat.zero_le _⟩ (fun H locs hr84 hM7 => ?_)
            refine r_if_eq C 106 hr84 dX2_readItem_87 (by decide) (fun cq => ?_) (fun cq => ?_)
            · replace h := ifp cq h
              refine r_iconst C dX2_readItem_106 ?_
              exact r_zreturnM C hM7 hr hlk (Or.inl rfl) h dX2_readItem_107
            · replace h := ifn cq h
              refine r_aload_n C dX2_readItem_90 rfl hl 1 rfl ?_
              refine r_iload C dX2_readItem_91 hl 0 rfl ?_
              refine r_aload_n C dX2_readItem_93 rfl hl 2 rfl ?_
              refine r_aload_n C dX2_readItem_94 rfl hl 3 rfl ?_
              refine r_iload_n C dX2_readItem_95 rfl hl 4 rfl ?_
              replace h := bd_some h
              obtain ⟨⟨r96, M96⟩, hf96, h⟩ := h
              try dsimp only at h
              refine r_callI (As := [.int (jI r1), .ref (z + 1), .ref (z + (s2 + 1)), .int (jI x3)]) (rest := []) C hM7 (c_X2_readBlock l E z hrc hs hr1 hs2 hx3 hf96) jy_X2_readBlock lk_X2_99 dX2_readItem_96 (recvW C hM7 jc2 (ls_17 hs).1 (ls_17 hs).2 rfl) rfl rfl hl.1 (Nat.le_of_ble_eq_true rfl) ⟨show fr + 3 + 1 ≤ fr + 9 by omega, show 8 + (5 + 11) + (lo + 100) ≤ lo + 369 by omega⟩ ⟨rfl, rfl⟩ ⟨Nat.zero_le _, Nat.zero_le _⟩ (fun H locs hr96 hM8 => ?_)
              refine r_if_eq C 106 hr96 dX2_readItem_99 (by decide) (fun cq => ?_) (fun cq => ?_)
              · replace h := ifp cq h
                refine r_iconst C dX2_readItem_106 ?_
                exact r_zreturnM C hM8 hr hlk (Or.inl rfl) h dX2_readItem_107
              · replace h := ifn cq h
                refine r_iconst C dX2_readItem_102 ?_
                refine r_goto C 107 dX2_readItem_103 (by decide) ?_
                exact r_zreturnM C hM8 hr hlk (Or.inr rfl) h dX2_readItem_107
          · replace h := ifn cq h
            have c39_2 := cq
            have cd : jsw 39 0 2 (69) #[(25), (33), (41)] r1 = (108 : Int) := by
              have cz : (r1 < 0 ∨ 2 < r1) := by omega
              · unfold jsw; rw [if_pos cz]; rfl
            refine r_table C 108 hr1 dX2_readItem_39 (by decide) cd ?_
            refine r_aload_n C dX2_readItem_108 rfl hl 2 rfl ?_
            refine r_iconst C dX2_readItem_109 ?_
            refine r_bipush C dX2_readItem_110 rfl ?_
            replace h := bd_some h
            obtain ⟨⟨r112, M112⟩, hf112, h⟩ := h
            try dsimp only at h
            refine r_callI (As := [.int (jI 0), .int (jI 40)]) (rest := []) C hM2 (c_X8_takeNumber l E z ⟨by decide, by decide⟩ ⟨by decide, by decide⟩ hf112) jy_X8_takeNumber lk_X2_95 dX2_readItem_112 (recvW C hM2 jc8 lc_1.1 lc_1.2 rfl) rfl rfl hl.1 (Nat.le_of_ble_eq_true rfl) ⟨show 2 + 1 ≤ fr + 9 by omega, show 8 + (3 + 11) + (41) ≤ lo + 369 by omega⟩ ⟨rfl, rfl⟩ ⟨Nat.zero_le _, Nat.zero_le _⟩ (fun H locs hr112 hM9 => ?_)
            refine r_if_eq C 134 hr112 dX2_readItem_115 (by decide) (fun cq => ?_) (fun cq => ?_)
            · replace h := ifp cq h
              refine r_iconst C dX2_readItem_134 ?_
              exact r_zreturnM C hM9 hr hlk (Or.inl rfl) h dX2_readItem_135
            · replace h := ifn cq h
              refine r_aload_n C dX2_readItem_118 rfl hl 1 rfl ?_
              refine r_iload C dX2_readItem_119 hl 0 rfl ?_
              refine r_aload_n C dX2_readItem_121 rfl hl 2 rfl ?_
              refine r_aload_n C dX2_readItem_122 rfl hl 3 rfl ?_
              refine r_iload_n C dX2_readItem_123 rfl hl 4 rfl ?_
              replace h := bd_some h
              obtain ⟨⟨r124, M124⟩, hf124, h⟩ := h
              try dsimp only at h
              refine r_callI (As := [.int (jI r1), .ref (z + 1), .ref (z + (s2 + 1)), .int (jI x3)]) (rest := []) C hM9 (c_X2_readBlock l E z hrc hs hr1 hs2 hx3 hf124) jy_X2_readBlock lk_X2_99 dX2_readItem_124 (recvW C hM9 jc2 (ls_17 hs).1 (ls_17 hs).2 rfl) rfl rfl hl.1 (Nat.le_of_ble_eq_true rfl) ⟨show fr + 3 + 1 ≤ fr + 9 by omega, show 8 + (5 + 11) + (lo + 100) ≤ lo + 369 by omega⟩ ⟨rfl, rfl⟩ ⟨Nat.zero_le _, Nat.zero_le _⟩ (fun H locs hr124 hM10 => ?_)
              refine r_if_eq C 134 hr124 dX2_readItem_127 (by decide) (fun cq => ?_) (fun cq => ?_)
              · replace h := ifp cq h
                refine r_iconst C dX2_readItem_134 ?_
                exact r_zreturnM C hM10 hr hlk (Or.inl rfl) h dX2_readItem_135
              · replace h := ifn cq h
                refine r_iconst C dX2_readItem_130 ?_
                refine r_goto C 135 dX2_readItem_131 (by decide) ?_
                exact r_zreturnM C hM10 hr hlk (Or.inr rfl) h dX2_readItem_135
    · replace h := ifn cq h
      refine r_aload_n C dX2_readItem_27 rfl hl 2 rfl ?_
      refine r_iconst C dX2_readItem_28 ?_
      replace h := bd_some h
      obtain ⟨⟨r29, M29⟩, hf29, h⟩ := h
      try dsimp only at h
      refine r_callI (As := [.int (jI 4)]) (rest := []) C hM1 (c_X8_fail l E z ⟨by decide, by decide⟩ hf29) jy_X8_fail lk_X2_83 dX2_readItem_29 (recvW C hM1 jc8 lc_1.1 lc_1.2 rfl) rfl rfl hl.1 (Nat.le_of_ble_eq_true rfl) ⟨show 0 + 1 ≤ fr + 9 by omega, show 8 + (2 + 11) + (0) ≤ lo + 369 by omega⟩ ⟨rfl, rfl⟩ ⟨Nat.zero_le _, Nat.zero_le _⟩ (fun H locs hr29 hM11 => ?_)
      replace h := ck_some h
      obtain ⟨hc12, h⟩ := h
      exact r_zreturnM C hM11 hr hlk hc12 h dX2_readItem_32
  · replace h := ifp cq h
    refine r_aload_n C dX2_readItem_12 rfl hl 2 rfl ?_
    refine r_iconst C dX2_readItem_13 ?_
    replace h := bd_some h
    obtain ⟨⟨r14, M14⟩, hf14, h⟩ := h
    try dsimp only at h
    refine r_callI (As := [.int (jI 1)]) (rest := []) C hM1 (c_X8_fail l E z ⟨by decide, by decide⟩ hf14) jy_X8_fail lk_X2_83 dX2_readItem_14 (recvW C hM1 jc8 lc_1.1 lc_1.2 rfl) rfl rfl hl.1 (Nat.le_of_ble_eq_true rfl) ⟨show 0 + 1 ≤ fr + 9 by omega, show 8 + (2 + 11) + (0) ≤ lo + 369 by omega⟩ ⟨rfl, rfl⟩ ⟨Nat.zero_le _, Nat.zero_le _⟩ (fun H locs hr14 hM13 => ?_)
    replace h := ck_some h
    obtain ⟨hc14, h⟩ := h
    exact r_zreturnM C hM13 hr hlk hc14 h dX2_readItem_17
set_option maxRecDepth 100000 in
set_option maxHeartbeats 4000000 in
theorem c_X2_readItems (l : Launch) (E : jE) (z : Nat) {fr lo : Nat} {rc : Nat → Nat → Int → Mem → Option (Int × Mem)} (hrc : ∀ {s : Nat} {s2 : Nat} {x3 : Int} {M M' : Mem} {r : Int}, isSt s → isSt s2 → inR x3 → rc s s2 x3 M = some (r, M') → CtI l yX2_readItems cX2_readItems 5 (some .boolean) { frames := fr, cells := 0, slots := 0, locals := lo } E z LyC [.ref (z + (s + 17)), .ref (z + 1), .ref (z + (s2 + 1)), .int (jI x3)] M r M') {s : Nat} {s2 : Nat} {x3 : Int} {M M' : Mem} {r : Int} (hs : isSt s) (hs2 : isSt s2) (hx3 : inR x3) (h : f_X2_readItems rc s s2 x3 M = some (r, M')) : CtI l yX2_readItems cX2_readItems 5 (some .boolean) { frames := fr + 10, cells := 0, slots := 0, locals := lo + 393 } E z LyC [.ref (z + (s + 17)), .ref (z + 1), .ref (z + (s2 + 1)), .int (jI x3)] M r M' := by
  refine jm (by decide +kernel) (Nat.le_of_ble_eq_true rfl) ?_
  intro p e sM m below meth c C hM0 hr hlk ls hl
  replace hl : lv_has ls 5 [(0, .ref (z + (s + 17))), (1, .ref (z + 1)), (2, .ref (z + (s2 + 1))), (3, .int (jI x3))] := hl
  unfold f_X2_readItems at h
  refine r_iconst C dX2_readItems_0 ?_
  refine r_istore C [(4, .int (jI 0)), (0, .ref (z + (s + 17))), (1, .ref (z + 1)), (2, .ref (z + (s2 + 1))), (3, .int (jI x3))] dX2_readItems_1 hl (by decide) rfl (fun ls hl => ?_)
  have hL3 : ∀ n3 : Nat, ∀ (x4 : Int) (M : Mem), inR x4 → ∀ (H : Heap) (locs : List Loc) (ls : Array Slot), f_X2_readItems_L3 rc s s2 x3 n3  x4 M = some (r, M') → HS E z LyC M sM H locs → lv_has ls 5 [(0, .ref (z + (s + 17))), (1, .ref (z + 1)), (2, .ref (z + (s2 + 1))), (3, .int (jI x3)), (4, .int (jI x4))] → W p l e ({ frames := fr + 10, cells := 0, slots := 0, locals := lo + 393 } : Room) sM m (([.ref (z + (s + 17)), .ref (z + 1), .ref (z + (s2 + 1)), .int (jI x3)] : List Value).toArray) below meth c H locs 0 0 (MQ below (va_Qi (fun (w : Int32) (_ : Unit) => w = jI r ∧ inR r ∧ Mok LyC M') (fun _ t => va_P (eD E) vwCl (Wd (eC E) z LyC M') t.heap) (eA E)) (([.ref (z + (s + 17)), .ref (z + 1), .ref (z + (s2 + 1)), .int (jI x3)] : List Value).toArray) sM 0 0 (eA E)) (F0 m 3 ls []) := by
    intro n3
    induction n3 with
    | zero =>
      intro x4 M hx4 H locs ls h hM hl
      exact absurd h (by simp [f_X2_readItems_L3])
    | succ n3 ih3 =>
      intro x4 M hx4 H locs ls h hM hl
      rw [f_X2_readItems_L3] at h
      refine r_iload C dX2_readItems_3 hl 4 rfl ?_
      refine r_bipush C dX2_readItems_5 rfl ?_
      refine r_icmp_gt C 44 hx4 ⟨by decide, by decide⟩ dX2_readItems_7 (by decide) (fun cq => ?_) (fun cq => ?_)
      · replace h := ifp cq h
        refine r_iconst C dX2_readItems_44 ?_
        exact r_zreturnM C hM hr hlk (Or.inr rfl) h dX2_readItems_45
      · replace h := ifn cq h
        refine r_aload_n C dX2_readItems_10 rfl hl 1 rfl ?_
        refine r_getI C hM jc8 2 rfl dX2_readItems_11 lk_X2_73 lc_1.1 lc_1.2 rfl rfl (by decide) rfl ?_
        refine r_iconst C dX2_readItems_14 ?_
        refine r_icmp_ne C 44 (hM.ok _ _) ⟨by decide, by decide⟩ dX2_readItems_15 (by decide) (fun cq => ?_) (fun cq => ?_)
        · replace h := ifn cq h
          refine r_iconst C dX2_readItems_44 ?_
          exact r_zreturnM C hM hr hlk (Or.inr rfl) h dX2_readItems_45
        · replace h := ifp cq h
          refine r_aload_n C dX2_readItems_18 rfl hl 0 rfl ?_
          refine r_aload_n C dX2_readItems_19 rfl hl 1 rfl ?_
          refine r_aload_n C dX2_readItems_20 rfl hl 2 rfl ?_
          refine r_iload_n C dX2_readItems_21 rfl hl 3 rfl ?_
          replace h := bd_some h
          obtain ⟨⟨r22, M22⟩, hf22, h⟩ := h
          try dsimp only at h
          refine r_callI (As := [.ref (z + 1), .ref (z + (s2 + 1)), .int (jI x3)]) (rest := []) C hM (c_X2_readItem l E z hrc hs hs2 hx3 hf22) jy_X2_readItem lk_X2_76 dX2_readItems_22 (recvW C hM jc2 (ls_17 hs).1 (ls_17 hs).2 rfl) rfl rfl hl.1 (Nat.le_of_ble_eq_true rfl) ⟨show fr + 9 + 1 ≤ fr + 10 by omega, show 8 + (5 + 11) + (lo + 369) ≤ lo + 393 by omega⟩ ⟨rfl, rfl⟩ ⟨Nat.zero_le _, Nat.zero_le _⟩ (fun H locs hr22 hM1 => ?_)
          refine r_if_eq C 36 hr22 dX2_readItems_25 (by decide) (fun cq => ?_) (fun cq => ?_)
          · replace h := ifp cq h
            refine r_iconst C dX2_readItems_36 ?_
            exact r_zreturnM C hM1 hr hlk (Or.inl rfl) h dX2_readItems_37
          · replace h := ifn cq h
            refine r_aload_n C dX2_readItems_28 rfl hl 1 rfl ?_
            refine r_iconst C dX2_readItems_29 ?_
            replace h := bd_some h
            obtain ⟨⟨r30, M30⟩, hf30, h⟩ := h
            try dsimp only at h
            refine r_callI (As := [.int (jI 3)]) (rest := []) C hM1 (c_X8_take l E z ⟨by decide, by decide⟩ hf30) jy_X8_take lk_X2_70 dX2_readItems_30 (recvW C hM1 jc8 lc_1.1 lc_1.2 rfl) rfl rfl hl.1 (Nat.le_of_ble_eq_true rfl) ⟨show 2 + 1 ≤ fr + 10 by omega, show 8 + (2 + 11) + (41) ≤ lo + 393 by omega⟩ ⟨rfl, rfl⟩ ⟨Nat.zero_le _, Nat.zero_le _⟩ (fun H locs hr30 hM2 => ?_)
            refine r_if_ne C 38 hr30 dX2_readItems_33 (by decide) (fun cq => ?_) (fun cq => ?_)
            · replace h := ifn cq h
              replace h := ck_some h
              obtain ⟨hc3, h⟩ := h
              refine r_iinc (j := 4) (x := x4) C [(4, .int (jI (x4 + 1))), (0, .ref (z + (s + 17))), (1, .ref (z + 1)), (2, .ref (z + (s2 + 1))), (3, .int (jI x3))] dX2_readItems_38 hl rfl (by decide) rfl (fun ls hl => ?_)
              refine r_goto C 3 dX2_readItems_41 (by decide) ?_
              exact ih3 _ _ hc3 _ _ _ h hM2 (lv_sub hl [1, 2, 3, 4, 0] rfl)
            · replace h := ifp cq h
              refine r_iconst C dX2_readItems_36 ?_
              exact r_zreturnM C hM2 hr hlk (Or.inl rfl) h dX2_readItems_37
  exact hL3 jFuel _ _ ⟨by decide, by decide⟩ _ _ _ h hM0 (lv_sub hl [1, 2, 3, 4, 0] rfl)
theorem cg0_X2_readItems (l : Launch) (E : jE) (z : Nat) : ∀ n : Nat, ∀ {s : Nat} {s2 : Nat} {x3 : Int} {M M' : Mem} {r : Int}, isSt s → isSt s2 → inR x3 → g_X2_readItems n s s2 x3 M = some (r, M') → CtI l yX2_readItems cX2_readItems 5 (some .boolean) { frames := fr_X2_readItems n, cells := 0, slots := 0, locals := lo_X2_readItems n } E z LyC [.ref (z + (s + 17)), .ref (z + 1), .ref (z + (s2 + 1)), .int (jI x3)] M r M' := by
  intro n
  induction n with
  | zero => intros; rename_i h; exact nomatch h
  | succ n ih =>
    intros
    rename_i h
    exact c_X2_readItems l E z ih (by assumption) (by assumption) (by assumption) (by assumption)
theorem cg_X2_readItems (l : Launch) (E : jE) (z : Nat) : ∀ n : Nat, n = 6 → ∀ {s : Nat} {s2 : Nat} {x3 : Int} {M M' : Mem} {r : Int}, isSt s → isSt s2 → inR x3 → g_X2_readItems n s s2 x3 M = some (r, M') → CtI l yX2_readItems cX2_readItems 5 (some .boolean) { frames := 60, cells := 0, slots := 0, locals := 2358 } E z LyC [.ref (z + (s + 17)), .ref (z + 1), .ref (z + (s2 + 1)), .int (jI x3)] M r M' := by
  intro n hn
  subst hn
  exact cg0_X2_readItems l E z 6
set_option maxRecDepth 100000 in
set_option maxHeartbeats 4000000 in
theorem c_X2_readFrom (l : Launch) (E : jE) (z : Nat) {s : Nat} {s2 : Nat} {M M' : Mem} {r : Int} (hs : isSt s) (hs2 : isSt s2) (h : f_X2_readFrom s s2 M = some (r, M')) : CtI l yX2_readFrom cX2_readFrom 3 (some .boolean) { frames := 61, cells := 0, slots := 0, locals := 2382 } E z LyC [.ref (z + (s + 17)), .ref (z + 1), .ref (z + (s2 + 1))] M r M' := by
  refine jm (by decide +kernel) (Nat.le_of_ble_eq_true rfl) ?_
  intro p e sM m below meth c C hM0 hr hlk ls hl
  replace hl : lv_has ls 3 [(0, .ref (z + (s + 17))), (1, .ref (z + 1)), (2, .ref (z + (s2 + 1)))] := hl
  unfold f_X2_readFrom at h
  refine r_aload_n C dX2_readFrom_0 rfl hl 0 rfl ?_
  replace h := bd_some h
  obtain ⟨M1, hf1, h⟩ := h
  refine r_callV (As := []) (rest := []) C hM0 (c_X2_clear l E z hs hf1) jy_X2_clear lk_X2_58 dX2_readFrom_1 (recvW C hM0 jc2 (ls_17 hs).1 (ls_17 hs).2 rfl) rfl rfl hl.1 (Nat.le_of_ble_eq_true rfl) ⟨Nat.le_of_ble_eq_true rfl, Nat.le_of_ble_eq_true rfl⟩ ⟨rfl, rfl⟩ ⟨Nat.zero_le _, Nat.zero_le _⟩ (fun H locs hM1 => ?_)
  refine r_aload_n C dX2_readFrom_4 rfl hl 1 rfl ?_
  replace h := bd_some h
  obtain ⟨M5, hf5, h⟩ := h
  refine r_callV (As := []) (rest := []) C hM1 (c_X8_startReading l E z hf5) jy_X8_startReading lk_X2_61 dX2_readFrom_5 (recvW C hM1 jc8 lc_1.1 lc_1.2 rfl) rfl rfl hl.1 (Nat.le_of_ble_eq_true rfl) ⟨Nat.le_of_ble_eq_true rfl, Nat.le_of_ble_eq_true rfl⟩ ⟨rfl, rfl⟩ ⟨Nat.zero_le _, Nat.zero_le _⟩ (fun H locs hM2 => ?_)
  refine r_aload_n C dX2_readFrom_8 rfl hl 0 rfl ?_
  refine r_aload_n C dX2_readFrom_9 rfl hl 1 rfl ?_
  refine r_aload_n C dX2_readFrom_10 rfl hl 2 rfl ?_
  refine r_iconst C dX2_readFrom_11 ?_
  replace h := bd_some h
  obtain ⟨⟨r12, M12⟩, hf12, h⟩ := h
  try dsimp only at h
  refine r_callI (As := [.ref (z + 1), .ref (z + (s2 + 1)), .int (jI 0)]) (rest := []) C hM2 (cg_X2_readItems l E z 6 rfl hs hs2 ⟨by decide, by decide⟩ hf12) jy_X2_readItems lk_X2_66 dX2_readFrom_12 (recvW C hM2 jc2 (ls_17 hs).1 (ls_17 hs).2 rfl) rfl rfl hl.1 (Nat.le_of_ble_eq_true rfl) ⟨Nat.le_of_ble_eq_true rfl, Nat.le_of_ble_eq_true rfl⟩ ⟨rfl, rfl⟩ ⟨Nat.zero_le _, Nat.zero_le _⟩ (fun H locs hr12 hM3 => ?_)
  refine r_if_eq C 30 hr12 dX2_readFrom_15 (by decide) (fun cq => ?_) (fun cq => ?_)
  · replace h := ifp cq h
    refine r_iconst C dX2_readFrom_30 ?_
    exact r_zreturnM C hM3 hr hlk (Or.inl rfl) h dX2_readFrom_31
  · replace h := ifn cq h
    refine r_aload_n C dX2_readFrom_18 rfl hl 1 rfl ?_
    refine r_iconst C dX2_readFrom_19 ?_
    replace h := bd_some h
    obtain ⟨⟨r20, M20⟩, hf20, h⟩ := h
    try dsimp only at h
    refine r_callI (As := [.int (jI 0)]) (rest := []) C hM3 (c_X8_take l E z ⟨by decide, by decide⟩ hf20) jy_X8_take lk_X2_70 dX2_readFrom_20 (recvW C hM3 jc8 lc_1.1 lc_1.2 rfl) rfl rfl hl.1 (Nat.le_of_ble_eq_true rfl) ⟨Nat.le_of_ble_eq_true rfl, Nat.le_of_ble_eq_true rfl⟩ ⟨rfl, rfl⟩ ⟨Nat.zero_le _, Nat.zero_le _⟩ (fun H locs hr20 hM4 => ?_)
    refine r_if_eq C 30 hr20 dX2_readFrom_23 (by decide) (fun cq => ?_) (fun cq => ?_)
    · replace h := ifp cq h
      refine r_iconst C dX2_readFrom_30 ?_
      exact r_zreturnM C hM4 hr hlk (Or.inl rfl) h dX2_readFrom_31
    · replace h := ifn cq h
      refine r_iconst C dX2_readFrom_26 ?_
      refine r_goto C 31 dX2_readFrom_27 (by decide) ?_
      exact r_zreturnM C hM4 hr hlk (Or.inr rfl) h dX2_readFrom_31
