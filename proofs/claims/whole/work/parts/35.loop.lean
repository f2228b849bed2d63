section JO
variable {p : Program} {l : Launch} {e : Env} {s : State} {m : MethodId} {args : Array Value} {below : List Frame} {meth : Method} {c : Code} {Q : State → Prop}
variable {E0 : jE} {b L zC zR zoL zoD zE : Nat} {xs : Nat → Int32}
set_option maxRecDepth 100000 in
set_option maxHeartbeats 8000000 in
theorem law_iter {Rel : Nat → Mem → Mem → Prop} (hP : PureOK Rel) (hst : l.stackTraces = false) (C : Cx E0 p c cL_law 10 s args RL m) (A : LAt E0 b L xs zC zR zoL zoD zE s) {Mc Mr : Mem} {fL : Nat → Int64} {fD : Nat → UInt64} {H : Heap} {locs : List Loc} {ls : Array Slot} {cells slots : Nat} {i : Int} {k : Nat} (hk : k < 512) (hRel : Rel k Mc Mr) (hS : LStt E0 zC zR zoL zoD zE Mc Mr fL fD s H locs) (hi : 0 ≤ i ∧ i + 3 < (L : Int)) (hL : L ≤ 2048) (hl : lv_has ls 10 [(5, .int (jI i)), (4, .ref zoD), (3, .ref zoL), (2, .ref (zR + 0)), (1, .ref (zC + 0)), (0, .ref b)]) (hc : cells + 1 ≤ 601024 ∧ slots + 6 ≤ 7293034)
    (kk : ∀ (Mc' Mr' : Mem) (H1 : Heap) (locs1 : List Loc) (ls1 : Array Slot) (fL1 : Nat → Int64) (fD1 : Nat → UInt64) (c1 s1 : Nat), Rel (k + 1) Mc' Mr' → c1 ≤ cells + 1 → s1 ≤ slots + 6 → LStt E0 zC zR zoL zoD zE Mc' Mr' fL1 fD1 s H1 locs1 → lv_has ls1 10 [(5, .int (jI i)), (4, .ref zoD), (3, .ref zoL), (2, .ref (zR + 0)), (1, .ref (zC + 0)), (0, .ref b)] → W p l e room_1 s m args below meth c H1 locs1 c1 s1 Q (F0 m 1891 ls1 [])) : W p l e room_1 s m args below meth c H locs cells slots Q (F0 m 37 ls []) := by
  have hq := hP.2 k Mc Mr hk hRel hS.2.2.2.2.2.1 hS.2.2.2.2.2.2.1 _ _ _ (jI_R (xs (i + 1).toNat)) (jI_R (xs (i + 2).toNat)) (jI_R (xs (i + 3).toNat))
  refine r_aload_n C dL_law_37 rfl hl 5 rfl ?_
  refine r_iload C dL_law_38 hl 0 rfl ?_
  refine r_sld C A hS (i := i) (v := (xs i.toNat).toInt) ⟨by omega, by omega⟩ ⟨by omega, by omega⟩ (jI_of _) dL_law_40 ?_
  refine r_bipush C dL_law_41 rfl ?_
  refine r_iand C dL_law_43 ?_
  obtain ⟨v, ev⟩ : ∃ v : Int, v = iand (xs i.toNat).toInt 63 := ⟨_, rfl⟩
  rw [← ev]
  have hv : inR v := by rw [ev]; exact iand_R _ _
  by_cases cq : v = 0
  · refine r_table C 216 hv dL_law_44 (by decide) (by rw [cq]; rfl) ?_
    obtain ⟨Mc', Mr', hs, hr⟩ := hq.1
    exact lc_appendText hst C A hS hi hL (jI_of _) (jI_R _) hl hc hs (fun H1 locs1 ls1 fL1 fD1 c1 s1 h1 h2 h3 h4 => kk Mc' Mr' H1 locs1 ls1 fL1 fD1 c1 s1 hr h1 h2 h3 h4)
  have c0 := cq
  clear cq
  by_cases cq : v = 1
  · refine r_table C 272 hv dL_law_44 (by decide) (by rw [cq]; rfl) ?_
    obtain ⟨Mc', Mr', hs, hr⟩ := hq.2.1
    exact lc_truncateText hst C A hS hi hL (jI_of _) (jI_R _) hl hc hs (fun H1 locs1 ls1 fL1 fD1 c1 s1 h1 h2 h3 h4 => kk Mc' Mr' H1 locs1 ls1 fL1 fD1 c1 s1 hr h1 h2 h3 h4)
  have c1 := cq
  clear cq
  by_cases cq : v = 2
  · refine r_table C 328 hv dL_law_44 (by decide) (by rw [cq]; rfl) ?_
    obtain ⟨Mc', Mr', hs, hr⟩ := hq.2.2.1
    exact lc_load hst C A hS hi hL hl hc hs (fun H1 locs1 ls1 fL1 fD1 c1 s1 h1 h2 h3 h4 => kk Mc' Mr' H1 locs1 ls1 fL1 fD1 c1 s1 hr h1 h2 h3 h4)
  have c2 := cq
  clear cq
  by_cases cq : v = 3
  · refine r_table C 341 hv dL_law_44 (by decide) (by rw [cq]; rfl) ?_
    obtain ⟨Mc', Mr', hs, hr⟩ := hq.2.2.2.1
    exact lc_errorCode hst C A hS hi hL hl hc hs (fun H1 locs1 ls1 fL1 fD1 c1 s1 h1 h2 h3 h4 => kk Mc' Mr' H1 locs1 ls1 fL1 fD1 c1 s1 hr h1 h2 h3 h4)
  have c3 := cq
  clear cq
  by_cases cq : v = 4
  · refine r_table C 354 hv dL_law_44 (by decide) (by rw [cq]; rfl) ?_
    obtain ⟨Mc', Mr', hs, hr⟩ := hq.2.2.2.2.1
    exact lc_errorPosition hst C A hS hi hL hl hc hs (fun H1 locs1 ls1 fL1 fD1 c1 s1 h1 h2 h3 h4 => kk Mc' Mr' H1 locs1 ls1 fL1 fD1 c1 s1 hr h1 h2 h3 h4)
  have c4 := cq
  clear cq
  by_cases cq : v = 5
  · refine r_table C 367 hv dL_law_44 (by decide) (by rw [cq]; rfl) ?_
    obtain ⟨Mc', Mr', hs, hr⟩ := hq.2.2.2.2.2.1
    exact lc_count hst C A hS hi hL (jI_of _) (jI_R _) hl hc hs (fun H1 locs1 ls1 fL1 fD1 c1 s1 h1 h2 h3 h4 => kk Mc' Mr' H1 locs1 ls1 fL1 fD1 c1 s1 hr h1 h2 h3 h4)
  have c5 := cq
  clear cq
  by_cases cq : v = 6
  · refine r_table C 423 hv dL_law_44 (by decide) (by rw [cq]; rfl) ?_
    obtain ⟨Mc', Mr', hs, hr⟩ := hq.2.2.2.2.2.2.1
    exact lc_shot hst C A hS hi hL (jI_of _) (jI_R _) (jI_of _) (jI_R _) hl hc hs (fun H1 locs1 ls1 fL1 fD1 c1 s1 h1 h2 h3 h4 => kk Mc' Mr' H1 locs1 ls1 fL1 fD1 c1 s1 hr h1 h2 h3 h4)
  have c6 := cq
  clear cq
  by_cases cq : v = 7
  · refine r_table C 491 hv dL_law_44 (by decide) (by rw [cq]; rfl) ?_
    obtain ⟨Mc', Mr', hs, hr⟩ := hq.2.2.2.2.2.2.2.1
    exact lc_map hst C A hS hi hL (jI_of _) (jI_R _) (jI_of _) (jI_R _) hl hc hs (fun H1 locs1 ls1 fL1 fD1 c1 s1 h1 h2 h3 h4 => kk Mc' Mr' H1 locs1 ls1 fL1 fD1 c1 s1 hr h1 h2 h3 h4)
  have c7 := cq
  clear cq
  by_cases cq : v = 8
  · refine r_table C 559 hv dL_law_44 (by decide) (by rw [cq]; rfl) ?_
    obtain ⟨Mc', Mr', hs, hr⟩ := hq.2.2.2.2.2.2.2.2.1
    exact lc_ban hst C A hS hi hL (jI_of _) (jI_R _) (jI_of _) (jI_R _) hl hc hs (fun H1 locs1 ls1 fL1 fD1 c1 s1 h1 h2 h3 h4 => kk Mc' Mr' H1 locs1 ls1 fL1 fD1 c1 s1 hr h1 h2 h3 h4)
  have c8 := cq
  clear cq
  by_cases cq : v = 9
  · refine r_table C 627 hv dL_law_44 (by decide) (by rw [cq]; rfl) ?_
    obtain ⟨Mc', Mr', hs, hr⟩ := hq.2.2.2.2.2.2.2.2.2.1
    exact lc_word hst C A hS hi hL (jI_of _) (jI_R _) (jI_of _) (jI_R _) hl hc hs (fun H1 locs1 ls1 fL1 fD1 c1 s1 h1 h2 h3 h4 => kk Mc' Mr' H1 locs1 ls1 fL1 fD1 c1 s1 hr h1 h2 h3 h4)
  have c9 := cq
  clear cq
  by_cases cq : v = 10
  · refine r_table C 695 hv dL_law_44 (by decide) (by rw [cq]; rfl) ?_
    obtain ⟨Mc', Mr', hs, hr⟩ := hq.2.2.2.2.2.2.2.2.2.2.1
    exact lc_piece hst C A hS hi hL (jI_of _) (jI_R _) (jI_of _) (jI_R _) hl hc hs (fun H1 locs1 ls1 fL1 fD1 c1 s1 h1 h2 h3 h4 => kk Mc' Mr' H1 locs1 ls1 fL1 fD1 c1 s1 hr h1 h2 h3 h4)
  have c10 := cq
  clear cq
  by_cases cq : v = 11
  · refine r_table C 763 hv dL_law_44 (by decide) (by rw [cq]; rfl) ?_
    obtain ⟨Mc', Mr', hs, hr⟩ := hq.2.2.2.2.2.2.2.2.2.2.2.1
    exact lc_reel hst C A hS hi hL (jI_of _) (jI_R _) hl hc hs (fun H1 locs1 ls1 fL1 fD1 c1 s1 h1 h2 h3 h4 => kk Mc' Mr' H1 locs1 ls1 fL1 fD1 c1 s1 hr h1 h2 h3 h4)
  have c11 := cq
  clear cq
  by_cases cq : v = 12
  · refine r_table C 819 hv dL_law_44 (by decide) (by rw [cq]; rfl) ?_
    obtain ⟨Mc', Mr', hs, hr⟩ := hq.2.2.2.2.2.2.2.2.2.2.2.2.1
    exact lc_screen hst C A hS hi hL (jI_of _) (jI_R _) hl hc hs (fun H1 locs1 ls1 fL1 fD1 c1 s1 h1 h2 h3 h4 => kk Mc' Mr' H1 locs1 ls1 fL1 fD1 c1 s1 hr h1 h2 h3 h4)
  have c12 := cq
  clear cq
  by_cases cq : v = 13
  · refine r_table C 844 hv dL_law_44 (by decide) (by rw [cq]; rfl) ?_
    obtain ⟨Mc', Mr', hs, hr⟩ := hq.2.2.2.2.2.2.2.2.2.2.2.2.2.1
    exact lc_spoken hst C A hS hi hL (jI_of _) (jI_R _) hl hc hs (fun H1 locs1 ls1 fL1 fD1 c1 s1 h1 h2 h3 h4 => kk Mc' Mr' H1 locs1 ls1 fL1 fD1 c1 s1 hr h1 h2 h3 h4)
  have c13 := cq
  clear cq
  by_cases cq : v = 14
  · refine r_table C 869 hv dL_law_44 (by decide) (by rw [cq]; rfl) ?_
    obtain ⟨Mc', Mr', hs, hr⟩ := hq.2.2.2.2.2.2.2.2.2.2.2.2.2.2.1
    exact lc_account hst C A hS hi hL (jI_of _) (jI_R _) hl hc hs (fun H1 locs1 ls1 fL1 fD1 c1 s1 h1 h2 h3 h4 => kk Mc' Mr' H1 locs1 ls1 fL1 fD1 c1 s1 hr h1 h2 h3 h4)
  have c14 := cq
  clear cq
  by_cases cq : v = 15
  · refine r_table C 925 hv dL_law_44 (by decide) (by rw [cq]; rfl) ?_
    obtain ⟨Mc', Mr', hs, hr⟩ := hq.2.2.2.2.2.2.2.2.2.2.2.2.2.2.2.1
    exact lc_faults hst C A hS hi hL (jI_of _) (jI_R _) hl hc hs (fun H1 locs1 ls1 fL1 fD1 c1 s1 h1 h2 h3 h4 => kk Mc' Mr' H1 locs1 ls1 fL1 fD1 c1 s1 hr h1 h2 h3 h4)
  have c15 := cq
  clear cq
  by_cases cq : v = 16
  · refine r_table C 981 hv dL_law_44 (by decide) (by rw [cq]; rfl) ?_
    obtain ⟨Mc', Mr', hs, hr⟩ := hq.2.2.2.2.2.2.2.2.2.2.2.2.2.2.2.2.1
    exact lc_fault hst C A hS hi hL (jI_of _) (jI_R _) (jI_of _) (jI_R _) hl hc hs (fun H1 locs1 ls1 fL1 fD1 c1 s1 h1 h2 h3 h4 => kk Mc' Mr' H1 locs1 ls1 fL1 fD1 c1 s1 hr h1 h2 h3 h4)
  have c16 := cq
  clear cq
  by_cases cq : v = 17
  · refine r_table C 1049 hv dL_law_44 (by decide) (by rw [cq]; rfl) ?_
    obtain ⟨Mc', Mr', hs, hr⟩ := hq.2.2.2.2.2.2.2.2.2.2.2.2.2.2.2.2.2.1
    exact lc_fits hst C A hS hi hL hl hc hs (fun H1 locs1 ls1 fL1 fD1 c1 s1 h1 h2 h3 h4 => kk Mc' Mr' H1 locs1 ls1 fL1 fD1 c1 s1 hr h1 h2 h3 h4)
  have c17 := cq
  clear cq
  by_cases cq : v = 18
  · refine r_table C 1062 hv dL_law_44 (by decide) (by rw [cq]; rfl) ?_
    obtain ⟨Mc', Mr', hs, hr⟩ := hq.2.2.2.2.2.2.2.2.2.2.2.2.2.2.2.2.2.2.1
    exact lc_share hst C A hS hi hL (jI_of _) (jI_R _) hl hc hs (fun H1 locs1 ls1 fL1 fD1 c1 s1 h1 h2 h3 h4 => kk Mc' Mr' H1 locs1 ls1 fL1 fD1 c1 s1 hr h1 h2 h3 h4)
  have c18 := cq
  clear cq
  by_cases cq : v = 19
  · refine r_table C 1139 hv dL_law_44 (by decide) (by rw [cq]; rfl) ?_
    obtain ⟨Mc', Mr', hs, hr⟩ := hq.2.2.2.2.2.2.2.2.2.2.2.2.2.2.2.2.2.2.2.1
    exact lc_pace hst C A hS hi hL hl hc hs (fun H1 locs1 ls1 fL1 fD1 c1 s1 h1 h2 h3 h4 => kk Mc' Mr' H1 locs1 ls1 fL1 fD1 c1 s1 hr h1 h2 h3 h4)
  have c19 := cq
  clear cq
  by_cases cq : v = 20
  · refine r_table C 1182 hv dL_law_44 (by decide) (by rw [cq]; rfl) ?_
    obtain ⟨Mc', Mr', hs, hr⟩ := hq.2.2.2.2.2.2.2.2.2.2.2.2.2.2.2.2.2.2.2.2.1
    exact lc_best hst C A hS hi hL (jI_of _) (jI_R _) hl hc hs (fun H1 locs1 ls1 fL1 fD1 c1 s1 h1 h2 h3 h4 => kk Mc' Mr' H1 locs1 ls1 fL1 fD1 c1 s1 hr h1 h2 h3 h4)
  have c20 := cq
  clear cq
  by_cases cq : v = 21
  · refine r_table C 1238 hv dL_law_44 (by decide) (by rw [cq]; rfl) ?_
    obtain ⟨Mc', Mr', hs, hr⟩ := hq.2.2.2.2.2.2.2.2.2.2.2.2.2.2.2.2.2.2.2.2.2.1
    exact lc_bestWeek hst C A hS hi hL hl hc hs (fun H1 locs1 ls1 fL1 fD1 c1 s1 h1 h2 h3 h4 => kk Mc' Mr' H1 locs1 ls1 fL1 fD1 c1 s1 hr h1 h2 h3 h4)
  have c21 := cq
  clear cq
  by_cases cq : v = 22
  · refine r_table C 1251 hv dL_law_44 (by decide) (by rw [cq]; rfl) ?_
    obtain ⟨Mc', Mr', hs, hr⟩ := hq.2.2.2.2.2.2.2.2.2.2.2.2.2.2.2.2.2.2.2.2.2.2.1
    exact lc_bestSpeed hst C A hS hi hL hl hc hs (fun H1 locs1 ls1 fL1 fD1 c1 s1 h1 h2 h3 h4 => kk Mc' Mr' H1 locs1 ls1 fL1 fD1 c1 s1 hr h1 h2 h3 h4)
  have c22 := cq
  clear cq
  by_cases cq : v = 23
  · refine r_table C 1264 hv dL_law_44 (by decide) (by rw [cq]; rfl) ?_
    obtain ⟨Mc', Mr', hs, hr⟩ := hq.2.2.2.2.2.2.2.2.2.2.2.2.2.2.2.2.2.2.2.2.2.2.2.1
    exact lc_edit hst C A hS hi hL hl hc hs (fun H1 locs1 ls1 fL1 fD1 c1 s1 h1 h2 h3 h4 => kk Mc' Mr' H1 locs1 ls1 fL1 fD1 c1 s1 hr h1 h2 h3 h4)
  have c23 := cq
  clear cq
  by_cases cq : v = 24
  · refine r_table C 1277 hv dL_law_44 (by decide) (by rw [cq]; rfl) ?_
    obtain ⟨Mc', Mr', hs, hr⟩ := hq.2.2.2.2.2.2.2.2.2.2.2.2.2.2.2.2.2.2.2.2.2.2.2.2.1
    exact lc_say hst C A hS hi hL hl hc hs (fun H1 locs1 ls1 fL1 fD1 c1 s1 h1 h2 h3 h4 => kk Mc' Mr' H1 locs1 ls1 fL1 fD1 c1 s1 hr h1 h2 h3 h4)
  have c24 := cq
  clear cq
  by_cases cq : v = 25
  · refine r_table C 1290 hv dL_law_44 (by decide) (by rw [cq]; rfl) ?_
    obtain ⟨Mc', Mr', hs, hr⟩ := hq.2.2.2.2.2.2.2.2.2.2.2.2.2.2.2.2.2.2.2.2.2.2.2.2.2.1
    exact lc_assemble hst C A hS hi hL hl hc hs (fun H1 locs1 ls1 fL1 fD1 c1 s1 h1 h2 h3 h4 => kk Mc' Mr' H1 locs1 ls1 fL1 fD1 c1 s1 hr h1 h2 h3 h4)
  have c25 := cq
  clear cq
  by_cases cq : v = 26
  · refine r_table C 1303 hv dL_law_44 (by decide) (by rw [cq]; rfl) ?_
    obtain ⟨Mc', Mr', hs, hr⟩ := hq.2.2.2.2.2.2.2.2.2.2.2.2.2.2.2.2.2.2.2.2.2.2.2.2.2.2.1
    exact lc_insert hst C A hS hi hL (jI_of _) (jI_R _) (jI_of _) (jI_R _) (jI_of _) (jI_R _) hl hc hs (fun H1 locs1 ls1 fL1 fD1 c1 s1 h1 h2 h3 h4 => kk Mc' Mr' H1 locs1 ls1 fL1 fD1 c1 s1 hr h1 h2 h3 h4)
  have c26 := cq
  clear cq
  by_cases cq : v = 27
  · refine r_table C 1383 hv dL_law_44 (by decide) (by rw [cq]; rfl) ?_
    obtain ⟨Mc', Mr', hs, hr⟩ := hq.2.2.2.2.2.2.2.2.2.2.2.2.2.2.2.2.2.2.2.2.2.2.2.2.2.2.2.1
    exact lc_trim hst C A hS hi hL (jI_of _) (jI_R _) (jI_of _) (jI_R _) hl hc hs (fun H1 locs1 ls1 fL1 fD1 c1 s1 h1 h2 h3 h4 => kk Mc' Mr' H1 locs1 ls1 fL1 fD1 c1 s1 hr h1 h2 h3 h4)
  have c27 := cq
  clear cq
  by_cases cq : v = 28
  · refine r_table C 1451 hv dL_law_44 (by decide) (by rw [cq]; rfl) ?_
    obtain ⟨Mc', Mr', hs, hr⟩ := hq.2.2.2.2.2.2.2.2.2.2.2.2.2.2.2.2.2.2.2.2.2.2.2.2.2.2.2.2.1
    exact lc_remove hst C A hS hi hL (jI_of _) (jI_R _) hl hc hs (fun H1 locs1 ls1 fL1 fD1 c1 s1 h1 h2 h3 h4 => kk Mc' Mr' H1 locs1 ls1 fL1 fD1 c1 s1 hr h1 h2 h3 h4)
  have c28 := cq
  clear cq
  by_cases cq : v = 29
  · refine r_table C 1507 hv dL_law_44 (by decide) (by rw [cq]; rfl) ?_
    obtain ⟨Mc', Mr', hs, hr⟩ := hq.2.2.2.2.2.2.2.2.2.2.2.2.2.2.2.2.2.2.2.2.2.2.2.2.2.2.2.2.2.1
    exact lc_move hst C A hS hi hL (jI_of _) (jI_R _) (jI_of _) (jI_R _) hl hc hs (fun H1 locs1 ls1 fL1 fD1 c1 s1 h1 h2 h3 h4 => kk Mc' Mr' H1 locs1 ls1 fL1 fD1 c1 s1 hr h1 h2 h3 h4)
  have c29 := cq
  clear cq
  by_cases cq : v = 30
  · refine r_table C 1575 hv dL_law_44 (by decide) (by rw [cq]; rfl) ?_
    obtain ⟨Mc', Mr', hs, hr⟩ := hq.2.2.2.2.2.2.2.2.2.2.2.2.2.2.2.2.2.2.2.2.2.2.2.2.2.2.2.2.2.2.1
    exact lc_setWeek hst C A hS hi hL (jI_of _) (jI_R _) hl hc hs (fun H1 locs1 ls1 fL1 fD1 c1 s1 h1 h2 h3 h4 => kk Mc' Mr' H1 locs1 ls1 fL1 fD1 c1 s1 hr h1 h2 h3 h4)
  have c30 := cq
  clear cq
  by_cases cq : v = 31
  · refine r_table C 1631 hv dL_law_44 (by decide) (by rw [cq]; rfl) ?_
    obtain ⟨Mc', Mr', hs, hr⟩ := hq.2.2.2.2.2.2.2.2.2.2.2.2.2.2.2.2.2.2.2.2.2.2.2.2.2.2.2.2.2.2.2.1
    exact lc_setVoice hst C A hS hi hL (jI_of _) (jI_R _) (jI_of _) (jI_R _) hl hc hs (fun H1 locs1 ls1 fL1 fD1 c1 s1 h1 h2 h3 h4 => kk Mc' Mr' H1 locs1 ls1 fL1 fD1 c1 s1 hr h1 h2 h3 h4)
  have c31 := cq
  clear cq
  by_cases cq : v = 32
  · refine r_table C 1699 hv dL_law_44 (by decide) (by rw [cq]; rfl) ?_
    obtain ⟨Mc', Mr', hs, hr⟩ := hq.2.2.2.2.2.2.2.2.2.2.2.2.2.2.2.2.2.2.2.2.2.2.2.2.2.2.2.2.2.2.2.2.1
    exact lc_setSlack hst C A hS hi hL (jI_of _) (jI_R _) hl hc hs (fun H1 locs1 ls1 fL1 fD1 c1 s1 h1 h2 h3 h4 => kk Mc' Mr' H1 locs1 ls1 fL1 fD1 c1 s1 hr h1 h2 h3 h4)
  have c32 := cq
  clear cq
  by_cases cq : v = 33
  · refine r_table C 1755 hv dL_law_44 (by decide) (by rw [cq]; rfl) ?_
    obtain ⟨Mc', Mr', hs, hr⟩ := hq.2.2.2.2.2.2.2.2.2.2.2.2.2.2.2.2.2.2.2.2.2.2.2.2.2.2.2.2.2.2.2.2.2.1
    exact lc_writeReel hst C A hS hi hL hl hc hs (fun H1 locs1 ls1 fL1 fD1 c1 s1 h1 h2 h3 h4 => kk Mc' Mr' H1 locs1 ls1 fL1 fD1 c1 s1 hr h1 h2 h3 h4)
  have c33 := cq
  clear cq
  by_cases cq : v = 34
  · refine r_table C 1768 hv dL_law_44 (by decide) (by rw [cq]; rfl) ?_
    obtain ⟨Mc', Mr', hs, hr⟩ := hq.2.2.2.2.2.2.2.2.2.2.2.2.2.2.2.2.2.2.2.2.2.2.2.2.2.2.2.2.2.2.2.2.2.2.1
    exact lc_writeVoice hst C A hS hi hL hl hc hs (fun H1 locs1 ls1 fL1 fD1 c1 s1 h1 h2 h3 h4 => kk Mc' Mr' H1 locs1 ls1 fL1 fD1 c1 s1 hr h1 h2 h3 h4)
  have c34 := cq
  clear cq
  by_cases cq : v = 35
  · refine r_table C 1781 hv dL_law_44 (by decide) (by rw [cq]; rfl) ?_
    obtain ⟨Mc', Mr', hs, hr⟩ := hq.2.2.2.2.2.2.2.2.2.2.2.2.2.2.2.2.2.2.2.2.2.2.2.2.2.2.2.2.2.2.2.2.2.2.2.1
    exact lc_output hst C A hS hi hL (jI_of _) (jI_R _) hl hc hs (fun H1 locs1 ls1 fL1 fD1 c1 s1 h1 h2 h3 h4 => kk Mc' Mr' H1 locs1 ls1 fL1 fD1 c1 s1 hr h1 h2 h3 h4)
  have c35 := cq
  clear cq
  by_cases cq : v = 36
  · refine r_table C 1806 hv dL_law_44 (by decide) (by rw [cq]; rfl) ?_
    obtain ⟨Mc', Mr', hs, hr⟩ := hq.2.2.2.2.2.2.2.2.2.2.2.2.2.2.2.2.2.2.2.2.2.2.2.2.2.2.2.2.2.2.2.2.2.2.2.2.1
    exact lc_undo hst C A hS hi hL hl hc hs (fun H1 locs1 ls1 fL1 fD1 c1 s1 h1 h2 h3 h4 => kk Mc' Mr' H1 locs1 ls1 fL1 fD1 c1 s1 hr h1 h2 h3 h4)
  have c36 := cq
  clear cq
  by_cases cq : v = 37
  · refine r_table C 1819 hv dL_law_44 (by decide) (by rw [cq]; rfl) ?_
    obtain ⟨Mc', Mr', hs, hr⟩ := hq.2.2.2.2.2.2.2.2.2.2.2.2.2.2.2.2.2.2.2.2.2.2.2.2.2.2.2.2.2.2.2.2.2.2.2.2.2.1
    exact lc_save hst C A hS hi hL (jI_of _) (jI_R _) hl hc hs (fun H1 locs1 ls1 fL1 fD1 c1 s1 h1 h2 h3 h4 => kk Mc' Mr' H1 locs1 ls1 fL1 fD1 c1 s1 hr h1 h2 h3 h4)
  have c37 := cq
  clear cq
  by_cases cq : v = 38
  · refine r_table C 1855 hv dL_law_44 (by decide) (by rw [cq]; rfl) ?_
    obtain ⟨Mc', Mr', hs, hr⟩ := hq.2.2.2.2.2.2.2.2.2.2.2.2.2.2.2.2.2.2.2.2.2.2.2.2.2.2.2.2.2.2.2.2.2.2.2.2.2.2
    exact lc_restore hst C A hS hi hL (jI_of _) (jI_R _) hl hc hs (fun H1 locs1 ls1 fL1 fD1 c1 s1 h1 h2 h3 h4 => kk Mc' Mr' H1 locs1 ls1 fL1 fD1 c1 s1 hr h1 h2 h3 h4)
  have c38 := cq
  clear cq
  have cd : jsw 44 0 38 (1847) #[(172), (228), (284), (297), (310), (323), (379), (447), (515), (583), (651), (719), (775), (800), (825), (881), (937), (1005), (1018), (1095), (1138), (1194), (1207), (1220), (1233), (1246), (1259), (1339), (1407), (1463), (1531), (1587), (1655), (1711), (1724), (1737), (1762), (1775), (1811)] v = (1891 : Int) := by
    have cz : v < 0 ∨ 38 < v := by omega
    unfold jsw
    rw [if_pos cz]; rfl
  refine r_table C 1891 hv dL_law_44 (by decide) cd ?_
  exact kk Mc Mr H locs ls fL fD cells slots (hP.1 k Mc Mr hRel) (by omega) (by omega) hS hl
set_option maxRecDepth 100000 in
set_option maxHeartbeats 8000000 in
theorem law_loop {Rel : Nat → Mem → Mem → Prop} (hP : PureOK Rel) (hst : l.stackTraces = false) (C : Cx E0 p c cL_law 10 s args RL m) (A : LAt E0 b L xs zC zR zoL zoD zE s) (hL : L ≤ 2048)
    (kE : ∀ (H1 : Heap) (locs1 : List Loc) (ls1 : Array Slot) (c1 s1 : Nat), c1 ≤ 601024 → s1 ≤ 7293034 → va_S (eA E0) s.heap H1 locs1 → W p l e room_1 s m args below meth c H1 locs1 c1 s1 Q (F0 m 1897 ls1 [])) :
    ∀ (r k : Nat) (Mc Mr : Mem) (fL : Nat → Int64) (fD : Nat → UInt64) (H : Heap) (locs : List Loc) (ls : Array Slot) (cells slots : Nat) (i : Int), k + r ≤ 512 → Rel k Mc Mr → LStt E0 zC zR zoL zoD zE Mc Mr fL fD s H locs → 0 ≤ i → (L : Int) ≤ i + 4 * (r : Int) → i ≤ 4096 → lv_has ls 10 [(5, .int (jI i)), (4, .ref zoD), (3, .ref zoL), (2, .ref (zR + 0)), (1, .ref (zC + 0)), (0, .ref b)] → cells + r ≤ 601024 → slots + 6 * r ≤ 7293034 → W p l e room_1 s m args below meth c H locs cells slots Q (F0 m 28 ls []) := by
  intro r
  induction r with
  | zero =>
    intro k Mc Mr fL fD H locs ls cells slots i hkr hRel hS h0 h1 h4 hl hc hs
    refine r_iload C dL_law_28 hl 0 rfl ?_
    refine r_aload_n C dL_law_30 rfl hl 5 rfl ?_
    refine va_slen C.1.1 C.1.2.1 A.1 A.2.1 (fun h => by have := (A.2.2.2.2.2.2.2.2 b).mp h; have := A.2.1; omega) hS.2.2.2.2.1 dL_law_31 ?_
    rw [show Int32.ofNat L = jI ((L : Nat) : Int) from Int32.ofInt_eq_ofNat.symm]
    refine r_iconst C dL_law_32 ?_
    refine r_isub C dL_law_33 ?_
    refine r_icmp_gt C 1897 ⟨by omega, by omega⟩ ⟨by omega, by omega⟩ dL_law_34 (by decide) (fun cq => ?_) (fun cq => absurd (show (L : Int) - 4 < i by omega) cq)
    exact kE _ _ _ _ _ (by omega) (by omega) hS.2.2.2.2.1
  | succ r ih =>
    intro k Mc Mr fL fD H locs ls cells slots i hkr hRel hS h0 h1 h4 hl hc hs
    refine r_iload C dL_law_28 hl 0 rfl ?_
    refine r_aload_n C dL_law_30 rfl hl 5 rfl ?_
    refine va_slen C.1.1 C.1.2.1 A.1 A.2.1 (fun h => by have := (A.2.2.2.2.2.2.2.2 b).mp h; have := A.2.1; omega) hS.2.2.2.2.1 dL_law_31 ?_
    rw [show Int32.ofNat L = jI ((L : Nat) : Int) from Int32.ofInt_eq_ofNat.symm]
    refine r_iconst C dL_law_32 ?_
    refine r_isub C dL_law_33 ?_
    refine r_icmp_gt C 1897 ⟨by omega, by omega⟩ ⟨by omega, by omega⟩ dL_law_34 (by decide) (fun cq => ?_) (fun cq => ?_)
    · exact kE _ _ _ _ _ (by omega) (by omega) hS.2.2.2.2.1
    · refine law_iter hP hst C A (k := k) (by omega) hRel hS ⟨h0, by omega⟩ hL hl ⟨by omega, by omega⟩ (fun Mc' Mr' H1 locs1 ls1 fL1 fD1 c1 s1 hr k1 k2 k3 k4 => ?_)
      refine r_iinc (j := 0) (x := i) C [(5, .int (jI (i + 4))), (4, .ref zoD), (3, .ref zoL), (2, .ref (zR + 0)), (1, .ref (zC + 0)), (0, .ref b)] dL_law_1891 k4 rfl (by decide) rfl (fun ls hl => ?_)
      refine r_goto C 28 dL_law_1894 (by decide) ?_
      exact ih (k + 1) Mc' Mr' fL1 fD1 H1 locs1 ls c1 s1 (i + 4) (by omega) hr k3 (by omega) (by omega) (by omega) hl (by omega) (by omega)
end JO
