/-! cuts and maps of a reel read on both sides -/
theorem isW_b {M : Mem} (h : M 0 34 ≠ 0) (w : Nat) : f_X11_isWord w M = some 0 := by
  obtain ⟨m, hm⟩ : ∃ m, jFuel = m + 1 := ⟨9999999, rfl⟩
  unfold f_X11_isWord
  rw [good_0 h, Option.bind_some, if_pos rfl, hm, f_X11_isWord_L39, if_pos rfl, ck_pos (Or.inl rfl)]
theorem needs_b {M : Mem} (h : M 0 34 ≠ 0) (w : Nat) : f_X11_needs w M = some M := by
  unfold f_X11_needs
  rw [isW_b h, Option.bind_some, if_pos rfl, fails_b h, Option.bind_some, goes_b h]; rfl
theorem word_need {C M : Mem} {n a z : Nat} (h : RD C M n a z) (w : Nat) :
    (∃ C' M' : Mem, f_X8_takeWord w C = some (0, C') ∧ f_X11_needs w M = some M' ∧ badT C' M' ∧ kNC C C' ∧ kNM M M') ∨
    ∃ (C' M' : Mem) (a' z' : Nat), f_X8_takeWord w C = some (1, C') ∧ f_X11_needs w M = some M' ∧ RD C' M' n a' z' ∧ z ≤ a' ∧ kNC C C' ∧ kNM M M' := by
  obtain ⟨v, v0, p, q, _⟩ := isW_both h w
  by_cases c : v = 0
  · left
    obtain ⟨b1, b2, b3⟩ := fail_both h.2.2 h.2.1 (c := 1) (by decide)
    refine ⟨_, _, ?_, ?_, b3, kNC.fail, kNM.fail⟩
    · unfold f_X8_takeWord
      rw [p, Option.bind_some, if_pos c, b1, Option.bind_some]
      dsimp only
      rw [ck_pos (Or.inl rfl)]
    · unfold f_X11_needs
      rw [q, Option.bind_some, if_pos c, b2, Option.bind_some, goes_b b3.1]; rfl
  · right
    obtain ⟨C2, M2, a', z', e1, e2, e3, e4, e5, e6, e7⟩ := next_both h
    refine ⟨C2, M2, a', z', ?_, ?_, e4, e5, e6.N, e7.N⟩
    · unfold f_X8_takeWord
      rw [p, Option.bind_some, if_neg c, e1]; rfl
    · unfold f_X11_needs
      rw [q, Option.bind_some, if_neg c, e3]; rfl
/-- a cut or a map made, and its semicolon -/
theorem end_item {C M : Mem} {n a z q d : Nat} (rd : RD C M n a z) (ed : ED C M q d 1) (lt30 : it (eR M q) q < 30) (h5 : M 1 5 ≤ 12) {x1 x2 x3 x4 cf cl : Int} (hx : x1 = 0 ∧ (0 ≤ x2 ∧ x2 < M 1 5) ∧ 0 ≤ x3 ∧ x3 ≤ x4 ∧ x4 < M 1 (13 + 2 * x2.toNat) ∧ cf = x3 ∧ cl = x4 ∨ x1 = 1 ∧ (0 ≤ x2 ∧ x2 < M 1 6) ∧ 1 ≤ x3 ∧ x3 ≤ 400 ∧ cf = 0 ∧ cl = x3 - 1) :
    ∃ C2 : Mem, f_X2_add 29 x1 x2 cf cl (d : Int) C = some C2 ∧ ((∃ C' M' : Mem, f_X8_take 3 C2 = some (0, C') ∧ ((f_X11_makes x1 x2 x3 x4 M).bind fun M79 => (f_X11_needsSign 59 M79).bind fun M85 => some M85) = some M' ∧ badT C' M' ∧ kEC C C' ∧ kEM M M') ∨
      ∃ (C' M' : Mem) (a' z' : Nat), f_X8_take 3 C2 = some (1, C') ∧ ((f_X11_makes x1 x2 x3 x4 M).bind fun M79 => (f_X11_needsSign 59 M79).bind fun M85 => some M85) = some M' ∧ RD C' M' n a' z' ∧ ED C' M' (q + 1) d 0 ∧ a < a' ∧ it (eR M' (q + 1)) (q + 1) = it (eR M q) q + 1 ∧ kEC C C' ∧ kEM M M') := by
  have q60 := ed.q60
  obtain ⟨M2, m1, m2, m3, m4, m5, m6, m7, m8, m9⟩ := makes_R rd.2.2.1 ed.2.2.2.2.1 (by omega) x1 x2 x3 x4
  have mr : M2 1 = M 1 := m4 1 (by decide) (by decide)
  have lib : ∀ i : Nat, i < 126 → i ≠ 8 → eR M2 (q + 1) i = M 1 i := fun i hi h8 => by rw [eR_v, if_neg h8, if_neg (by omega), mr]
  have hb : x2.toNat < 12 ∨ x1 = 1 := by omega
  have ro : dp (eR M2 (q + 1)) q = (d : Int) → rowOK (eR M2 (q + 1)) q := by
    intro _
    unfold rowOK
    rw [m6, m7, m8, m9, lib 5 (by omega) (by omega), lib 6 (by omega) (by omega)]
    rcases hx with w | w
    · rw [lib (13 + 2 * x2.toNat) (by omega) (by omega)]
      exact Or.inl ⟨w.1, w.2.1, w.2.2.1, w.2.2.2.1, w.2.2.2.2.1⟩
    · exact Or.inr (Or.inl ⟨w.1, w.2.1, w.2.2.1, w.2.2.2.1⟩)
  obtain ⟨C2, c1, c2, c3, c4, c5, c6⟩ := item_more ed h5 m5 mr lt30 (by rw [m6]; omega) ro
  have ecf : rF (eR M2 (q + 1)) q = cf := by
    unfold rF
    rw [m6, m8]
    rcases hx with w | w
    · rw [if_pos w.1]; omega
    · rw [if_neg (by omega)]; omega
  have ecl : rL (eR M2 (q + 1)) q = cl := by
    unfold rL
    rw [m6, m8, m9]
    rcases hx with w | w
    · rw [if_pos w.1]; omega
    · rw [if_neg (by omega), if_pos w.1]; omega
  rw [m6, m7, ecf, ecl] at c1
  rw [m6, if_neg (by omega), Int.add_zero] at c5
  have rd2 : RD C2 M2 n a z := by
    have r := rd
    unfold RD TX Tok goodT at r ⊢
    rw [c6 1 (by decide), c6 2 (by decide), m4 22 (by decide) (by decide), m3 29 (by decide), m3 30 (by decide), m3 31 (by decide), m3 32 (by decide), m3 33 (by decide), m3 34 (by decide), m3 35 (by decide)]
    exact r
  have ed2 : ED C2 M2 (q + 1) d 0 := ⟨c2, c3, c5, ed.2.2.2.1, m2, by rw [m3 41 (by decide), ed.2.2.2.2.2.1, c4], by omega, by rw [m3 42 (by decide)]; exact ed.2.2.2.2.2.2.2⟩
  have kc : kEC C C2 := ⟨fun c _ h => c6 c h, fun j _ => by rw [c6 1 (by decide)]⟩
  have km : kEM M M2 := ⟨fun c h1 h2 => m4 c h1 h2, fun j hj => m3 j (by omega)⟩
  refine ⟨C2, c1, ?_⟩
  rw [m1, Option.bind_some]
  rcases sign_both rd2 (x := 59) (κ := 3) (Or.inl ⟨rfl, rfl⟩) with ⟨C3, M3, s1, s2, s3, s4, s5⟩ | ⟨C3, M3, a2, z2, s1, s2, s3, s4, s5, s6, s7⟩
  · exact Or.inl ⟨C3, M3, s1, by rw [s2]; rfl, s3, kc.trans s4.E, km.trans s5.E⟩
  · exact Or.inr ⟨C3, M3, a2, z2, s1, by rw [s2]; rfl, s3, ed2.eqv s6.N s7.N, by omega, by rw [eR_c (s7.1 1 (by decide)) (s7.1 23 (by decide)), c4], kc.trans s6.N.E, km.trans s7.N.E⟩
/-- what comes of an item and its semicolon -/
def IOut (C M : Mem) (n a q d : Nat) (rc : Option (Int × Mem)) (rm : Option Mem) : Prop := (∃ C' M' : Mem, (rc = some (0, C') ∨ ∃ C1 : Mem, rc = some (1, C1) ∧ f_X8_take 3 C1 = some (0, C')) ∧ rm = some M' ∧ badT C' M' ∧ kEC C C' ∧ kEM M M') ∨ ∃ (C1 C' M' : Mem) (a' z' : Nat), rc = some (1, C1) ∧ f_X8_take 3 C1 = some (1, C') ∧ rm = some M' ∧ RD C' M' n a' z' ∧ ED C' M' (q + 1) d 0 ∧ a < a' ∧ it (eR M' (q + 1)) (q + 1) = it (eR M q) q + 1 ∧ kEC C C' ∧ kEM M M'
theorem map_item {C M : Mem} {n a z q d : Nat} (rd : RD C M n a z) (ed : ED C M q d 1) (lt30 : it (eR M q) q < 30) (rl : RSl C 5 (M 1)) (wl : WFl (M 1)) : ∃ C1 : Mem, f_X8_advance C = some C1 ∧ IOut C M n a q d (f_X2_readMap 29 5 (d : Int) C1) (f_X11_readsHeld M) := by
  obtain ⟨C1, M1, a1, z1, e1, e2, _, rd1, e5, e6, e7⟩ := next_both rd
  have h5 := wl.2.2.2.2.2.1
  have h6 := wl.2.2.2.2.2.2.1
  refine ⟨C1, e1, ?_⟩
  have ed1 := ed.eqv e6.N e7.N
  have az := rd.2.1.2.1
  have az1 := rd1.2.1.2.1
  have row1 : M1 1 = M 1 := e7.1 1 (by decide)
  have cnt : C1 (5 + 1) 3 = M 1 6 := by rw [e6.1 (5 + 1) (by decide)]; exact rl.2.1
  have bad : ∀ M' : Mem, M' 0 34 ≠ 0 → ((f_X11_makes 1 0 1 0 M').bind fun M33 => (f_X11_needsSign 59 M33).bind fun M39 => some M39) = some M' := fun M' h => by
    rw [makes_b h, Option.bind_some, need_b h]; rfl
  rcases num_both rd1 (lo := 0) (hi := M 1 6 - 1) (by omega) (by omega) with ⟨C2, M2, n1, n2, n3, n4, n5⟩ | ⟨C2, M2, a2, z2, v1, n1, n2, n3, n4, rd2, n6, n7, n8⟩
  · refine Or.inl ⟨C2, M2, Or.inl ?_, ?_, n3, (e6.N.trans n4).E, (e7.N.trans n5).E⟩
    · unfold f_X2_readMap
      rw [cnt, ck_pos ⟨by omega, by omega⟩, n1, Option.bind_some]
      dsimp only
      rw [if_pos rfl]
    · unfold f_X11_readsHeld
      rw [e2, Option.bind_some, show (6 : Int).toNat = 6 from rfl, row1, ck_pos ⟨by omega, by omega⟩, n2, Option.bind_some]
      dsimp only
      rw [reads_b n3.1, Option.bind_some]
      exact bad M2 n3.1
  · have az2 := rd2.2.1.2.1
    have ed2 := ed1.eqv n7 n8
    rcases num_both rd2 (lo := 1) (hi := 400) (by omega) (by omega) with ⟨C3, M3, p1, p2, p3, p4, p5⟩ | ⟨C3, M3, a3, z3, v2, p1, p2, p3, p4, rd3, p6, p7, p8⟩
    · refine Or.inl ⟨C3, M3, Or.inl ?_, ?_, p3, ((e6.N.trans n7).trans p4).E, ((e7.N.trans n8).trans p5).E⟩
      · unfold f_X2_readMap
        rw [cnt, ck_pos ⟨by omega, by omega⟩, n1, Option.bind_some]
        dsimp only
        rw [if_neg (by decide), p1, Option.bind_some]
        dsimp only
        rw [if_pos rfl]
      · unfold f_X11_readsHeld
        rw [e2, Option.bind_some, show (6 : Int).toNat = 6 from rfl, row1, ck_pos ⟨by omega, by omega⟩, n2, Option.bind_some]
        dsimp only
        rw [p2, Option.bind_some]
        dsimp only
        rw [makes_b p3.1, Option.bind_some, need_b p3.1]; rfl
    · have ed3 := ed2.eqv p7 p8
      have kc := ((e6.N.trans n7).trans p7)
      have km := ((e7.N.trans n8).trans p8)
      have row3 : M3 1 = M 1 := km.1 1 (by decide)
      have er : eR M3 q = eR M q := eR_c row3 (km.1 23 (by decide)) q
      obtain ⟨C4, f1, f2⟩ := end_item (cf := 0) (cl := v2 - 1) (x1 := 1) (x2 := v1) (x3 := v2) (x4 := 0) rd3 ed3 (by rw [er]; exact lt30) (by rw [row3]; omega) (Or.inr ⟨rfl, by rw [row3]; omega, p4.1, p4.2, rfl, rfl⟩)
      have gC : f_X2_readMap 29 5 (d : Int) C1 = some (1, C4) := by
        unfold f_X2_readMap
        rw [cnt, ck_pos ⟨by omega, by omega⟩, n1, Option.bind_some]
        dsimp only
        rw [if_neg (by decide), p1, Option.bind_some]
        dsimp only
        rw [if_neg (by decide)]
        simp only [p3, n3]
        rw [ck_pos ⟨by omega, by omega⟩, f1, Option.bind_some]
      have gR : f_X11_readsHeld M = ((f_X11_makes 1 v1 v2 0 M3).bind fun M33 => (f_X11_needsSign 59 M33).bind fun M39 => some M39) := by
        unfold f_X11_readsHeld
        rw [e2, Option.bind_some, show (6 : Int).toNat = 6 from rfl, row1, ck_pos ⟨by omega, by omega⟩, n2, Option.bind_some]
        dsimp only
        rw [p2, Option.bind_some]
      rcases f2 with ⟨C', M', t1, t2, t3, t4, t5⟩ | ⟨C', M', a', z', t1, t2, t3, t4, t5, ti, t6, t7⟩
      · exact Or.inl ⟨C', M', Or.inr ⟨C4, gC, t1⟩, gR.trans t2, t3, kc.E.trans t4, km.E.trans t5⟩
      · have az3 := rd3.2.1.2.1
        exact Or.inr ⟨C4, C', M', a', z', gC, t1, gR.trans t2, t3, t4, by omega, by rw [ti, er], kc.E.trans t6, km.E.trans t7⟩
theorem cut_bad {M : Mem} (h : M 0 34 ≠ 0) (x1 x2 x3 x4 : Int) : ((f_X11_makes x1 x2 x3 x4 M).bind fun M79 => (f_X11_needsSign 59 M79).bind fun M85 => some M85) = some M := by
  rw [makes_b h, Option.bind_some, need_b h]; rfl
theorem cut_item {C M : Mem} {n a z q d : Nat} (rd : RD C M n a z) (ed : ED C M q d 1) (lt30 : it (eR M q) q < 30) (rl : RSl C 5 (M 1)) (wl : WFl (M 1)) : ∃ C1 : Mem, f_X8_advance C = some C1 ∧ IOut C M n a q d (f_X2_readCut 29 5 (d : Int) C1) (f_X11_readsCut M) := by
  obtain ⟨C1, M1, a1, z1, e1, e2, _, rd1, e5, e6, e7⟩ := next_both rd
  have h5 := wl.2.2.2.2.2.1
  refine ⟨C1, e1, ?_⟩
  have ed1 := ed.eqv e6.N e7.N
  have az := rd.2.1.2.1
  have az1 := rd1.2.1.2.1
  have row1 : M1 1 = M 1 := e7.1 1 (by decide)
  have cnt : C1 (5 + 1) 0 = M 1 5 := by rw [e6.1 (5 + 1) (by decide)]; exact rl.1
  rcases num_both rd1 (lo := 0) (hi := M 1 5 - 1) (by omega) (by omega) with ⟨C2, M2, n1, n2, n3, n4, n5⟩ | ⟨C2, M2, a2, z2, v1, n1, n2, n3, n4, rd2, n6, n7, n8⟩
  · refine Or.inl ⟨C2, M2, Or.inl ?_, ?_, n3, (e6.N.trans n4).E, (e7.N.trans n5).E⟩
    · unfold f_X2_readCut
      rw [cnt, ck_pos ⟨by omega, by omega⟩, n1, Option.bind_some]
      dsimp only
      rw [if_pos rfl]
    · unfold f_X11_readsCut
      rw [e2, Option.bind_some, show (5 : Int).toNat = 5 from rfl, row1, ck_pos ⟨by omega, by omega⟩, n2, Option.bind_some]
      dsimp only
      rw [good_0 n3.1, Option.bind_some, jn_eq, if_pos rfl]
      dsimp only
      rw [isW_b n3.1, Option.bind_some, jn_eq, if_pos rfl]
      exact cut_bad n3.1 _ _ _ _
  · have az2 := rd2.2.1.2.1
    have ed2 := ed1.eqv n7 n8
    have kc2 := e6.N.trans n7
    have km2 := e7.N.trans n8
    have row2' : M2 1 = M 1 := km2.1 1 (by decide)
    obtain ⟨s, rfl⟩ : ∃ s : Nat, v1 = (s : Int) := ⟨v1.toNat, by omega⟩
    have ls := wl.2.2.2.2.2.2.2.2.1 s (by omega)
    have lnC : f_X3_lengthOf 5 (s : Int) C2 = some (M 1 (13 + 2 * s)) := lenC wl (rl.eqv (fun j _ _ => kc2.1 _ (by omega))) (by omega)
    have lnR : f_X11_lengthOf (s : Int) M2 = some (M 1 (13 + 2 * s)) := by rw [len_ev (by omega), row2']
    obtain ⟨L, hL⟩ : ∃ L, L = M 1 (13 + 2 * s) := ⟨_, rfl⟩
    rw [← hL] at lnC lnR ls
    obtain ⟨w, w0, wc, wr, _⟩ := isW_both rd2 10
    have gC : ∀ R, (f_X8_isWord 10 C2).bind (fun r38 => jn (fun (x5_94 : Int) (x6_94 : Int) (M94 : Mem) => (f_X2_add 29 0 (s : Int) x5_94 x6_94 (d : Int) M94).bind fun M103 => some ((1 : Int), M103)) fun k94 => if r38 = 0 then k94 0 (L - 1) C2 else (f_X8_advance C2).bind fun M45 => (f_X8_takeNumber 0 (L - 1) M45).bind fun (r52, M52) => if r52 = 0 then some (0, M52) else (f_X8_takeWord 11 M52).bind fun (r69, M69) => if r69 = 0 then some (0, M69) else (f_X8_takeNumber (M52 1 6) (L - 1) M69).bind fun (r80, M80) => if r80 = 0 then some (0, M80) else k94 (M52 1 6) (M80 1 6) M80) = R → f_X2_readCut 29 5 (d : Int) C1 = R := by
      intro R hR
      unfold f_X2_readCut
      rw [cnt, ck_pos ⟨by omega, by omega⟩, n1, Option.bind_some]
      dsimp only
      rw [if_neg (by decide), n3, lnC, Option.bind_some, ck_pos ⟨by omega, by omega⟩]
      exact hR
    have gR : ∀ R, (f_X11_isWord 10 M2).bind (fun r43 => jn (fun (x2_74 : Int) (x3_74 : Int) (M74 : Mem) => (f_X11_makes 0 (s : Int) x2_74 x3_74 M74).bind fun M79 => (f_X11_needsSign 59 M79).bind fun M85 => some M85) fun k74 => if r43 = 0 then k74 0 (L - 1) M2 else (f_X11_scans M2).bind fun M50 => (f_X11_reads 0 (L - 1) M50).bind fun (r56, M56) => (f_X11_needs 11 M56).bind fun M64 => (f_X11_reads r56 (L - 1) M64).bind fun (r70, M70) => k74 r56 r70 M70) = R → f_X11_readsCut M = R := by
      intro R hR
      unfold f_X11_readsCut
      rw [e2, Option.bind_some, show (5 : Int).toNat = 5 from rfl, row1, ck_pos ⟨by omega, by omega⟩, n2, Option.bind_some]
      dsimp only
      rw [good_1 rd2.2.2.1, Option.bind_some, jn_eq, if_neg (by decide), lnR, Option.bind_some, ck_pos ⟨by omega, by omega⟩]
      exact hR
    by_cases c : w = 0
    · have er : eR M2 q = eR M q := eR_c row2' (km2.1 23 (by decide)) q
      obtain ⟨C4, f1, f2⟩ := end_item (cf := 0) (cl := L - 1) (x1 := 0) (x2 := (s : Int)) (x3 := 0) (x4 := L - 1) rd2 ed2 (by rw [er]; exact lt30) (by rw [row2']; omega) (Or.inl ⟨rfl, by rw [row2']; omega, by omega, by omega, by rw [row2', Int.toNat_natCast, ← hL]; omega, rfl, rfl⟩)
      have gC' : f_X2_readCut 29 5 (d : Int) C1 = some (1, C4) := gC _ (by
        rw [wc, Option.bind_some, jn_eq, if_pos c]
        dsimp only
        rw [f1, Option.bind_some])
      have gR' : f_X11_readsCut M = ((f_X11_makes 0 (s : Int) 0 (L - 1) M2).bind fun M79 => (f_X11_needsSign 59 M79).bind fun M85 => some M85) := gR _ (by
        rw [wr, Option.bind_some, jn_eq, if_pos c])
      rcases f2 with ⟨C', M', t1, t2, t3, t4, t5⟩ | ⟨C', M', a', z', t1, t2, t3, t4, t5, ti, t6, t7⟩
      · exact Or.inl ⟨C', M', Or.inr ⟨C4, gC', t1⟩, gR'.trans t2, t3, kc2.E.trans t4, km2.E.trans t5⟩
      · exact Or.inr ⟨C4, C', M', a', z', gC', t1, gR'.trans t2, t3, t4, by omega, by rw [ti, er], kc2.E.trans t6, km2.E.trans t7⟩
    · obtain ⟨C3, M3, a3, z3, g1, g2, _, rd3, g5, g6, g7⟩ := next_both rd2
      have az3 := rd3.2.1.2.1
      rcases num_both rd3 (lo := 0) (hi := L - 1) (by omega) (by omega) with ⟨C4, M4, p1, p2, p3, p4, p5⟩ | ⟨C4, M4, a4, z4, v2, p1, p2, p3, p4, rd4, p6, p7, p8⟩
      · refine Or.inl ⟨C4, M4, Or.inl (gC _ ?_), gR _ ?_, p3, ((kc2.trans g6.N).trans p4).E, ((km2.trans g7.N).trans p5).E⟩
        · rw [wc, Option.bind_some, jn_eq, if_neg c, g1, Option.bind_some, p1, Option.bind_some]
          dsimp only
          rw [if_pos rfl]
        · rw [wr, Option.bind_some, jn_eq, if_neg c, g2, Option.bind_some, p2, Option.bind_some]
          dsimp only
          rw [needs_b p3.1, Option.bind_some, reads_b p3.1, Option.bind_some]
          exact cut_bad p3.1 _ _ _ _
      · have az4 := rd4.2.1.2.1
        rcases word_need rd4 11 with ⟨C5, M5, q1, q2, q3, q4, q5⟩ | ⟨C5, M5, a5, z5, q1, q2, rd5, q6, q7, q8⟩
        · refine Or.inl ⟨C5, M5, Or.inl (gC _ ?_), gR _ ?_, q3, (((kc2.trans g6.N).trans p7).trans q4).E, (((km2.trans g7.N).trans p8).trans q5).E⟩
          · rw [wc, Option.bind_some, jn_eq, if_neg c, g1, Option.bind_some, p1, Option.bind_some]
            dsimp only
            rw [if_neg (by decide), q1, Option.bind_some]
            dsimp only
            rw [if_pos rfl]
          · rw [wr, Option.bind_some, jn_eq, if_neg c, g2, Option.bind_some, p2, Option.bind_some]
            dsimp only
            rw [q2, Option.bind_some, reads_b q3.1, Option.bind_some]
            exact cut_bad q3.1 _ _ _ _
        · have az5 := rd5.2.1.2.1
          rcases num_both rd5 (lo := v2) (hi := L - 1) (by omega) (by omega) with ⟨C6, M6, r1, r2, r3, r4, r5⟩ | ⟨C6, M6, a6, z6, v3, r1, r2, r3, r4, rd6, r6, r7, r8⟩
          · refine Or.inl ⟨C6, M6, Or.inl (gC _ ?_), gR _ ?_, r3, ((((kc2.trans g6.N).trans p7).trans q7).trans r4).E, ((((km2.trans g7.N).trans p8).trans q8).trans r5).E⟩
            · rw [wc, Option.bind_some, jn_eq, if_neg c, g1, Option.bind_some, p1, Option.bind_some]
              dsimp only
              rw [if_neg (by decide), q1, Option.bind_some]
              dsimp only
              rw [if_neg (by decide), p3, r1, Option.bind_some]
              dsimp only
              rw [if_pos rfl]
            · rw [wr, Option.bind_some, jn_eq, if_neg c, g2, Option.bind_some, p2, Option.bind_some]
              dsimp only
              rw [q2, Option.bind_some, r2, Option.bind_some]
              exact cut_bad r3.1 _ _ _ _
          · have az6 := rd6.2.1.2.1
            have kc6 := (((kc2.trans g6.N).trans p7).trans q7).trans r7
            have km6 := (((km2.trans g7.N).trans p8).trans q8).trans r8
            have row6 : M6 1 = M 1 := km6.1 1 (by decide)
            have er : eR M6 q = eR M q := eR_c row6 (km6.1 23 (by decide)) q
            have ed6 := ed.eqv kc6 km6
            obtain ⟨C7, f1, f2⟩ := end_item (cf := v2) (cl := v3) (x1 := 0) (x2 := (s : Int)) (x3 := v2) (x4 := v3) rd6 ed6 (by rw [er]; exact lt30) (by rw [row6]; omega) (Or.inl ⟨rfl, by rw [row6]; omega, by omega, by omega, by rw [row6, Int.toNat_natCast, ← hL]; omega, rfl, rfl⟩)
            have gC' : f_X2_readCut 29 5 (d : Int) C1 = some (1, C7) := gC _ (by
              rw [wc, Option.bind_some, jn_eq, if_neg c, g1, Option.bind_some, p1, Option.bind_some]
              dsimp only
              rw [if_neg (by decide), q1, Option.bind_some]
              dsimp only
              rw [if_neg (by decide), p3, r1, Option.bind_some]
              dsimp only
              rw [if_neg (by decide), r3, f1, Option.bind_some])
            have gR' : f_X11_readsCut M = ((f_X11_makes 0 (s : Int) v2 v3 M6).bind fun M79 => (f_X11_needsSign 59 M79).bind fun M85 => some M85) := gR _ (by
              rw [wr, Option.bind_some, jn_eq, if_neg c, g2, Option.bind_some, p2, Option.bind_some]
              dsimp only
              rw [q2, Option.bind_some, r2, Option.bind_some])
            rcases f2 with ⟨C', M', t1, t2, t3, t4, t5⟩ | ⟨C', M', a', z', t1, t2, t3, t4, t5, ti, t6, t7⟩
            · exact Or.inl ⟨C', M', Or.inr ⟨C7, gC', t1⟩, gR'.trans t2, t3, kc6.E.trans t4, km6.E.trans t5⟩
            · exact Or.inr ⟨C7, C', M', a', z', gC', t1, gR'.trans t2, t3, t4, by omega, by rw [ti, er], kc6.E.trans t6, km6.E.trans t7⟩
