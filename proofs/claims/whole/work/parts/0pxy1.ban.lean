theorem WFl_ban {g g' : Row} {c : Nat} {v1 v2 v3 : Int} (h : WFl g) (h5 : g 7 = (c : Int)) (hc : c < 10) (b1 : 0 ≤ v1 ∧ v1 ≤ 5) (b2 : 0 ≤ v2 ∧ v2 ≤ v3 ∧ v3 ≤ 99) (e5 : g' 7 = (c : Int) + 1) (e1 : g' (96 + 3 * c) = v1) (e2 : g' (97 + 3 * c) = v2) (e3 : g' (98 + 3 * c) = v3) (e : ∀ i : Nat, i ≠ 7 → i ≠ 96 + 3 * c → i ≠ 97 + 3 * c → i ≠ 98 + 3 * c → g' i = g i) : WFl g' := by
  obtain ⟨a0, a1, a2, a3, a4, a5, a6, a7, a8, a9, a10, a11⟩ := h
  unfold WFl
  rw [e5, e 0 (by omega) (by omega) (by omega) (by omega), e 1 (by omega) (by omega) (by omega) (by omega), e 2 (by omega) (by omega) (by omega) (by omega), e 3 (by omega) (by omega) (by omega) (by omega), e 4 (by omega) (by omega) (by omega) (by omega), e 6 (by omega) (by omega) (by omega) (by omega), e 5 (by omega) (by omega) (by omega) (by omega)]
  refine ⟨a0, a1, a2, a3, a4, a5, a6, by omega, fun i hi => ?_, fun i hi => ?_, fun i hi => ?_, fun i j h1 h2 h3 => a11 i j h1 h2 ?_⟩
  · rw [e _ (by omega) (by omega) (by omega) (by omega), e _ (by omega) (by omega) (by omega) (by omega)]; exact a8 i hi
  · have q := a9 i hi
    rw [e (36 + 10 * i) (by omega) (by omega) (by omega) (by omega)]
    refine ⟨q.1, fun t ht => ?_⟩
    rw [e _ (by omega) (by omega) (by omega) (by omega)]; exact q.2 t ht
  · by_cases z : i = c
    · rw [z, e1, e2, e3]; exact ⟨b1, b2⟩
    · rw [e (96 + 3 * i) (by omega) (by omega) (by omega) (by omega), e (97 + 3 * i) (by omega) (by omega) (by omega) (by omega), e (98 + 3 * i) (by omega) (by omega) (by omega) (by omega)]; exact a10 i (by omega)
  · have q := (a9 i (by omega)).1
    unfold nmSame at h3 ⊢
    rw [e (36 + 10 * i) (by omega) (by omega) (by omega) (by omega), e (36 + 10 * j) (by omega) (by omega) (by omega) (by omega)] at h3
    refine ⟨h3.1, fun t ht => ?_⟩
    have := h3.2 t ht
    rw [e _ (by omega) (by omega) (by omega) (by omega), e _ (by omega) (by omega) (by omega) (by omega)] at this; exact this
theorem RSl_ban {C C' : Mem} {g g' : Row} {c : Nat} {v1 v2 v3 : Int} (r : RSl C 29 g) (h : WFl g) (h5 : g 7 = (c : Int)) (hc : c < 10) (e5 : g' 7 = (c : Int) + 1) (e1 : g' (96 + 3 * c) = v1) (e2 : g' (97 + 3 * c) = v2) (e3 : g' (98 + 3 * c) = v3) (e : ∀ i : Nat, i ≠ 7 → i ≠ 96 + 3 * c → i ≠ 97 + 3 * c → i ≠ 98 + 3 * c → g' i = g i) (k0 : C' 30 6 = (c : Int) + 1) (k3 : ∀ j : Nat, j ≠ 6 → C' 30 j = C 30 j) (k35 : ∀ j : Nat, C' 35 j = if j = c then v1 else C 35 j) (k36 : ∀ j : Nat, C' 36 j = if j = c then v2 else C 36 j) (k37 : ∀ j : Nat, C' 37 j = if j = c then v3 else C 37 j) (kr : ∀ b : Nat, b = 31 ∨ b = 32 ∨ b = 33 ∨ b = 34 ∨ b = 38 → C' b = C b) : RSl C' 29 g' := by
  obtain ⟨a1, a2, a3, a4, a5, a6, a7⟩ := r
  have h5' := h.2.2.2.2.2.1
  have h6 := h.2.2.2.2.2.2.1
  refine ⟨?_, ?_, by rw [e5]; exact k0, fun i hi => ?_, fun i hi => ?_, fun i hi => ?_, fun i hi => ?_⟩
  · rw [e 5 (by omega) (by omega) (by omega) (by omega), show (29 + 1 : Nat) = 30 from rfl, k3 0 (by decide)]; exact a1
  · rw [e 6 (by omega) (by omega) (by omega) (by omega), show (29 + 1 : Nat) = 30 from rfl, k3 3 (by decide)]; exact a2
  · rw [e 5 (by omega) (by omega) (by omega) (by omega)] at hi
    rw [kr (29 + 2) (by decide), kr (29 + 3) (by decide), e _ (by omega) (by omega) (by omega) (by omega), e _ (by omega) (by omega) (by omega) (by omega)]; exact a4 i hi
  · rw [e 6 (by omega) (by omega) (by omega) (by omega)] at hi
    have q := (h.2.2.2.2.2.2.2.2.2.1 i hi).1
    rw [kr (29 + 4) (by decide), kr (29 + 5) (by decide), e (36 + 10 * i) (by omega) (by omega) (by omega) (by omega)]
    refine ⟨(a5 i hi).1, fun u hu => ?_⟩
    rw [e _ (by omega) (by omega) (by omega) (by omega)]; exact (a5 i hi).2 u hu
  · rw [show (29 + 6 : Nat) = 35 from rfl, show (29 + 7 : Nat) = 36 from rfl, show (29 + 8 : Nat) = 37 from rfl, k35, k36, k37]
    by_cases z : i = c
    · rw [if_pos z, if_pos z, if_pos z, z, e1, e2, e3]; exact ⟨rfl, rfl, rfl⟩
    · rw [if_neg z, if_neg z, if_neg z, e (96 + 3 * i) (by omega) (by omega) (by omega) (by omega), e (97 + 3 * i) (by omega) (by omega) (by omega) (by omega), e (98 + 3 * i) (by omega) (by omega) (by omega) (by omega)]; exact a6 i (by omega)
  · rw [kr (29 + 9) (by decide), e i (by omega) (by omega) (by omega) (by omega)]; exact a7 i hi
theorem ban_both {C0 M0 C M : Mem} {n a z : Nat} (h : LSt C0 M0 C M n a z) : Out C0 M0 n z (f_X3_readBan 29 C) (f_X11_readsBan M) := by
  obtain ⟨rd, ⟨⟨rl, wl⟩, ⟨fl, fl1, fl2, fl3⟩, z8, z9, z10⟩, kc, km⟩ := h
  have h7 := wl.2.2.2.2.2.2.2.1
  obtain ⟨c, hc⟩ : ∃ c : Nat, M 1 7 = (c : Int) := ⟨(M 1 7).toNat, by omega⟩
  have c30 : C (29 + 1) 6 = (c : Int) := by rw [rl.2.2.1, hc]
  by_cases c10 : c = 10
  · obtain ⟨b1, b2, b3⟩ := fail_both rd.2.2 rd.2.1 (c := 4) (by decide)
    refine Or.inl ⟨_, _, ?_, ?_, b3, kc.trans kNC.fail.L, km.trans kNM.fail.L⟩
    · unfold f_X3_readBan
      rw [c30, if_neg (by omega), b1, Option.bind_some]
      dsimp only
      rw [ck_pos (Or.inl rfl)]
    · unfold f_X11_readsBan
      rw [jn_eq, show (7 : Int).toNat = 7 from rfl, if_pos (by omega), b2, Option.bind_some]
      dsimp only
      rw [goes_b b3.1, Option.bind_some, reads_b b3.1, Option.bind_some]
      dsimp only
      rw [reads_b b3.1, Option.bind_some]
      dsimp only
      rw [reads_b b3.1, Option.bind_some]
      dsimp only
      rw [good_0 b3.1, Option.bind_some, if_pos rfl]
  · obtain ⟨C1, M1, a1, z1, e1, _, e3, rd1, e5, e6, e7⟩ := next_both rd
    have gC : f_X3_readBan 29 C = (f_X8_takeNumber 0 5 C1).bind fun (r22, M22) => if r22 = 0 then some ((0 : Int), M22) else ck ((0 : Int) ≤ (M22 (29 + 1) 6) ∧ (M22 (29 + 1) 6) < 10) <| lt (upm M22 (29 + 6) (M22 (29 + 1) 6).toNat (M22 1 6)) fun N5 => (f_X8_takeNumber 0 99 N5).bind fun (r47, M47) => if r47 = 0 then some ((0 : Int), M47) else ck ((0 : Int) ≤ (M47 (29 + 1) 6) ∧ (M47 (29 + 1) 6) < 10) <| lt (upm M47 (29 + 7) (M47 (29 + 1) 6).toNat (M47 1 6)) fun N9 => (f_X8_takeNumber (N9 (29 + 7) (M47 (29 + 1) 6).toNat) 99 N9).bind fun (r80, M80) => if r80 = 0 then some ((0 : Int), M80) else ck ((0 : Int) ≤ (M80 (29 + 1) 6) ∧ (M80 (29 + 1) 6) < 10) <| lt (upm M80 (29 + 8) (M80 (29 + 1) 6).toNat (M80 1 6)) fun N13 => ck (inR ((M80 (29 + 1) 6) + 1)) <| lt (upm N13 (29 + 1) 6 ((M80 (29 + 1) 6) + 1)) fun N16 => some ((1 : Int), N16) := by
      unfold f_X3_readBan
      rw [c30, if_pos (by omega), e1, Option.bind_some]
    have gR : ∀ R : Option Mem, ((f_X11_reads 0 5 M1).bind fun (r24, M24) => (f_X11_reads 0 99 M24).bind fun (r32, M32) => (f_X11_reads r32 99 M32).bind fun (r40, M40) => (f_X11_isGood M40).bind fun r45 => if r45 = 0 then some M40 else ck (inR (3 * (M40 1 7))) <| ck (inR (96 + (3 * (M40 1 7)))) <| ck ((0 : Int) ≤ (96 + (3 * (M40 1 7))) ∧ (96 + (3 * (M40 1 7))) < 1062) <| lt (upm M40 1 (96 + (3 * (M40 1 7))).toNat r24) fun N10 => ck (inR ((96 + (3 * (M40 1 7))) + 1)) <| ck ((0 : Int) ≤ ((96 + (3 * (M40 1 7))) + 1) ∧ ((96 + (3 * (M40 1 7))) + 1) < 1062) <| lt (upm N10 1 ((96 + (3 * (M40 1 7))) + 1).toNat r32) fun N14 => ck (inR ((96 + (3 * (M40 1 7))) + 2)) <| ck ((0 : Int) ≤ ((96 + (3 * (M40 1 7))) + 2) ∧ ((96 + (3 * (M40 1 7))) + 2) < 1062) <| lt (upm N14 1 ((96 + (3 * (M40 1 7))) + 2).toNat r40) fun N18 => ck (inR ((N18 1 7) + 1)) <| lt (upm N18 1 7 ((N18 1 7) + 1)) fun N21 => some N21) = R → f_X11_readsBan M = R := by
      intro R hR
      unfold f_X11_readsBan
      rw [jn_eq, show (7 : Int).toNat = 7 from rfl, if_neg (by omega)]
      dsimp only
      rw [e3, Option.bind_some]
      exact hR
    rcases num_both rd1 (lo := 0) (hi := 5) (by omega) (by omega) with ⟨C2, M2, n1, n2, n3, n4, n5⟩ | ⟨C2, M2, a2, z2, v1, n1, n2, n3, n4, rd2, n6, n7, n8⟩
    · refine Or.inl ⟨C2, M2, ?_, ?_, n3, kc.trans (e6.N.trans n4).L, km.trans (e7.N.trans n5).L⟩
      · rw [gC, n1, Option.bind_some]
        dsimp only
        rw [if_pos rfl]
      · refine gR _ ?_
        rw [n2, Option.bind_some]
        dsimp only
        rw [reads_b n3.1, Option.bind_some]
        dsimp only
        rw [reads_b n3.1, Option.bind_some]
        dsimp only
        rw [good_0 n3.1, Option.bind_some, if_pos rfl]
    · have kc2 := e6.N.trans n7
      have km2 := e7.N.trans n8
      have c30' : C2 (29 + 1) 6 = (c : Int) := by rw [kc2.1 (29 + 1) (by decide)]; exact c30
      obtain ⟨C3, hC3⟩ : ∃ C3 : Mem, C3 = upm C2 35 c v1 := ⟨_, rfl⟩
      have rd3 : RD C3 M2 n a2 z2 := rd2.eqv (by rw [hC3, upm_ne (by decide)]) (by rw [hC3, upm_ne (by decide)]) (fun _ _ => rfl) rfl
      have kc3 : kLC C C3 := kc2.L.trans (by rw [hC3]; exact kLC.up (by omega))
      rcases num_both rd3 (lo := 0) (hi := 99) (by omega) (by omega) with ⟨C4, M4, p1, p2, p3, p4, p5⟩ | ⟨C4, M4, a4, z4, v2, p1, p2, p3, p4, rd4, p6, p7, p8⟩
      · refine Or.inl ⟨C4, M4, ?_, ?_, p3, kc.trans (kc3.trans p4.L), km.trans (km2.trans p5).L⟩
        · rw [gC, n1, Option.bind_some]
          dsimp only
          rw [if_neg (by decide)]
          simp only [c30']
          rw [ck_pos ⟨by omega, by omega⟩, Int.toNat_natCast, n3, lt_eq, show (29 + 6 : Nat) = 35 from rfl, ← hC3, p1, Option.bind_some]
          dsimp only
          rw [if_pos rfl]
        · refine gR _ ?_
          rw [n2, Option.bind_some]
          dsimp only
          rw [p2, Option.bind_some]
          dsimp only
          rw [reads_b p3.1, Option.bind_some]
          dsimp only
          rw [good_0 p3.1, Option.bind_some, if_pos rfl]
      · have c30'' : C4 (29 + 1) 6 = (c : Int) := by rw [p7.1 (29 + 1) (by decide), hC3, upm_ne (by decide)]; exact c30'
        obtain ⟨C5, hC5⟩ : ∃ C5 : Mem, C5 = upm C4 36 c v2 := ⟨_, rfl⟩
        have rd5 : RD C5 M4 n a4 z4 := rd4.eqv (by rw [hC5, upm_ne (by decide)]) (by rw [hC5, upm_ne (by decide)]) (fun _ _ => rfl) rfl
        have kc5 : kLC C C5 := (kc3.trans p7.L).trans (by rw [hC5]; exact kLC.up (by omega))
        have v25 : C5 (29 + 7) c = v2 := by rw [hC5]; exact upm_hit
        have pre : ∀ R, (f_X8_takeNumber v2 99 C5).bind (fun (r80, M80) => if r80 = 0 then some ((0 : Int), M80) else ck ((0 : Int) ≤ (M80 (29 + 1) 6) ∧ (M80 (29 + 1) 6) < 10) <| lt (upm M80 (29 + 8) (M80 (29 + 1) 6).toNat (M80 1 6)) fun N13 => ck (inR ((M80 (29 + 1) 6) + 1)) <| lt (upm N13 (29 + 1) 6 ((M80 (29 + 1) 6) + 1)) fun N16 => some ((1 : Int), N16)) = R → f_X3_readBan 29 C = R := by
          intro R hR
          rw [gC, n1, Option.bind_some]
          dsimp only
          rw [if_neg (by decide)]
          simp only [c30']
          rw [ck_pos ⟨by omega, by omega⟩, Int.toNat_natCast, n3, lt_eq, show (29 + 6 : Nat) = 35 from rfl, ← hC3, p1, Option.bind_some]
          dsimp only
          rw [if_neg (by decide)]
          simp only [c30'']
          rw [ck_pos ⟨by omega, by omega⟩, Int.toNat_natCast, p3, lt_eq, show (29 + 7 : Nat) = 36 from rfl, ← hC5, show C5 36 c = v2 from v25]
          exact hR
        rcases num_both rd5 (lo := v2) (hi := 99) (by omega) (by omega) with ⟨C6, M6, q1, q2, q3, q4, q5⟩ | ⟨C6, M6, a6, z6, v3, q1, q2, q3, q4, rd6, q6, q7, q8⟩
        · refine Or.inl ⟨C6, M6, ?_, ?_, q3, kc.trans (kc5.trans q4.L), km.trans ((km2.trans p8).trans q5).L⟩
          · refine pre _ ?_
            rw [q1, Option.bind_some]
            dsimp only
            rw [if_pos rfl]
          · refine gR _ ?_
            rw [n2, Option.bind_some]
            dsimp only
            rw [p2, Option.bind_some]
            dsimp only
            rw [q2, Option.bind_some]
            dsimp only
            rw [good_0 q3.1, Option.bind_some, if_pos rfl]
        · have c30b : C6 (29 + 1) 6 = (c : Int) := by rw [q7.1 (29 + 1) (by decide), hC5, upm_ne (by decide)]; exact c30''
          have row : M6 1 = M 1 := by rw [q8.1 1 (by decide), p8.1 1 (by decide), km2.1 1 (by decide)]
          obtain ⟨C7, hC7⟩ : ∃ C7 : Mem, C7 = upm (upm C6 37 c v3) 30 6 ((c : Int) + 1) := ⟨_, rfl⟩
          obtain ⟨M7, hM7⟩ : ∃ M7 : Mem, M7 = upm (upm (upm (upm M6 1 (96 + 3 * c) v1) 1 (97 + 3 * c) v2) 1 (98 + 3 * c) v3) 1 7 ((c : Int) + 1) := ⟨_, rfl⟩
          have fC : ∀ b : Nat, b ≠ 1 → b ≠ 30 → b ≠ 35 → b ≠ 36 → b ≠ 37 → C7 b = C b := fun b b1 b2 b3 b4 b5 => by rw [hC7, upm_ne b2, upm_ne b5, q7.1 b b1, hC5, upm_ne b4, p7.1 b b1, hC3, upm_ne b3, kc2.1 b b1]
          have g7 : M7 1 7 = (c : Int) + 1 := by rw [hM7, upm_hit]
          have g96 : M7 1 (96 + 3 * c) = v1 := by rw [hM7, upm_sl (by omega), upm_sl (by omega), upm_sl (by omega), upm_hit]
          have g97 : M7 1 (97 + 3 * c) = v2 := by rw [hM7, upm_sl (by omega), upm_sl (by omega), upm_hit]
          have g98 : M7 1 (98 + 3 * c) = v3 := by rw [hM7, upm_sl (by omega), upm_hit]
          have ge : ∀ i : Nat, i ≠ 7 → i ≠ 96 + 3 * c → i ≠ 97 + 3 * c → i ≠ 98 + 3 * c → M7 1 i = M 1 i := fun i i1 i2 i3 i4 => by rw [hM7, upm_sl i1, upm_sl i4, upm_sl i3, upm_sl i2, row]
          have m70 : M7 0 = M6 0 := by rw [hM7, upm_ne (by decide), upm_ne (by decide), upm_ne (by decide), upm_ne (by decide)]
          have rd7 : RD C7 M7 n a6 z6 := rd6.eqv (by rw [hC7, upm_ne (by decide), upm_ne (by decide)]) (by rw [hC7, upm_ne (by decide), upm_ne (by decide)]) (fun j _ => by rw [m70]) (by rw [hM7, upm_ne (by decide), upm_ne (by decide), upm_ne (by decide), upm_ne (by decide)])
          refine Or.inr ⟨C7, M7, a6, z6, ?_, ?_, ⟨rd7, ⟨⟨?_, ?_⟩, ⟨fl, fl1, ?_, fun i hi => by rw [fC 39 (by decide) (by decide) (by decide) (by decide) (by decide)]; exact fl3 i hi⟩, by rw [ge 8 (by omega) (by omega) (by omega) (by omega)]; exact z8, by rw [ge 9 (by omega) (by omega) (by omega) (by omega)]; exact z9, by rw [ge 10 (by omega) (by omega) (by omega) (by omega)]; exact z10⟩, kc.trans (kc5.trans (q7.L.trans ?_)), km.trans (((km2.trans p8).trans q8).L.trans ?_)⟩, by have := rd1.2.1.2.1; have := rd2.2.1.2.1; have := rd4.2.1.2.1; omega⟩
          · refine pre _ ?_
            rw [q1, Option.bind_some]
            dsimp only
            rw [if_neg (by decide)]
            simp only [c30b]
            rw [ck_pos ⟨by omega, by omega⟩, Int.toNat_natCast, q3, lt_eq, ck_pos ⟨by omega, by omega⟩, lt_eq, hC7]
          · refine gR _ ?_
            rw [n2, Option.bind_some]
            dsimp only
            rw [p2, Option.bind_some]
            dsimp only
            rw [q2, Option.bind_some]
            dsimp only
            have r5 : M6 1 7 = (c : Int) := by rw [row]; exact hc
            have r7 : (upm (upm (upm M6 1 (96 + 3 * c) v1) 1 (97 + 3 * c) v2) 1 (98 + 3 * c) v3) 1 7 = (c : Int) := by rw [upm_sl (by omega), upm_sl (by omega), upm_sl (by omega)]; exact r5
            rw [good_1 rd6.2.2.1, Option.bind_some, if_neg (by decide)]
            simp only [r5]
            rw [ck_pos ⟨by omega, by omega⟩, ck_pos ⟨by omega, by omega⟩, ck_pos ⟨by omega, by omega⟩, show (96 + 3 * (c : Int)).toNat = 96 + 3 * c by omega, lt_eq, ck_pos ⟨by omega, by omega⟩, ck_pos ⟨by omega, by omega⟩, show (96 + 3 * (c : Int) + 1).toNat = 97 + 3 * c by omega, lt_eq, ck_pos ⟨by omega, by omega⟩, ck_pos ⟨by omega, by omega⟩, show (96 + 3 * (c : Int) + 2).toNat = 98 + 3 * c by omega, lt_eq]
            simp only [r7]
            rw [ck_pos ⟨by omega, by omega⟩, lt_eq, hM7]
          · refine RSl_ban rl wl hc (by omega) g7 g96 g97 g98 ge (by rw [hC7, upm_hit]) (fun j hj => ?_) (fun j => ?_) (fun j => ?_) (fun j => ?_) (fun b hb => fC b (by omega) (by omega) (by omega) (by omega) (by omega))
            · rw [hC7, upm_sl hj, upm_ne (by decide), q7.1 30 (by decide), hC5, upm_ne (by decide), p7.1 30 (by decide), hC3, upm_ne (by decide), kc2.1 30 (by decide)]
            · rw [hC7, upm_ne (by decide), upm_ne (by decide), q7.1 35 (by decide), hC5, upm_ne (by decide), p7.1 35 (by decide), hC3, upm_row, updr_ap, kc2.1 35 (by decide)]
            · rw [hC7, upm_ne (by decide), upm_ne (by decide), q7.1 36 (by decide), hC5, upm_row, updr_ap, p7.1 36 (by decide), hC3, upm_ne (by decide), kc2.1 36 (by decide)]
            · rw [hC7, upm_ne (by decide), upm_row, updr_ap, q7.1 37 (by decide), hC5, upm_ne (by decide), p7.1 37 (by decide), hC3, upm_ne (by decide), kc2.1 37 (by decide)]
          · exact WFl_ban wl hc (by omega) n4 (by omega) g7 g96 g97 g98 ge
          · rw [m70, q8.2 38 (by omega), p8.2 38 (by omega), km2.2 38 (by omega)]; exact fl2
          · rw [hC7]; exact (kLC.up (by omega)).trans (kLC.up (by omega))
          · rw [hM7]; exact (((kLM.up (by omega)).trans (kLM.up (by omega))).trans (kLM.up (by omega))).trans (kLM.up (by omega))
/-! settings told -/
theorem flg : ∀ f : Nat, f < 32 → ∀ i : Nat, i < 5 → ior (f : Int) (ishl 1 (i : Int)) = ((f ||| 2 ^ i : Nat) : Int) ∧ (f ||| 2 ^ i) < 32 ∧ ∀ j : Nat, j < 5 → (f ||| 2 ^ i) / 2 ^ j % 2 = if j = i then 1 else f / 2 ^ j % 2 := by decide +kernel
theorem val_both {C0 M0 C M : Mem} {n a z i : Nat} (h : LSt C0 M0 C M n a z) (hi : i < 5) {lo hh : Int} (h1 : (jTab 1).getD i 0 = lo) (h2 : (jTab 2).getD i 0 = hh) (hl : 0 ≤ lo) (hb : hh < 100000) (hw : ∀ v : Int, lo ≤ v → v ≤ hh → WFs (updr (M 1) i v)) : Out C0 M0 n z (f_X3_readSetting 29 (i : Int) C) (f_X11_readsValue (i : Int) lo hh M) := by
  obtain ⟨rd, ⟨⟨rl, wl⟩, ⟨fl, fl1, fl2, fl3⟩, z8, z9, z10⟩, kc, km⟩ := h
  have bj := bit_j (m := fl) (j := i) (by omega) (by omega)
  have cf := fl3 i hi
  obtain ⟨g1, g2, g3⟩ := flg fl fl1 i hi
  have b1 : bar1 1 = 1 := by decide
  by_cases told : fl / 2 ^ i % 2 = 1
  · obtain ⟨x1, x2, x3⟩ := fail_both rd.2.2 rd.2.1 (c := 3) (by decide)
    obtain ⟨M1, hM1⟩ : ∃ M1 : Mem, M1 = upm (upm M 0 34 3) 0 35 (M 0 31) := ⟨_, rfl⟩
    rw [← hM1] at x2 x3
    obtain ⟨M2, hM2⟩ : ∃ M2 : Mem, M2 = upm M1 0 38 (ior (M1 0 38) (ishl 1 (i : Int))) := ⟨_, rfl⟩
    have b2 : M2 0 34 ≠ 0 := by rw [hM2, upm_sl (by decide)]; exact x3.1
    refine Or.inl ⟨upm (upm C 1 7 3) 1 8 (C 1 3), upm M2 1 i lo, ?_, ?_, ⟨?_, ?_, ?_⟩, kc.trans kNC.fail.L, km.trans ((show kLM M M1 by rw [hM1]; exact kNM.fail.L).trans ((show kLM M1 M2 from ⟨fun c c1 _ => by rw [hM2, upm_ne c1], fun j hj => by rw [hM2, upm_sl (by omega)], fun q _ => by rw [hM2, upm_ne (by decide)]⟩).trans (kLM.up (by omega))))⟩
    · unfold f_X3_readSetting
      rw [ck_pos ⟨by omega, by omega⟩, Int.toNat_natCast, show C (29 + 10) i = ((fl / 2 ^ i % 2 : Nat) : Int) from cf, if_neg (by omega), x1, Option.bind_some]
      dsimp only
      rw [ck_pos (Or.inl rfl)]
    · unfold f_X11_readsValue
      rw [jn_eq, fl2, bj, if_pos (by omega), x2, Option.bind_some]
      dsimp only
      rw [lt_eq, ← hM2, goes_b b2, Option.bind_some, reads_b b2, Option.bind_some]
      dsimp only
      rw [ck_pos ⟨by omega, by omega⟩, lt_eq, Int.toNat_natCast]
    · rw [upm_ne (by decide)]; exact b2
    · rw [upm_ne (b := 0) (by decide), hM2, upm_sl (by decide)]; exact x3.2.1
    · have q35 : M2 0 35 = M1 0 35 := by rw [hM2, upm_sl (by decide)]
      rw [upm_ne (b := 0) (by decide), q35]; exact x3.2.2
  · have t0 : fl / 2 ^ i % 2 = 0 := by omega
    obtain ⟨C1, hC1⟩ : ∃ C1 : Mem, C1 = upm C 39 i 1 := ⟨_, rfl⟩
    obtain ⟨M1, hM1⟩ : ∃ M1 : Mem, M1 = upm M 0 38 ((fl ||| 2 ^ i : Nat) : Int) := ⟨_, rfl⟩
    have rd1 : RD C1 M1 n a z := rd.eqv (by rw [hC1, upm_ne (by decide)]) (by rw [hC1, upm_ne (by decide)]) (fun j hj => by rw [hM1, upm_sl hj]) (by rw [hM1, upm_ne (by decide)])
    have kc1 : kLC C C1 := by rw [hC1]; exact kLC.up (by omega)
    have km1 : kLM M M1 := ⟨fun c c1 _ => by rw [hM1, upm_ne c1], fun j hj => by rw [hM1, upm_sl (by omega)], fun q _ => by rw [hM1, upm_ne (by decide)]⟩
    obtain ⟨C2, M2, a2, z2, e1, _, e3, rd2, e5, e6, e7⟩ := next_both rd1
    have gC : ∀ R, (f_X8_takeNumber lo hh C2).bind (fun (r37, M37) => if r37 = 0 then some ((0 : Int), M37) else lt (upm M37 (29 + 9) i (M37 1 6)) fun N7 => some ((1 : Int), N7)) = R → f_X3_readSetting 29 (i : Int) C = R := by
      intro R hR
      unfold f_X3_readSetting
      rw [ck_pos ⟨by omega, by omega⟩, Int.toNat_natCast, show C (29 + 10) i = ((fl / 2 ^ i % 2 : Nat) : Int) from cf, if_pos (by omega), lt_eq, b1, show (29 + 10 : Nat) = 39 from rfl, ← hC1, e1, Option.bind_some, h1, h2]
      exact hR
    have gR : ∀ R, (f_X11_reads lo hh M2).bind (fun (r41, M41) => lt (upm M41 1 i r41) fun N7 => some N7) = R → f_X11_readsValue (i : Int) lo hh M = R := by
      intro R hR
      unfold f_X11_readsValue
      rw [jn_eq, fl2, bj, if_neg (by omega)]
      dsimp only
      rw [fl2, g1, lt_eq, ← hM1, e3, Option.bind_some]
      rw [← hR]
      refine bind_c (fun p => ?_)
      obtain ⟨p1, p2⟩ := p
      dsimp only
      rw [ck_pos ⟨by omega, by omega⟩, Int.toNat_natCast]
    rcases num_both rd2 hl hb with ⟨C3, M3, n1, n2, n3, n4, n5⟩ | ⟨C3, M3, a3, z3, v, n1, n2, n3, n4, rd3, n6, n7, n8⟩
    · refine Or.inl ⟨C3, upm M3 1 i lo, gC _ ?_, gR _ ?_, ?_, kc.trans (kc1.trans (e6.N.trans n4).L), km.trans (km1.trans ((e7.N.trans n5).L.trans (kLM.up (by omega))))⟩
      · rw [n1, Option.bind_some]
        dsimp only
        rw [if_pos rfl]
      · rw [n2, Option.bind_some]
        dsimp only
        rw [lt_eq]
      · unfold badT at n3 ⊢
        rw [upm_ne (b := 0) (by decide)]; exact n3
    · have kc3 := e6.N.trans n7
      have km3 := e7.N.trans n8
      obtain ⟨C4, hC4⟩ : ∃ C4 : Mem, C4 = upm C3 38 i v := ⟨_, rfl⟩
      have row : M3 1 = M 1 := by rw [km3.1 1 (by decide), hM1, upm_ne (by decide)]
      have er : (upm M3 1 i v) 1 = updr (M 1) i v := by rw [upm_row, row]
      have fC : ∀ b : Nat, b ≠ 1 → b ≠ 38 → b ≠ 39 → C4 b = C b := fun b b1 b2 b3 => by rw [hC4, upm_ne b2, kc3.1 b b1, hC1, upm_ne b3]
      have eq : eqR (M 1) (updr (M 1) i v) := fun j j5 _ => updr_ne (by omega)
      refine Or.inr ⟨C4, upm M3 1 i v, a3, z3, gC _ ?_, gR _ ?_, ⟨rd3.eqv (by rw [hC4, upm_ne (by decide)]) (by rw [hC4, upm_ne (by decide)]) (fun j _ => by rw [upm_ne (by decide)]) (upm_ne (by decide)), ⟨⟨?_, ?_⟩, ⟨fl ||| 2 ^ i, g2, ?_, fun j hj => ?_⟩, ?_, ?_, ?_⟩, kc.trans (kc1.trans (kc3.L.trans (by rw [hC4]; exact kLC.up (by omega)))), km.trans (km1.trans (km3.L.trans (kLM.up (by omega))))⟩, by have := rd2.2.1.2.1; omega⟩
      · rw [n1, Option.bind_some]
        dsimp only
        rw [if_neg (by decide), n3, lt_eq, hC4]
      · rw [n2, Option.bind_some]
        dsimp only
        rw [lt_eq]
      · rw [er]
        obtain ⟨a1, a2', a3', a4, a5, a6, a7⟩ := rl
        have u : ∀ j : Nat, 5 ≤ j → updr (M 1) i v j = M 1 j := fun j hj => updr_ne (by omega)
        refine ⟨by rw [fC (29 + 1) (by decide) (by decide) (by decide), u 5 (by omega)]; exact a1, by rw [fC (29 + 1) (by decide) (by decide) (by decide), u 6 (by omega)]; exact a2', by rw [fC (29 + 1) (by decide) (by decide) (by decide), u 7 (by omega)]; exact a3', ?_, ?_, ?_, fun j hj => ?_⟩
        · rw [fC (29 + 2) (by decide) (by decide) (by decide), fC (29 + 3) (by decide) (by decide) (by decide), u 5 (by omega)]
          intro j hj
          rw [u _ (by omega), u _ (by omega)]; exact a4 j hj
        · rw [fC (29 + 4) (by decide) (by decide) (by decide), fC (29 + 5) (by decide) (by decide) (by decide), u 6 (by omega)]
          intro j hj
          rw [u (36 + 10 * j) (by omega)]
          refine ⟨(a5 j hj).1, fun t ht => ?_⟩
          rw [u _ (by omega)]; exact (a5 j hj).2 t ht
        · rw [fC (29 + 6) (by decide) (by decide) (by decide), fC (29 + 7) (by decide) (by decide) (by decide), fC (29 + 8) (by decide) (by decide) (by decide), u 7 (by omega)]
          intro j hj
          rw [u (96 + 3 * j) (by omega), u (97 + 3 * j) (by omega), u (98 + 3 * j) (by omega)]; exact a6 j hj
        · have o := a7 j hj
          rw [show (29 + 9 : Nat) = 38 from rfl, hC4, upm_row, updr_ap, updr_ap, kc3.1 38 (by decide), hC1, upm_ne (by decide)]
          split
          · rfl
          · exact o
      · rw [er]; exact WFl_c eq (hw v n4.1 n4.2) wl
      · rw [upm_ne (by decide), km3.2 38 (by omega), hM1, upm_hit]
      · rw [hC4, upm_ne (by decide), kc3.1 39 (by decide), hC1, upm_row, updr_ap, g3 j hj]
        split
        · rfl
        · exact fl3 j hj
      · rw [er, updr_ne (by omega)]; exact z8
      · rw [er, updr_ne (by omega)]; exact z9
      · rw [er, updr_ne (by omega)]; exact z10
