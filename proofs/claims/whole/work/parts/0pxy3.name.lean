/-- the reference's bad road of a map -/
theorem map_bad {M : Mem} (h : M 0 34 ≠ 0) (hi : inR (M 0 30 - M 0 31)) : (jn (fun (M34 : Mem) => (ck (inR ((M34 0 30) - (M34 0 31))) <| if ((M34 0 30) - (M34 0 31)) ≤ 8 then f_X11_readsMap_L55 jFuel 0 M34 else (f_X11_fails 2 M34).bind fun M50 => f_X11_readsMap_L55 jFuel 0 M50 : Option (Mem))) fun k34 => if (M 0 32) = 1 then k34 M else (f_X11_fails 1 M).bind fun M31 => k34 M31) = some M := by
  obtain ⟨m, hm⟩ : ∃ m, jFuel = m + 1 := ⟨9999999, rfl⟩
  have lb := L55_b h m 0
  rw [← hm] at lb
  have tail : (ck (inR ((M 0 30) - (M 0 31))) <| if ((M 0 30) - (M 0 31)) ≤ 8 then f_X11_readsMap_L55 jFuel 0 M else (f_X11_fails 2 M).bind fun M50 => f_X11_readsMap_L55 jFuel 0 M50) = some M := by
    rw [ck_pos hi]
    by_cases c : M 0 30 - M 0 31 ≤ 8
    · rw [if_pos c]; exact lb
    · rw [if_neg c, fails_b h, Option.bind_some]; exact lb
  rw [jn_eq]
  by_cases c : M 0 32 = 1
  · rw [if_pos c]; exact tail
  · rw [if_neg c, fails_b h, Option.bind_some]; exact tail
theorem map_both {C0 M0 C M : Mem} {n a z : Nat} (h : LSt C0 M0 C M n a z) : Out C0 M0 n z (f_X3_readName 29 C) (f_X11_readsMap M) := by
  obtain ⟨rd, ⟨⟨rl, wl⟩, ⟨fl, fl1, fl2, fl3⟩, z8, z9, z10⟩, kc, km⟩ := h
  have h6 := wl.2.2.2.2.2.2.1
  have t5 := rd.1.2.2.1
  obtain ⟨c, hc⟩ : ∃ c : Nat, M 1 6 = (c : Int) := ⟨(M 1 6).toNat, by omega⟩
  have c30 : C (29 + 1) 3 = (c : Int) := by rw [rl.2.1, hc]
  have inr : ∀ {C M : Mem} {a z : Nat}, Tok C M n a z → inR (M 0 30 - M 0 31) := fun {C M a z} tk => by
    have := tk.2.1
    have := tk.2.2.1
    rw [tk.1.2.2.1, tk.1.2.2.2]; exact ⟨by omega, by omega⟩
  by_cases c6 : c = 6
  · obtain ⟨b1, b2, b3⟩ := fail_both rd.2.2 rd.2.1 (c := 4) (by decide)
    refine Or.inl ⟨upm (upm C 1 7 4) 1 8 (C 1 3), upm (upm M 0 34 4) 0 35 (M 0 31), ?_, ?_, b3, kc.trans kNC.fail.L, km.trans kNM.fail.L⟩
    · unfold f_X3_readName
      rw [c30, if_neg (by omega), b1, Option.bind_some]
      dsimp only
      rw [ck_pos (Or.inl rfl)]
    · unfold f_X11_readsMap
      rw [jn_eq, show (6 : Int).toNat = 6 from rfl, if_pos (by omega), b2, Option.bind_some]
      dsimp only
      rw [goes_b b3.1, Option.bind_some]
      exact map_bad b3.1 (by rw [upm_sl (by decide), upm_sl (by decide), upm_sl (by decide), upm_sl (by decide)]; exact inr rd.2.1)
  · obtain ⟨C1, M1, a1, z1, e1, _, e3, rd1, e5, e6, e7⟩ := next_both rd
    have c30' : C1 (29 + 1) 3 = (c : Int) := by rw [e6.1 (29 + 1) (by decide)]; exact c30
    have row1 : M1 1 = M 1 := e7.1 1 (by decide)
    have i1 := inr rd1.2.1
    have z1n := rd1.2.1.2.2.1
    have az1 := rd1.2.1.2.1
    have gR : ∀ R, (jn (fun (M34 : Mem) => (ck (inR ((M34 0 30) - (M34 0 31))) <| if ((M34 0 30) - (M34 0 31)) ≤ 8 then f_X11_readsMap_L55 jFuel 0 M34 else (f_X11_fails 2 M34).bind fun M50 => f_X11_readsMap_L55 jFuel 0 M50 : Option (Mem))) fun k34 => if (M1 0 32) = 1 then k34 M1 else (f_X11_fails 1 M1).bind fun M31 => k34 M31) = R → f_X11_readsMap M = R := by
      intro R hR
      unfold f_X11_readsMap
      rw [jn_eq, show (6 : Int).toNat = 6 from rfl, if_neg (by omega)]
      dsimp only
      rw [e3, Option.bind_some]
      exact hR
    have gC : ∀ R, (if (C1 1 2) = 1 then (f_X8_size C1).bind fun r34 => if r34 ≤ 8 then (f_X3_mapNamed 29 2 (C1 1 3) r34 C1).bind fun r60 => if r60 = (-1) then ck (inR ((C1 (29 + 1) 3) * 8)) <| ck ((0 : Int) ≤ (C1 1 3) ∧ (0 : Int) ≤ ((C1 (29 + 1) 3) * 8) ∧ (0 : Int) ≤ r34 ∧ ((C1 1 3) + r34 : Int) ≤ 500 ∧ (((C1 (29 + 1) 3) * 8) + r34 : Int) ≤ 48) <| lt (cpm C1 2 (C1 1 3).toNat (29 + 4) ((C1 (29 + 1) 3) * 8).toNat r34.toNat) fun N7 => ck ((0 : Int) ≤ (C1 (29 + 1) 3) ∧ (C1 (29 + 1) 3) < 6) <| lt (upm N7 (29 + 5) (C1 (29 + 1) 3).toNat r34) fun N10 => ck (inR ((C1 (29 + 1) 3) + 1)) <| lt (upm N10 (29 + 1) 3 ((C1 (29 + 1) 3) + 1)) fun N13 => (f_X8_advance N13).bind fun M117 => some ((1 : Int), M117) else (f_X8_fail 3 C1).bind fun (r69, M69) => ck (r69 = 0 ∨ r69 = 1) <| some (r69, M69) else (f_X8_fail 2 C1).bind fun (r46, M46) => ck (r46 = 0 ∨ r46 = 1) <| some (r46, M46) else (f_X8_fail 1 C1).bind fun (r29, M29) => ck (r29 = 0 ∨ r29 = 1) <| some (r29, M29)) = R → f_X3_readName 29 C = R := by
      intro R hR
      unfold f_X3_readName
      rw [c30, if_pos (by omega), e1, Option.bind_some]
      exact hR
    by_cases k1 : C1 1 2 = 1
    · have kw : M1 0 32 = 1 ∧ a1 < z1 ∧ ∀ i : Nat, a1 ≤ i → i < z1 → 97 ≤ M1 22 i ∧ M1 22 i ≤ 122 := by
        obtain ⟨_, h1, h2, q | q | q | q | q⟩ := rd1.2.1
        · omega
        · exact ⟨q.2.1, q.2.2.1, q.2.2.2⟩
        · omega
        · omega
        · omega
      have sz : f_X8_size C1 = some (((z1 - a1 : Nat)) : Int) := by
        unfold f_X8_size
        rw [rd1.2.1.1.1, rd1.2.1.1.2.1, ck_pos ⟨by omega, by omega⟩, show (z1 : Int) - (a1 : Int) = ((z1 - a1 : Nat) : Int) by omega]
      by_cases c8 : z1 - a1 ≤ 8
      · have lt : ∀ t : Nat, t < z1 - a1 → 97 ≤ M1 22 (a1 + t) ∧ M1 22 (a1 + t) ≤ 122 := fun t ht => kw.2.2 (a1 + t) (by omega) (by omega)
        have rl1 : RSl C1 29 (M 1) := rl.eqv (fun j _ _ => e6.1 _ (by omega))
        have nm := named_C (g := M 1) rd1.1 rl1 wl c8 (by omega) lt c 0 jFuel (by omega) (jF (by omega)) (fun i hi => absurd hi (Nat.not_lt_zero i))
        have tr := told_R rd1 (by rw [row1]; exact wl) c8 c 0 jFuel (by rw [row1]; omega) (by have := jF (k := c + 1) (by omega); omega) (fun i hi => absurd hi (Nat.not_lt_zero i))
        rw [row1] at tr
        have tr : ((∃ i : Nat, (i : Int) < M 1 6 ∧ told (M 1) M1 a1 (z1 - a1) i) → f_X11_readsMap_L55 jFuel 0 M1 = some (upm (upm M1 0 34 3) 0 35 (M1 0 31))) ∧ ((∀ i : Nat, (i : Int) < M 1 6 → ¬ told (M 1) M1 a1 (z1 - a1) i) → f_X11_readsMap_L55 jFuel 0 M1 = mapTl M1) := tr
        rcases nm with ⟨i, t1, t2, t3⟩ | ⟨t2, t3⟩
        · have t3 : f_X3_mapNamed 29 2 (a1 : Int) ((z1 - a1 : Nat) : Int) C1 = some (i : Int) := t3
          obtain ⟨b1, b2, b3⟩ := fail_both rd1.2.2 rd1.2.1 (c := 3) (by decide)
          refine Or.inl ⟨upm (upm C1 1 7 3) 1 8 (C1 1 3), upm (upm M1 0 34 3) 0 35 (M1 0 31), gC _ ?_, gR _ ?_, b3, kc.trans (e6.N.L.trans kNC.fail.L), km.trans (e7.N.L.trans kNM.fail.L)⟩
          · rw [if_pos k1, sz, Option.bind_some, if_pos (by omega), rd1.2.1.1.1, t3, Option.bind_some, if_neg (by omega), b1, Option.bind_some]
            dsimp only
            rw [ck_pos (Or.inl rfl), rd1.2.1.1.1]
          · rw [jn_eq, if_pos kw.1]
            dsimp only
            rw [ck_pos i1, if_pos (by rw [rd1.2.1.1.2.2.1, rd1.2.1.1.2.2.2]; omega), tr.1 ⟨i, t1, t2⟩]
        · have t3 : f_X3_mapNamed 29 2 (a1 : Int) ((z1 - a1 : Nat) : Int) C1 = some (-1) := t3
          obtain ⟨C2, hC2⟩ : ∃ C2 : Mem, C2 = upm (upm (cpm C1 2 a1 33 (8 * c) (z1 - a1)) 34 c ((z1 - a1 : Nat) : Int)) 30 3 ((c : Int) + 1) := ⟨_, rfl⟩
          obtain ⟨M2, hM2⟩ : ∃ M2 : Mem, M2 = upm M1 1 (36 + 10 * c) ((z1 - a1 : Nat) : Int) := ⟨_, rfl⟩
          have g2 : ∀ b : Nat, b ≠ 1 → M2 b = M1 b := fun b hb => by rw [hM2, upm_ne hb]
          obtain ⟨M3, s1, s2, s3⟩ := L_m131 (M0 := M2) (a := a1) (l := z1 - a1) (c := c) (by omega) c8 (by rw [g2 0 (by decide)]; exact rd1.2.1.1.2.2.1) (by omega) (by rw [hM2, upm_sl (by omega), row1]; exact hc) (by rw [hM2, upm_hit]) (z1 - a1) 0 jFuel M2 (by omega) (jF (by omega)) (fun _ _ => rfl) (fun i => by rw [if_neg (by omega)])
          have fC : ∀ b : Nat, b ≠ 30 → b ≠ 33 → b ≠ 34 → C2 b = C1 b := fun b b1 b2 b3 => by rw [hC2, upm_ne b1, upm_ne b3, cpm_ne b2]
          have rd3 : RD C2 M3 n a1 z1 := rd1.eqv (fC 1 (by decide) (by decide) (by decide)) (fC 2 (by decide) (by decide) (by decide)) (fun j _ => by rw [s2 0 (by decide), g2 0 (by decide)]) (by rw [s2 22 (by decide), g2 22 (by decide)])
          obtain ⟨C4, M4, a4, z4, u1, u2, _, rd4, u5, u6, u7⟩ := next_both rd3
          have g4 : ∀ i : Nat, M4 1 i = if i = 6 then (c : Int) + 1 else if 37 + 10 * c ≤ i ∧ i < 37 + 10 * c + (z1 - a1) then M1 22 (a1 + (i - (37 + 10 * c))) else if i = 36 + 10 * c then ((z1 - a1 : Nat) : Int) else M 1 i := fun i => by
            rw [u7.1 1 (by decide), s3, g2 22 (by decide), hM2, upm_row, updr_ap, row1]
          have g6 : M4 1 6 = (c : Int) + 1 := by rw [g4, if_pos rfl]
          have g36 : M4 1 (36 + 10 * c) = ((z1 - a1 : Nat) : Int) := by rw [g4, if_neg (by omega), if_neg (by omega), if_pos rfl]
          have g37 : ∀ t : Nat, t < z1 - a1 → M4 1 (37 + 10 * c + t) = M1 22 (a1 + t) := fun t ht => by rw [g4, if_neg (by omega), if_pos (by omega), show 37 + 10 * c + t - (37 + 10 * c) = t by omega]
          have ge : ∀ i : Nat, i ≠ 6 → (i < 36 + 10 * c ∨ 46 + 10 * c ≤ i) → M4 1 i = M 1 i := fun i i1 i2 => by rw [g4, if_neg i1, if_neg (by omega), if_neg (by omega)]
          refine Or.inr ⟨C4, M4, a4, z4, gC _ ?_, gR _ ?_, ⟨rd4, ⟨⟨?_, ?_⟩, ⟨fl, fl1, ?_, fun i hi => by rw [u6.1 39 (by decide), fC 39 (by decide) (by decide) (by decide), e6.1 39 (by decide)]; exact fl3 i hi⟩, by rw [ge 8 (by omega) (by omega)]; exact z8, by rw [ge 9 (by omega) (by omega)]; exact z9, by rw [ge 10 (by omega) (by omega)]; exact z10⟩, kc.trans (e6.N.L.trans ((show kLC C1 C2 from ⟨fun b _ b2 => fC b (by omega) (by omega) (by omega), fun j _ => by rw [fC 1 (by decide) (by decide) (by decide)]⟩).trans u6.N.L)), km.trans (e7.N.L.trans ((show kLM M1 M3 from ⟨fun b b0 b1 => by rw [s2 b b1, g2 b b1], fun j _ => by rw [s2 0 (by decide), g2 0 (by decide)], fun i hi => by rw [s3, if_neg (by omega), if_neg (by omega), hM2, upm_sl (by omega)]⟩).trans u7.N.L))⟩, by omega⟩
          · rw [if_pos k1, sz, Option.bind_some, if_pos (by omega), rd1.2.1.1.1, t3, Option.bind_some, if_pos rfl, c30', ck_pos ⟨by omega, by omega⟩, ck_pos ⟨by omega, by omega, by omega, by omega, by omega⟩, Int.toNat_natCast, Int.toNat_natCast, Int.toNat_natCast, show ((c : Int) * 8).toNat = 8 * c by omega, lt_eq, ck_pos ⟨by omega, by omega⟩, lt_eq, ck_pos ⟨by omega, by omega⟩, lt_eq, show (29 + 4 : Nat) = 33 from rfl, show (29 + 5 : Nat) = 34 from rfl, show (29 + 1 : Nat) = 30 from rfl, ← hC2, u1]
            rfl
          · rw [jn_eq, if_pos kw.1]
            dsimp only
            rw [ck_pos i1, if_pos (by rw [rd1.2.1.1.2.2.1, rd1.2.1.1.2.2.2]; omega), tr.2 t2]
            unfold mapTl
            rw [good_1 rd1.2.2.1, Option.bind_some, if_neg (by decide), row1, hc, ck_pos ⟨by omega, by omega⟩, ck_pos ⟨by omega, by omega⟩, ck_pos i1, ck_pos ⟨by omega, by omega⟩, lt_eq, show (36 + 10 * (c : Int)).toNat = 36 + 10 * c by omega, rd1.2.1.1.2.2.1, rd1.2.1.1.2.2.2, show (z1 : Int) - (a1 : Int) = ((z1 - a1 : Nat) : Int) by omega, ← hM2]
            have s1 : f_X11_readsMap_L131 (36 + 10 * (c : Int)) jFuel 0 M2 = (f_X11_scans M3).bind (fun M180 => some M180) := s1
            rw [s1, u2]; rfl
          · refine RSl_map (M := M1) (a := a1) (l := z1 - a1) rl wl hc (by omega) (by omega) g6 g36 g37 ge ?_ (fun j hj => ?_) (fun j => ?_) (fun j => ?_) (fun b hb => ?_)
            · rw [u6.1 30 (by decide), hC2, upm_hit]
            · rw [u6.1 30 (by decide), hC2, upm_sl hj, upm_ne (by decide), cpm_ne (by decide), e6.1 30 (by decide)]
            · rw [u6.1 34 (by decide), hC2, upm_ne (by decide), upm_row, updr_ap, cpm_ne (by decide), e6.1 34 (by decide)]
            · rw [u6.1 33 (by decide), hC2, upm_ne (by decide), upm_ne (by decide), cpm_at, if_pos rfl, cpr_ap, e6.1 33 (by decide)]
              by_cases y : 8 * c ≤ j ∧ j < 8 * c + (z1 - a1)
              · rw [if_pos y, if_pos y, (rd1.1.2.2.2 _ (by omega)).2]
                have := lt (j - 8 * c) (by omega)
                unfold sx; rw [if_pos (by omega)]
              · rw [if_neg y, if_neg y]
            · rw [u6.1 b (by omega), fC b (by omega) (by omega) (by omega), e6.1 b (by omega)]
          · exact WFl_map (M := M1) (a := a1) (l := z1 - a1) wl hc (by omega) (by omega) lt t2 g6 g36 g37 ge
          · rw [u7.2 38 (by omega), s2 0 (by decide), g2 0 (by decide), e7.2 38 (by omega)]; exact fl2
      · obtain ⟨b1, b2, b3⟩ := fail_both rd1.2.2 rd1.2.1 (c := 2) (by decide)
        obtain ⟨m, hm⟩ : ∃ m, jFuel = m + 1 := ⟨9999999, rfl⟩
        have lb := L55_b b3.1 m 0
        rw [← hm] at lb
        refine Or.inl ⟨upm (upm C1 1 7 2) 1 8 (C1 1 3), upm (upm M1 0 34 2) 0 35 (M1 0 31), gC _ ?_, gR _ ?_, b3, kc.trans (e6.N.L.trans kNC.fail.L), km.trans (e7.N.L.trans kNM.fail.L)⟩
        · rw [if_pos k1, sz, Option.bind_some, if_neg (by omega), b1, Option.bind_some]
          dsimp only
          rw [ck_pos (Or.inl rfl)]
        · rw [jn_eq, if_pos kw.1]
          dsimp only
          rw [ck_pos i1, if_neg (by rw [rd1.2.1.1.2.2.1, rd1.2.1.1.2.2.2]; omega), b2, Option.bind_some]
          exact lb
    · have m1 : M1 0 32 ≠ 1 := by
        obtain ⟨_, h1, h2, q | q | q | q | q⟩ := rd1.2.1 <;> omega
      obtain ⟨b1, b2, b3⟩ := fail_both rd1.2.2 rd1.2.1 (c := 1) (by decide)
      have mb := map_bad b3.1 (by rw [upm_sl (by decide), upm_sl (by decide), upm_sl (by decide), upm_sl (by decide)]; exact i1)
      refine Or.inl ⟨upm (upm C1 1 7 1) 1 8 (C1 1 3), upm (upm M1 0 34 1) 0 35 (M1 0 31), gC _ ?_, gR _ ?_, b3, kc.trans (e6.N.L.trans kNC.fail.L), km.trans (e7.N.L.trans kNM.fail.L)⟩
      · rw [if_neg k1, b1, Option.bind_some]
        dsimp only
        rw [ck_pos (Or.inl rfl)]
      · rw [jn_eq, if_neg m1, b2, Option.bind_some]
        have m1' : (upm (upm M1 0 34 1) 0 35 (M1 0 31)) 0 32 ≠ 1 := by rw [upm_sl (by decide), upm_sl (by decide)]; exact m1
        rw [jn_eq, if_neg m1', fails_b b3.1, Option.bind_some] at mb
        exact mb
