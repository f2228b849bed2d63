/-! the items of a block, one behind the other -/
theorem L19_b {M : Mem} (h : M 0 34 ≠ 0) (m : Nat) : f_X11_readsReel_L19 (m + 1) M = some (endM M) := by
  rw [f_X11_readsReel_L19, good_0 h, Option.bind_some, if_pos rfl, ends_R]; rfl
theorem L19_i {M : Mem} (h : M 0 34 = 0) (h1 : ¬ (M 0 32 = 0 ∧ M 0 42 ≤ 0)) (hs : M 0 42 ≤ 0 ∨ f_X11_isSign 125 M = some 0) (m : Nat) : f_X11_readsReel_L19 (m + 1) M = (f_X11_readsItem M).bind fun M88 => f_X11_readsReel_L19 m M88 := by
  rw [f_X11_readsReel_L19, good_1 h, Option.bind_some, if_neg (by decide), jn_eq]
  dsimp only
  have K : (if (M 0 42) ≤ 0 then (f_X11_readsItem M).bind fun M88 => f_X11_readsReel_L19 m M88 else (f_X11_isSign 125 M).bind fun r50 => if r50 = 0 then (f_X11_readsItem M).bind fun M88 => f_X11_readsReel_L19 m M88 else (f_X11_makes 4 0 0 0 M).bind fun M61 => ck (inR ((M61 0 42) - 1)) <| lt (upm M61 0 42 ((M61 0 42) - 1)) fun N1 => (f_X11_scans N1).bind fun M75 => (f_X11_needsSign 59 M75).bind fun M81 => f_X11_readsReel_L19 m M81) = (f_X11_readsItem M).bind fun M88 => f_X11_readsReel_L19 m M88 := by
    by_cases c : M 0 42 ≤ 0
    · rw [if_pos c]
    · rw [if_neg c, hs.resolve_left c, Option.bind_some, if_pos rfl]
  by_cases a : M 0 32 = 0
  · rw [if_pos a, if_neg (fun q => h1 ⟨a, q⟩)]; exact K
  · rw [if_neg a]; exact K
theorem L19_e {M : Mem} (h : M 0 34 = 0) (h32 : M 0 32 = 0) (h42 : M 0 42 ≤ 0) (m : Nat) : f_X11_readsReel_L19 (m + 1) M = some (endM M) := by
  rw [f_X11_readsReel_L19, good_1 h, Option.bind_some, if_neg (by decide), jn_eq, if_pos h32, if_pos h42, ends_R]; rfl
theorem L19_c {M : Mem} (h : M 0 34 = 0) (h42 : 0 < M 0 42) (hs : f_X11_isSign 125 M = some 1) (m : Nat) : f_X11_readsReel_L19 (m + 1) M = (f_X11_makes 4 0 0 0 M).bind fun M61 => ck (inR ((M61 0 42) - 1)) <| lt (upm M61 0 42 ((M61 0 42) - 1)) fun N1 => (f_X11_scans N1).bind fun M75 => (f_X11_needsSign 59 M75).bind fun M81 => f_X11_readsReel_L19 m M81 := by
  rw [f_X11_readsReel_L19, good_1 h, Option.bind_some, if_neg (by decide), jn_eq]
  dsimp only
  by_cases a : M 0 32 = 0
  · rw [if_pos a, if_neg (by omega), if_neg (by omega), hs, Option.bind_some, if_neg (by decide)]
  · rw [if_neg a, if_neg (by omega), hs, Option.bind_some, if_neg (by decide)]
/-- no item's word: both fail here -/
theorem item_no {C M : Mem} {n a z : Nat} (rd : RD C M n a z) (k1 : C 1 2 ≠ 1) : f_X11_readsItem M = some (upm (upm M 0 34 1) 0 35 (M 0 31)) := by
  obtain ⟨v0, u0, p0, q0, w0⟩ := isW_both rd 0
  obtain ⟨v1, u1, p1, q1, w1⟩ := isW_both rd 1
  obtain ⟨v8, u8, p8, q8, w8⟩ := isW_both rd 8
  obtain ⟨v9, u9, p9, q9, w9⟩ := isW_both rd 9
  have e0 : v0 = 0 := u0.resolve_right (fun h => k1 (w0 h))
  have e1 : v1 = 0 := u1.resolve_right (fun h => k1 (w1 h))
  have e8 : v8 = 0 := u8.resolve_right (fun h => k1 (w8 h))
  have e9 : v9 = 0 := u9.resolve_right (fun h => k1 (w9 h))
  have b : (upm (upm M 0 34 1) 0 35 (M 0 31)) 0 34 ≠ 0 := by rw [upm_sl (by decide), upm_hit]; decide
  unfold f_X11_readsItem
  rw [q0, Option.bind_some, jn_eq, jn_eq, if_pos e0, q1, Option.bind_some, if_pos e1, q8, Option.bind_some, if_pos e8, q9, Option.bind_some, if_pos e9]
  dsimp only
  rw [jn_eq, if_pos rfl, fails_g rd.2.2.1, Option.bind_some]
  dsimp only
  rw [jn_eq]
  by_cases c : (upm (upm M 0 34 1) 0 35 (M 0 31)) 0 41 = 30
  · rw [if_pos c, fails_b b, Option.bind_some]
    dsimp only
    rw [good_0 b, Option.bind_some, if_pos rfl]
  · rw [if_neg c]
    dsimp only
    rw [good_0 b, Option.bind_some, if_pos rfl]
def Fst (C0 M0 : Mem) (b : Nat) (rc : Option (Int × Mem)) (M : Mem) : Prop := ∃ (C' M' : Mem) (s : Nat), s ≤ b + 2 ∧ rc = some (0, C') ∧ (∀ n : Nat, f_X11_readsReel_L19 (n + s) M = some (endM M')) ∧ badT C' M' ∧ kEC C0 C' ∧ kEM M0 M'
def Snd (C0 M0 : Mem) (nT a d i : Nat) (rc : Option (Int × Mem)) (M : Mem) : Prop := ∃ (C' M' : Mem) (a' z' q' s : Nat), a + s ≤ a' ∧ rc = some (1, C') ∧ (∀ n : Nat, f_X11_readsReel_L19 (n + s) M = f_X11_readsReel_L19 n M') ∧ RD C' M' nT a' z' ∧ ED C' M' q' d 0 ∧ C' 1 2 ≠ 1 ∧ i ≤ it (eR M' q') q' ∧ kEC C0 C' ∧ kEM M0 M'
theorem reel_run {nT : Nat} (h500 : nT ≤ 500) : ∀ (k : Nat) (C M : Mem) (a z q d x4 : Nat), RD C M nT a z → ED C M q d 0 → RSl C 5 (M 1) → WFl (M 1) → nT - a ≤ k → k ≤ 600 → x4 ≤ it (eR M q) q → ∀ nC : Nat, k + 1 < nC →
    Fst C M (nT - a) (f_X2_readItems_L3 (g_X2_readItems (5 - d)) 29 5 (d : Int) nC (x4 : Int) C) M ∨ Snd C M nT a d (it (eR M q) q) (f_X2_readItems_L3 (g_X2_readItems (5 - d)) 29 5 (d : Int) nC (x4 : Int) C) M := by
  intro k
  induction k with
  | zero =>
    intro C M a z q d x4 rd ed rl wl hk h6 hx nC hC
    obtain ⟨nC, rfl⟩ := nat_ex hC
    have k1 : C 1 2 ≠ 1 := by
      obtain ⟨_, h1, h2, r | r | r | r | r⟩ := rd.2.1 <;> omega
    have i30 := ed.2.2.2.2.2.2.1
    refine Or.inr ⟨C, M, a, z, q, 0, Nat.le_refl _, ?_, fun n => rfl, rd, ed, k1, Nat.le_refl _, kEC.rfl, kEM.rfl⟩
    rw [f_X2_readItems_L3, if_neg (by omega), if_neg k1]
  | succ k ih =>
    intro C M a z q d x4 rd ed rl wl hk h6 hx nC hC
    by_cases hk' : nT - a ≤ k
    · exact ih C M a z q d x4 rd ed rl wl hk' (by omega) hx nC (by omega)
    · obtain ⟨nC, rfl⟩ := nat_ex hC
      have i30 := ed.2.2.2.2.2.2.1
      by_cases k1 : C 1 2 = 1
      · have m1 : M 0 32 = 1 := by
          obtain ⟨_, h1, h2, r | r | r | r | r⟩ := rd.2.1 <;> omega
        have t5 := rd.1.2.2.1
        have az := rd.2.1.2.1
        have zn := rd.2.1.2.2.1
        have gR : ∀ n : Nat, f_X11_readsReel_L19 (n + 1) M = (f_X11_readsItem M).bind fun M88 => f_X11_readsReel_L19 n M88 := fun n => L19_i rd.2.2.1 (by omega) (Or.inr (by rw [sign_g rd.2.2.1 rd.2.1 t5, if_neg (by omega)])) n
        have gC : f_X2_readItems_L3 (g_X2_readItems (5 - d)) 29 5 (d : Int) (nC + 1) (x4 : Int) C = (f_X2_readItem (g_X2_readItems (5 - d)) 29 5 (d : Int) C).bind fun (r22, M22) => if r22 = 0 then some (0, M22) else (f_X8_take 3 M22).bind fun (r30, M30) => if r30 = 0 then some (0, M30) else ck (inR ((x4 : Int) + 1)) <| f_X2_readItems_L3 (g_X2_readItems (5 - d)) 29 5 (d : Int) nC ((x4 : Int) + 1) M30 := by
          rw [f_X2_readItems_L3, if_neg (by omega), if_pos k1]
        have libE : ∀ {C' M' : Mem}, kEC C C' → kEM M M' → RSl C' 5 (M' 1) ∧ WFl (M' 1) := fun {C' M'} kc km => by
          rw [km.1 1 (by decide) (by decide)]
          exact ⟨rl.eqv (fun j _ _ => kc.1 _ (by omega) (by omega)), wl⟩
        rcases item_both rd ed rl wl k1 with ⟨C', M', e1, e2, e3, e4, e5⟩ | ⟨C', M', a', z', e1, e2, e3, e4, e5, e6, e7, e8⟩ | ⟨C', M', a', z', e0, e1, e2, e3, e4, e5, e6, e7, e8⟩
        · left
          refine ⟨C', M', 2, by omega, ?_, fun n => by rw [show n + 2 = n + 1 + 1 by omega, gR, e2, Option.bind_some, L19_b e3.1], e3, e4, e5⟩
          rw [gC]
          rcases e1 (g_X2_readItems (5 - d)) with e1 | ⟨C1, e1, e1'⟩
          · rw [e1, Option.bind_some]
            dsimp only
            rw [if_pos rfl]
          · rw [e1, Option.bind_some]
            dsimp only
            rw [if_neg (by decide), e1', Option.bind_some]
            dsimp only
            rw [if_pos rfl]
        · obtain ⟨C1, e1, e1'⟩ := e1 (g_X2_readItems (5 - d))
          have lib := libE e7 e8
          have st := ih C' M' a' z' (q + 1) d (x4 + 1) e3 e4 lib.1 lib.2 (by omega) (by omega) (by omega) nC (by omega)
          have gC' : f_X2_readItems_L3 (g_X2_readItems (5 - d)) 29 5 (d : Int) (nC + 1) (x4 : Int) C = f_X2_readItems_L3 (g_X2_readItems (5 - d)) 29 5 (d : Int) nC ((x4 + 1 : Nat) : Int) C' := by
            rw [gC, e1, Option.bind_some]
            dsimp only
            rw [if_neg (by decide), e1', Option.bind_some]
            dsimp only
            rw [if_neg (by decide), ck_pos ⟨by omega, by omega⟩, show (x4 : Int) + 1 = ((x4 + 1 : Nat) : Int) by omega]
          have gR' : ∀ n : Nat, f_X11_readsReel_L19 (n + 1) M = f_X11_readsReel_L19 n M' := fun n => by rw [gR, e2, Option.bind_some]
          rw [gC']
          have an' := e3.2.1.2.1
          have zn' := e3.2.1.2.2.1
          rcases st with ⟨C2, M2, s, s1, s2, s3, s4, s5, s6⟩ | ⟨C2, M2, a2, z2, q2, s, s1, s2, s3, s4, s5, s6, s7, s8, s9⟩
          · exact Or.inl ⟨C2, M2, s + 1, by omega, s2, fun n => by rw [show n + (s + 1) = n + s + 1 by omega, gR', s3], s4, e7.trans s5, e8.trans s6⟩
          · exact Or.inr ⟨C2, M2, a2, z2, q2, s + 1, by omega, s2, fun n => by rw [show n + (s + 1) = n + s + 1 by omega, gR', s3], s4, s5, s6, by omega, e7.trans s8, e8.trans s9⟩
        · -- a block
          have lib := libE e7 e8
          have an' := e3.2.1.2.1
          have zn' := e3.2.1.2.2.1
          have e1 := e1 (g_X2_readItems (5 - d))
          have jf : k + 1 < jFuel := jF (by omega)
          have st := ih C' M' a' z' (q + 1) (d + 1) 0 e3 e4 lib.1 lib.2 (by omega) (by omega) (Nat.zero_le _) jFuel jf
          have rcE : g_X2_readItems (5 - d) 29 5 ((d + 1 : Nat) : Int) C' = f_X2_readItems_L3 (g_X2_readItems (5 - (d + 1))) 29 5 ((d + 1 : Nat) : Int) jFuel ((0 : Nat) : Int) C' := by
            rw [show 5 - d = (5 - (d + 1)) + 1 by omega]
            rfl
          rw [← rcE] at st
          have gR' : ∀ n : Nat, f_X11_readsReel_L19 (n + 1) M = f_X11_readsReel_L19 n M' := fun n => by rw [gR, e2, Option.bind_some]
          rcases st with ⟨C2, M2, s, s1, s2, s3, s4, s5, s6⟩ | ⟨C2, M2, a2, z2, q2, s, s1, s2, s3, s4, s5, s6, s7, s8, s9⟩
          · left
            refine ⟨C2, M2, s + 1, by omega, ?_, fun n => by rw [show n + (s + 1) = n + s + 1 by omega, gR', s3], s4, e7.trans s5, e8.trans s6⟩
            rw [gC, e1]
            unfold blkE
            rw [s2, Option.bind_some]
            dsimp only
            rw [if_pos rfl, Option.bind_some]
            dsimp only
            rw [if_pos rfl, Option.bind_some]
            dsimp only
            rw [if_pos rfl]
          · have kc2 := e7.trans s8
            have km2 := e8.trans s9
            have an2 := s4.2.1.2.1
            have zn2 := s4.2.1.2.2.1
            have d42 : M2 0 42 = ((d + 1 : Nat) : Int) := s5.2.2.2.2.2.2.2
            have gC2 : ∀ (r : Int) (X : Mem), f_X8_take 5 C2 = some (r, X) → (r = 0 ∨ r = 1) → f_X2_readItems_L3 (g_X2_readItems (5 - d)) 29 5 (d : Int) (nC + 1) (x4 : Int) C = if r = 0 then some (0, X) else (f_X8_take 3 X).bind fun (r30, M30) => if r30 = 0 then some (0, M30) else ck (inR ((x4 : Int) + 1)) <| f_X2_readItems_L3 (g_X2_readItems (5 - d)) 29 5 (d : Int) nC ((x4 : Int) + 1) M30 := by
              intro r X e hr
              rw [gC, e1]
              unfold blkE
              rw [s2, Option.bind_some]
              dsimp only
              rw [if_neg (by decide), e, Option.bind_some]
              dsimp only
              rcases hr with z0 | z1
              · rw [if_pos z0, Option.bind_some]
                dsimp only
                rw [if_pos rfl, Option.bind_some]
                dsimp only
                rw [if_pos rfl, if_pos z0]
              · rw [if_neg (by omega), Option.bind_some]
                dsimp only
                rw [if_neg (by decide), Option.bind_some]
                dsimp only
                rw [if_neg (by decide), if_neg (by omega)]
            by_cases c5 : C2 1 2 = 5
            · have ms : M2 0 32 = 3 ∧ M2 22 a2 = 125 ∧ a2 < z2 := by
                obtain ⟨_, h1, h2, r | r | r | r | r⟩ := s4.2.1 <;> omega
              have q60 := s5.q60
              obtain ⟨M3, m1', m2', m3', m4', m5', m6', m7', m8', m9'⟩ := makes_R s4.2.2.1 s5.2.2.2.2.1 (by have := s5.2.2.2.2.2.2.1; omega) 4 0 0 0
              obtain ⟨N1, hN1⟩ : ∃ N1 : Mem, N1 = upm M3 0 42 (d : Int) := ⟨_, rfl⟩
              have mr : M3 1 = M2 1 := m4' 1 (by decide) (by decide)
              have rdN : RD C2 N1 nT a2 z2 := by
                have r := s4
                unfold RD TX Tok goodT at r ⊢
                rw [hN1, upm_ne (b := 22) (by decide), upm_sl (j := 29) (by decide), upm_sl (j := 30) (by decide), upm_sl (j := 31) (by decide), upm_sl (j := 32) (by decide), upm_sl (j := 33) (by decide), upm_sl (j := 34) (by decide), upm_sl (j := 35) (by decide), m4' 22 (by decide) (by decide), m3' 29 (by decide), m3' 30 (by decide), m3' 31 (by decide), m3' 32 (by decide), m3' 33 (by decide), m3' 34 (by decide), m3' 35 (by decide)]
                exact r
              have wl2 : M2 1 5 ≤ 12 := by rw [km2.1 1 (by decide) (by decide)]; exact wl.2.2.2.2.2.1.2
              obtain ⟨r1, r2, r3, r4, r5⟩ := row_more s5 wl2 m5' mr (fun hd => by
                unfold rowOK
                rw [m6', hd]
                exact Or.inr (Or.inr (Or.inr (Or.inr ⟨rfl, by omega⟩))))
              have eN : eR N1 (q2 + 1) = eR M3 (q2 + 1) := eR_c (by rw [hN1, upm_ne (by decide)]) (by rw [hN1, upm_ne (by decide)]) _
              have it4 : it (eR M3 (q2 + 1)) (q2 + 1) = it (eR M2 q2) q2 := by rw [it_s4 m6', r2]
              have edN : ED C2 N1 (q2 + 1) d 0 := by
                refine ⟨by rw [eN]; exact ⟨by rw [it4]; exact r4, fun i hi h4 => r5 i (by
                  apply Decidable.byContradiction
                  intro y
                  rw [show i = q2 by omega] at h4
                  exact h4 m6') h4⟩, by rw [eN]; exact r3, ?_, by omega, by rw [hN1, upm_sl (by decide)]; exact m2', ?_, by rw [eN, it4]; exact s5.2.2.2.2.2.2.1, by rw [hN1, upm_hit]⟩
                · rw [eN, dp_s, r1, if_neg (by rw [m6']; omega), if_pos m6']; omega
                · rw [eN, it4, hN1, upm_sl (by decide), m3' 41 (by decide)]; exact s5.2.2.2.2.2.1
              obtain ⟨C3, M4, a3, z3, f1, f2, _, rd3, f5, f6, f7⟩ := next_both rdN
              have ed3 := edN.eqv f6.N f7.N
              have tk5 : f_X8_take 5 C2 = some (1, C3) := by
                unfold f_X8_take
                rw [if_pos c5, f1]; rfl
              have gC3 := gC2 1 C3 tk5 (Or.inr rfl)
              rw [if_neg (by decide)] at gC3
              have kM3 : kEM M2 N1 := ⟨fun c h1 h2 => by rw [hN1, upm_ne h1]; exact m4' c h1 h2, fun j hj => by rw [hN1, upm_sl (by omega)]; exact m3' j (by omega)⟩
              have gL : ∀ n : Nat, f_X11_readsReel_L19 (n + 1) M2 = (f_X11_needsSign 59 M4).bind fun M81 => f_X11_readsReel_L19 n M81 := fun n => by
                rw [L19_c s4.2.2.1 (by omega) (by rw [sign_g s4.2.2.1 s4.2.1 t5, if_pos ⟨ms.1, ms.2.1⟩]) n, m1', Option.bind_some, m3' 42 (by decide), d42, ck_pos ⟨by omega, by omega⟩, lt_eq, show ((d + 1 : Nat) : Int) - 1 = (d : Int) by omega, ← hN1, f2, Option.bind_some]
              have an3 := rd3.2.1.2.1
              rcases sign_both rd3 (x := 59) (κ := 3) (Or.inl ⟨rfl, rfl⟩) with ⟨C4, M5, g1, g2, g3, g4, g5⟩ | ⟨C4, M5, a4, z4, g1, g2, g3, g4, g5, g6, g7⟩
              · left
                refine ⟨C4, M5, s + 3, by omega, ?_, fun n => by rw [show n + (s + 3) = n + 2 + s + 1 by omega, gR', s3, show n + 2 = n + 1 + 1 by omega, gL, g2, Option.bind_some, L19_b g3.1], g3, (kc2.trans f6.N.E).trans g4.E, ((km2.trans kM3).trans f7.N.E).trans g5.E⟩
                rw [gC3, g1, Option.bind_some]
                dsimp only
                rw [if_pos rfl]
              · have kc4 := (kc2.trans f6.N.E).trans g6.N.E
                have km4 := ((km2.trans kM3).trans f7.N.E).trans g7.N.E
                have ed4 := ed3.eqv g6.N g7.N
                have lib4 := libE kc4 km4
                have e5i : eR M5 (q2 + 1) = eR M3 (q2 + 1) := ((eR_c (g7.1 1 (by decide)) (g7.1 23 (by decide)) _).trans (eR_c (f7.1 1 (by decide)) (f7.1 23 (by decide)) _)).trans eN
                have it5 : it (eR M5 (q2 + 1)) (q2 + 1) = it (eR M2 q2) q2 := by rw [e5i, it4]
                have an4 := g3.2.1.2.1
                have zn4 := g3.2.1.2.2.1
                have st := ih C4 M5 a4 z4 (q2 + 1) d (x4 + 1) g3 ed4 lib4.1 lib4.2 (by omega) (by omega) (by omega) nC (by omega)
                have gC' : f_X2_readItems_L3 (g_X2_readItems (5 - d)) 29 5 (d : Int) (nC + 1) (x4 : Int) C = f_X2_readItems_L3 (g_X2_readItems (5 - d)) 29 5 (d : Int) nC ((x4 + 1 : Nat) : Int) C4 := by
                  rw [gC3, g1, Option.bind_some]
                  dsimp only
                  rw [if_neg (by decide), ck_pos ⟨by omega, by omega⟩, show (x4 : Int) + 1 = ((x4 + 1 : Nat) : Int) by omega]
                rw [gC']
                have gRR : ∀ n : Nat, f_X11_readsReel_L19 (n + (s + 2)) M = f_X11_readsReel_L19 n M5 := fun n => by
                  rw [show n + (s + 2) = n + 1 + s + 1 by omega, gR', s3, gL, g2, Option.bind_some]
                rcases st with ⟨C5, M6, s', u1, u2, u3, u4, u5, u6⟩ | ⟨C5, M6, a5, z5, q5, s', u1, u2, u3, u4, u5, u6, u7, u8, u9⟩
                · exact Or.inl ⟨C5, M6, s' + (s + 2), by omega, u2, fun n => by rw [show n + (s' + (s + 2)) = n + s' + (s + 2) by omega, gRR, u3], u4, kc4.trans u5, km4.trans u6⟩
                · exact Or.inr ⟨C5, M6, a5, z5, q5, s' + (s + 2), by omega, u2, fun n => by rw [show n + (s' + (s + 2)) = n + s' + (s + 2) by omega, gRR, u3], u4, u5, u6, by omega, kc4.trans u8, km4.trans u9⟩
            · have ms : ¬ (M2 0 32 = 3 ∧ M2 22 a2 = 125) := by
                obtain ⟨_, h1, h2, r | r | r | r | r⟩ := s4.2.1 <;> omega
              obtain ⟨b1, b2, b3⟩ := fail_both s4.2.2 s4.2.1 (c := 1) (by decide)
              left
              refine ⟨upm (upm C2 1 7 1) 1 8 (C2 1 3), upm (upm M2 0 34 1) 0 35 (M2 0 31), s + 3, by omega, ?_, fun n => ?_, b3, kc2.trans kNC.fail.E, km2.trans kNM.fail.E⟩
              · have tk5 : f_X8_take 5 C2 = some (0, upm (upm C2 1 7 1) 1 8 (C2 1 3)) := by
                  unfold f_X8_take
                  rw [if_neg c5, b1, Option.bind_some]
                  dsimp only
                  rw [ck_pos (Or.inl rfl)]
                rw [gC2 0 _ tk5 (Or.inl rfl), if_pos rfl]
              · rw [show n + (s + 3) = n + 2 + s + 1 by omega, gR', s3, show n + 2 = n + 1 + 1 by omega, L19_i s4.2.2.1 (by omega) (Or.inr (by rw [sign_g s4.2.2.1 s4.2.1 t5, if_neg ms])) (n + 1), item_no s4 s6, Option.bind_some, L19_b b3.1]
      · refine Or.inr ⟨C, M, a, z, q, 0, Nat.le_refl _, ?_, fun n => rfl, rd, ed, k1, Nat.le_refl _, kEC.rfl, kEM.rfl⟩
        rw [f_X2_readItems_L3, if_neg (by omega), if_neg k1]
