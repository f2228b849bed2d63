/-! voice, undo, restore -/
theorem p_setVoice (hc : CutOK) {k : Nat} {Mc Mr : Mem} (h : Rel k Mc Mr) (hk : k < 512) (p q : Int) : ∃ Mc' Mr' : Mem, st_setVoice p q Mc Mr Mc' Mr' ∧ Rel (k + 1) Mc' Mr' := by
  have hl := h.wf.1
  by_cases hpq : (1 ≤ p ∧ p ≤ 20) ∧ 0 ≤ q ∧ q ≤ 50
  · obtain ⟨hp, hq⟩ := hpq
    obtain ⟨Mc1, M1, a1, a2, a3, a4, a5, a6, a7⟩ := both_rem h hk (M := upm Mr 0 7 0) (thr_ne _ _ (by decide)) (thr_ne _ _ (by decide)) (thr_ne _ _ (by decide)) (thr_sl _ _ (by decide))
    have e1 : M1 1 = Mr 1 := (a4 1 (by decide) (by decide) (by decide)).trans (thr_ne _ _ (by decide))
    have r1 : RS Mc1 5 (Mr 1) := h.rs.eqv (fun j _ _ => a3 _ (by omega) (by omega) (by omega))
    have w1 : WF (updr (Mr 1) 1 p) := set_WF (by omega) h.wf ⟨by rw [updr_ne (by decide)]; exact hl.1, hp, by rw [updr_ne (by decide)]; exact hl.2.2.1, by rw [updr_ne (by decide)]; exact hl.2.2.2.1, by rw [updr_ne (by decide)]; exact hl.2.2.2.2.1⟩
    have w' : WF (updr (updr (Mr 1) 1 p) 2 q) := set_WF (by omega) w1 ⟨by rw [updr_ne (by decide)]; exact w1.1.1, by rw [updr_ne (by decide)]; exact w1.1.2.1, hq, by rw [updr_ne (by decide)]; exact w1.1.2.2.2.1, by rw [updr_ne (by decide)]; exact w1.1.2.2.2.2.1⟩
    have eg0 : (upm (upm M1 1 1 p) 1 2 q) 1 = updr (updr (Mr 1) 1 p) 2 q := by rw [upm_row, upm_row, e1]
    obtain ⟨M2, b1, b2, b3⟩ := laysW (M := upm (upm M1 1 1 p) 1 2 q) (by rw [eg0]; exact w'.1) (by rw [eg0]; exact w'.2.1)
    have eg : M2 1 = updr (updr (Mr 1) 1 p) 2 q := (b2 1 (by decide) (by decide)).trans eg0
    rw [eg0] at b1
    have fz : ∀ c : Nat, c ≠ 1 → c ≠ 19 → c ≠ 20 → M2 c = M1 c := fun c c1 c2 c3 => by rw [b2 c c2 c3, upm_ne c1, upm_ne c1]
    obtain ⟨Mc3, s1, s2, s3, s4⟩ := act_done hc h (Mc2 := upm (upm Mc1 (5 + 9) 1 p) (5 + 9) 2 q) (M2 := M2) (fun c q => by rw [upm_ne (by omega), upm_ne (by omega)]; exact a3 c (by omega) (by omega) (by omega)) (by rw [upm_ne (by decide), upm_ne (by decide), a3 72 (by decide) (by decide) (by omega)]) (fun c q => by rw [fz c (by omega) (by omega) (by omega), a4 c (by omega) (by omega) (by omega), thr_ne _ _ (by omega)]) (fun j q => by rw [fz 0 (by decide) (by decide) (by decide), a5 j (by omega), thr_sl _ _ (by omega)]) (a6.eqv (fun c q => by rw [upm_ne (by omega), upm_ne (by omega)]) (by rw [fz 0 (by decide) (by decide) (by decide)]) (fz 3 (by decide) (by decide) (by decide))) (fun i hi => by rw [upm_ne (by decide), upm_ne (by decide), fz 5 (by decide) (by decide) (by decide)]; exact a7 i hi) eg (set_RS (by omega) q w1 (set_RS (by omega) p h.wf r1)) w'
    refine ⟨Mc3, M2, Or.inl ⟨wEnd (updr (updr (Mr 1) 1 p) 2 q), ?_, ?_, ?_⟩, s2⟩
    · unfold f_X10_setVoice
      have sc : f_X3_set 5 1 p Mc1 = some (upm Mc1 (5 + 9) 1 p) := set_C (j := 1) (by omega) p Mc1
      have sc2 : f_X3_set 5 2 q (upm Mc1 (5 + 9) 1 p) = some (upm (upm Mc1 (5 + 9) 1 p) (5 + 9) 2 q) := set_C (j := 2) (by omega) q _
      rw [(rS_ok (lo := 1) (hi := 20) ⟨by omega, by omega⟩ rfl rfl hp).1, Option.bind_some, (rS_ok (lo := 0) (hi := 50) ⟨by omega, by omega⟩ rfl rfl hq).1, Option.bind_some, a1, Option.bind_some, sc, Option.bind_some, sc2, Option.bind_some, s1, Option.bind_some, s4]
    · unfold f_X11_setVoice
      simp only [jn]
      rw [isIn_eq, if_pos hp, Option.bind_some, if_neg (by decide), isIn_eq, if_pos hq, Option.bind_some, if_neg (by decide), goes1, Option.bind_some]
      simp only []
      rw [if_neg (by decide), a2, Option.bind_some, lt_eq, lt_eq, show (1 : Int).toNat = 1 from rfl, show (2 : Int).toNat = 2 from rfl, b1]; rfl
    · rw [fz 0 (by decide) (by decide) (by decide), a5 7 (by decide)]; exact thr_at _ _
  · refine ⟨Mc, upm Mr 0 7 1, Or.inr ⟨?_, 0, ?_, thr_at _ _⟩, h.scr keepC.rfl keepR.thr (by omega)⟩
    · unfold x_X10_setVoice
      by_cases hp : 1 ≤ p ∧ p ≤ 20
      · rw [(rS_ok (lo := 1) (hi := 20) ⟨by omega, by omega⟩ rfl rfl hp).1, (rS_ok (lo := 1) (hi := 20) ⟨by omega, by omega⟩ rfl rfl hp).2, Option.bind_some, rS_no (c := 2) (lo := 0) (hi := 50) ⟨by omega, by omega⟩ rfl rfl (fun z => hpq ⟨hp, z⟩)]; rfl
      · rw [rS_no (c := 1) (lo := 1) (hi := 20) ⟨by omega, by omega⟩ rfl rfl hp]; rfl
    · unfold f_X11_setVoice
      simp only [jn]
      by_cases hp : 1 ≤ p ∧ p ≤ 20
      · rw [isIn_eq, if_pos hp, Option.bind_some, if_neg (by decide), isIn_eq, if_neg (fun z => hpq ⟨hp, z⟩), Option.bind_some, if_pos rfl, goes0, Option.bind_some]
        simp
      · rw [isIn_eq, if_neg hp, Option.bind_some, if_pos rfl, goes0, Option.bind_some]
        simp
theorem p_undo (hc : CutOK) {k : Nat} {Mc Mr : Mem} (h : Rel k Mc Mr) : ∃ Mc' Mr' : Mem, st_undo Mc Mr Mc' Mr' ∧ Rel (k + 1) Mc' Mr' := by
  obtain ⟨u1, u2, u3, u4⟩ := h.2.2.2.2.1
  have ac := h.2.2.2.1
  obtain ⟨x, hx⟩ : ∃ x : Nat, Mc 0 6 = (x : Int) := ⟨(Mc 0 6).toNat, by omega⟩
  by_cases z : Mr 0 6 = 0
  · refine ⟨Mc, upm Mr 0 7 0, ⟨-1, ?_, ?_⟩, h.scr keepC.rfl keepR.thr (by omega)⟩
    · unfold f_X10_undo
      rw [if_pos (by omega)]
    · unfold f_X11_undo
      rw [lt_eq, if_pos z]
  · obtain ⟨m, hm⟩ : ∃ m : Nat, Mr 0 6 = ((m + 1 : Nat) : Int) := ⟨(Mr 0 6).toNat - 1, by omega⟩
    obtain ⟨v, hv⟩ : ∃ v : Nat, v = (x + 7) % 8 := ⟨_, rfl⟩
    obtain ⟨q1, q2⟩ := u4 m (by omega)
    rw [hx, hm, Int.toNat_natCast, Int.toNat_natCast, show (x + 8 - (m + 1) + m) % 8 = v by omega] at q1
    obtain ⟨N5, hN5⟩ : ∃ N5 : Mem, N5 = upm (upm Mc 0 6 (v : Int)) 0 5 (m : Int) := ⟨_, rfl⟩
    obtain ⟨Mc2, a1, a2, a3⟩ := copy_C (M := N5) (s := 5) (s1 := 74 + v * 24) q2 (by omega) (q1.eqv (fun j _ _ => by rw [hN5, upm_ne (by omega), upm_ne (by omega)]))
    obtain ⟨M2, b1, b2, b3⟩ := cop_R (a := 3) (na := 8496) (b := 1) (nb := 1062) (x := 1062 * m) (y := 0) (by decide) (by omega) (by omega) ⟨by omega, by omega⟩ (upm (upm Mr 0 7 0) 0 6 (m : Int))
    have b1 : f_X11_copies 3 8496 ((1062 * m : Nat) : Int) 1 1062 0 (upm (upm Mr 0 7 0) 0 6 (m : Int)) = some M2 := b1
    have er : ∀ i : Nat, i < 1062 → M2 1 i = rowAt (Mr 3) m i := by
      intro i hi
      rw [b3, if_pos ⟨by omega, by omega⟩, upm_ne (by decide), upm_ne (by decide)]
      rfl
    have m0 : ∀ j : Nat, j ≠ 6 → j ≠ 7 → M2 0 j = Mr 0 j := fun j j1 j2 => by rw [b2 0 (by decide), upm_sl j1, thr_sl _ _ j2]
    have m6 : M2 0 6 = (m : Int) := by rw [b2 0 (by decide), upm_hit]
    have c5 : Mc2 0 5 = (m : Int) := by rw [a3 0 (by omega), hN5, upm_hit]
    have c6 : Mc2 0 6 = (v : Int) := by rw [a3 0 (by omega), hN5, upm_sl (by decide), upm_hit]
    have cc : ∀ c : Nat, c ≠ 0 → (c < 6 ∨ 27 < c) → Mc2 c = Mc c := fun c c1 c2 => by rw [a3 c (by omega), hN5, upm_ne c1, upm_ne c1]
    have un : RUn Mc2 M2 := by
      refine ⟨by rw [c5, m6], by rw [m6]; omega, by rw [c6]; omega, fun j hj => ?_⟩
      rw [m6] at hj
      rw [c6, m6, Int.toNat_natCast, Int.toNat_natCast, b2 3 (by decide), upm_ne (by decide), upm_ne (by decide)]
      obtain ⟨w1, w2⟩ := u4 j (by omega)
      rw [hx, hm, Int.toNat_natCast, Int.toNat_natCast] at w1
      rw [show (v + 8 - m + j) % 8 = (x + 8 - (m + 1) + j) % 8 by omega]
      exact ⟨w1.eqv (fun i _ _ => cc _ (by omega) (by omega)), w2⟩
    obtain ⟨Mc3, s1, s2, s3, s4⟩ := act_done hc (k' := k + 1) h (Mc2 := Mc2) (M2 := M2) (fun c q => cc c (by omega) (by omega)) (by rw [cc 72 (by decide) (by omega)]) (fun c q => by rw [b2 c (by omega), upm_ne (by omega), upm_ne (by omega)]) (fun j q => m0 j (by omega) (by omega)) un (fun i hi => by
      rw [cc 73 (by decide) (by omega), b2 5 (by decide), upm_ne (by decide), upm_ne (by decide)]
      obtain ⟨a, b, c⟩ := ac i hi
      exact ⟨a, b, by omega⟩) rfl (RS_e er q2 a2) (WF_e er q2)
    refine ⟨Mc3, M2, ⟨(m : Int), ?_, ?_⟩, s2⟩
    · unfold f_X10_undo
      simp only [jn]
      have go : (lt (upm Mc 0 6 (v : Int)) fun N2 => ck (inR ((Mc 0 5) - 1)) <| lt (upm N2 0 5 ((Mc 0 5) - 1)) fun N5 => ck ((0 : Int) ≤ (v : Int) ∧ (v : Int) < 8) <| (f_X7_copyFrom 5 (74 + (v : Int).toNat * 24) N5).bind fun M54 => (f_X10_settle M54).bind fun M58 => some ((M58 0 5), M58)) = some ((m : Int), Mc3) := by
        rw [lt_eq, ck_pos ⟨by omega, by omega⟩, lt_eq, ck_pos ⟨by omega, by omega⟩, Int.toNat_natCast, show Mc 0 5 - 1 = (m : Int) by omega, ← hN5, a1, Option.bind_some, s1, Option.bind_some, s3 0 (by omega), c5]
      rw [if_neg (by omega), hx]
      by_cases x0 : x = 0
      · rw [if_pos (by omega)]
        rw [show (v : Int) = 7 by omega] at go
        exact go
      · rw [if_neg (by omega), ck_pos ⟨by omega, by omega⟩]
        rw [show (v : Int) = (x : Int) - 1 by omega] at go
        exact go
    · unfold f_X11_undo
      rw [lt_eq, if_neg z, ck_pos ⟨by omega, by omega⟩, lt_eq, ck_pos ⟨by omega, by omega⟩, show Mr 0 6 - 1 = (m : Int) by omega, show 1062 * (m : Int) = ((1062 * m : Nat) : Int) by omega, b1, Option.bind_some, m6]
theorem p_restore (hc : CutOK) {k : Nat} {Mc Mr : Mem} (h : Rel k Mc Mr) (p : Int) : ∃ Mc' Mr' : Mem, st_restore p Mc Mr Mc' Mr' ∧ Rel (k + 1) Mc' Mr' := by
  have ac := h.2.2.2.1
  by_cases hp : 0 ≤ p ∧ p ≤ 1
  · obtain ⟨t, rfl⟩ : ∃ t : Nat, p = (t : Int) := ⟨p.toNat, by omega⟩
    obtain ⟨v1, v2, v3⟩ := h.2.2.2.2.2.1 t (by omega)
    have sl : f_X11_isSlot (t : Int) Mr = some 1 := by
      unfold f_X11_isSlot
      rw [isIn_eq, if_pos hp, Option.bind_some, ck_pos (Or.inr rfl)]
    by_cases z : Mr 6 t = 0
    · refine ⟨Mc, upm Mr 0 7 2, Or.inr (Or.inr ⟨?_, ?_, thr_at _ _⟩), h.scr keepC.rfl keepR.thr (by omega)⟩
      · unfold x_X10_restore
        rw [(rR_ok hp).1, (rR_ok hp).2, Option.bind_some, ck_pos ⟨by omega, by omega⟩, Int.toNat_natCast, if_pos (by omega)]; rfl
      · unfold f_X11_restore
        simp only [jn]
        rw [sl, Option.bind_some, Option.bind_some, if_neg (by decide), ck_pos ⟨by omega, by omega⟩, Int.toNat_natCast, if_pos z, gb10, Option.bind_some]
        simp
    · obtain ⟨q1, q2⟩ := v3 (by omega)
      obtain ⟨Mc1, a1, a2, a3⟩ := copy_C (M := Mc) (s := 5) (s1 := 266 + t * 24) q2 (by omega) q1
      obtain ⟨M1, b1, b2, b3⟩ := cop_R (a := 4) (na := 2124) (b := 1) (nb := 1062) (x := 1062 * t) (y := 0) (by decide) (by omega) (by omega) ⟨by omega, by omega⟩ (upm Mr 0 7 0)
      have b1 : f_X11_copies 4 2124 ((1062 * t : Nat) : Int) 1 1062 0 (upm Mr 0 7 0) = some M1 := b1
      have er : ∀ i : Nat, i < 1062 → (upm M1 0 6 0) 1 i = rowAt (Mr 4) t i := by
        intro i hi
        rw [upm_ne (by decide), b3, if_pos ⟨by omega, by omega⟩, thr_ne _ _ (by decide)]
        rfl
      have m0 : ∀ j : Nat, j ≠ 6 → j ≠ 7 → (upm M1 0 6 0) 0 j = Mr 0 j := fun j j1 j2 => by rw [upm_sl j1, b2 0 (by decide), thr_sl _ _ j2]
      obtain ⟨Mc2, hM2⟩ : ∃ Mc2 : Mem, Mc2 = upm (upm Mc1 0 5 0) 0 6 0 := ⟨_, rfl⟩
      have cc : ∀ c : Nat, c ≠ 0 → (c < 6 ∨ 27 < c) → Mc2 c = Mc c := fun c c1 c2 => by rw [hM2, upm_ne c1, upm_ne c1, a3 c (by omega)]
      have un : RUn Mc2 (upm M1 0 6 0) := by
        have c5 : Mc2 0 5 = 0 := by rw [hM2, upm_sl (by decide), upm_hit]
        have c6 : Mc2 0 6 = 0 := by rw [hM2, upm_hit]
        have m6 : (upm M1 0 6 0) 0 6 = 0 := upm_hit
        exact ⟨by rw [c5, m6], by rw [m6]; omega, by rw [c6]; omega, fun j hj => by rw [m6] at hj; omega⟩
      obtain ⟨Mc3, s1, s2, s3, s4⟩ := act_done hc (k' := k + 1) h (Mc2 := Mc2) (M2 := upm M1 0 6 0) (fun c q => cc c (by omega) (by omega)) (by rw [cc 72 (by decide) (by omega)]) (fun c q => by rw [upm_ne (by omega), b2 c (by omega), thr_ne _ _ (by omega)]) (fun j q => m0 j (by omega) (by omega)) un (fun i hi => by
        rw [cc 73 (by decide) (by omega), upm_ne (by decide), b2 5 (by decide), thr_ne _ _ (by decide)]
        obtain ⟨a, b, c⟩ := ac i hi
        exact ⟨a, b, by omega⟩) rfl (RS_e er q2 (a2.eqv (fun j _ _ => by rw [hM2, upm_ne (by omega), upm_ne (by omega)]))) (WF_e er q2)
      refine ⟨Mc3, upm M1 0 6 0, Or.inl ⟨?_, ?_, ?_⟩, s2⟩
      · unfold f_X10_restore f_X10_forgetActs
        rw [(rR_ok hp).1, Option.bind_some, ck_pos ⟨by omega, by omega⟩, Int.toNat_natCast, if_neg (by omega), a1, Option.bind_some, lt_eq, lt_eq, Option.bind_some, ← hM2, s1]; rfl
      · unfold f_X11_restore
        simp only [jn]
        rw [sl, Option.bind_some, Option.bind_some, if_neg (by decide), ck_pos ⟨by omega, by omega⟩, Int.toNat_natCast, if_neg z, gb11, Option.bind_some]
        simp only []
        rw [if_neg (by decide), ck_pos ⟨by omega, by omega⟩, show 1062 * (t : Int) = ((1062 * t : Nat) : Int) by omega, b1, Option.bind_some, lt_eq]
      · rw [upm_sl (by decide), b2 0 (by decide)]; exact thr_at _ _
  · refine ⟨Mc, upm Mr 0 7 1, Or.inr (Or.inl ⟨?_, ?_, thr_at _ _⟩), h.scr keepC.rfl keepR.thr (by omega)⟩
    · unfold x_X10_restore
      exact x1_2 hp
    · unfold f_X11_restore f_X11_isSlot
      simp only [jn]
      rw [isIn_eq, if_neg hp, Option.bind_some, ck_pos (Or.inl rfl), Option.bind_some, Option.bind_some, if_pos rfl, gb0, Option.bind_some]
      simp
