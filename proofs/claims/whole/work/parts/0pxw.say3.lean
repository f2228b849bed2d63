/-- after a text has been read, what both have but for the draft -/
theorem read_rel {k : Nat} {Mc Mr C M : Mem} (h : Rel k Mc Mr) (fc : ∀ c : Nat, c ≠ 1 → (c < 28 ∨ 52 < c) → C c = Mc c) (f1 : ∀ j : Nat, j ≠ 1 → j < 2 ∨ 8 < j → C 1 j = Mc 1 j) (c11 : C 1 1 = 0) (fr : ∀ c : Nat, c = 1 ∨ (3 ≤ c ∧ c ≤ 6) ∨ c = 29 → M c = Mr c) (f0 : M 0 6 = Mr 0 6 ∧ M 0 51 = Mr 0 51) (m29 : M 0 29 = 0) (e : C 1 7 = M 0 36 ∧ C 1 8 = M 0 37) : Rel k C M := by
  refine h.txt ⟨fun c hc => fc c (by omega) (by omega), ?_, ?_, ?_, ?_, ?_, ?_⟩ ⟨fr, f0⟩ ⟨?_, ?_, fun i hi => ?_⟩ e (Nat.le_refl _)
  · rw [fc 0 (by decide) (by decide)]
  · rw [fc 0 (by decide) (by decide)]
  · rw [fc 3 (by decide) (by decide)]
  · rw [fc 56 (by decide) (by decide)]
  · rw [fc 56 (by decide) (by decide)]
  · rw [fc 72 (by decide) (by decide)]
  · rw [c11, m29]
  · rw [m29]; omega
  · rw [m29] at hi; omega
theorem p_say (hc : CutOK) {k : Nat} {Mc Mr : Mem} (h : Rel k Mc Mr) (hk : k < 512) : ∃ Mc' Mr' : Mem, st_say Mc Mr Mc' Mr' ∧ Rel (k + 1) Mc' Mr' := by
  obtain ⟨tx1, tx2, tx3⟩ := h.1
  obtain ⟨nT, hn⟩ : ∃ nT : Nat, Mr 0 29 = (nT : Int) := ⟨(Mr 0 29).toNat, by omega⟩
  obtain ⟨C0, hC0⟩ : ∃ C0 : Mem, C0 = upm (upm Mc (29 + 11) 0 0) (29 + 11) 1 0 := ⟨_, rfl⟩
  obtain ⟨M0, hM0⟩ : ∃ M0 : Mem, M0 = upm (upm (upm Mr 0 7 0) 0 47 0) 0 48 0 := ⟨_, rfl⟩
  have fC0 : ∀ c : Nat, c ≠ 40 → C0 c = Mc c := fun c hc => by rw [hC0, upm_ne hc, upm_ne hc]
  have fM0 : ∀ c : Nat, c ≠ 0 → M0 c = Mr c := fun c hc => by rw [hM0, upm_ne hc, upm_ne hc, upm_ne hc]
  have fM00 : ∀ j : Nat, j ≠ 7 → j ≠ 47 → j ≠ 48 → M0 0 j = Mr 0 j := fun j j1 j2 j3 => by rw [hM0, upm_sl j3, upm_sl j2, upm_sl j1]
  have tx0 : TX C0 M0 nT := ⟨by rw [fC0 1 (by decide), tx1, hn], by rw [fM00 29 (by decide) (by decide) (by decide), hn], by omega, fun i hi => by rw [fM0 22 (by decide), fC0 2 (by decide)]; exact tx3 i (by omega)⟩
  obtain ⟨a, z, C1, M1, s1, s2, s3, s4, s5, s6, s7, s8, s9⟩ := start_both tx0
  have vd0 : VD C1 M1 0 0 := ⟨⟨by rw [s6 40 (by decide), hC0, upm_sl (by decide), upm_hit]; rfl, by rw [s9 48 (by omega), hM0, upm_hit]; rfl, by rw [s6 40 (by decide), hC0, upm_hit]; rfl, by rw [s9 47 (by omega), hM0, upm_sl (by decide), upm_hit]; rfl, by omega⟩, fun i hi => absurd hi (Nat.not_lt_zero i), fun i hi => absurd hi (Nat.not_lt_zero i), fun i hi => by omega, fun hi => by omega⟩
  have st : VSt C0 M0 C1 M1 nT 0 0 a z := ⟨s4, s3, vd0, Nat.zero_le _, s5, ⟨fun c c1 _ => s6 c c1, s7⟩, ⟨fun c c1 _ => s8 c c1, fun j hj => s9 j (by omega)⟩⟩
  have t5 := tx0.2.2.1
  have jf : 500 + 2 < jFuel := jF (by omega)
  obtain ⟨r, C2, M2, e1, e2, ⟨v1, v2⟩, v3, v4, v5, v6, v7⟩ := (say_run nT C1 M1 0 0 a z 0 st (by omega) (Nat.zero_le _)).1 (fun h => by omega) jFuel jFuel (by omega) (by omega)
  have e1 : f_X9_readFrom_L12 29 jFuel 0 0 C1 = some (r, C2) := e1
  have rC : f_X9_readFrom 29 Mc = some (r, C2) := by
    unfold f_X9_readFrom f_X9_clear
    rw [lt_eq, lt_eq, ← hC0, Option.bind_some, s1, Option.bind_some, e1]
  have rR : f_X11_readsVoice (upm Mr 0 7 0) = some M2 := by
    unfold f_X11_readsVoice
    rw [lt_eq, lt_eq, ← hM0, s2, Option.bind_some, e2]
  obtain ⟨C3, hC3⟩ : ∃ C3 : Mem, C3 = upm C2 1 1 0 := ⟨_, rfl⟩
  have f3 : ∀ c : Nat, c ≠ 1 → C3 c = C2 c := fun c hc => by rw [hC3]; exact upm_ne hc
  have rel : Rel k C3 M2 := read_rel h (fun c c1 c2 => by rw [f3 c c1, v1 c c1 (by omega), fC0 c (by omega)]) (fun j j1 j2 => by rw [hC3, upm_sl j1, v2 j (by omega), fC0 1 (by decide)]) (by rw [hC3, upm_hit]) (fun c q => by rw [v3.1 c (by omega) (by omega), fM0 c (by omega)]) ⟨by rw [v3.2 6 (by omega), fM00 6 (by decide) (by decide) (by decide)], by rw [v3.2 51 (by omega), fM00 51 (by decide) (by decide) (by decide)]⟩ v4 (by rw [hC3, upm_sl (by decide), upm_sl (by decide)]; exact ⟨v5, v6⟩)
  have goC : f_X10_say Mc = if r = 0 then (f_X10_refuse 1 C3).bind fun (r29, M29) => some (r29, M29) else (f_X10_remember C3).bind fun M34 => (f_X9_copyFrom 5 29 M34).bind fun M51 => (f_X10_settle M51).bind fun M55 => some ((M55 16 0), M55) := by
    unfold f_X10_say
    rw [rC, Option.bind_some]
    dsimp only
    rw [lt_eq, ← hC3]
  have goR : f_X11_say Mr = (f_X11_isGood M2).bind fun r10 => if r10 = 0 then (f_X11_refuses 1 M2).bind fun (r18, M18) => some (r18, M18) else (f_X11_begins M2).bind fun M23 => (f_X11_takesVoice M23).bind fun M27 => some ((M27 0 48), M27) := by
    unfold f_X11_say
    rw [lt_eq, rR, Option.bind_some]
  rcases v7 with ⟨r1, g1, n, l, vd, l5, fl⟩ | ⟨r0, b0⟩
  · rw [if_neg (by omega)] at goC
    rw [good_1 g1, Option.bind_some, if_neg (by decide)] at goR
    obtain ⟨Mc2, M3, t1, t2, t3, t4, t5, t6, t7⟩ := both_rem rel hk (M := M2) rfl rfl rfl rfl
    obtain ⟨⟨d1, d2, d3, d4, d5⟩, _⟩ := id vd
    obtain ⟨M4, u1, u2, u3⟩ := takesV_R (M := M3) (n := n) (l := l) (by rw [t5 48 (by decide)]; exact d2) (by rw [t5 47 (by decide)]; exact d4)
    have e31 : M3 1 = M2 1 := t4 1 (by decide) (by decide) (by decide)
    rw [e31] at u3
    have u3' : VRow M2 (M2 1) n l (M4 1) := by
      unfold VRow at u3 ⊢
      rw [t4 24 (by decide) (by decide) (by decide), t4 25 (by decide) (by decide) (by decide), t4 26 (by decide) (by decide) (by decide), t4 27 (by decide) (by decide) (by decide)] at u3
      exact u3
    have vd3 : VD C3 M2 n l := by
      unfold VD at vd ⊢
      rw [f3 40 (by decide), f3 41 (by decide), f3 42 (by decide), f3 43 (by decide), f3 44 (by decide), f3 45 (by decide)]; exact vd
    obtain ⟨rv, wv⟩ := vd_row vd3 l5 u3' fl
    have ov := u3'.2.2.2
    have wl := outV_l (M := Mc2) (s := 5) ov rel.wf.1
    have wi := outV_i ov rel.wf.2.2 rel.wf.1.2.2.2.2.2.1.2
    have rs2 : RS Mc2 5 (M2 1) := rel.rs.eqv (fun j _ _ => t3 _ (by omega) (by omega) (by omega))
    have ri := outV_RSi ov rel.wf.2.2 rs2.2.2
    obtain ⟨Mc3, c1, c2, c3⟩ := copy9 (M := Mc2) (s := 5) (s1 := 29) wv (by omega) (rv.eqv (fun j _ _ => t3 _ (by omega) (by omega) (by omega)))
    have rs3 : RS Mc3 5 (M4 1) := ⟨(wl.2 rs2.1).eqv (fun j _ _ => c3 _ (by omega)), c2, ri.eqv (fun j _ _ => c3 _ (by omega))⟩
    obtain ⟨Mc4, w1, w2, w3, w4⟩ := act_done hc (k' := k + 1) rel (Mc2 := Mc3) (M2 := M4) (fun c q => by rw [c3 c (by omega), t3 c (by omega) (by omega) (by omega)]) (by rw [c3 72 (by omega), t3 72 (by decide) (by decide) (by omega)]) (fun c q => by rw [u2 c (by omega), t4 c (by omega) (by omega) (by omega)]) (fun j q => by rw [u2 0 (by decide), t5 j (by omega)]) (t6.eqv (fun c q => c3 c (by omega)) (by rw [u2 0 (by decide)]) (u2 3 (by decide))) (fun i hi => by rw [c3 73 (by omega), u2 5 (by decide)]; exact t7 i hi) rfl rs3 ⟨wl.1, wv, wi⟩
    refine ⟨Mc4, M4, ⟨(n : Int), ?_, ?_⟩, w2⟩
    · rw [goC, t1, Option.bind_some, c1, Option.bind_some, w1, Option.bind_some, w3 16 (by omega), show Mc3 16 0 = M4 1 9 from c2.1, u3'.1.1]
    · rw [goR, t2, Option.bind_some, u1, Option.bind_some, u2 0 (by decide), t5 48 (by decide), d2]
  · rw [if_pos r0] at goC
    rw [good_0 b0, Option.bind_some, if_pos rfl] at goR
    obtain ⟨Mc', M', b1, b2, b3, b4⟩ := both_ref rel hk (c := 1) ⟨by omega, by omega⟩ keepR.rfl
    have b1 : f_X10_refuse 1 C3 = some (-1, Mc') := b1
    have b2 : f_X11_refuses 1 M2 = some (-1, M') := b2
    exact ⟨Mc', M', ⟨-1, by rw [goC, b1]; rfl, by rw [goR, b2]; rfl⟩, b4⟩
