theorem p_load (hc : CutOK) {k : Nat} {Mc Mr : Mem} (h : Rel k Mc Mr) (hk : k < 512) : ∃ Mc' Mr' : Mem, st_load Mc Mr Mc' Mr' ∧ Rel (k + 1) Mc' Mr' := by
  obtain ⟨tx1, tx2, tx3⟩ := h.1
  obtain ⟨nT, hn⟩ : ∃ nT : Nat, Mr 0 29 = (nT : Int) := ⟨(Mr 0 29).toNat, by omega⟩
  -- the class begins
  obtain ⟨Ca, hCa⟩ : ∃ Ca : Mem, Ca = upm (upm (upm Mc 30 0 0) 30 3 0) 30 6 0 := ⟨_, rfl⟩
  have fCa : ∀ c : Nat, c ≠ 30 → Ca c = Mc c := fun c hc => by rw [hCa, upm_ne hc, upm_ne hc, upm_ne hc]
  obtain ⟨C0, l1, l2, l3⟩ := L_l17 (C0 := Ca) 5 0 jFuel Ca (by omega) (jF (by omega)) (fun _ _ _ => rfl) (fun i hi => absurd hi (Nat.not_lt_zero i))
  have fC0 : ∀ c : Nat, c ≠ 30 → c ≠ 38 → c ≠ 39 → C0 c = Mc c := fun c c1 c2 c3 => by rw [l2 c c2 c3, fCa c c1]
  -- the reference begins
  obtain ⟨Ma, a1, a2, a3⟩ := cop_R (a := 1) (na := 1062) (b := 2) (nb := 1062) (x := 0) (y := 0) (by decide) (by omega) (by omega) ⟨by omega, by omega⟩ (upm Mr 0 7 0)
  have a1 : f_X11_copies 1 1062 0 2 1062 0 (upm Mr 0 7 0) = some Ma := a1
  obtain ⟨Mb, b1, b2, b3⟩ := clr_R Ma
  have b4 := L_clr3 (M0 := Ma) 1062 0 jFuel Ma Mb (by omega) (jF (by omega)) (fun _ _ => rfl) b1
  obtain ⟨M0, hM0⟩ : ∃ M0 : Mem, M0 = upm Mb 0 38 0 := ⟨_, rfl⟩
  have fM0 : ∀ c : Nat, c ≠ 0 → c ≠ 1 → c ≠ 2 → M0 c = Mr c := fun c c0 c1 c2 => by rw [hM0, upm_ne c0, b2 c c1, a2 c c2, upm_ne c0]
  have fM00 : ∀ j : Nat, j ≠ 7 → j ≠ 38 → M0 0 j = Mr 0 j := fun j j1 j2 => by rw [hM0, upm_sl j2, b2 0 (by decide), a2 0 (by decide), upm_sl j1]
  have row0 : ∀ i : Nat, i < 1062 → M0 1 i = tI i := fun i hi => by rw [hM0, upm_ne (by decide)]; exact b3 i hi
  have rowB : ∀ i : Nat, 1062 ≤ i → M0 1 i = Mr 1 i := fun i hi => by rw [hM0, upm_ne (by decide), b4 i hi, a2 1 (by decide), upm_ne (by decide)]
  have row2 : ∀ i : Nat, i < 1062 → M0 2 i = Mr 1 i := fun i hi => by rw [hM0, upm_ne (by decide), b2 2 (by decide), a3, if_pos (by omega), upm_ne (by decide), Nat.zero_add, Nat.sub_zero]
  have tx0 : TX C0 M0 nT := ⟨by rw [fC0 1 (by decide) (by decide) (by decide), tx1, hn], by rw [fM00 29 (by decide) (by decide), hn], by omega, fun i hi => by rw [fM0 22 (by decide) (by decide) (by decide), fC0 2 (by decide) (by decide) (by decide)]; exact tx3 i (by omega)⟩
  obtain ⟨a, z, C1, M1, s1, s2, s3, s4, s5, s6, s7, s8, s9⟩ := start_both tx0
  have row1 : ∀ i : Nat, i < 1062 → M1 1 i = tI i := fun i hi => by rw [s8 1 (by decide)]; exact row0 i hi
  have w0 := wf0 row1
  have ld0 : LD C1 M1 := by
    have z5 := row1 5 (by decide)
    have z6 := row1 6 (by decide)
    have z7 := row1 7 (by decide)
    have z8 := row1 8 (by decide)
    have z9 := row1 9 (by decide)
    have z10 := row1 10 (by decide)
    simp only [tI] at z5 z6 z7 z8 z9 z10
    have c30 : C1 (29 + 1) = upm (upm (upm Mc 30 0 0) 30 3 0) 30 6 0 30 := by rw [s6 (29 + 1) (by decide), l2 (29 + 1) (by decide) (by decide), hCa]
    refine ⟨⟨⟨?_, ?_, ?_, fun i hi => by omega, fun i hi => by omega, fun i hi => by omega, fun i hi => ?_⟩, w0.1⟩, ⟨0, by decide, ?_, fun i hi => ?_⟩, z8, z9, z10⟩
    · rw [c30, upm_sl (by decide), upm_sl (by decide), upm_hit, z5]
    · rw [c30, upm_sl (by decide), upm_hit, z6]
    · rw [c30, upm_hit, z7]
    · rw [s6 (29 + 9) (by decide), row1 i (by omega)]; exact (l3 i hi).1
    · rw [s9 38 (by omega), hM0, upm_hit]; rfl
    · rw [s6 39 (by decide), Nat.zero_div]; exact (l3 i hi).2
  have st : LSt C0 M0 C1 M1 nT a z := ⟨⟨s4, s3, s5⟩, ld0, ⟨fun c c1 _ => s6 c c1, fun j hj => s7 j (by omega)⟩, ⟨fun c c0 _ => s8 c c0, fun j hj => s9 j (by omega), fun i _ => by rw [s8 1 (by decide)]⟩⟩
  have t5 := tx0.2.2.1
  have jf : 500 + 2 < jFuel := jF (by omega)
  have goC : ∀ r C', f_X3_readFrom_L52 29 jFuel 0 C1 = some (r, C') → f_X10_load Mc = if r = 0 then some ((-1), upm C' 1 1 0) else (f_X2_clear 29 (upm C' 1 1 0)).bind fun M36 => (f_X9_clear 29 M36).bind fun M46 => (f_X7_copyFrom 5 29 M46).bind fun M57 => (f_X10_forgetActs M57).bind fun M61 => (f_X10_settle M61).bind fun M65 => some ((M65 6 0), M65) := by
    intro r C' e
    have l1 : f_X3_readFrom_L17 29 jFuel 0 Ca = (f_X8_startReading C0).bind fun M47 => f_X3_readFrom_L52 29 jFuel 0 M47 := l1
    unfold f_X10_load f_X3_readFrom
    rw [lt_eq, lt_eq, lt_eq, show (29 + 1 : Nat) = 30 from rfl, ← hCa, l1, s1, Option.bind_some, e, Option.bind_some]
    dsimp only
    rw [lt_eq]
  have goR : f_X11_load Mr = f_X11_load_L31 jFuel M1 := by
    unfold f_X11_load
    rw [lt_eq, a1, Option.bind_some, b1, Option.bind_some, lt_eq, ← hM0, s2, Option.bind_some]
  -- what both have then
  have rel : ∀ (C' M' Mx : Mem), kLC C0 C' → kLM M0 M' → Mx 1 = Mr 1 → (∀ c : Nat, c ≠ 1 → Mx c = endM M' c) → C' 1 7 = M' 0 34 → C' 1 8 = M' 0 35 → Rel k (upm C' 1 1 0) Mx := by
    intro C' M' Mx kc km x1 x2 e7 e8
    refine read_rel h (fun c c1 c2 => ?_) (fun j j1 j2 => ?_) upm_hit (fun c q => ?_) ⟨?_, ?_⟩ ?_ ⟨?_, ?_⟩
    · rw [upm_ne c1, kc.1 c c1 (by omega), fC0 c (by omega) (by omega) (by omega)]
    · rw [upm_sl j1, kc.2 j (by omega), fC0 1 (by decide) (by decide) (by decide)]
    · by_cases y : c = 1
      · rw [y, x1]
      · rw [x2 c y, endM_c (by omega), km.1 c (by omega) y, fM0 c (by omega) y (by omega)]
    · rw [x2 0 (by decide), endM_0 (by decide) (by decide) (by decide), km.2.1 6 (by omega), fM00 6 (by decide) (by decide)]
    · rw [x2 0 (by decide), endM_0 (by decide) (by decide) (by decide), km.2.1 51 (by omega), fM00 51 (by decide) (by decide)]
    · rw [x2 0 (by decide)]; exact endM_v.1
    · rw [upm_sl (by decide), x2 0 (by decide), endM_v.2.1]; exact e7
    · rw [upm_sl (by decide), x2 0 (by decide), endM_v.2.2]; exact e8
  rcases load_run (C0 := C0) (M0 := M0) nT C1 M1 a z 0 st (by omega) (Nat.zero_le _) jFuel jFuel (by omega) (by omega) with ⟨C', M', a', z', e1, e2, rd, ld, kc, km⟩ | ⟨C', M', e1, e2, e3, kc, km⟩
  · have e1 : f_X3_readFrom_L52 29 jFuel 0 C1 = some (1, C') := e1
    have gC := goC 1 C' e1
    rw [if_neg (by decide)] at gC
    obtain ⟨⟨rl, wl⟩, _, z8, z9, z10⟩ := ld
    have gd := rd.2.2
    obtain ⟨Mx, hMx⟩ : ∃ Mx : Mem, Mx = fun c => if c = 1 then Mr 1 else endM M' c := ⟨_, rfl⟩
    have x1 : Mx 1 = Mr 1 := by rw [hMx]; exact if_pos rfl
    have x2 : ∀ c : Nat, c ≠ 1 → Mx c = endM M' c := fun c hc => by rw [hMx]; exact if_neg hc
    have rl0 := rel C' M' Mx kc km x1 x2 (by rw [gd.1, gd.2.2.1]) (by rw [gd.2.1, gd.2.2.2])
    obtain ⟨C2, hC2⟩ : ∃ C2 : Mem, C2 = upm (upm (upm (upm C' 1 1 0) (29 + 17) 0 0) (29 + 11) 0 0) (29 + 11) 1 0 := ⟨_, rfl⟩
    have f2 : ∀ c : Nat, c ≠ 1 → c ≠ 46 → c ≠ 40 → C2 c = C' c := fun c c1 c2 c3 => by rw [hC2, upm_ne (by omega), upm_ne (by omega), upm_ne (by omega), upm_ne c1]
    have wf' : WF (M' 1) := by
      refine ⟨wl, ?_, ?_⟩
      · unfold WFv
        rw [z9, z10]
        exact ⟨by omega, by omega, fun i hi => by omega, fun i hi => by omega, fun h => by omega, fun i hi => by omega⟩
      · unfold WFi
        rw [z8]
        exact ⟨by omega, rfl, by show 0 ≤ 30; omega, by show (0 : Int) ≤ 60; omega, fun i hi => by omega⟩
    have rs2 : RS C2 29 (M' 1) := by
      refine ⟨rl.eqv (fun j _ _ => f2 _ (by omega) (by omega) (by omega)), ⟨?_, ?_, fun i hi => by omega, fun i hi => by omega⟩, ?_, fun i hi => by omega⟩
      · rw [hC2, upm_sl (by decide), upm_hit, z9]
      · rw [hC2, upm_hit, z10]
      · rw [hC2, upm_ne (by decide), upm_ne (by decide), upm_hit, z8]; rfl
    obtain ⟨C3, c1, c2, c3⟩ := copy_C (M := C2) (s := 5) (s1 := 29) wf' (by omega) rs2
    obtain ⟨C4, hC4⟩ : ∃ C4 : Mem, C4 = upm (upm C3 0 5 0) 0 6 0 := ⟨_, rfl⟩
    have f4 : ∀ c : Nat, c ≠ 0 → (c < 6 ∨ 27 < c) → c ≠ 46 → c ≠ 40 → C4 c = upm C' 1 1 0 c := fun c c0 c1 c2' c3' => by rw [hC4, upm_ne c0, upm_ne c0, c3 c (by omega), hC2, upm_ne (by omega), upm_ne (by omega), upm_ne (by omega)]
    obtain ⟨M5, hM5⟩ : ∃ M5 : Mem, M5 = upm (endM M') 0 6 0 := ⟨_, rfl⟩
    have m5 : ∀ c : Nat, c ≠ 0 → M5 c = endM M' c := fun c hc => by rw [hM5, upm_ne hc]
    have m51 : M5 1 = M' 1 := by rw [m5 1 (by decide), endM_c (by decide)]
    have un : RUn C4 M5 := by
      have u5 : C4 0 5 = 0 := by rw [hC4, upm_sl (by decide), upm_hit]
      have u6 : C4 0 6 = 0 := by rw [hC4, upm_hit]
      have m6 : M5 0 6 = 0 := by rw [hM5, upm_hit]
      exact ⟨by rw [u5, m6], by rw [m6]; omega, by rw [u6]; omega, fun j hj => by rw [m6] at hj; omega⟩
    obtain ⟨C5, w1, w2, w3, w4⟩ := act_done hc (k' := k + 1) rl0 (Mc2 := C4) (M2 := M5) (fun c q => f4 c (by omega) (by omega) (by omega) (by omega)) (by rw [f4 72 (by decide) (by decide) (by decide) (by decide)]) (fun c q => by rw [m5 c (by omega), x2 c (by omega)]) (fun j q => by rw [hM5, upm_sl (by omega), x2 0 (by decide)]) un (fun i hi => by
      rw [f4 73 (by decide) (by decide) (by decide) (by decide), m5 5 (by decide), ← x2 5 (by decide)]
      have := rl0.2.2.2.1 i hi
      exact ⟨this.1, this.2.1, by omega⟩) m51 (c2.eqv (fun j _ _ => by rw [hC4, upm_ne (by omega), upm_ne (by omega)])) wf'
    refine ⟨C5, M5, ⟨M' 1 5, ?_, ?_⟩, w2⟩
    · rw [gC]
      unfold f_X2_clear f_X9_clear f_X10_forgetActs
      rw [lt_eq, Option.bind_some, lt_eq, lt_eq, Option.bind_some, ← hC2, c1, Option.bind_some, lt_eq, lt_eq, Option.bind_some, ← hC4, w1, Option.bind_some, w3 6 (by omega), hC4, upm_ne (by decide), upm_ne (by decide), show C3 6 0 = M' 1 5 from c2.1.1]
    · rw [goR, e2]
      unfold postL
      rw [ends_R, Option.bind_some]
      have g0 : f_X11_isGood (endM M') = some 1 := good_1 (by rw [endM_0 (by decide) (by decide) (by decide)]; exact gd.1)
      have g0 : f_X11_isGood (upm (upm (upm M' 0 29 0) 0 36 (M' 0 34)) 0 37 (M' 0 35)) = some 1 := g0
      rw [g0, Option.bind_some, if_neg (by decide), lt_eq]
      have e5 : endM M' 1 5 = M' 1 5 := by rw [endM_c (by decide)]
      have e5 : (upm (upm (upm M' 0 29 0) 0 36 (M' 0 34)) 0 37 (M' 0 35)) 1 5 = M' 1 5 := e5
      rw [e5, hM5]; rfl
  · have e1 : f_X3_readFrom_L52 29 jFuel 0 C1 = some (0, C') := e1
    have gC := goC 0 C' e1
    rw [if_pos rfl] at gC
    obtain ⟨Mz, n1, n2, n3⟩ := cop_R (a := 2) (na := 1062) (b := 1) (nb := 1062) (x := 0) (y := 0) (by decide) (by omega) (by omega) ⟨by omega, by omega⟩ (endM M')
    have n1 : f_X11_copies 2 1062 0 1 1062 0 (endM M') = some Mz := n1
    have rz : Mz 1 = Mr 1 := by
      funext i
      rw [n3]
      by_cases y : i < 1062
      · rw [if_pos (by omega), endM_c (by decide), km.1 2 (by decide) (by decide), Nat.zero_add, Nat.sub_zero, row2 i y]
      · rw [if_neg (by omega), endM_c (by decide), km.2.2 i (by omega), rowB i (by omega)]
    have rl0 := rel C' M' Mz kc km rz n2 e3.2.1 e3.2.2
    refine ⟨upm C' 1 1 0, Mz, ⟨-1, gC, ?_⟩, rl0.scr keepC.rfl keepR.rfl (by omega)⟩
    rw [goR, e2]
    unfold postL
    rw [ends_R, Option.bind_some]
    have g0 : f_X11_isGood (endM M') = some 0 := good_0 (by rw [endM_0 (by decide) (by decide) (by decide)]; exact e3.1)
    have g0 : f_X11_isGood (upm (upm (upm M' 0 29 0) 0 36 (M' 0 34)) 0 37 (M' 0 35)) = some 0 := g0
    rw [g0, Option.bind_some, if_pos rfl]
    have n1 : f_X11_copies 2 1062 0 1 1062 0 (upm (upm (upm M' 0 29 0) 0 36 (M' 0 34)) 0 37 (M' 0 35)) = some Mz := n1
    rw [n1]; rfl
