/-! a library read on both sides: the statements -/
def LD (C M : Mem) : Prop := (RSl C 29 (M 1) ∧ WFl (M 1)) ∧ (∃ f : Nat, f < 32 ∧ M 0 38 = (f : Int) ∧ ∀ i : Nat, i < 5 → C 39 i = ((f / 2 ^ i % 2 : Nat) : Int)) ∧ M 1 8 = 0 ∧ M 1 9 = 0 ∧ M 1 10 = 0
def kLC (C C' : Mem) : Prop := (∀ c : Nat, c ≠ 1 → (c < 30 ∨ 39 < c) → C' c = C c) ∧ ∀ j : Nat, j < 2 ∨ 8 < j → C' 1 j = C 1 j
def kLM (M M' : Mem) : Prop := (∀ c : Nat, c ≠ 0 → c ≠ 1 → M' c = M c) ∧ (∀ j : Nat, j < 30 ∨ (35 < j ∧ j ≠ 38) → M' 0 j = M 0 j) ∧ ∀ i : Nat, 1062 ≤ i → M' 1 i = M 1 i
theorem kLC.trans {A B C : Mem} (h : kLC A B) (h2 : kLC B C) : kLC A C := ⟨fun c c1 c2 => (h2.1 c c1 c2).trans (h.1 c c1 c2), fun j hj => (h2.2 j hj).trans (h.2 j hj)⟩
theorem kLM.trans {A B C : Mem} (h : kLM A B) (h2 : kLM B C) : kLM A C := ⟨fun c c1 c2 => (h2.1 c c1 c2).trans (h.1 c c1 c2), fun j hj => (h2.2.1 j hj).trans (h.2.1 j hj), fun i hi => (h2.2.2 i hi).trans (h.2.2 i hi)⟩
theorem kNC.L {A B : Mem} (h : kNC A B) : kLC A B := ⟨fun c c1 _ => h.1 c c1, h.2⟩
theorem kNM.L {A B : Mem} (h : kNM A B) : kLM A B := ⟨fun c c1 _ => h.1 c c1, fun j hj => h.2 j (by omega), fun i _ => by rw [h.1 1 (by decide)]⟩
theorem kLC.up {A : Mem} {c k : Nat} {v : Int} (h : 30 ≤ c ∧ c ≤ 39) : kLC A (upm A c k v) := ⟨fun b _ b2 => upm_ne (by omega), fun j _ => by rw [upm_ne (by omega)]⟩
theorem kLM.up {A : Mem} {k : Nat} {v : Int} (h : k < 1062) : kLM A (upm A 1 k v) := ⟨fun b _ b2 => upm_ne b2, fun j _ => by rw [upm_ne (by decide)], fun i hi => upm_sl (by omega)⟩
theorem RD.eqv {C M C' M' : Mem} {n a z : Nat} (h : RD C M n a z) (c1 : C' 1 = C 1) (c2 : C' 2 = C 2) (m0 : ∀ j : Nat, j ≠ 38 → M' 0 j = M 0 j) (m2 : M' 22 = M 22) : RD C' M' n a z := by
  unfold RD TX Tok goodT at h ⊢
  rw [c1, c2, m2, m0 29 (by decide), m0 30 (by decide), m0 31 (by decide), m0 32 (by decide), m0 33 (by decide), m0 34 (by decide), m0 35 (by decide)]
  exact h
def LSt (C0 M0 C M : Mem) (n a z : Nat) : Prop := RD C M n a z ∧ LD C M ∧ kLC C0 C ∧ kLM M0 M
def Out (C0 M0 : Mem) (n z : Nat) (rc : Option (Int × Mem)) (rm : Option Mem) : Prop := (∃ C' M' : Mem, rc = some (0, C') ∧ rm = some M' ∧ badT C' M' ∧ kLC C0 C' ∧ kLM M0 M') ∨ ∃ (C' M' : Mem) (a' z' : Nat), rc = some (1, C') ∧ rm = some M' ∧ LSt C0 M0 C' M' n a' z' ∧ z ≤ a'
theorem WFl_shot {g g' : Row} {c : Nat} {v1 v2 : Int} (h : WFl g) (h5 : g 5 = (c : Int)) (hc : c < 12) (b1 : 0 ≤ v1 ∧ v1 ≤ 5) (b2 : 1 ≤ v2 ∧ v2 ≤ 400) (e5 : g' 5 = (c : Int) + 1) (e1 : g' (12 + 2 * c) = v1) (e2 : g' (13 + 2 * c) = v2) (e : ∀ i : Nat, i ≠ 5 → i ≠ 12 + 2 * c → i ≠ 13 + 2 * c → g' i = g i) : WFl g' := by
  obtain ⟨a0, a1, a2, a3, a4, a5, a6, a7, a8, a9, a10, a11⟩ := h
  unfold WFl
  rw [e5, e 0 (by omega) (by omega) (by omega), e 1 (by omega) (by omega) (by omega), e 2 (by omega) (by omega) (by omega), e 3 (by omega) (by omega) (by omega), e 4 (by omega) (by omega) (by omega), e 6 (by omega) (by omega) (by omega), e 7 (by omega) (by omega) (by omega)]
  refine ⟨a0, a1, a2, a3, a4, by omega, a6, a7, fun i hi => ?_, fun i hi => ?_, fun i hi => ?_, fun i j h1 h2 h3 => a11 i j h1 h2 ?_⟩
  · by_cases z : i = c
    · rw [z, e1, e2]; exact ⟨b1, b2⟩
    · rw [e _ (by omega) (by omega) (by omega), e _ (by omega) (by omega) (by omega)]; exact a8 i (by omega)
  · have q := a9 i hi
    rw [e (36 + 10 * i) (by omega) (by omega) (by omega)]
    refine ⟨q.1, fun t ht => ?_⟩
    rw [e _ (by omega) (by omega) (by omega)]; exact q.2 t ht
  · rw [e (96 + 3 * i) (by omega) (by omega) (by omega), e (97 + 3 * i) (by omega) (by omega) (by omega), e (98 + 3 * i) (by omega) (by omega) (by omega)]; exact a10 i hi
  · unfold nmSame at h3 ⊢
    rw [e (36 + 10 * i) (by omega) (by omega) (by omega), e (36 + 10 * j) (by omega) (by omega) (by omega)] at h3
    refine ⟨h3.1, fun t ht => ?_⟩
    have := h3.2 t ht
    rw [e _ (by omega) (by omega) (by omega), e _ (by omega) (by omega) (by omega)] at this; exact this
theorem RSl_shot {C C' : Mem} {g g' : Row} {c : Nat} {v1 v2 : Int} (r : RSl C 29 g) (h : WFl g) (h5 : g 5 = (c : Int)) (hc : c < 12) (e5 : g' 5 = (c : Int) + 1) (e1 : g' (12 + 2 * c) = v1) (e2 : g' (13 + 2 * c) = v2) (e : ∀ i : Nat, i ≠ 5 → i ≠ 12 + 2 * c → i ≠ 13 + 2 * c → g' i = g i) (k0 : C' 30 0 = (c : Int) + 1) (k3 : ∀ j : Nat, j ≠ 0 → C' 30 j = C 30 j) (k31 : ∀ j : Nat, C' 31 j = if j = c then v1 else C 31 j) (k32 : ∀ j : Nat, C' 32 j = if j = c then v2 else C 32 j) (kr : ∀ b : Nat, 33 ≤ b → b ≤ 38 → C' b = C b) : RSl C' 29 g' := by
  obtain ⟨a1, a2, a3, a4, a5, a6, a7⟩ := r
  have h6 := h.2.2.2.2.2.2.1
  have h7 := h.2.2.2.2.2.2.2.1
  refine ⟨by rw [e5]; exact k0, ?_, ?_, fun i hi => ?_, fun i hi => ?_, fun i hi => ?_, fun i hi => ?_⟩
  · rw [e 6 (by omega) (by omega) (by omega), show (29 + 1 : Nat) = 30 from rfl, k3 3 (by decide)]; exact a2
  · rw [e 7 (by omega) (by omega) (by omega), show (29 + 1 : Nat) = 30 from rfl, k3 6 (by decide)]; exact a3
  · rw [show (29 + 2 : Nat) = 31 from rfl, show (29 + 3 : Nat) = 32 from rfl, k31, k32]
    by_cases z : i = c
    · rw [if_pos z, if_pos z, z, e1, e2]; exact ⟨rfl, rfl⟩
    · rw [if_neg z, if_neg z, e _ (by omega) (by omega) (by omega), e _ (by omega) (by omega) (by omega)]; exact a4 i (by omega)
  · rw [e 6 (by omega) (by omega) (by omega)] at hi
    have q := (h.2.2.2.2.2.2.2.2.2.1 i hi).1
    rw [kr (29 + 4) (by decide) (by decide), kr (29 + 5) (by decide) (by decide), e (36 + 10 * i) (by omega) (by omega) (by omega)]
    refine ⟨(a5 i hi).1, fun u hu => ?_⟩
    rw [e _ (by omega) (by omega) (by omega)]; exact (a5 i hi).2 u hu
  · rw [e 7 (by omega) (by omega) (by omega)] at hi
    rw [kr (29 + 6) (by decide) (by decide), kr (29 + 7) (by decide) (by decide), kr (29 + 8) (by decide) (by decide), e (96 + 3 * i) (by omega) (by omega) (by omega), e (97 + 3 * i) (by omega) (by omega) (by omega), e (98 + 3 * i) (by omega) (by omega) (by omega)]; exact a6 i hi
  · rw [kr (29 + 9) (by decide) (by decide), e i (by omega) (by omega) (by omega)]; exact a7 i hi
/-- the bad road of a shot -/
theorem shot_bad {M : Mem} (h : M 0 34 ≠ 0) : ((f_X11_goesOn M).bind fun M17 => (f_X11_reads 0 5 M17).bind fun (r23, M23) => (f_X11_reads 1 400 M23).bind fun (r32, M32) => (f_X11_isGood M32).bind fun r37 => if r37 = 0 then some M32 else none) = some M := by
  rw [goes_b h, Option.bind_some, reads_b h, Option.bind_some]
  dsimp only
  rw [reads_b h, Option.bind_some]
  dsimp only
  rw [good_0 h, Option.bind_some, if_pos rfl]
theorem shot_both {C0 M0 C M : Mem} {n a z : Nat} (h : LSt C0 M0 C M n a z) : Out C0 M0 n z (f_X3_readShot 29 C) (f_X11_readsShot M) := by
  obtain ⟨rd, ⟨⟨rl, wl⟩, ⟨fl, fl1, fl2, fl3⟩, z8, z9, z10⟩, kc, km⟩ := h
  have h5 := wl.2.2.2.2.2.1
  obtain ⟨c, hc⟩ : ∃ c : Nat, M 1 5 = (c : Int) := ⟨(M 1 5).toNat, by omega⟩
  have c30 : C (29 + 1) 0 = (c : Int) := by rw [rl.1, hc]
  by_cases c12 : c = 12
  · obtain ⟨b1, b2, b3⟩ := fail_both rd.2.2 rd.2.1 (c := 4) (by decide)
    refine Or.inl ⟨_, _, ?_, ?_, b3, kc.trans kNC.fail.L, km.trans kNM.fail.L⟩
    · unfold f_X3_readShot
      rw [c30, if_neg (by omega), b1, Option.bind_some]
      dsimp only
      rw [ck_pos (Or.inl rfl)]
    · unfold f_X11_readsShot
      rw [jn_eq, show (5 : Int).toNat = 5 from rfl, if_pos (by omega), b2, Option.bind_some]
      dsimp only
      rw [goes_b b3.1, Option.bind_some, reads_b b3.1, Option.bind_some]
      dsimp only
      rw [reads_b b3.1, Option.bind_some]
      dsimp only
      rw [good_0 b3.1, Option.bind_some, if_pos rfl]
  · obtain ⟨C1, M1, a1, z1, e1, _, e3, rd1, e5, e6, e7⟩ := next_both rd
    have gC : f_X3_readShot 29 C = (f_X8_takeNumber 0 5 C1).bind fun (r22, M22) => if r22 = 0 then some ((0 : Int), M22) else ck ((0 : Int) ≤ (M22 (29 + 1) 0) ∧ (M22 (29 + 1) 0) < 12) <| lt (upm M22 (29 + 2) (M22 (29 + 1) 0).toNat (M22 1 6)) fun N5 => (f_X8_takeNumber 1 400 N5).bind fun (r48, M48) => if r48 = 0 then some ((0 : Int), M48) else ck ((0 : Int) ≤ (M48 (29 + 1) 0) ∧ (M48 (29 + 1) 0) < 12) <| lt (upm M48 (29 + 3) (M48 (29 + 1) 0).toNat (M48 1 6)) fun N9 => ck (inR ((M48 (29 + 1) 0) + 1)) <| lt (upm N9 (29 + 1) 0 ((M48 (29 + 1) 0) + 1)) fun N12 => some ((1 : Int), N12) := by
      unfold f_X3_readShot
      rw [c30, if_pos (by omega), e1, Option.bind_some]
    have gR : ∀ R : Option Mem, ((f_X11_reads 0 5 M1).bind fun (r23, M23) => (f_X11_reads 1 400 M23).bind fun (r32, M32) => (f_X11_isGood M32).bind fun r37 => if r37 = 0 then some M32 else ck (inR (2 * (M32 1 5))) <| ck (inR (12 + (2 * (M32 1 5)))) <| ck ((0 : Int) ≤ (12 + (2 * (M32 1 5))) ∧ (12 + (2 * (M32 1 5))) < 1062) <| lt (upm M32 1 (12 + (2 * (M32 1 5))).toNat r23) fun N9 => ck (inR (2 * (N9 1 5))) <| ck (inR (12 + (2 * (N9 1 5)))) <| ck (inR ((12 + (2 * (N9 1 5))) + 1)) <| ck ((0 : Int) ≤ ((12 + (2 * (N9 1 5))) + 1) ∧ ((12 + (2 * (N9 1 5))) + 1) < 1062) <| lt (upm N9 1 ((12 + (2 * (N9 1 5))) + 1).toNat r32) fun N15 => ck (inR ((N15 1 5) + 1)) <| lt (upm N15 1 5 ((N15 1 5) + 1)) fun N18 => some N18) = R → f_X11_readsShot M = R := by
      intro R hR
      unfold f_X11_readsShot
      rw [jn_eq, show (5 : Int).toNat = 5 from rfl, if_neg (by omega)]
      dsimp only
      rw [e3, Option.bind_some]
      exact hR
    rcases num_both rd1 (lo := 0) (hi := 5) (by omega) (by omega) with ⟨C2, M2, n1, n2, n3, n4, n5⟩ | ⟨C2, M2, a2, z2, v1, n1, n2, n3, n4, rd2, n6, n7, n8⟩
    · refine Or.inl ⟨C2, M2, ?_, ?_, n3, kc.trans (e6.N.trans n4).L, km.trans (e7.N.trans n5).L⟩
      · rw [gC, n1, Option.bind_some]
        dsimp only
        rw [if_pos rfl]
      · refine gR _ ?_
        rw [n2, Option.bind_some]
        dsimp only
        rw [reads_b n3.1, Option.bind_some]
        dsimp only
        rw [good_0 n3.1, Option.bind_some, if_pos rfl]
    · have kc2 := e6.N.trans n7
      have km2 := e7.N.trans n8
      have c30' : C2 (29 + 1) 0 = (c : Int) := by rw [kc2.1 (29 + 1) (by decide)]; exact c30
      obtain ⟨C3, hC3⟩ : ∃ C3 : Mem, C3 = upm C2 31 c v1 := ⟨_, rfl⟩
      have rd3 : RD C3 M2 n a2 z2 := rd2.eqv (by rw [hC3, upm_ne (by decide)]) (by rw [hC3, upm_ne (by decide)]) (fun _ _ => rfl) rfl
      have kc3 : kLC C C3 := kc2.L.trans (by rw [hC3]; exact kLC.up (by omega))
      rcases num_both rd3 (lo := 1) (hi := 400) (by omega) (by omega) with ⟨C4, M4, p1, p2, p3, p4, p5⟩ | ⟨C4, M4, a4, z4, v2, p1, p2, p3, p4, rd4, p6, p7, p8⟩
      · refine Or.inl ⟨C4, M4, ?_, ?_, p3, kc.trans (kc3.trans p4.L), km.trans (km2.trans p5).L⟩
        · rw [gC, n1, Option.bind_some]
          dsimp only
          rw [if_neg (by decide), c30', ck_pos ⟨by omega, by omega⟩, Int.toNat_natCast, n3, lt_eq, show (29 + 2 : Nat) = 31 from rfl, ← hC3, p1, Option.bind_some]
          dsimp only
          rw [if_pos rfl]
        · refine gR _ ?_
          rw [n2, Option.bind_some]
          dsimp only
          rw [p2, Option.bind_some]
          dsimp only
          rw [good_0 p3.1, Option.bind_some, if_pos rfl]
      · have c30'' : C4 (29 + 1) 0 = (c : Int) := by rw [p7.1 (29 + 1) (by decide), hC3, upm_ne (by decide)]; exact c30'
        have row : M4 1 = M 1 := by rw [p8.1 1 (by decide), km2.1 1 (by decide)]
        obtain ⟨C5, hC5⟩ : ∃ C5 : Mem, C5 = upm (upm C4 32 c v2) 30 0 ((c : Int) + 1) := ⟨_, rfl⟩
        obtain ⟨M5, hM5⟩ : ∃ M5 : Mem, M5 = upm (upm (upm M4 1 (12 + 2 * c) v1) 1 (13 + 2 * c) v2) 1 5 ((c : Int) + 1) := ⟨_, rfl⟩
        have fC : ∀ b : Nat, b ≠ 1 → b ≠ 30 → b ≠ 31 → b ≠ 32 → C5 b = C b := fun b b1 b2 b3 b4 => by rw [hC5, upm_ne b2, upm_ne b4, p7.1 b b1, hC3, upm_ne b3, kc2.1 b b1]
        have g5 : M5 1 5 = (c : Int) + 1 := by rw [hM5, upm_hit]
        have g12 : M5 1 (12 + 2 * c) = v1 := by rw [hM5, upm_sl (by omega), upm_sl (by omega), upm_hit]
        have g13 : M5 1 (13 + 2 * c) = v2 := by rw [hM5, upm_sl (by omega), upm_hit]
        have ge : ∀ i : Nat, i ≠ 5 → i ≠ 12 + 2 * c → i ≠ 13 + 2 * c → M5 1 i = M 1 i := fun i i1 i2 i3 => by rw [hM5, upm_sl i1, upm_sl i3, upm_sl i2, row]
        have m50 : M5 0 = M4 0 := by rw [hM5, upm_ne (by decide), upm_ne (by decide), upm_ne (by decide)]
        have rd5 : RD C5 M5 n a4 z4 := rd4.eqv (by rw [hC5, upm_ne (by decide), upm_ne (by decide)]) (by rw [hC5, upm_ne (by decide), upm_ne (by decide)]) (fun j _ => by rw [m50]) (by rw [hM5, upm_ne (by decide), upm_ne (by decide), upm_ne (by decide)])
        refine Or.inr ⟨C5, M5, a4, z4, ?_, ?_, ⟨rd5, ⟨⟨?_, ?_⟩, ⟨fl, fl1, ?_, fun i hi => by rw [fC 39 (by decide) (by decide) (by decide) (by decide)]; exact fl3 i hi⟩, by rw [ge 8 (by omega) (by omega) (by omega)]; exact z8, by rw [ge 9 (by omega) (by omega) (by omega)]; exact z9, by rw [ge 10 (by omega) (by omega) (by omega)]; exact z10⟩, kc.trans (kc3.trans (p7.L.trans ?_)), km.trans ((km2.trans p8).L.trans ?_)⟩, by have := rd1.2.1.2.1; have := rd2.2.1.2.1; omega⟩
        · rw [gC, n1, Option.bind_some]
          dsimp only
          rw [if_neg (by decide), c30', ck_pos ⟨by omega, by omega⟩, Int.toNat_natCast, n3, lt_eq, show (29 + 2 : Nat) = 31 from rfl, ← hC3, p1, Option.bind_some]
          dsimp only
          rw [if_neg (by decide)]
          simp only [c30'']
          rw [ck_pos ⟨by omega, by omega⟩, Int.toNat_natCast, p3, lt_eq, ck_pos ⟨by omega, by omega⟩, lt_eq, hC5]
        · refine gR _ ?_
          rw [n2, Option.bind_some]
          dsimp only
          rw [p2, Option.bind_some]
          dsimp only
          have r5 : M4 1 5 = (c : Int) := by rw [row]; exact hc
          have r52 : (upm M4 1 (12 + 2 * c) v1) 1 5 = (c : Int) := by rw [upm_sl (by omega)]; exact r5
          have r53 : (upm (upm M4 1 (12 + 2 * c) v1) 1 (13 + 2 * c) v2) 1 5 = (c : Int) := by rw [upm_sl (by omega)]; exact r52
          rw [good_1 rd4.2.2.1, Option.bind_some, if_neg (by decide)]
          simp only [r5]
          rw [ck_pos ⟨by omega, by omega⟩, ck_pos ⟨by omega, by omega⟩, ck_pos ⟨by omega, by omega⟩, show (12 + 2 * (c : Int)).toNat = 12 + 2 * c by omega, lt_eq]
          simp only [r52]
          rw [ck_pos ⟨by omega, by omega⟩, ck_pos ⟨by omega, by omega⟩, ck_pos ⟨by omega, by omega⟩, ck_pos ⟨by omega, by omega⟩, show (12 + 2 * (c : Int) + 1).toNat = 13 + 2 * c by omega, lt_eq]
          simp only [r53]
          rw [ck_pos ⟨by omega, by omega⟩, lt_eq, hM5]
        · refine RSl_shot rl wl hc (by omega) g5 g12 g13 ge (by rw [hC5, upm_hit]) (fun j hj => ?_) (fun j => ?_) (fun j => ?_) (fun b b1 b2 => fC b (by omega) (by omega) (by omega) (by omega))
          · rw [hC5, upm_sl hj, upm_ne (by decide), p7.1 30 (by decide), hC3, upm_ne (by decide), kc2.1 30 (by decide)]
          · rw [hC5, upm_ne (by decide), upm_ne (by decide), p7.1 31 (by decide), hC3, upm_row, updr_ap, kc2.1 31 (by decide)]
          · rw [hC5, upm_ne (by decide), upm_row, updr_ap, p7.1 32 (by decide), hC3, upm_ne (by decide), kc2.1 32 (by decide)]
        · exact WFl_shot wl hc (by omega) n4 p4 g5 g12 g13 ge
        · rw [m50, p8.2 38 (by omega), km2.2 38 (by omega)]; exact fl2
        · rw [hC5]; exact (kLC.up (by omega)).trans (kLC.up (by omega))
        · rw [hM5]; exact ((kLM.up (by omega)).trans (kLM.up (by omega))).trans (kLM.up (by omega))
