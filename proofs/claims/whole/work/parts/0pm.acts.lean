/-! acts: what is remembered -/
theorem Rel.act {k k' : Nat} {Mc Mr Mc' Mr' : Mem} (h : Rel k Mc Mr) (fc : ∀ c : Nat, (1 ≤ c ∧ c ≤ 4) ∨ c = 55 ∨ 266 ≤ c → Mc' c = Mc c) (f72 : Mc' 72 0 = Mc 72 0) (fr : ∀ c : Nat, c = 4 ∨ c = 6 ∨ c = 22 ∨ c = 29 → Mr' c = Mr c) (fr0 : ∀ j : Nat, j = 29 ∨ j = 36 ∨ j = 37 ∨ j = 51 → Mr' 0 j = Mr 0 j)
    (n4 : RAc k' Mc' Mr') (n5 : RUn Mc' Mr') (n7 : RS Mc' 5 (Mr' 1)) (n8 : WF (Mr' 1)) (n9 : RPc Mc' (Mr' 1)) (n10 : RSp Mc' (Mr' 1)) : Rel k' Mc' Mr' := by
  obtain ⟨h1, h2, h3, h4, h5, h6, h7, h8, h9, h10, h11⟩ := h
  refine ⟨?_, ?_, ?_, n4, n5, ?_, n7, n8, n9, n10, f72.trans h11⟩
  · unfold RTx at h1 ⊢
    rw [fc 1 (by omega), fr0 29 (by omega), fc 2 (by omega), fr 22 (by omega)]; exact h1
  · rw [fc 1 (by omega), fr0 36 (by omega), fr0 37 (by omega)]; exact h2
  · unfold ROu at h3 ⊢
    rw [fc 3 (by omega), fr0 51 (by omega), fc 4 (by omega), fr 29 (by omega)]; exact h3
  · intro t ht
    obtain ⟨a, b, c⟩ := h6 t ht
    rw [fc 55 (by omega), fr 6 (by omega), fr 4 (by omega)]
    exact ⟨a, b, fun h => ⟨(c h).1.eqv (fun i _ _ => fc _ (by omega)), (c h).2⟩⟩
theorem L_shift {M0 : Mem} (K : Mem → Option Mem) (h6 : M0 0 6 = 7) : ∀ (k j n : Nat) (M : Mem), j + k = 7434 → k < n → (∀ c : Nat, c ≠ 3 → M c = M0 c) → (∀ i : Nat, M 3 i = if i < j then M0 3 (i + 1062) else M0 3 i) →
    ∃ M' : Mem, f_X11_begins_L21 K n (j : Int) M = K M' ∧ (∀ c : Nat, c ≠ 3 → M' c = M0 c) ∧ ∀ i : Nat, M' 3 i = if i < 7434 then M0 3 (i + 1062) else M0 3 i := by
  intro k
  induction k with
  | zero =>
    intro j n M hj hn h1 h2
    obtain ⟨n, rfl⟩ := nat_ex hn
    refine ⟨M, ?_, h1, by rw [show j = 7434 by omega] at h2; exact h2⟩
    simp only [f_X11_begins_L21]
    rw [h1 0 (by decide), h6, ck_pos ⟨by omega, by omega⟩, if_pos (by omega)]
  | succ k ih =>
    intro j n M hj hn h1 h2
    obtain ⟨n, rfl⟩ := nat_ex hn
    obtain ⟨M', e1, e2⟩ := ih (j + 1) n (upm M 3 j (M 3 (j + 1062))) (by omega) (by omega) (fun c hc => by rw [upm_ne hc]; exact h1 c hc) (fun i => by
      rw [upm_row, updr_ap, h2 i, h2 (j + 1062), if_neg (show ¬ (j + 1062 < j) by omega)]
      by_cases z : i = j
      · rw [if_pos z, if_pos (by omega), z]
      · rw [if_neg z]
        by_cases w : i < j
        · rw [if_pos w, if_pos (by omega)]
        · rw [if_neg w, if_neg (by omega)])
    refine ⟨M', ?_, e2⟩
    simp only [f_X11_begins_L21]
    rw [h1 0 (by decide), h6, ck_pos ⟨by omega, by omega⟩, if_neg (by omega), ck_pos ⟨by omega, by omega⟩, ck_pos ⟨by omega, by omega⟩, ck_pos ⟨by omega, by omega⟩, lt_eq, ck_pos ⟨by omega, by omega⟩, Int.toNat_natCast, show ((j : Int) + 1062).toNat = j + 1062 by omega, show (j : Int) + 1 = ((j + 1 : Nat) : Int) by omega]
    exact e1
/-- the class remembers -/
theorem rem_C {Mc : Mem} {g : Row} (w : WF g) (r : RS Mc 5 g) {x : Nat} (hx : Mc 0 6 = (x : Int)) (hx8 : x < 8) (hc : 0 ≤ Mc 0 5 ∧ Mc 0 5 ≤ 8) (ha : 0 ≤ Mc 73 0 ∧ Mc 73 0 ≤ 600) : ∃ M' : Mem, f_X10_remember Mc = some M' ∧ RS M' (74 + x * 24) g ∧ (∀ c : Nat, c ≠ 0 → c ≠ 73 → (c < 74 + x * 24 + 1 ∨ 74 + x * 24 + 22 < c) → M' c = Mc c) ∧ M' 0 6 = (if x = 7 then 0 else (x : Int) + 1) ∧ M' 0 5 = min (Mc 0 5 + 1) 8 ∧ M' 73 0 = Mc 73 0 + 1 ∧ (∀ j : Nat, j ≠ 0 → M' 73 j = Mc 73 j) := by
  obtain ⟨M1, a1, a2, a3⟩ := copy_C (s := 74 + x * 24) w (by omega) r
  have z0 := a3 0 (by omega)
  have z73 := a3 73 (by omega)
  have go : ∀ v : Int, ∃ M' : Mem, (lt (upm M1 0 6 v) fun N4 => ck (inR ((M1 0 5) + 1)) <| lt (upm N4 0 5 (min ((M1 0 5) + 1) 8)) fun N7 => ck (inR ((M1 73 (0 : Int).toNat) + 1)) <| lt (upm N7 73 (0 : Int).toNat ((M1 73 (0 : Int).toNat) + 1)) fun N10 => some N10) = some M' ∧ RS M' (74 + x * 24) g ∧ (∀ c : Nat, c ≠ 0 → c ≠ 73 → (c < 74 + x * 24 + 1 ∨ 74 + x * 24 + 22 < c) → M' c = Mc c) ∧ M' 0 6 = v ∧ M' 0 5 = min (Mc 0 5 + 1) 8 ∧ M' 73 0 = Mc 73 0 + 1 ∧ (∀ j : Nat, j ≠ 0 → M' 73 j = Mc 73 j) := by
    intro v
    rw [z0, z73, show (0 : Int).toNat = 0 from rfl, lt_eq, ck_pos ⟨by omega, by omega⟩, lt_eq, ck_pos ⟨by omega, by omega⟩, lt_eq]
    refine ⟨_, rfl, a2.eqv (fun j _ _ => by rw [upm_ne (by omega), upm_ne (by omega), upm_ne (by omega)]), fun c c1 c2 c3 => by rw [upm_ne c2, upm_ne c1, upm_ne c1]; exact a3 c c3, ?_, ?_, ?_, fun j hj => ?_⟩
    · rw [upm_ne (by decide), upm_sl (by decide), upm_hit]
    · rw [upm_ne (by decide), upm_hit]
    · rw [upm_hit]
    · rw [upm_sl hj, upm_ne (by decide), upm_ne (by decide), z73]
  obtain ⟨M', b1, b2⟩ := go (if x = 7 then 0 else (x : Int) + 1)
  refine ⟨M', ?_, b2⟩
  unfold f_X10_remember
  rw [hx, ck_pos ⟨by omega, by omega⟩, Int.toNat_natCast, a1, Option.bind_some]
  simp only [jn]
  have zx : M1 0 6 = (x : Int) := by rw [z0]; exact hx
  by_cases c : x = 7
  · rw [if_pos c] at b1
    rw [zx, if_pos (by omega)]
    exact b1
  · rw [if_neg c] at b1
    rw [zx, if_neg (by omega), ck_pos ⟨by omega, by omega⟩]
    exact b1
/-- the reference remembers -/
theorem beg_R {M : Mem} {n : Nat} (hn : M 0 6 = (n : Int)) (h8 : n ≤ 8) (ha : 0 ≤ M 5 0 ∧ M 5 0 ≤ 600) : ∃ M' : Mem, f_X11_begins M = some M' ∧ (∀ c : Nat, c ≠ 0 → c ≠ 3 → c ≠ 5 → M' c = M c) ∧ (∀ j : Nat, j ≠ 6 → M' 0 j = M 0 j) ∧ M' 0 6 = min ((n : Int) + 1) 8 ∧ M' 5 0 = M 5 0 + 1 ∧ (∀ j : Nat, j ≠ 0 → M' 5 j = M 5 j) ∧
    (∀ j : Nat, j + 1 < min (n + 1) 8 → ∀ i : Nat, i < 1062 → rowAt (M' 3) j i = rowAt (M 3) (if n = 8 then j + 1 else j) i) ∧ ∀ i : Nat, i < 1062 → rowAt (M' 3) (min (n + 1) 8 - 1) i = M 1 i := by
  have fin : ∀ (N : Mem) (q : Nat), q ≤ 7 → N 0 6 = (q : Int) → N 1 = M 1 → N 5 = M 5 → ∃ M' : Mem, (ck (inR (1062 * (N 0 6))) <| (f_X11_copies 1 1062 0 3 8496 (1062 * (N 0 6)) N).bind fun M72 => ck (inR ((M72 0 6) + 1)) <| lt (upm M72 0 6 ((M72 0 6) + 1)) fun N5 => ck (inR ((M72 5 (0 : Int).toNat) + 1)) <| lt (upm N5 5 (0 : Int).toNat ((M72 5 (0 : Int).toNat) + 1)) fun N8 => some N8) = some M' ∧ (∀ c : Nat, c ≠ 0 → c ≠ 3 → c ≠ 5 → M' c = N c) ∧ (∀ j : Nat, j ≠ 6 → M' 0 j = N 0 j) ∧ M' 0 6 = (q : Int) + 1 ∧ M' 5 0 = M 5 0 + 1 ∧ (∀ j : Nat, j ≠ 0 → M' 5 j = M 5 j) ∧ (∀ i : Nat, M' 3 i = if 1062 * q ≤ i ∧ i < 1062 * q + 1062 then M 1 (i - 1062 * q) else N 3 i) := by
    intro N q q7 hq h1 h5
    obtain ⟨M2, b1, b2, b3⟩ := cop_R (a := 1) (na := 1062) (b := 3) (nb := 8496) (x := 0) (y := 1062 * q) (by decide) (by omega) (by omega) ⟨by omega, by omega⟩ N
    have b1 : f_X11_copies 1 1062 0 3 8496 ((1062 * q : Nat) : Int) N = some M2 := b1
    rw [hq, ck_pos ⟨by omega, by omega⟩, show 1062 * (q : Int) = ((1062 * q : Nat) : Int) by omega, b1, Option.bind_some, b2 0 (by decide), b2 5 (by decide), hq, h5, show (0 : Int).toNat = 0 from rfl, ck_pos ⟨by omega, by omega⟩, lt_eq, ck_pos ⟨by omega, by omega⟩, lt_eq]
    refine ⟨_, rfl, fun c c1 c2 c3 => by rw [upm_ne c3, upm_ne c1, b2 c c2], fun j hj => by rw [upm_ne (by decide), upm_sl hj, b2 0 (by decide)], by rw [upm_ne (by decide), upm_hit], by rw [upm_hit], fun j hj => by rw [upm_sl hj, upm_ne (by decide), b2 5 (by decide), h5], fun i => ?_⟩
    rw [upm_ne (by decide), upm_ne (by decide), b3, h1]
    by_cases z : 1062 * q ≤ i ∧ i < 1062 * q + 1062
    · rw [if_pos z, if_pos z, Nat.zero_add]
    · rw [if_neg z, if_neg z]
  unfold f_X11_begins
  simp only [jn]
  by_cases z : n = 8
  · have k0 : (upm M 0 6 7) 0 6 = 7 := upm_hit
    obtain ⟨N, s1, s2, s3⟩ := L_shift (M0 := upm M 0 6 7) (fun M55 : Mem => ck (inR (1062 * (M55 0 6))) <| (f_X11_copies 1 1062 0 3 8496 (1062 * (M55 0 6)) M55).bind fun M72 => ck (inR ((M72 0 6) + 1)) <| lt (upm M72 0 6 ((M72 0 6) + 1)) fun N5 => ck (inR ((M72 5 (0 : Int).toNat) + 1)) <| lt (upm N5 5 (0 : Int).toNat ((M72 5 (0 : Int).toNat) + 1)) fun N8 => some N8) k0 7434 0 jFuel (upm M 0 6 7) (by omega) (jF (by omega)) (fun _ _ => rfl) (fun i => by rw [if_neg (by omega)])
    obtain ⟨M', f1, f2, f3, f4, f5, f6, f7⟩ := fin N 7 (by omega) (by rw [s2 0 (by decide)]; exact k0) (by rw [s2 1 (by decide), upm_ne (by decide)]) (by rw [s2 5 (by decide), upm_ne (by decide)])
    refine ⟨M', ?_, fun c c1 c2 c3 => by rw [f2 c c1 c2 c3, s2 c c2, upm_ne c1], fun j hj => by rw [f3 j hj, s2 0 (by decide), upm_sl hj], by omega, f5, f6, fun j hj i hi => ?_, fun i hi => ?_⟩
    · rw [hn, if_pos (by omega), ck_pos ⟨by omega, by omega⟩, lt_eq, show (n : Int) - 1 = 7 by omega]
      exact s1.trans f1
    · unfold rowAt
      rw [f7, if_neg (by omega), s3, if_pos (by omega), upm_ne (by decide), if_pos z, show 1062 * j + i + 1062 = 1062 * (j + 1) + i by omega]
    · unfold rowAt
      rw [f7, show min (n + 1) 8 - 1 = 7 by omega, if_pos (by omega), show 1062 * 7 + i - 1062 * 7 = i by omega]
  · obtain ⟨M', f1, f2, f3, f4, f5, f6, f7⟩ := fin M n (by omega) hn rfl rfl
    refine ⟨M', ?_, f2, f3, by omega, f5, f6, fun j hj i hi => ?_, fun i hi => ?_⟩
    · rw [hn, if_neg (by omega), ← hn]; exact f1
    · unfold rowAt
      rw [f7, if_neg (by omega), if_neg z]
    · unfold rowAt
      rw [f7, show min (n + 1) 8 - 1 = n by omega, if_pos (by omega), show 1062 * n + i - 1062 * n = i by omega]
/-- both remember -/
theorem both_rem {k : Nat} {Mc Mr M : Mem} (h : Rel k Mc Mr) (hk : k < 512) (e1 : M 1 = Mr 1) (e3 : M 3 = Mr 3) (e5 : M 5 = Mr 5) (e0 : M 0 6 = Mr 0 6) :
    ∃ Mc' M' : Mem, f_X10_remember Mc = some Mc' ∧ f_X11_begins M = some M' ∧ (∀ c : Nat, c ≠ 0 → c ≠ 73 → (c < 74 ∨ 266 ≤ c) → Mc' c = Mc c) ∧ (∀ c : Nat, c ≠ 0 → c ≠ 3 → c ≠ 5 → M' c = M c) ∧ (∀ j : Nat, j ≠ 6 → M' 0 j = M 0 j) ∧ RUn Mc' M' ∧ RAc (k + 1) Mc' M' := by
  obtain ⟨u1, u2, u3, u4⟩ := h.2.2.2.2.1
  have ac := h.2.2.2.1
  have ac0 := ac 0 (by omega)
  obtain ⟨x, hx⟩ : ∃ x : Nat, Mc 0 6 = (x : Int) := ⟨(Mc 0 6).toNat, by omega⟩
  obtain ⟨n, hn⟩ : ∃ n : Nat, Mr 0 6 = (n : Int) := ⟨(Mr 0 6).toNat, by omega⟩
  obtain ⟨Mc', a1, a2, a3, a4, a5, a6, a7⟩ := rem_C h.wf h.rs hx (by omega) (by omega) (by omega)
  obtain ⟨M', b1, b2, b3, b4, b5, b6, b7, b8⟩ := beg_R (M := M) (n := n) (by rw [e0]; exact hn) (by omega) (by rw [e5]; omega)
  refine ⟨Mc', M', a1, b1, fun c c1 c2 c3 => a3 c c1 c2 (by omega), b2, b3, ⟨?_, ?_, ?_, fun j hj => ?_⟩, fun i hi => ?_⟩
  · rw [a5, b4]; omega
  · rw [b4]; omega
  · rw [a4]; split <;> omega
  · rw [b4] at hj
    -- where it stands in the class
    have nx : (Mc' 0 6).toNat = (x + 1) % 8 := by rw [a4]; split <;> omega
    have cn : (M' 0 6).toNat = min (n + 1) 8 := by rw [b4]; omega
    rw [nx, cn]
    by_cases z : j + 1 = min (n + 1) 8
    · rw [show ((x + 1) % 8 + 8 - min (n + 1) 8 + j) % 8 = x by omega]
      have er : ∀ i : Nat, i < 1062 → rowAt (M' 3) j i = Mr 1 i := by
        intro i hi
        rw [show j = min (n + 1) 8 - 1 by omega, b8 i hi, e1]
      exact ⟨RS_e er h.wf a2, WF_e er h.wf⟩
    · have b7' := b7 j (by omega)
      rw [e3] at b7'
      by_cases w : n = 8
      · simp only [if_pos w] at b7'
        obtain ⟨q1, q2⟩ := u4 (j + 1) (by omega)
        rw [hx, hn, Int.toNat_natCast, Int.toNat_natCast] at q1
        rw [show ((x + 1) % 8 + 8 - min (n + 1) 8 + j) % 8 = (x + 8 - n + (j + 1)) % 8 by omega]
        have ne : (x + 8 - n + (j + 1)) % 8 ≠ x := by omega
        exact ⟨RS_e b7' q2 (q1.eqv (fun i _ _ => a3 _ (by omega) (by omega) (by omega))), WF_e b7' q2⟩
      · simp only [if_neg w] at b7'
        obtain ⟨q1, q2⟩ := u4 j (by omega)
        rw [hx, hn, Int.toNat_natCast, Int.toNat_natCast] at q1
        rw [show ((x + 1) % 8 + 8 - min (n + 1) 8 + j) % 8 = (x + 8 - n + j) % 8 by omega]
        have ne : (x + 8 - n + j) % 8 ≠ x := by omega
        exact ⟨RS_e b7' q2 (q1.eqv (fun i _ _ => a3 _ (by omega) (by omega) (by omega))), WF_e b7' q2⟩
  · obtain ⟨q1, q2, q3⟩ := ac i hi
    by_cases z : i = 0
    · rw [z, a6, b5, e5]; omega
    · rw [a7 i z, b6 i z, e5]; omega
