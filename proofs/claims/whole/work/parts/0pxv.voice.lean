/-! the voice taken -/
def outV (g f : Row) : Prop := ∀ i : Nat, i < 382 → i ≠ 9 → i ≠ 10 → f i = g i
theorem outV.s {g f : Row} (o : outV g f) : same g f 0 0 60 := fun i hi => by rw [Nat.mul_zero]; exact o _ (by omega) (by omega) (by omega)
theorem outV_i {g f : Row} (o : outV g f) (hi : WFi g) (h5 : g 5 ≤ 12) : WFi f := by
  have c := fun j hj => cat_1 (q := 0) (t := 0) o.s rfl rfl j hj
  obtain ⟨a8, a1, a2, a3, a4⟩ := hi
  have e8 := o 8 (by omega) (by omega) (by omega)
  obtain ⟨e, he⟩ : ∃ e : Nat, g 8 = (e : Int) := ⟨(g 8).toNat, by omega⟩
  rw [he, Int.toNat_natCast] at a1 a2 a3
  have ce := c e (by omega)
  rw [Nat.zero_add] at ce
  have z1 : it f 0 = 0 := rfl
  have z2 : it g 0 = 0 := rfl
  have z3 : npc f 0 = 0 := rfl
  have z4 : npc g 0 = 0 := rfl
  refine WFi_of (e8.trans he) (by omega) (by rw [ce.1]; exact a1) (by omega) (by omega) (fun i hi' => ?_)
  have q := a4 i (by omega)
  have ci := c i (by omega)
  rw [Nat.zero_add] at ci
  refine ⟨by rw [ci.1]; exact q.1, ?_⟩
  unfold rowOK
  rw [ci.1, o 5 (by omega) (by omega) (by omega), o 6 (by omega) (by omega) (by omega), show rk f i = rk g i from o _ (by omega) (by omega) (by omega), o (127 + 4 * i) (by omega) (by omega) (by omega), o (128 + 4 * i) (by omega) (by omega) (by omega), o (129 + 4 * i) (by omega) (by omega) (by omega)]
  rcases q.2 with w | w | w | w | w
  · rw [o (13 + 2 * (g (127 + 4 * i)).toNat) (by omega) (by omega) (by omega)]; exact Or.inl w
  · exact Or.inr (Or.inl w)
  · exact Or.inr (Or.inr (Or.inl w))
  · exact Or.inr (Or.inr (Or.inr (Or.inl w)))
  · exact Or.inr (Or.inr (Or.inr (Or.inr w)))
theorem outV_RSi {M : Mem} {s : Nat} {g f : Row} (o : outV g f) (hi : WFi g) (r : RSi M s g) : RSi M s f := by
  have c := fun j hj => cat_1 (q := 0) (t := 0) o.s rfl rfl j hj
  have h8 := hi.1
  have e8 := o 8 (by omega) (by omega) (by omega)
  have z1 : it f 0 = 0 := rfl
  have z2 : it g 0 = 0 := rfl
  refine ⟨?_, fun i hi' h4 => ?_⟩
  · have ce := c (g 8).toNat (by omega)
    rw [Nat.zero_add] at ce
    rw [e8, r.1]; omega
  · rw [e8] at hi'
    have ci := c i (by omega)
    rw [Nat.zero_add] at ci
    have ek : rk f i = rk g i := o _ (by omega) (by omega) (by omega)
    rw [ek] at h4 ⊢
    have e2 := o (128 + 4 * i) (by omega) (by omega) (by omega)
    rw [show it f i = it g i by omega, ci.1, rF_c ek e2, rL_c ek e2 (o (129 + 4 * i) (by omega) (by omega) (by omega)), o (127 + 4 * i) (by omega) (by omega) (by omega)]
    exact r.2 i hi' h4
theorem outV_l {M : Mem} {s : Nat} {g g' : Row} (e : outV g g') (hl : WFl g) : WFl g' ∧ (RSl M s g → RSl M s g') := by
  obtain ⟨a0, a1, a2, a3, a4, h5, h6, h7, a8, a9, a10, a11⟩ := id hl
  refine ⟨?_, ?_⟩
  · unfold WFl
    rw [e 0 (by omega) (by omega) (by omega), e 1 (by omega) (by omega) (by omega), e 2 (by omega) (by omega) (by omega), e 3 (by omega) (by omega) (by omega), e 4 (by omega) (by omega) (by omega), e 5 (by omega) (by omega) (by omega), e 6 (by omega) (by omega) (by omega), e 7 (by omega) (by omega) (by omega)]
    refine ⟨a0, a1, a2, a3, a4, h5, h6, h7, fun i hi => ?_, fun i hi => ?_, fun i hi => ?_, fun i j h1 h2 h3 => a11 i j h1 h2 ?_⟩
    · rw [e _ (by omega) (by omega) (by omega), e _ (by omega) (by omega) (by omega)]; exact a8 i hi
    · have q := a9 i hi
      rw [e (36 + 10 * i) (by omega) (by omega) (by omega)]
      refine ⟨q.1, fun t ht => ?_⟩
      rw [e _ (by omega) (by omega) (by omega)]; exact q.2 t ht
    · rw [e (96 + 3 * i) (by omega) (by omega) (by omega), e (97 + 3 * i) (by omega) (by omega) (by omega), e (98 + 3 * i) (by omega) (by omega) (by omega)]; exact a10 i hi
    · have q := (a9 i (by omega)).1
      unfold nmSame at h3 ⊢
      rw [e (36 + 10 * i) (by omega) (by omega) (by omega), e (36 + 10 * j) (by omega) (by omega) (by omega)] at h3
      refine ⟨h3.1, fun t ht => ?_⟩
      have := h3.2 t ht
      rw [e _ (by omega) (by omega) (by omega), e _ (by omega) (by omega) (by omega)] at this; exact this
  · rintro ⟨b1, b2, b3, b4, b5, b6, b7⟩
    refine ⟨?_, ?_, ?_, ?_, ?_, ?_, ?_⟩
    · rw [e 5 (by omega) (by omega) (by omega)]; exact b1
    · rw [e 6 (by omega) (by omega) (by omega)]; exact b2
    · rw [e 7 (by omega) (by omega) (by omega)]; exact b3
    · rw [e 5 (by omega) (by omega) (by omega)]
      intro i hi
      rw [e (12 + 2 * i) (by omega) (by omega) (by omega), e (13 + 2 * i) (by omega) (by omega) (by omega)]; exact b4 i hi
    · rw [e 6 (by omega) (by omega) (by omega)]
      intro i hi
      have q := (a9 i hi).1
      rw [e (36 + 10 * i) (by omega) (by omega) (by omega)]
      refine ⟨(b5 i hi).1, fun u hu => ?_⟩
      rw [e _ (by omega) (by omega) (by omega)]; exact (b5 i hi).2 u hu
    · rw [e 7 (by omega) (by omega) (by omega)]
      intro i hi
      rw [e (96 + 3 * i) (by omega) (by omega) (by omega), e (97 + 3 * i) (by omega) (by omega) (by omega), e (98 + 3 * i) (by omega) (by omega) (by omega)]; exact b6 i hi
    · intro i hi
      rw [e i (by omega) (by omega) (by omega)]; exact b7 i hi
def VRow (M0 : Mem) (g : Row) (n l : Nat) (f : Row) : Prop := (f 9 = (n : Int) ∧ f 10 = (l : Int)) ∧ (∀ w : Nat, w < 60 → f (382 + 3 * w) = (if w < n then M0 25 w else 0) ∧ f (383 + 3 * w) = (if w < n then M0 26 w else 0) ∧ f (384 + 3 * w) = (if w < n then M0 27 w else 0)) ∧ (∀ i : Nat, i < 500 → f (562 + i) = if i < l then M0 24 i else 0) ∧ outV g f
theorem L_tv134 {M0 : Mem} {l : Nat} (h47 : M0 0 47 = (l : Int)) : ∀ (k j m : Nat) (M : Mem), j + k = 500 → k < m → (∀ c : Nat, c ≠ 1 → M c = M0 c) → (∀ i : Nat, i < j → M 1 (562 + i) = if i < l then M0 24 i else 0) → (∀ i : Nat, i < 562 → M 1 i = M0 1 i) →
    ∃ M' : Mem, f_X11_takesVoice_L134 m (j : Int) M = some M' ∧ (∀ c : Nat, c ≠ 1 → M' c = M0 c) ∧ (∀ i : Nat, i < 500 → M' 1 (562 + i) = if i < l then M0 24 i else 0) ∧ ∀ i : Nat, i < 562 → M' 1 i = M0 1 i := by
  intro k
  induction k with
  | zero =>
    intro j m M hj hm f0 f1 f2
    obtain ⟨m, rfl⟩ := nat_ex hm
    refine ⟨M, ?_, f0, fun i hi => f1 i (by omega), f2⟩
    rw [f_X11_takesVoice_L134, if_pos (by omega)]
  | succ k ih =>
    intro j m M hj hm f0 f1 f2
    obtain ⟨m, rfl⟩ := nat_ex hm
    obtain ⟨M', e1, e2⟩ := ih (j + 1) m (upm M 1 (562 + j) (if j < l then M0 24 j else 0)) (by omega) (by omega) (fun c hc => by rw [upm_ne hc]; exact f0 c hc) (fun i hi => by
      by_cases y : i = j
      · rw [y, upm_hit]
      · rw [upm_sl (by omega)]; exact f1 i (by omega)) (fun i hi => by rw [upm_sl (by omega)]; exact f2 i hi)
    refine ⟨M', ?_, e2⟩
    rw [f_X11_takesVoice_L134, if_neg (by omega), ck_pos ⟨by omega, by omega⟩, f0 0 (by decide), h47, show (562 + (j : Int)).toNat = 562 + j by omega, Int.toNat_natCast, f0 24 (by decide), show (j : Int) + 1 = ((j + 1 : Nat) : Int) by omega]
    by_cases y : j < l
    · rw [if_neg (by omega), ck_pos ⟨by omega, by omega⟩, ck_pos ⟨by omega, by omega⟩, lt_eq, ck_pos ⟨by omega, by omega⟩]
      rw [if_pos y] at e1
      exact e1
    · rw [if_pos (by omega), ck_pos ⟨by omega, by omega⟩, lt_eq, ck_pos ⟨by omega, by omega⟩]
      rw [if_neg y] at e1
      exact e1
theorem L_tv24 {M0 : Mem} {n : Nat} (h48 : M0 0 48 = (n : Int)) : ∀ (k j m : Nat) (M : Mem), j + k = 60 → k < m → (∀ c : Nat, c ≠ 1 → M c = M0 c) → (∀ w : Nat, w < j → M 1 (382 + 3 * w) = (if w < n then M0 25 w else 0) ∧ M 1 (383 + 3 * w) = (if w < n then M0 26 w else 0) ∧ M 1 (384 + 3 * w) = (if w < n then M0 27 w else 0)) → (∀ i : Nat, i < 382 → M 1 i = M0 1 i) →
    ∃ M' : Mem, f_X11_takesVoice_L24 m (j : Int) M = f_X11_takesVoice_L134 jFuel 0 M' ∧ (∀ c : Nat, c ≠ 1 → M' c = M0 c) ∧ (∀ w : Nat, w < 60 → M' 1 (382 + 3 * w) = (if w < n then M0 25 w else 0) ∧ M' 1 (383 + 3 * w) = (if w < n then M0 26 w else 0) ∧ M' 1 (384 + 3 * w) = (if w < n then M0 27 w else 0)) ∧ ∀ i : Nat, i < 382 → M' 1 i = M0 1 i := by
  intro k
  induction k with
  | zero =>
    intro j m M hj hm f0 f1 f2
    obtain ⟨m, rfl⟩ := nat_ex hm
    refine ⟨M, ?_, f0, fun w hw => f1 w (by omega), f2⟩
    rw [f_X11_takesVoice_L24, if_pos (by omega)]
  | succ k ih =>
    intro j m M hj hm f0 f1 f2
    obtain ⟨m, rfl⟩ := nat_ex hm
    obtain ⟨M2, hM2⟩ : ∃ M2 : Mem, M2 = upm (upm (upm M 1 (382 + 3 * j) (if j < n then M0 25 j else 0)) 1 (383 + 3 * j) (if j < n then M0 26 j else 0)) 1 (384 + 3 * j) (if j < n then M0 27 j else 0) := ⟨_, rfl⟩
    obtain ⟨M', e1, e2⟩ := ih (j + 1) m M2 (by omega) (by omega) (fun c hc => by rw [hM2, upm_ne hc, upm_ne hc, upm_ne hc]; exact f0 c hc) (fun w hw => by
      by_cases y : w = j
      · rw [y, hM2]
        refine ⟨?_, ?_, ?_⟩
        · rw [upm_sl (by omega), upm_sl (by omega), upm_hit]
        · rw [upm_sl (by omega), upm_hit]
        · rw [upm_hit]
      · rw [hM2, upm_sl (by omega), upm_sl (by omega), upm_sl (by omega), upm_sl (by omega), upm_sl (by omega), upm_sl (by omega), upm_sl (by omega), upm_sl (by omega), upm_sl (by omega)]; exact f1 w (by omega)) (fun i hi => by rw [hM2, upm_sl (by omega), upm_sl (by omega), upm_sl (by omega)]; exact f2 i hi)
    refine ⟨M', ?_, e2⟩
    rw [f_X11_takesVoice_L24, if_neg (by omega), jn_eq, f0 0 (by decide), h48]
    have n1 : (382 + 3 * (j : Int)).toNat = 382 + 3 * j := by omega
    have n2 : (382 + 3 * (j : Int) + 1).toNat = 383 + 3 * j := by omega
    have n3 : (382 + 3 * (j : Int) + 2).toNat = 384 + 3 * j := by omega
    by_cases y : j < n
    · rw [if_neg (by omega)]
      dsimp only
      rw [ck_pos ⟨by omega, by omega⟩, ck_pos ⟨by omega, by omega⟩, jn_eq, if_neg (by decide), ck_pos ⟨by omega, by omega⟩]
      dsimp only
      rw [ck_pos ⟨by omega, by omega⟩, lt_eq, ck_pos ⟨by omega, by omega⟩, jn_eq, if_neg (by decide), ck_pos ⟨by omega, by omega⟩]
      dsimp only
      rw [ck_pos ⟨by omega, by omega⟩, lt_eq, ck_pos ⟨by omega, by omega⟩, if_neg (by decide), ck_pos ⟨by omega, by omega⟩, ck_pos ⟨by omega, by omega⟩, lt_eq, ck_pos ⟨by omega, by omega⟩, n1, n2, n3, Int.toNat_natCast, f0 25 (by decide), f0 26 (by decide), f0 27 (by decide), show (j : Int) + 1 = ((j + 1 : Nat) : Int) by omega]
      rw [if_pos y, if_pos y, if_pos y] at hM2
      rw [← hM2]
      exact e1
    · rw [if_pos (by omega)]
      dsimp only
      rw [ck_pos ⟨by omega, by omega⟩, ck_pos ⟨by omega, by omega⟩, jn_eq, if_pos rfl]
      dsimp only
      rw [ck_pos ⟨by omega, by omega⟩, lt_eq, ck_pos ⟨by omega, by omega⟩, jn_eq, if_pos rfl]
      dsimp only
      rw [ck_pos ⟨by omega, by omega⟩, lt_eq, ck_pos ⟨by omega, by omega⟩, if_pos rfl, ck_pos ⟨by omega, by omega⟩, lt_eq, ck_pos ⟨by omega, by omega⟩, n1, n2, n3, show (j : Int) + 1 = ((j + 1 : Nat) : Int) by omega]
      rw [if_neg y, if_neg y, if_neg y] at hM2
      rw [← hM2]
      exact e1
theorem takesV_R {M : Mem} {n l : Nat} (h48 : M 0 48 = (n : Int)) (h47 : M 0 47 = (l : Int)) : ∃ M' : Mem, f_X11_takesVoice M = some M' ∧ (∀ c : Nat, c ≠ 1 → M' c = M c) ∧ VRow M (M 1) n l (M' 1) := by
  obtain ⟨M1, hM1⟩ : ∃ M1 : Mem, M1 = upm (upm M 1 9 (n : Int)) 1 10 (l : Int) := ⟨_, rfl⟩
  have f1 : ∀ c : Nat, c ≠ 1 → M1 c = M c := fun c hc => by rw [hM1, upm_ne hc, upm_ne hc]
  obtain ⟨M2, a1, a2, a3, a4⟩ := L_tv24 (M0 := M1) (n := n) (by rw [f1 0 (by decide)]; exact h48) 60 0 jFuel M1 (by omega) (jF (by omega)) (fun _ _ => rfl) (fun w hw => absurd hw (Nat.not_lt_zero w)) (fun _ _ => rfl)
  obtain ⟨M3, b1, b2, b3, b4⟩ := L_tv134 (M0 := M2) (l := l) (by rw [a2 0 (by decide), f1 0 (by decide)]; exact h47) 500 0 jFuel M2 (by omega) (jF (by omega)) (fun _ _ => rfl) (fun w hw => absurd hw (Nat.not_lt_zero w)) (fun _ _ => rfl)
  refine ⟨M3, ?_, fun c hc => by rw [b2 c hc, a2 c hc, f1 c hc], ⟨?_, ?_⟩, fun w hw => ?_, fun i hi => ?_, fun i hi h9 h10 => ?_⟩
  · unfold f_X11_takesVoice
    rw [lt_eq, h48, h47, lt_eq, show (9 : Int).toNat = 9 from rfl, show (10 : Int).toNat = 10 from rfl, ← hM1]
    have a1 : f_X11_takesVoice_L24 jFuel 0 M1 = f_X11_takesVoice_L134 jFuel 0 M2 := a1
    have b1 : f_X11_takesVoice_L134 jFuel 0 M2 = some M3 := b1
    rw [a1, b1]
  · rw [b4 9 (by omega), a4 9 (by omega), hM1, upm_sl (by decide), upm_hit]
  · rw [b4 10 (by omega), a4 10 (by omega), hM1, upm_hit]
  · rw [b4 _ (by omega), b4 _ (by omega), b4 _ (by omega)]
    have := a3 w hw
    rw [f1 25 (by decide), f1 26 (by decide), f1 27 (by decide)] at this
    exact this
  · rw [b3 i hi, a2 24 (by decide), f1 24 (by decide)]
  · rw [b4 i (by omega), a4 i hi, hM1, upm_sl h10, upm_sl h9]
theorem vd_row {C M : Mem} {g f : Row} {n l : Nat} (vd : VD C M n l) (hl : l ≤ 500) (v : VRow M g n l f) (fl : 0 < n → M 27 (n - 1) = 1) : RSv C 29 f ∧ WFv f := by
  obtain ⟨⟨d1, d2, d3, d4, d5⟩, dw, dl, dc, de⟩ := vd
  obtain ⟨⟨v1, v2⟩, v3, v4, _⟩ := v
  refine ⟨⟨?_, ?_, fun i hi => ?_, fun i hi => ?_⟩, ?_⟩
  · rw [v1]; exact d1
  · rw [v2]; exact d3
  · have hi' : i < n := by omega
    obtain ⟨a, e, ⟨q1, q2, q3, q4⟩, q5, q6, q7, q8, q9⟩ := dw i hi'
    obtain ⟨c1, c2, c3⟩ := v3 i (by omega)
    rw [if_pos hi'] at c1 c2 c3
    refine ⟨by rw [c1, q2]; exact q1, by rw [c2, q4]; exact q3, ?_, by rw [c3]; exact q8⟩
    show C 44 i = syl f i
    rw [q7]
    unfold syl
    rw [c2, q4, Int.toNat_natCast]
    have ev : vgr (wLet f i) e = vgr (fun q => M 24 (a + q)) e := vgr_c _ (fun q hq => by
      unfold wLet wFrom
      rw [c1, q2, Int.toNat_natCast, show 562 + a + q = 562 + (a + q) by omega, v4 (a + q) (by omega), if_pos (by omega)])
    rw [ev]
  · have hi' : i < l := by omega
    rw [v4 i (by omega), if_pos hi']
    exact (dl i hi').1
  · unfold WFv
    rw [v1, v2]
    refine ⟨by omega, by omega, fun i hi => ?_, fun i hi => ?_, fun h => ?_, fun i hi => ?_⟩
    · have hi' : i < n := by omega
      obtain ⟨a, e, ⟨q1, q2, q3, q4⟩, q5, q6, q7, q8, q9⟩ := dw i hi'
      obtain ⟨c1, c2, c3⟩ := v3 i (by omega)
      rw [if_pos hi'] at c1 c2 c3
      rw [c1, c2, c3, q2, q4]
      omega
    · have hi' : i < l := by omega
      rw [v4 i (by omega), if_pos hi']
      exact (dl i hi').2
    · have c3 := (v3 (n - 1) (by omega)).2.2
      rw [Int.toNat_natCast, c3, if_pos (by omega)]
      exact fl (by omega)
    · have hi' : i + 1 < n := by omega
      obtain ⟨c1, c2, c3⟩ := v3 i (by omega)
      have k1 := (v3 (i + 1) (by omega)).1
      rw [show 382 + 3 * (i + 1) = 385 + 3 * i by omega, if_pos hi'] at k1
      rw [if_pos (by omega)] at c1 c2
      rw [k1, c1, c2]
      exact dc i hi'
