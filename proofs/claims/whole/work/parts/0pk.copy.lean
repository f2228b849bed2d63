/-! states and rows copied -/
theorem cpm_ne {M : Mem} {a sp b dp n c : Nat} (h : c ≠ b) : cpm M a sp b dp n c = M c := if_neg h
theorem cpm_in {M : Mem} {a b n k : Nat} (h : k < n) : cpm M a 0 b 0 n b k = M a k := by
  rw [cpm_at, if_pos rfl, cpr_ap, if_pos ⟨Nat.zero_le k, by omega⟩]
  congr 1; omega
theorem upm_sl {M : Mem} {a k j : Nat} {v : Int} (h : j ≠ k) : upm M a k v a j = M a j := by rw [upm_row, updr_ne h]
theorem upm_hit {M : Mem} {a k : Nat} {v : Int} : upm M a k v a k = v := by rw [upm_row, updr_at]
theorem copy3 {M : Mem} {s s1 : Nat} {g : Row} (hl : WFl g) (d : s + 24 ≤ s1 ∨ s1 + 24 ≤ s) (r : RSl M s1 g) : ∃ M' : Mem, f_X3_copyFrom s s1 M = some M' ∧ RSl M' s g ∧ ∀ c : Nat, c < s + 1 ∨ s + 9 < c → M' c = M c := by
  obtain ⟨r1, r2, r3, r4, r5, r6, r7⟩ := r
  have n5 := hl.2.2.2.2.2.1
  have n6 := hl.2.2.2.2.2.2.1
  have n7 := hl.2.2.2.2.2.2.2.1
  unfold f_X3_copyFrom
  simp only [lt, show (0 : Int).toNat = 0 from rfl, show (12 : Int).toNat = 12 from rfl, show (48 : Int).toNat = 48 from rfl, show (6 : Int).toNat = 6 from rfl, show (10 : Int).toNat = 10 from rfl, show (5 : Int).toNat = 5 from rfl]
  refine ⟨_, rfl, ⟨?_, ?_, ?_, fun i hi => ⟨?_, ?_⟩, fun i hi => ⟨?_, fun t ht => ?_⟩, fun i hi => ⟨?_, ?_, ?_⟩, fun i hi => ?_⟩, fun c hc => ?_⟩
  · simp (disch := omega) only [cpm_ne, upm_ne, upm_sl, upm_hit]; exact r1
  · simp (disch := omega) only [cpm_ne, upm_ne, upm_sl, upm_hit]; exact r2
  · simp (disch := omega) only [cpm_ne, upm_ne, upm_sl, upm_hit]; exact r3
  · simp (disch := omega) only [cpm_ne, upm_ne, cpm_in]; exact (r4 i hi).1
  · simp (disch := omega) only [cpm_ne, upm_ne, cpm_in]; exact (r4 i hi).2
  · simp (disch := omega) only [cpm_ne, upm_ne, cpm_in]; exact (r5 i hi).1
  · have := (hl.2.2.2.2.2.2.2.2.2.1 i hi).1
    simp (disch := omega) only [cpm_ne, upm_ne, cpm_in]; exact (r5 i hi).2 t ht
  · simp (disch := omega) only [cpm_ne, upm_ne, cpm_in]; exact (r6 i hi).1
  · simp (disch := omega) only [cpm_ne, upm_ne, cpm_in]; exact (r6 i hi).2.1
  · simp (disch := omega) only [cpm_ne, upm_ne, cpm_in]; exact (r6 i hi).2.2
  · simp (disch := omega) only [cpm_ne, upm_ne, cpm_in]; exact r7 i hi
  · simp (disch := omega) only [cpm_ne, upm_ne]
theorem copy9 {M : Mem} {s s1 : Nat} {g : Row} (hv : WFv g) (d : s + 24 ≤ s1 ∨ s1 + 24 ≤ s) (r : RSv M s1 g) : ∃ M' : Mem, f_X9_copyFrom s s1 M = some M' ∧ RSv M' s g ∧ ∀ c : Nat, c < s + 11 ∨ s + 16 < c → M' c = M c := by
  obtain ⟨r1, r2, r3, r4⟩ := r
  have n9 := hv.1
  have n10 := hv.2.1
  unfold f_X9_copyFrom
  simp only [lt, show (0 : Int).toNat = 0 from rfl, show (500 : Int).toNat = 500 from rfl, show (60 : Int).toNat = 60 from rfl]
  refine ⟨_, rfl, ⟨?_, ?_, fun i hi => ⟨?_, ?_, ?_, ?_⟩, fun i hi => ?_⟩, fun c hc => ?_⟩
  · simp (disch := omega) only [cpm_ne, upm_ne, upm_sl, upm_hit]; exact r1
  · simp (disch := omega) only [cpm_ne, upm_ne, upm_sl, upm_hit]; exact r2
  · simp (disch := omega) only [cpm_ne, upm_ne, cpm_in]; exact (r3 i hi).1
  · simp (disch := omega) only [cpm_ne, upm_ne, cpm_in]; exact (r3 i hi).2.1
  · simp (disch := omega) only [cpm_ne, upm_ne, cpm_in]; exact (r3 i hi).2.2.1
  · simp (disch := omega) only [cpm_ne, upm_ne, cpm_in]; exact (r3 i hi).2.2.2
  · simp (disch := omega) only [cpm_ne, upm_ne, cpm_in]; exact r4 i hi
  · simp (disch := omega) only [cpm_ne, upm_ne]
theorem copy2 {M : Mem} {s s1 : Nat} {g : Row} (hi : WFi g) (d : s + 24 ≤ s1 ∨ s1 + 24 ≤ s) (r : RSi M s1 g) : ∃ M' : Mem, f_X2_copyFrom s s1 M = some M' ∧ RSi M' s g ∧ ∀ c : Nat, c < s + 17 ∨ s + 22 < c → M' c = M c := by
  obtain ⟨r1, r2⟩ := r
  unfold f_X2_copyFrom
  simp only [lt, show (0 : Int).toNat = 0 from rfl, show (30 : Int).toNat = 30 from rfl]
  refine ⟨_, rfl, ⟨?_, fun i h8 h4 => ⟨?_, ?_, ?_, ?_, ?_⟩⟩, fun c hc => ?_⟩
  · simp (disch := omega) only [cpm_ne, upm_ne, upm_sl, upm_hit]; exact r1
  · have b := (hi.it30 h8 h4).2
    simp (disch := omega) only [cpm_ne, upm_ne, cpm_in]; exact (r2 i h8 h4).1
  · have b := (hi.it30 h8 h4).2
    simp (disch := omega) only [cpm_ne, upm_ne, cpm_in]; exact (r2 i h8 h4).2.1
  · have b := (hi.it30 h8 h4).2
    simp (disch := omega) only [cpm_ne, upm_ne, cpm_in]; exact (r2 i h8 h4).2.2.1
  · have b := (hi.it30 h8 h4).2
    simp (disch := omega) only [cpm_ne, upm_ne, cpm_in]; exact (r2 i h8 h4).2.2.2.1
  · have b := (hi.it30 h8 h4).2
    simp (disch := omega) only [cpm_ne, upm_ne, cpm_in]; exact (r2 i h8 h4).2.2.2.2
  · simp (disch := omega) only [cpm_ne, upm_ne]
theorem RSl.eqv {M M' : Mem} {s : Nat} {g : Row} (h : RSl M s g) (e : ∀ j : Nat, 1 ≤ j → j ≤ 9 → M' (s + j) = M (s + j)) : RSl M' s g := by
  obtain ⟨a1, a2, a3, a4, a5, a6, a7⟩ := h
  refine ⟨?_, ?_, ?_, ?_, ?_, ?_, ?_⟩
  · rw [e 1 (by omega) (by omega)]; exact a1
  · rw [e 1 (by omega) (by omega)]; exact a2
  · rw [e 1 (by omega) (by omega)]; exact a3
  · rw [e 2 (by omega) (by omega), e 3 (by omega) (by omega)]; exact a4
  · rw [e 4 (by omega) (by omega), e 5 (by omega) (by omega)]; exact a5
  · rw [e 6 (by omega) (by omega), e 7 (by omega) (by omega), e 8 (by omega) (by omega)]; exact a6
  · rw [e 9 (by omega) (by omega)]; exact a7
theorem RSv.eqv {M M' : Mem} {s : Nat} {g : Row} (h : RSv M s g) (e : ∀ j : Nat, 11 ≤ j → j ≤ 16 → M' (s + j) = M (s + j)) : RSv M' s g := by
  obtain ⟨b1, b2, b3, b4⟩ := h
  refine ⟨?_, ?_, ?_, ?_⟩
  · rw [e 11 (by omega) (by omega)]; exact b1
  · rw [e 11 (by omega) (by omega)]; exact b2
  · rw [e 13 (by omega) (by omega), e 14 (by omega) (by omega), e 15 (by omega) (by omega), e 16 (by omega) (by omega)]; exact b3
  · rw [e 12 (by omega) (by omega)]; exact b4
theorem RSi.eqv {M M' : Mem} {s : Nat} {g : Row} (h : RSi M s g) (e : ∀ j : Nat, 17 ≤ j → j ≤ 22 → M' (s + j) = M (s + j)) : RSi M' s g := by
  obtain ⟨c1, c2⟩ := h
  refine ⟨?_, ?_⟩
  · rw [e 17 (by omega) (by omega)]; exact c1
  · rw [e 18 (by omega) (by omega), e 19 (by omega) (by omega), e 20 (by omega) (by omega), e 21 (by omega) (by omega), e 22 (by omega) (by omega)]; exact c2
theorem copy_C {M : Mem} {s s1 : Nat} {g : Row} (w : WF g) (d : s + 24 ≤ s1 ∨ s1 + 24 ≤ s) (r : RS M s1 g) : ∃ M' : Mem, f_X7_copyFrom s s1 M = some M' ∧ RS M' s g ∧ ∀ c : Nat, c < s + 1 ∨ s + 22 < c → M' c = M c := by
  obtain ⟨M1, a1, a2, a3⟩ := copy3 w.1 d r.1
  obtain ⟨M2, b1, b2, b3⟩ := copy9 w.2.1 d (r.2.1.eqv (M' := M1) (fun j _ _ => a3 _ (by omega)))
  obtain ⟨M3, c1, c2, c3⟩ := copy2 w.2.2 d (r.2.2.eqv (M' := M2) (fun j _ _ => (b3 _ (by omega)).trans (a3 _ (by omega))))
  refine ⟨M3, ?_, ⟨a2.eqv (fun j _ _ => (c3 _ (by omega)).trans (b3 _ (by omega))), b2.eqv (fun j _ _ => c3 _ (by omega)), c2⟩, fun c hc => (c3 c (by omega)).trans ((b3 c (by omega)).trans (a3 c (by omega)))⟩
  unfold f_X7_copyFrom
  rw [a1, Option.bind_some, b1, Option.bind_some, c1]; rfl
/-! rows -/
theorem L_cop {a na b nb : Nat} {x y : Nat} (hab : a ≠ b) (hx : x + 1062 ≤ na) (hy : y + 1062 ≤ nb) (hn : na ≤ 10000 ∧ nb ≤ 10000) {M0 : Mem} : ∀ (k j n : Nat) (M : Mem), j + k = 1062 → k < n → (∀ c : Nat, c ≠ b → M c = M0 c) → (∀ i : Nat, M b i = if y ≤ i ∧ i < y + j then M0 a (x + (i - y)) else M0 b i) →
    ∃ M' : Mem, f_X11_copies_L3 a na b nb (x : Int) (y : Int) n (j : Int) M = some M' ∧ (∀ c : Nat, c ≠ b → M' c = M0 c) ∧ ∀ i : Nat, M' b i = if y ≤ i ∧ i < y + 1062 then M0 a (x + (i - y)) else M0 b i := by
  intro k
  induction k with
  | zero =>
    intro j n M hj hn0 h1 h2
    obtain ⟨n, rfl⟩ := nat_ex hn0
    refine ⟨M, ?_, h1, by rw [show j = 1062 by omega] at h2; exact h2⟩
    simp only [f_X11_copies_L3]
    rw [if_pos (by omega)]
  | succ k ih =>
    intro j n M hj hn0 h1 h2
    obtain ⟨n, rfl⟩ := nat_ex hn0
    obtain ⟨M', e1, e2⟩ := ih (j + 1) n (upm M b (y + j) (M a (x + j))) (by omega) (by omega) (fun c hc => by rw [upm_ne hc]; exact h1 c hc) (fun i => by
      rw [upm_row, updr_ap, h2 i, h1 a hab]
      by_cases z : i = y + j
      · rw [if_pos z, if_pos (by omega), z, show x + (y + j - y) = x + j by omega]
      · rw [if_neg z]
        by_cases w : y ≤ i ∧ i < y + j
        · rw [if_pos w, if_pos (by omega)]
        · rw [if_neg w, if_neg (by omega)])
    refine ⟨M', ?_, e2⟩
    simp only [f_X11_copies_L3]
    rw [if_neg (by omega), ck_pos ⟨by omega, by omega⟩, ck_pos ⟨by omega, by omega⟩, ck_pos ⟨by omega, by omega⟩, ck_pos ⟨by omega, by omega⟩, lt_eq, ck_pos ⟨by omega, by omega⟩, show ((x : Int) + (j : Int)).toNat = x + j by omega, show ((y : Int) + (j : Int)).toNat = y + j by omega, show (j : Int) + 1 = ((j + 1 : Nat) : Int) by omega]
    exact e1
theorem cop_R {a na b nb : Nat} {x y : Nat} (hab : a ≠ b) (hx : x + 1062 ≤ na) (hy : y + 1062 ≤ nb) (hn : na ≤ 10000 ∧ nb ≤ 10000) (M : Mem) : ∃ M' : Mem, f_X11_copies a na (x : Int) b nb (y : Int) M = some M' ∧ (∀ c : Nat, c ≠ b → M' c = M c) ∧ ∀ i : Nat, M' b i = if y ≤ i ∧ i < y + 1062 then M a (x + (i - y)) else M b i :=
  L_cop hab hx hy hn 1062 0 jFuel M (by omega) (jF (by omega)) (fun _ _ => rfl) (fun i => by rw [if_neg (by omega)])
/-! what a row says is within its 1062 numbers -/
