/-! rows shifted by the reference -/
theorem L_front {M0 : Mem} {a m e : Nat} (h8 : M0 1 8 = (e : Int)) (he : e ≤ 60) (ham : a + m ≤ e) (hm : 1 ≤ m) : ∀ (k j n : Nat) (M : Mem), j + k = 4 * (e - (a + m)) → k < n → (∀ c : Nat, c ≠ 1 → M c = M0 c) → (∀ i : Nat, M 1 i = if 126 + 4 * a ≤ i ∧ i < 126 + 4 * a + j then M0 1 (i + 4 * m) else M0 1 i) →
    ∃ M' : Mem, f_X11_shiftsFront_L9 (m : Int) n ((126 + 4 * (a + m) + j : Nat) : Int) M = some M' ∧ (∀ c : Nat, c ≠ 1 → M' c = M0 c) ∧ ∀ i : Nat, M' 1 i = if i = 8 then (e : Int) - m else if 126 + 4 * a ≤ i ∧ i < 126 + 4 * (e - m) then M0 1 (i + 4 * m) else M0 1 i := by
  intro k
  induction k with
  | zero =>
    intro j n M hj hn h1 h2
    obtain ⟨n, rfl⟩ := nat_ex hn
    have e8 : M 1 8 = (e : Int) := by rw [h2, if_neg (by omega)]; exact h8
    refine ⟨upm M 1 8 ((e : Int) - m), ?_, fun c hc => by rw [upm_ne hc]; exact h1 c hc, fun i => ?_⟩
    · simp only [f_X11_shiftsFront_L9, show (8 : Int).toNat = 8 from rfl]
      rw [e8, ck_pos ⟨by omega, by omega⟩, ck_pos ⟨by omega, by omega⟩, if_pos (by omega), ck_pos ⟨by omega, by omega⟩, lt_eq]
    · rw [upm_row, updr_ap, h2 i]
      by_cases z : i = 8
      · rw [if_pos z, if_pos z]
      · rw [if_neg z, if_neg z]
        by_cases w : 126 + 4 * a ≤ i ∧ i < 126 + 4 * a + j
        · rw [if_pos w, if_pos (by omega)]
        · rw [if_neg w, if_neg (by omega)]
  | succ k ih =>
    intro j n M hj hn h1 h2
    obtain ⟨n, rfl⟩ := nat_ex hn
    have e8 : M 1 8 = (e : Int) := by rw [h2, if_neg (by omega)]; exact h8
    have rd : M 1 (126 + 4 * (a + m) + j) = M0 1 (126 + 4 * (a + m) + j) := by rw [h2, if_neg (by omega)]
    obtain ⟨M', e1, e2⟩ := ih (j + 1) n (upm M 1 (126 + 4 * a + j) (M0 1 (126 + 4 * (a + m) + j))) (by omega) (by omega) (fun c hc => by rw [upm_ne hc]; exact h1 c hc) (fun i => by
      rw [upm_row, updr_ap, h2 i]
      by_cases z : i = 126 + 4 * a + j
      · rw [if_pos z, if_pos (by omega), z, show 126 + 4 * a + j + 4 * m = 126 + 4 * (a + m) + j by omega]
      · rw [if_neg z]
        by_cases w : 126 + 4 * a ≤ i ∧ i < 126 + 4 * a + j
        · rw [if_pos w, if_pos (by omega)]
        · rw [if_neg w, if_neg (by omega)])
    refine ⟨M', ?_, e2⟩
    simp only [f_X11_shiftsFront_L9, show (8 : Int).toNat = 8 from rfl]
    rw [e8, ck_pos ⟨by omega, by omega⟩, ck_pos ⟨by omega, by omega⟩, if_neg (by omega), ck_pos ⟨by omega, by omega⟩, ck_pos ⟨by omega, by omega⟩, ck_pos ⟨by omega, by omega⟩, ck_pos ⟨by omega, by omega⟩, lt_eq, ck_pos ⟨by omega, by omega⟩, Int.toNat_natCast, rd, show (((126 + 4 * (a + m) + j : Nat) : Int) - 4 * (m : Int)).toNat = 126 + 4 * a + j by omega, show ((126 + 4 * (a + m) + j : Nat) : Int) + 1 = ((126 + 4 * (a + m) + (j + 1) : Nat) : Int) by omega]
    exact e1
theorem front_R {M : Mem} {a m e : Nat} (h8 : M 1 8 = (e : Int)) (he : e ≤ 60) (ham : a + m ≤ e) (hm : 1 ≤ m) : ∃ M' : Mem, f_X11_shiftsFront (a : Int) (m : Int) M = some M' ∧ (∀ c : Nat, c ≠ 1 → M' c = M c) ∧ ∀ i : Nat, M' 1 i = if i = 8 then (e : Int) - m else if 126 + 4 * a ≤ i ∧ i < 126 + 4 * (e - m) then M 1 (i + 4 * m) else M 1 i := by
  obtain ⟨M', e1, e2⟩ := L_front h8 he ham hm (4 * (e - (a + m))) 0 jFuel M (by omega) (jF (by omega)) (fun _ _ => rfl) (fun i => by rw [if_neg (by omega)])
  refine ⟨M', ?_, e2⟩
  unfold f_X11_shiftsFront
  rw [ck_pos ⟨by omega, by omega⟩, ck_pos ⟨by omega, by omega⟩, ck_pos ⟨by omega, by omega⟩, show 126 + 4 * ((a : Int) + (m : Int)) = ((126 + 4 * (a + m) + 0 : Nat) : Int) by omega]
  exact e1
theorem L_back {M0 : Mem} {a m e : Nat} (h8 : M0 1 8 = (e : Int)) (hae : a ≤ e) (hem : e + m ≤ 60) (hm : 1 ≤ m) : ∀ (k j n : Nat) (M : Mem), j + k = 4 * (e - a) → k < n → (∀ c : Nat, c ≠ 1 → M c = M0 c) → (∀ i : Nat, M 1 i = if 126 + 4 * (e + m) - j ≤ i ∧ i < 126 + 4 * (e + m) then M0 1 (i - 4 * m) else M0 1 i) →
    ∃ M' : Mem, f_X11_shiftsBack_L15 (a : Int) (m : Int) n (126 + 4 * (e : Int) - 1 - (j : Int)) M = some M' ∧ (∀ c : Nat, c ≠ 1 → M' c = M0 c) ∧ ∀ i : Nat, M' 1 i = if i = 8 then (e : Int) + m else if 126 + 4 * (a + m) ≤ i ∧ i < 126 + 4 * (e + m) then M0 1 (i - 4 * m) else M0 1 i := by
  intro k
  induction k with
  | zero =>
    intro j n M hj hn h1 h2
    obtain ⟨n, rfl⟩ := nat_ex hn
    have e8 : M 1 8 = (e : Int) := by rw [h2, if_neg (by omega)]; exact h8
    refine ⟨upm M 1 8 ((e : Int) + m), ?_, fun c hc => by rw [upm_ne hc]; exact h1 c hc, fun i => ?_⟩
    · simp only [f_X11_shiftsBack_L15, show (8 : Int).toNat = 8 from rfl]
      rw [ck_pos ⟨by omega, by omega⟩, ck_pos ⟨by omega, by omega⟩, if_pos (by omega), e8, ck_pos ⟨by omega, by omega⟩, lt_eq]
    · rw [upm_row, updr_ap, h2 i]
      by_cases z : i = 8
      · rw [if_pos z, if_pos z]
      · rw [if_neg z, if_neg z]
        by_cases w : 126 + 4 * (e + m) - j ≤ i ∧ i < 126 + 4 * (e + m)
        · rw [if_pos w, if_pos (by omega)]
        · rw [if_neg w, if_neg (by omega)]
  | succ k ih =>
    intro j n M hj hn h1 h2
    obtain ⟨n, rfl⟩ := nat_ex hn
    obtain ⟨x, hx⟩ : ∃ x : Nat, x = 126 + 4 * e - 1 - j := ⟨_, rfl⟩
    have rd : M 1 x = M0 1 x := by rw [h2, if_neg (by omega)]
    obtain ⟨M', e1, e2⟩ := ih (j + 1) n (upm M 1 (x + 4 * m) (M0 1 x)) (by omega) (by omega) (fun c hc => by rw [upm_ne hc]; exact h1 c hc) (fun i => by
      rw [upm_row, updr_ap, h2 i]
      by_cases z : i = x + 4 * m
      · rw [if_pos z, if_pos (by omega), z, show x + 4 * m - 4 * m = x by omega]
      · rw [if_neg z]
        by_cases w : 126 + 4 * (e + m) - j ≤ i ∧ i < 126 + 4 * (e + m)
        · rw [if_pos w, if_pos (by omega)]
        · rw [if_neg w, if_neg (by omega)])
    refine ⟨M', ?_, e2⟩
    simp only [f_X11_shiftsBack_L15]
    rw [show 126 + 4 * (e : Int) - 1 - (j : Int) = (x : Int) by omega, ck_pos ⟨by omega, by omega⟩, ck_pos ⟨by omega, by omega⟩, if_neg (by omega), ck_pos ⟨by omega, by omega⟩, ck_pos ⟨by omega, by omega⟩, ck_pos ⟨by omega, by omega⟩, ck_pos ⟨by omega, by omega⟩, lt_eq, ck_pos ⟨by omega, by omega⟩, Int.toNat_natCast, rd, show ((x : Int) + 4 * (m : Int)).toNat = x + 4 * m by omega, show (x : Int) + -1 = 126 + 4 * (e : Int) - 1 - ((j + 1 : Nat) : Int) by omega]
    exact e1
theorem back_R {M : Mem} {a m e : Nat} (h8 : M 1 8 = (e : Int)) (hae : a ≤ e) (hem : e + m ≤ 60) (hm : 1 ≤ m) : ∃ M' : Mem, f_X11_shiftsBack (a : Int) (m : Int) M = some M' ∧ (∀ c : Nat, c ≠ 1 → M' c = M c) ∧ ∀ i : Nat, M' 1 i = if i = 8 then (e : Int) + m else if 126 + 4 * (a + m) ≤ i ∧ i < 126 + 4 * (e + m) then M 1 (i - 4 * m) else M 1 i := by
  obtain ⟨M', e1, e2⟩ := L_back h8 hae hem hm (4 * (e - a)) 0 jFuel M (by omega) (jF (by omega)) (fun _ _ => rfl) (fun i => by rw [if_neg (by omega)])
  refine ⟨M', ?_, e2⟩
  unfold f_X11_shiftsBack
  rw [show (8 : Int).toNat = 8 from rfl, h8, ck_pos ⟨by omega, by omega⟩, ck_pos ⟨by omega, by omega⟩, ck_pos ⟨by omega, by omega⟩]
  rw [show 126 + 4 * (e : Int) - 1 - ((0 : Nat) : Int) = 126 + 4 * (e : Int) - 1 by omega] at e1
  exact e1
