/-! assemble: the best choice laid -/
theorem bst_ok (g : Row) (al : Nat) (e : Int) : ∀ n : Nat, (bst g al e n).1 ≠ 0 → okM g al e (bst g al e n).1 ∧ (bst g al e n).2 = sm g (bst g al e n).1 - e ∧ (bst g al e n).1 < n := by
  intro n
  induction n with
  | zero => intro h; exact absurd rfl h
  | succ n ih =>
    by_cases c : okM g al e n ∧ bet g e n (bst g al e n)
    · rw [bst_y c.1 c.2]
      intro _
      exact ⟨c.1, rfl, Nat.lt_succ_self n⟩
    · rw [bst_n c]
      intro h
      obtain ⟨a, b, d⟩ := ih h
      exact ⟨a, b, by omega⟩
theorem bit_j {m j : Nat} (hm : m < 4096) (hj : j < 13) : iand (ishr (m : Int) (j : Int)) 1 = ((m / 2 ^ j % 2 : Nat) : Int) := by
  have l : m / 2 ^ j ≤ m := Nat.div_le_self _ _
  rw [ishr_nat (by omega) hj]
  have := iand_nat (a := m / 2 ^ j) (b := 1) (by omega) (by omega)
  rw [Nat.and_one_is_mod] at this
  exact this
def chL (m : Nat) : Nat → List Nat
  | 0 => []
  | j + 1 => if m / 2 ^ j % 2 = 1 then chL m j ++ [j] else chL m j
theorem chL_s (m j : Nat) : chL m (j + 1) = if m / 2 ^ j % 2 = 1 then chL m j ++ [j] else chL m j := rfl
theorem chL_le (m : Nat) : ∀ j : Nat, (chL m j).length ≤ j ∧ ∀ x ∈ chL m j, x < j := by
  intro j
  induction j with
  | zero => exact ⟨Nat.le_refl _, fun x hx => by simp [chL] at hx⟩
  | succ j ih =>
    rw [chL_s]
    split
    · rw [List.length_append, List.length_singleton]
      refine ⟨by omega, fun x hx => ?_⟩
      rw [List.mem_append, List.mem_singleton] at hx
      rcases hx with u | u
      · have := ih.2 x u; omega
      · omega
    · exact ⟨by omega, fun x hx => by have := ih.2 x hx; omega⟩
theorem chL_top {m t : Nat} (h1 : 2 ^ t ≤ m) (h2 : m < 2 ^ (t + 1)) : ∀ k : Nat, chL m (t + 1 + k) = chL m t ++ [t] := by
  have d : m / 2 ^ t = 1 := by
    have p := Nat.two_pow_pos t
    have p2 : 2 ^ (t + 1) = 2 ^ t * 2 := Nat.pow_succ 2 t
    exact Nat.div_eq_of_lt_le (by omega) (by omega)
  intro k
  induction k with
  | zero => rw [Nat.add_zero, chL_s, d, if_pos rfl]
  | succ k ih =>
    have z : m / 2 ^ (t + 1 + k) = 0 := Nat.div_eq_of_lt (Nat.lt_of_lt_of_le h2 (Nat.pow_le_pow_right (by omega) (by omega)))
    rw [show t + 1 + (k + 1) = t + 1 + k + 1 by omega, chL_s, z, if_neg (by decide), ih]
theorem getD_appN {L : List Nat} {q i : Nat} (h : i < L.length) : (L ++ [q]).getD i 0 = L.getD i 0 := by
  rw [List.getD_eq_getElem?_getD, List.getD_eq_getElem?_getD, List.getElem?_append_left h]
theorem getD_lastN {L : List Nat} {q : Nat} : (L ++ [q]).getD L.length 0 = q := by
  rw [List.getD_eq_getElem?_getD, List.getElem?_append_right (Nat.le_refl _), Nat.sub_self]; rfl
theorem getD_memN {L : List Nat} {i : Nat} (h : i < L.length) : L.getD i 0 ∈ L := by
  rw [List.getD_eq_getElem?_getD, List.getElem?_eq_getElem h]
  exact List.getElem_mem h
theorem L_asC {C0 : Mem} {g : Row} (hl : WFl g) (r : RSl C0 5 g) {m : Nat} (hm : m < 4096) (h71 : C0 71 0 = (m : Int)) : ∀ (k j n : Nat) (C : Mem), (j : Int) + k = g 5 → k < n → C 22 0 = ((chL m j).length : Int) → (∀ i : Nat, i < (chL m j).length → itm C 5 i = (0, ((chL m j).getD i 0 : Int), 0, g (13 + 2 * (chL m j).getD i 0) - 1, 0)) → (∀ c : Nat, c < 22 ∨ 27 < c → C c = C0 c) →
    ∃ C' : Mem, f_X10_assemble_L48 n (j : Int) C = (ck (inR ((C' 22 0) - 1)) <| (f_X2_shorten 5 ((C' 22 0) - 1) (C' 71 1) C').bind fun M135 => (f_X10_settle M135).bind fun M139 => some ((M139 71 1), M139)) ∧ C' 22 0 = ((chL m (g 5).toNat).length : Int) ∧ (∀ i : Nat, i < (chL m (g 5).toNat).length → itm C' 5 i = (0, ((chL m (g 5).toNat).getD i 0 : Int), 0, g (13 + 2 * (chL m (g 5).toNat).getD i 0) - 1, 0)) ∧ ∀ c : Nat, c < 22 ∨ 27 < c → C' c = C0 c := by
  have h5 := hl.2.2.2.2.2.1
  intro k
  induction k with
  | zero =>
    intro j n C hj hn h1 h2 f
    obtain ⟨n, rfl⟩ := nat_ex hn
    refine ⟨C, ?_, by rw [show (g 5).toNat = j by omega]; exact h1, by rw [show (g 5).toNat = j by omega]; exact h2, f⟩
    rw [f_X10_assemble_L48, f 6 (by omega), show C0 6 0 = g 5 from r.1, if_pos (by omega)]
  | succ k ih =>
    intro j n C hj hn h1 h2 f
    obtain ⟨n, rfl⟩ := nat_ex hn
    have ih := ih (j + 1) n
    rw [f_X10_assemble_L48, f 6 (by omega), show C0 6 0 = g 5 from r.1, if_neg (by omega), f 71 (by omega), h71, bit_j hm (by omega), ck_pos ⟨by omega, by omega⟩, show (j : Int) + 1 = ((j + 1 : Nat) : Int) by omega]
    have le := (chL_le m j).1
    rw [chL_s] at ih
    by_cases z : m / 2 ^ j % 2 = 1
    · rw [if_pos z] at ih
      rw [if_neg (by omega)]
      have lj := hl.2.2.2.2.2.2.2.2.1 j (by omega)
      have ln : f_X3_lengthOf 5 (j : Int) C = some (g (13 + 2 * j)) := by
        have q3 : C (5 + 3) j = g (13 + 2 * j) := by rw [f (5 + 3) (by decide)]; exact (r.2.2.2.1 j (by omega)).2
        have q1 : C (5 + 1) 0 = g 5 := by rw [f (5 + 1) (by decide)]; exact r.1
        unfold f_X3_lengthOf
        rw [if_neg (by omega), q1, if_neg (by omega), ck_pos ⟨by omega, by omega⟩, Int.toNat_natCast, q3]
      obtain ⟨C2, a1, a2, a3, a4, a5⟩ := addI_C (M := C) (s := 5) h1 (by omega) 0 (j : Int) 0 (g (13 + 2 * j) - 1) 0
      rw [ln, Option.bind_some, ck_pos ⟨by omega, by omega⟩, a1, Option.bind_some, ck_pos ⟨by omega, by omega⟩]
      refine ih C2 (by omega) (by omega) (by rw [a2, List.length_append, List.length_singleton]) (fun i hi => ?_) (fun c hc => (a5 c (by omega)).trans (f c hc))
      rw [List.length_append, List.length_singleton] at hi
      by_cases y : i = (chL m j).length
      · rw [y, a3, getD_lastN]
      · rw [getD_appN (by omega), a4 i y]; exact h2 i (by omega)
    · rw [if_neg z] at ih
      rw [if_pos (by omega)]
      exact ih C (by omega) (by omega) h1 h2 f
def asRow (g : Row) (m : Nat) (w : Int) (L : List Nat) (f : Row) : Prop := f 8 = (L.length : Int) ∧ (∀ i : Nat, i < L.length → f (126 + 4 * i) = 0 ∧ f (127 + 4 * i) = (L.getD i 0 : Int) ∧ f (128 + 4 * i) = 0 ∧ f (129 + 4 * i) = g (13 + 2 * L.getD i 0) - 1 - (if m / 2 ^ (L.getD i 0) = 1 then w else 0)) ∧ outE g f
theorem L_asR {M0 : Mem} {g : Row} (hl : WFl g) {m : Nat} (hm : m < 4096) {w : Int} (hw : 0 ≤ w ∧ w ≤ 5000) (h26 : M0 0 26 = (m : Int)) (h27 : M0 0 27 = w) : ∀ (k j n : Nat) (M : Mem), (j : Int) + k = g 5 → k < n → asRow g m w (chL m j) (M 1) → (∀ c : Nat, c ≠ 1 → M c = M0 c) →
    ∃ M' : Mem, f_X11_assemble_L46 n (j : Int) M = some (w, M') ∧ asRow g m w (chL m (g 5).toNat) (M' 1) ∧ ∀ c : Nat, c ≠ 1 → M' c = M0 c := by
  have h5 := hl.2.2.2.2.2.1
  intro k
  induction k with
  | zero =>
    intro j n M hj hn h1 f
    obtain ⟨n, rfl⟩ := nat_ex hn
    refine ⟨M, ?_, by rw [show (g 5).toNat = j by omega]; exact h1, f⟩
    rw [f_X11_assemble_L46, show (5 : Int).toNat = 5 from rfl, h1.2.2 5 (by decide) (by omega), if_pos (by omega), f 0 (by decide), h27]
  | succ k ih =>
    intro j n M hj hn h1 f
    obtain ⟨n, rfl⟩ := nat_ex hn
    have ih := ih (j + 1) n
    obtain ⟨h8, hr, ho⟩ := h1
    rw [f_X11_assemble_L46, show (5 : Int).toNat = 5 from rfl, show (8 : Int).toNat = 8 from rfl, ho 5 (by decide) (by omega), if_neg (by omega), f 0 (by decide), h26, h27, bit_j hm (by omega), ck_pos ⟨by omega, by omega⟩, show (j : Int) + 1 = ((j + 1 : Nat) : Int) by omega]
    have le := (chL_le m j).1
    rw [chL_s] at ih
    by_cases z : m / 2 ^ j % 2 = 1
    · rw [if_pos z] at ih
      have lj := hl.2.2.2.2.2.2.2.2.1 j (by omega)
      have ln : f_X11_lengthOf (j : Int) M = some (g (13 + 2 * j)) := by
        rw [len_ev (by omega), ho _ (by omega) (by omega)]
      obtain ⟨vv, hv⟩ : ∃ vv : Int, vv = if m / 2 ^ j = 1 then w else 0 := ⟨_, rfl⟩
      have vb : 0 ≤ vv ∧ vv ≤ 5000 := by rw [hv]; split <;> omega
      obtain ⟨M2, a1, a2, a3⟩ := lays_R (M := M) (t := (chL m j).length) (by omega) 0 (j : Int) 0 (g (13 + 2 * j) - 1 - vv)
      have go : (ck (inR ((g (13 + 2 * j) - 1) - vv)) <| (f_X11_lays (M 1 8) 0 (j : Int) 0 ((g (13 + 2 * j) - 1) - vv) M).bind fun M117 => ck (inR ((M117 1 8) + 1)) <| lt (upm M117 1 8 ((M117 1 8) + 1)) fun N1 => ck (inR ((j + 1 : Nat) : Int)) <| f_X11_assemble_L46 n ((j + 1 : Nat) : Int) N1) = f_X11_assemble_L46 n ((j + 1 : Nat) : Int) (upm M2 1 8 (((chL m j).length : Int) + 1)) := by
        have e8 : M2 1 8 = ((chL m j).length : Int) := by rw [a3, if_neg (by omega), if_neg (by omega), if_neg (by omega), if_neg (by omega)]; exact h8
        rw [ck_pos ⟨by omega, by omega⟩, h8, a1, Option.bind_some, e8, ck_pos ⟨by omega, by omega⟩, lt_eq, ck_pos ⟨by omega, by omega⟩]
      have go2 := ih (upm M2 1 8 (((chL m j).length : Int) + 1)) (by omega) (by omega) ⟨by rw [upm_hit, List.length_append, List.length_singleton]; omega, fun i hi => ?_, fun i i1 i2 => by rw [upm_sl i1, a3, if_neg (by omega), if_neg (by omega), if_neg (by omega), if_neg (by omega)]; exact ho i i1 i2⟩ (fun c hc => by rw [upm_ne hc, a2 c hc]; exact f c hc)
      · rw [if_neg (by omega), jn_eq]
        rw [← go] at go2
        by_cases y : m / 2 ^ j = 1
        · rw [if_pos (by rw [ishr_nat (by omega) (by omega), y]; rfl)]
          dsimp only
          rw [ln, Option.bind_some, ck_pos ⟨by omega, by omega⟩, jn_eq, if_neg (by decide)]
          dsimp only
          rw [if_pos y] at hv
          rw [hv] at go2
          exact go2
        · rw [if_neg (by rw [ishr_nat (by omega) (by omega)]; omega)]
          dsimp only
          rw [ln, Option.bind_some, ck_pos ⟨by omega, by omega⟩, jn_eq, if_pos rfl]
          dsimp only
          rw [if_neg y] at hv
          rw [hv] at go2
          exact go2
      · rw [List.length_append, List.length_singleton] at hi
        by_cases y : i = (chL m j).length
        · rw [y, getD_lastN, upm_sl (by omega), upm_sl (by omega), upm_sl (by omega), upm_sl (by omega), a3, a3, a3, a3, if_pos rfl, if_neg (by omega), if_pos rfl, if_neg (by omega), if_neg (by omega), if_pos rfl, if_neg (by omega), if_neg (by omega), if_neg (by omega), if_pos rfl, hv]
          exact ⟨rfl, rfl, rfl, rfl⟩
        · rw [getD_appN (by omega), upm_sl (by omega), upm_sl (by omega), upm_sl (by omega), upm_sl (by omega), a3, a3, a3, a3, if_neg (by omega), if_neg (by omega), if_neg (by omega), if_neg (by omega), if_neg (by omega), if_neg (by omega), if_neg (by omega), if_neg (by omega), if_neg (by omega), if_neg (by omega), if_neg (by omega), if_neg (by omega), if_neg (by omega), if_neg (by omega), if_neg (by omega), if_neg (by omega)]
          exact hr i (by omega)
    · rw [if_neg z] at ih
      rw [if_pos (by omega)]
      exact ih M (by omega) (by omega) ⟨h8, hr, ho⟩ f
