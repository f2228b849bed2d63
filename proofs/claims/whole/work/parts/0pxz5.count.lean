/-! the class counts the pieces of its draft -/
def mu (g : Row) : Nat → Nat → Int
  | 0 => fun i => if i = 0 then 1 else 0
  | j + 1 => fun i => if rk g j = 2 ∧ (i : Int) = dp g j + 1 then mu g j (dp g j).toNat * g (127 + 4 * j) else if rk g j = 3 ∧ (i : Int) = dp g j + 1 then mu g j (dp g j).toNat else mu g j i
theorem mu_s (g : Row) (j i : Nat) : mu g (j + 1) i = if rk g j = 2 ∧ (i : Int) = dp g j + 1 then mu g j (dp g j).toNat * g (127 + 4 * j) else if rk g j = 3 ∧ (i : Int) = dp g j + 1 then mu g j (dp g j).toNat else mu g j i := rfl
def lst (m : Nat → Int) : Nat → List Int
  | 0 => []
  | n + 1 => m n :: lst m n
theorem lst_c {m m' : Nat → Int} : ∀ n : Nat, (∀ i : Nat, i < n → m' i = m i) → lst m' n = lst m n := by
  intro n
  induction n with
  | zero => intro _; rfl
  | succ n ih =>
    intro h
    show m' n :: lst m' n = m n :: lst m n
    rw [h n (by omega), ih (fun i hi => h i (by omega))]
theorem mul_lst {g : Row} : ∀ j : Nat, PWF g j → mulS g j = lst (mu g j) ((dp g j).toNat + 1) := by
  intro j
  induction j with
  | zero => intro _; rfl
  | succ j ih =>
    intro w
    have e := ih (fun i hi => w i (by omega))
    obtain ⟨d0, ro⟩ := w j (by omega)
    have ds := dp_s g j
    unfold rowOK at ro
    have hd : (mulS g j).headD 0 = mu g j (dp g j).toNat := by rw [e]; rfl
    rw [mulS]
    by_cases k2 : rk g j = 2
    · rw [if_pos k2, hd, e]
      rw [if_pos (Or.inl k2), if_neg (by omega)] at ds
      rw [show (dp g (j + 1)).toNat + 1 = ((dp g j).toNat + 1) + 1 by omega]
      show _ = mu g (j + 1) ((dp g j).toNat + 1) :: lst (mu g (j + 1)) ((dp g j).toNat + 1)
      rw [mu_s, if_pos ⟨k2, by omega⟩, lst_c (m := mu g j) (m' := mu g (j + 1)) _ (fun i hi => by rw [mu_s, if_neg (by omega), if_neg (by omega)])]
    · rw [if_neg k2]
      by_cases k3 : rk g j = 3
      · rw [if_pos k3, hd, e]
        rw [if_pos (Or.inr k3), if_neg (by omega)] at ds
        rw [show (dp g (j + 1)).toNat + 1 = ((dp g j).toNat + 1) + 1 by omega]
        show _ = mu g (j + 1) ((dp g j).toNat + 1) :: lst (mu g (j + 1)) ((dp g j).toNat + 1)
        rw [mu_s, if_neg (by omega), if_pos ⟨k3, by omega⟩, lst_c (m := mu g j) (m' := mu g (j + 1)) _ (fun i hi => by rw [mu_s, if_neg (by omega), if_neg (by omega)])]
      · rw [if_neg k3]
        have same' : ∀ i : Nat, mu g (j + 1) i = mu g j i := fun i => by rw [mu_s, if_neg (fun q => k2 q.1), if_neg (fun q => k3 q.1)]
        by_cases k4 : rk g j = 4
        · rw [if_pos k4, e]
          rw [if_neg (by omega), if_pos k4] at ds
          rw [show (dp g j).toNat + 1 = ((dp g (j + 1)).toNat + 1) + 1 by omega]
          show lst (mu g j) ((dp g (j + 1)).toNat + 1) = _
          exact (lst_c _ (fun i _ => same' i)).symm
        · rw [if_neg k4, e]
          rw [if_neg (by omega), if_neg k4] at ds
          rw [show (dp g (j + 1)).toNat = (dp g j).toNat by omega]
          exact (lst_c _ (fun i _ => same' i)).symm
def p9 (i : Nat) : Int := ((9 ^ i : Nat) : Int)
theorem p9_s (i : Nat) : p9 (i + 1) = p9 i * 9 := by unfold p9; rw [Nat.pow_succ]; omega
theorem p9_le {i j : Nat} (h : i ≤ j) : p9 i ≤ p9 j := by
  unfold p9
  have := Nat.pow_le_pow_right (n := 9) (by omega) h
  omega
theorem mu_b {g : Row} : ∀ j : Nat, PWF g j → ∀ i : Nat, (i : Int) ≤ dp g j → 1 ≤ mu g j i ∧ mu g j i ≤ p9 i := by
  intro j
  induction j with
  | zero =>
    intro _ i hi
    have : i = 0 := by
      have : dp g 0 = 0 := rfl
      omega
    rw [this]; exact ⟨by show (1 : Int) ≤ 1; omega, by show (1 : Int) ≤ p9 0; decide⟩
  | succ j ih =>
    intro w i hi
    have e := ih (fun i hi => w i (by omega))
    obtain ⟨d0, ro⟩ := w j (by omega)
    have ds := dp_s g j
    unfold rowOK at ro
    rw [mu_s]
    have eb := e (dp g j).toNat (by omega)
    by_cases c2 : rk g j = 2 ∧ (i : Int) = dp g j + 1
    · rw [if_pos c2, show i = (dp g j).toNat + 1 by omega, p9_s]
      have t : 1 ≤ g (127 + 4 * j) ∧ g (127 + 4 * j) ≤ 9 := by omega
      have m1 : 1 * 1 ≤ mu g j (dp g j).toNat * g (127 + 4 * j) := Int.mul_le_mul eb.1 t.1 (by omega) (by omega)
      have m2 : mu g j (dp g j).toNat * g (127 + 4 * j) ≤ p9 (dp g j).toNat * 9 := Int.mul_le_mul eb.2 t.2 (by omega) (by omega)
      omega
    · rw [if_neg c2]
      by_cases c3 : rk g j = 3 ∧ (i : Int) = dp g j + 1
      · rw [if_pos c3]
        have := p9_le (show (dp g j).toNat ≤ i by omega)
        omega
      · rw [if_neg c3]
        by_cases k23 : rk g j = 2 ∨ rk g j = 3
        · rw [if_pos k23, if_neg (by omega)] at ds
          exact e i (by omega)
        · rw [if_neg k23] at ds
          by_cases k4 : rk g j = 4
          · rw [if_pos k4] at ds; exact e i (by omega)
          · rw [if_neg k4] at ds; exact e i (by omega)
theorem npc_b {g : Row} : ∀ j : Nat, PWF g j → 0 ≤ npc g j ∧ npc g j ≤ 6561 * (j : Int) := by
  intro j
  induction j with
  | zero => intro _; exact ⟨Int.le_refl _, Int.le_refl _⟩
  | succ j ih =>
    intro w
    have e := ih (fun i hi => w i (by omega))
    obtain ⟨d0, ro⟩ := w j (by omega)
    have mb := mu_b j (fun i hi => w i (by omega)) (dp g j).toNat (by omega)
    have p4 := p9_le (show (dp g j).toNat ≤ 4 by omega)
    have e4 : p9 4 = 6561 := by decide
    have hd : (mulS g j).headD 0 = mu g j (dp g j).toNat := by rw [mul_lst j (fun i hi => w i (by omega))]; rfl
    rw [show npc g (j + 1) = npc g j + (if rk g j = 0 ∨ rk g j = 1 then (mulS g j).headD 0 else 0) from rfl, hd]
    split <;> omega
theorem L_pc {C0 : Mem} {g : Row} {q : Nat} (p : PRI C0 g q) (w : PWF g q) (q60 : q ≤ 60) (i30 : it g q ≤ 30) (d0 : dp g q = 0) : ∀ (k j n : Nat) (C : Mem), j + k = q → k < n → (∀ c : Nat, c ≠ 52 → C c = C0 c) → (∀ i : Nat, (i : Int) ≤ dp g j → C 52 i = mu g j i) →
    ∃ C' : Mem, f_X2_pieceCount_L11 29 n (npc g j) (it g j : Nat) C = some (npc g q, C') ∧ ∀ c : Nat, c ≠ 52 → C' c = C0 c := by
  intro k
  induction k with
  | zero =>
    intro j n C hj hn f m
    obtain ⟨n, rfl⟩ := nat_ex hn
    obtain rfl : j = q := by omega
    refine ⟨C, ?_, f⟩
    rw [f_X2_pieceCount_L11, f (29 + 17) (by decide), p.1, if_pos (by omega)]
  | succ k ih =>
    intro j n C hj hn f m
    have wj : PWF g j := fun i hi => w i (by omega)
    obtain ⟨dj, ro⟩ := w j (by omega)
    unfold rowOK at ro
    have ds := dp_s g j
    have hd : (mulS g j).headD 0 = mu g j (dp g j).toNat := by rw [mul_lst j wj]; rfl
    have ns : npc g (j + 1) = npc g j + (if rk g j = 0 ∨ rk g j = 1 then (mulS g j).headD 0 else 0) := rfl
    by_cases k4 : rk g j = 4
    · rw [if_neg (by omega), if_pos k4] at ds
      rw [if_neg (by omega), Int.add_zero] at ns
      rw [← ns, ← it_s4 k4]
      exact ih (j + 1) n C (by omega) (by omega) f (fun i hi => by rw [mu_s, if_neg (by omega), if_neg (by omega)]; exact m i (by omega))
    · obtain ⟨n, rfl⟩ := nat_ex hn
      have l := it_lt (g := g) (m := q) (show j < q by omega) k4
      have pj := p.2 j (by omega) k4
      unfold itm at pj
      rw [Prod.mk.injEq, Prod.mk.injEq, Prod.mk.injEq, Prod.mk.injEq] at pj
      have mb := mu_b j wj (dp g j).toNat (by omega)
      have p4 := p9_le (show (dp g j).toNat ≤ 4 by omega)
      have e4 : p9 4 = 6561 := by decide
      have nb := npc_b j wj
      have bl : f_X2_isBlock 29 (it g j : Nat) C = some (if rk g j = 2 ∨ rk g j = 3 then 1 else 0) := by
        unfold f_X2_isBlock
        rw [if_neg (by omega), f (29 + 17) (by decide), p.1, if_neg (by omega), ck_pos ⟨by omega, by omega⟩, Int.toNat_natCast, f (29 + 18) (by decide), pj.1]
        by_cases y : rk g j < 2
        · rw [if_pos y, if_neg (by omega)]
        · rw [if_neg y, if_pos (by omega)]
      have md : C 52 (dp g j).toNat = mu g j (dp g j).toNat := m _ (by omega)
      rw [f_X2_pieceCount_L11, f (29 + 17) (by decide), p.1, if_neg (by omega), ck_pos ⟨by omega, by omega⟩, Int.toNat_natCast, f (29 + 22) (by decide), pj.2.2.2.2, if_neg (by omega), if_pos (by omega), bl, Option.bind_some]
      by_cases kb : rk g j = 2 ∨ rk g j = 3
      · rw [if_pos kb, if_neg k4] at ds
        rw [if_neg (by omega), Int.add_zero] at ns
        rw [if_pos kb, if_neg (by decide), if_neg (by omega), ck_pos ⟨by omega, by omega⟩, ck_pos ⟨by omega, by omega⟩, f (29 + 18) (by decide), pj.1, f (29 + 19) (by decide), pj.2.1, show (29 + 23 : Nat) = 52 from rfl, md]
        have go : ∀ v : Int, v = mu g (j + 1) ((dp g j).toNat + 1) → ∃ C' : Mem, (ck (inR ((it g j : Nat) + 1 : Int)) <| f_X2_pieceCount_L11 29 n (npc g j) ((it g j : Nat) + 1) (upm C 52 (dp g j + 1).toNat v)) = some (npc g q, C') ∧ ∀ c : Nat, c ≠ 52 → C' c = C0 c := by
          intro v hv
          obtain ⟨C', e1, e2⟩ := ih (j + 1) n (upm C 52 (dp g j + 1).toNat v) (by omega) (by omega) (fun c hc => by rw [upm_ne hc]; exact f c hc) (fun i hi => by
            rw [upm_row, updr_ap]
            by_cases y : i = (dp g j + 1).toNat
            · rw [if_pos y, hv]; congr 1; omega
            · rw [if_neg y, mu_s, if_neg (by omega), if_neg (by omega)]; exact m i (by omega))
          refine ⟨C', ?_, e2⟩
          rw [ck_pos ⟨by omega, by omega⟩, show ((it g j : Nat) : Int) + 1 = (it g (j + 1) : Nat) by rw [it_s1 k4]; omega, ← ns]
          exact e1
        by_cases k2 : rk g j = 2
        · have t : 1 ≤ g (127 + 4 * j) ∧ g (127 + 4 * j) ≤ 9 := by omega
          have m1 : 0 ≤ mu g j (dp g j).toNat * g (127 + 4 * j) := Int.mul_nonneg (by omega) (by omega)
          have m2 : mu g j (dp g j).toNat * g (127 + 4 * j) ≤ 6561 * 9 := Int.mul_le_mul (by omega) t.2 (by omega) (by omega)
          rw [if_pos k2, ck_pos ⟨by omega, by omega⟩, ck_pos ⟨by omega, by omega⟩, lt_eq]
          exact go _ (by rw [mu_s, if_pos ⟨k2, by omega⟩])
        · rw [if_neg k2, Int.mul_one, ck_pos ⟨by omega, by omega⟩, ck_pos ⟨by omega, by omega⟩, lt_eq]
          exact go _ (by rw [mu_s, if_neg (by omega), if_pos ⟨by omega, by omega⟩])
      · rw [if_neg kb, if_neg k4] at ds
        rw [if_pos (by omega), hd] at ns
        rw [if_neg kb, if_pos rfl, ck_pos ⟨by omega, by omega⟩, show (29 + 23 : Nat) = 52 from rfl, md, ck_pos ⟨by omega, by omega⟩, ck_pos ⟨by omega, by omega⟩, ← ns, show ((it g j : Nat) : Int) + 1 = (it g (j + 1) : Nat) by rw [it_s1 k4]; omega]
        exact ih (j + 1) n C (by omega) (by omega) f (fun i hi => by rw [mu_s, if_neg (by omega), if_neg (by omega)]; exact m i (by omega))
theorem count_C {C : Mem} {g : Row} {q : Nat} (p : PRI C g q) (w : PWF g q) (q60 : q ≤ 60) (i30 : it g q ≤ 30) (d0 : dp g q = 0) : ∃ C' : Mem, f_X2_pieceCount 29 C = some (npc g q, C') ∧ ∀ c : Nat, c ≠ 52 → C' c = C c := by
  obtain ⟨C1, hC1⟩ : ∃ C1 : Mem, C1 = upm C 52 0 1 := ⟨_, rfl⟩
  have f1 : ∀ c : Nat, c ≠ 52 → C1 c = C c := fun c hc => by rw [hC1, upm_ne hc]
  obtain ⟨C', e1, e2⟩ := L_pc (C0 := C) p w q60 i30 d0 q 0 jFuel C1 (by omega) (jF (by omega)) f1 (fun i hi => by
    have : i = 0 := by
      have : dp g 0 = 0 := rfl
      omega
    rw [this, hC1, upm_hit]; rfl)
  refine ⟨C', ?_, e2⟩
  unfold f_X2_pieceCount
  rw [show (29 + 23 : Nat) = 52 from rfl, show (0 : Int).toNat = 0 from rfl, lt_eq, ← hC1]
  exact e1
