/-! the class's draft of items -/
/-- item k of a state -/
def itm (M : Mem) (s k : Nat) : Int × Int × Int × Int × Int := (M (s + 18) k, M (s + 19) k, M (s + 20) k, M (s + 21) k, M (s + 22) k)
theorem addI_C {M : Mem} {s n : Nat} (hn : M (s + 17) 0 = (n : Int)) (h30 : n < 30) (x1 x2 x3 x4 x5 : Int) : ∃ M' : Mem, f_X2_add s x1 x2 x3 x4 x5 M = some M' ∧ M' (s + 17) 0 = ((n + 1 : Nat) : Int) ∧ itm M' s n = (x1, x2, x3, x4, x5) ∧ (∀ k : Nat, k ≠ n → itm M' s k = itm M s k) ∧ ∀ c : Nat, c < s + 17 ∨ s + 22 < c → M' c = M c := by
  unfold f_X2_add
  rw [hn, if_pos (by omega), ck_pos ⟨by omega, by omega⟩, Int.toNat_natCast, lt_eq, lt_eq, lt_eq, lt_eq, lt_eq, ck_pos ⟨by omega, by omega⟩, lt_eq]
  refine ⟨_, rfl, ?_, ?_, fun k hk => ?_, fun c hc => ?_⟩
  · rw [upm_hit]; omega
  · unfold itm
    simp (disch := omega) only [upm_ne, upm_hit]
  · unfold itm
    simp (disch := omega) only [upm_ne, upm_sl]
  · simp (disch := omega) only [upm_ne]
theorem L_addT {M0 : Mem} {b : Nat} (hb : b ≤ 30) : ∀ (k j n : Nat) (M : Mem) (q : Nat), j + k = b → k < n → M (29 + 17) 0 = (q : Int) → q + k ≤ 30 → (∀ c : Nat, c < 29 + 17 ∨ 29 + 22 < c → M c = M0 c) →
    ∃ M' : Mem, f_X2_addTop_L15 29 5 (b : Int) n (j : Int) M = some M' ∧ M' (29 + 17) 0 = ((q + k : Nat) : Int) ∧ (∀ c : Nat, c < 29 + 17 ∨ 29 + 22 < c → M' c = M0 c) ∧ (∀ i : Nat, i < k → itm M' 29 (q + i) = itm M0 5 (j + i)) ∧ ∀ i : Nat, i < q → itm M' 29 i = itm M 29 i := by
  intro k
  induction k with
  | zero =>
    intro j n M q hj hn hq _ hf
    obtain ⟨n, rfl⟩ := nat_ex hn
    refine ⟨M, ?_, hq, hf, fun i hi => by omega, fun _ _ => rfl⟩
    simp only [f_X2_addTop_L15]
    rw [if_pos (by omega)]
  | succ k ih =>
    intro j n M q hj hn hq h30 hf
    obtain ⟨n, rfl⟩ := nat_ex hn
    obtain ⟨M1, a1, a2, a3, a4, a5⟩ := addI_C (s := 29) hq (by omega) (M (5 + 18) j) (M (5 + 19) j) (M (5 + 20) j) (M (5 + 21) j) (M (5 + 22) j)
    obtain ⟨M', b1, b2, b3, b4, b5⟩ := ih (j + 1) n M1 (q + 1) (by omega) (by omega) a2 (by omega) (fun c hc => (a5 c hc).trans (hf c hc))
    refine ⟨M', ?_, by rw [b2]; congr 1; omega, b3, fun i hi => ?_, fun i hi => by rw [b5 i (by omega), a4 i (by omega)]⟩
    · simp only [f_X2_addTop_L15]
      rw [if_neg (by omega), ck_pos ⟨by omega, by omega⟩, Int.toNat_natCast, a1, Option.bind_some, ck_pos ⟨by omega, by omega⟩, show (j : Int) + 1 = ((j + 1 : Nat) : Int) by omega]
      exact b1
    · by_cases z : i = 0
      · rw [z, Nat.add_zero, Nat.add_zero, b5 q (by omega), a3]
        unfold itm
        rw [hf (5 + 18) (by omega), hf (5 + 19) (by omega), hf (5 + 20) (by omega), hf (5 + 21) (by omega), hf (5 + 22) (by omega)]
      · have e := b4 (i - 1) (by omega)
        rw [show q + 1 + (i - 1) = q + i by omega, show j + 1 + (i - 1) = j + i by omega] at e
        exact e
/-- a top with all that it holds is appended to the draft -/
theorem addTop_C {M : Mem} {g : Row} (hi : WFi g) (r : RSi M 5 g) {t u q : Nat} (ht : (t : Int) ≤ g 8) (dt : dp g t = 0) (hu : (u : Int) ≤ g 8) (du : dp g u = 0) (htu : t ≤ u) (e : tops g u 0 0 = tops g t 0 0 + 1) (hq : M (29 + 17) 0 = (q : Int)) (h30 : q + (it g u - it g t) ≤ 30) :
    ∃ M' : Mem, f_X2_addTop 29 5 (tops g t 0 0) M = some M' ∧ M' (29 + 17) 0 = ((q + (it g u - it g t) : Nat) : Int) ∧ (∀ c : Nat, c < 29 + 17 ∨ 29 + 22 < c → M' c = M c) ∧ (∀ i : Nat, i < it g u - it g t → itm M' 29 (q + i) = itm M 5 (it g t + i)) ∧ ∀ i : Nat, i < q → itm M' 29 i = itm M 29 i := by
  have h8 := hi.1
  have tb := tops_b g t 0 0
  have m := it_mono g (u - t) t
  rw [show t + (u - t) = u by omega] at m
  have m2 := it_mono g ((g 8).toNat - u) u
  rw [show u + ((g 8).toNat - u) = (g 8).toNat by omega] at m2
  have h30' := hi.2.2.1
  have i1 := topI_C hi r hu du
  have i2 := topI_C hi r ht dt
  rw [e] at i1
  unfold f_X2_addTop
  rw [ck_pos ⟨by omega, by omega⟩, i1, Option.bind_some, i2, Option.bind_some]
  exact L_addT (by omega) (it g u - it g t) (it g t) jFuel M q (by omega) (jF (by omega)) hq h30 (fun _ _ => rfl)
