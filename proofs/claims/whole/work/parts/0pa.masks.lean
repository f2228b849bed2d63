/-! masks of shots -/
theorem jbv {a : Nat} (h : a < 2147483648) : (jI (a : Int)).toBitVec.toNat = a := by
  have e := jI_toInt (x := (a : Int)) ⟨by omega, by omega⟩
  rw [← Int32.toInt_toBitVec, BitVec.toInt_eq_toNat_cond] at e
  have l := (jI (a : Int)).toBitVec.isLt
  split at e <;> omega
theorem toI {v : Int32} (h : v.toBitVec.toNat < 2147483648) : v.toInt = (v.toBitVec.toNat : Int) := by
  rw [← Int32.toInt_toBitVec, BitVec.toInt_eq_toNat_cond, if_pos (by omega)]
theorem iand_nat {a b : Nat} (ha : a < 2147483648) (hb : b < 2147483648) : iand (a : Int) (b : Int) = ((a &&& b : Nat) : Int) := by
  unfold iand
  have e : (jI (a : Int) &&& jI (b : Int)).toBitVec.toNat = a &&& b := by
    rw [Int32.toBitVec_and, BitVec.toNat_and, jbv ha, jbv hb]
  have l : a &&& b ≤ a := Nat.and_le_left
  rw [toI (by rw [e]; omega), e]
theorem ior_nat {a b : Nat} (ha : a < 2147483648) (hb : b < 2147483648) : ior (a : Int) (b : Int) = ((a ||| b : Nat) : Int) := by
  unfold ior
  have e : (jI (a : Int) ||| jI (b : Int)).toBitVec.toNat = a ||| b := by
    rw [Int32.toBitVec_or, BitVec.toNat_or, jbv ha, jbv hb]
  have l : a ||| b < 2 ^ 31 := Nat.or_lt_two_pow (by omega) (by omega)
  rw [toI (by rw [e]; omega), e]
theorem ishl_1 : ∀ x : Nat, x < 13 → ishl 1 (x : Int) = ((2 ^ x : Nat) : Int) := by decide +kernel
theorem ishl_0 : ∀ x : Nat, x < 13 → ishl 0 (x : Int) = 0 := by decide +kernel
theorem smod_32 : ∀ x : Nat, x < 13 → ((jI (x : Int) &&& 31).toBitVec.smod 32).toNat = x := by decide +kernel
theorem ishr_nat {a x : Nat} (ha : a < 2147483648) (hx : x < 13) : ishr (a : Int) (x : Int) = ((a / 2 ^ x : Nat) : Int) := by
  unfold ishr
  have e := jI_toInt (x := (a : Int)) ⟨by omega, by omega⟩
  rw [← Int32.toInt_toBitVec] at e
  rw [← Int32.toInt_toBitVec, Int32.toBitVec_shiftRight, BitVec.toInt_sshiftRight', e, smod_32 x hx, ← Nat.shiftRight_eq_div_pow]
  rfl
theorem m1_bv : (jI (-1)).toBitVec = BitVec.allOnes 32 := by decide
theorem ixor_m {a : Nat} (ha : a < 2147483648) : (jI (ixor (a : Int) (-1))).toBitVec.toNat = 4294967295 - a := by
  unfold ixor
  rw [← jI_of, Int32.toBitVec_xor, m1_bv, BitVec.xor_allOnes, BitVec.toNat_not, jbv ha]
/-- bits of a mask -/
theorem tb_eq {a i : Nat} (ha : a < 4096) (hi : i < 13) : iand (ishr (a : Int) (i : Int)) 1 = if a.testBit i then 1 else 0 := by
  have l : a / 2 ^ i ≤ a := Nat.div_le_self _ _
  rw [ishr_nat (by omega) hi, show (1 : Int) = ((1 : Nat) : Int) from rfl, iand_nat (by omega) (by omega), Nat.testBit, Nat.shiftRight_eq_div_pow, Nat.and_comm]
  have : 1 &&& a / 2 ^ i = (a / 2 ^ i) % 2 := by rw [Nat.and_comm]; exact Nat.and_two_pow_sub_one_eq_mod _ 1
  rw [this]
  by_cases z : a / 2 ^ i % 2 = 0
  · rw [z]; rfl
  · rw [show a / 2 ^ i % 2 = 1 by omega]; rfl
theorem sub_C {x al : Nat} (hx : x < 4096) (ha : al < 4096) : iand (x : Int) (ixor (al : Int) (-1)) = 0 ↔ ∀ i : Nat, i < 12 → x.testBit i = true → al.testBit i = true := by
  have e : (jI (x : Int) &&& jI (ixor (al : Int) (-1))).toBitVec.toNat = x &&& (4294967295 - al) := by
    rw [Int32.toBitVec_and, BitVec.toNat_and, jbv (by omega), ixor_m (by omega)]
  have l : x &&& (4294967295 - al) ≤ x := Nat.and_le_left
  have f : iand (x : Int) (ixor (al : Int) (-1)) = ((x &&& (4294967295 - al) : Nat) : Int) := by
    unfold iand
    rw [toI (by rw [e]; omega), e]
  rw [f]
  have tb : ∀ i : Nat, i < 32 → (4294967295 - al).testBit i = !al.testBit i := by
    intro i hi
    have q : 4294967295 - al = 2 ^ 32 - (al + 1) := by omega
    rw [q, Nat.testBit_two_pow_sub_succ (by omega)]
    simp [hi]
  constructor
  · intro h i hi hb
    have z : x &&& (4294967295 - al) = 0 := by omega
    have t := congrArg (fun n : Nat => n.testBit i) z
    simp only [Nat.testBit_and, Nat.zero_testBit, hb, tb i (by omega)] at t
    cases q : al.testBit i
    · rw [q] at t; cases t
    · rfl
  · intro h
    have z : x &&& (4294967295 - al) = 0 := by
      apply Nat.eq_of_testBit_eq
      intro i
      rw [Nat.testBit_and, Nat.zero_testBit]
      by_cases hi : i < 12
      · rw [tb i (by omega)]
        cases q : x.testBit i
        · rfl
        · rw [h i hi q]; rfl
      · rw [Nat.testBit_lt_two_pow (Nat.lt_of_lt_of_le hx (by show 2 ^ 12 ≤ 2 ^ i; exact Nat.pow_le_pow_right (by omega) (by omega)))]; rfl
    rw [z]; rfl
theorem sub_R {x bn : Nat} (hx : x < 4096) (hb : bn < 4096) : iand (x : Int) (bn : Int) = 0 ↔ ∀ i : Nat, i < 12 → x.testBit i = true → bn.testBit i = false := by
  rw [iand_nat (by omega) (by omega)]
  constructor
  · intro h i hi hbit
    have z : x &&& bn = 0 := by omega
    have t := congrArg (fun n : Nat => n.testBit i) z
    simp only [Nat.testBit_and, Nat.zero_testBit, hbit] at t
    simpa using t
  · intro h
    have z : x &&& bn = 0 := by
      apply Nat.eq_of_testBit_eq
      intro i
      rw [Nat.testBit_and, Nat.zero_testBit]
      by_cases hi : i < 12
      · cases q : x.testBit i
        · rfl
        · rw [h i hi q]; rfl
      · rw [Nat.testBit_lt_two_pow (Nat.lt_of_lt_of_le hx (by show 2 ^ 12 ≤ 2 ^ i; exact Nat.pow_le_pow_right (by omega) (by omega)))]; rfl
    rw [z]; rfl
/-- adding a bit on top -/
theorem or_top {a j : Nat} (ha : a < 2 ^ j) (hj : j < 12) : ior (a : Int) ((2 ^ j : Nat) : Int) = ((a + 2 ^ j : Nat) : Int) ∧ a + 2 ^ j < 2 ^ (j + 1) ∧ 2 ^ (j + 1) ≤ 4096 := by
  have p : 2 ^ (j + 1) ≤ 2 ^ 12 := Nat.pow_le_pow_right (by omega) (by omega)
  have p2 : 2 ^ (j + 1) = 2 ^ j * 2 := Nat.pow_succ 2 j
  have e := Nat.two_pow_add_eq_or_of_lt ha 1
  refine ⟨?_, by omega, by omega⟩
  rw [ior_nat (by omega) (by omega)]
  rw [Nat.mul_one] at e
  rw [Nat.or_comm, ← e, Nat.add_comm]
theorem tb_top {a j : Nat} (ha : a < 2 ^ j) (i : Nat) : (a + 2 ^ j).testBit i = if i = j then true else a.testBit i := by
  have e := Nat.two_pow_add_eq_or_of_lt ha 1
  rw [Nat.mul_one] at e
  rw [Nat.add_comm, e, Nat.testBit_or, Nat.testBit_two_pow]
  by_cases c : i = j
  · rw [if_pos c, c]; simp
  · rw [if_neg c]
    have : ¬ j = i := fun q => c q.symm
    simp [this]
/-- counted bits -/
def pop : Nat → Nat → Nat
  | 0, _ => 0
  | k + 1, a => a % 2 + pop k (a / 2)
theorem pop_all : ∀ b : Nat, b < 64 → ∀ c : Nat, c < 64 → f_J6_bitCount_0f7a4 ((64 * b + c : Nat) : Int) (fun _ _ => 0) = some ((pop 12 (64 * b + c) : Nat) : Int) := by decide +kernel
theorem pop_C {a : Nat} (h : a < 4096) (M : Mem) : f_J6_bitCount_0f7a4 (a : Int) M = some ((pop 12 a : Nat) : Int) := by
  have e := pop_all (a / 64) (by omega) (a % 64) (by omega)
  rw [show 64 * (a / 64) + a % 64 = a by omega] at e
  exact e
theorem L_pop_R (M : Mem) : ∀ (k a n : Nat) (c : Int), a < 2 ^ k → k ≤ 12 → k < n → 0 ≤ c → c ≤ 100 - (k : Int) → f_X11_bits_L4 M n c (a : Int) = some (c + (pop k a : Nat)) := by
  intro k
  induction k with
  | zero =>
    intro a n c ha _ hn _ _
    obtain ⟨n, rfl⟩ := nat_ex hn
    simp only [f_X11_bits_L4]
    rw [if_pos (by omega)]; simp [pop]
  | succ k ih =>
    intro a n c ha hk hn h1 h2
    have p2 : 2 ^ (k + 1) = 2 ^ k * 2 := Nat.pow_succ 2 k
    have p3 : 2 ^ (k + 1) ≤ 2 ^ 12 := Nat.pow_le_pow_right (by omega) (by omega)
    obtain ⟨n, rfl⟩ := nat_ex hn
    simp only [f_X11_bits_L4]
    by_cases z : a = 0
    · rw [if_pos (by omega), z]
      have : ∀ q, pop q 0 = 0 := by intro q; induction q with
        | zero => rfl
        | succ q iq => show 0 % 2 + pop q (0 / 2) = 0; simpa using iq
      rw [this]; simp
    · have e1 : iand (a : Int) 1 = ((a % 2 : Nat) : Int) := by
        rw [show (1 : Int) = ((1 : Nat) : Int) from rfl, iand_nat (by omega) (by omega)]
        congr 1; exact Nat.and_two_pow_sub_one_eq_mod _ 1
      have e2 : ishr (a : Int) 1 = ((a / 2 : Nat) : Int) := by
        have := ishr_nat (a := a) (x := 1) (by omega) (by omega)
        simpa using this
      rw [if_neg (by omega), e1, e2, ck_pos ⟨by omega, by omega⟩, ih (a / 2) n _ (by omega) (by omega) (by omega) (by omega) (by omega)]
      show _ = some (c + ((a % 2 + pop k (a / 2) : Nat) : Int))
      congr 1; omega
theorem pop_R {a : Nat} (h : a < 4096) (M : Mem) : f_X11_bits (a : Int) M = some ((pop 12 a : Nat) : Int) := by
  have e := L_pop_R M 12 a jFuel 0 h (by omega) (jF (by omega)) (by omega) (by omega)
  rw [Int.zero_add] at e
  exact e
