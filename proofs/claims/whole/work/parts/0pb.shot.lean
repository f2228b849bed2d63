/-! banned shots, shots and maps asked for -/
def bnF (g : Row) (c w : Int) : Nat → Nat → Int
  | 0, _ => 0
  | k + 1, j => if g (96 + 3 * j) = c ∧ g (97 + 3 * j) ≤ w ∧ w ≤ g (98 + 3 * j) then 1 else bnF g c w k (j + 1)
theorem bnF_b (g : Row) (c w : Int) : ∀ k j : Nat, bnF g c w k j = 0 ∨ bnF g c w k j = 1 := by
  intro k
  induction k with
  | zero => intro j; exact Or.inl rfl
  | succ k ih =>
    intro j
    show ite _ _ _ = _ ∨ ite _ _ _ = _
    split
    · exact Or.inr rfl
    · exact ih (j + 1)
def bnd (g : Row) (w : Int) (i : Nat) : Int := bnF g (g (12 + 2 * i)) w (g 7).toNat 0
theorem bnd_b (g : Row) (w : Int) (i : Nat) : bnd g w i = 0 ∨ bnd g w i = 1 := bnF_b _ _ _ _ _
theorem L_bn_C {M : Mem} {s : Nat} {g : Row} (hl : WFl g) (r : RSl M s g) {c w : Int} : ∀ (k j n : Nat), (j : Int) + k = g 7 → k < n → f_X3_isBanned_L2 s c w M n (j : Int) = some (bnF g c w k j) := by
  have h7 := hl.2.2.2.2.2.2.2.1
  intro k
  induction k with
  | zero =>
    intro j n hj hn
    obtain ⟨n, rfl⟩ := nat_ex hn
    simp only [f_X3_isBanned_L2, r.2.2.1]
    rw [if_pos (by omega)]; rfl
  | succ k ih =>
    intro j n hj hn
    obtain ⟨n, rfl⟩ := nat_ex hn
    obtain ⟨b1, b2, b3⟩ := r.2.2.2.2.2.1 j (by omega)
    simp only [f_X3_isBanned_L2, r.2.2.1]
    rw [if_neg (by omega), ck_pos ⟨by omega, by omega⟩, Int.toNat_natCast, b1, b2, b3, show (j : Int) + 1 = ((j + 1 : Nat) : Int) by omega, ck_pos ⟨by omega, by omega⟩, ih (j + 1) n (by omega) (by omega)]
    show _ = some (ite _ _ _)
    by_cases q1 : g (96 + 3 * j) = c
    · rw [if_pos q1]
      by_cases q2 : w < g (97 + 3 * j)
      · rw [if_pos q2, if_neg (by omega)]
      · rw [if_neg q2]
        by_cases q3 : g (98 + 3 * j) < w
        · rw [if_pos q3, if_neg (by omega)]
        · rw [if_neg q3, if_pos ⟨q1, by omega, by omega⟩]
    · rw [if_neg q1, if_neg (fun z => q1 z.1)]
theorem bn_C {M : Mem} {s : Nat} {g : Row} (hl : WFl g) (r : RSl M s g) {w : Int} {i : Nat} : f_X3_isBanned s (g (12 + 2 * i)) w M = some (bnd g w i) := by
  have h7 := hl.2.2.2.2.2.2.2.1
  exact L_bn_C hl r (g 7).toNat 0 jFuel (by omega) (jF (by omega))
theorem L_bn_R {M : Mem} (hl : WFl (M 1)) {w : Int} {i : Nat} (hi : i < 12) : ∀ (k j n : Nat) (x : Int), (j : Int) + k = M 1 7 → k < n → (x = 0 ∨ x = 1) → f_X11_isBannedIn_L5 (i : Int) w M n x (j : Int) = some (if x = 1 then 1 else bnF (M 1) (M 1 (12 + 2 * i)) w k j) := by
  have h7 := hl.2.2.2.2.2.2.2.1
  intro k
  induction k with
  | zero =>
    intro j n x hj hn hx
    obtain ⟨n, rfl⟩ := nat_ex hn
    simp only [f_X11_isBannedIn_L5, show (7 : Int).toNat = 7 from rfl]
    rw [if_pos (by omega), ck_pos hx]
    rcases hx with e | e <;> rw [e] <;> rfl
  | succ k ih =>
    intro j n x hj hn hx
    obtain ⟨n, rfl⟩ := nat_ex hn
    have o0 : ior x 0 = x := by rcases hx with e | e <;> rw [e] <;> decide
    have o1 : ior x 1 = 1 := by rcases hx with e | e <;> rw [e] <;> decide
    simp only [f_X11_isBannedIn_L5, show (7 : Int).toNat = 7 from rfl]
    rw [if_neg (by omega), ck_pos ⟨by omega, by omega⟩, ck_pos ⟨by omega, by omega⟩, ck_pos ⟨by omega, by omega⟩, cam_ev hi, Option.bind_some, ck_pos ⟨by omega, by omega⟩, ck_pos ⟨by omega, by omega⟩, ck_pos ⟨by omega, by omega⟩, ck_pos ⟨by omega, by omega⟩, isIn_eq, Option.bind_some, o0, o1, show (j : Int) + 1 = ((j + 1 : Nat) : Int) by omega, ck_pos ⟨by omega, by omega⟩, ih (j + 1) n x (by omega) (by omega) hx, ih (j + 1) n 1 (by omega) (by omega) (Or.inr rfl), show (96 + 3 * (j : Int)).toNat = 96 + 3 * j by omega, show (96 + 3 * (j : Int) + 1).toNat = 97 + 3 * j by omega, show (96 + 3 * (j : Int) + 2).toNat = 98 + 3 * j by omega]
    show _ = some (if x = 1 then 1 else ite _ _ _)
    by_cases q1 : M 1 (96 + 3 * j) = M 1 (12 + 2 * i)
    · rw [if_pos q1]
      by_cases q2 : M 1 (97 + 3 * j) ≤ w ∧ w ≤ M 1 (98 + 3 * j)
      · rw [if_pos q2, if_neg (by decide), ck_pos ⟨by omega, by omega⟩, if_pos rfl, if_pos (show M 1 (96 + 3 * j) = M 1 (12 + 2 * i) ∧ M 1 (97 + 3 * j) ≤ w ∧ w ≤ M 1 (98 + 3 * j) from ⟨q1, q2⟩)]
        split <;> rfl
      · rw [if_neg q2, if_pos rfl, if_neg (show ¬ (M 1 (96 + 3 * j) = M 1 (12 + 2 * i) ∧ M 1 (97 + 3 * j) ≤ w ∧ w ≤ M 1 (98 + 3 * j)) from fun z => q2 z.2)]
    · rw [if_neg q1, if_neg (show ¬ (M 1 (96 + 3 * j) = M 1 (12 + 2 * i) ∧ M 1 (97 + 3 * j) ≤ w ∧ w ≤ M 1 (98 + 3 * j)) from fun z => q1 z.1)]
theorem bn_R {M : Mem} (hl : WFl (M 1)) {w : Int} {i : Nat} (hi : i < 12) : f_X11_isBannedIn (i : Int) w M = some (bnd (M 1) w i) := by
  have h7 := hl.2.2.2.2.2.2.2.1
  exact L_bn_R hl hi (M 1 7).toNat 0 jFuel 0 (by omega) (jF (by omega)) (Or.inl rfl)
/-- the mask of allowed and that of banned shots -/
def alM (g : Row) (w : Int) : Nat → Nat
  | 0 => 0
  | j + 1 => alM g w j + (if bnd g w j = 0 then 2 ^ j else 0)
def bnM (g : Row) (w : Int) : Nat → Nat
  | 0 => 0
  | j + 1 => bnM g w j + (if bnd g w j = 0 then 0 else 2 ^ j)
theorem alM_b (g : Row) (w : Int) : ∀ j : Nat, alM g w j < 2 ^ j := by
  intro j
  induction j with
  | zero => exact Nat.one_pos
  | succ j ih =>
    have p2 : 2 ^ (j + 1) = 2 ^ j * 2 := Nat.pow_succ 2 j
    show alM g w j + ite _ _ _ < _
    split <;> omega
theorem bnM_b (g : Row) (w : Int) : ∀ j : Nat, bnM g w j < 2 ^ j := by
  intro j
  induction j with
  | zero => exact Nat.one_pos
  | succ j ih =>
    have p2 : 2 ^ (j + 1) = 2 ^ j * 2 := Nat.pow_succ 2 j
    show bnM g w j + ite _ _ _ < _
    split <;> omega
theorem alM_t (g : Row) (w : Int) : ∀ j i : Nat, (alM g w j).testBit i = (decide (i < j) && decide (bnd g w i = 0)) := by
  intro j
  induction j with
  | zero => intro i; show Nat.testBit 0 i = _; rw [Nat.zero_testBit]; simp
  | succ j ih =>
    intro i
    show Nat.testBit (alM g w j + ite _ _ _) i = _
    by_cases c : bnd g w j = 0
    · rw [if_pos c, tb_top (alM_b g w j), ih]
      by_cases z : i = j
      · rw [if_pos z, z]; simp [c]
      · rw [if_neg z, show decide (i < j + 1) = decide (i < j) by simp; omega]
    · rw [if_neg c, Nat.add_zero, ih]
      by_cases z : i = j
      · rw [z]; simp [c]
      · rw [show decide (i < j + 1) = decide (i < j) by simp; omega]
theorem bnM_t (g : Row) (w : Int) : ∀ j i : Nat, (bnM g w j).testBit i = (decide (i < j) && !decide (bnd g w i = 0)) := by
  intro j
  induction j with
  | zero => intro i; show Nat.testBit 0 i = _; rw [Nat.zero_testBit]; simp
  | succ j ih =>
    intro i
    show Nat.testBit (bnM g w j + ite _ _ _) i = _
    by_cases c : bnd g w j = 0
    · rw [if_pos c, Nat.add_zero, ih]
      by_cases z : i = j
      · rw [z]; simp [c]
      · rw [show decide (i < j + 1) = decide (i < j) by simp; omega]
    · rw [if_neg c, tb_top (bnM_b g w j), ih]
      by_cases z : i = j
      · rw [if_pos z, z]; simp [c]
      · rw [if_neg z, show decide (i < j + 1) = decide (i < j) by simp; omega]
theorem L_al_C {M : Mem} {s : Nat} {g : Row} (hl : WFl g) (r : RSl M s g) {w : Int} : ∀ (k j n : Nat), (j : Int) + k = g 5 → k < n → f_X3_allowedShots_L4 s w M n (alM g w j : Nat) (j : Int) = some ((alM g w (g 5).toNat : Nat) : Int) := by
  have h5 := hl.2.2.2.2.2.1
  intro k
  induction k with
  | zero =>
    intro j n hj hn
    obtain ⟨n, rfl⟩ := nat_ex hn
    simp only [f_X3_allowedShots_L4, r.1]
    rw [if_pos (by omega), show (g 5).toNat = j by omega]
  | succ k ih =>
    intro j n hj hn
    obtain ⟨n, rfl⟩ := nat_ex hn
    have t := or_top (alM_b g w j) (by omega)
    have e := ih (j + 1) n (by omega) (by omega)
    simp only [f_X3_allowedShots_L4, r.1]
    rw [if_neg (by omega), ck_pos ⟨by omega, by omega⟩, Int.toNat_natCast, (r.2.2.2.1 j (by omega)).1, bn_C hl r, Option.bind_some, ishl_1 j (by omega), t.1, show (j : Int) + 1 = ((j + 1 : Nat) : Int) by omega, ck_pos ⟨by omega, by omega⟩, ck_pos ⟨by omega, by omega⟩]
    have s : alM g w (j + 1) = alM g w j + (if bnd g w j = 0 then 2 ^ j else 0) := rfl
    by_cases c : bnd g w j = 0
    · rw [if_pos c] at s ⊢
      rw [← s]; exact e
    · rw [if_neg c] at s ⊢
      rw [show alM g w j = alM g w (j + 1) by omega]; exact e
theorem al_C {M : Mem} {s : Nat} {g : Row} (hl : WFl g) (r : RSl M s g) (w : Int) : f_X3_allowedShots s w M = some ((alM g w (g 5).toNat : Nat) : Int) := by
  have h5 := hl.2.2.2.2.2.1
  exact L_al_C hl r (g 5).toNat 0 jFuel (by omega) (jF (by omega))
theorem L_bm_R {M : Mem} (hl : WFl (M 1)) {w : Int} : ∀ (k j n : Nat), (j : Int) + k = M 1 5 → k < n → f_X11_bannedIn_L4 w M n (bnM (M 1) w j : Nat) (j : Int) = some ((bnM (M 1) w (M 1 5).toNat : Nat) : Int) := by
  have h5 := hl.2.2.2.2.2.1
  intro k
  induction k with
  | zero =>
    intro j n hj hn
    obtain ⟨n, rfl⟩ := nat_ex hn
    simp only [f_X11_bannedIn_L4, show (5 : Int).toNat = 5 from rfl]
    rw [if_pos (by omega), show (M 1 5).toNat = j by omega]
  | succ k ih =>
    intro j n hj hn
    obtain ⟨n, rfl⟩ := nat_ex hn
    have b := bnM_b (M 1) w j
    have t := or_top b (by omega)
    have e := ih (j + 1) n (by omega) (by omega)
    have s : bnM (M 1) w (j + 1) = bnM (M 1) w j + (if bnd (M 1) w j = 0 then 0 else 2 ^ j) := rfl
    simp only [f_X11_bannedIn_L4, show (5 : Int).toNat = 5 from rfl]
    rw [if_neg (by omega), bn_R hl (by omega), Option.bind_some, bit_eq, Option.bind_some, show (j : Int) + 1 = ((j + 1 : Nat) : Int) by omega, ck_pos ⟨by omega, by omega⟩]
    by_cases c : bnd (M 1) w j = 0
    · rw [if_pos c] at s ⊢
      rw [ishl_0 j (by omega), show (0 : Int) = ((0 : Nat) : Int) from rfl, ior_nat (by omega) (by omega), Nat.or_zero, show bnM (M 1) w j = bnM (M 1) w (j + 1) by omega]; exact e
    · rw [if_neg c] at s ⊢
      rw [ishl_1 j (by omega), t.1, ← s]; exact e
theorem bm_R {M : Mem} (hl : WFl (M 1)) (w : Int) : f_X11_bannedIn w M = some ((bnM (M 1) w (M 1 5).toNat : Nat) : Int) := by
  have h5 := hl.2.2.2.2.2.1
  exact L_bm_R hl (M 1 5).toNat 0 jFuel (by omega) (jF (by omega))
theorem alM_12 {g : Row} (hl : WFl g) (w : Int) : alM g w (g 5).toNat < 4096 := by
  have h5 := hl.2.2.2.2.2.1
  exact Nat.lt_of_lt_of_le (alM_b g w _) (by show 2 ^ _ ≤ 2 ^ 12; exact Nat.pow_le_pow_right (by omega) (by omega))
theorem bnM_12 {g : Row} (hl : WFl g) (w : Int) : bnM g w (g 5).toNat < 4096 := by
  have h5 := hl.2.2.2.2.2.1
  exact Nat.lt_of_lt_of_le (bnM_b g w _) (by show 2 ^ _ ≤ 2 ^ 12; exact Nat.pow_le_pow_right (by omega) (by omega))
theorem isB_C {M : Mem} {g : Row} (hl : WFl g) (r : RSl M 5 g) {i : Nat} (hi : (i : Int) < g 5) : f_X10_isBanned (i : Int) M = some (bnd g (g 0) i) := by
  have h5 := hl.2.2.2.2.2.1
  unfold f_X10_isBanned
  have s0 : f_X3_setting 5 0 M = some (g 0) := set_ev r (i := 0) (by omega)
  rw [s0, Option.bind_some, al_C hl r, Option.bind_some, tb_eq (alM_12 hl _) (by omega), alM_t]
  rcases bnd_b g (g 0) i with e | e
  · rw [e, if_neg (by simp; omega)]
  · rw [e, if_pos (by simp)]
theorem isB_R {M : Mem} (hl : WFl (M 1)) {i : Nat} (hi : i < 12) : f_X11_isBanned (i : Int) M = some (bnd (M 1) (M 1 0) i) := by
  unfold f_X11_isBanned
  rw [show (0 : Int).toNat = 0 from rfl, bn_R hl hi, Option.bind_some, ck_pos (bnd_b _ _ _)]
/-- pieces of a kind and number: how many, and their frames -/
def pcF (Mc : Mem) (x y z : Int) (j : Nat) : Int := if Mc 57 j = x ∧ Mc 58 j = y then (if z = 0 then 1 else Mc 60 j) else 0
theorem L_pcs_R {Mc M : Mem} {g : Row} (o : PcsOK Mc g) (p : PcsEq Mc M) (x y z : Int) : ∀ (k j n : Nat) (a : Int), (j : Int) + k = Mc 56 0 → k < n → 0 ≤ a → a ≤ 400 * (j : Int) → f_X11_piecesOf_L10 x y z n a (j : Int) M = some (a + sumF (pcF Mc x y z) k j, M) := by
  have h60 := p.1
  intro k
  induction k with
  | zero =>
    intro j n a hj hn _ _
    obtain ⟨n, rfl⟩ := nat_ex hn
    simp only [f_X11_piecesOf_L10, p.2.1]
    rw [if_pos (by omega)]; simp [sumF]
  | succ k ih =>
    intro j n a hj hn h1 h2
    obtain ⟨n, rfl⟩ := nat_ex hn
    have b := o.1 j (by omega)
    obtain ⟨c1, c2, _, c4, _, _⟩ := p.2.2 j (by omega)
    have s : sumF (pcF Mc x y z) (k + 1) j = pcF Mc x y z j + sumF (pcF Mc x y z) k (j + 1) := rfl
    simp only [f_X11_piecesOf_L10, p.2.1]
    rw [if_neg (by omega), ck_pos ⟨by omega, by omega⟩, Int.toNat_natCast, c1, c2, c4, show (j : Int) + 1 = ((j + 1 : Nat) : Int) by omega, s]
    have pb : pcF Mc x y z j = if Mc 57 j = x ∧ Mc 58 j = y then (if z = 0 then 1 else Mc 60 j) else 0 := rfl
    by_cases q1 : Mc 57 j = x
    · rw [if_pos q1]
      by_cases q2 : Mc 58 j = y
      · rw [if_pos q2]
        rw [if_pos ⟨q1, q2⟩] at pb
        by_cases q3 : z = 0
        · rw [if_pos q3] at pb ⊢
          rw [ck_pos ⟨by omega, by omega⟩, ck_pos ⟨by omega, by omega⟩, ih (j + 1) n _ (by omega) (by omega) (by omega) (by omega), pb, Int.add_assoc]
        · rw [if_neg q3] at pb ⊢
          rw [ck_pos ⟨by omega, by omega⟩, ck_pos ⟨by omega, by omega⟩, ih (j + 1) n _ (by omega) (by omega) (by omega) (by omega), pb, Int.add_assoc]
      · rw [if_neg q2]
        rw [if_neg (fun w => q2 w.2)] at pb
        rw [ck_pos ⟨by omega, by omega⟩, ih (j + 1) n _ (by omega) (by omega) (by omega) (by omega), pb, Int.zero_add]
    · rw [if_neg q1]
      rw [if_neg (fun w => q1 w.1)] at pb
      rw [ck_pos ⟨by omega, by omega⟩, ih (j + 1) n _ (by omega) (by omega) (by omega) (by omega), pb, Int.zero_add]
theorem L_pcs_C0 {Mc : Mem} (h60 : 0 ≤ Mc 56 0 ∧ Mc 56 0 ≤ 60) (x y : Int) : ∀ (k j n : Nat) (a : Int), (j : Int) + k = Mc 56 0 → k < n → 0 ≤ a → a ≤ 400 * (j : Int) → f_X5_countOf_L5 x y Mc n a (j : Int) = some (a + sumF (pcF Mc x y 0) k j) := by
  intro k
  induction k with
  | zero =>
    intro j n a hj hn _ _
    obtain ⟨n, rfl⟩ := nat_ex hn
    simp only [f_X5_countOf_L5]
    rw [if_pos (by omega)]; simp [sumF]
  | succ k ih =>
    intro j n a hj hn h1 h2
    obtain ⟨n, rfl⟩ := nat_ex hn
    have s : sumF (pcF Mc x y 0) (k + 1) j = pcF Mc x y 0 j + sumF (pcF Mc x y 0) k (j + 1) := rfl
    simp only [f_X5_countOf_L5]
    rw [if_neg (by omega), ck_pos ⟨by omega, by omega⟩, Int.toNat_natCast, show (j : Int) + 1 = ((j + 1 : Nat) : Int) by omega, s]
    have pb : pcF Mc x y 0 j = if Mc 57 j = x ∧ Mc 58 j = y then 1 else 0 := rfl
    by_cases q1 : Mc 57 j = x
    · rw [if_pos q1]
      by_cases q2 : Mc 58 j = y
      · rw [if_pos q2]
        rw [if_pos ⟨q1, q2⟩] at pb
        rw [ck_pos ⟨by omega, by omega⟩, ck_pos ⟨by omega, by omega⟩, ih (j + 1) n _ (by omega) (by omega) (by omega) (by omega), pb, Int.add_assoc]
      · rw [if_neg q2]
        rw [if_neg (fun w => q2 w.2)] at pb
        rw [ck_pos ⟨by omega, by omega⟩, ih (j + 1) n _ (by omega) (by omega) (by omega) (by omega), pb, Int.zero_add]
    · rw [if_neg q1]
      rw [if_neg (fun w => q1 w.1)] at pb
      rw [ck_pos ⟨by omega, by omega⟩, ih (j + 1) n _ (by omega) (by omega) (by omega) (by omega), pb, Int.zero_add]
theorem L_pcs_C1 {Mc : Mem} {g : Row} (o : PcsOK Mc g) (h60 : 0 ≤ Mc 56 0 ∧ Mc 56 0 ≤ 60) (x y : Int) : ∀ (k j n : Nat) (a : Int), (j : Int) + k = Mc 56 0 → k < n → 0 ≤ a → a ≤ 400 * (j : Int) → f_X5_framesOf_L5 x y Mc n a (j : Int) = some (a + sumF (pcF Mc x y 1) k j) := by
  intro k
  induction k with
  | zero =>
    intro j n a hj hn _ _
    obtain ⟨n, rfl⟩ := nat_ex hn
    simp only [f_X5_framesOf_L5]
    rw [if_pos (by omega)]; simp [sumF]
  | succ k ih =>
    intro j n a hj hn h1 h2
    obtain ⟨n, rfl⟩ := nat_ex hn
    have b := o.1 j (by omega)
    have s : sumF (pcF Mc x y 1) (k + 1) j = pcF Mc x y 1 j + sumF (pcF Mc x y 1) k (j + 1) := rfl
    simp only [f_X5_framesOf_L5]
    rw [if_neg (by omega), ck_pos ⟨by omega, by omega⟩, Int.toNat_natCast, show (j : Int) + 1 = ((j + 1 : Nat) : Int) by omega, s]
    have pb : pcF Mc x y 1 j = if Mc 57 j = x ∧ Mc 58 j = y then Mc 60 j else 0 := rfl
    by_cases q1 : Mc 57 j = x
    · rw [if_pos q1]
      by_cases q2 : Mc 58 j = y
      · rw [if_pos q2]
        rw [if_pos ⟨q1, q2⟩] at pb
        rw [ck_pos ⟨by omega, by omega⟩, ck_pos ⟨by omega, by omega⟩, ih (j + 1) n _ (by omega) (by omega) (by omega) (by omega), pb, Int.add_assoc]
      · rw [if_neg q2]
        rw [if_neg (fun w => q2 w.2)] at pb
        rw [ck_pos ⟨by omega, by omega⟩, ih (j + 1) n _ (by omega) (by omega) (by omega) (by omega), pb, Int.zero_add]
    · rw [if_neg q1]
      rw [if_neg (fun w => q1 w.1)] at pb
      rw [ck_pos ⟨by omega, by omega⟩, ih (j + 1) n _ (by omega) (by omega) (by omega) (by omega), pb, Int.zero_add]
theorem pcs_R {k : Nat} {Mc Mr M : Mem} (h : Rel k Mc Mr) (e : M 1 = Mr 1) (x y z : Int) : ∃ M' : Mem, f_X11_piecesOf x y z M = some (sumF (pcF Mc x y z) (Mc 56 0).toNat 0, M') ∧ layK M M' := by
  obtain ⟨M', l1, l2, l3⟩ := h.lays e
  have h60 := l3.1
  refine ⟨M', ?_, l2⟩
  unfold f_X11_piecesOf
  rw [l1, Option.bind_some]
  have q := L_pcs_R h.pc.1 l3 x y z (Mc 56 0).toNat 0 jFuel 0 (by omega) (jF (by omega)) (by omega) (by omega)
  rw [Int.zero_add] at q
  exact q
theorem Rel.n60 {k : Nat} {Mc Mr : Mem} (h : Rel k Mc Mr) : 0 ≤ Mc 56 0 ∧ Mc 56 0 ≤ 60 := by
  obtain ⟨M', _, _, l3⟩ := h.lays (M := Mr) rfl
  exact l3.1
theorem pcs_C0 {k : Nat} {Mc Mr : Mem} (h : Rel k Mc Mr) (x y : Int) : f_X5_countOf x y Mc = some (sumF (pcF Mc x y 0) (Mc 56 0).toNat 0) := by
  have h60 := h.n60
  have q := L_pcs_C0 h60 x y (Mc 56 0).toNat 0 jFuel 0 (by omega) (jF (by omega)) (by omega) (by omega)
  rw [Int.zero_add] at q
  exact q
theorem pcs_C1 {k : Nat} {Mc Mr : Mem} (h : Rel k Mc Mr) (x y : Int) : f_X5_framesOf x y Mc = some (sumF (pcF Mc x y 1) (Mc 56 0).toNat 0) := by
  have h60 := h.n60
  have q := L_pcs_C1 h.pc.1 h60 x y (Mc 56 0).toNat 0 jFuel 0 (by omega) (jF (by omega)) (by omega) (by omega)
  rw [Int.zero_add] at q
  exact q
theorem camC {M : Mem} {s : Nat} {g : Row} (hl : WFl g) (r : RSl M s g) {i : Nat} (hi : (i : Int) < g 5) : f_X3_cameraOf s (i : Int) M = some (g (12 + 2 * i)) := by
  have h5 := hl.2.2.2.2.2.1
  unfold f_X3_cameraOf
  rw [if_neg (by omega), r.1, if_neg (by omega), ck_pos ⟨by omega, by omega⟩, Int.toNat_natCast, (r.2.2.2.1 i hi).1]
theorem lenC {M : Mem} {s : Nat} {g : Row} (hl : WFl g) (r : RSl M s g) {i : Nat} (hi : (i : Int) < g 5) : f_X3_lengthOf s (i : Int) M = some (g (13 + 2 * i)) := by
  have h5 := hl.2.2.2.2.2.1
  unfold f_X3_lengthOf
  rw [if_neg (by omega), r.1, if_neg (by omega), ck_pos ⟨by omega, by omega⟩, Int.toNat_natCast, (r.2.2.2.1 i hi).2]
theorem p_shot {k : Nat} {Mc Mr : Mem} (h : Rel k Mc Mr) (p q : Int) : ∃ Mc' Mr' : Mem, st_shot p q Mc Mr Mc' Mr' ∧ Rel (k + 1) Mc' Mr' := by
  have hl := h.wf.1
  have r := h.rs.1
  have h5 := hl.2.2.2.2.2.1
  have e6 : Mc 6 0 = Mr 1 5 := r.1
  have sh : f_X11_isShotThere p Mr = some (if 0 ≤ p ∧ p < Mr 1 5 then 1 else 0) := by
    unfold f_X11_isShotThere
    rw [show (5 : Int).toNat = 5 from rfl, ck_pos ⟨by omega, by omega⟩, isIn_eq, Option.bind_some]
    by_cases c : 0 ≤ p ∧ p < Mr 1 5
    · rw [if_pos c, if_pos (by omega), ck_pos (Or.inr rfl)]
    · rw [if_neg c, if_neg (by omega), ck_pos (Or.inl rfl)]
  by_cases hp : 0 ≤ p ∧ p < Mr 1 5
  · rw [if_pos hp] at sh
    obtain ⟨i, rfl⟩ : ∃ i : Nat, p = (i : Int) := ⟨p.toNat, by omega⟩
    by_cases hq : 0 ≤ q ∧ q ≤ 4
    · have k1 : (upm Mr 0 7 0) 1 = Mr 1 := thr_ne _ _ (by decide)
      obtain ⟨M1, a1, a2⟩ := pcs_R h k1 0 (i : Int) 1
      obtain ⟨M0, b1, b2⟩ := pcs_R h k1 0 (i : Int) 0
      have t1 : M1 0 7 = 0 := (a2.2 7 (by decide) (by decide) (by decide)).trans (thr_at _ _)
      have t0 : M0 0 7 = 0 := (b2.2 7 (by decide) (by decide) (by decide)).trans (thr_at _ _)
      refine ⟨Mc, if q = 3 then M0 else if q = 4 then M1 else upm Mr 0 7 0, Or.inl ⟨if q = 0 then Mr 1 (12 + 2 * i) else if q = 1 then Mr 1 (13 + 2 * i) else if q = 2 then bnd (Mr 1) (Mr 1 0) i else if q = 3 then sumF (pcF Mc 0 i 0) (Mc 56 0).toNat 0 else sumF (pcF Mc 0 i 1) (Mc 56 0).toNat 0, ?_, rfl, ?_, ?_⟩, h.scr keepC.rfl ?_ (by omega)⟩
      · unfold f_X10_shot
        rw [e6, (rI_ok hp).1, Option.bind_some, (rR_ok hq).1, Option.bind_some, camC hl r hp.2, lenC hl r hp.2, isB_C hl r hp.2, pcs_C0 h, pcs_C1 h]
        simp only [Option.bind_some]
        have e : (if bnd (Mr 1) (Mr 1 0) i = 0 then some (0 : Int) else some 1) = some (bnd (Mr 1) (Mr 1 0) i) := by
          rcases bnd_b (Mr 1) (Mr 1 0) i with z | z <;> rw [z] <;> rfl
        rw [e]
        (repeat' split) <;> rfl
      · unfold f_X11_shot
        rw [sh, Option.bind_some, isIn_eq, if_pos hq, Option.bind_some, gb11, Option.bind_some]
        simp only []
        rw [if_neg (by decide), cam_ev (by omega), len_ev (by omega), isB_R (by rw [k1]; exact hl) (by omega), a1, b1, k1]
        simp only [Option.bind_some]
        rw [bit_eq, Option.bind_some]
        have e : (if bnd (Mr 1) (Mr 1 0) i = 0 then (0 : Int) else 1) = bnd (Mr 1) (Mr 1 0) i := by
          rcases bnd_b (Mr 1) (Mr 1 0) i with z | z <;> rw [z] <;> rfl
        rw [e]
        by_cases q0 : q = 0
        · rw [if_pos q0, if_pos q0, if_neg (by omega), if_neg (by omega)]
        · rw [if_neg q0, if_neg q0]
          by_cases q1 : q = 1
          · rw [if_pos q1, if_pos q1, if_neg (by omega), if_neg (by omega)]
          · rw [if_neg q1, if_neg q1]
            by_cases q2 : q = 2
            · rw [if_pos q2, if_pos q2, if_neg (by omega), if_neg (by omega)]
            · rw [if_neg q2, if_neg q2]
              by_cases q4 : q = 4
              · rw [if_pos q4, if_neg (by omega), if_neg (by omega), if_pos q4]
              · rw [if_neg q4, if_pos (by omega), if_pos (by omega)]
      · split
        · exact t0
        · split
          · exact t1
          · exact thr_at _ _
      · split
        · exact keepR.thr.trans b2.R
        · split
          · exact keepR.thr.trans a2.R
          · exact keepR.thr
    · refine ⟨Mc, upm Mr 0 7 2, Or.inr (Or.inr ⟨?_, 0, ?_, thr_at _ _⟩), h.scr keepC.rfl keepR.thr (by omega)⟩
      · unfold x_X10_shot
        rw [e6]; exact x2_2 hp hq
      · unfold f_X11_shot
        rw [sh, Option.bind_some, isIn_eq, if_neg hq, Option.bind_some, gb10, Option.bind_some]
        simp
  · rw [if_neg hp] at sh
    refine ⟨Mc, upm Mr 0 7 1, Or.inr (Or.inl ⟨?_, 0, ?_, thr_at _ _⟩), h.scr keepC.rfl keepR.thr (by omega)⟩
    · unfold x_X10_shot
      rw [e6]; exact x2_1 hp
    · unfold f_X11_shot
      rw [sh, Option.bind_some, isIn_eq, Option.bind_some, gb0, Option.bind_some]
      simp
