/-! tokens, read on both sides -/
def isL (v : Int) : Prop := 97 ≤ v ∧ v ≤ 122
def isD (v : Int) : Prop := 48 ≤ v ∧ v ≤ 57
/-- the texts are the same, of length n -/
def TX (C M : Mem) (n : Nat) : Prop := C 1 1 = (n : Int) ∧ M 0 29 = (n : Int) ∧ n ≤ 500 ∧ ∀ i : Nat, i < n → (0 ≤ M 22 i ∧ M 22 i ≤ 255) ∧ C 2 i = sx (M 22 i)
def kTC (C C' : Mem) : Prop := (∀ c : Nat, c ≠ 1 → C' c = C c) ∧ ∀ j : Nat, j < 2 ∨ 5 < j → C' 1 j = C 1 j
def kTM (M M' : Mem) : Prop := (∀ c : Nat, c ≠ 0 → M' c = M c) ∧ ∀ j : Nat, j < 30 ∨ 33 < j → M' 0 j = M 0 j
theorem kTC.trans {A B C : Mem} (h : kTC A B) (h2 : kTC B C) : kTC A C := ⟨fun c hc => (h2.1 c hc).trans (h.1 c hc), fun j hj => (h2.2 j hj).trans (h.2 j hj)⟩
theorem kTM.trans {A B C : Mem} (h : kTM A B) (h2 : kTM B C) : kTM A C := ⟨fun c hc => (h2.1 c hc).trans (h.1 c hc), fun j hj => (h2.2 j hj).trans (h.2 j hj)⟩
theorem kTC.rfl {A : Mem} : kTC A A := ⟨fun _ _ => _root_.rfl, fun _ _ => _root_.rfl⟩
theorem kTM.rfl {A : Mem} : kTM A A := ⟨fun _ _ => _root_.rfl, fun _ _ => _root_.rfl⟩
theorem kTC.up {A : Mem} {j : Nat} {v : Int} (h : 2 ≤ j ∧ j ≤ 5) : kTC A (upm A 1 j v) := ⟨fun c hc => upm_ne hc, fun i hi => upm_sl (by omega)⟩
theorem kTM.up {A : Mem} {j : Nat} {v : Int} (h : 30 ≤ j ∧ j ≤ 33) : kTM A (upm A 0 j v) := ⟨fun c hc => upm_ne hc, fun i hi => upm_sl (by omega)⟩
theorem TX.eqv {C M C' M' : Mem} {n : Nat} (h : TX C M n) (hc : kTC C C') (hm : kTM M M') : TX C' M' n := by
  unfold TX at h ⊢
  rw [hc.2 1 (by omega), hm.2 29 (by omega), hm.1 22 (by decide), hc.1 2 (by decide)]; exact h
theorem sx_L {v : Int} (h : 0 ≤ v ∧ v ≤ 255) (M : Mem) : f_X8_isLetter (sx v) M = some (if 97 ≤ v ∧ v ≤ 122 then 1 else 0) := by
  unfold f_X8_isLetter sx
  by_cases c : v < 128
  · rw [if_pos c]
    by_cases a : v < 97
    · rw [if_pos a, if_neg (by omega)]
    · rw [if_neg a]
      by_cases b : 122 < v
      · rw [if_pos b, if_neg (by omega)]
      · rw [if_neg b, if_pos (by omega)]
  · rw [if_neg c, if_pos (by omega), if_neg (by omega)]
theorem sx_D {v : Int} (h : 0 ≤ v ∧ v ≤ 255) (M : Mem) : f_X8_isDigit (sx v) M = some (if 48 ≤ v ∧ v ≤ 57 then 1 else 0) := by
  unfold f_X8_isDigit sx
  by_cases c : v < 128
  · rw [if_pos c]
    by_cases a : v < 48
    · rw [if_pos a, if_neg (by omega)]
    · rw [if_neg a]
      by_cases b : 57 < v
      · rw [if_pos b, if_neg (by omega)]
      · rw [if_neg b, if_pos (by omega)]
  · rw [if_neg c, if_pos (by omega), if_neg (by omega)]
theorem bAt {M : Mem} {n p : Nat} (h : M 0 29 = (n : Int)) (h5 : n ≤ 500) : f_X11_byteAt (p : Int) M = some (if p < n then M 22 p else -1) := by
  unfold f_X11_byteAt
  rw [h]
  by_cases c : p < n
  · rw [if_neg (by omega), ck_pos ⟨by omega, by omega⟩, if_pos c, Int.toNat_natCast]
  · rw [if_pos (by omega), if_neg c]
theorem lAt {M : Mem} {n p : Nat} (h : M 0 29 = (n : Int)) (h5 : n ≤ 500) : f_X11_isLetter (p : Int) M = some (if p < n ∧ 97 ≤ M 22 p ∧ M 22 p ≤ 122 then 1 else 0) := by
  unfold f_X11_isLetter
  rw [bAt h h5, Option.bind_some, isIn_eq, Option.bind_some]
  by_cases c : p < n
  · rw [if_pos c]
    by_cases d : 97 ≤ M 22 p ∧ M 22 p ≤ 122
    · rw [if_pos d, if_pos ⟨c, d⟩, ck_pos (Or.inr rfl)]
    · rw [if_neg d, if_neg (fun q => d q.2), ck_pos (Or.inl rfl)]
  · rw [if_neg c, if_neg (by omega), if_neg (fun q => c q.1), ck_pos (Or.inl rfl)]
theorem dAt {M : Mem} {n p : Nat} (h : M 0 29 = (n : Int)) (h5 : n ≤ 500) : f_X11_isDigit (p : Int) M = some (if p < n ∧ 48 ≤ M 22 p ∧ M 22 p ≤ 57 then 1 else 0) := by
  unfold f_X11_isDigit
  rw [bAt h h5, Option.bind_some, isIn_eq, Option.bind_some]
  by_cases c : p < n
  · rw [if_pos c]
    by_cases d : 48 ≤ M 22 p ∧ M 22 p ≤ 57
    · rw [if_pos d, if_pos ⟨c, d⟩, ck_pos (Or.inr rfl)]
    · rw [if_neg d, if_neg (fun q => d q.2), ck_pos (Or.inl rfl)]
  · rw [if_neg c, if_neg (by omega), if_neg (fun q => c q.1), ck_pos (Or.inl rfl)]
theorem L_word {n : Nat} : ∀ (k q nC nR : Nat) (C M : Mem), q + k = n → k < nC → k < nR → TX C M n → M 0 30 = (q : Int) →
    ∃ (z : Nat) (C' M' : Mem), q ≤ z ∧ z ≤ n ∧ (∀ i : Nat, q ≤ i → i < z → 97 ≤ M 22 i ∧ M 22 i ≤ 122) ∧ f_X8_advance_L79 nC (q : Int) C = some C' ∧ f_X11_scans_L78 nR M = some M' ∧ C' 1 4 = (z : Int) ∧ M' 0 30 = (z : Int) ∧ M' 0 32 = 1 ∧ (∀ c : Nat, c ≠ 1 → C' c = C c) ∧ (∀ j : Nat, j ≠ 4 → C' 1 j = C 1 j) ∧ (∀ c : Nat, c ≠ 0 → M' c = M c) ∧ (∀ j : Nat, j ≠ 30 → j ≠ 32 → M' 0 j = M 0 j) ∧ (q < n → 97 ≤ M 22 q ∧ M 22 q ≤ 122 → q < z) := by
  intro k
  induction k with
  | zero =>
    intro q nC nR C M hq hC hR tx h30
    obtain ⟨nC, rfl⟩ := nat_ex hC
    obtain ⟨nR, rfl⟩ := nat_ex hR
    refine ⟨q, upm C 1 4 q, upm M 0 32 1, Nat.le_refl _, by omega, fun i h1 h2 => by omega, ?_, ?_, upm_hit, by rw [upm_sl (by decide)]; exact h30, upm_hit, fun c hc => upm_ne hc, fun j hj => upm_sl hj, fun c hc => upm_ne hc, fun j _ j2 => upm_sl j2, fun h => by omega⟩
    · rw [f_X8_advance_L79, tx.1, if_pos (by omega), lt_eq]
    · rw [f_X11_scans_L78, h30, lAt tx.2.1 tx.2.2.1, if_neg (by omega), Option.bind_some, if_pos rfl, lt_eq]
  | succ k ih =>
    intro q nC nR C M hq hC hR tx h30
    obtain ⟨nC, rfl⟩ := nat_ex hC
    obtain ⟨nR, rfl⟩ := nat_ex hR
    obtain ⟨tb, te⟩ := tx.2.2.2 q (by omega)
    have t5 := tx.2.2.1
    by_cases c : 97 ≤ M 22 q ∧ M 22 q ≤ 122
    · obtain ⟨z, C', M', e1, e2, e3, e4, e5, e6, e7, e8, e9, e10, e11, e12, e13⟩ := ih (q + 1) nC nR C (upm M 0 30 ((q : Int) + 1)) (by omega) (by omega) (by omega) (tx.eqv kTC.rfl (kTM.up (by omega))) (by rw [upm_hit]; omega)
      refine ⟨z, C', M', by omega, e2, fun i i1 i2 => ?_, ?_, ?_, e6, e7, e8, e9, e10, fun c hc => (e11 c hc).trans (upm_ne hc), fun j j1 j2 => (e12 j j1 j2).trans (upm_sl j1), fun _ _ => by omega⟩
      · by_cases y : i = q
        · rw [y]; exact c
        · have := e3 i (by omega) i2
          rw [upm_ne (by decide)] at this; exact this
      · rw [f_X8_advance_L79, tx.1, if_neg (by omega), ck_pos ⟨by omega, by omega⟩, Int.toNat_natCast, te, sx_L tb, if_pos c, Option.bind_some, if_neg (by decide), ck_pos ⟨by omega, by omega⟩, show (q : Int) + 1 = ((q + 1 : Nat) : Int) by omega]
        exact e4
      · rw [f_X11_scans_L78, h30, lAt tx.2.1 tx.2.2.1, if_pos ⟨by omega, c⟩, Option.bind_some, if_neg (by decide), ck_pos ⟨by omega, by omega⟩, lt_eq]
        exact e5
    · refine ⟨q, upm C 1 4 q, upm M 0 32 1, Nat.le_refl _, by omega, fun i h1 h2 => by omega, ?_, ?_, upm_hit, by rw [upm_sl (by decide)]; exact h30, upm_hit, fun c hc => upm_ne hc, fun j hj => upm_sl hj, fun c hc => upm_ne hc, fun j _ j2 => upm_sl j2, fun _ h => absurd h c⟩
      · rw [f_X8_advance_L79, tx.1, if_neg (by omega), ck_pos ⟨by omega, by omega⟩, Int.toNat_natCast, te, sx_L tb, if_neg c, Option.bind_some, if_pos rfl, lt_eq]
      · rw [f_X11_scans_L78, h30, lAt tx.2.1 tx.2.2.1, if_neg (fun q => c q.2), Option.bind_some, if_pos rfl, lt_eq]
theorem L_numb {n : Nat} : ∀ (k q nC nR : Nat) (C M : Mem), q + k = n → k < nC → k < nR → TX C M n → M 0 30 = (q : Int) → (0 ≤ C 1 5 ∧ C 1 5 ≤ 1000000) → M 0 33 = min 100000 (C 1 5) →
    ∃ (z : Nat) (C' M' : Mem), q ≤ z ∧ z ≤ n ∧ f_X8_advance_L127 nC (q : Int) C = some C' ∧ f_X11_scans_L126 nR M = some M' ∧ C' 1 4 = (z : Int) ∧ M' 0 30 = (z : Int) ∧ M' 0 32 = 2 ∧ (0 ≤ C' 1 5 ∧ C' 1 5 ≤ 1000000) ∧ M' 0 33 = min 100000 (C' 1 5) ∧ (∀ c : Nat, c ≠ 1 → C' c = C c) ∧ (∀ j : Nat, j ≠ 4 → j ≠ 5 → C' 1 j = C 1 j) ∧ (∀ c : Nat, c ≠ 0 → M' c = M c) ∧ (∀ j : Nat, j ≠ 30 → j ≠ 32 → j ≠ 33 → M' 0 j = M 0 j) ∧ (q < n → 48 ≤ M 22 q ∧ M 22 q ≤ 57 → q < z) := by
  intro k
  induction k with
  | zero =>
    intro q nC nR C M hq hC hR tx h30 v1 v2
    obtain ⟨nC, rfl⟩ := nat_ex hC
    obtain ⟨nR, rfl⟩ := nat_ex hR
    refine ⟨q, upm C 1 4 q, upm M 0 32 2, Nat.le_refl _, by omega, ?_, ?_, upm_hit, by rw [upm_sl (by decide)]; exact h30, upm_hit, by rw [upm_sl (by decide)]; exact v1, by rw [upm_sl (by decide), upm_sl (by decide)]; exact v2, fun c hc => upm_ne hc, fun j hj _ => upm_sl hj, fun c hc => upm_ne hc, fun j _ j2 _ => upm_sl j2, fun h => by omega⟩
    · rw [f_X8_advance_L127, tx.1, if_pos (by omega), lt_eq]
    · rw [f_X11_scans_L126, h30, dAt tx.2.1 tx.2.2.1, if_neg (by omega), Option.bind_some, if_pos rfl, lt_eq]
  | succ k ih =>
    intro q nC nR C M hq hC hR tx h30 v1 v2
    obtain ⟨nC, rfl⟩ := nat_ex hC
    obtain ⟨nR, rfl⟩ := nat_ex hR
    obtain ⟨tb, te⟩ := tx.2.2.2 q (by omega)
    have t5 := tx.2.2.1
    by_cases c : 48 ≤ M 22 q ∧ M 22 q ≤ 57
    · have se : sx (M 22 q) = M 22 q := by unfold sx; rw [if_pos (by omega)]
      obtain ⟨C1, hC1⟩ : ∃ C1 : Mem, C1 = upm C 1 5 (min (C 1 5 * 10 + (M 22 q - 48)) 1000000) := ⟨_, rfl⟩
      obtain ⟨M1, hM1⟩ : ∃ M1 : Mem, M1 = upm (upm M 0 33 (min 100000 (10 * M 0 33 + M 22 q - 48))) 0 30 ((q : Int) + 1) := ⟨_, rfl⟩
      have c5 : C1 1 5 = min (C 1 5 * 10 + (M 22 q - 48)) 1000000 := by rw [hC1, upm_hit]
      have m33 : M1 0 33 = min 100000 (10 * M 0 33 + M 22 q - 48) := by rw [hM1, upm_sl (by decide), upm_hit]
      obtain ⟨z, C', M', e1, e2, e4, e5, e6, e7, e8, e8a, e8b, e9, e10, e11, e12, e13⟩ := ih (q + 1) nC nR C1 M1 (by omega) (by omega) (by omega) (tx.eqv (by rw [hC1]; exact kTC.up (by omega)) (by rw [hM1]; exact (kTM.up (by omega)).trans (kTM.up (by omega)))) (by rw [hM1, upm_hit]; omega) (by rw [c5]; omega) (by rw [c5, m33, v2]; omega)
      refine ⟨z, C', M', by omega, e2, ?_, ?_, e6, e7, e8, e8a, e8b, fun c hc => (e9 c hc).trans (by rw [hC1, upm_ne hc]), fun j j1 j2 => (e10 j j1 j2).trans (by rw [hC1, upm_sl j2]), fun c hc => (e11 c hc).trans (by rw [hM1, upm_ne hc, upm_ne hc]), fun j j1 j2 j3 => (e12 j j1 j2 j3).trans (by rw [hM1, upm_sl j1, upm_sl j3]), fun _ _ => by omega⟩
      · rw [f_X8_advance_L127, tx.1, if_neg (by omega), ck_pos ⟨by omega, by omega⟩, Int.toNat_natCast, te, sx_D tb, if_pos c, Option.bind_some, if_neg (by decide), se, ck_pos ⟨by omega, by omega⟩, ck_pos ⟨by omega, by omega⟩, ck_pos ⟨by omega, by omega⟩, lt_eq, ck_pos ⟨by omega, by omega⟩, ← hC1, show (q : Int) + 1 = ((q + 1 : Nat) : Int) by omega]
        exact e4
      · rw [f_X11_scans_L126, h30, dAt tx.2.1 tx.2.2.1, if_pos ⟨by omega, c⟩, Option.bind_some, if_neg (by decide), ck_pos ⟨by omega, by omega⟩, ck_pos ⟨by omega, by omega⟩, Int.toNat_natCast, ck_pos ⟨by omega, by omega⟩, ck_pos ⟨by omega, by omega⟩, lt_eq, ck_pos ⟨by omega, by omega⟩, lt_eq, ← hM1]
        exact e5
    · refine ⟨q, upm C 1 4 q, upm M 0 32 2, Nat.le_refl _, by omega, ?_, ?_, upm_hit, by rw [upm_sl (by decide)]; exact h30, upm_hit, by rw [upm_sl (by decide)]; exact v1, by rw [upm_sl (by decide), upm_sl (by decide)]; exact v2, fun c hc => upm_ne hc, fun j hj _ => upm_sl hj, fun c hc => upm_ne hc, fun j _ j2 _ => upm_sl j2, fun _ h => absurd h c⟩
      · rw [f_X8_advance_L127, tx.1, if_neg (by omega), ck_pos ⟨by omega, by omega⟩, Int.toNat_natCast, te, sx_D tb, if_neg c, Option.bind_some, if_pos rfl, lt_eq]
      · rw [f_X11_scans_L126, h30, dAt tx.2.1 tx.2.2.1, if_neg (fun q => c q.2), Option.bind_some, if_pos rfl, lt_eq]
/-- the token that both have read: from a to z -/
def Tok (C M : Mem) (n a z : Nat) : Prop := (C 1 3 = (a : Int) ∧ C 1 4 = (z : Int) ∧ M 0 31 = (a : Int) ∧ M 0 30 = (z : Int)) ∧ a ≤ z ∧ z ≤ n ∧
  (C 1 2 = 0 ∧ M 0 32 = 0 ∧ a = n ∨
   C 1 2 = 1 ∧ M 0 32 = 1 ∧ a < z ∧ (∀ i : Nat, a ≤ i → i < z → 97 ≤ M 22 i ∧ M 22 i ≤ 122) ∨
   C 1 2 = 2 ∧ M 0 32 = 2 ∧ a < z ∧ (0 ≤ C 1 5 ∧ C 1 5 ≤ 1000000) ∧ M 0 33 = min 100000 (C 1 5) ∨
   M 0 32 = 3 ∧ z = a + 1 ∧ (M 22 a = 59 ∧ C 1 2 = 3 ∨ M 22 a = 123 ∧ C 1 2 = 4 ∨ M 22 a = 125 ∧ C 1 2 = 5 ∨ M 22 a = 46 ∧ C 1 2 = 6) ∨
   C 1 2 = 7 ∧ M 0 32 = 4 ∧ z = a + 1)
