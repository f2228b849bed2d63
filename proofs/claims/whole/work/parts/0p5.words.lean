/-! the words of a row, on both sides -/
theorem nat_ex {n k : Nat} (h : k < n) : ∃ m, n = m + 1 := ⟨n - 1, by omega⟩
theorem vow_ev (c : Int) (M : Mem) : f_X11_isVowel c M = some (vow c) := by
  unfold f_X11_isVowel vow
  (repeat' split) <;> rfl
theorem w_ev {M : Mem} {i : Nat} {x : Int} (hi : i < 60) (hx : 0 ≤ x ∧ x ≤ 2) : f_X11_w (i : Int) x M = some (M 1 (382 + 3 * i + x.toNat)) := by
  unfold f_X11_w
  rw [ck_pos ⟨by omega, by omega⟩, ck_pos ⟨by omega, by omega⟩, ck_pos ⟨by omega, by omega⟩, ck_pos ⟨by omega, by omega⟩, show (382 + 3 * (i : Int) + x).toNat = 382 + 3 * i + x.toNat by omega]
theorem w0 {M : Mem} {i : Nat} (hi : i < 60) : f_X11_w (i : Int) 0 M = some (M 1 (382 + 3 * i)) := w_ev hi ⟨by omega, by omega⟩
theorem w1 {M : Mem} {i : Nat} (hi : i < 60) : f_X11_w (i : Int) 1 M = some (M 1 (383 + 3 * i)) := by
  rw [w_ev hi ⟨by omega, by omega⟩, show 382 + 3 * i + (1 : Int).toNat = 383 + 3 * i by simp; omega]
theorem w2 {M : Mem} {i : Nat} (hi : i < 60) : f_X11_w (i : Int) 2 M = some (M 1 (384 + 3 * i)) := by
  rw [w_ev hi ⟨by omega, by omega⟩, show 382 + 3 * i + (2 : Int).toNat = 384 + 3 * i by simp; omega]
theorem WFv.i60 {g : Row} (h : WFv g) {i : Nat} (hi : (i : Int) < g 9) : i < 60 := by have := h.1; omega
theorem letter_ev {M : Mem} (h : WFv (M 1)) {i j : Nat} (hi : (i : Int) < M 1 9) (hj : (j : Int) < M 1 (383 + 3 * i)) : f_X11_letter (i : Int) (j : Int) M = some (wLet (M 1) i j) := by
  have hw := h.2.2.1 i hi
  have h10 := h.2.1
  unfold f_X11_letter
  rw [w0 (h.i60 hi), Option.bind_some, ck_pos ⟨by omega, by omega⟩, ck_pos ⟨by omega, by omega⟩, ck_pos ⟨by omega, by omega⟩]
  unfold wLet wFrom
  rw [show (562 + M 1 (382 + 3 * i) + (j : Int)).toNat = 562 + (M 1 (382 + 3 * i)).toNat + j by omega]
theorem syl_b {g : Row} (h : WFv g) {i : Nat} (hi : (i : Int) < g 9) : 1 ≤ syl g i ∧ syl g i ≤ 20 := by
  have hw := h.2.2.1 i hi
  have hv := vgr_b (wLet g i) (g (383 + 3 * i)).toNat
  unfold syl
  omega
theorem L_syl {M : Mem} (h : WFv (M 1)) {i : Nat} (hi : (i : Int) < M 1 9) : ∀ (k j n : Nat), (j : Int) + k = M 1 (383 + 3 * i) → k < n → f_X11_syllables_L4 (i : Int) M n (vgr (wLet (M 1) i) j) (j : Int) = some (syl (M 1) i) := by
  have hw := h.2.2.1 i hi
  have h60 := h.i60 hi
  intro k
  induction k with
  | zero =>
    intro j n hj hn
    obtain ⟨n, rfl⟩ := nat_ex hn
    simp only [f_X11_syllables_L4]
    rw [w1 h60, Option.bind_some, if_pos (by omega)]
    unfold syl
    rw [show (M 1 (383 + 3 * i)).toNat = j by omega]
  | succ k ih =>
    intro j n hj hn
    obtain ⟨n, rfl⟩ := nat_ex hn
    have hv := vgr_b (wLet (M 1) i) j
    have e := ih (j + 1) n (by omega) (by omega)
    have s : vgr (wLet (M 1) i) (j + 1) = vgr (wLet (M 1) i) j + (if vow (wLet (M 1) i j) = 1 ∧ (j = 0 ∨ vow (wLet (M 1) i (j - 1)) = 0) then 1 else 0) := rfl
    simp only [f_X11_syllables_L4, jn]
    rw [w1 h60, Option.bind_some, if_neg (by omega), letter_ev h hi (by omega), Option.bind_some, vow_ev, Option.bind_some]
    rw [show (j : Int) + 1 = ((j + 1 : Nat) : Int) by omega]
    by_cases c : vow (wLet (M 1) i j) = 0
    · rw [if_neg (by omega)] at s
      rw [if_pos c, bit_eq, if_pos rfl, Option.bind_some, ck_pos ⟨by omega, by omega⟩, ck_pos ⟨by omega, by omega⟩, ← s]
      exact e
    · have c1 : vow (wLet (M 1) i j) = 1 := (vow_b _).resolve_left c
      rw [if_neg c]
      by_cases z : j = 0
      · rw [if_pos ⟨c1, Or.inl z⟩] at s
        rw [if_pos (by omega), bit_eq, if_neg (by decide), Option.bind_some, ck_pos ⟨by omega, by omega⟩, ck_pos ⟨by omega, by omega⟩, ← s]
        exact e
      · rw [if_neg (by omega), ck_pos ⟨by omega, by omega⟩, show (j : Int) - 1 = ((j - 1 : Nat) : Int) by omega, letter_ev h hi (by omega), Option.bind_some, vow_ev, Option.bind_some]
        by_cases d : vow (wLet (M 1) i (j - 1)) = 0
        · rw [if_pos ⟨c1, Or.inr d⟩] at s
          rw [if_pos d, bit_eq, if_neg (by decide), Option.bind_some, ck_pos ⟨by omega, by omega⟩, ck_pos ⟨by omega, by omega⟩, ← s]
          exact e
        · rw [if_neg (by omega)] at s
          rw [if_neg d, bit_eq, if_pos rfl, Option.bind_some, ck_pos ⟨by omega, by omega⟩, ck_pos ⟨by omega, by omega⟩, ← s]
          exact e
theorem jF {k : Nat} (h : k < 100000) : k < jFuel := by unfold jFuel; omega
theorem syl_ev {M : Mem} (h : WFv (M 1)) {i : Nat} (hi : (i : Int) < M 1 9) : f_X11_syllables (i : Int) M = some (syl (M 1) i) := by
  have hw := h.2.2.1 i hi
  exact L_syl h hi (M 1 (383 + 3 * i)).toNat 0 jFuel (by omega) (jF (by omega))
theorem L_allS_R {M : Mem} (h : WFv (M 1)) : ∀ (k j n : Nat) (a : Int), (j : Int) + k = M 1 9 → k < n → 0 ≤ a → a ≤ 20 * (j : Int) → f_X11_allSyllables_L4 M n a (j : Int) = some (a + sumF (syl (M 1)) k j) := by
  have h9 := h.1
  intro k
  induction k with
  | zero =>
    intro j n a hj hn h1 h2
    obtain ⟨n, rfl⟩ := nat_ex hn
    simp only [f_X11_allSyllables_L4, show (9 : Int).toNat = 9 from rfl]
    rw [if_pos (by omega)]
    simp [sumF]
  | succ k ih =>
    intro j n a hj hn h1 h2
    obtain ⟨n, rfl⟩ := nat_ex hn
    have hs := syl_b h (i := j) (by omega)
    simp only [f_X11_allSyllables_L4, show (9 : Int).toNat = 9 from rfl]
    rw [if_neg (by omega), syl_ev h (by omega), Option.bind_some, ck_pos ⟨by omega, by omega⟩, ck_pos ⟨by omega, by omega⟩, show (j : Int) + 1 = ((j + 1 : Nat) : Int) by omega, ih (j + 1) n _ (by omega) (by omega) (by omega) (by omega)]
    show some (a + syl (M 1) j + sumF (syl (M 1)) k (j + 1)) = some (a + (syl (M 1) j + sumF (syl (M 1)) k (j + 1)))
    rw [Int.add_assoc]
theorem allS_R {M : Mem} (h : WFv (M 1)) : f_X11_allSyllables M = some (sumF (syl (M 1)) (M 1 9).toNat 0) := by
  have h9 := h.1
  have e := L_allS_R h (M 1 9).toNat 0 jFuel 0 (by omega) (jF (by omega)) (by omega) (by omega)
  rw [Int.zero_add] at e
  exact e
theorem L_allS_C {M : Mem} {s : Nat} {g : Row} (h : WFv g) (r : RSv M s g) : ∀ (k j n : Nat) (a : Int), (j : Int) + k = g 9 → k < n → 0 ≤ a → a ≤ 20 * (j : Int) → f_X9_allSyllables_L4 s M n a (j : Int) = some (a + sumF (syl g) k j) := by
  have h9 := h.1
  intro k
  induction k with
  | zero =>
    intro j n a hj hn h1 h2
    obtain ⟨n, rfl⟩ := nat_ex hn
    simp only [f_X9_allSyllables_L4, r.1]
    rw [if_pos (by omega)]
    simp [sumF]
  | succ k ih =>
    intro j n a hj hn h1 h2
    obtain ⟨n, rfl⟩ := nat_ex hn
    have hs := syl_b h (i := j) (by omega)
    have hr := (r.2.2.1 j (by omega)).2.2.1
    simp only [f_X9_allSyllables_L4, r.1]
    rw [if_neg (by omega), ck_pos ⟨by omega, by omega⟩, Int.toNat_natCast, hr, ck_pos ⟨by omega, by omega⟩, ck_pos ⟨by omega, by omega⟩, show (j : Int) + 1 = ((j + 1 : Nat) : Int) by omega, ih (j + 1) n _ (by omega) (by omega) (by omega) (by omega)]
    show some (a + syl g j + sumF (syl g) k (j + 1)) = some (a + (syl g j + sumF (syl g) k (j + 1)))
    rw [Int.add_assoc]
theorem allS_C {M : Mem} {s : Nat} {g : Row} (h : WFv g) (r : RSv M s g) : f_X9_allSyllables s M = some (sumF (syl g) (g 9).toNat 0) := by
  have h9 := h.1
  have e := L_allS_C h r (g 9).toNat 0 jFuel 0 (by omega) (jF (by omega)) (by omega) (by omega)
  rw [Int.zero_add] at e
  exact e
/-- sentences that end ahead of a word -/
def sen (g : Row) (i : Nat) : Int := g (384 + 3 * i)
theorem L_sen_R {M : Mem} (h : WFv (M 1)) {x : Int} (hx : x ≤ M 1 9) : ∀ (k j n : Nat) (a : Int), (j : Int) + k = x → k < n → 0 ≤ a → a ≤ (j : Int) → f_X11_sentencesAhead_L4 x M n a (j : Int) = some (a + sumF (sen (M 1)) k j) := by
  have h9 := h.1
  intro k
  induction k with
  | zero =>
    intro j n a hj hn h1 h2
    obtain ⟨n, rfl⟩ := nat_ex hn
    simp only [f_X11_sentencesAhead_L4]
    rw [if_pos (by omega)]
    simp [sumF]
  | succ k ih =>
    intro j n a hj hn h1 h2
    obtain ⟨n, rfl⟩ := nat_ex hn
    have hs : sen (M 1) j = 0 ∨ sen (M 1) j = 1 := (h.2.2.1 j (by omega)).2.2.2
    simp only [f_X11_sentencesAhead_L4]
    rw [if_neg (by omega), w2 (by omega), Option.bind_some]
    show ck (inR (a + sen (M 1) j)) _ = _
    rw [ck_pos ⟨by omega, by omega⟩, ck_pos ⟨by omega, by omega⟩, show (j : Int) + 1 = ((j + 1 : Nat) : Int) by omega]
    have e := ih (j + 1) n (a + sen (M 1) j) (by omega) (by omega) (by omega) (by omega)
    rw [Int.add_assoc] at e
    exact e
theorem sen_R {M : Mem} (h : WFv (M 1)) {x : Int} (hx : 0 ≤ x ∧ x ≤ M 1 9) : f_X11_sentencesAhead x M = some (sumF (sen (M 1)) x.toNat 0) := by
  have h9 := h.1
  have e := L_sen_R h hx.2 x.toNat 0 jFuel 0 (by omega) (jF (by omega)) (by omega) (by omega)
  rw [Int.zero_add] at e
  exact e
theorem L_sen_C {M : Mem} {s : Nat} {g : Row} (h : WFv g) (r : RSv M s g) {x : Int} (hx : x ≤ g 9) : ∀ (k j n : Nat) (a : Int), (j : Int) + k = x → k < n → 0 ≤ a → a ≤ (j : Int) → f_X9_sentenceOf_L4 s x M n a (j : Int) = some (a + sumF (sen g) k j) := by
  have h9 := h.1
  intro k
  induction k with
  | zero =>
    intro j n a hj hn h1 h2
    obtain ⟨n, rfl⟩ := nat_ex hn
    simp only [f_X9_sentenceOf_L4]
    rw [if_pos (by omega)]
    simp [sumF]
  | succ k ih =>
    intro j n a hj hn h1 h2
    obtain ⟨n, rfl⟩ := nat_ex hn
    have hs : sen g j = 0 ∨ sen g j = 1 := (h.2.2.1 j (by omega)).2.2.2
    have hr : M (s + 16) j = sen g j := (r.2.2.1 j (by omega)).2.2.2
    simp only [f_X9_sentenceOf_L4, r.1]
    rw [if_neg (by omega), if_neg (by omega), ck_pos ⟨by omega, by omega⟩, Int.toNat_natCast, hr]
    have e := ih (j + 1) n (a + sen g j) (by omega) (by omega) (by omega) (by omega)
    rw [Int.add_assoc] at e
    rw [show (j : Int) + 1 = ((j + 1 : Nat) : Int) by omega]
    rcases hs with z | z
    · rw [if_pos z, ck_pos ⟨by omega, by omega⟩]
      rw [show a + sen g j = a by omega] at e
      exact e
    · rw [if_neg (by omega), ck_pos ⟨by omega, by omega⟩, ck_pos ⟨by omega, by omega⟩]
      rw [show a + sen g j = a + 1 by omega] at e
      exact e
theorem sen_C {M : Mem} {s : Nat} {g : Row} (h : WFv g) (r : RSv M s g) {x : Int} (hx : 0 ≤ x ∧ x ≤ g 9) : f_X9_sentenceOf s x M = some (sumF (sen g) x.toNat 0) := by
  have h9 := h.1
  have e := L_sen_C h r hx.2 x.toNat 0 jFuel 0 (by omega) (jF (by omega)) (by omega) (by omega)
  rw [Int.zero_add] at e
  exact e
/-- frames of the words: bounds -/
theorem mul_b {a b A B : Int} (h1 : 0 ≤ a ∧ a ≤ A) (h2 : 0 ≤ b ∧ b ≤ B) : 0 ≤ a * b ∧ a * b ≤ A * B :=
  ⟨Int.mul_nonneg h1.1 h2.1, Int.mul_le_mul h1.2 h2.2 h2.1 (by omega)⟩
theorem sp_b {g : Row} (hl : WFl g) (h : WFv g) {i : Nat} (hi : (i : Int) < g 9) : 1 ≤ g 1 * syl g i ∧ g 1 * syl g i ≤ 400 := by
  have hs := syl_b h hi
  have h1 := hl.2.1
  have := (mul_b (a := g 1) (b := syl g i) (A := 20) (B := 20) ⟨by omega, h1.2⟩ ⟨by omega, hs.2⟩).2
  refine ⟨?_, by omega⟩
  have := Int.mul_le_mul h1.1 hs.1 (by omega) (by omega)
  omega
theorem wb_b {g : Row} (hl : WFl g) (h : WFv g) : ∀ i : Nat, (i : Int) ≤ g 9 → 0 ≤ wb g i ∧ wb g i ≤ 450 * (i : Int) := by
  intro i
  induction i with
  | zero => intro _; simp [wb]
  | succ i ih =>
    intro hi
    have e := ih (by omega)
    have hs := sp_b hl h (i := i) (by omega)
    have h2 := hl.2.2.1
    show 0 ≤ wb g i + g 1 * syl g i + _ ∧ wb g i + g 1 * syl g i + _ ≤ _
    split <;> omega
theorem we_b {g : Row} (hl : WFl g) (h : WFv g) {i : Nat} (hi : (i : Int) < g 9) : wb g i < we g i ∧ we g i ≤ 27000 := by
  have h1 := wb_b hl h i (by omega)
  have hs := sp_b hl h hi
  have h9 := h.1
  unfold we
  omega
theorem wEnd_b {g : Row} (hl : WFl g) (h : WFv g) : 0 ≤ wEnd g ∧ wEnd g ≤ 27000 := by
  unfold wEnd
  by_cases c : g 9 ≤ 0
  · rw [if_pos c]; omega
  · rw [if_neg c]
    have := we_b hl h (i := (g 9).toNat - 1) (by omega)
    have := wb_b hl h ((g 9).toNat - 1) (by omega)
    omega
/-- only the words' frames may have changed -/
def keepW (M M' : Mem) : Prop := ∀ c : Nat, c ≠ 19 → c ≠ 20 → M' c = M c
theorem keepW.R {M M' : Mem} (h : keepW M M') : keepR M M' := by
  refine ⟨fun c hc => h c (by omega) (by omega), ?_, ?_, ?_, ?_, ?_⟩ <;> rw [h 0 (by decide) (by decide)]
theorem wb_succ (g : Row) (i : Nat) : wb g (i + 1) = we g i + (if g (384 + 3 * i) = 1 then g 2 else 0) := rfl
theorem we_eq (g : Row) (i : Nat) : wb g i + g 1 * syl g i = we g i := rfl
theorem lt_eq {α β : Type} (x : α) (k : α → β) : lt x k = k x := rfl
theorem W_fin {M0 M M' : Mem} {k j n : Nat} (hl : WFl (M0 1)) (h : WFv (M0 1)) (hj : (j : Int) + ((k + 1 : Nat) : Int) = M0 1 9) (k1 : M 1 = M0 1) (x v : Int) (e : x + v = wb (M0 1) j)
    (e1 : f_X11_laysWords_L4 n (we (M0 1) j) ((j + 1 : Nat) : Int) (upm (upm M 19 j (wb (M0 1) j)) 20 j (we (M0 1) j)) = some (wEnd (M0 1), M')) :
    (ck (inR (x + v)) <| ck ((0 : Int) ≤ (j : Int) ∧ (j : Int) < 64) <| lt (upm M 19 (j : Int).toNat (x + v)) fun N1 => (f_X11_syllables (j : Int) N1).bind fun r60 => ck (inR ((M0 1 1) * r60)) <| ck (inR ((x + v) + ((M0 1 1) * r60))) <| lt (upm N1 20 (j : Int).toNat ((x + v) + ((M0 1 1) * r60))) fun N2 => ck (inR ((j : Int) + 1)) <| (f_X11_laysWords_L4 n) ((x + v) + ((M0 1 1) * r60)) ((j : Int) + 1) N2) = some (wEnd (M0 1), M') := by
  have h9 := h.1
  have b1 := wb_b hl h j (by omega)
  have b2 := we_b hl h (i := j) (by omega)
  have b3 := sp_b hl h (i := j) (by omega)
  have sy : f_X11_syllables (j : Int) (upm M 19 j (wb (M0 1) j)) = some (syl (M0 1) j) := by
    have q : (upm M 19 j (wb (M0 1) j)) 1 = M0 1 := by rw [upm_ne (by decide)]; exact k1
    rw [syl_ev (by rw [q]; exact h) (by rw [q]; omega), q]
  rw [e, Int.toNat_natCast, ck_pos ⟨by omega, by omega⟩, ck_pos ⟨by omega, by omega⟩, lt_eq, sy, Option.bind_some, ck_pos ⟨by omega, by omega⟩, we_eq, ck_pos ⟨by omega, by omega⟩, lt_eq, ck_pos ⟨by omega, by omega⟩, show (j : Int) + 1 = ((j + 1 : Nat) : Int) by omega]
  exact e1
theorem L_laysW {M0 : Mem} (hl : WFl (M0 1)) (h : WFv (M0 1)) : ∀ (k j n : Nat) (M : Mem), (j : Int) + k = M0 1 9 → k < n → keepW M0 M → (∀ i : Nat, i < j → M 19 i = wb (M0 1) i ∧ M 20 i = we (M0 1) i) → ∃ M' : Mem, f_X11_laysWords_L4 n (if j = 0 then 0 else we (M0 1) (j - 1)) (j : Int) M = some (wEnd (M0 1), M') ∧ keepW M0 M' ∧ ∀ i : Nat, (i : Int) < M0 1 9 → M' 19 i = wb (M0 1) i ∧ M' 20 i = we (M0 1) i := by
  have h9 := h.1
  intro k
  induction k with
  | zero =>
    intro j n M hj hn hk hi
    obtain ⟨n, rfl⟩ := nat_ex hn
    refine ⟨M, ?_, hk, fun i q => hi i (by omega)⟩
    simp only [f_X11_laysWords_L4, show (9 : Int).toNat = 9 from rfl, hk 1 (by decide) (by decide)]
    rw [if_pos (by omega)]
    unfold wEnd
    by_cases c : j = 0
    · rw [if_pos c, if_pos (by omega)]
    · rw [if_neg c, if_neg (by omega), show (M0 1 9).toNat = j by omega]
  | succ k ih =>
    intro j n M hj hn hk hi
    obtain ⟨n, rfl⟩ := nat_ex hn
    have b1 := wb_b hl h j (by omega)
    have b2 := we_b hl h (i := j) (by omega)
    have b3 := sp_b hl h (i := j) (by omega)
    have k1 := hk 1 (by decide) (by decide)
    -- what the next memory is
    obtain ⟨M', e1, e2, e3⟩ := ih (j + 1) n (upm (upm M 19 j (wb (M0 1) j)) 20 j (we (M0 1) j)) (by omega) (by omega) (fun c c1 c2 => by rw [upm_ne c2, upm_ne c1]; exact hk c c1 c2) (fun i q => by
      have e1 : (upm (upm M 19 j (wb (M0 1) j)) 20 j (we (M0 1) j)) 19 i = if i = j then wb (M0 1) j else M 19 i := by simp [upm_at, updr_ap]
      have e2 : (upm (upm M 19 j (wb (M0 1) j)) 20 j (we (M0 1) j)) 20 i = if i = j then we (M0 1) j else M 20 i := by simp [upm_at, updr_ap]
      rw [e1, e2]
      by_cases c : i = j
      · rw [if_pos c, if_pos c, c]; exact ⟨rfl, rfl⟩
      · rw [if_neg c, if_neg c]; exact hi i (by omega))
    refine ⟨M', ?_, e2, e3⟩
    rw [if_neg (by omega), show j + 1 - 1 = j by omega] at e1
    have fin := fun x v e => W_fin hl h hj (n := n) (M := M) (M' := M') k1 x v e e1
    simp only [f_X11_laysWords_L4, jn, show (9 : Int).toNat = 9 from rfl, show (1 : Int).toNat = 1 from rfl, show (2 : Int).toNat = 2 from rfl]
    rw [k1]
    rw [if_neg (by omega)]
    by_cases z : j = 0
    · rw [if_pos (show (j : Int) ≤ 0 by omega), if_pos z]
      exact fin 0 0 (by rw [z]; rfl)
    · obtain ⟨i, rfl⟩ : ∃ i, j = i + 1 := ⟨j - 1, by omega⟩
      rw [if_neg (show ¬ ((i + 1 : Nat) : Int) ≤ 0 by omega), ck_pos ⟨by omega, by omega⟩, show ((i + 1 : Nat) : Int) - 1 = (i : Int) by omega, w2 (by omega), Option.bind_some, k1, if_neg z, show i + 1 - 1 = i by omega]
      have q := wb_succ (M0 1) i
      by_cases c : M0 1 (384 + 3 * i) = 1
      · rw [if_pos c] at q ⊢
        exact fin _ _ q.symm
      · rw [if_neg c] at q ⊢
        exact fin _ _ q.symm
theorem laysW {M : Mem} (hl : WFl (M 1)) (h : WFv (M 1)) : ∃ M' : Mem, f_X11_laysWords M = some (wEnd (M 1), M') ∧ keepW M M' ∧ ∀ i : Nat, (i : Int) < M 1 9 → M' 19 i = wb (M 1) i ∧ M' 20 i = we (M 1) i := by
  have h9 := h.1
  exact L_laysW hl h (M 1 9).toNat 0 jFuel M (by omega) (jF (by omega)) (fun _ _ _ => rfl) (fun i q => by omega)
