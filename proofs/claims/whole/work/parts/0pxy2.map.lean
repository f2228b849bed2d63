/-! a map told -/
/-- the name at a of l letters is map i's -/
def told (g : Row) (M : Mem) (a l i : Nat) : Prop := g (36 + 10 * i) = (l : Int) ∧ ∀ t : Nat, t < l → M 22 (a + t) = g (37 + 10 * i + t)
theorem L_isN2 {C M : Mem} {g : Row} {n a l i : Nat} (tx : TX C M n) (rl : RSl C 29 g) (wl : WFl g) (hi : (i : Int) < g 6) (hl : l ≤ 8) (ha : a + l ≤ n) (lt : ∀ t : Nat, t < l → 97 ≤ M 22 (a + t) ∧ M 22 (a + t) ≤ 122) (el : g (36 + 10 * i) = (l : Int)) : ∀ (k j m : Nat), j + k = l → k < m → (∀ t : Nat, t < j → M 22 (a + t) = g (37 + 10 * i + t)) → f_X3_isName_L29 29 2 (i : Int) (a : Int) (l : Int) C m (j : Int) = some (@ite _ (told g M a l i) (Classical.propDecidable _) 1 0) := by
  have t5 := tx.2.2.1
  have i6 := wl.m6 hi
  intro k
  induction k with
  | zero =>
    intro j m hj hm h
    obtain ⟨m, rfl⟩ := nat_ex hm
    rw [f_X3_isName_L29, if_pos (by omega), if_pos (show told g M a l i from ⟨el, fun t ht => h t (by omega)⟩)]
  | succ k ih =>
    intro j m hj hm h
    obtain ⟨m, rfl⟩ := nat_ex hm
    have tb := (tx.2.2.2 (a + j) (by omega)).2
    have lb := lt j (by omega)
    have sb : sx (M 22 (a + j)) = M 22 (a + j) := by unfold sx; rw [if_pos (by omega)]
    have gb := (rl.2.2.2.2.1 i hi).2 j (by omega)
    rw [f_X3_isName_L29, if_neg (by omega), ck_pos ⟨by omega, by omega⟩, ck_pos ⟨by omega, by omega⟩, ck_pos ⟨by omega, by omega⟩, ck_pos ⟨by omega, by omega⟩, ck_pos ⟨by omega, by omega⟩, show ((a : Int) + (j : Int)).toNat = a + j by omega, show ((i : Int) * 8 + (j : Int)).toNat = 8 * i + j by omega, tb, sb, gb, ck_pos ⟨by omega, by omega⟩, show (j : Int) + 1 = ((j + 1 : Nat) : Int) by omega]
    by_cases c : M 22 (a + j) = g (37 + 10 * i + j)
    · rw [if_pos c]
      exact ih (j + 1) m (by omega) (by omega) (fun t ht => by
        by_cases y : t = j
        · rw [y]; exact c
        · exact h t (by omega))
    · rw [if_neg c, if_neg (show ¬ told g M a l i from fun q => c (q.2 j (by omega)))]
theorem isN2_C {C M : Mem} {g : Row} {n a l i : Nat} (tx : TX C M n) (rl : RSl C 29 g) (wl : WFl g) (hi : (i : Int) < g 6) (hl : l ≤ 8) (ha : a + l ≤ n) (lt : ∀ t : Nat, t < l → 97 ≤ M 22 (a + t) ∧ M 22 (a + t) ≤ 122) : f_X3_isName 29 (i : Int) 2 (a : Int) (l : Int) C = some (@ite _ (told g M a l i) (Classical.propDecidable _) 1 0) := by
  have t5 := tx.2.2.1
  have i6 := wl.m6 hi
  have e := (rl.2.2.2.2.1 i hi).1
  unfold f_X3_isName
  rw [ck_pos ⟨by omega, by omega⟩, Int.toNat_natCast, e]
  by_cases c : g (36 + 10 * i) = (l : Int)
  · rw [if_pos c.symm, if_neg (by omega), ck_pos ⟨by omega, by omega⟩, if_pos (by omega)]
    exact L_isN2 tx rl wl hi hl ha lt c l 0 jFuel (by omega) (jF (by omega)) (fun t ht => absurd ht (Nat.not_lt_zero t))
  · rw [if_neg (fun q => c q.symm), if_neg (show ¬ told g M a l i from fun q => c q.1)]
theorem L_isT {C M : Mem} {n a z l i : Nat} (tx : TX C M n) (tk : Tok C M n a z) (hl : l ≤ 8) (ha : a + l ≤ n) (i6 : i < 6) (el : M 1 (36 + 10 * i) = (l : Int)) : ∀ (k j m : Nat), j + k = l → k + 1 < m → (∀ t : Nat, t < j → M 22 (a + t) = M 1 (37 + 10 * i + t)) → f_X11_isTold_L35 (36 + 10 * (i : Int)) M m 1 (j : Int) = some (@ite _ (told (M 1) M a l i) (Classical.propDecidable _) 1 0) := by
  have t5 := tx.2.2.1
  have z5 := tk.2.2.1
  intro k
  induction k with
  | zero =>
    intro j m hj hm h
    obtain ⟨m, rfl⟩ := nat_ex hm
    rw [f_X11_isTold_L35, if_neg (by decide), ck_pos ⟨by omega, by omega⟩, show (36 + 10 * (i : Int)).toNat = 36 + 10 * i by omega, el, if_pos (by omega), ck_pos (Or.inr rfl), if_pos (show told (M 1) M a l i from ⟨el, fun t ht => h t (by omega)⟩)]
  | succ k ih =>
    intro j m hj hm h
    obtain ⟨m, rfl⟩ := nat_ex hm
    rw [f_X11_isTold_L35, if_neg (by decide), ck_pos ⟨by omega, by omega⟩, show (36 + 10 * (i : Int)).toNat = 36 + 10 * i by omega, el, if_neg (by omega), ck_pos ⟨by omega, by omega⟩, ck_pos ⟨by omega, by omega⟩, ck_pos ⟨by omega, by omega⟩, tk.1.2.2.1, ck_pos ⟨by omega, by omega⟩, ck_pos ⟨by omega, by omega⟩, show (36 + 10 * (i : Int) + 1 + (j : Int)).toNat = 37 + 10 * i + j by omega, show ((a : Int) + (j : Int)).toNat = a + j by omega, ck_pos ⟨by omega, by omega⟩, ck_pos ⟨by omega, by omega⟩, show (j : Int) + 1 = ((j + 1 : Nat) : Int) by omega]
    by_cases c : M 22 (a + j) = M 1 (37 + 10 * i + j)
    · rw [if_pos c.symm]
      exact ih (j + 1) m (by omega) (by omega) (fun t ht => by
        by_cases y : t = j
        · rw [y]; exact c
        · exact h t (by omega))
    · obtain ⟨m, rfl⟩ := nat_ex (show 0 < m by omega)
      rw [if_neg (fun q => c q.symm), f_X11_isTold_L35, if_pos rfl, ck_pos (Or.inl rfl), if_neg (show ¬ told (M 1) M a l i from fun q => c (q.2 j (by omega)))]
theorem isT_R {C M : Mem} {n a z i : Nat} (tx : TX C M n) (tk : Tok C M n a z) (hl : z - a ≤ 8) (i6 : i < 6) : f_X11_isTold (i : Int) M = some (@ite _ (told (M 1) M a (z - a) i) (Classical.propDecidable _) 1 0) := by
  have t5 := tx.2.2.1
  have z5 := tk.2.2.1
  have az := tk.2.1
  obtain ⟨m, hm⟩ : ∃ m, jFuel = m + 1 := ⟨9999999, rfl⟩
  unfold f_X11_isTold
  rw [ck_pos ⟨by omega, by omega⟩, ck_pos ⟨by omega, by omega⟩, ck_pos ⟨by omega, by omega⟩, tk.1.2.2.1, tk.1.2.2.2, ck_pos ⟨by omega, by omega⟩, show (36 + 10 * (i : Int)).toNat = 36 + 10 * i by omega]
  by_cases c : M 1 (36 + 10 * i) = ((z - a : Nat) : Int)
  · rw [if_pos (by omega)]
    exact L_isT tx tk hl (by omega) i6 c (z - a) 0 jFuel (by omega) (by have := jF (k := z - a + 1) (by omega); omega) (fun t ht => absurd ht (Nat.not_lt_zero t))
  · rw [if_neg (by omega), hm, f_X11_isTold_L35, if_pos rfl, ck_pos (Or.inl rfl), if_neg (show ¬ told (M 1) M a (z - a) i from fun q => c q.1)]
/-- is the name told already -/
theorem named_C {C M : Mem} {g : Row} {n a l : Nat} (tx : TX C M n) (rl : RSl C 29 g) (wl : WFl g) (hl : l ≤ 8) (ha : a + l ≤ n) (lt : ∀ t : Nat, t < l → 97 ≤ M 22 (a + t) ∧ M 22 (a + t) ≤ 122) : ∀ (k j m : Nat), (j : Int) + k = g 6 → k < m → (∀ i : Nat, i < j → ¬ told g M a l i) →
    (∃ i : Nat, (i : Int) < g 6 ∧ told g M a l i ∧ f_X3_mapNamed_L3 29 2 (a : Int) (l : Int) C m (j : Int) = some (i : Int)) ∨ ((∀ i : Nat, (i : Int) < g 6 → ¬ told g M a l i) ∧ f_X3_mapNamed_L3 29 2 (a : Int) (l : Int) C m (j : Int) = some (-1)) := by
  intro k
  induction k with
  | zero =>
    intro j m hj hm h
    obtain ⟨m, rfl⟩ := nat_ex hm
    exact Or.inr ⟨fun i hi => h i (by omega), by rw [f_X3_mapNamed_L3, show C (29 + 1) 3 = g 6 from rl.2.1, if_pos (by omega)]⟩
  | succ k ih =>
    intro j m hj hm h
    obtain ⟨m, rfl⟩ := nat_ex hm
    have j6 := wl.m6 (show (j : Int) < g 6 by omega)
    rw [f_X3_mapNamed_L3, show C (29 + 1) 3 = g 6 from rl.2.1, if_neg (by omega), isN2_C tx rl wl (by omega) hl ha lt, Option.bind_some]
    by_cases c : told g M a l j
    · rw [if_pos c, if_neg (by decide)]
      exact Or.inl ⟨j, by omega, c, rfl⟩
    · rw [if_neg c, if_pos rfl, ck_pos ⟨by omega, by omega⟩, show (j : Int) + 1 = ((j + 1 : Nat) : Int) by omega]
      exact ih (j + 1) m (by omega) (by omega) (fun i hi => by
        by_cases y : i = j
        · rw [y]; exact c
        · exact h i (by omega))
/-- the reference's tail of a map: the name laid -/
def mapTl (M : Mem) : Option Mem := (f_X11_isGood M).bind fun r93 => if r93 = 0 then some M else ck (inR (10 * (M 1 6))) <| ck (inR (36 + (10 * (M 1 6)))) <| ck (inR ((M 0 30) - (M 0 31))) <| ck ((0 : Int) ≤ (36 + (10 * (M 1 6))) ∧ (36 + (10 * (M 1 6))) < 1062) <| lt (upm M 1 (36 + (10 * (M 1 6))).toNat ((M 0 30) - (M 0 31))) fun N1 => f_X11_readsMap_L131 (36 + (10 * (M 1 6))) jFuel 0 N1
theorem mapTl_b {M : Mem} (h : M 0 34 ≠ 0) : mapTl M = some M := by unfold mapTl; rw [good_0 h, Option.bind_some, if_pos rfl]
theorem L55_s (m : Nat) (x : Int) (M : Mem) : f_X11_readsMap_L55 (m + 1) x M = if (M 1 6) ≤ x then mapTl M else (f_X11_isGood M).bind fun r67 => if r67 = 0 then mapTl M else (f_X11_isTold x M).bind fun r75 => if r75 = 0 then ck (inR (x + 1)) <| f_X11_readsMap_L55 m (x + 1) M else (f_X11_fails 3 M).bind fun M83 => ck (inR (x + 1)) <| f_X11_readsMap_L55 m (x + 1) M83 := by
  rw [f_X11_readsMap_L55]
  rfl
theorem L55_b {M : Mem} (h : M 0 34 ≠ 0) (m : Nat) (x : Int) : f_X11_readsMap_L55 (m + 1) x M = some M := by
  rw [L55_s, mapTl_b h, good_0 h, Option.bind_some, if_pos rfl]
  split <;> rfl
theorem told_R {C M : Mem} {n a z : Nat} (h : RD C M n a z) (wl : WFl (M 1)) (hl : z - a ≤ 8) : ∀ (k j m : Nat), (j : Int) + k = M 1 6 → k + 1 < m → (∀ i : Nat, i < j → ¬ told (M 1) M a (z - a) i) →
    ((∃ i : Nat, (i : Int) < M 1 6 ∧ told (M 1) M a (z - a) i) → f_X11_readsMap_L55 m (j : Int) M = some (upm (upm M 0 34 3) 0 35 (M 0 31))) ∧ ((∀ i : Nat, (i : Int) < M 1 6 → ¬ told (M 1) M a (z - a) i) → f_X11_readsMap_L55 m (j : Int) M = mapTl M) := by
  intro k
  induction k with
  | zero =>
    intro j m hj hm hh
    obtain ⟨m, rfl⟩ := nat_ex hm
    refine ⟨fun ⟨i, i1, i2⟩ => absurd i2 (hh i (by omega)), fun _ => ?_⟩
    rw [L55_s, if_pos (by omega)]
  | succ k ih =>
    intro j m hj hm hh
    obtain ⟨m, rfl⟩ := nat_ex hm
    have j6 := wl.m6 (show (j : Int) < M 1 6 by omega)
    rw [L55_s, if_neg (by omega), good_1 h.2.2.1, Option.bind_some, if_neg (by decide), isT_R h.1 h.2.1 hl j6, Option.bind_some]
    by_cases c : told (M 1) M a (z - a) j
    · rw [if_pos c, if_neg (by decide), fails_g h.2.2.1, Option.bind_some, ck_pos ⟨by omega, by omega⟩]
      obtain ⟨m, rfl⟩ := nat_ex (show 0 < m by omega)
      rw [L55_b (by rw [upm_sl (by decide), upm_hit]; decide)]
      exact ⟨fun _ => rfl, fun q => absurd c (q j (by omega))⟩
    · rw [if_neg c, if_pos rfl, ck_pos ⟨by omega, by omega⟩, show (j : Int) + 1 = ((j + 1 : Nat) : Int) by omega]
      exact ih (j + 1) m (by omega) (by omega) (fun i hi => by
        by_cases y : i = j
        · rw [y]; exact c
        · exact hh i (by omega))
theorem L_m131 {M0 : Mem} {a l c : Nat} (hc : c < 6) (hl : l ≤ 8) (h31 : M0 0 31 = (a : Int)) (ha : a + l ≤ 500) (h6 : M0 1 6 = (c : Int)) (h36 : M0 1 (36 + 10 * c) = (l : Int)) : ∀ (k j m : Nat) (M : Mem), j + k = l → k < m → (∀ q : Nat, q ≠ 1 → M q = M0 q) → (∀ i : Nat, M 1 i = if 37 + 10 * c ≤ i ∧ i < 37 + 10 * c + j then M0 22 (a + (i - (37 + 10 * c))) else M0 1 i) →
    ∃ M' : Mem, f_X11_readsMap_L131 (36 + 10 * (c : Int)) m (j : Int) M = (f_X11_scans M').bind (fun M180 => some M180) ∧ (∀ q : Nat, q ≠ 1 → M' q = M0 q) ∧ ∀ i : Nat, M' 1 i = if i = 6 then (c : Int) + 1 else if 37 + 10 * c ≤ i ∧ i < 37 + 10 * c + l then M0 22 (a + (i - (37 + 10 * c))) else M0 1 i := by
  intro k
  induction k with
  | zero =>
    intro j m M hj hm f0 f1
    obtain ⟨m, rfl⟩ := nat_ex hm
    have e36 : M 1 (36 + 10 * c) = (l : Int) := by rw [f1, if_neg (by omega)]; exact h36
    have e6 : M 1 6 = (c : Int) := by rw [f1, if_neg (by omega)]; exact h6
    refine ⟨upm M 1 6 ((c : Int) + 1), ?_, fun q hq => by rw [upm_ne hq]; exact f0 q hq, fun i => ?_⟩
    · rw [f_X11_readsMap_L131, ck_pos ⟨by omega, by omega⟩, show (36 + 10 * (c : Int)).toNat = 36 + 10 * c by omega, e36, if_pos (by omega), show (6 : Int).toNat = 6 from rfl, e6, ck_pos ⟨by omega, by omega⟩, lt_eq]
    · rw [upm_row, updr_ap, f1, show l = j by omega]
  | succ k ih =>
    intro j m M hj hm f0 f1
    obtain ⟨m, rfl⟩ := nat_ex hm
    have e36 : M 1 (36 + 10 * c) = (l : Int) := by rw [f1, if_neg (by omega)]; exact h36
    obtain ⟨M', e1, e2⟩ := ih (j + 1) m (upm M 1 (37 + 10 * c + j) (M0 22 (a + j))) (by omega) (by omega) (fun q hq => by rw [upm_ne hq]; exact f0 q hq) (fun i => by
      rw [upm_row, updr_ap, f1 i]
      by_cases y : i = 37 + 10 * c + j
      · rw [if_pos y, if_pos (by omega)]; congr 1; omega
      · rw [if_neg y]
        by_cases u : 37 + 10 * c ≤ i ∧ i < 37 + 10 * c + j
        · rw [if_pos u, if_pos (by omega)]
        · rw [if_neg u, if_neg (by omega)])
    refine ⟨M', ?_, e2⟩
    rw [f_X11_readsMap_L131, ck_pos ⟨by omega, by omega⟩, show (36 + 10 * (c : Int)).toNat = 36 + 10 * c by omega, e36, if_neg (by omega), ck_pos ⟨by omega, by omega⟩, ck_pos ⟨by omega, by omega⟩, f0 0 (by decide), h31, ck_pos ⟨by omega, by omega⟩, ck_pos ⟨by omega, by omega⟩, ck_pos ⟨by omega, by omega⟩, show (36 + 10 * (c : Int) + 1 + (j : Int)).toNat = 37 + 10 * c + j by omega, show ((a : Int) + (j : Int)).toNat = a + j by omega, f0 22 (by decide), lt_eq, ck_pos ⟨by omega, by omega⟩, show (j : Int) + 1 = ((j + 1 : Nat) : Int) by omega]
    exact e1
theorem WFl_map {g g' : Row} {M : Mem} {c a l : Nat} (h : WFl g) (h6 : g 6 = (c : Int)) (hc : c < 6) (hl : 1 ≤ l ∧ l ≤ 8) (lt : ∀ t : Nat, t < l → 97 ≤ M 22 (a + t) ∧ M 22 (a + t) ≤ 122) (nt : ∀ i : Nat, (i : Int) < g 6 → ¬ told g M a l i) (e6 : g' 6 = (c : Int) + 1) (e1 : g' (36 + 10 * c) = (l : Int)) (e2 : ∀ t : Nat, t < l → g' (37 + 10 * c + t) = M 22 (a + t)) (e : ∀ i : Nat, i ≠ 6 → (i < 36 + 10 * c ∨ 46 + 10 * c ≤ i) → g' i = g i) : WFl g' := by
  obtain ⟨a0, a1, a2, a3, a4, a5, a6, a7, a8, a9, a10, a11⟩ := h
  unfold WFl
  rw [e6, e 0 (by omega) (by omega), e 1 (by omega) (by omega), e 2 (by omega) (by omega), e 3 (by omega) (by omega), e 4 (by omega) (by omega), e 5 (by omega) (by omega), e 7 (by omega) (by omega)]
  refine ⟨a0, a1, a2, a3, a4, a5, by omega, a7, fun i hi => ?_, fun i hi => ?_, fun i hi => ?_, fun i j h1 h2 h3 => ?_⟩
  · rw [e _ (by omega) (by omega), e _ (by omega) (by omega)]; exact a8 i hi
  · by_cases z : i = c
    · rw [z, e1]
      refine ⟨by omega, fun t ht => ?_⟩
      rw [e2 t (by omega)]; exact lt t (by omega)
    · have q := a9 i (by omega)
      rw [e (36 + 10 * i) (by omega) (by omega)]
      refine ⟨q.1, fun t ht => ?_⟩
      rw [e _ (by omega) (by omega)]; exact q.2 t ht
  · rw [e (96 + 3 * i) (by omega) (by omega), e (97 + 3 * i) (by omega) (by omega), e (98 + 3 * i) (by omega) (by omega)]; exact a10 i hi
  · have qi := (a9 i (by omega)).1
    unfold nmSame at h3
    rw [e (36 + 10 * i) (by omega) (by omega)] at h3
    by_cases z : j = c
    · rw [z, e1] at h3
      refine nt i (by omega) ⟨h3.1, fun t ht => ?_⟩
      have := h3.2 t (by omega)
      rw [e _ (by omega) (by omega), e2 t ht] at this
      exact this.symm
    · have qj := (a9 j (by omega)).1
      rw [e (36 + 10 * j) (by omega) (by omega)] at h3
      refine a11 i j h1 (by omega) ⟨h3.1, fun t ht => ?_⟩
      have := h3.2 t ht
      rw [e _ (by omega) (by omega), e _ (by omega) (by omega)] at this; exact this
theorem RSl_map {C C' M : Mem} {g g' : Row} {c a l : Nat} (r : RSl C 29 g) (h : WFl g) (h6 : g 6 = (c : Int)) (hc : c < 6) (hl : 1 ≤ l ∧ l ≤ 8) (e6 : g' 6 = (c : Int) + 1) (e1 : g' (36 + 10 * c) = (l : Int)) (e2 : ∀ t : Nat, t < l → g' (37 + 10 * c + t) = M 22 (a + t)) (e : ∀ i : Nat, i ≠ 6 → (i < 36 + 10 * c ∨ 46 + 10 * c ≤ i) → g' i = g i) (k0 : C' 30 3 = (c : Int) + 1) (k3 : ∀ j : Nat, j ≠ 3 → C' 30 j = C 30 j) (k34 : ∀ j : Nat, C' 34 j = if j = c then (l : Int) else C 34 j) (k33 : ∀ j : Nat, C' 33 j = if 8 * c ≤ j ∧ j < 8 * c + l then M 22 (a + (j - 8 * c)) else C 33 j) (kr : ∀ b : Nat, b = 31 ∨ b = 32 ∨ (35 ≤ b ∧ b ≤ 38) → C' b = C b) : RSl C' 29 g' := by
  obtain ⟨a1, a2, a3, a4, a5, a6, a7⟩ := r
  have h5' := h.2.2.2.2.2.1
  have h7' := h.2.2.2.2.2.2.2.1
  refine ⟨?_, by rw [e6]; exact k0, ?_, fun i hi => ?_, fun i hi => ?_, fun i hi => ?_, fun i hi => ?_⟩
  · rw [e 5 (by omega) (by omega), show (29 + 1 : Nat) = 30 from rfl, k3 0 (by decide)]; exact a1
  · rw [e 7 (by omega) (by omega), show (29 + 1 : Nat) = 30 from rfl, k3 6 (by decide)]; exact a3
  · rw [e 5 (by omega) (by omega)] at hi
    rw [kr (29 + 2) (by decide), kr (29 + 3) (by decide), e _ (by omega) (by omega), e _ (by omega) (by omega)]; exact a4 i hi
  · rw [show (29 + 4 : Nat) = 33 from rfl, show (29 + 5 : Nat) = 34 from rfl]
    by_cases z : i = c
    · rw [z, k34, if_pos rfl, e1]
      refine ⟨rfl, fun t ht => ?_⟩
      rw [k33, if_pos (by omega), e2 t (by omega)]; congr 1; omega
    · have q := (h.2.2.2.2.2.2.2.2.2.1 i (by omega)).1
      rw [k34, if_neg z, e (36 + 10 * i) (by omega) (by omega)]
      refine ⟨(a5 i (by omega)).1, fun t ht => ?_⟩
      rw [k33, if_neg (by omega), e _ (by omega) (by omega)]; exact (a5 i (by omega)).2 t ht
  · rw [e 7 (by omega) (by omega)] at hi
    rw [kr (29 + 6) (by decide), kr (29 + 7) (by decide), kr (29 + 8) (by decide), e (96 + 3 * i) (by omega) (by omega), e (97 + 3 * i) (by omega) (by omega), e (98 + 3 * i) (by omega) (by omega)]; exact a6 i hi
  · rw [kr (29 + 9) (by decide), e i (by omega) (by omega)]; exact a7 i hi
