/-! asks about maps' names, bans, words -/
theorem Rel.rs {k : Nat} {Mc Mr : Mem} (h : Rel k Mc Mr) : RS Mc 5 (Mr 1) := h.2.2.2.2.2.2.1
theorem Rel.wf {k : Nat} {Mc Mr : Mem} (h : Rel k Mc Mr) : WF (Mr 1) := h.2.2.2.2.2.2.2.1
theorem Rel.pc {k : Nat} {Mc Mr : Mem} (h : Rel k Mc Mr) : RPc Mc (Mr 1) := h.2.2.2.2.2.2.2.2.1
theorem Rel.sp {k : Nat} {Mc Mr : Mem} (h : Rel k Mc Mr) : RSp Mc (Mr 1) := h.2.2.2.2.2.2.2.2.2.1
theorem Rel.s0 {k : Nat} {Mc Mr : Mem} (h : Rel k Mc Mr) : Mc 72 0 = 0 := h.2.2.2.2.2.2.2.2.2.2
theorem x2_1 {p n : Int} {M : Mem} {r : Option (Nat × Mem)} (h : ¬ (0 ≤ p ∧ p < n)) : xo (x_X10_requireIndex p n M) r = some (1, M) := by rw [rI_no h]; rfl
theorem x2_2 {p n q a b : Int} {M : Mem} {r : Option (Nat × Mem)} (h : 0 ≤ p ∧ p < n) (h2 : ¬ (a ≤ q ∧ q ≤ b)) : (xo (x_X10_requireIndex p n M) <| (f_X10_requireIndex p n M).bind fun _ => xo (x_X10_requireRange q a b M) r) = some (2, M) := by
  rw [(rI_ok h).2, (rI_ok h).1, Option.bind_some, rR_no h2]; rfl
theorem x1_2 {q a b : Int} {M : Mem} {r : Option (Nat × Mem)} (h2 : ¬ (a ≤ q ∧ q ≤ b)) : xo (x_X10_requireRange q a b M) r = some (2, M) := by rw [rR_no h2]; rfl
/-! names -/
theorem WFl.m6 {g : Row} (h : WFl g) {m : Nat} (hm : (m : Int) < g 6) : m < 6 := by have := h.2.2.2.2.2.2.1; omega
theorem L_nm0 {x y : Int} {M : Mem} {n : Nat} {j : Int} (hn : 0 < n) : f_X11_isNamed_L33 x y M n 0 j = some 0 := by
  obtain ⟨n, rfl⟩ := nat_ex hn
  simp only [f_X11_isNamed_L33]
  rw [if_pos trivial, ck_pos (Or.inl trivial)]
theorem L_nm {M : Mem} (hl : WFl (M 1)) (h : WFv (M 1)) {i m : Nat} (hi : (i : Int) < M 1 9) (hm : (m : Int) < M 1 6) (hs : M 1 (36 + 10 * m) = M 1 (383 + 3 * i)) : ∀ (k j n : Nat), (j : Int) + k = M 1 (36 + 10 * m) → k < n →
    ∃ v : Int, f_X11_isNamed_L33 (i : Int) ((36 + 10 * m : Nat) : Int) M n 1 (j : Int) = some v ∧ (v = 0 ∨ v = 1) ∧ (v = 1 ↔ ∀ t : Nat, j ≤ t → t < (M 1 (36 + 10 * m)).toNat → M 1 (37 + 10 * m + t) = wLet (M 1) i t) := by
  have h6 := hl.m6 hm
  have hn6 := (hl.2.2.2.2.2.2.2.2.2.1 m hm).1
  intro k
  induction k with
  | zero =>
    intro j n hj hn
    obtain ⟨n, rfl⟩ := nat_ex hn
    refine ⟨1, ?_, Or.inr rfl, iff_of_true rfl (fun t h1 h2 => by omega)⟩
    simp only [f_X11_isNamed_L33, Int.toNat_natCast]
    rw [if_neg (by decide), ck_pos ⟨by omega, by omega⟩, if_pos (by omega), ck_pos (Or.inr trivial)]
  | succ k ih =>
    intro j n hj hn
    obtain ⟨n, rfl⟩ := nat_ex hn
    simp only [f_X11_isNamed_L33, Int.toNat_natCast]
    rw [if_neg (by decide), ck_pos ⟨by omega, by omega⟩, if_neg (by omega), ck_pos ⟨by omega, by omega⟩, ck_pos ⟨by omega, by omega⟩, ck_pos ⟨by omega, by omega⟩, letter_ev h hi (by omega), Option.bind_some, show (((36 + 10 * m : Nat) : Int) + 1 + (j : Int)).toNat = 37 + 10 * m + j by omega]
    by_cases c : M 1 (37 + 10 * m + j) = wLet (M 1) i j
    · obtain ⟨v, e1, e2, e3⟩ := ih (j + 1) n (by omega) (by omega)
      refine ⟨v, ?_, e2, e3.trans ⟨fun q t h1 h2 => ?_, fun q t h1 h2 => q t (by omega) h2⟩⟩
      · rw [if_pos c, ck_pos ⟨by omega, by omega⟩, show (j : Int) + 1 = ((j + 1 : Nat) : Int) by omega]
        exact e1
      · by_cases z : t = j
        · rw [z]; exact c
        · exact q t (by omega) h2
    · refine ⟨0, ?_, Or.inl rfl, iff_of_false (by decide) (fun q => c (q j (Nat.le_refl j) (by omega)))⟩
      rw [if_neg c, ck_pos ⟨by omega, by omega⟩]
      exact L_nm0 (by omega)
theorem nm_ev {M : Mem} (hl : WFl (M 1)) (h : WFv (M 1)) {i m : Nat} (hi : (i : Int) < M 1 9) (hm : (m : Int) < M 1 6) : ∃ v : Int, f_X11_isNamed (i : Int) (m : Int) M = some v ∧ (v = 0 ∨ v = 1) ∧ (v = 1 ↔ nmEq (M 1) i m) := by
  have h6 := hl.m6 hm
  have hn6 := (hl.2.2.2.2.2.2.2.2.2.1 m hm).1
  have h60 := h.i60 hi
  unfold f_X11_isNamed
  rw [ck_pos ⟨by omega, by omega⟩, ck_pos ⟨by omega, by omega⟩, ck_pos ⟨by omega, by omega⟩, w1 h60, Option.bind_some, show (36 + 10 * (m : Int)).toNat = 36 + 10 * m by omega]
  by_cases c : M 1 (36 + 10 * m) = M 1 (383 + 3 * i)
  · rw [if_pos c]
    obtain ⟨v, e1, e2, e3⟩ := L_nm hl h hi hm c (M 1 (36 + 10 * m)).toNat 0 jFuel (by omega) (jF (by omega))
    refine ⟨v, ?_, e2, e3.trans ⟨fun q => ⟨c, fun t ht => q t (by omega) ht⟩, fun q t _ ht => q.2 t ht⟩⟩
    rw [show (36 + 10 * (m : Int)) = ((36 + 10 * m : Nat) : Int) by omega]
    exact e1
  · rw [if_neg c]
    exact ⟨0, L_nm0 (jF (by omega)), Or.inl rfl, iff_of_false (by decide) (fun q => c q.1)⟩
theorem L_map {M : Mem} (hl : WFl (M 1)) (h : WFv (M 1)) {i : Nat} (hi : (i : Int) < M 1 9) : ∀ (k m n : Nat), (m : Int) + k = M 1 6 → k < n → f_X11_mapOf_L2 (i : Int) M n (m : Int) = some (mpS (M 1) i k m) := by
  have h6 := hl.2.2.2.2.2.2.1
  intro k
  induction k with
  | zero =>
    intro m n hj hn
    obtain ⟨n, rfl⟩ := nat_ex hn
    simp only [f_X11_mapOf_L2, show (6 : Int).toNat = 6 from rfl]
    rw [if_pos (by omega)]
    rfl
  | succ k ih =>
    intro m n hj hn
    obtain ⟨n, rfl⟩ := nat_ex hn
    obtain ⟨v, e1, e2, e3⟩ := nm_ev hl h hi (m := m) (by omega)
    simp only [f_X11_mapOf_L2, show (6 : Int).toNat = 6 from rfl]
    rw [if_neg (by omega), e1, Option.bind_some]
    unfold mpS
    by_cases c : nmEq (M 1) i m
    · rw [if_neg (by have := e3.2 c; omega), if_pos c]
    · rw [if_pos (by rcases e2 with e | e; · exact e
                     · exact absurd (e3.1 e) c), ck_pos ⟨by omega, by omega⟩, show (m : Int) + 1 = ((m + 1 : Nat) : Int) by omega, ih (m + 1) n (by omega) (by omega), if_neg c]
theorem map_ev {M : Mem} (hl : WFl (M 1)) (h : WFv (M 1)) {i : Nat} (hi : (i : Int) < M 1 9) : f_X11_mapOf (i : Int) M = some (mapOf (M 1) i) := by
  have h6 := hl.2.2.2.2.2.2.1
  exact L_map hl h hi (M 1 6).toNat 0 jFuel (by omega) (jF (by omega))
theorem mpS_b {g : Row} {i : Nat} : ∀ k m : Nat, mpS g i k m = -1 ∨ (∃ t : Nat, m ≤ t ∧ t < m + k ∧ mpS g i k m = (t : Int) ∧ nmEq g i t ∧ ∀ u : Nat, m ≤ u → u < t → ¬ nmEq g i u) := by
  intro k
  induction k with
  | zero => intro m; exact Or.inl rfl
  | succ k ih =>
    intro m
    unfold mpS
    by_cases c : nmEq g i m
    · rw [if_pos c]; exact Or.inr ⟨m, by omega, by omega, rfl, c, fun u h1 h2 => by omega⟩
    · rw [if_neg c]
      rcases ih (m + 1) with e | ⟨t, h1, h2, h3, h4, h5⟩
      · exact Or.inl e
      · refine Or.inr ⟨t, by omega, by omega, h3, h4, fun u u1 u2 => ?_⟩
        by_cases z : u = m
        · rw [z]; exact c
        · exact h5 u (by omega) u2
/-! bans -/
theorem cam_ev {M : Mem} {i : Nat} (hi : i < 12) : f_X11_cameraOf (i : Int) M = some (M 1 (12 + 2 * i)) := by
  unfold f_X11_cameraOf
  rw [ck_pos ⟨by omega, by omega⟩, ck_pos ⟨by omega, by omega⟩, ck_pos ⟨by omega, by omega⟩, show (12 + 2 * (i : Int)).toNat = 12 + 2 * i by omega]
theorem len_ev {M : Mem} {i : Nat} (hi : i < 12) : f_X11_lengthOf (i : Int) M = some (M 1 (13 + 2 * i)) := by
  unfold f_X11_lengthOf
  rw [ck_pos ⟨by omega, by omega⟩, ck_pos ⟨by omega, by omega⟩, ck_pos ⟨by omega, by omega⟩, ck_pos ⟨by omega, by omega⟩, show (12 + 2 * (i : Int) + 1).toNat = 13 + 2 * i by omega]
def shBy (g : Row) (c : Int) (i : Nat) : Int := if g (12 + 2 * i) = c then 1 else 0
theorem L_shBy_R {M : Mem} (hl : WFl (M 1)) {c : Int} : ∀ (k j n : Nat) (a : Int), (j : Int) + k = M 1 5 → k < n → 0 ≤ a → a ≤ (j : Int) → f_X11_shotsBy_L4 c M n a (j : Int) = some (a + sumF (shBy (M 1) c) k j) := by
  have h5 := hl.2.2.2.2.2.1
  intro k
  induction k with
  | zero =>
    intro j n a hj hn h1 h2
    obtain ⟨n, rfl⟩ := nat_ex hn
    simp only [f_X11_shotsBy_L4, show (5 : Int).toNat = 5 from rfl]
    rw [if_pos (by omega)]
    simp [sumF]
  | succ k ih =>
    intro j n a hj hn h1 h2
    obtain ⟨n, rfl⟩ := nat_ex hn
    simp only [f_X11_shotsBy_L4, show (5 : Int).toNat = 5 from rfl, jn]
    rw [if_neg (by omega), cam_ev (by omega), Option.bind_some]
    have s : sumF (shBy (M 1) c) (k + 1) j = shBy (M 1) c j + sumF (shBy (M 1) c) k (j + 1) := rfl
    rw [show (j : Int) + 1 = ((j + 1 : Nat) : Int) by omega, s]
    unfold shBy at s ⊢
    by_cases q : M 1 (12 + 2 * j) = c
    · rw [if_pos q, bit_eq, if_neg (by decide), Option.bind_some, ck_pos ⟨by omega, by omega⟩, ck_pos ⟨by omega, by omega⟩, if_pos q, ← Int.add_assoc]
      exact ih (j + 1) n _ (by omega) (by omega) (by omega) (by omega)
    · rw [if_neg q, bit_eq, if_pos rfl, Option.bind_some, ck_pos ⟨by omega, by omega⟩, ck_pos ⟨by omega, by omega⟩, if_neg q, ← Int.add_assoc]
      exact ih (j + 1) n _ (by omega) (by omega) (by omega) (by omega)
theorem shBy_R {M : Mem} (hl : WFl (M 1)) {c : Int} : f_X11_shotsBy c M = some (sumF (shBy (M 1) c) (M 1 5).toNat 0) := by
  have h5 := hl.2.2.2.2.2.1
  have e := L_shBy_R hl (c := c) (M 1 5).toNat 0 jFuel 0 (by omega) (jF (by omega)) (by omega) (by omega)
  rw [Int.zero_add] at e
  exact e
theorem L_shBy_C {M : Mem} {s : Nat} {g : Row} (hl : WFl g) (r : RSl M s g) {c : Int} : ∀ (k j n : Nat) (a : Int), (j : Int) + k = g 5 → k < n → 0 ≤ a → a ≤ (j : Int) → f_X3_shotsOf_L4 s c M n a (j : Int) = some (a + sumF (shBy g c) k j) := by
  have h5 := hl.2.2.2.2.2.1
  intro k
  induction k with
  | zero =>
    intro j n a hj hn h1 h2
    obtain ⟨n, rfl⟩ := nat_ex hn
    simp only [f_X3_shotsOf_L4, r.1]
    rw [if_pos (by omega)]
    simp [sumF]
  | succ k ih =>
    intro j n a hj hn h1 h2
    obtain ⟨n, rfl⟩ := nat_ex hn
    simp only [f_X3_shotsOf_L4, r.1]
    rw [if_neg (by omega), ck_pos ⟨by omega, by omega⟩, Int.toNat_natCast, (r.2.2.2.1 j (by omega)).1]
    have s : sumF (shBy g c) (k + 1) j = shBy g c j + sumF (shBy g c) k (j + 1) := rfl
    rw [show (j : Int) + 1 = ((j + 1 : Nat) : Int) by omega, s]
    unfold shBy at s ⊢
    by_cases q : g (12 + 2 * j) = c
    · rw [if_pos q, ck_pos ⟨by omega, by omega⟩, ck_pos ⟨by omega, by omega⟩, if_pos q, ← Int.add_assoc]
      exact ih (j + 1) n _ (by omega) (by omega) (by omega) (by omega)
    · rw [if_neg q, ck_pos ⟨by omega, by omega⟩, if_neg q, ← Int.add_assoc, Int.add_zero]
      exact ih (j + 1) n _ (by omega) (by omega) (by omega) (by omega)
theorem shBy_C {M : Mem} {s : Nat} {g : Row} (hl : WFl g) (r : RSl M s g) {c : Int} : f_X3_shotsOf s c M = some (sumF (shBy g c) (g 5).toNat 0) := by
  have h5 := hl.2.2.2.2.2.1
  have e := L_shBy_C hl r (c := c) (g 5).toNat 0 jFuel 0 (by omega) (jF (by omega)) (by omega) (by omega)
  rw [Int.zero_add] at e
  exact e
theorem p_ban {k : Nat} {Mc Mr : Mem} (h : Rel k Mc Mr) (p q : Int) : ∃ Mc' Mr' : Mem, st_ban p q Mc Mr Mc' Mr' ∧ Rel (k + 1) Mc' Mr' := by
  have hl := h.wf.1
  have r := h.rs.1
  have h7 := hl.2.2.2.2.2.2.2.1
  have e6 : Mc 6 6 = Mr 1 7 := r.2.2.1
  by_cases hp : 0 ≤ p ∧ p < Mr 1 7
  · obtain ⟨i, rfl⟩ : ∃ i : Nat, p = (i : Int) := ⟨p.toNat, by omega⟩
    obtain ⟨b1, b2, b3⟩ : Mc 11 i = Mr 1 (96 + 3 * i) ∧ Mc 12 i = Mr 1 (97 + 3 * i) ∧ Mc 13 i = Mr 1 (98 + 3 * i) := r.2.2.2.2.2.1 i hp.2
    by_cases hq : 0 ≤ q ∧ q ≤ 3
    · refine ⟨Mc, upm Mr 0 7 0, Or.inl ⟨if q = 3 then sumF (shBy (Mr 1) (Mr 1 (96 + 3 * i))) (Mr 1 5).toNat 0 else Mr 1 (96 + 3 * i + q.toNat), ?_, rfl, ?_, thr_at _ _⟩, h.scr keepC.rfl keepR.thr (by omega)⟩
      · unfold f_X10_ban
        rw [e6, (rI_ok hp).1, Option.bind_some, (rR_ok hq).1, Option.bind_some]
        simp only [Int.toNat_natCast]
        rw [b1, b2, b3]
        by_cases q0 : q = 0
        · rw [if_pos q0, ck_pos ⟨by omega, by omega⟩, if_neg (by omega), q0]; rfl
        · rw [if_neg q0]
          by_cases q1 : q = 1
          · rw [if_pos q1, ck_pos ⟨by omega, by omega⟩, if_neg (by omega), q1, show 96 + 3 * i + (1 : Int).toNat = 97 + 3 * i by simp; omega]
          · rw [if_neg q1]
            by_cases q2 : q = 2
            · rw [if_pos q2, ck_pos ⟨by omega, by omega⟩, if_neg (by omega), q2, show 96 + 3 * i + (2 : Int).toNat = 98 + 3 * i by simp; omega]
            · rw [if_neg q2, ck_pos ⟨by omega, by omega⟩, shBy_C hl r, Option.bind_some, if_pos (by omega)]
      · unfold f_X11_ban
        rw [show (7 : Int).toNat = 7 from rfl, ck_pos ⟨by omega, by omega⟩, isIn_eq, if_pos (by omega), Option.bind_some, isIn_eq, if_pos hq, Option.bind_some, gb11, Option.bind_some]
        simp only []
        rw [if_neg (by decide), ck_pos ⟨by omega, by omega⟩, ck_pos ⟨by omega, by omega⟩, thr_ne _ _ (by decide)]
        by_cases q3 : q = 3
        · rw [if_pos (by omega), ck_pos ⟨by omega, by omega⟩, show (96 + 3 * (i : Int)).toNat = 96 + 3 * i by omega, shBy_R (by rw [thr_ne _ _ (by decide)]; exact hl), Option.bind_some, if_pos q3, thr_ne _ _ (by decide)]
        · rw [if_neg (by omega), ck_pos ⟨by omega, by omega⟩, ck_pos ⟨by omega, by omega⟩, if_neg q3, show (96 + 3 * (i : Int) + q).toNat = 96 + 3 * i + q.toNat by omega]
    · refine ⟨Mc, upm Mr 0 7 2, Or.inr (Or.inr ⟨?_, 0, ?_, thr_at _ _⟩), h.scr keepC.rfl keepR.thr (by omega)⟩
      · unfold x_X10_ban
        rw [e6]; exact x2_2 hp hq
      · unfold f_X11_ban
        rw [show (7 : Int).toNat = 7 from rfl, ck_pos ⟨by omega, by omega⟩, isIn_eq, if_pos (by omega), Option.bind_some, isIn_eq, if_neg hq, Option.bind_some, gb10, Option.bind_some]
        simp
  · refine ⟨Mc, upm Mr 0 7 1, Or.inr (Or.inl ⟨?_, 0, ?_, thr_at _ _⟩), h.scr keepC.rfl keepR.thr (by omega)⟩
    · unfold x_X10_ban
      rw [e6]; exact x2_1 hp
    · unfold f_X11_ban
      rw [show (7 : Int).toNat = 7 from rfl, ck_pos ⟨by omega, by omega⟩, isIn_eq, if_neg (by omega), Option.bind_some, isIn_eq, Option.bind_some, gb0, Option.bind_some]
      simp
/-! words -/
theorem p_word {k : Nat} {Mc Mr : Mem} (h : Rel k Mc Mr) (p q : Int) : ∃ Mc' Mr' : Mem, st_word p q Mc Mr Mc' Mr' ∧ Rel (k + 1) Mc' Mr' := by
  have hl := h.wf.1
  have hv := h.wf.2.1
  have r := h.rs.2.1
  have h9 := hv.1
  have e6 : Mc 16 0 = Mr 1 9 := r.1
  by_cases hp : 0 ≤ p ∧ p < Mr 1 9
  · obtain ⟨i, rfl⟩ : ∃ i : Nat, p = (i : Int) := ⟨p.toNat, by omega⟩
    obtain ⟨b1, b2, b3, b4⟩ : Mc 18 i = Mr 1 (382 + 3 * i) ∧ Mc 19 i = Mr 1 (383 + 3 * i) ∧ Mc 20 i = syl (Mr 1) i ∧ Mc 21 i = Mr 1 (384 + 3 * i) := r.2.2.1 i hp.2
    obtain ⟨s1, s2, s3⟩ := h.sp.2.2 i hp.2
    by_cases hq : 0 ≤ q ∧ q ≤ 5
    · have k1 : (upm Mr 0 7 0) 1 = Mr 1 := thr_ne _ _ (by decide)
      obtain ⟨M', l1, l2, l3⟩ := laysW (M := upm Mr 0 7 0) (by rw [k1]; exact hl) (by rw [k1]; exact hv)
      rw [k1] at l1 l3
      have k2 : M' 1 = Mr 1 := (l2 1 (by decide) (by decide)).trans k1
      have l4 := l3 i hp.2
      have i60 := hv.i60 hp.2
      refine ⟨Mc, M', Or.inl ⟨if q = 0 then Mr 1 (383 + 3 * i) else if q = 1 then syl (Mr 1) i else if q = 2 then wb (Mr 1) i else if q = 3 then we (Mr 1) i else if q = 4 then mapOf (Mr 1) i else sumF (sen (Mr 1)) i 0, ?_, rfl, ?_, ?_⟩, h.scr keepC.rfl (keepR.thr.trans l2.R) (by omega)⟩
      · unfold f_X10_word
        rw [e6, (rI_ok hp).1, Option.bind_some, (rR_ok hq).1, Option.bind_some]
        simp only [Int.toNat_natCast]
        rw [b2, b3, s1, s2, s3, sen_C hv r ⟨hp.1, by omega⟩, ck_pos ⟨by omega, by omega⟩, ck_pos ⟨by omega, by omega⟩, ck_pos ⟨by omega, by omega⟩, ck_pos ⟨by omega, by omega⟩, ck_pos ⟨by omega, by omega⟩, Option.bind_some, Int.toNat_natCast]
        (repeat' split) <;> rfl
      · unfold f_X11_word
        rw [show (9 : Int).toNat = 9 from rfl, ck_pos ⟨by omega, by omega⟩, isIn_eq, if_pos (by omega), Option.bind_some, isIn_eq, if_pos hq, Option.bind_some, gb11, Option.bind_some]
        simp only []
        rw [if_neg (by decide), l1, Option.bind_some]
        simp only [Int.toNat_natCast]
        rw [w1 i60, Option.bind_some, k2, l4.1, l4.2, syl_ev (by rw [k2]; exact hv) (by rw [k2]; exact hp.2), Option.bind_some, map_ev (by rw [k2]; exact hl) (by rw [k2]; exact hv) (by rw [k2]; exact hp.2), Option.bind_some, sen_R (by rw [k2]; exact hv) (by rw [k2]; omega), Option.bind_some, k2, ck_pos ⟨by omega, by omega⟩, ck_pos ⟨by omega, by omega⟩, Int.toNat_natCast]
        (repeat' split) <;> rfl
      · rw [l2 0 (by decide) (by decide)]; exact thr_at _ _
    · refine ⟨Mc, upm Mr 0 7 2, Or.inr (Or.inr ⟨?_, 0, ?_, thr_at _ _⟩), h.scr keepC.rfl keepR.thr (by omega)⟩
      · unfold x_X10_word
        rw [e6]; exact x2_2 hp hq
      · unfold f_X11_word
        rw [show (9 : Int).toNat = 9 from rfl, ck_pos ⟨by omega, by omega⟩, isIn_eq, if_pos (by omega), Option.bind_some, isIn_eq, if_neg hq, Option.bind_some, gb10, Option.bind_some]
        simp
  · refine ⟨Mc, upm Mr 0 7 1, Or.inr (Or.inl ⟨?_, 0, ?_, thr_at _ _⟩), h.scr keepC.rfl keepR.thr (by omega)⟩
    · unfold x_X10_word
      rw [e6]; exact x2_1 hp
    · unfold f_X11_word
      rw [show (9 : Int).toNat = 9 from rfl, ck_pos ⟨by omega, by omega⟩, isIn_eq, if_neg (by omega), Option.bind_some, isIn_eq, Option.bind_some, gb0, Option.bind_some]
      simp
