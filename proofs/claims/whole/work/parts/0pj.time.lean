/-! the class times its words -/
theorem L_isN {M : Mem} {g : Row} (hl : WFl g) (hv : WFv g) (r : RSl M 5 g) (rv : RSv M 5 g) {i m : Nat} (hi : (i : Int) < g 9) (hm : (m : Int) < g 6) (hs : g (36 + 10 * m) = g (383 + 3 * i)) : ∀ (k j n : Nat), (j : Int) + k = g (383 + 3 * i) → k < n →
    ∃ v : Int, f_X3_isName_L29 5 (5 + 12) (m : Int) (g (382 + 3 * i)) (g (383 + 3 * i)) M n (j : Int) = some v ∧ (v = 0 ∨ v = 1) ∧ (v = 1 ↔ ∀ t : Nat, j ≤ t → t < (g (36 + 10 * m)).toNat → g (37 + 10 * m + t) = wLet g i t) := by
  have h6 := hl.m6 hm
  have hn6 := (hl.2.2.2.2.2.2.2.2.2.1 m hm).1
  have hw := hv.2.2.1 i hi
  have h10 := hv.2.1
  intro k
  induction k with
  | zero =>
    intro j n hj hn
    obtain ⟨n, rfl⟩ := nat_ex hn
    refine ⟨1, ?_, Or.inr rfl, iff_of_true rfl (fun t h1 h2 => by omega)⟩
    simp only [f_X3_isName_L29]
    rw [if_pos (by omega)]
  | succ k ih =>
    intro j n hj hn
    obtain ⟨n, rfl⟩ := nat_ex hn
    have a1 : M (5 + 12) (g (382 + 3 * i) + (j : Int)).toNat = wLet g i j := by
      rw [rv.2.2.2 _ (by omega)]
      unfold wLet wFrom
      rw [show 562 + (g (382 + 3 * i) + (j : Int)).toNat = 562 + (g (382 + 3 * i)).toNat + j by omega]
    have a2 : M (5 + 4) ((m : Int) * 8 + (j : Int)).toNat = g (37 + 10 * m + j) := by
      rw [show ((m : Int) * 8 + (j : Int)).toNat = 8 * m + j by omega]
      exact (r.2.2.2.2.1 m hm).2 j (by omega)
    simp only [f_X3_isName_L29]
    rw [if_neg (by omega), ck_pos ⟨by omega, by omega⟩, ck_pos ⟨by omega, by omega⟩, ck_pos ⟨by omega, by omega⟩, ck_pos ⟨by omega, by omega⟩, ck_pos ⟨by omega, by omega⟩, a1, a2, show (j : Int) + 1 = ((j + 1 : Nat) : Int) by omega]
    by_cases c : g (37 + 10 * m + j) = wLet g i j
    · obtain ⟨v, e1, e2, e3⟩ := ih (j + 1) n (by omega) (by omega)
      refine ⟨v, ?_, e2, e3.trans ⟨fun q t h1 h2 => ?_, fun q t h1 h2 => q t (by omega) h2⟩⟩
      · rw [if_pos c.symm, ck_pos ⟨by omega, by omega⟩]
        exact e1
      · by_cases z : t = j
        · rw [z]; exact c
        · exact q t (by omega) h2
    · refine ⟨0, ?_, Or.inl rfl, iff_of_false (by decide) (fun q => c (q j (Nat.le_refl j) (by omega)))⟩
      rw [if_neg (fun z => c z.symm)]
theorem isN_C {M : Mem} {g : Row} (hl : WFl g) (hv : WFv g) (r : RSl M 5 g) (rv : RSv M 5 g) {i m : Nat} (hi : (i : Int) < g 9) (hm : (m : Int) < g 6) : ∃ v : Int, f_X3_isName 5 (m : Int) (5 + 12) (g (382 + 3 * i)) (g (383 + 3 * i)) M = some v ∧ (v = 0 ∨ v = 1) ∧ (v = 1 ↔ nmEq g i m) := by
  have h6 := hl.m6 hm
  have hw := hv.2.2.1 i hi
  have h10 := hv.2.1
  unfold f_X3_isName
  rw [ck_pos ⟨by omega, by omega⟩, Int.toNat_natCast, (r.2.2.2.2.1 m hm).1]
  by_cases c : g (383 + 3 * i) = g (36 + 10 * m)
  · rw [if_pos c, if_neg (by omega), ck_pos ⟨by omega, by omega⟩, if_pos (by omega)]
    obtain ⟨v, e1, e2, e3⟩ := L_isN hl hv r rv hi hm c.symm (g (383 + 3 * i)).toNat 0 jFuel (by omega) (jF (by omega))
    exact ⟨v, e1, e2, e3.trans ⟨fun q => ⟨c.symm, fun t ht => q t (by omega) ht⟩, fun q t _ ht => q.2 t ht⟩⟩
  · rw [if_neg c]
    exact ⟨0, rfl, Or.inl rfl, iff_of_false (by decide) (fun q => c q.1.symm)⟩
theorem L_mapN {M : Mem} {g : Row} (hl : WFl g) (hv : WFv g) (r : RSl M 5 g) (rv : RSv M 5 g) {i : Nat} (hi : (i : Int) < g 9) : ∀ (k m n : Nat), (m : Int) + k = g 6 → k < n → f_X3_mapNamed_L3 5 (5 + 12) (g (382 + 3 * i)) (g (383 + 3 * i)) M n (m : Int) = some (mpS g i k m) := by
  have h6 := hl.2.2.2.2.2.2.1
  intro k
  induction k with
  | zero =>
    intro m n hj hn
    obtain ⟨n, rfl⟩ := nat_ex hn
    simp only [f_X3_mapNamed_L3, r.2.1]
    rw [if_pos (by omega)]
    rfl
  | succ k ih =>
    intro m n hj hn
    obtain ⟨n, rfl⟩ := nat_ex hn
    obtain ⟨v, e1, e2, e3⟩ := isN_C hl hv r rv hi (m := m) (by omega)
    simp only [f_X3_mapNamed_L3, r.2.1]
    rw [if_neg (by omega), e1, Option.bind_some]
    unfold mpS
    by_cases c : nmEq g i m
    · rw [if_neg (by have := e3.2 c; omega), if_pos c]
    · rw [if_pos (by rcases e2 with e | e; · exact e
                     · exact absurd (e3.1 e) c), ck_pos ⟨by omega, by omega⟩, show (m : Int) + 1 = ((m + 1 : Nat) : Int) by omega, ih (m + 1) n (by omega) (by omega), if_neg c]
theorem mapN_C {M : Mem} {g : Row} (hl : WFl g) (hv : WFv g) (r : RSl M 5 g) (rv : RSv M 5 g) {i : Nat} (hi : (i : Int) < g 9) : f_X3_mapNamed 5 (5 + 12) (g (382 + 3 * i)) (g (383 + 3 * i)) M = some (mapOf g i) := by
  have h6 := hl.2.2.2.2.2.2.1
  exact L_mapN hl hv r rv hi (g 6).toNat 0 jFuel (by omega) (jF (by omega))
/-- only the words' times may have changed -/
def keepP (M M' : Mem) : Prop := ∀ c : Nat, c < 64 ∨ 67 < c → M' c = M c
theorem keepP.rs {M M' : Mem} {g : Row} (h : keepP M M') (r : RS M 5 g) : RS M' 5 g := r.eqv (fun j _ _ => h _ (by omega))
theorem keepP.trans {M M1 M2 : Mem} (h : keepP M M1) (h2 : keepP M1 M2) : keepP M M2 := fun c hc => (h2 c hc).trans (h c hc)
theorem keepP.wr {M : Mem} {a k : Nat} {v : Int} (h : 64 ≤ a ∧ a ≤ 67) : keepP M (upm M a k v) := fun c hc => upm_ne (by omega)
theorem L_time {M0 : Mem} {g : Row} (hl : WFl g) (hv : WFv g) (r : RS M0 5 g) : ∀ (k j n : Nat) (M : Mem), (j : Int) + k = g 9 → k < n → keepP M0 M → M 64 0 = g 9 → M 64 1 = (if j = 0 then 0 else we g (j - 1)) → (∀ i : Nat, i < j → M 65 i = wb g i ∧ M 66 i = we g i ∧ M 67 i = mapOf g i) →
    ∃ M' : Mem, f_X6_timeFrom_L18 5 5 n (wb g j) (j : Int) M = some M' ∧ keepP M0 M' ∧ RSp M' g := by
  have h9 := hv.1
  intro k
  induction k with
  | zero =>
    intro j n M hj hn hk h0 h1 hi
    obtain ⟨n, rfl⟩ := nat_ex hn
    refine ⟨M, ?_, hk, h0, ?_, fun i q => hi i (by omega)⟩
    · simp only [f_X6_timeFrom_L18, h0]
      rw [if_pos (by omega)]
    · rw [h1]
      unfold wEnd
      by_cases c : j = 0
      · rw [if_pos c, if_pos (by omega)]
      · rw [if_neg c, if_neg (by omega), show (g 9).toNat = j by omega]
  | succ k ih =>
    intro j n M hj hn hk h0 h1 hi
    obtain ⟨n, rfl⟩ := nat_ex hn
    have b1 := wb_b hl hv j (by omega)
    have b2 := we_b hl hv (i := j) (by omega)
    have b3 := sp_b hl hv (i := j) (by omega)
    have b4 := wb_b hl hv (j + 1) (by omega)
    have ks : keepP M0 (upm M 65 j (wb g j)) := hk.trans (keepP.wr ⟨by omega, by omega⟩)
    have k3 : keepP M0 (upm (upm (upm M 65 j (wb g j)) 64 1 (we g j)) 66 j (we g j)) := (ks.trans (keepP.wr ⟨by omega, by omega⟩)).trans (keepP.wr ⟨by omega, by omega⟩)
    have k4 : keepP M0 (upm (upm (upm (upm M 65 j (wb g j)) 64 1 (we g j)) 66 j (we g j)) 67 j (mapOf g j)) := k3.trans (keepP.wr ⟨by omega, by omega⟩)
    have s1 : f_X3_setting 5 1 (upm M 65 j (wb g j)) = some (g 1) := set_ev (ks.rs r).1 (i := 1) (by omega)
    have s2 : f_X3_setting 5 2 (upm (upm (upm (upm M 65 j (wb g j)) 64 1 (we g j)) 66 j (we g j)) 67 j (mapOf g j)) = some (g 2) := set_ev (k4.rs r).1 (i := 2) (by omega)
    have v1 := ((ks.rs r).2.1.2.2.1 j (by omega)).2.2.1
    have v2 := (k3.rs r).2.1.2.2.1 j (by omega)
    have v4 := ((k4.rs r).2.1.2.2.1 j (by omega)).2.2.2
    have mp := mapN_C hl hv (k3.rs r).1 (k3.rs r).2.1 (i := j) (by omega)
    obtain ⟨M', e1, e2⟩ := ih (j + 1) n _ (by omega) (by omega) k4 (by rw [upm_ne (by decide), upm_ne (by decide), upm_row, updr_ne (by decide), upm_ne (by decide)]; exact h0) (by rw [if_neg (by omega), show j + 1 - 1 = j by omega, upm_ne (by decide), upm_ne (by decide), upm_row, updr_at]) (fun i q => by
      have a1 : (upm (upm (upm (upm M 65 j (wb g j)) 64 1 (we g j)) 66 j (we g j)) 67 j (mapOf g j)) 65 i = if i = j then wb g j else M 65 i := by simp [upm_at, updr_ap]
      have a2 : (upm (upm (upm (upm M 65 j (wb g j)) 64 1 (we g j)) 66 j (we g j)) 67 j (mapOf g j)) 66 i = if i = j then we g j else M 66 i := by simp [upm_at, updr_ap]
      have a3 : (upm (upm (upm (upm M 65 j (wb g j)) 64 1 (we g j)) 66 j (we g j)) 67 j (mapOf g j)) 67 i = if i = j then mapOf g j else M 67 i := by simp [upm_at, updr_ap]
      rw [a1, a2, a3]
      by_cases z : i = j
      · rw [if_pos z, if_pos z, if_pos z, z]; exact ⟨rfl, rfl, rfl⟩
      · rw [if_neg z, if_neg z, if_neg z]; exact hi i (by omega))
    refine ⟨M', ?_, e2⟩
    have q : wb g j + g 1 * syl g j = we g j := rfl
    have w := wb_succ g j
    simp only [f_X6_timeFrom_L18, h0]
    rw [if_neg (by omega), ck_pos ⟨by omega, by omega⟩, Int.toNat_natCast, lt_eq, s1, Option.bind_some, v1, ck_pos ⟨by omega, by omega⟩, q, ck_pos ⟨by omega, by omega⟩, lt_eq, lt_eq, v2.1, v2.2.1, mp, Option.bind_some, lt_eq, v4, s2, Option.bind_some, show (j : Int) + 1 = ((j + 1 : Nat) : Int) by omega]
    rcases (hv.2.2.1 j (by omega)).2.2.2 with z | z
    · rw [if_neg (by omega), Int.add_zero] at w
      rw [w] at e1
      rw [if_pos z, Int.add_zero, ck_pos ⟨by omega, by omega⟩, ck_pos ⟨by omega, by omega⟩]
      exact e1
    · rw [if_pos z] at w
      rw [if_neg (by omega), ← w, ck_pos ⟨by omega, by omega⟩, ck_pos ⟨by omega, by omega⟩]
      exact e1
theorem time_C {M : Mem} {g : Row} (hl : WFl g) (hv : WFv g) (r : RS M 5 g) : ∃ M' : Mem, f_X6_timeFrom 5 5 M = some M' ∧ keepP M M' ∧ RSp M' g := by
  have h9 := hv.1
  unfold f_X6_timeFrom
  rw [lt_eq, lt_eq]
  refine L_time hl hv r (g 9).toNat 0 jFuel _ (by omega) (jF (by omega)) ((keepP.wr ⟨by omega, by omega⟩).trans (keepP.wr ⟨by omega, by omega⟩)) ?_ ?_ (fun i q => by omega)
  · rw [upm_row, updr_ne (by decide), upm_row, updr_at]; exact r.2.1.1
  · rw [upm_row, updr_at, if_pos rfl]
