/-! the reel's numbers, counts, maps -/
theorem it_mono (g : Row) : ∀ k j : Nat, it g j ≤ it g (j + k) := by
  intro k
  induction k with
  | zero => intro j; exact Nat.le_refl _
  | succ k ih =>
    intro j
    have e := ih (j + 1)
    have s : it g (j + 1) = it g j + (if rk g j = 4 then 0 else 1) := rfl
    rw [show j + (k + 1) = j + 1 + k by omega]
    omega
theorem it_s4 {g : Row} {j : Nat} (h : rk g j = 4) : it g (j + 1) = it g j := by
  show it g j + ite _ _ _ = _; rw [if_pos h]; rfl
theorem it_s1 {g : Row} {j : Nat} (h : rk g j ≠ 4) : it g (j + 1) = it g j + 1 := by
  show it g j + ite _ _ _ = _; rw [if_neg h]
theorem it_lt {g : Row} {j m : Nat} (h : j < m) (h4 : rk g j ≠ 4) : it g j < it g m := by
  have := it_mono g (m - (j + 1)) (j + 1)
  rw [it_s1 h4, show j + 1 + (m - (j + 1)) = m by omega] at this
  omega
theorem WFi.kind {g : Row} (h : WFi g) {i : Nat} (hi : (i : Int) < g 8) : rk g i = 0 ∨ rk g i = 1 ∨ rk g i = 2 ∨ rk g i = 3 ∨ rk g i = 4 := by
  have := (h.2.2.2.2 i hi).2
  omega
theorem WFi.it30 {g : Row} (h : WFi g) {i : Nat} (hi : (i : Int) < g 8) (h4 : rk g i ≠ 4) : it g i < it g (g 8).toNat ∧ it g i < 30 := by
  have h1 := it_lt (g := g) (show i < (g 8).toNat by omega) h4
  have := h.2.2.1
  exact ⟨h1, by omega⟩
theorem r_ev {M : Mem} {i : Nat} {x : Int} (hi : i < 64) (hx : 0 ≤ x ∧ x ≤ 3) : f_X11_r (i : Int) x M = some (M 1 (126 + 4 * i + x.toNat)) := by
  unfold f_X11_r
  rw [ck_pos ⟨by omega, by omega⟩, ck_pos ⟨by omega, by omega⟩, ck_pos ⟨by omega, by omega⟩, ck_pos ⟨by omega, by omega⟩, show (126 + 4 * (i : Int) + x).toNat = 126 + 4 * i + x.toNat by omega]
theorem r0 {M : Mem} {i : Nat} (hi : i < 64) : f_X11_r (i : Int) 0 M = some (rk (M 1) i) := r_ev hi ⟨by omega, by omega⟩
theorem r1 {M : Mem} {i : Nat} (hi : i < 64) : f_X11_r (i : Int) 1 M = some (M 1 (127 + 4 * i)) := by
  rw [r_ev hi ⟨by omega, by omega⟩, show 126 + 4 * i + (1 : Int).toNat = 127 + 4 * i by simp; omega]
theorem r2 {M : Mem} {i : Nat} (hi : i < 64) : f_X11_r (i : Int) 2 M = some (M 1 (128 + 4 * i)) := by
  rw [r_ev hi ⟨by omega, by omega⟩, show 126 + 4 * i + (2 : Int).toNat = 128 + 4 * i by simp; omega]
theorem r3 {M : Mem} {i : Nat} (hi : i < 64) : f_X11_r (i : Int) 3 M = some (M 1 (129 + 4 * i)) := by
  rw [r_ev hi ⟨by omega, by omega⟩, show 126 + 4 * i + (3 : Int).toNat = 129 + 4 * i by simp; omega]
theorem opn (r : Int) (M : Mem) {α : Type} (K : Int → Option α) : (jn (fun (v : Int) => (f_X11_bit v M).bind fun q => K q) fun k => jn (fun (_ : Unit) => k 1) fun k2 => if r = 2 then k2 () else if r = 3 then k2 () else k 0) = K (if r = 2 ∨ r = 3 then 1 else 0) := by
  simp only [jn, bit_eq, Option.bind_some]
  by_cases a : r = 2
  · rw [if_pos a, if_pos (Or.inl a), if_neg (by decide)]
  · rw [if_neg a]
    by_cases b : r = 3
    · rw [if_pos b, if_pos (Or.inr b), if_neg (by decide)]
    · rw [if_neg b, if_pos trivial, if_neg (by omega : ¬ (r = 2 ∨ r = 3))]
theorem cls (r : Int) (M : Mem) {α : Type} (K : Int → Option α) : (jn (fun (v : Int) => (f_X11_bit v M).bind fun q => K q) fun k => if r = 4 then k 1 else k 0) = K (if r = 4 then 1 else 0) := by
  simp only [jn, bit_eq, Option.bind_some]
  by_cases a : r = 4
  · rw [if_pos a, if_pos a, if_neg (by decide)]
  · rw [if_neg a, if_neg a, if_pos trivial]
theorem dp_s (g : Row) (j : Nat) : dp g (j + 1) = dp g j + ((if rk g j = 2 ∨ rk g j = 3 then 1 else 0) - (if rk g j = 4 then 1 else 0)) := by
  show dp g j + ite _ _ _ = _
  by_cases a : rk g j = 2
  · rw [if_pos a, if_pos (Or.inl a), if_neg (by omega)]; omega
  · rw [if_neg a]
    by_cases b : rk g j = 3
    · rw [if_pos b, if_pos (Or.inr b), if_neg (by omega)]; omega
    · rw [if_neg b, if_neg (by omega : ¬ (rk g j = 2 ∨ rk g j = 3))]
      by_cases c : rk g j = 4
      · rw [if_pos c, if_pos c]; omega
      · rw [if_neg c, if_neg c]; omega
/-- the deepest row -/
def dpM (g : Row) : Nat → Nat → Int → Int
  | 0, _, a => a
  | k + 1, j, a => dpM g k (j + 1) (if rk g j = 2 ∨ rk g j = 3 then max a (dp g j + 1) else a)
theorem blk_ev {M : Mem} {s : Nat} {g : Row} (hi : WFi g) (r : RSi M s g) {j : Nat} (hj : (j : Int) < g 8) (h4 : rk g j ≠ 4) : f_X2_isBlock s (it g j : Nat) M = some (if rk g j = 2 ∨ rk g j = 3 then 1 else 0) := by
  have b := hi.it30 hj h4
  have c := (r.2 j hj h4).1
  have d := hi.kind hj
  unfold f_X2_isBlock
  rw [if_neg (by omega), if_neg (by rw [r.1]; omega), ck_pos ⟨by omega, by omega⟩, Int.toNat_natCast, c]
  by_cases q : rk g j < 2
  · rw [if_pos q, if_neg (by omega)]
  · rw [if_neg q, if_pos (by omega)]
theorem L_deep_C {M : Mem} {s : Nat} {g : Row} (hi : WFi g) (r : RSi M s g) : ∀ (k j n : Nat) (a : Int), (j : Int) + k = g 8 → k < n → f_X2_deepest_L4 s M n a (it g j : Nat) = some (dpM g k j a) := by
  intro k
  induction k with
  | zero =>
    intro j n a hj hn
    obtain ⟨n, rfl⟩ := nat_ex hn
    simp only [f_X2_deepest_L4, r.1]
    rw [show (g 8).toNat = j by omega, if_pos (by omega)]; rfl
  | succ k ih =>
    intro j n a hj hn
    show _ = some (dpM g k (j + 1) (ite _ _ _))
    by_cases h4 : rk g j = 4
    · rw [if_neg (by omega), ← it_s4 h4]
      exact ih (j + 1) n a (by omega) (by omega)
    · obtain ⟨n, rfl⟩ := nat_ex hn
      have b := hi.it30 (i := j) (by omega) h4
      have c := (r.2 j (by omega) h4).2.2.2.2
      have d := (hi.2.2.2.2 j (by omega)).1
      simp only [f_X2_deepest_L4, r.1]
      rw [if_neg (by omega), blk_ev hi r (by omega) h4, Option.bind_some]
      by_cases q : rk g j = 2 ∨ rk g j = 3
      · rw [if_pos q, if_neg (by decide), ck_pos ⟨by omega, by omega⟩, Int.toNat_natCast, c, ck_pos ⟨by omega, by omega⟩, ck_pos ⟨by omega, by omega⟩, if_pos q, show ((it g j : Nat) : Int) + 1 = (it g (j + 1) : Nat) by rw [it_s1 h4]; omega]
        exact ih (j + 1) n _ (by omega) (by omega)
      · rw [if_neg q, if_pos rfl, ck_pos ⟨by omega, by omega⟩, if_neg q, show ((it g j : Nat) : Int) + 1 = (it g (j + 1) : Nat) by rw [it_s1 h4]; omega]
        exact ih (j + 1) n _ (by omega) (by omega)
theorem deep_C {M : Mem} {s : Nat} {g : Row} (hi : WFi g) (r : RSi M s g) : f_X2_deepest s M = some (dpM g (g 8).toNat 0 0) := by
  have h8 := hi.1
  exact L_deep_C hi r (g 8).toNat 0 jFuel 0 (by omega) (jF (by omega))
theorem L_deep_R {M : Mem} (hi : WFi (M 1)) : ∀ (k j n : Nat) (a : Int), (j : Int) + k = M 1 8 → k < n → dp (M 1) j ≤ a → f_X11_deepest_L6 M n a (dp (M 1) j) (j : Int) = some (dpM (M 1) k j a) := by
  have h8 := hi.1
  intro k
  induction k with
  | zero =>
    intro j n a hj hn ha
    obtain ⟨n, rfl⟩ := nat_ex hn
    simp only [f_X11_deepest_L6, show (8 : Int).toNat = 8 from rfl]
    rw [if_pos (by omega)]; rfl
  | succ k ih =>
    intro j n a hj hn ha
    obtain ⟨n, rfl⟩ := nat_ex hn
    have d := (hi.2.2.2.2 j (by omega)).1
    have s := dp_s (M 1) j
    have e := ih (j + 1) n (max a (dp (M 1) (j + 1))) (by omega) (by omega) (by omega)
    simp only [f_X11_deepest_L6, show (8 : Int).toNat = 8 from rfl]
    rw [if_neg (by omega), r0 (by omega), Option.bind_some, opn, cls, ← s]
    have b : inR ((if rk (M 1) j = 2 ∨ rk (M 1) j = 3 then (1 : Int) else 0) - (if rk (M 1) j = 4 then 1 else 0)) := by
      constructor <;> (repeat' split) <;> omega
    have b2 : inR (dp (M 1) (j + 1)) := by
      rw [s]
      constructor <;> (repeat' split) <;> omega
    rw [ck_pos b, ck_pos b2, ck_pos ⟨by omega, by omega⟩, show (j : Int) + 1 = ((j + 1 : Nat) : Int) by omega, e]
    show some (dpM (M 1) k (j + 1) _) = some (dpM (M 1) k (j + 1) (ite _ _ _))
    by_cases q : rk (M 1) j = 2 ∨ rk (M 1) j = 3
    · rw [if_pos q] at s ⊢
      rw [if_neg (by omega)] at s
      rw [show dp (M 1) (j + 1) = dp (M 1) j + 1 by omega]
    · rw [if_neg q] at s ⊢
      rw [show max a (dp (M 1) (j + 1)) = a by split at s <;> omega]
theorem deep_R {M : Mem} (hi : WFi (M 1)) : f_X11_deepest M = some (dpM (M 1) (M 1 8).toNat 0 0) := by
  have h8 := hi.1
  exact L_deep_R hi (M 1 8).toNat 0 jFuel 0 (by omega) (jF (by omega)) (Int.le_refl 0)
/-- the largest of k from j on -/
def mxF (f : Nat → Int) : Nat → Nat → Int → Int
  | 0, _, a => a
  | k + 1, j, a => mxF f k (j + 1) (max a (f j))
theorem L_long_C {Mc : Mem} (h60 : 0 ≤ Mc 56 0 ∧ Mc 56 0 ≤ 60) : ∀ (k j n : Nat) (a : Int), (j : Int) + k = Mc 56 0 → k < n → f_X5_longest_L4 Mc n a (j : Int) = some (mxF (Mc 60) k j a) := by
  intro k
  induction k with
  | zero =>
    intro j n a hj hn
    obtain ⟨n, rfl⟩ := nat_ex hn
    simp only [f_X5_longest_L4]
    rw [if_pos (by omega)]; rfl
  | succ k ih =>
    intro j n a hj hn
    obtain ⟨n, rfl⟩ := nat_ex hn
    simp only [f_X5_longest_L4]
    rw [if_neg (by omega), ck_pos ⟨by omega, by omega⟩, ck_pos ⟨by omega, by omega⟩, Int.toNat_natCast, show (j : Int) + 1 = ((j + 1 : Nat) : Int) by omega]
    exact ih (j + 1) n _ (by omega) (by omega)
theorem L_long_R {Mc M : Mem} (p : PcsEq Mc M) : ∀ (k j n : Nat) (a : Int), (j : Int) + k = Mc 56 0 → k < n → f_X11_longest_L4 M n a (j : Int) = some (mxF (Mc 60) k j a) := by
  have h60 := p.1
  intro k
  induction k with
  | zero =>
    intro j n a hj hn
    obtain ⟨n, rfl⟩ := nat_ex hn
    simp only [f_X11_longest_L4, p.2.1]
    rw [if_pos (by omega)]; rfl
  | succ k ih =>
    intro j n a hj hn
    obtain ⟨n, rfl⟩ := nat_ex hn
    simp only [f_X11_longest_L4, p.2.1]
    rw [if_neg (by omega), ck_pos ⟨by omega, by omega⟩, ck_pos ⟨by omega, by omega⟩, Int.toNat_natCast, (p.2.2 j (by omega)).2.2.2.1, show (j : Int) + 1 = ((j + 1 : Nat) : Int) by omega]
    exact ih (j + 1) n _ (by omega) (by omega)
theorem L_ovl_C {Mc : Mem} {g : Row} (o : PcsOK Mc g) (h60 : 0 ≤ Mc 56 0 ∧ Mc 56 0 ≤ 60) : ∀ (k j n : Nat) (a : Int), (j : Int) + k = Mc 56 0 → k < n → 0 ≤ a → a ≤ 200 * (j : Int) → f_X5_allOverlaps_L4 Mc n a (j : Int) = some (a + sumF (Mc 62) k j) := by
  intro k
  induction k with
  | zero =>
    intro j n a hj hn _ _
    obtain ⟨n, rfl⟩ := nat_ex hn
    simp only [f_X5_allOverlaps_L4]
    rw [if_pos (by omega)]; simp [sumF]
  | succ k ih =>
    intro j n a hj hn h1 h2
    obtain ⟨n, rfl⟩ := nat_ex hn
    have b := o.1 j (by omega)
    simp only [f_X5_allOverlaps_L4]
    rw [if_neg (by omega), ck_pos ⟨by omega, by omega⟩, Int.toNat_natCast, ck_pos ⟨by omega, by omega⟩, ck_pos ⟨by omega, by omega⟩, show (j : Int) + 1 = ((j + 1 : Nat) : Int) by omega]
    have e := ih (j + 1) n (a + Mc 62 j) (by omega) (by omega) (by omega) (by omega)
    rw [Int.add_assoc] at e
    exact e
theorem L_ovl_R {Mc M : Mem} {g : Row} (o : PcsOK Mc g) (p : PcsEq Mc M) : ∀ (k j n : Nat) (a : Int), (j : Int) + k = Mc 56 0 → k < n → 0 ≤ a → a ≤ 200 * (j : Int) → f_X11_overlaps_L4 M n a (j : Int) = some (a + sumF (Mc 62) k j) := by
  have h60 := p.1
  intro k
  induction k with
  | zero =>
    intro j n a hj hn _ _
    obtain ⟨n, rfl⟩ := nat_ex hn
    simp only [f_X11_overlaps_L4, p.2.1]
    rw [if_pos (by omega)]; simp [sumF]
  | succ k ih =>
    intro j n a hj hn h1 h2
    obtain ⟨n, rfl⟩ := nat_ex hn
    have b := o.1 j (by omega)
    simp only [f_X11_overlaps_L4, p.2.1]
    rw [if_neg (by omega), ck_pos ⟨by omega, by omega⟩, Int.toNat_natCast, (p.2.2 j (by omega)).2.2.2.2.2, ck_pos ⟨by omega, by omega⟩, ck_pos ⟨by omega, by omega⟩, show (j : Int) + 1 = ((j + 1 : Nat) : Int) by omega]
    have e := ih (j + 1) n (a + Mc 62 j) (by omega) (by omega) (by omega) (by omega)
    rw [Int.add_assoc] at e
    exact e
/-! the end -/
theorem end_le {Mc : Mem} {g : Row} (o : PcsOK Mc g) {j : Nat} (hj : (j : Int) + 1 < Mc 56 0) : Mc 61 j + Mc 60 j ≤ Mc 61 (j + 1) + Mc 60 (j + 1) := by
  have b := o.2.2.2 j hj
  have c := (o.1 (j + 1) (by omega)).2.2.2.1
  omega
theorem L_end_R {Mc M : Mem} {g : Row} (o : PcsOK Mc g) (p : PcsEq Mc M) : ∀ (k j n : Nat) (a : Int), (j : Int) + k = Mc 56 0 → k < n → a = (if j = 0 then 0 else Mc 61 (j - 1) + Mc 60 (j - 1)) → f_X11_theEnd_L4 M n a (j : Int) = some (Mc 56 1) := by
  have h60 := p.1
  intro k
  induction k with
  | zero =>
    intro j n a hj hn ha
    obtain ⟨n, rfl⟩ := nat_ex hn
    simp only [f_X11_theEnd_L4, p.2.1]
    rw [if_pos (by omega), ha]
    by_cases z : j = 0
    · rw [if_pos z, o.2.2.1 (by omega)]
    · rw [if_neg z, (o.2.1 (by omega)).2.2, show (Mc 56 0).toNat - 1 = j - 1 by omega]
  | succ k ih =>
    intro j n a hj hn ha
    obtain ⟨n, rfl⟩ := nat_ex hn
    have b := o.1 j (by omega)
    obtain ⟨_, _, _, c4, c5, _⟩ := p.2.2 j (by omega)
    simp only [f_X11_theEnd_L4, p.2.1]
    rw [if_neg (by omega), endR (by omega) (by rw [c4, c5]; exact ⟨by omega, by omega⟩), Option.bind_some, c4, c5, ck_pos ⟨by omega, by omega⟩, show (j : Int) + 1 = ((j + 1 : Nat) : Int) by omega]
    refine ih (j + 1) n _ (by omega) (by omega) ?_
    rw [if_neg (by omega), show j + 1 - 1 = j by omega, ha]
    by_cases z : j = 0
    · rw [if_pos z]; omega
    · obtain ⟨i, rfl⟩ : ∃ i, j = i + 1 := ⟨j - 1, by omega⟩
      have e := end_le o (j := i) (by omega)
      rw [if_neg z, show i + 1 - 1 = i by omega]; omega
theorem end_R {Mc M : Mem} {g : Row} (o : PcsOK Mc g) (p : PcsEq Mc M) : f_X11_theEnd M = some (Mc 56 1) := by
  have h60 := p.1
  exact L_end_R o p (Mc 56 0).toNat 0 jFuel 0 (by omega) (jF (by omega)) rfl
theorem end_b {Mc : Mem} {g : Row} (o : PcsOK Mc g) (h60 : 0 ≤ Mc 56 0 ∧ Mc 56 0 ≤ 60) : 0 ≤ Mc 56 1 ∧ Mc 56 1 ≤ 24400 := by
  by_cases z : Mc 56 0 = 0
  · rw [o.2.2.1 z]; omega
  · have a := (o.2.1 (by omega)).2.2
    have b := o.1 ((Mc 56 0).toNat - 1) (by omega)
    omega
theorem p_reel {k : Nat} {Mc Mr : Mem} (h : Rel k Mc Mr) (p : Int) : ∃ Mc' Mr' : Mem, st_reel p Mc Mr Mc' Mr' ∧ Rel (k + 1) Mc' Mr' := by
  have hl := h.wf.1
  have hv := h.wf.2.1
  have hi := h.wf.2.2
  have r := h.rs.2.2
  by_cases hp : 0 ≤ p ∧ p ≤ 6
  · obtain ⟨M', l1, l2, l3⟩ := h.lays (M := upm Mr 0 7 0) (thr_ne _ _ (by decide))
    have o := h.pc.1
    have h60 := l3.1
    have k1 : M' 1 = Mr 1 := (l2.1 1 (by decide) (by decide)).trans (thr_ne _ _ (by decide))
    have t1 : M' 0 7 = 0 := (l2.2 7 (by decide) (by decide) (by decide)).trans (thr_at _ _)
    obtain ⟨M2, w1, w2, w3⟩ := laysW (M := M') (by rw [k1]; exact hl) (by rw [k1]; exact hv)
    rw [k1] at w1
    have eb := end_b o h60
    have wb := wEnd_b hl hv
    have s1 : Mc 64 1 = wEnd (Mr 1) := h.sp.2.1
    have c4 := deep_C hi r
    have c5 := L_long_C h60 (Mc 56 0).toNat 0 jFuel 0 (by omega) (jF (by omega))
    have c6 := L_ovl_C o h60 (Mc 56 0).toNat 0 jFuel 0 (by omega) (jF (by omega)) (by omega) (by omega)
    have d4 := deep_R (M := M') (by rw [k1]; exact hi)
    rw [k1] at d4
    have d5 := L_long_R l3 (Mc 56 0).toNat 0 jFuel 0 (by omega) (jF (by omega))
    have d6 := L_ovl_R o l3 (Mc 56 0).toNat 0 jFuel 0 (by omega) (jF (by omega)) (by omega) (by omega)
    refine ⟨Mc, if p = 2 ∨ p = 3 then M2 else M', Or.inl ⟨if p = 0 then Mc 56 0 else if p = 1 then Mc 56 1 else if p = 2 then wEnd (Mr 1) else if p = 3 then Mc 56 1 - wEnd (Mr 1) else if p = 4 then dpM (Mr 1) (Mr 1 8).toNat 0 0 else if p = 5 then mxF (Mc 60) (Mc 56 0).toNat 0 0 else 0 + sumF (Mc 62) (Mc 56 0).toNat 0, ?_, rfl, ?_, ?_⟩, h.scr keepC.rfl (keepR.thr.trans (l2.R.trans ?_)) (by omega)⟩
    · unfold f_X10_reel f_X5_longest f_X5_allOverlaps
      have c5 : f_X5_longest_L4 Mc jFuel 0 0 = _ := c5
      have c6 : f_X5_allOverlaps_L4 Mc jFuel 0 0 = _ := c6
      rw [(rR_ok hp).1, Option.bind_some, c4, c5, c6, Option.bind_some, Option.bind_some, Option.bind_some, s1, ck_pos ⟨by omega, by omega⟩]
      (repeat' split) <;> rfl
    · unfold f_X11_reel f_X11_longest f_X11_overlaps
      have d5 : f_X11_longest_L4 M' jFuel 0 0 = _ := d5
      have d6 : f_X11_overlaps_L4 M' jFuel 0 0 = _ := d6
      rw [isIn_eq, if_pos hp, Option.bind_some, goes1, Option.bind_some]
      simp only []
      rw [if_neg (by decide), l1, Option.bind_some, d4, d5, d6, end_R o l3, w1, l3.2.1]
      simp only [Option.bind_some]
      rw [ck_pos ⟨by omega, by omega⟩]
      by_cases q0 : p = 0
      · rw [if_pos q0, if_pos q0, if_neg (by omega)]
      · rw [if_neg q0, if_neg q0]
        by_cases q1 : p = 1
        · rw [if_pos q1, if_pos q1, if_neg (by omega)]
        · rw [if_neg q1, if_neg q1]
          by_cases q2 : p = 2
          · rw [if_pos q2, if_pos q2, if_pos (Or.inl q2)]
          · rw [if_neg q2, if_neg q2]
            by_cases q3 : p = 3
            · rw [if_pos q3, if_pos q3, if_pos (Or.inr q3)]
            · rw [if_neg q3, if_neg q3, if_neg (by omega : ¬ (p = 2 ∨ p = 3))]
              (repeat' split) <;> rfl
    · split
      · rw [w2 0 (by decide) (by decide)]; exact t1
      · exact t1
    · split
      · exact w2.R
      · exact keepR.rfl
  · refine ⟨Mc, upm Mr 0 7 1, Or.inr ⟨?_, 0, ?_, thr_at _ _⟩, h.scr keepC.rfl keepR.thr (by omega)⟩
    · unfold x_X10_reel
      exact x1_2 hp
    · unfold f_X11_reel
      rw [isIn_eq, if_neg hp, Option.bind_some, goes0, Option.bind_some]
      simp
