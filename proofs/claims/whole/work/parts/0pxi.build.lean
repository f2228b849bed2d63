/-! a reel built anew out of pieces of another -/
def rowOK (g : Row) (i : Nat) : Prop :=
  rk g i = 0 ∧ (0 ≤ g (127 + 4 * i) ∧ g (127 + 4 * i) < g 5) ∧ 0 ≤ g (128 + 4 * i) ∧ g (128 + 4 * i) ≤ g (129 + 4 * i) ∧ g (129 + 4 * i) < g (13 + 2 * (g (127 + 4 * i)).toNat) ∨
     rk g i = 1 ∧ (0 ≤ g (127 + 4 * i) ∧ g (127 + 4 * i) < g 6) ∧ 1 ≤ g (128 + 4 * i) ∧ g (128 + 4 * i) ≤ 400 ∨
     rk g i = 2 ∧ dp g i < 4 ∧ 1 ≤ g (127 + 4 * i) ∧ g (127 + 4 * i) ≤ 9 ∨
     rk g i = 3 ∧ dp g i < 4 ∧ 0 ≤ g (127 + 4 * i) ∧ g (127 + 4 * i) ≤ 40 ∨
     rk g i = 4 ∧ 0 < dp g i
def PWF (g : Row) (q : Nat) : Prop := ∀ i : Nat, i < q → (0 ≤ dp g i ∧ dp g i ≤ 4) ∧ rowOK g i
def PRI (C : Mem) (g : Row) (q : Nat) : Prop := C (29 + 17) 0 = (it g q : Nat) ∧ ∀ i : Nat, i < q → rk g i ≠ 4 → itm C 29 (it g i) = (rk g i, g (127 + 4 * i), rF g i, rL g i, dp g i)
def same (g g' : Row) (t q m : Nat) : Prop := ∀ i : Nat, i < 4 * m → g' (126 + 4 * q + i) = g (126 + 4 * t + i)
/-- library and voice are the same -/
def outE (g g' : Row) : Prop := ∀ i : Nat, i ≠ 8 → (i < 126 ∨ 382 ≤ i) → g' i = g i
theorem same.sub {g g' : Row} {t q m : Nat} (h : same g g' t q m) {a n : Nat} (ha : a + n ≤ m) : same g g' (t + a) (q + a) n := fun i hi => by
  have := h (4 * a + i) (by omega)
  rw [show 126 + 4 * (q + a) + i = 126 + 4 * q + (4 * a + i) by omega, show 126 + 4 * (t + a) + i = 126 + 4 * t + (4 * a + i) by omega]; exact this
theorem same.cols {g g' : Row} {t q m j : Nat} (h : same g g' t q m) (hj : j < m) : rk g' (q + j) = rk g (t + j) ∧ g' (127 + 4 * (q + j)) = g (127 + 4 * (t + j)) ∧ g' (128 + 4 * (q + j)) = g (128 + 4 * (t + j)) ∧ g' (129 + 4 * (q + j)) = g (129 + 4 * (t + j)) := by
  have h0 := h (4 * j) (by omega)
  have h1 := h (4 * j + 1) (by omega)
  have h2 := h (4 * j + 2) (by omega)
  have h3 := h (4 * j + 3) (by omega)
  refine ⟨?_, ?_, ?_, ?_⟩
  · unfold rk; rw [show 126 + 4 * (q + j) = 126 + 4 * q + 4 * j by omega, h0]; congr 1; omega
  · rw [show 127 + 4 * (q + j) = 126 + 4 * q + (4 * j + 1) by omega, h1]; congr 1; omega
  · rw [show 128 + 4 * (q + j) = 126 + 4 * q + (4 * j + 2) by omega, h2]; congr 1; omega
  · rw [show 129 + 4 * (q + j) = 126 + 4 * q + (4 * j + 3) by omega, h3]; congr 1; omega
theorem WFi.rok {g : Row} (h : WFi g) : PWF g (g 8).toNat := fun i hi => h.2.2.2.2 i (by have := h.1; omega)
theorem mul_top {g : Row} (hi : WFi g) : ∀ i : Nat, (i : Int) ≤ g 8 → ∃ L : List Int, mulS g i = L ++ [1] ∧ (L.length : Int) = dp g i := by
  intro i
  induction i with
  | zero => intro _; exact ⟨[], rfl, rfl⟩
  | succ i ih =>
    intro h
    obtain ⟨L, h1, h2⟩ := ih (by omega)
    have ds := dp_s g i
    have q := (hi.2.2.2.2 i (by omega)).2
    have d0 := (hi.2.2.2.2 i (by omega)).1
    rw [mulS]
    by_cases k2 : rk g i = 2
    · rw [if_pos k2, h1]
      exact ⟨_ :: L, rfl, by rw [List.length_cons, ds, if_pos (Or.inl k2), if_neg (by omega)]; omega⟩
    · rw [if_neg k2]
      by_cases k3 : rk g i = 3
      · rw [if_pos k3, h1]
        exact ⟨_ :: L, rfl, by rw [List.length_cons, ds, if_pos (Or.inr k3), if_neg (by omega)]; omega⟩
      · rw [if_neg k3]
        by_cases k4 : rk g i = 4
        · rw [if_pos k4, h1]
          cases L with
          | nil => rw [List.length_nil] at h2; omega
          | cons x L => exact ⟨L, rfl, by rw [ds, if_neg (by omega), if_pos k4]; rw [List.length_cons] at h2; omega⟩
        · rw [if_neg k4, h1]
          exact ⟨L, rfl, by rw [ds, if_neg (by omega), if_neg k4]; omega⟩
theorem mul_0 {g : Row} (hi : WFi g) {i : Nat} (h : (i : Int) ≤ g 8) (d : dp g i = 0) : mulS g i = [1] := by
  obtain ⟨L, h1, h2⟩ := mul_top hi i h
  cases L with
  | nil => exact h1
  | cons x L => rw [List.length_cons] at h2; omega
theorem mul_p {g : Row} (hi : WFi g) : ∀ i : Nat, (i : Int) ≤ g 8 → (∀ x ∈ mulS g i, (1 : Int) ≤ x) := by
  intro i
  induction i with
  | zero => intro _ x hx; rw [mulS, List.mem_singleton] at hx; omega
  | succ i ih =>
    intro h x hx
    have e := ih (by omega)
    have hh : 1 ≤ (mulS g i).headD 0 := by
      obtain ⟨L, h1, _⟩ := mul_top hi i (by omega)
      rw [h1] at e ⊢
      cases L with
      | nil => exact Int.le_refl _
      | cons y L => exact e y (by simp)
    have q := (hi.2.2.2.2 i (by omega)).2
    rw [mulS] at hx
    by_cases k2 : rk g i = 2
    · rw [if_pos k2, List.mem_cons] at hx
      rcases hx with u | u
      · rw [u]
        have : 1 * 1 ≤ (mulS g i).headD 0 * g (127 + 4 * i) := Int.mul_le_mul hh (by omega) (by omega) (by omega)
        omega
      · exact e x u
    · rw [if_neg k2] at hx
      by_cases k3 : rk g i = 3
      · rw [if_pos k3, List.mem_cons] at hx
        rcases hx with u | u
        · omega
        · exact e x u
      · rw [if_neg k3] at hx
        by_cases k4 : rk g i = 4
        · rw [if_pos k4] at hx
          exact e x (List.mem_of_mem_tail hx)
        · rw [if_neg k4] at hx
          exact e x hx
theorem npc_mono {g : Row} (hi : WFi g) : ∀ (k i : Nat), ((i + k : Nat) : Int) ≤ g 8 → npc g i ≤ npc g (i + k) := by
  intro k
  induction k with
  | zero => intro i _; exact Int.le_refl _
  | succ k ih =>
    intro i h
    have e := ih (i + 1) (by omega)
    rw [show i + 1 + k = i + (k + 1) by omega] at e
    have hh : 0 ≤ (mulS g i).headD 0 := by
      have e := mul_p hi i (by omega)
      obtain ⟨L, h1, _⟩ := mul_top hi i (by omega)
      rw [h1] at e ⊢
      cases L with
      | nil => decide
      | cons y L => have := e y (by simp); show (0 : Int) ≤ y; omega
    have : npc g i ≤ npc g (i + 1) := by rw [npc]; split <;> omega
    omega
theorem cat_1 {g g' : Row} {t q m : Nat} (hs : same g g' t q m) (dt : dp g' q = dp g t) (mt : mulS g' q = mulS g t) : ∀ j : Nat, j ≤ m → dp g' (q + j) = dp g (t + j) ∧ it g' (q + j) + it g t = it g' q + it g (t + j) ∧ mulS g' (q + j) = mulS g (t + j) ∧ npc g' (q + j) + npc g t = npc g' q + npc g (t + j) := by
  intro j
  induction j with
  | zero => intro _; exact ⟨dt, rfl, mt, rfl⟩
  | succ j ih =>
    intro hj
    obtain ⟨h1, h2, h3, h4⟩ := ih (by omega)
    obtain ⟨c1, c2, c3, c4⟩ := hs.cols (j := j) (by omega)
    rw [show q + (j + 1) = q + j + 1 by omega, show t + (j + 1) = t + j + 1 by omega]
    refine ⟨?_, ?_, ?_, ?_⟩
    · rw [dp, dp, c1, h1]
    · rw [it, it, c1]; omega
    · rw [mulS, mulS, c1, c2, h3]
    · rw [npc, npc, c1, h3]; omega
theorem rowOK_c {g g' : Row} (o : outE g g') (h5 : g 5 ≤ 12) {i i' : Nat} (e0 : rk g' i' = rk g i) (e1 : g' (127 + 4 * i') = g (127 + 4 * i)) (e2 : g' (128 + 4 * i') = g (128 + 4 * i)) (e3 : g' (129 + 4 * i') = g (129 + 4 * i)) (ed : dp g' i' = dp g i) (h : rowOK g i) : rowOK g' i' := by
  unfold rowOK at h ⊢
  rw [e0, e1, e2, e3, ed, o 5 (by decide) (by omega), o 6 (by decide) (by omega)]
  rcases h with w | w | w | w | w
  · rw [o (13 + 2 * (g (127 + 4 * i)).toNat) (by omega) (by omega)]; exact Or.inl w
  · exact Or.inr (Or.inl w)
  · exact Or.inr (Or.inr (Or.inl w))
  · exact Or.inr (Or.inr (Or.inr (Or.inl w)))
  · exact Or.inr (Or.inr (Or.inr (Or.inr w)))
theorem cat_wf {g g' : Row} {t q m : Nat} (o : outE g g') (h5 : g 5 ≤ 12) (hs : same g g' t q m) (dt : dp g' q = dp g t) (mt : mulS g' q = mulS g t) (w : PWF g (t + m)) (w' : PWF g' q) : PWF g' (q + m) := by
  intro i hi
  by_cases z : i < q
  · exact w' i z
  · obtain ⟨j, rfl⟩ : ∃ j, i = q + j := ⟨i - q, by omega⟩
    obtain ⟨h1, h2, h3, h4⟩ := cat_1 hs dt mt j (by omega)
    obtain ⟨c1, c2, c3, c4⟩ := hs.cols (j := j) (by omega)
    have q0 := w (t + j) (by omega)
    rw [h1]
    exact ⟨q0.1, rowOK_c o h5 c1 c2 c3 c4 h1 q0.2⟩
theorem rF_c {g g' : Row} {i i' : Nat} (e0 : rk g' i' = rk g i) (e2 : g' (128 + 4 * i') = g (128 + 4 * i)) : rF g' i' = rF g i := by unfold rF; rw [e0, e2]
theorem rL_c {g g' : Row} {i i' : Nat} (e0 : rk g' i' = rk g i) (e2 : g' (128 + 4 * i') = g (128 + 4 * i)) (e3 : g' (129 + 4 * i') = g (129 + 4 * i)) : rL g' i' = rL g i := by unfold rL; rw [e0, e2, e3]
/-- the draft so far -/
def Bt (C : Mem) (g' : Row) (q : Nat) : Prop := dp g' q = 0 ∧ mulS g' q = [1] ∧ PRI C g' q
theorem bt_top {C : Mem} {g g' : Row} {q t u e : Nat} (hi : WFi g) (r : RSi C 5 g) (b : Bt C g' q) (ht : (t : Int) ≤ g 8) (dt : dp g t = 0) (hu : (u : Int) ≤ g 8) (du : dp g u = 0) (htu : t ≤ u) (et : tops g u 0 0 = tops g t 0 0 + 1) (hs : same g g' t q (u - t)) (he : q + (u - t) ≤ e) (h30 : it g' e ≤ 30) :
    ∃ C' : Mem, f_X2_addTop 29 5 (tops g t 0 0) C = some C' ∧ Bt C' g' (q + (u - t)) ∧ ∀ c : Nat, c < 29 + 17 ∨ 29 + 22 < c → C' c = C c := by
  obtain ⟨b1, b2, b3, b4⟩ := b
  have cc := cat_1 hs (b1.trans dt.symm) (b2.trans (mul_0 hi ht dt).symm)
  obtain ⟨h1, h2, h3, h4⟩ := cc (u - t) (Nat.le_refl _)
  rw [show t + (u - t) = u by omega] at h1 h2 h3 h4
  have im := it_mono g' (e - (q + (u - t))) (q + (u - t))
  rw [show q + (u - t) + (e - (q + (u - t))) = e by omega] at im
  have im2 := it_mono g (u - t) t
  rw [show t + (u - t) = u by omega] at im2
  obtain ⟨C', a1, a2, a3, a4, a5⟩ := addTop_C hi r ht dt hu du htu et b3 (by omega)
  refine ⟨C', a1, ⟨by rw [h1]; exact du, by rw [h3]; exact mul_0 hi hu du, by rw [a2]; congr 1; omega, fun i hi' h4' => ?_⟩, a3⟩
  by_cases z : i < q
  · have := it_lt z h4'
    rw [a5 (it g' i) this]; exact b4 i z h4'
  · obtain ⟨j, rfl⟩ : ∃ j, i = q + j := ⟨i - q, by omega⟩
    obtain ⟨c1, c2, c3, c4⟩ := hs.cols (j := j) (by omega)
    obtain ⟨g1, g2, g3, g4⟩ := cc j (by omega)
    rw [c1] at h4'
    have l1 := it_lt (g := g) (show t + j < u by omega) h4'
    have l2 := it_mono g j t
    have := a4 (it g (t + j) - it g t) (by omega)
    rw [show it g' (q + j) = it g' q + (it g (t + j) - it g t) by omega, this, show it g t + (it g (t + j) - it g t) = it g (t + j) by omega, c1, c2, rF_c c1 c3, rL_c c1 c3 c4, g1]
    obtain ⟨r1, r2, r3, r4, r5⟩ := r.2 (t + j) (by omega) h4'
    unfold itm
    rw [r1, r2, r3, r4, r5]
/-! tops by their numbers -/
theorem top_uniq {g : Row} (hi : WFi g) {r1 r2 : Nat} (h1 : (r1 : Int) ≤ g 8) (d1 : dp g r1 = 0) (h2 : (r2 : Int) ≤ g 8) (d2 : dp g r2 = 0) (e : r1 < r2) : tops g r1 0 0 + 1 ≤ tops g r2 0 0 := by
  have h4 : rk g r1 ≠ 4 := by
    intro q
    have := (hi.2.2.2.2 r1 (by omega)).2
    omega
  have t1 := tops_1 (g := g) (j := r1)
  rw [if_pos ⟨h4, d1⟩] at t1
  have c := tops_cat g (r1 + 1) (r2 - (r1 + 1)) 0
  rw [show r1 + 1 + (r2 - (r1 + 1)) = r2 by omega] at c
  have := (tops_b g (r2 - (r1 + 1)) (0 + (r1 + 1)) 0).1
  omega
def isTop (g : Row) (x r : Nat) : Prop := (r : Int) ≤ g 8 ∧ dp g r = 0 ∧ tops g r 0 0 = (x : Int)
noncomputable def tR (g : Row) (x : Nat) : Nat := Classical.epsilon (isTop g x)
noncomputable def nTp (g : Row) : Nat := (tops g (g 8).toNat 0 0).toNat
theorem nTp_e (g : Row) : tops g (g 8).toNat 0 0 = (nTp g : Int) := by
  have := (tops_b g (g 8).toNat 0 0).1
  unfold nTp; omega
theorem tR_s {g : Row} (hi : WFi g) {x : Nat} (hx : x ≤ nTp g) : isTop g x (tR g x) := by
  apply Classical.epsilon_spec
  have e := nTp_e g
  obtain ⟨r, _, r1, r2, r3⟩ := rowOf_R (M := fun c => if c = 1 then g else fun _ => 0) (x := (x : Int)) hi (by show 0 ≤ (x : Int) ∧ (x : Int) ≤ tops g (g 8).toNat 0 0; omega)
  exact ⟨r, r1, r2, r3⟩
theorem isTop.uniq {g : Row} (hi : WFi g) {x r : Nat} (hx : x ≤ nTp g) (h : isTop g x r) : tR g x = r := by
  obtain ⟨a1, a2, a3⟩ := tR_s hi hx
  obtain ⟨b1, b2, b3⟩ := h
  apply Decidable.byContradiction
  intro z
  rcases Nat.lt_or_gt_of_ne z with y | y
  · have := top_uniq hi a1 a2 b1 b2 y; omega
  · have := top_uniq hi b1 b2 a1 a2 y; omega
theorem tR_0 {g : Row} (hi : WFi g) : tR g 0 = 0 := isTop.uniq hi (Nat.zero_le _) ⟨by have := hi.1; omega, rfl, rfl⟩
theorem tR_n {g : Row} (hi : WFi g) : tR g (nTp g) = (g 8).toNat := isTop.uniq hi (Nat.le_refl _) ⟨by have := hi.1; omega, hi.2.1, nTp_e g⟩
theorem tR_lt {g : Row} (hi : WFi g) {x y : Nat} (h : x < y) (hy : y ≤ nTp g) : tR g x < tR g y := by
  obtain ⟨a1, a2, a3⟩ := tR_s hi (show x ≤ nTp g by omega)
  obtain ⟨b1, b2, b3⟩ := tR_s hi hy
  apply Decidable.byContradiction
  intro z
  by_cases y' : tR g y = tR g x
  · rw [y'] at b3; omega
  · have := top_uniq hi b1 b2 a1 a2 (by omega); omega
theorem tR_le {g : Row} (hi : WFi g) {x y : Nat} (h : x ≤ y) (hy : y ≤ nTp g) : tR g x ≤ tR g y := by
  by_cases z : x = y
  · rw [z]; exact Nat.le_refl _
  · exact Nat.le_of_lt (tR_lt hi (by omega) hy)
/-- one top more -/
theorem bt_x {C : Mem} {g g' : Row} {q x e : Nat} (hi : WFi g) (r : RSi C 5 g) (b : Bt C g' q) (hx : x < nTp g) (hs : same g g' (tR g x) q (tR g (x + 1) - tR g x)) (he : q + (tR g (x + 1) - tR g x) ≤ e) (h30 : it g' e ≤ 30) :
    ∃ C' : Mem, f_X2_addTop 29 5 (x : Int) C = some C' ∧ Bt C' g' (q + (tR g (x + 1) - tR g x)) ∧ ∀ c : Nat, c < 29 + 17 ∨ 29 + 22 < c → C' c = C c := by
  obtain ⟨a1, a2, a3⟩ := tR_s hi (show x ≤ nTp g by omega)
  obtain ⟨b1, b2, b3⟩ := tR_s hi (show x + 1 ≤ nTp g by omega)
  have l := tR_lt hi (show x < x + 1 by omega) (by omega)
  have := bt_top hi r b a1 a2 b1 b2 (by omega) (by rw [a3, b3]; omega) hs he h30
  rw [a3] at this
  exact this
