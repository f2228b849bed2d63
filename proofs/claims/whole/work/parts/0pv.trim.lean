/-! trim -/
/-- nothing but a row's own frames changed (the columns 128 and 129 of row t) -/
def chg (g g' : Row) (t : Nat) : Prop := ∀ i : Nat, i ≠ 128 + 4 * t → i ≠ 129 + 4 * t → g' i = g i
theorem chg_rk {g g' : Row} {t : Nat} (h : chg g g' t) (i : Nat) : rk g' i = rk g i := h _ (by omega) (by omega)
theorem chg_num {g g' : Row} {t : Nat} (h : chg g g' t) (i : Nat) : g' (127 + 4 * i) = g (127 + 4 * i) := h _ (by omega) (by omega)
theorem chg_dp {g g' : Row} {t : Nat} (h : chg g g' t) : ∀ i : Nat, dp g' i = dp g i := by
  intro i
  induction i with
  | zero => rfl
  | succ i ih => show dp g' i + ite _ _ _ = dp g i + ite _ _ _; rw [chg_rk h, ih]
theorem chg_it {g g' : Row} {t : Nat} (h : chg g g' t) : ∀ i : Nat, it g' i = it g i := by
  intro i
  induction i with
  | zero => rfl
  | succ i ih => show it g' i + ite _ _ _ = it g i + ite _ _ _; rw [chg_rk h, ih]
theorem chg_mul {g g' : Row} {t : Nat} (h : chg g g' t) : ∀ i : Nat, mulS g' i = mulS g i := by
  intro i
  induction i with
  | zero => rfl
  | succ i ih => rw [mulS, mulS, chg_rk h, chg_num h, ih]
theorem chg_npc {g g' : Row} {t : Nat} (h : chg g g' t) : ∀ i : Nat, npc g' i = npc g i := by
  intro i
  induction i with
  | zero => rfl
  | succ i ih => rw [npc, npc, chg_rk h, chg_mul h, ih]
theorem WFi.t60 {g : Row} (h : WFi g) {t : Nat} (ht : (t : Int) < g 8) : t < 60 := by have := h.1; omega
/-- library and voice lie elsewhere -/
theorem WFlv_chg {g g' : Row} {t : Nat} (h : chg g g' t) (ht : t < 60) (hl : WFl g) (hv : WFv g) : WFl g' ∧ WFv g' := by
  have e : ∀ i : Nat, i < 126 ∨ 366 ≤ i → g' i = g i := fun i hi => h i (by omega) (by omega)
  obtain ⟨a0, a1, a2, a3, a4, a5, a6, a7, a8, a9, a10, a11⟩ := hl
  refine ⟨?_, ?_⟩
  · unfold WFl
    rw [e 0 (by omega), e 1 (by omega), e 2 (by omega), e 3 (by omega), e 4 (by omega), e 5 (by omega), e 6 (by omega), e 7 (by omega)]
    refine ⟨a0, a1, a2, a3, a4, a5, a6, a7, fun i hi => ?_, fun i hi => ?_, fun i hi => ?_, fun i j h1 h2 h3 => a11 i j h1 h2 ?_⟩
    · rw [e _ (by omega), e _ (by omega)]; exact a8 i hi
    · have q := a9 i hi
      rw [e (36 + 10 * i) (by omega)]
      refine ⟨q.1, fun t ht => ?_⟩
      rw [e _ (by omega)]; exact q.2 t ht
    · rw [e (96 + 3 * i) (by omega), e (97 + 3 * i) (by omega), e (98 + 3 * i) (by omega)]; exact a10 i hi
    · have q := (a9 i (by omega)).1
      unfold nmSame at h3 ⊢
      rw [e (36 + 10 * i) (by omega), e (36 + 10 * j) (by omega)] at h3
      refine ⟨h3.1, fun t ht => ?_⟩
      have := h3.2 t ht
      rw [e _ (by omega), e _ (by omega)] at this; exact this
  · obtain ⟨b9, b10, b1, b2, b3, b4⟩ := hv
    unfold WFv
    rw [e 9 (by omega), e 10 (by omega)]
    refine ⟨b9, b10, fun i hi => ?_, fun i hi => ?_, fun q => ?_, fun i hi => ?_⟩
    · rw [e (382 + 3 * i) (by omega), e (383 + 3 * i) (by omega), e (384 + 3 * i) (by omega)]; exact b1 i hi
    · rw [e _ (by omega)]; exact b2 i hi
    · rw [e _ (by omega)]; exact b3 q
    · rw [e (385 + 3 * i) (by omega), e (382 + 3 * i) (by omega), e (383 + 3 * i) (by omega)]; exact b4 i hi
theorem syl_chg {g g' : Row} {t : Nat} (h : chg g g' t) (ht : t < 60) (i : Nat) : syl g' i = syl g i := by
  have e : ∀ i : Nat, i < 126 ∨ 366 ≤ i → g' i = g i := fun i hi => h i (by omega) (by omega)
  unfold syl
  have : wLet g' i = wLet g i := by
    funext u
    unfold wLet wFrom
    rw [e (382 + 3 * i) (by omega), e _ (by omega)]
  rw [this, e (383 + 3 * i) (by omega)]
theorem RSlv_chg {M : Mem} {s : Nat} {g g' : Row} {t : Nat} (h : chg g g' t) (ht : t < 60) (hl : WFl g) (hv : WFv g) (rl : RSl M s g) (rv : RSv M s g) : RSl M s g' ∧ RSv M s g' := by
  have e : ∀ i : Nat, i < 126 ∨ 366 ≤ i → g' i = g i := fun i hi => h i (by omega) (by omega)
  obtain ⟨a1, a2, a3, a4, a5, a6, a7⟩ := rl
  obtain ⟨b1, b2, b3, b4⟩ := rv
  have h5 := hl.2.2.2.2.2.1
  have h6 := hl.2.2.2.2.2.2.1
  have h7 := hl.2.2.2.2.2.2.2.1
  refine ⟨⟨?_, ?_, ?_, ?_, ?_, ?_, ?_⟩, ?_, ?_, ?_, ?_⟩
  · rw [e 5 (by omega)]; exact a1
  · rw [e 6 (by omega)]; exact a2
  · rw [e 7 (by omega)]; exact a3
  · rw [e 5 (by omega)]
    intro i hi
    rw [e (12 + 2 * i) (by omega), e (13 + 2 * i) (by omega)]; exact a4 i hi
  · rw [e 6 (by omega)]
    intro i hi
    have q := (hl.2.2.2.2.2.2.2.2.2.1 i hi).1
    rw [e (36 + 10 * i) (by omega)]
    refine ⟨(a5 i hi).1, fun u hu => ?_⟩
    rw [e _ (by omega)]; exact (a5 i hi).2 u hu
  · rw [e 7 (by omega)]
    intro i hi
    rw [e (96 + 3 * i) (by omega), e (97 + 3 * i) (by omega), e (98 + 3 * i) (by omega)]; exact a6 i hi
  · intro i hi
    rw [e i (by omega)]; exact a7 i hi
  · rw [e 9 (by omega)]; exact b1
  · rw [e 10 (by omega)]; exact b2
  · rw [e 9 (by omega)]
    intro i hi
    rw [e (382 + 3 * i) (by omega), e (383 + 3 * i) (by omega), e (384 + 3 * i) (by omega), syl_chg h ht]; exact b3 i hi
  · rw [e 10 (by omega)]
    intro i hi
    rw [e _ (by omega)]; exact b4 i hi
theorem it_inj {g : Row} {i j : Nat} (hi : rk g i ≠ 4) (hj : rk g j ≠ 4) (e : it g i = it g j) : i = j := by
  apply Decidable.byContradiction
  intro c
  rcases Nat.lt_or_gt_of_ne c with q | q
  · have := it_lt q hi; omega
  · have := it_lt q hj; omega
/-- a row's last frame (a piece) or its frames (a map) made smaller -/
def shr (g : Row) (t : Nat) (x : Int) : Row := updr g ((if rk g t = 0 then 129 else 128) + 4 * t) (g ((if rk g t = 0 then 129 else 128) + 4 * t) - x)
theorem shr_chg (g : Row) (t : Nat) (x : Int) : chg g (shr g t x) t := fun i h1 h2 => updr_ne (by split <;> omega)
theorem shr_rF (g : Row) (t : Nat) (x : Int) (i : Nat) : rF (shr g t x) i = rF g i := by
  unfold rF
  rw [chg_rk (shr_chg g t x)]
  by_cases c : rk g i = 0
  · rw [if_pos c, if_pos c]
    unfold shr
    rw [updr_ap]
    by_cases z : i = t
    · rw [if_neg (by rw [← z, if_pos c]; omega)]
    · rw [if_neg (by split <;> omega)]
  · rw [if_neg c, if_neg c]
theorem shr_rL (g : Row) (t : Nat) (x : Int) (ht : rk g t = 0 ∨ rk g t = 1) (i : Nat) : rL (shr g t x) i = if i = t then rL g i - x else rL g i := by
  unfold rL
  rw [chg_rk (shr_chg g t x)]
  unfold shr
  rw [updr_ap, updr_ap]
  by_cases z : i = t
  · subst z
    rw [if_pos rfl]
    rcases ht with c | c
    · rw [if_pos c, if_pos c, if_pos c, if_pos rfl]
    · have n0 : ¬ rk g i = 0 := by omega
      rw [if_neg n0, if_neg n0, if_pos c, if_pos c, if_pos rfl]; omega
  · rw [if_neg z]
    rw [if_neg (show ¬ (129 + 4 * i = (if rk g t = 0 then 129 else 128) + 4 * t) by split <;> omega), if_neg (show ¬ (128 + 4 * i = (if rk g t = 0 then 129 else 128) + 4 * t) by split <;> omega)]
theorem shr_RS {M : Mem} {g : Row} {t : Nat} {x : Int} (w : WF g) (ht : (t : Int) < g 8) (hk : rk g t = 0 ∨ rk g t = 1) (r : RS M 5 g) : RS (upm M (5 + 21) (it g t) (M (5 + 21) (it g t) - x)) 5 (shr g t x) := by
  have h := shr_chg g t x
  have e8 : shr g t x 8 = g 8 := h 8 (by omega) (by omega)
  have t60 := w.2.2.t60 ht
  obtain ⟨q1, q2⟩ := RSlv_chg h t60 w.1 w.2.1 r.1 r.2.1
  refine ⟨q1.eqv (fun j _ _ => upm_ne (by omega)), q2.eqv (fun j _ _ => upm_ne (by omega)), ?_, ?_⟩
  · rw [upm_ne (by decide), e8, chg_it h]; exact r.2.2.1
  · rw [e8]
    intro i hi h4
    rw [chg_rk h] at h4 ⊢
    obtain ⟨c1, c2, c3, c4, c5⟩ := r.2.2.2 i hi h4
    rw [chg_it h, chg_num h, chg_dp h, shr_rF, shr_rL g t x hk, upm_ne (b := 5 + 18) (by decide), upm_ne (b := 5 + 19) (by decide), upm_ne (b := 5 + 20) (by decide), upm_ne (b := 5 + 22) (by decide), upm_row, updr_ap]
    refine ⟨c1, c2, c3, ?_, c5⟩
    by_cases z : i = t
    · rw [if_pos z, if_pos (by rw [z]), ← z, c4]
    · rw [if_neg z, if_neg (fun q => z (it_inj h4 (by omega) q)), c4]
theorem shr_WF {g : Row} {t : Nat} {x : Int} (w : WF g) (ht : (t : Int) < g 8) (hk : rk g t = 0 ∨ rk g t = 1) (hx : 1 ≤ x ∧ 1 ≤ rL g t - rF g t + 1 - x) : WF (shr g t x) := by
  have h := shr_chg g t x
  have t60 := w.2.2.t60 ht
  obtain ⟨q1, q2⟩ := WFlv_chg h t60 w.1 w.2.1
  obtain ⟨a8, a1, a2, a3, a4⟩ := w.2.2
  have h5 := w.1.2.2.2.2.2.1
  refine ⟨q1, q2, ?_⟩
  unfold WFi
  rw [h 8 (by omega) (by omega), h 5 (by omega) (by omega), h 6 (by omega) (by omega), chg_dp h, chg_it h, chg_npc h]
  refine ⟨a8, a1, a2, a3, fun i hi => ?_⟩
  have q := a4 i hi
  have e128 : shr g t x (128 + 4 * i) = if 128 + 4 * i = (if rk g t = 0 then 129 else 128) + 4 * t then g ((if rk g t = 0 then 129 else 128) + 4 * t) - x else g (128 + 4 * i) := rfl
  have e129 : shr g t x (129 + 4 * i) = if 129 + 4 * i = (if rk g t = 0 then 129 else 128) + 4 * t then g ((if rk g t = 0 then 129 else 128) + 4 * t) - x else g (129 + 4 * i) := rfl
  rw [chg_rk h, chg_dp h, chg_num h]
  refine ⟨q.1, ?_⟩
  by_cases z : i = t
  · subst z
    unfold rL rF at hx
    rcases hk with c | c
    · rw [if_pos c, if_pos c] at hx
      rw [if_pos c] at e128 e129
      rw [if_neg (by omega)] at e128
      rw [if_pos rfl] at e129
      rw [e128, e129]
      rcases q.2 with w | w | w | w | w
      · rw [h (13 + 2 * (g (127 + 4 * i)).toNat) (by omega) (by omega)]
        exact Or.inl ⟨w.1, w.2.1, w.2.2.1, by omega, by omega⟩
      all_goals omega
    · have n0 : ¬ rk g i = 0 := by omega
      rw [if_neg n0, if_pos c, if_neg n0] at hx
      rw [if_neg n0] at e128 e129
      rw [if_pos rfl] at e128
      rw [if_neg (by omega)] at e129
      rw [e128, e129]
      rcases q.2 with w | w | w | w | w
      · omega
      · exact Or.inr (Or.inl ⟨w.1, w.2.1, by omega, by omega⟩)
      all_goals omega
  · rw [if_neg (by split <;> omega)] at e128 e129
    rw [e128, e129]
    rcases q.2 with w | w | w | w | w
    · rw [h (13 + 2 * (g (127 + 4 * i)).toNat) (by omega) (by omega)]; exact Or.inl w
    · exact Or.inr (Or.inl w)
    · exact Or.inr (Or.inr (Or.inl w))
    · exact Or.inr (Or.inr (Or.inr (Or.inl w)))
    · exact Or.inr (Or.inr (Or.inr (Or.inr w)))
