/-! the choice of shots -/
theorem sumF_congr {f f' : Nat → Int} : ∀ (k j : Nat), (∀ i : Nat, j ≤ i → i < j + k → f i = f' i) → sumF f k j = sumF f' k j := by
  intro k
  induction k with
  | zero => intro j _; rfl
  | succ k ih =>
    intro j h
    show f j + sumF f k (j + 1) = f' j + sumF f' k (j + 1)
    rw [h j (by omega) (by omega), ih (j + 1) (fun i h1 h2 => h i (by omega) (by omega))]
theorem sumF_one {f f' : Nat → Int} {t : Nat} {d : Int} (ht : f' t = f t + d) (ho : ∀ i : Nat, i ≠ t → f' i = f i) : ∀ (k j : Nat), j ≤ t → t < j + k → sumF f' k j = sumF f k j + d := by
  intro k
  induction k with
  | zero => intro j h1 h2; omega
  | succ k ih =>
    intro j h1 h2
    show f' j + sumF f' k (j + 1) = f j + sumF f k (j + 1) + d
    by_cases z : j = t
    · rw [z, ht, sumF_congr k (t + 1) (fun i q1 q2 => ho i (by omega))]; omega
    · rw [ho j z, ih (j + 1) (by omega) (by omega)]; omega
def sm (g : Row) (x : Nat) : Int := sumF (fun i => if x.testBit i = true then g (13 + 2 * i) else 0) 12 0
theorem sm_0 (g : Row) : sm g 0 = 0 := by
  unfold sm
  rw [sumF_congr (f' := fun _ => 0) 12 0 (fun i _ _ => by rw [Nat.zero_testBit]; rfl)]; rfl
theorem sm_top (g : Row) {x j : Nat} (hx : x < 2 ^ j) (hj : j < 12) : sm g (2 ^ j + x) = sm g x + g (13 + 2 * j) := by
  unfold sm
  apply sumF_one (t := j) _ _ 12 0 (by omega) (by omega)
  · show (if (2 ^ j + x).testBit j = true then g (13 + 2 * j) else 0) = (if x.testBit j = true then g (13 + 2 * j) else 0) + g (13 + 2 * j)
    rw [Nat.add_comm, tb_top hx, if_pos rfl, if_pos rfl, Nat.testBit_lt_two_pow hx]; simp
  · intro i hi
    show (if (2 ^ j + x).testBit i = true then g (13 + 2 * i) else 0) = (if x.testBit i = true then g (13 + 2 * i) else 0)
    rw [Nat.add_comm, tb_top hx, if_neg hi]
theorem sm_b {g : Row} (hl : WFl g) {x : Nat} (hx : x < 2 ^ (g 5).toNat) : 0 ≤ sm g x ∧ sm g x ≤ 4800 := by
  have h5 := hl.2.2.2.2.2.1
  have := sumF_b (f := fun i => if x.testBit i = true then g (13 + 2 * i) else 0) (B := 400) 12 0 (fun i _ _ => by
    show 0 ≤ ite _ _ _ ∧ ite _ _ _ ≤ _
    by_cases c : x.testBit i = true
    · rw [if_pos c]
      have hi : i < (g 5).toNat := by
        apply Decidable.byContradiction
        intro w
        rw [Nat.testBit_lt_two_pow (Nat.lt_of_lt_of_le hx (Nat.pow_le_pow_right (by omega) (by omega)))] at c
        cases c
      have := hl.2.2.2.2.2.2.2.2.1 i (by omega)
      omega
    · rw [if_neg c]; omega)
  unfold sm
  exact ⟨this.1, by omega⟩
theorem pow_12 {n j : Nat} (h : n ≤ 12) (hj : j ≤ n) : 2 ^ j ≤ 2 ^ n ∧ 2 ^ n ≤ 4096 ∧ 0 < 2 ^ j :=
  ⟨Nat.pow_le_pow_right (by omega) hj, by show 2 ^ n ≤ 2 ^ 12; exact Nat.pow_le_pow_right (by omega) h, Nat.two_pow_pos j⟩
theorem sm_tot {g : Row} (hl : WFl g) {x j : Nat} (hx : x < 2 ^ j) (hj : (j : Int) < g 5) : inR (sm g x + g (13 + 2 * j)) := by
  have h5 := hl.2.2.2.2.2.1
  have p := pow_12 (n := (g 5).toNat) (j := j) (by omega) (by omega)
  have := sm_b hl (x := x) (by omega)
  have := hl.2.2.2.2.2.2.2.2.1 j hj
  exact ⟨by omega, by omega⟩
/-- only the sums changed -/
def keepS (M M' : Mem) : Prop := ∀ c : Nat, c ≠ 21 → M' c = M c
theorem keepS.R {M M' : Mem} (h : keepS M M') : keepR M M' := by
  refine ⟨fun c hc => h c (by omega), ?_, ?_, ?_, ?_, ?_⟩ <;> rw [h 0 (by decide)]
theorem L_sums_in {M0 : Mem} (hl : WFl (M0 1)) {j : Nat} (hj : (j : Int) < M0 1 5) (SELF : Int → Mem → Option Mem) : ∀ (k t n : Nat) (M : Mem), t + k = 2 ^ j → k < n → keepS M0 M → (∀ m : Nat, m < 2 ^ j + t → M 21 m = sm (M0 1) m) →
    ∃ M' : Mem, f_X11_laysSums_L25 SELF (j : Int) ((2 ^ j : Nat) : Int) n (t : Int) M = SELF ((j + 1 : Nat) : Int) M' ∧ keepS M0 M' ∧ ∀ m : Nat, m < 2 ^ (j + 1) → M' 21 m = sm (M0 1) m := by
  have h5 := hl.2.2.2.2.2.1
  have p := pow_12 (n := 12) (j := j) (by omega) (by omega)
  have p1 := pow_12 (n := 12) (j := j + 1) (by omega) (by omega)
  have p2 : 2 ^ (j + 1) = 2 ^ j * 2 := Nat.pow_succ 2 j
  intro k
  induction k with
  | zero =>
    intro t n M ht hn hk hm
    obtain ⟨n, rfl⟩ := nat_ex hn
    refine ⟨M, ?_, hk, fun m h => hm m (by omega)⟩
    simp only [f_X11_laysSums_L25]
    rw [if_pos (by omega), ck_pos ⟨by omega, by omega⟩, show (j : Int) + 1 = ((j + 1 : Nat) : Int) by omega]
  | succ k ih =>
    intro t n M ht hn hk hm
    obtain ⟨n, rfl⟩ := nat_ex hn
    have k1 := hk 1 (by decide)
    have st := sm_top (M0 1) (x := t) (j := j) (by omega) (by omega)
    have bt := sm_tot hl (x := t) (by omega) hj
    obtain ⟨M', e1, e2, e3⟩ := ih (t + 1) n (upm M 21 (2 ^ j + t) (sm (M0 1) (2 ^ j + t))) (by omega) (by omega) (fun c hc => by rw [upm_ne hc]; exact hk c hc) (fun m h => by
      rw [upm_row, updr_ap]
      by_cases z : m = 2 ^ j + t
      · rw [if_pos z, z]
      · rw [if_neg z]; exact hm m (by omega))
    refine ⟨M', ?_, e2, e3⟩
    simp only [f_X11_laysSums_L25]
    rw [if_neg (by omega), ck_pos ⟨by omega, by omega⟩, ck_pos ⟨by omega, by omega⟩, len_ev (by omega), Option.bind_some, Int.toNat_natCast, hm t (by omega), k1, ck_pos bt, ck_pos ⟨by omega, by omega⟩, lt_eq, ck_pos ⟨by omega, by omega⟩, show (((2 ^ j : Nat) : Int) + (t : Int)).toNat = 2 ^ j + t by omega, ← st, show (t : Int) + 1 = ((t + 1 : Nat) : Int) by omega]
    exact e1
theorem L_sums_out {M0 : Mem} (hl : WFl (M0 1)) : ∀ (k j n : Nat) (M : Mem), (j : Int) + k = M0 1 5 → k < n → keepS M0 M → (∀ m : Nat, m < 2 ^ j → M 21 m = sm (M0 1) m) →
    ∃ M' : Mem, f_X11_laysSums_L9 n (j : Int) M = some M' ∧ keepS M0 M' ∧ ∀ m : Nat, m < 2 ^ (M0 1 5).toNat → M' 21 m = sm (M0 1) m := by
  have h5 := hl.2.2.2.2.2.1
  intro k
  induction k with
  | zero =>
    intro j n M hj hn hk hm
    obtain ⟨n, rfl⟩ := nat_ex hn
    refine ⟨M, ?_, hk, by rw [show (M0 1 5).toNat = j by omega]; exact hm⟩
    simp only [f_X11_laysSums_L9, show (5 : Int).toNat = 5 from rfl]
    rw [hk 1 (by decide), if_pos (by omega)]
  | succ k ih =>
    intro j n M hj hn hk hm
    obtain ⟨n, rfl⟩ := nat_ex hn
    have p := pow_12 (n := 12) (j := j) (by omega) (by omega)
    obtain ⟨M1, e1, e2, e3⟩ := L_sums_in hl (j := j) (by omega) (f_X11_laysSums_L9 n) (2 ^ j) 0 jFuel M (by omega) (jF (by omega)) hk (fun m h => hm m (by omega))
    obtain ⟨M', a1, a2, a3⟩ := ih (j + 1) n M1 (by omega) (by omega) e2 e3
    refine ⟨M', ?_, a2, a3⟩
    simp only [f_X11_laysSums_L9, show (5 : Int).toNat = 5 from rfl]
    rw [hk 1 (by decide), if_neg (by omega), ishl_1 j (by omega)]
    exact e1.trans a1
theorem sums_R {M : Mem} (hl : WFl (M 1)) : ∃ M' : Mem, f_X11_laysSums M = some M' ∧ keepS M M' ∧ ∀ m : Nat, m < 2 ^ (M 1 5).toNat → M' 21 m = sm (M 1) m := by
  have h5 := hl.2.2.2.2.2.1
  unfold f_X11_laysSums
  rw [lt_eq]
  exact L_sums_out hl (M 1 5).toNat 0 jFuel _ (by omega) (jF (by omega)) (fun c hc => by rw [upm_ne hc]) (fun m h => by
    rw [show m = 0 by simpa using h, upm_row, updr_ap, sm_0]; rfl)
/-- which masks may be chosen, and the best of those below a number -/
def okM (g : Row) (al : Nat) (e : Int) (m : Nat) : Prop := m ≠ 0 ∧ (∀ i : Nat, i < 12 → m.testBit i = true → al.testBit i = true) ∧ 0 ≤ sm g m - e ∧ g 3 ≤ g (13 + 2 * m.log2) - (sm g m - e)
def bet (g : Row) (e : Int) (m : Nat) (s : Nat × Int) : Prop := s.1 = 0 ∨ sm g m - e < s.2 ∨ (sm g m - e = s.2 ∧ pop 12 m < pop 12 s.1)
noncomputable def bst (g : Row) (al : Nat) (e : Int) : Nat → Nat × Int
  | 0 => (0, 0)
  | m + 1 => @ite _ (okM g al e m ∧ bet g e m (bst g al e m)) (Classical.propDecidable _) (m, sm g m - e) (bst g al e m)
theorem bst_y {g : Row} {al : Nat} {e : Int} {m : Nat} (h : okM g al e m) (h2 : bet g e m (bst g al e m)) : bst g al e (m + 1) = (m, sm g m - e) := by
  unfold bst; rw [if_pos ⟨h, h2⟩]
theorem bst_n {g : Row} {al : Nat} {e : Int} {m : Nat} (h : ¬ (okM g al e m ∧ bet g e m (bst g al e m))) : bst g al e (m + 1) = bst g al e m := by
  rw [bst, if_neg h]
theorem bst_1 (g : Row) (al : Nat) (e : Int) : bst g al e 1 = (0, 0) := bst_n (fun h => h.1.1 rfl)
theorem bst_lt (g : Row) (al : Nat) (e : Int) : ∀ m : Nat, (bst g al e (m + 1)).1 ≤ m := by
  intro m
  induction m with
  | zero => rw [bst_1]; exact Nat.le_refl 0
  | succ m ih =>
    by_cases c : okM g al e (m + 1) ∧ bet g e (m + 1) (bst g al e (m + 1))
    · rw [bst_y c.1 c.2]; exact Nat.le_refl _
    · rw [bst_n c]; omega
theorem log_top {t j : Nat} (h : t < 2 ^ j) : (2 ^ j + t).log2 = j := by
  have p2 : 2 ^ (j + 1) = 2 ^ j * 2 := Nat.pow_succ 2 j
  have p := Nat.two_pow_pos j
  have a := (Nat.le_log2 (n := 2 ^ j + t) (k := j) (by omega)).2 (by omega)
  have b := (Nat.log2_lt (n := 2 ^ j + t) (k := j + 1) (by omega)).2 (by omega)
  omega
/-- the class's choice -/
def clS (M : Mem) (s : Nat × Int) : Prop := if s.1 = 0 then M 71 0 = -1 ∧ M 71 1 = -1 ∧ M 71 2 = -1 else M 71 0 = (s.1 : Nat) ∧ M 71 1 = s.2 ∧ M 71 2 = (pop 12 s.1 : Nat)
theorem compare_C {M : Mem} {g : Row} {e : Int} {m : Nat} {s : Nat × Int} (hm : m < 4096) (hm0 : m ≠ 0) (h : clS M s) : ∃ M' : Mem, f_X0_compare (m : Int) (sm g m - e) M = some M' ∧ (∀ c : Nat, c ≠ 71 → M' c = M c) ∧ clS M' (@ite _ (bet g e m s) (Classical.propDecidable _) (m, sm g m - e) s) := by
  have set : clS (upm (upm (upm M 71 0 m) 71 1 (sm g m - e)) 71 2 (pop 12 m : Nat)) (m, sm g m - e) := by
    unfold clS
    rw [if_neg hm0]
    simp [upm_at, updr_ap]
  have kp : ∀ c : Nat, c ≠ 71 → (upm (upm (upm M 71 0 m) 71 1 (sm g m - e)) 71 2 (pop 12 m : Nat)) c = M c := fun c hc => by rw [upm_ne hc, upm_ne hc, upm_ne hc]
  unfold f_X0_compare
  rw [pop_C hm, Option.bind_some]
  simp only [jn, lt]
  unfold clS at h
  by_cases z : s.1 = 0
  · rw [if_pos z] at h
    rw [if_pos h.1]
    refine ⟨_, rfl, kp, ?_⟩
    rw [if_pos (show bet g e m s from Or.inl z)]; exact set
  · rw [if_neg z] at h
    rw [if_neg (by omega)]
    by_cases a : sm g m - e < M 71 1
    · rw [if_pos a]
      refine ⟨_, rfl, kp, ?_⟩
      rw [if_pos (show bet g e m s from Or.inr (Or.inl (by omega)))]; exact set
    · rw [if_neg a]
      by_cases b : sm g m - e = M 71 1
      · rw [if_pos b]
        by_cases c : M 71 2 ≤ (pop 12 m : Nat)
        · rw [if_pos c]
          refine ⟨M, rfl, fun _ _ => rfl, ?_⟩
          rw [if_neg (by unfold bet; omega)]
          unfold clS; rw [if_neg z]; exact h
        · rw [if_neg c]
          refine ⟨_, rfl, kp, ?_⟩
          rw [if_pos (show bet g e m s from Or.inr (Or.inr ⟨by omega, by omega⟩))]; exact set
      · rw [if_neg b]
        refine ⟨M, rfl, fun _ _ => rfl, ?_⟩
        rw [if_neg (by unfold bet; omega)]
        unfold clS; rw [if_neg z]; exact h
def keepB (M M' : Mem) : Prop := (∀ c : Nat, c ≠ 71 → c ≠ 72 → M' c = M c) ∧ M' 72 0 = M 72 0
theorem keepB.C {M M' : Mem} (h : keepB M M') : keepC M M' := by
  refine ⟨fun c hc => h.1 c (by omega) (by omega), ?_, ?_, ?_, ?_, ?_, ?_, ?_, ?_, h.2⟩ <;> rw [h.1 _ (by decide) (by decide)]
theorem L_find_in {M0 : Mem} {g : Row} (hl : WFl g) {al : Nat} (hal : al < 4096) {e : Int} (he : 0 ≤ e ∧ e ≤ 30000) {j : Nat} (hj : (j : Int) < g 5) (SELF : Int → Mem → Option Mem) : ∀ (k t n : Nat) (M : Mem), t + k = 2 ^ j → k < n → keepB M0 M → (∀ m : Nat, m < 2 ^ j + t → M 72 m = sm g m) → clS M (bst g al e (2 ^ j + t)) →
    ∃ M' : Mem, f_X0_find_L52 SELF 5 (al : Int) e (g 3) (j : Int) (g (13 + 2 * j)) n (t : Int) M = SELF ((j + 1 : Nat) : Int) M' ∧ keepB M0 M' ∧ (∀ m : Nat, m < 2 ^ (j + 1) → M' 72 m = sm g m) ∧ clS M' (bst g al e (2 ^ (j + 1))) := by
  have h5 := hl.2.2.2.2.2.1
  have p := pow_12 (n := 12) (j := j) (by omega) (by omega)
  have p1 := pow_12 (n := 12) (j := j + 1) (by omega) (by omega)
  have p2 : 2 ^ (j + 1) = 2 ^ j * 2 := Nat.pow_succ 2 j
  have gl := hl.2.2.2.2.2.2.2.2.1 j hj
  have g3 := hl.2.2.2.1
  intro k
  induction k with
  | zero =>
    intro t n M ht hn hk hm hs
    obtain ⟨n, rfl⟩ := nat_ex hn
    refine ⟨M, ?_, hk, fun m h => hm m (by omega), by rw [p2, show 2 ^ j * 2 = 2 ^ j + t by omega]; exact hs⟩
    simp only [f_X0_find_L52]
    rw [ishl_1 j (by omega), if_pos (by omega), ck_pos ⟨by omega, by omega⟩, show (j : Int) + 1 = ((j + 1 : Nat) : Int) by omega]
  | succ k ih =>
    intro t n M ht hn hk hm hs
    obtain ⟨n, rfl⟩ := nat_ex hn
    have st := sm_top g (x := t) (j := j) (by omega) (by omega)
    have bt := sm_tot hl (x := t) (by omega) hj
    have hx : ior ((2 ^ j : Nat) : Int) (t : Int) = ((2 ^ j + t : Nat) : Int) := by
      have q := Nat.two_pow_add_eq_or_of_lt (i := j) (b := t) (by omega) 1
      rw [Nat.mul_one] at q
      rw [ior_nat (by omega) (by omega), ← q]
    have q72 : (upm M 72 (2 ^ j + t) (sm g (2 ^ j + t))) 72 (2 ^ j + t) = sm g (2 ^ j + t) := by rw [upm_row, updr_at]
    have sb := sm_b hl (x := 2 ^ j + t) (by
      have := pow_12 (n := (g 5).toNat) (j := j + 1) (by omega) (by omega)
      omega)
    -- the sums of the next memory
    have nx : ∀ M1 : Mem, (∀ c : Nat, c ≠ 71 → M1 c = (upm M 72 (2 ^ j + t) (sm g (2 ^ j + t))) c) → keepB M0 M1 ∧ ∀ m : Nat, m < 2 ^ j + (t + 1) → M1 72 m = sm g m := by
      intro M1 h1
      refine ⟨⟨fun c c1 c2 => by rw [h1 c c1, upm_ne c2]; exact hk.1 c c1 c2, ?_⟩, fun m h => ?_⟩
      · rw [h1 72 (by decide), upm_row, updr_ap, if_neg (by omega)]; exact hk.2
      · rw [h1 72 (by decide), upm_row, updr_ap]
        by_cases z : m = 2 ^ j + t
        · rw [if_pos z, z]
        · rw [if_neg z]; exact hm m (by omega)
    have s71 : ∀ s, clS M s → clS (upm M 72 (2 ^ j + t) (sm g (2 ^ j + t))) s := fun s h => by
      unfold clS at h ⊢; rw [upm_ne (by decide)]; exact h
    have skip : ¬ okM g al e (2 ^ j + t) → ∃ M' : Mem, f_X0_find_L52 SELF 5 (al : Int) e (g 3) (j : Int) (g (13 + 2 * j)) n ((t + 1 : Nat) : Int) (upm M 72 (2 ^ j + t) (sm g (2 ^ j + t))) = SELF ((j + 1 : Nat) : Int) M' ∧ keepB M0 M' ∧ (∀ m : Nat, m < 2 ^ (j + 1) → M' 72 m = sm g m) ∧ clS M' (bst g al e (2 ^ (j + 1))) := by
      intro no
      obtain ⟨a1, a2⟩ := nx _ (fun _ _ => rfl)
      refine ih (t + 1) n _ (by omega) (by omega) a1 a2 ?_
      rw [← Nat.add_assoc, bst_n (fun h => no h.1)]
      exact s71 _ hs
    simp only [f_X0_find_L52]
    rw [ishl_1 j (by omega), if_neg (by omega), ck_pos ⟨by omega, by omega⟩, Int.toNat_natCast, hm t (by omega), ck_pos bt, hx, ck_pos ⟨by omega, by omega⟩, lt_eq, Int.toNat_natCast, ← st, q72, ck_pos ⟨by omega, by omega⟩, show (t : Int) + 1 = ((t + 1 : Nat) : Int) by omega, ck_pos ⟨by omega, by omega⟩]
    by_cases c1 : iand ((2 ^ j + t : Nat) : Int) (ixor (al : Int) (-1)) = 0
    · rw [if_pos c1]
      by_cases c2 : sm g (2 ^ j + t) - e < 0
      · rw [if_pos c2]
        exact skip (fun h => by have := h.2.2.1; omega)
      · rw [if_neg c2, ck_pos ⟨by omega, by omega⟩]
        by_cases c3 : g (13 + 2 * j) - (sm g (2 ^ j + t) - e) < g 3
        · rw [if_pos c3]
          exact skip (fun h => by have := h.2.2.2; rw [log_top (by omega)] at this; omega)
        · rw [if_neg c3]
          have ok : okM g al e (2 ^ j + t) := ⟨by omega, (sub_C (by omega) hal).1 c1, by omega, by rw [log_top (by omega)]; omega⟩
          obtain ⟨M1, b1, b2, b3⟩ := compare_C (g := g) (e := e) (m := 2 ^ j + t) (by omega) (by omega) (s71 _ hs)
          obtain ⟨a1, a2⟩ := nx M1 b2
          obtain ⟨M', f1, f2⟩ := ih (t + 1) n M1 (by omega) (by omega) a1 a2 (by
            rw [← Nat.add_assoc]
            by_cases w : bet g e (2 ^ j + t) (bst g al e (2 ^ j + t))
            · rw [if_pos w] at b3; rw [bst_y ok w]; exact b3
            · rw [if_neg w] at b3; rw [bst_n (fun h => w h.2)]; exact b3)
          refine ⟨M', ?_, f2⟩
          rw [b1, Option.bind_some, ck_pos ⟨by omega, by omega⟩]
          exact f1
    · rw [if_neg c1]
      exact skip (fun h => c1 ((sub_C (by omega) hal).2 h.2.1))
theorem L_find_out {M0 : Mem} {g : Row} (hl : WFl g) (r : RSl M0 5 g) {al : Nat} (hal : al < 4096) {e : Int} (he : 0 ≤ e ∧ e ≤ 30000) : ∀ (k j n : Nat) (M : Mem), (j : Int) + k = g 5 → k < n → keepB M0 M → (∀ m : Nat, m < 2 ^ j → M 72 m = sm g m) → clS M (bst g al e (2 ^ j)) →
    ∃ M' : Mem, f_X0_find_L25 5 (al : Int) e (g 3) n (j : Int) M = some M' ∧ keepB M0 M' ∧ clS M' (bst g al e (2 ^ (g 5).toNat)) := by
  have h5 := hl.2.2.2.2.2.1
  have e6 : M0 6 0 = g 5 := r.1
  intro k
  induction k with
  | zero =>
    intro j n M hj hn hk hm hs
    obtain ⟨n, rfl⟩ := nat_ex hn
    refine ⟨M, ?_, hk, by rw [show (g 5).toNat = j by omega]; exact hs⟩
    have q : M (5 + 1) 0 = g 5 := by rw [hk.1 (5 + 1) (by decide) (by decide)]; exact e6
    simp only [f_X0_find_L25]
    rw [q, if_pos (by omega)]
  | succ k ih =>
    intro j n M hj hn hk hm hs
    obtain ⟨n, rfl⟩ := nat_ex hn
    have p := pow_12 (n := 12) (j := j) (by omega) (by omega)
    have q : M (5 + 1) 0 = g 5 := by rw [hk.1 (5 + 1) (by decide) (by decide)]; exact e6
    have ln : f_X3_lengthOf 5 (j : Int) M = some (g (13 + 2 * j)) := by
      have q3 : M (5 + 3) j = g (13 + 2 * j) := by rw [hk.1 (5 + 3) (by decide) (by decide)]; exact (r.2.2.2.1 j (by omega)).2
      unfold f_X3_lengthOf
      rw [if_neg (by omega), q, if_neg (by omega), ck_pos ⟨by omega, by omega⟩, Int.toNat_natCast, q3]
    obtain ⟨M1, e1, e2, e3, e4⟩ := L_find_in hl hal he (j := j) (by omega) (f_X0_find_L25 5 (al : Int) e (g 3) n) (2 ^ j) 0 jFuel M (by omega) (jF (by omega)) hk (fun m h => hm m (by omega)) hs
    obtain ⟨M', a1, a2⟩ := ih (j + 1) n M1 (by omega) (by omega) e2 e3 e4
    refine ⟨M', ?_, a2⟩
    simp only [f_X0_find_L25]
    rw [q, if_neg (by omega), if_neg (by omega), ln, Option.bind_some]
    exact e1.trans a1
theorem find_C {M : Mem} {g : Row} (hl : WFl g) (r : RSl M 5 g) (h0 : M 72 0 = 0) {al : Nat} (hal : al < 4096) {e : Int} (he : 0 ≤ e ∧ e ≤ 30000) : ∃ M' : Mem, f_X0_find 5 (al : Int) e M = some M' ∧ keepB M M' ∧ clS M' (bst g al e (2 ^ (g 5).toNat)) := by
  have h5 := hl.2.2.2.2.2.1
  obtain ⟨N, hN⟩ : ∃ N : Mem, N = upm (upm (upm M 71 0 (-1)) 71 1 (-1)) 71 2 (-1) := ⟨_, rfl⟩
  have kN : keepB M N := ⟨fun c c1 c2 => by rw [hN, upm_ne c1, upm_ne c1, upm_ne c1], by rw [hN, upm_ne (by decide), upm_ne (by decide), upm_ne (by decide)]⟩
  have s3 : f_X3_setting 5 3 N = some (g 3) := by
    have q : N (5 + 9) 3 = g 3 := by rw [kN.1 (5 + 9) (by decide) (by decide)]; exact r.2.2.2.2.2.2 3 (by omega)
    unfold f_X3_setting
    rw [if_neg (by omega), if_neg (by omega), ck_pos ⟨by omega, by omega⟩]
    exact congrArg some q
  unfold f_X0_find
  simp only [lt]
  rw [← hN, s3, Option.bind_some]
  refine L_find_out hl r hal he (g 5).toNat 0 jFuel N (by omega) (jF (by omega)) kN (fun m h => ?_) ?_
  · rw [show m = 0 by simpa using h, kN.2, h0, sm_0]
  · rw [show 2 ^ 0 = 1 from rfl, bst_1]
    unfold clS
    rw [if_pos rfl, hN]
    simp [upm_at, updr_ap]
theorem choice_C {M : Mem} {g : Row} (hl : WFl g) (hv : WFv g) (r : RSl M 5 g) (h0 : M 72 0 = 0) (s : M 64 1 = wEnd g) (w : Int) : ∃ M' : Mem, f_X10_findChoice w M = some M' ∧ keepB M M' ∧ clS M' (bst g (alM g w (g 5).toNat) (wEnd g) (2 ^ (g 5).toNat)) := by
  have we := wEnd_b hl hv
  obtain ⟨M', e1, e2⟩ := find_C hl r h0 (alM_12 hl w) (e := wEnd g) ⟨by omega, by omega⟩
  refine ⟨M', ?_, e2⟩
  unfold f_X10_findChoice
  rw [al_C hl r, Option.bind_some, s, e1]; rfl
/-! the reference's -/
def keepX (M M' : Mem) : Prop := (∀ c : Nat, c ≠ 0 → M' c = M c) ∧ ∀ j : Nat, j ≠ 26 → j ≠ 27 → M' 0 j = M 0 j
theorem keepX.R {M M' : Mem} (h : keepX M M') : keepR M M' :=
  ⟨fun c hc => h.1 c (by omega), h.2 _ (by decide) (by decide), h.2 _ (by decide) (by decide), h.2 _ (by decide) (by decide), h.2 _ (by decide) (by decide), h.2 _ (by decide) (by decide)⟩
theorem better_R {M : Mem} {g : Row} {e : Int} {m : Nat} {s : Nat × Int} (hm : m < 4096) (hs : s.1 < 4096) (h1 : M 0 26 = (s.1 : Nat)) (h2 : M 0 27 = s.2) : f_X11_isBetter (m : Int) (sm g m - e) M = some (@ite _ (bet g e m s) (Classical.propDecidable _) 1 0) := by
  unfold f_X11_isBetter
  simp only [jn]
  rw [h1, h2, pop_R hm, pop_R hs]
  simp only [Option.bind_some]
  by_cases z : s.1 = 0
  · rw [if_pos (by omega), if_pos (by omega), if_pos (show bet g e m s from Or.inl z)]
  · have zz : ¬ ((s.1 : Nat) : Int) = 0 := by omega
    rw [if_neg zz]
    by_cases a : sm g m - e = s.2
    · rw [if_pos a]
      by_cases b : ((pop 12 s.1 : Nat) : Int) ≤ (pop 12 m : Nat)
      · rw [if_pos b, if_neg (show ¬ bet g e m s by unfold bet; omega)]
      · rw [if_neg b, if_pos (show bet g e m s from Or.inr (Or.inr ⟨a, by omega⟩))]
    · rw [if_neg a, if_neg zz]
      by_cases b : s.2 ≤ sm g m - e
      · rw [if_pos b, if_neg (show ¬ bet g e m s by unfold bet; omega)]
      · rw [if_neg b, if_pos (show bet g e m s from Or.inr (Or.inl (by omega)))]
theorem log_step {m : Nat} (h : m ≠ 0) : m.log2 = (m - 1).log2 + (if m / 2 ^ ((m - 1).log2 + 1) = 0 then 0 else 1) := by
  have p := Nat.two_pow_pos (m - 1).log2
  have p2 : 2 ^ ((m - 1).log2 + 1) = 2 ^ (m - 1).log2 * 2 := Nat.pow_succ 2 _
  have p3 : 2 ^ ((m - 1).log2 + 2) = 2 ^ ((m - 1).log2 + 1) * 2 := Nat.pow_succ 2 _
  by_cases z : m = 1
  · subst z; rfl
  · have a := (Nat.le_log2 (n := m - 1) (k := (m - 1).log2) (by omega)).1 (Nat.le_refl _)
    have b := (Nat.log2_lt (n := m - 1) (k := (m - 1).log2 + 1) (by omega)).1 (by omega)
    by_cases c : m < 2 ^ ((m - 1).log2 + 1)
    · rw [if_pos (Nat.div_eq_of_lt c)]
      have d := (Nat.le_log2 (n := m) (k := (m - 1).log2) h).2 (by omega)
      have f := (Nat.log2_lt (n := m) (k := (m - 1).log2 + 1) h).2 c
      omega
    · have d := (Nat.le_log2 (n := m) (k := (m - 1).log2 + 1) h).2 (by omega)
      have f := (Nat.log2_lt (n := m) (k := (m - 1).log2 + 2) h).2 (by omega)
      have q : m / 2 ^ ((m - 1).log2 + 1) ≠ 0 := by
        have := (Nat.one_le_div_iff (a := m) (Nat.two_pow_pos ((m - 1).log2 + 1))).2 (by omega)
        omega
      rw [if_neg q]
      omega
theorem sub_AB {g : Row} {w : Int} {m : Nat} (h5 : g 5 ≤ 12) (hm : m < 2 ^ (g 5).toNat) : (∀ i : Nat, i < 12 → m.testBit i = true → (bnM g w (g 5).toNat).testBit i = false) ↔ ∀ i : Nat, i < 12 → m.testBit i = true → (alM g w (g 5).toNat).testBit i = true := by
  have key : ∀ i : Nat, m.testBit i = true → i < (g 5).toNat := by
    intro i hb
    apply Decidable.byContradiction
    intro c
    rw [Nat.testBit_lt_two_pow (Nat.lt_of_lt_of_le hm (Nat.pow_le_pow_right (by omega) (by omega)))] at hb
    cases hb
  constructor
  · intro h i hi hb
    have a := h i hi hb
    have k := key i hb
    rw [bnM_t] at a
    rw [alM_t]
    simpa [k] using a
  · intro h i hi hb
    have a := h i hi hb
    have k := key i hb
    rw [alM_t] at a
    rw [bnM_t]
    simpa [k] using a
theorem jn_eq {α β : Type} (k : α) (b : α → β) : jn k b = b k := rfl
theorem L_ch_R {M0 : Mem} (hl : WFl (M0 1)) {w e : Int} (he : 0 ≤ e ∧ e ≤ 30000) (h21 : ∀ m : Nat, m < 2 ^ (M0 1 5).toNat → M0 21 m = sm (M0 1) m) : ∀ (k m n : Nat) (M : Mem), m + k = 2 ^ (M0 1 5).toNat → m ≠ 0 → k < n → keepX M0 M →
    M 0 26 = ((bst (M0 1) (alM (M0 1) w (M0 1 5).toNat) e m).1 : Nat) → M 0 27 = (bst (M0 1) (alM (M0 1) w (M0 1 5).toNat) e m).2 →
    ∃ M' : Mem, f_X11_chooses_L22 e ((bnM (M0 1) w (M0 1 5).toNat : Nat) : Int) n (((m - 1).log2 : Nat) : Int) (m : Int) M = some (if (bst (M0 1) (alM (M0 1) w (M0 1 5).toNat) e (2 ^ (M0 1 5).toNat)).1 = 0 then 0 else 1, M') ∧ keepX M0 M' ∧
      M' 0 26 = ((bst (M0 1) (alM (M0 1) w (M0 1 5).toNat) e (2 ^ (M0 1 5).toNat)).1 : Nat) ∧ M' 0 27 = (bst (M0 1) (alM (M0 1) w (M0 1 5).toNat) e (2 ^ (M0 1 5).toNat)).2 := by
  have h5 := hl.2.2.2.2.2.1
  have g3 := hl.2.2.2.1
  have p := pow_12 (n := 12) (j := (M0 1 5).toNat) (by omega) (by omega)
  have bn12 := bnM_12 hl w
  obtain ⟨g, hg⟩ : ∃ g : Row, g = M0 1 := ⟨_, rfl⟩
  obtain ⟨al, hal⟩ : ∃ al : Nat, al = alM g w (g 5).toNat := ⟨_, rfl⟩
  obtain ⟨bn, hbn⟩ : ∃ bn : Nat, bn = bnM g w (g 5).toNat := ⟨_, rfl⟩
  have ab := fun m h => sub_AB (g := g) (w := w) (m := m) (by rw [hg]; omega) h
  rw [← hg] at h5 g3 p hl bn12 h21 ⊢
  rw [← hal, ← hbn] at ab ⊢
  rw [← hbn] at bn12
  intro k
  induction k with
  | zero =>
    intro m n M hm h0 hn hk h1 h2
    obtain ⟨n, rfl⟩ := nat_ex hn
    have em : m = 2 ^ (g 5).toNat := by omega
    have k1 : M 1 5 = ((g 5).toNat : Int) := by rw [hk.1 1 (by decide), ← hg]; omega
    rw [em] at h1 h2
    refine ⟨M, ?_, hk, h1, h2⟩
    simp only [f_X11_chooses_L22, show (5 : Int).toNat = 5 from rfl]
    rw [k1, ishl_1 _ (by omega), if_pos (by omega), h1]
    by_cases z : (bst g al e (2 ^ (g 5).toNat)).1 = 0
    · rw [if_pos z, if_pos (by omega)]
    · rw [if_neg z, if_neg (by omega)]
  | succ k ih =>
    intro m n M hm h0 hn hk h1 h2
    obtain ⟨n, rfl⟩ := nat_ex hn
    have kg : M 1 = g := by rw [hk.1 1 (by decide), ← hg]
    have k1 : M 1 5 = ((g 5).toNat : Int) := by rw [kg]; omega
    have ls := log_step h0
    have lm : m.log2 < (g 5).toNat := (Nat.log2_lt h0).2 (by omega)
    have l1 : (m - 1).log2 < 12 := by
      have : (m - 1).log2 ≤ m.log2 := by omega
      omega
    have bl : (bst g al e m).1 < 4096 := by
      have := bst_lt g al e (m - 1)
      rw [show m - 1 + 1 = m by omega] at this
      omega
    have sb := sm_b hl (x := m) (by omega)
    have gl := hl.2.2.2.2.2.2.2.2.1 m.log2 (by omega)
    have sh : ishr (m : Int) ((((m - 1).log2 : Nat) : Int) + 1) = ((m / 2 ^ ((m - 1).log2 + 1) : Nat) : Int) := by
      rw [show (((m - 1).log2 : Nat) : Int) + 1 = (((m - 1).log2 + 1 : Nat) : Int) by omega]
      exact ishr_nat (by omega) (by omega)
    have m21 : M 21 m = sm g m := by rw [hk.1 21 (by decide)]; exact h21 m (by omega)
    have nxt : ∀ M1 : Mem, keepX M0 M1 → M1 0 26 = ((bst g al e (m + 1)).1 : Nat) → M1 0 27 = (bst g al e (m + 1)).2 → ∃ M' : Mem, f_X11_chooses_L22 e (bn : Int) n ((m.log2 : Nat) : Int) ((m + 1 : Nat) : Int) M1 = some (if (bst g al e (2 ^ (g 5).toNat)).1 = 0 then 0 else 1, M') ∧ keepX M0 M' ∧ M' 0 26 = ((bst g al e (2 ^ (g 5).toNat)).1 : Nat) ∧ M' 0 27 = (bst g al e (2 ^ (g 5).toNat)).2 := by
      intro M1 q1 q2 q3
      have := ih (m + 1) n M1 (by omega) (by omega) (by omega) q1 q2 q3
      rw [show m + 1 - 1 = m by omega] at this
      exact this
    -- what is left once the top bit is known
    have tail : ∃ M' : Mem, (ck (inR ((m.log2 : Nat) : Int)) <| ck ((0 : Int) ≤ (m : Int) ∧ (m : Int) < 4096) <| ck (inR ((M 21 (m : Int).toNat) - e)) <|
        jn (fun (v104 : Int) => if v104 = 0 then ck (inR ((m : Int) + 1)) <| (f_X11_chooses_L22 e (bn : Int) n) ((m.log2 : Nat) : Int) ((m : Int) + 1) M
          else (f_X11_isBetter (m : Int) ((M 21 (m : Int).toNat) - e) M).bind fun r116 => if r116 = 0 then ck (inR ((m : Int) + 1)) <| (f_X11_chooses_L22 e (bn : Int) n) ((m.log2 : Nat) : Int) ((m : Int) + 1) M
            else lt (upm M 0 26 (m : Int)) fun N1 => lt (upm N1 0 27 ((M 21 (m : Int).toNat) - e)) fun N2 => ck (inR ((m : Int) + 1)) <| (f_X11_chooses_L22 e (bn : Int) n) ((m.log2 : Nat) : Int) ((m : Int) + 1) N2) fun k104 =>
        jn (fun (_ : Unit) => k104 0) fun k103 =>
        if (iand (m : Int) (bn : Int)) = 0 then if ((M 21 (m : Int).toNat) - e) < 0 then k103 () else
            (f_X11_lengthOf ((m.log2 : Nat) : Int) M).bind fun r84 => ck (inR (r84 - ((M 21 (m : Int).toNat) - e))) <| if (r84 - ((M 21 (m : Int).toNat) - e)) < (M 1 3) then k103 () else k104 1
        else k103 ()) = some (if (bst g al e (2 ^ (g 5).toNat)).1 = 0 then 0 else 1, M') ∧ keepX M0 M' ∧ M' 0 26 = ((bst g al e (2 ^ (g 5).toNat)).1 : Nat) ∧ M' 0 27 = (bst g al e (2 ^ (g 5).toNat)).2 := by
      have no : ¬ (okM g al e m ∧ bet g e m (bst g al e m)) → ∃ M' : Mem, f_X11_chooses_L22 e (bn : Int) n ((m.log2 : Nat) : Int) ((m + 1 : Nat) : Int) M = some (if (bst g al e (2 ^ (g 5).toNat)).1 = 0 then 0 else 1, M') ∧ keepX M0 M' ∧ M' 0 26 = ((bst g al e (2 ^ (g 5).toNat)).1 : Nat) ∧ M' 0 27 = (bst g al e (2 ^ (g 5).toNat)).2 :=
        fun q => nxt M hk (by rw [bst_n q]; exact h1) (by rw [bst_n q]; exact h2)
      simp only [jn]
      rw [ck_pos ⟨by omega, by omega⟩, ck_pos ⟨by omega, by omega⟩, Int.toNat_natCast, m21, ck_pos ⟨by omega, by omega⟩, show (m : Int) + 1 = ((m + 1 : Nat) : Int) by omega, len_ev (by omega), Option.bind_some, kg, ck_pos ⟨by omega, by omega⟩, ck_pos ⟨by omega, by omega⟩]
      by_cases c1 : iand (m : Int) (bn : Int) = 0
      · rw [if_pos c1]
        by_cases c2 : sm g m - e < 0
        · rw [if_pos c2, if_pos trivial]
          exact no (fun q => by have := q.1.2.2.1; omega)
        · rw [if_neg c2]
          by_cases c3 : g (13 + 2 * m.log2) - (sm g m - e) < g 3
          · rw [if_pos c3, if_pos trivial]
            exact no (fun q => by have := q.1.2.2.2; omega)
          · rw [if_neg c3, if_neg (by decide), better_R (g := g) (e := e) (m := m) (s := bst g al e m) (by omega) bl h1 h2, Option.bind_some]
            have ok : okM g al e m := ⟨h0, (ab m (by omega)).1 ((sub_R (by omega) bn12).1 c1), by omega, by omega⟩
            by_cases c4 : bet g e m (bst g al e m)
            · rw [if_pos c4, if_neg (by decide), lt_eq, lt_eq, ck_pos ⟨by omega, by omega⟩]
              refine nxt _ ⟨fun c hc => by rw [upm_ne hc, upm_ne hc]; exact hk.1 c hc, fun i i1 i2 => ?_⟩ ?_ ?_
              · rw [upm_row, updr_ne i2, upm_row, updr_ne i1]; exact hk.2 i i1 i2
              · rw [bst_y ok c4, upm_row, updr_ne (by decide), upm_row, updr_at]
              · rw [bst_y ok c4, upm_row, updr_at]
            · rw [if_neg c4, if_pos rfl]
              exact no (fun q => c4 q.2)
      · rw [if_neg c1, if_pos trivial]
        exact no (fun q => c1 ((sub_R (by omega) bn12).2 ((ab m (by omega)).2 q.1.2.1)))
    obtain ⟨M', t1, t2⟩ := tail
    refine ⟨M', ?_, t2⟩
    unfold f_X11_chooses_L22
    rw [show (5 : Int).toNat = 5 from rfl, show (3 : Int).toNat = 3 from rfl, k1, ishl_1 _ (by omega), if_neg (by omega), ck_pos ⟨by omega, by omega⟩, sh]
    obtain ⟨dv, hdv⟩ : ∃ dv : Nat, dv = m / 2 ^ ((m - 1).log2 + 1) := ⟨_, rfl⟩
    rw [← hdv] at ls ⊢
    rw [jn_eq]
    dsimp only
    by_cases c : dv = 0
    · rw [if_pos c] at ls
      rw [if_pos (show (dv : Int) ≤ 0 by omega), bit_eq, if_pos rfl, Option.bind_some, show (((m - 1).log2 : Nat) : Int) + 0 = ((m.log2 : Nat) : Int) by omega]
      exact t1
    · rw [if_neg c] at ls
      rw [if_neg (show ¬ (dv : Int) ≤ 0 by omega), bit_eq, if_neg (by decide), Option.bind_some, show (((m - 1).log2 : Nat) : Int) + 1 = ((m.log2 : Nat) : Int) by omega]
      exact t1
theorem ch_R {M : Mem} (hl : WFl (M 1)) (w : Int) {e : Int} (he : 0 ≤ e ∧ e ≤ 30000) (h21 : ∀ m : Nat, m < 2 ^ (M 1 5).toNat → M 21 m = sm (M 1) m) :
    ∃ M' : Mem, f_X11_chooses w e M = some (if (bst (M 1) (alM (M 1) w (M 1 5).toNat) e (2 ^ (M 1 5).toNat)).1 = 0 then 0 else 1, M') ∧ keepX M M' ∧
      M' 0 26 = ((bst (M 1) (alM (M 1) w (M 1 5).toNat) e (2 ^ (M 1 5).toNat)).1 : Nat) ∧ M' 0 27 = (bst (M 1) (alM (M 1) w (M 1 5).toNat) e (2 ^ (M 1 5).toNat)).2 := by
  have h5 := hl.2.2.2.2.2.1
  have p := pow_12 (n := 12) (j := (M 1 5).toNat) (by omega) (by omega)
  unfold f_X11_chooses
  rw [bm_R hl, Option.bind_some, lt_eq, lt_eq]
  exact L_ch_R hl he h21 (2 ^ (M 1 5).toNat - 1) 1 jFuel _ (by omega) (by omega) (jF (by omega)) ⟨fun c hc => by rw [upm_ne hc, upm_ne hc], fun j j1 j2 => by rw [upm_row, updr_ne j2, upm_row, updr_ne j1]⟩
    (by rw [bst_1, upm_row, updr_ne (by decide), upm_row, updr_at]; rfl) (by rw [bst_1, upm_row, updr_at])
theorem p_best {k : Nat} {Mc Mr : Mem} (h : Rel k Mc Mr) (p : Int) : ∃ Mc' Mr' : Mem, st_best p Mc Mr Mc' Mr' ∧ Rel (k + 1) Mc' Mr' := by
  have hl := h.wf.1
  have hv := h.wf.2.1
  have h5 := hl.2.2.2.2.2.1
  have we := wEnd_b hl hv
  by_cases hp : 0 ≤ p ∧ p ≤ 2
  · have k1 : (upm Mr 0 7 0) 1 = Mr 1 := thr_ne _ _ (by decide)
    obtain ⟨M1, a1, a2, a3⟩ := sums_R (M := upm Mr 0 7 0) (by rw [k1]; exact hl)
    rw [k1] at a3
    have k2 : M1 1 = Mr 1 := (a2 1 (by decide)).trans k1
    obtain ⟨M2, b1, b2, b3⟩ := laysW (M := M1) (by rw [k2]; exact hl) (by rw [k2]; exact hv)
    have k3 : M2 1 = Mr 1 := (b2 1 (by decide) (by decide)).trans k2
    obtain ⟨M3, c1, c2, c3, c4⟩ := ch_R (M := M2) (by rw [k3]; exact hl) (Mr 1 0) (e := wEnd (Mr 1)) ⟨by omega, by omega⟩ (by rw [k3, b2 21 (by decide) (by decide)]; exact a3)
    rw [k2] at b1
    rw [k3] at c1 c3 c4
    obtain ⟨Mc', d1, d2, d3⟩ := choice_C hl hv h.rs.1 h.s0 h.sp.2.1 (Mr 1 0)
    obtain ⟨s, hs⟩ : ∃ s : Nat × Int, s = bst (Mr 1) (alM (Mr 1) (Mr 1 0) (Mr 1 5).toNat) (wEnd (Mr 1)) (2 ^ (Mr 1 5).toNat) := ⟨_, rfl⟩
    rw [← hs] at c1 c3 c4 d3
    have sl : s.1 < 4096 := by
      have p := pow_12 (n := 12) (j := (Mr 1 5).toNat) (by omega) (by omega)
      have := bst_lt (Mr 1) (alM (Mr 1) (Mr 1 0) (Mr 1 5).toNat) (wEnd (Mr 1)) (2 ^ (Mr 1 5).toNat - 1)
      rw [show 2 ^ (Mr 1 5).toNat - 1 + 1 = 2 ^ (Mr 1 5).toNat by omega, ← hs] at this
      omega
    have t1 : M3 0 7 = 0 := by
      rw [c2.2 7 (by decide) (by decide), b2 0 (by decide) (by decide), a2 0 (by decide)]; exact thr_at _ _
    refine ⟨Mc', M3, Or.inl ⟨if s.1 = 0 then -1 else if p = 0 then (s.1 : Nat) else if p = 1 then s.2 else (pop 12 s.1 : Nat), ?_, ?_, t1⟩, h.scr d2.C (keepR.thr.trans (a2.R.trans (b2.R.trans c2.R))) (by omega)⟩
    · unfold f_X10_best
      have s0 : f_X3_setting 5 0 Mc = some (Mr 1 0) := set_ev h.rs.1 (i := 0) (by omega)
      rw [(rR_ok hp).1, Option.bind_some, s0, Option.bind_some, d1, Option.bind_some]
      unfold clS at d3
      by_cases z : s.1 = 0
      · rw [if_pos z] at d3 ⊢
        rw [d3.1, d3.2.1, d3.2.2]
        (repeat' split) <;> rfl
      · rw [if_neg z] at d3 ⊢
        rw [d3.1, d3.2.1, d3.2.2]
        (repeat' split) <;> rfl
    · unfold f_X11_best
      rw [isIn_eq, if_pos hp, Option.bind_some, goes1, Option.bind_some]
      simp only []
      rw [if_neg (by decide), a1, Option.bind_some, b1, Option.bind_some]
      simp only [show (0 : Int).toNat = 0 from rfl]
      rw [k2, c1, Option.bind_some]
      simp only []
      by_cases z : s.1 = 0
      · rw [if_pos z, if_pos z, if_pos rfl]
      · rw [if_neg z, if_neg z, if_neg (by decide), c3, c4, pop_R sl]
        (repeat' split) <;> rfl
  · refine ⟨Mc, upm Mr 0 7 1, Or.inr ⟨?_, 0, ?_, thr_at _ _⟩, h.scr keepC.rfl keepR.thr (by omega)⟩
    · unfold x_X10_best
      exact x1_2 hp
    · unfold f_X11_best
      rw [isIn_eq, if_neg hp, Option.bind_some, goes0, Option.bind_some]
      simp
