/-! overlaps and begins laid by the reference; CutOK -/
theorem covr_b {l m : List (Int × Int)} (h : ∀ p ∈ l, 0 ≤ p.2) : 0 ≤ covr 0 l m := by
  rw [covr_get]
  have le := cpl_le l m
  by_cases z : cpl l m = 0
  · rw [if_pos z]; exact Int.le_refl _
  · rw [if_neg z]; exact h _ (getD_mem (by omega))
theorem L_lay48 {g : Row} {C M0 : Mem} {P d : Nat} {S : List (Int × Int)} (v : Inv g C M0 P d S) : ∀ (k j n : Nat) (M : Mem), j + k = P → k < n → (∀ c : Nat, c ≠ 11 → c ≠ 12 → M c = M0 c) → (∀ i : Nat, i < j → M 11 i = C 61 i ∧ M 12 i = C 62 i) →
    ∃ M' : Mem, f_X11_laysPieces_L48 n (j : Int) M = some M' ∧ (∀ c : Nat, c ≠ 11 → c ≠ 12 → M' c = M0 c) ∧ ∀ i : Nat, i < P → M' 11 i = C 61 i ∧ M' 12 i = C 62 i := by
  obtain ⟨⟨T, ⟨⟨t1, t2, t3, t4, t5⟩, tk, tf, tz, tn⟩, tc⟩, _⟩ := v
  intro k
  induction k with
  | zero =>
    intro j n M hj hn f1 f2
    obtain ⟨n, rfl⟩ := nat_ex hn
    refine ⟨M, ?_, f1, fun i hi => f2 i (by omega)⟩
    rw [f_X11_laysPieces_L48, f1 0 (by decide) (by decide), t2, if_pos (by omega)]
  | succ k ih =>
    intro j n M hj hn f1 f2
    obtain ⟨n, rfl⟩ := nat_ex hn
    obtain ⟨M2, hM2⟩ : ∃ M2 : Mem, M2 = upm (upm M 12 j (C 62 j)) 11 j (C 61 j) := ⟨_, rfl⟩
    obtain ⟨M', e1, e2⟩ := ih (j + 1) n M2 (by omega) (by omega) (fun c c1 c2 => by rw [hM2, upm_ne c1, upm_ne c2]; exact f1 c c1 c2) (fun i hi => by
      by_cases z : i = j
      · rw [hM2, z, upm_hit, upm_ne (by decide), upm_hit]; exact ⟨rfl, rfl⟩
      · rw [hM2, upm_sl z, upm_ne (b := 11) (by decide), upm_ne (b := 12) (by decide), upm_sl z]; exact f2 i (by omega))
    refine ⟨M', ?_, e2⟩
    rw [f_X11_laysPieces_L48, f1 0 (by decide) (by decide), t2, if_neg (by omega), jn_eq]
    by_cases z : j = 0
    · subst z
      have tf := tf (by omega)
      rw [if_pos (show ((0 : Nat) : Int) = 0 from rfl)]
      dsimp only
      rw [ck_pos ⟨by omega, by omega⟩, lt_eq, if_pos (show ((0 : Nat) : Int) = 0 from rfl), lt_eq, ck_pos ⟨by omega, by omega⟩]
      rw [tf.1, tf.2.1] at hM2
      rw [show ((0 : Nat) : Int).toNat = 0 from rfl, ← hM2]
      exact e1
    · obtain ⟨i, rfl⟩ : ∃ i, j = i + 1 := ⟨j - 1, by omega⟩
      have q1 := tk (i + 1) (by omega)
      have q0 := tk i (by omega)
      have tn := tn i (by omega)
      have q0e : M 10 i = C 60 i := by rw [f1 10 (by decide) (by decide)]; exact q0.1.2.2.2
      have q1e : M 10 (i + 1) = C 60 (i + 1) := by rw [f1 10 (by decide) (by decide)]; exact q1.1.2.2.2
      have cv := L_cov (M := M) (k := i) (L1 := T (i + 1)) (L0 := T i) (by omega) (q1.2.2.2.2.2.1.eqv (by rw [f1 13 (by decide) (by decide)]) (fun _ _ => by rw [f1 14 (by decide) (by decide), f1 15 (by decide) (by decide)]; exact ⟨rfl, rfl⟩)) (q0.2.2.2.2.2.1.eqv (by rw [f1 13 (by decide) (by decide)]) (fun _ _ => by rw [f1 14 (by decide) (by decide), f1 15 (by decide) (by decide)]; exact ⟨rfl, rfl⟩)) q1.2.2.2.2.2.2.1 q0.2.2.2.2.2.2.1 4 0 jFuel 0 rfl (jF (by omega)) (Or.inr trivial)
      have cv : f_X11_commonOverlap ((i + 1 : Nat) : Int) M = some (covr 0 (T (i + 1)) (T i)) := cv
      have cb := covr_b (m := T i) (fun p hp => (q1.2.2.2.2.2.2.2 p hp).2.1)
      rw [if_neg (by omega), cv, Option.bind_some, ck_pos ⟨by omega, by omega⟩, ck_pos ⟨by omega, by omega⟩, ck_pos ⟨by omega, by omega⟩, show (((i + 1 : Nat) : Int) - 1).toNat = i by omega, Int.toNat_natCast, q0e, q1e, idiv2 ⟨by omega, by omega⟩, show min (covr 0 (T (i + 1)) (T i)) (min (C 60 (i + 1)) (C 60 i) / 2) = C 62 (i + 1) by rw [tn.1]; omega]
      have en : f_X11_endOf (((i + 1 : Nat) : Int) - 1) (upm M 12 (i + 1) (C 62 (i + 1))) = some (C 61 i + C 60 i) := by
        unfold f_X11_endOf
        rw [ck_pos ⟨by omega, by omega⟩, show (((i + 1 : Nat) : Int) - 1).toNat = i by omega, upm_ne (b := 11) (by decide), upm_ne (b := 10) (by decide), q0e, (f2 i (by omega)).1, ck_pos ⟨by omega, by omega⟩]
      dsimp only
      rw [ck_pos ⟨by omega, by omega⟩, lt_eq, if_neg (by omega), ck_pos ⟨by omega, by omega⟩, en, Option.bind_some, upm_hit, ck_pos ⟨by omega, by omega⟩, lt_eq, ck_pos ⟨by omega, by omega⟩, ← tn.2, ← hM2, show ((i + 1 : Nat) : Int) + 1 = ((i + 1 + 1 : Nat) : Int) by omega]
      exact e1
theorem pcsOK {g : Row} {C M : Mem} {P d : Nat} {S : List (Int × Int)} (v : Inv g C M P d S) : PcsOK C g := by
  obtain ⟨⟨T, ⟨⟨t1, t2, t3, t4, t5⟩, tk, tf, tz, tn⟩, tc⟩, _⟩ := v
  have o2 : ∀ k : Nat, k + 1 < P → 0 ≤ C 62 (k + 1) ∧ 2 * C 62 (k + 1) ≤ C 60 (k + 1) ∧ 2 * C 62 (k + 1) ≤ C 60 k := by
    intro k hk
    have q := tk (k + 1) hk
    have q0 := tk k (by omega)
    have cb := covr_b (m := T k) (fun p hp => (q.2.2.2.2.2.2.2 p hp).2.1)
    have t := (tn k hk).1
    omega
  unfold PcsOK
  rw [t1]
  refine ⟨fun k hk => ?_, fun h => ?_, fun h => tz (by omega), fun k hk => ⟨(tn k (by omega)).2, (o2 k (by omega)).2.2⟩⟩
  · obtain ⟨q1, q2, q3, q4, q5, q6, q7, q8⟩ := tk k (by omega)
    refine ⟨q2, q3, q4, ?_, q5⟩
    by_cases z : k = 0
    · have := tf (by omega)
      rw [z, this.2.1]
      rw [z] at q4
      omega
    · obtain ⟨i, rfl⟩ : ∃ i, k = i + 1 := ⟨k - 1, by omega⟩
      have := o2 i (by omega)
      omega
  · rw [Int.toNat_natCast]; exact tf (by omega)
theorem cut_all {Mc : Mem} {g : Row} (r : RS Mc 5 g) (w : WF g) : ∃ M' : Mem, f_X5_cutFrom 5 Mc = some M' ∧ (∀ c : Nat, c < 56 ∨ 63 < c → M' c = Mc c) ∧ RPc M' g ∧ M' 56 0 = npc g (g 8).toNat := by
  have hi := w.2.2
  have h8 := hi.1
  obtain ⟨N, sg, n60, nN⟩ := seg_all hi
  obtain ⟨q1, q2, q3, q4, q5, q6⟩ := sg _ (run_all w)
  clear q4 q5
  obtain ⟨C, hC⟩ : ∃ C : Mem, C = upm (upm (upm Mc 56 0 0) 56 1 0) 56 9 0 := ⟨_, rfl⟩
  have fC : ∀ c : Nat, c ≠ 56 → C c = Mc c := fun c hc => by rw [hC, upm_ne hc, upm_ne hc, upm_ne hc]
  have ri : RSi C 5 g := r.2.2.eqv (fun j _ _ => fC _ (by omega))
  have h30 := hi.2.2.1
  have run : ∀ Mr : Mem, Mr 1 = g → ∃ C' M' : Mem, f_X5_cutFrom 5 Mc = some C' ∧ (∀ c : Nat, c < 56 ∨ 63 < c → C' c = C c) ∧ f_X11_laysPieces Mr = some M' ∧ layK Mr M' ∧ PcsEq C' M' ∧ PcsOK C' g ∧ C' 56 0 = (N : Int) := by
    intro Mr e1
    obtain ⟨M, hM⟩ : ∃ M : Mem, M = upm (upm (upm Mr 0 17 0) 0 21 0) 0 22 0 := ⟨_, rfl⟩
    have fM : ∀ c : Nat, c ≠ 0 → M c = Mr c := fun c hc => by rw [hM, upm_ne hc, upm_ne hc, upm_ne hc]
    have fM0 : ∀ j : Nat, j ≠ 17 → j ≠ 21 → j ≠ 22 → M 0 j = Mr 0 j := fun j j1 j2 j3 => by rw [hM, upm_sl j3, upm_sl j2, upm_sl j1]
    have m17 : M 0 17 = 0 := by rw [hM, upm_sl (by decide), upm_sl (by decide), upm_hit]
    have m21 : M 0 21 = 0 := by rw [hM, upm_sl (by decide), upm_hit]
    have m22 : M 0 22 = 0 := by rw [hM, upm_hit]
    have v0 : Inv g C M 0 0 [] := ⟨⟨fun _ => [], ⟨⟨by rw [hC, upm_sl (by decide), upm_sl (by decide), upm_hit]; rfl, m17, by omega, (fM 1 (by decide)).trans e1, by omega⟩, fun k hk => by omega, fun h => by omega, fun _ => by rw [hC, upm_sl (by decide), upm_hit], fun k hk => by omega⟩, fun h => by omega⟩, ⟨m21, rfl, by omega⟩, fun j hj => by omega, fun p hp => by simp at hp⟩
    have wt0 : wt 0 = 6561 := by decide
    obtain ⟨C', M1, s, a1, a2, a3, a4, a5, a6, a7, a8, a9⟩ := q6 C M 0 [] ri v0 (fun i hi => absurd hi (Nat.not_lt_zero i)) (by omega) (by rw [m22, wt0]; omega)
    rw [wt0] at a1
    have jf : s + 1 < jFuel := by unfold jFuel; omega
    have jf2 : it g (g 8).toNat + 1 < jFuel := jF (by omega)
    have v1 := a4.ex
    rw [Nat.zero_add] at a4 v1
    obtain ⟨M2, b1, b2, b3⟩ := L_lay48 a4 N 0 jFuel M1 (by omega) (jF (by omega)) (fun _ _ _ => rfl) (fun i hi => absurd hi (Nat.not_lt_zero i))
    refine ⟨C', M2, ?_, a6, ?_, ⟨fun c c1 c2 => ?_, fun j j1 j2 j3 => ?_⟩, ?_, pcsOK a4, v1.2.2.2.2⟩
    · unfold f_X5_cutFrom
      rw [lt_eq, lt_eq, lt_eq, ← hC, ri.1]
      have e := a2 (jFuel - it g (g 8).toNat - 1 + 1) (it g (g 8).toNat : Nat) (Int.le_refl _)
      rw [show jFuel - it g (g 8).toNat - 1 + 1 + (it g (g 8).toNat - it g 0) = jFuel by show _ + (_ - 0) = _; omega] at e
      have e : f_X5_addItems_L3 (g_X5_addItems 5) 5 (it g (g 8).toNat : Nat) 0 0 jFuel 0 C = f_X5_addItems_L3 (g_X5_addItems 5) 5 (it g (g 8).toNat : Nat) 0 0 (jFuel - it g (g 8).toNat - 1 + 1) (it g (g 8).toNat : Nat) C' := e
      have e2 : g_X5_addItems 6 5 0 (it g (g 8).toNat : Nat) 0 0 C = some C' := by
        show f_X5_addItems_L3 (g_X5_addItems 5) 5 (it g (g 8).toNat : Nat) 0 0 jFuel 0 C = some C'
        rw [e, f_X5_addItems_L3, if_pos (Int.le_refl _)]
      rw [e2, Option.bind_some]
    · unfold f_X11_laysPieces
      rw [lt_eq, lt_eq, lt_eq, ← hM]
      have e := a3 (jFuel - s - 1 + 1)
      rw [show jFuel - s - 1 + 1 + s = jFuel by omega] at e
      have e : f_X11_laysPieces_L17 jFuel 0 M = f_X11_laysPieces_L17 (jFuel - s - 1 + 1) ((g 8).toNat : Nat) M1 := e
      rw [e, f_X11_laysPieces_L17, show (8 : Int).toNat = 8 from rfl, v1.1, if_pos (by omega)]
      exact b1
    · rw [b2 c (by omega) (by omega), a8.2.1 c c1 c2, fM c c1]
    · rw [b2 0 (by decide) (by decide), a8.2.2 j j1 j2 j3, fM0 j j1 j2 j3]
    · unfold PcsEq
      have v1c := v1.2.2.2.2
      have nP := v1.2.2.1
      rw [v1c]
      refine ⟨by omega, by rw [b2 0 (by decide) (by decide)]; exact v1.2.1, fun k hk => ?_⟩
      obtain ⟨⟨T, ⟨_, tk, _⟩, _⟩, _⟩ := a4
      have q := (tk k (by omega)).1
      have q3 := b3 k (by omega)
      rw [b2 7 (by decide) (by decide), b2 8 (by decide) (by decide), b2 9 (by decide) (by decide), b2 10 (by decide) (by decide)]
      exact ⟨q.1, q.2.1, q.2.2.1, q.2.2.2, q3.1, q3.2⟩
  obtain ⟨C', _, c1, c2, _, _, _, c3, c4⟩ := run (fun c => if c = 1 then g else fun _ => 0) (if_pos rfl)
  refine ⟨C', c1, fun c hc => (c2 c hc).trans (fC c (by omega)), ⟨c3, fun Mr e1 => ?_⟩, c4.trans nN.symm⟩
  obtain ⟨C2, M', d1, _, d2, d3, d4, _⟩ := run Mr e1
  have : C' = C2 := Option.some.inj (c1.symm.trans d1)
  rw [this]
  exact ⟨M', d2, d3, d4⟩
theorem cut_OK : CutOK := fun M g r w => by
  obtain ⟨M', a1, a2, a3, _⟩ := cut_all r w
  exact ⟨M', a1, a2, a3⟩
/-- how many pieces there are -/
theorem pcs_n {Mc : Mem} {g : Row} (r : RS Mc 5 g) (w : WF g) (p : RPc Mc g) : Mc 56 0 = npc g (g 8).toNat := by
  obtain ⟨M', a1, a2, a3, a4⟩ := cut_all r w
  obtain ⟨L1, b1, _, b2⟩ := p.2 (fun c => if c = 1 then g else fun _ => 0) (if_pos rfl)
  obtain ⟨L2, c1, _, c2⟩ := a3.2 (fun c => if c = 1 then g else fun _ => 0) (if_pos rfl)
  have : L1 = L2 := Option.some.inj (b1.symm.trans c1)
  rw [this] at b2
  rw [← b2.2.1, c2.2.1, a4]
