/-! the whole reel gone through, and the cut -/
theorem run_all {g : Row} (w : WF g) : SegQ g (RunQ g) := by
  have hi := w.2.2
  refine ⟨fun d a da ha => ⟨Nat.le_refl _, ha, da, fun _ t t1 t2 => by omega, fun h => by omega, fun C M P S ri v o hP h22 => ?_⟩, fun d a b N ha da hk q => ?_, fun d a c b K N ha da hd hk q1 hc c4 hac din q2 => ?_⟩
  · exact ⟨C, M, 0, Nat.zero_le _, fun n e _ => by rw [Nat.sub_self, Nat.add_zero], fun n => rfl, v, o, fun _ _ => rfl, fun _ _ _ => rfl, ⟨fun _ _ => ⟨rfl, rfl, rfl⟩, fun _ _ _ => rfl, fun _ _ _ _ => rfl⟩, by omega⟩
  · obtain ⟨q1, q2, q3, q4, q5, q6⟩ := q
    refine ⟨by omega, q2, q3, fun h => by omega, fun _ => ⟨a, Nat.le_refl _, by omega, hk⟩, fun C M P S ri v o hP h22 => ?_⟩
    obtain ⟨ve, v17, vP, v22, v56⟩ := v.ex
    have a60 := hi.t60 ha
    have ba := hi.it30 ha (by omega)
    obtain ⟨C1, M1, p1, p2, p3, p4, p5, p6⟩ := inv_piece w ri v o (by omega) ha hk
    have eb : (b - a) * wt d = (b - (a + 1)) * wt d + wt d := by
      rw [show b - a = b - (a + 1) + 1 by omega, Nat.add_mul, Nat.one_mul]
    have wp := wt_p d
    rw [eb] at h22 ⊢
    have itm1 := it_mono g (b - (a + 1)) (a + 1)
    rw [show a + 1 + (b - (a + 1)) = b by omega, it_s1 (by omega)] at itm1
    obtain ⟨C2, M2, s, e1, e2, e3, e4, e5, e6, e7, e8, e9⟩ := q6 C1 M1 (P + 1) S (ri.eqv (fun j _ _ => p4 _ (by omega))) p3 (fun i hi => by rw [p4 63 (by omega)]; exact o i hi) (by omega) (by rw [p5 22 (by decide)]; omega)
    refine ⟨C2, M2, s + 1, by omega, fun n e he => ?_, fun n => ?_, by rw [show P + (N + 1) = P + 1 + N by omega]; exact e4, e5, fun c hc => (e6 c hc).trans (p4 c (by omega)), fun h => by omega, (show stkK d M M1 from ⟨fun j _ => by rw [p6 16 (by decide) (by omega), p6 17 (by decide) (by omega), p6 18 (by decide) (by omega)]; exact ⟨rfl, rfl, rfl⟩, fun c c1 c2 => p6 c c1 (by omega), fun j j1 _ _ => p5 j j1⟩).trans e8, by rw [p5 22 (by decide)] at e9; omega⟩
    · have := e2 n e he
      rw [it_s1 (by omega)] at this
      have da' := (ri.2 a ha (by omega)).2.2.2.2
      have bl := blk_ev hi ri ha (by omega)
      rw [if_neg (by omega)] at bl
      rw [show n + (it g b - it g a) = n + (it g b - (it g a + 1)) + 1 by omega, f_X5_addItems_L3, if_neg (by omega), if_neg (by omega), ck_pos ⟨by omega, by omega⟩, Int.toNat_natCast, da', da, if_pos rfl]
      unfold f_X5_addItem
      rw [bl, Option.bind_some, if_pos rfl, p1, Option.bind_some, Option.bind_some, ck_pos ⟨by omega, by omega⟩, show ((it g a : Nat) : Int) + 1 = ((it g a + 1 : Nat) : Int) by omega]
      exact this
    · rw [show n + (s + 1) = n + s + 1 by omega, go_R (by rw [ve]; exact ha) (by omega)]
      unfold f_X11_goesThrough
      rw [r0 (by omega), ve, Option.bind_some, if_neg (by omega), if_neg (by omega), if_neg (by omega), p2, Option.bind_some, ck_pos ⟨by omega, by omega⟩, Option.bind_some, show (a : Int) + 1 = ((a + 1 : Nat) : Int) by omega]
      exact e3 n
  · obtain ⟨q11, q12, q13, q14, q15, q16⟩ := q1
    obtain ⟨q21, q22, q23, q24, q25, q26⟩ := q2
    have c60 := hi.t60 hc
    have ba := hi.it30 ha (by omega)
    have qa := (hi.2.2.2.2 a ha).2
    obtain ⟨t, ht, t1⟩ : ∃ t : Nat, t = (if rk g a = 2 then (g (127 + 4 * a)).toNat else 1) ∧ 1 ≤ t := ⟨_, rfl, by split <;> omega⟩
    rw [← ht]
    have dsc := dp_s g c
    have dc : dp g (c + 1) = (d : Int) := by
      rw [if_neg (by omega), if_pos c4] at dsc
      omega
    refine ⟨by omega, q22, q23, fun h u u1 u2 => ?_, fun h => ?_, fun C M P S ri v o hP h22 => ?_⟩
    · have h1 : t * K = 0 := by omega
      have K0 : K = 0 := by
        rcases Nat.mul_eq_zero.mp h1 with y | y
        · omega
        · exact y
      by_cases y : u = a
      · rw [y]; omega
      · by_cases y2 : u < c
        · exact q14 K0 u (by omega) y2
        · by_cases y3 : u = c
          · rw [y3, c4]; omega
          · exact q24 (by omega) u (by omega) u2
    · by_cases y : K = 0
      · rw [y, Nat.mul_zero] at h
        obtain ⟨u, u1, u2, u3⟩ := q25 (by omega)
        exact ⟨u, by omega, u2, u3⟩
      · obtain ⟨u, u1, u2, u3⟩ := q15 (by omega)
        exact ⟨u, by omega, by omega, u3⟩
    · have eb : (b - a) * wt d = (c + 1 - a) * wt d + (b - (c + 1)) * wt d := by
        rw [show b - a = (c + 1 - a) + (b - (c + 1)) by omega, Nat.add_mul]
      rw [eb] at h22 ⊢
      have B := blk_run (C := C) (M := M) (P := P) (S := S) w q16 q14 q15 ha da hk hac hc c4 dc din hd ri v o (by rw [← ht]; omega) (by omega)
      rw [← ht] at B
      obtain ⟨C1, M1, s1, b1, b2, b3, b4, b5, b6, b7, b8, b9⟩ := B
      have ri1 : RSi C1 5 g := ri.eqv (fun j _ _ => b6 _ (by omega))
      obtain ⟨C2, M2, s2, e1, e2, e3, e4, e5, e6, e7, e8, e9⟩ := q26 C1 M1 (P + t * K) S ri1 b4 b5 (by omega) (by omega)
      have m1 := it_mono g (c - a) (a + 1)
      rw [show a + 1 + (c - a) = c + 1 by omega, it_s1 (by omega)] at m1
      have m2 := it_mono g (b - (c + 1)) (c + 1)
      rw [show c + 1 + (b - (c + 1)) = b by omega] at m2
      refine ⟨C2, M2, s1 + s2, by omega, fun n e he => ?_, fun n => ?_, by rw [← Nat.add_assoc]; exact e4, e5, fun x hx => (e6 x hx).trans (b6 x hx), fun h x hx => (e7 (by omega) x hx).trans (b7 (by omega) x hx), b8.trans e8, by omega⟩
      · have da' := (ri.2 a ha (by omega)).2.2.2.2
        have sk := L_skipC hi ri1 (g_X5_addItems (5 - d)) (a := a) (c := c) (d := d) (x := (S.length : Nat)) (e := e) hc (by omega) din (n + (it g b - it g (c + 1))) (c - a) (a + 1) (by omega) (by omega)
        rw [it_s1 (show rk g a ≠ 4 by omega)] at sk
        rw [show n + (it g b - it g a) = n + (it g b - it g (c + 1)) + (it g (c + 1) - (it g a + 1)) + 1 by omega, f_X5_addItems_L3, if_neg (by omega), if_neg (by omega), ck_pos ⟨by omega, by omega⟩, Int.toNat_natCast, da', da, if_pos rfl, b2, Option.bind_some, ck_pos ⟨by omega, by omega⟩, show ((it g a : Nat) : Int) + 1 = ((it g a + 1 : Nat) : Int) by omega, sk]
        exact e2 n e he
      · rw [show n + (s1 + s2) = n + s2 + s1 by omega, b3]
        exact e3 n
/-- the reference's overlap of neighbours -/
theorem L_cov {M : Mem} {k : Nat} {L1 L0 : List (Int × Int)} (hk : k + 1 ≤ 60) (p1 : PcT M (k + 1) L1) (p0 : PcT M k L0) (l1 : L1.length ≤ 4) (l0 : L0.length ≤ 4) : ∀ (q j n : Nat) (v : Int), j + q = 4 → q < n → j ≤ L1.length ∨ True → f_X11_commonOverlap_L4 ((k + 1 : Nat) : Int) M n v (j : Int) = some (covr v (L1.drop j) (L0.drop j)) := by
  intro q
  induction q with
  | zero =>
    intro j n v hj hn _
    obtain ⟨n, rfl⟩ := nat_ex hn
    rw [List.drop_eq_nil_of_le (by omega), covr_n]
    simp only [f_X11_commonOverlap_L4]
    rw [ck_pos ⟨by omega, by omega⟩, Int.toNat_natCast, p1.1, if_pos (by omega)]
  | succ q ih =>
    intro j n v hj hn _
    obtain ⟨n, rfl⟩ := nat_ex hn
    simp only [f_X11_commonOverlap_L4]
    rw [ck_pos ⟨by omega, by omega⟩, Int.toNat_natCast, p1.1]
    by_cases y : L1.length ≤ j
    · rw [if_pos (by omega), List.drop_eq_nil_of_le y, covr_n]
    · rw [if_neg (by omega), ck_pos ⟨by omega, by omega⟩, ck_pos ⟨by omega, by omega⟩, show (((k + 1 : Nat) : Int) - 1).toNat = k by omega, p0.1]
      by_cases u : L0.length ≤ j
      · rw [if_pos (by omega), List.drop_eq_nil_of_le u, covr_n2]
      · rw [if_neg (by omega), ck_pos ⟨by omega, by omega⟩, ck_pos ⟨by omega, by omega⟩, ck_pos ⟨by omega, by omega⟩, ck_pos ⟨by omega, by omega⟩, ck_pos ⟨by omega, by omega⟩, ck_pos ⟨by omega, by omega⟩, show (4 * ((k + 1 : Nat) : Int) + (j : Int)).toNat = 4 * (k + 1) + j by omega, show (4 * (((k + 1 : Nat) : Int) - 1) + (j : Int)).toNat = 4 * k + j by omega]
        have e1 := p1.2 j (by omega)
        have e0 := p0.2 j (by omega)
        have g1 : L1.getD j (0, 0) = L1[j]'(by omega) := by rw [List.getD_eq_getElem?_getD, List.getElem?_eq_getElem (by omega)]; rfl
        have g0 : L0.getD j (0, 0) = L0[j]'(by omega) := by rw [List.getD_eq_getElem?_getD, List.getElem?_eq_getElem (by omega)]; rfl
        rw [e1.1, e1.2, e0.1, List.drop_eq_getElem_cons (by omega), List.drop_eq_getElem_cons (show j < L0.length by omega), covr_c, ← g1, ← g0]
        by_cases x : (L1.getD j (0, 0)).1 = (L0.getD j (0, 0)).1
        · rw [if_pos x, if_pos x, ck_pos ⟨by omega, by omega⟩, show (j : Int) + 1 = ((j + 1 : Nat) : Int) by omega]
          exact ih (j + 1) n _ (by omega) (by omega) (Or.inr trivial)
        · rw [if_neg x, if_neg x]
