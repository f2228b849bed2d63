/-! the class writes its items -/
def cl : Nat → List Int
  | 0 => []
  | k + 1 => [125, 59] ++ cl k
theorem cl_len : ∀ k : Nat, (cl k).length = 2 * k := by
  intro k
  induction k with
  | zero => rfl
  | succ k ih => rw [cl, List.length_append, ih]; simp; omega
theorem cl_snoc : ∀ k : Nat, cl (k + 1) = cl k ++ [125, 59] := by
  intro k
  induction k with
  | zero => rfl
  | succ k ih =>
    show [125, 59] ++ cl (k + 1) = ([125, 59] ++ cl k) ++ [125, 59]
    rw [ih, List.append_assoc]
theorem wd22 : wdT 22 = [125, 59] := by decide +kernel
theorem L_cl {x : Nat} (hx : x < 100) : ∀ (k j n : Nat) (M : Mem) (L : List Int), j + k = x → k < n → outC M L → L.length + 2 * k ≤ 1000 → ∃ M' : Mem, f_X4_closeBlocks_L2 (x : Int) n (j : Int) M = some M' ∧ outC M' (L ++ cl k) ∧ keepOC M M' := by
  intro k
  induction k with
  | zero =>
    intro j n M L hj hn ho _
    obtain ⟨n, rfl⟩ := nat_ex hn
    refine ⟨M, ?_, by rw [cl, List.append_nil]; exact ho, keepOC.rfl⟩
    simp only [f_X4_closeBlocks_L2]
    rw [if_pos (by omega)]
  | succ k ih =>
    intro j n M L hj hn ho hL
    obtain ⟨n, rfl⟩ := nat_ex hn
    obtain ⟨M1, a1, a2, a3⟩ := put_C ho (by omega) (x := 125) ⟨by omega, by omega⟩
    obtain ⟨M2, b1, b2, b3⟩ := put_C a2 (by rw [List.length_append, List.length_singleton]; omega) (x := 59) ⟨by omega, by omega⟩
    obtain ⟨M', c1, c2, c3⟩ := ih (j + 1) n M2 _ (by omega) (by omega) b2 (by rw [List.length_append, List.length_append, List.length_singleton, List.length_singleton]; omega)
    refine ⟨M', ?_, by rw [cl, show L ++ ([125, 59] ++ cl k) = L ++ [125] ++ [59] ++ cl k by simp]; exact c2, a3.trans (b3.trans c3)⟩
    simp only [f_X4_closeBlocks_L2]
    rw [if_neg (by omega), a1, Option.bind_some, b1, Option.bind_some, ck_pos ⟨by omega, by omega⟩, show (j : Int) + 1 = ((j + 1 : Nat) : Int) by omega]
    exact c1
theorem close_C {x : Nat} (hx : x < 100) {M : Mem} {L : List Int} (ho : outC M L) (hL : L.length + 2 * x ≤ 1000) : ∃ M' : Mem, f_X4_closeBlocks (x : Int) M = some M' ∧ outC M' (L ++ cl x) ∧ keepOC M M' :=
  L_cl hx x 0 jFuel M L (by omega) (jF (by omega)) ho hL
theorem headC {M : Mem} {g : Row} (hl : WFl g) (hi : WFi g) (r : RS M 5 g) {i : Nat} (h8 : (i : Int) < g 8) (h4 : rk g i ≠ 4) {L : List Int} (ho : outC M L) (hL : L.length + (rT g i).length ≤ 1000) :
    ∃ M' : Mem, f_X4_writeHead 5 (it g i : Nat) M = some M' ∧ outC M' (L ++ (wdT (12 + (rk g i).toNat) ++ dg (g (127 + 4 * i)).toNat)) ∧ keepOC M M' := by
  have b := hi.it30 h8 h4
  obtain ⟨c1, c2, _⟩ := r.2.2.2 i h8 h4
  have h5 := hl.2.2.2.2.2.1
  have h6 := hl.2.2.2.2.2.2.1
  have bs : ∀ q : Option Mem, (q.bind fun M48 => some M48) = q := fun q => by cases q <;> rfl
  have go : ∀ w : Nat, w < 23 → 0 ≤ g (127 + 4 * i) → g (127 + 4 * i) < 1000 → L.length + (wdT w ++ dg (g (127 + 4 * i)).toNat).length ≤ 1000 → ∃ M' : Mem, ((f_X4_putText w M).bind fun M65 => f_X4_putNumber (M65 (5 + 19) (it g i)) M65) = some M' ∧ outC M' (L ++ (wdT w ++ dg (g (127 + 4 * i)).toNat)) ∧ keepOC M M' := by
    intro w hw n0 n1 hT
    rw [List.length_append] at hT
    obtain ⟨M1, a1, a2, a3⟩ := wd_C hw M L ho (by omega)
    obtain ⟨M2, b1, b2, b3⟩ := num_C (x := (g (127 + 4 * i)).toNat) (by omega) M1 _ a2 (by rw [List.length_append]; omega)
    rw [show (((g (127 + 4 * i)).toNat : Nat) : Int) = g (127 + 4 * i) by omega] at b1
    refine ⟨M2, ?_, by rw [← List.append_assoc]; exact b2, a3.trans b3⟩
    rw [a1, Option.bind_some, a3 (5 + 19) (by decide) (by decide), c2, b1]
  unfold f_X4_writeHead
  rw [ck_pos ⟨by omega, by omega⟩]
  simp only [jn, bs, Int.toNat_natCast]
  rw [c1]
  unfold rT at hL
  rcases (hi.2.2.2.2 i h8).2 with w | w | w | w | w
  · rw [if_pos w.1] at hL
    rw [if_pos w.1, w.1]
    simp only [List.length_append] at hL
    exact go 12 (by decide) (by omega) (by omega) (by rw [List.length_append]; omega)
  · rw [if_neg (by omega), if_pos w.1] at hL
    rw [if_neg (by omega), if_pos w.1, w.1]
    simp only [List.length_append] at hL
    exact go 13 (by decide) (by omega) (by omega) (by rw [List.length_append]; omega)
  · rw [if_neg (by omega), if_neg (by omega), if_neg (by omega), if_pos w.1] at hL
    rw [if_neg (by omega), if_neg (by omega), if_pos w.1, w.1]
    simp only [List.length_append] at hL
    exact go 14 (by decide) (by omega) (by omega) (by rw [List.length_append]; omega)
  · rw [if_neg (by omega), if_neg (by omega), if_neg (by omega), if_neg (by omega)] at hL
    rw [if_neg (by omega), if_neg (by omega), if_neg (by omega), w.1]
    simp only [List.length_append] at hL
    exact go 15 (by decide) (by omega) (by omega) (by rw [List.length_append]; omega)
  · exact absurd w.1 h4
theorem frmC {M : Mem} {g : Row} (hl : WFl g) (hi : WFi g) (r : RS M 5 g) {i : Nat} (h8 : (i : Int) < g 8) (hk : rk g i = 0 ∨ rk g i = 1) {L : List Int} (ho : outC M L) (hL : L.length + (if rk g i = 0 then tl0 g i else [32] ++ dg (g (128 + 4 * i)).toNat).length ≤ 1000) :
    ∃ M' : Mem, f_X4_writeFrames 5 (it g i : Nat) 5 M = some M' ∧ outC M' (L ++ (if rk g i = 0 then tl0 g i else [32] ++ dg (g (128 + 4 * i)).toNat)) ∧ keepOC M M' := by
  have h4 : rk g i ≠ 4 := by omega
  have b := hi.it30 h8 h4
  obtain ⟨c1, c2, c3, c4, c5⟩ := r.2.2.2 i h8 h4
  have h5 := hl.2.2.2.2.2.1
  have bs : ∀ q : Option Mem, (q.bind fun M48 => some M48) = q := fun q => by cases q <;> rfl
  have fr : ∀ N : Mem, keepOC M N → inR (rL g i - rF g i) → inR (rL g i - rF g i + 1) → f_X2_framesOf 5 (it g i : Nat) N = some (rL g i - rF g i + 1) := by
    intro N kN i1 i2
    have e17 : N (5 + 17) 0 = (it g (g 8).toNat : Nat) := by rw [kN (5 + 17) (by decide) (by decide)]; exact r.2.2.1
    unfold f_X2_framesOf
    rw [if_neg (by omega), e17, if_neg (by omega), ck_pos ⟨by omega, by omega⟩, Int.toNat_natCast, kN (5 + 21) (by decide) (by decide), kN (5 + 20) (by decide) (by decide), c3, c4, ck_pos i1, ck_pos i2]
  unfold f_X4_writeFrames
  simp only [bs]
  rw [ck_pos ⟨by omega, by omega⟩, Int.toNat_natCast, c1]
  rcases (hi.2.2.2.2 i h8).2 with w | w | w | w | w
  · rw [if_pos w.1] at hL ⊢
    have ef : rF g i = g (128 + 4 * i) := by unfold rF; rw [if_pos w.1]
    have el : rL g i = g (129 + 4 * i) := by unfold rL; rw [if_pos w.1]
    have ll := (hl.2.2.2.2.2.2.2.2.1 (g (127 + 4 * i)).toNat (by omega)).2
    obtain ⟨t, ht⟩ : ∃ t : Nat, g (127 + 4 * i) = (t : Int) := ⟨(g (127 + 4 * i)).toNat, by omega⟩
    have le : f_X3_lengthOf 5 (M (5 + 19) (it g i)) M = some (g (13 + 2 * (g (127 + 4 * i)).toNat)) := by
      rw [c2, ht, lenC hl r.1 (by omega), Int.toNat_natCast]
    rw [if_neg (by omega), fr M keepOC.rfl (by rw [ef, el]; exact ⟨by omega, by omega⟩) (by rw [ef, el]; exact ⟨by omega, by omega⟩), Option.bind_some, le, Option.bind_some, ef, el]
    unfold tl0 at hL ⊢
    by_cases f : full g i
    · rw [if_pos f] at hL ⊢
      rw [if_pos (by have := f.1; have := f.2; omega)]
      exact ⟨M, rfl, by rw [List.append_nil]; exact ho, keepOC.rfl⟩
    · rw [if_neg f] at hL ⊢
      rw [if_neg (fun z => f ⟨by omega, by omega⟩)]
      simp only [List.length_append] at hL
      obtain ⟨M1, a1, a2, a3⟩ := wd_C (w := 16) (by decide) M L ho (by omega)
      obtain ⟨M2, b1, b2, b3⟩ := num_C (x := (g (128 + 4 * i)).toNat) (by omega) M1 _ a2 (by rw [List.length_append]; omega)
      obtain ⟨M3, d1, d2, d3⟩ := wd_C (w := 17) (by decide) M2 _ b2 (by simp only [List.length_append]; omega)
      obtain ⟨M4, f1, f2, f3⟩ := num_C (x := (g (129 + 4 * i)).toNat) (by omega) M3 _ d2 (by simp only [List.length_append]; omega)
      rw [show (((g (128 + 4 * i)).toNat : Nat) : Int) = g (128 + 4 * i) by omega] at b1
      rw [show (((g (129 + 4 * i)).toNat : Nat) : Int) = g (129 + 4 * i) by omega] at f1
      have k3 := a3.trans (b3.trans d3)
      refine ⟨M4, ?_, ?_, k3.trans f3⟩
      · rw [a1, Option.bind_some, a3 (5 + 20) (by decide) (by decide), c3, ef, b1, Option.bind_some, d1, Option.bind_some, k3 (5 + 21) (by decide) (by decide), c4, el, f1]
      · simp only [List.append_assoc] at f2 ⊢; exact f2
  · have n0 : ¬ rk g i = 0 := by omega
    rw [if_neg n0] at hL ⊢
    have ef : rF g i = 0 := by unfold rF; rw [if_neg n0]
    have el : rL g i = g (128 + 4 * i) - 1 := by unfold rL; rw [if_neg n0, if_pos w.1]
    simp only [List.length_append, List.length_singleton] at hL
    obtain ⟨M1, a1, a2, a3⟩ := put_C ho (by omega) (x := 32) ⟨by omega, by omega⟩
    obtain ⟨M2, b1, b2, b3⟩ := num_C (x := (g (128 + 4 * i)).toNat) (by omega) M1 _ a2 (by rw [List.length_append, List.length_singleton]; omega)
    rw [show (((g (128 + 4 * i)).toNat : Nat) : Int) = g (128 + 4 * i) by omega] at b1
    refine ⟨M2, ?_, by rw [← List.append_assoc]; exact b2, a3.trans b3⟩
    rw [if_pos w.1, a1, Option.bind_some, fr M1 a3 (by rw [ef, el]; exact ⟨by omega, by omega⟩) (by rw [ef, el]; exact ⟨by omega, by omega⟩), Option.bind_some, ef, el, show g (128 + 4 * i) - 1 - 0 + 1 = g (128 + 4 * i) by omega, b1]
  all_goals omega
theorem L_items_C {M0 : Mem} {g : Row} (hl : WFl g) (hi : WFi g) (r : RS M0 5 g) : ∀ (k i n : Nat) (M : Mem) (L : List Int) (d : Nat), (i : Int) + k = g 8 → k < n → keepOC M0 M → outC M L → dp g i ≤ (d : Int) → d ≤ 5 → (L ++ cl ((d : Int) - dp g i).toNat ++ rTs g k i).length ≤ 1000 →
    ∃ M' : Mem, f_X4_writeItems_L10 5 5 n (d : Int) (it g i : Nat) M = some M' ∧ keepOC M0 M' ∧ outC M' (L ++ cl ((d : Int) - dp g i).toNat ++ rTs g k i) := by
  have h8 := hi.1
  have bs : ∀ q : Option Mem, (q.bind fun M48 => some M48) = q := fun q => by cases q <;> rfl
  intro k
  induction k with
  | zero =>
    intro i n M L d hj hn hk ho hd h5 hL
    obtain ⟨n, rfl⟩ := nat_ex hn
    have rM : RS M 5 g := r.eqv (fun j _ _ => hk _ (by omega) (by omega))
    have e0 : dp g i = 0 := by rw [show i = (g 8).toNat by omega]; exact hi.2.1
    rw [rTs, List.append_nil] at hL ⊢
    rw [e0, show ((d : Int) - 0).toNat = d by omega] at hL ⊢
    rw [List.length_append, cl_len] at hL
    obtain ⟨M1, a1, a2, a3⟩ := close_C (x := d) (by omega) ho (by omega)
    refine ⟨M1, ?_, hk.trans a3, a2⟩
    simp only [f_X4_writeItems_L10, rM.2.2.1]
    rw [show (g 8).toNat = i by omega, if_pos (by omega), a1]; rfl
  | succ k ih =>
    intro i n M L d hj hn hk ho hd h5 hL
    have dd := (hi.2.2.2.2 i (by omega)).1
    have s := dp_s g i
    by_cases h4 : rk g i = 4
    · rw [if_neg (by omega), if_pos h4] at s
      have d4 : 0 < dp g i := by have := (hi.2.2.2.2 i (by omega)).2; omega
      have rt : rT g i = [125, 59] := by unfold rT; rw [if_neg (by omega), if_neg (by omega), if_pos h4, wd22]
      have e : L ++ cl ((d : Int) - dp g i).toNat ++ rTs g (k + 1) i = L ++ cl ((d : Int) - dp g (i + 1)).toNat ++ rTs g k (i + 1) := by
        rw [rTs, rt, show ((d : Int) - dp g (i + 1)).toNat = ((d : Int) - dp g i).toNat + 1 by omega, cl_snoc]
        simp only [List.append_assoc]
      rw [e] at hL ⊢
      rw [← it_s4 h4]
      exact ih (i + 1) n M L d (by omega) (by omega) hk ho (by omega) h5 hL
    · obtain ⟨n, rfl⟩ := nat_ex hn
      have rM : RS M 5 g := r.eqv (fun j _ _ => hk _ (by omega) (by omega))
      have b := hi.it30 (i := i) (by omega) h4
      have c5 := (rM.2.2.2 i (by omega) h4).2.2.2.2
      rw [rTs, ← List.append_assoc] at hL ⊢
      have l2 := hL
      rw [List.length_append, List.length_append, List.length_append, cl_len] at l2
      have pend : ((((d : Int) - dp g i).toNat : Nat) : Int) = (d : Int) - dp g i := by omega
      obtain ⟨M1, a1, a2, a3⟩ := close_C (x := ((d : Int) - dp g i).toNat) (by omega) ho (by omega)
      rw [pend] at a1
      have r1 : RS M1 5 g := rM.eqv (fun j _ _ => a3 _ (by omega) (by omega))
      obtain ⟨M2, b1, b2, b3⟩ := headC hl hi r1 (i := i) (by omega) h4 a2 (by rw [List.length_append, cl_len]; omega)
      have r2 : RS M2 5 g := r1.eqv (fun j _ _ => b3 _ (by omega) (by omega))
      have c5' : M1 (5 + 22) (it g i) = dp g i := (r1.2.2.2 i (by omega) h4).2.2.2.2
      simp only [f_X4_writeItems_L10, rM.2.2.1]
      rw [if_neg (by omega), ck_pos ⟨by omega, by omega⟩, Int.toNat_natCast, c5, ck_pos ⟨by omega, by omega⟩, a1, Option.bind_some, b1, Option.bind_some, blk_ev hi r2.2.2 (by omega) h4, Option.bind_some, c5', show ((it g i : Nat) : Int) + 1 = (it g (i + 1) : Nat) by rw [it_s1 h4]; omega]
      have i30 : ((it g (i + 1) : Nat) : Int) ≤ 30 := by rw [it_s1 h4]; omega
      by_cases q : rk g i = 2 ∨ rk g i = 3
      · have rt : rT g i = wdT (12 + (rk g i).toNat) ++ dg (g (127 + 4 * i)).toNat ++ [123] := by
          unfold rT
          rcases q with q | q
          · rw [if_neg (by omega), if_neg (by omega), if_neg (by omega), if_pos q, q]; rfl
          · rw [if_neg (by omega), if_neg (by omega), if_neg (by omega), if_neg (by omega), q]; rfl
        rw [if_pos q, if_neg (by omega)] at s
        have l3 := congrArg List.length rt
        rw [List.length_append, List.length_singleton] at l3
        obtain ⟨M3, f1, f2, f3⟩ := put_C b2 (by rw [List.length_append, List.length_append, cl_len]; omega) (x := 123) ⟨by omega, by omega⟩
        rw [if_pos q, if_neg (by decide), f1, Option.bind_some, ck_pos ⟨by omega, by omega⟩, ck_pos ⟨by omega, by omega⟩, show dp g i + 1 = (((dp g i).toNat + 1 : Nat) : Int) by omega]
        have e : (L ++ cl ((d : Int) - dp g i).toNat ++ (wdT (12 + (rk g i).toNat) ++ dg (g (127 + 4 * i)).toNat)) ++ [123] ++ cl ((((dp g i).toNat + 1 : Nat) : Int) - dp g (i + 1)).toNat ++ rTs g k (i + 1) = L ++ cl ((d : Int) - dp g i).toNat ++ rT g i ++ rTs g k (i + 1) := by
          rw [rt, show ((((dp g i).toNat + 1 : Nat) : Int) - dp g (i + 1)).toNat = 0 by omega, cl]
          simp only [List.append_assoc, List.nil_append, List.append_nil]
        have := ih (i + 1) n M3 _ ((dp g i).toNat + 1) (by omega) (by omega) (hk.trans (a3.trans (b3.trans f3))) f2 (by omega) (by omega) (by rw [e]; exact hL)
        rw [e] at this
        exact this
      · have k01 : rk g i = 0 ∨ rk g i = 1 := by have := hi.kind (i := i) (by omega); omega
        have rt : rT g i = wdT (12 + (rk g i).toNat) ++ dg (g (127 + 4 * i)).toNat ++ (if rk g i = 0 then tl0 g i else [32] ++ dg (g (128 + 4 * i)).toNat) ++ [59] := by
          unfold rT
          rcases k01 with w | w
          · rw [if_pos w, if_pos w, w]; rfl
          · rw [if_neg (by omega), if_pos w, if_neg (by omega), w]; rfl
        rw [if_neg q, if_neg h4] at s
        have l3 := congrArg List.length rt
        rw [List.length_append, List.length_append, List.length_singleton] at l3
        obtain ⟨M3, f1, f2, f3⟩ := frmC hl hi r2 (i := i) (by omega) k01 b2 (by rw [List.length_append, List.length_append, cl_len]; omega)
        obtain ⟨M4, g1, g2, g3⟩ := put_C f2 (by rw [List.length_append, List.length_append, List.length_append, cl_len]; omega) (x := 59) ⟨by omega, by omega⟩
        rw [if_neg q, if_pos rfl, f1, Option.bind_some, g1, Option.bind_some, ck_pos ⟨by omega, by omega⟩]
        have e : (L ++ cl ((d : Int) - dp g i).toNat ++ (wdT (12 + (rk g i).toNat) ++ dg (g (127 + 4 * i)).toNat)) ++ (if rk g i = 0 then tl0 g i else [32] ++ dg (g (128 + 4 * i)).toNat) ++ [59] ++ cl ((((dp g i).toNat : Nat) : Int) - dp g (i + 1)).toNat ++ rTs g k (i + 1) = L ++ cl ((d : Int) - dp g i).toNat ++ rT g i ++ rTs g k (i + 1) := by
          rw [rt, show ((((dp g i).toNat : Nat) : Int) - dp g (i + 1)).toNat = 0 by omega, cl]
          simp only [List.append_assoc, List.nil_append, List.append_nil]
        have := ih (i + 1) n M4 _ (dp g i).toNat (by omega) (by omega) (hk.trans (a3.trans (b3.trans (f3.trans g3)))) g2 (by omega) (by omega) (by rw [e]; exact hL)
        rw [e] at this
        rw [show (((dp g i).toNat : Nat) : Int) = dp g i by omega] at this
        exact this
theorem rTs_len {g : Row} (hl : WFl g) (hi : WFi g) : ∀ (k i : Nat), (i : Int) + k = g 8 → (rTs g k i).length + 24 * it g i ≤ 24 * it g (g 8).toNat + 2 * k := by
  intro k
  induction k with
  | zero =>
    intro i h
    rw [show (g 8).toNat = i by omega]
    show 0 + _ ≤ _
    omega
  | succ k ih =>
    intro i h
    have e := ih (i + 1) (by omega)
    have l := rT_len hl hi (i := i) (by omega)
    rw [rTs, List.length_append]
    by_cases q : rk g i = 4
    · rw [if_pos q] at l
      rw [it_s4 q] at e
      omega
    · rw [if_neg q] at l
      rw [it_s1 q] at e
      omega
theorem p_writeReel {k : Nat} {Mc Mr : Mem} (h : Rel k Mc Mr) : ∃ Mc' Mr' : Mem, st_writeReel Mc Mr Mc' Mr' ∧ Rel (k + 1) Mc' Mr' := by
  have hl := h.wf.1
  have hi := h.wf.2.2
  have h8 := hi.1
  have h30 := hi.2.2.1
  have ll := rTs_len hl hi (Mr 1 8).toNat 0 (by omega)
  have oC : outC (upm Mc 3 1 0) [] := ⟨upm_hit, fun k x hx => by simp at hx⟩
  have kC : keepOC Mc (upm Mc 3 1 0) := fun c c1 c2 => upm_ne c1
  obtain ⟨M0, hM0⟩ : ∃ M0 : Mem, M0 = upm Mr 0 7 0 := ⟨_, rfl⟩
  have k1 : M0 1 = Mr 1 := by rw [hM0]; exact thr_ne _ _ (by decide)
  have oR : outR (upm M0 0 51 0) [] := ⟨upm_hit, fun k x hx => by simp at hx⟩
  have kR : keepOR M0 (upm M0 0 51 0) := ⟨fun c c1 c2 => upm_ne c1, fun j hj => upm_sl hj⟩
  have bound : (rTs (Mr 1) (Mr 1 8).toNat 0).length ≤ 1000 := by
    have : it (Mr 1) 0 = 0 := rfl
    omega
  obtain ⟨Mc', a1, a2, a3⟩ := L_items_C hl hi h.rs (Mr 1 8).toNat 0 jFuel (upm Mc 3 1 0) [] 0 (by omega) (jF (by omega)) kC oC (Int.le_refl 0) (by omega) bound
  obtain ⟨Mr', b1, b2, b3⟩ := L_rows_R (M0 := M0) (by rw [k1]; exact hl) (by rw [k1]; exact hi) (Mr 1 8).toNat 0 jFuel (upm M0 0 51 0) [] (by rw [k1]; omega) (jF (by omega)) kR oR (by rw [k1]; exact bound)
  rw [k1] at b1 b3
  have a3 : outC Mc' (rTs (Mr 1) (Mr 1 8).toNat 0) := a3
  have b3 : outR Mr' (rTs (Mr 1) (Mr 1 8).toNat 0) := b3
  refine ⟨Mc', Mr', ⟨((rTs (Mr 1) (Mr 1 8).toNat 0).length : Int), ?_, ?_⟩, (h.scr keepC.rfl (by rw [hM0]; exact keepR.thr) (Nat.le_refl k)).out (Mr := M0) a2 b2 a3 b3 bound⟩
  · unfold f_X10_writeReel f_X4_writeItems
    have a1 : f_X4_writeItems_L10 5 5 jFuel 0 0 (upm Mc 3 1 0) = some Mc' := a1
    rw [lt_eq, a1, Option.bind_some, a3.1]
  · unfold f_X11_writeReel
    rw [lt_eq, lt_eq, ← hM0]
    exact b1
