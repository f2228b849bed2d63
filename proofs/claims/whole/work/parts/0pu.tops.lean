/-! refusals; the row and the item of a top -/
theorem both_ref {k : Nat} {Mc Mr M : Mem} (h : Rel k Mc Mr) (hk : k < 512) {c : Nat} (hc : 1 ≤ c ∧ c ≤ 6) (hr : keepR Mr M) : ∃ Mc' M' : Mem, f_X10_refuse (c : Int) Mc = some (-(c : Int), Mc') ∧ f_X11_refuses (c : Int) M = some (-(c : Int), M') ∧ M' 0 7 = M 0 7 ∧ Rel (k + 1) Mc' M' := by
  have ac := h.2.2.2.1 c (by omega)
  have e5 : M 5 = Mr 5 := hr.1 5 (by omega)
  refine ⟨upm Mc 73 c (Mc 73 c + 1), upm M 5 c (Mr 5 c + 1), ?_, ?_, by rw [upm_ne (by decide)], ?_⟩
  · unfold f_X10_refuse
    rw [if_neg (by omega), if_neg (by omega), ck_pos ⟨by omega, by omega⟩, Int.toNat_natCast, ck_pos ⟨by omega, by omega⟩, lt_eq, ck_pos ⟨by omega, by omega⟩]
  · unfold f_X11_refuses
    rw [ck_pos ⟨by omega, by omega⟩, Int.toNat_natCast, e5, ck_pos ⟨by omega, by omega⟩, lt_eq, ck_pos ⟨by omega, by omega⟩]
  · have hs := h.scr (Mr' := M) keepC.rfl hr (Nat.le_refl k)
    have e1 : (upm M 5 c (Mr 5 c + 1)) 1 = M 1 := upm_ne (by decide)
    refine hs.act (fun c q => upm_ne (by omega)) (by rw [upm_ne (by decide)]) (fun c q => upm_ne (by omega)) (fun j q => by rw [upm_ne (by decide)]) (fun i hi => ?_) (hs.2.2.2.2.1.eqv (fun c q => upm_ne (by omega)) (by rw [upm_ne (by decide)]) (upm_ne (by decide))) ?_ ?_ ?_ ?_
    · have q := h.2.2.2.1 i hi
      rw [upm_row, upm_row, updr_ap, updr_ap, e5]
      by_cases z : i = c
      · rw [if_pos z, if_pos z]; omega
      · rw [if_neg z, if_neg z]; omega
    · rw [e1]; exact hs.rs.eqv (fun j _ _ => upm_ne (by omega))
    · rw [e1]; exact hs.wf
    · rw [e1]; exact hs.pc.eqv (fun c _ _ => upm_ne (by omega)) (by rw [upm_ne (by decide)]) (by rw [upm_ne (by decide)])
    · have sp := hs.sp
      unfold RSp at sp ⊢
      rw [e1, upm_ne (by decide), upm_ne (by decide), upm_ne (by decide), upm_ne (by decide)]; exact sp
/-- tops ahead of a row -/
theorem tops_add (g : Row) : ∀ (k j : Nat) (a : Int), tops g k j a = a + tops g k j 0 := by
  intro k
  induction k with
  | zero => intro j a; show a = a + 0; omega
  | succ k ih =>
    intro j a
    show tops g k (j + 1) (ite _ _ _) = a + tops g k (j + 1) (ite _ _ _)
    by_cases c : rk g j ≠ 4 ∧ dp g j = 0
    · rw [if_pos c, if_pos c, ih (j + 1) (a + 1), ih (j + 1) (0 + 1)]; omega
    · rw [if_neg c, if_neg c]; exact ih (j + 1) a
theorem tops_cat (g : Row) : ∀ (k d j : Nat), tops g (k + d) j 0 = tops g k j 0 + tops g d (j + k) 0 := by
  intro k
  induction k with
  | zero => intro d j; rw [Nat.zero_add]; show _ = 0 + tops g d (j + 0) 0; rw [Nat.add_zero]; omega
  | succ k ih =>
    intro d j
    rw [show k + 1 + d = (k + d) + 1 by omega]
    show tops g (k + d) (j + 1) (ite _ _ _) = tops g k (j + 1) (ite _ _ _) + _
    rw [tops_add g (k + d), tops_add g k, ih d (j + 1), show j + 1 + k = j + (k + 1) by omega]
    omega
theorem tops_1 {g : Row} {j : Nat} : tops g (j + 1) 0 0 = tops g j 0 0 + (if rk g j ≠ 4 ∧ dp g j = 0 then 1 else 0) := by
  rw [tops_cat g j 1 0, Nat.zero_add]
  show _ + tops g 0 (j + 1) (ite _ _ _) = _
  show _ + (ite _ _ _ : Int) = _
  split <;> rfl
/-- the row of a top, by the reference -/
theorem L_rowOf {M : Mem} (hi : WFi (M 1)) {x : Int} : ∀ (d j n : Nat), (tops (M 1) j 0 0) + (d : Int) = x → (j : Int) ≤ M 1 8 → dp (M 1) j = 0 → x ≤ tops (M 1) (M 1 8).toNat 0 0 → d < n →
    ∃ r : Nat, f_X11_rowOf_L4 x M n (j : Int) (tops (M 1) j 0 0) = some (r : Int) ∧ (r : Int) ≤ M 1 8 ∧ dp (M 1) r = 0 ∧ tops (M 1) r 0 0 = x := by
  have h8 := hi.1
  intro d
  induction d with
  | zero =>
    intro j n hd hj h0 hx hn
    obtain ⟨n, rfl⟩ := nat_ex hn
    refine ⟨j, ?_, hj, h0, by omega⟩
    simp only [f_X11_rowOf_L4]
    rw [if_pos (by omega)]
  | succ d ih =>
    intro j n hd hj h0 hx hn
    obtain ⟨n, rfl⟩ := nat_ex hn
    have jl : (j : Int) < M 1 8 := by
      apply Decidable.byContradiction
      intro q
      rw [show j = (M 1 8).toNat by omega] at hd
      omega
    have h4 : rk (M 1) j ≠ 4 := by
      intro q
      have := (hi.2.2.2.2 j jl).2
      omega
    obtain ⟨j', e1, e2, e3, e4, e5⟩ := L_beh hi (b := 0) ⟨by omega, by omega⟩ (M 1 8 - j).toNat j jFuel (by omega) (by omega) (jF (by omega))
    have e0 : f_X11_behind (j : Int) M = some (j' : Int) := by
      rw [h0] at e1; exact e1
    have d0 : dp (M 1) j' = 0 := by
      by_cases w : (j' : Int) < M 1 8
      · have := (hi.2.2.2.2 j' w).1; omega
      · rw [show j' = (M 1 8).toNat by omega]; exact hi.2.1
    have t1 := tops_1 (g := M 1) (j := j)
    rw [if_pos ⟨h4, h0⟩] at t1
    have t2 : tops (M 1) j' 0 0 = tops (M 1) (j + 1) 0 0 := by
      have c := tops_cat (M 1) (j + 1) (j' - (j + 1)) 0
      rw [show j + 1 + (j' - (j + 1)) = j' by omega, Nat.zero_add] at c
      have s := tops_skip (M 1) (j' - (j + 1)) 0 (j + 1) 0 (fun t t1 t2 => e5 t (by omega) (by omega))
      rw [Nat.add_zero] at s
      rw [c, s]
      show _ + (0 : Int) = _
      omega
    have tb := tops_b (M 1) j 0 0
    simp only [f_X11_rowOf_L4]
    rw [if_neg (by omega), e0, Option.bind_some, ck_pos ⟨by omega, by omega⟩, show tops (M 1) j 0 0 + 1 = tops (M 1) j' 0 0 by omega]
    exact ih j' n (by omega) e3 d0 hx (by omega)
theorem rowOf_R {M : Mem} (hi : WFi (M 1)) {x : Int} (hx : 0 ≤ x ∧ x ≤ tops (M 1) (M 1 8).toNat 0 0) : ∃ r : Nat, f_X11_rowOf x M = some (r : Int) ∧ (r : Int) ≤ M 1 8 ∧ dp (M 1) r = 0 ∧ tops (M 1) r 0 0 = x := by
  have h8 := hi.1
  have tb := tops_b (M 1) (M 1 8).toNat 0 0
  exact L_rowOf hi (x := x) x.toNat 0 jFuel (by show (0 : Int) + _ = _; omega) (by omega) rfl hx.2 (jF (by omega))
/-- the item of a top, by the class -/
theorem L_topI {M : Mem} {s : Nat} {g : Row} (hi : WFi g) (r : RSi M s g) {t : Nat} (ht : (t : Int) ≤ g 8) (d0 : dp g t = 0) : ∀ (k j n : Nat), j + k = t → (g 8 - t).toNat + k < n → f_X2_topIndex_L4 s (tops g t 0 0) M n (tops g j 0 0) (it g j : Nat) = some ((it g t : Nat) : Int) := by
  have h8 := hi.1
  intro k
  induction k with
  | zero =>
    intro j n hj hn
    obtain ⟨n, rfl⟩ := nat_ex hn
    obtain rfl : j = t := by omega
    simp only [f_X2_topIndex_L4, r.1]
    by_cases z : (j : Int) < g 8
    · have h4 : rk g j ≠ 4 := by
        intro q
        have := (hi.2.2.2.2 j z).2
        omega
      have b := hi.it30 z h4
      rw [if_neg (by omega), ck_pos ⟨by omega, by omega⟩, Int.toNat_natCast, (r.2 j z h4).2.2.2.2, if_pos d0, if_pos trivial]
    · rw [show (g 8).toNat = j by omega, if_pos (by omega)]
  | succ k ih =>
    intro j n hj hn
    have t1 := tops_1 (g := g) (j := j)
    have tb := tops_b g j 0 0
    have t3 : tops g (j + 1) 0 0 ≤ tops g t 0 0 := by
      have c := tops_cat g (j + 1) (t - (j + 1)) 0
      rw [show j + 1 + (t - (j + 1)) = t by omega] at c
      have := (tops_b g (t - (j + 1)) (0 + (j + 1)) 0).1
      omega
    have e := fun n h => ih (j + 1) n (by omega) h
    by_cases h4 : rk g j = 4
    · rw [if_neg (fun q => q.1 h4), Int.add_zero] at t1
      have := e n (by omega)
      rw [t1, it_s4 h4] at this
      exact this
    · obtain ⟨n, rfl⟩ := nat_ex (show (g 8 - t).toNat + (k + 1) < n from hn)
      have b := hi.it30 (i := j) (by omega) h4
      have := e n (by omega)
      rw [it_s1 h4] at this
      simp only [f_X2_topIndex_L4, r.1]
      rw [if_neg (by omega), ck_pos ⟨by omega, by omega⟩, Int.toNat_natCast, (r.2 j (by omega) h4).2.2.2.2]
      by_cases c : dp g j = 0
      · rw [if_pos ⟨h4, c⟩] at t1
        rw [if_pos c, if_neg (by omega), ck_pos ⟨by omega, by omega⟩, ck_pos ⟨by omega, by omega⟩, show ((it g j : Nat) : Int) + 1 = ((it g j + 1 : Nat) : Int) by omega, ← t1]
        exact this
      · rw [if_neg (fun q => c q.2), Int.add_zero] at t1
        rw [if_neg c, ck_pos ⟨by omega, by omega⟩, show ((it g j : Nat) : Int) + 1 = ((it g j + 1 : Nat) : Int) by omega, ← t1]
        exact this
theorem topI_C {M : Mem} {s : Nat} {g : Row} (hi : WFi g) (r : RSi M s g) {t : Nat} (ht : (t : Int) ≤ g 8) (d0 : dp g t = 0) : f_X2_topIndex s (tops g t 0 0) M = some ((it g t : Nat) : Int) := by
  have h8 := hi.1
  exact L_topI hi r ht d0 t 0 jFuel (by omega) (jF (by omega))
