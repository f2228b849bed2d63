/-! one fault, share, pace -/
theorem L_70 {Mc M : Mem} (hl : WFl (M 1)) (hv : WFv (M 1)) (o : PcsOK Mc (M 1)) (pq : PcsEq Mc M) (k2 : ∀ i : Nat, (i : Int) < M 1 9 → M 19 i = wb (M 1) i) {q : Nat} (hq : 1 ≤ q ∧ q ≤ 5) {y : Int} : ∀ (k j n t : Nat), j + k = cd (M 1) Mc (q : Int) → k < n → t < (fl (M 1) Mc (q : Int) k j).length →
    ∃ x : Int × Int, (fl (M 1) Mc (q : Int) k j)[t]? = some x ∧ f_X11_fault_L70 y (wEnd (M 1)) (q : Int) n (t : Int) (j : Int) M = some (if y = 0 then x.1 else x.2, M) := by
  have cb := cd_b (g := M 1) pq.1 hv.1 (q : Int)
  intro k
  induction k with
  | zero => intro j n t _ _ h; exact absurd h (Nat.not_lt_zero t)
  | succ k ih =>
    intro j n t hj hn ht
    obtain ⟨n, rfl⟩ := nat_ex hn
    have fb := fa_b (M 1) Mc (q : Int) j
    have f := isF_R hl hv o pq k2 hq (i := j) (by omega)
    simp only [f_X11_fault_L70, jn]
    rw [f, Option.bind_some, Option.bind_some, bit_eq, Option.bind_some, show (j : Int) + 1 = ((j + 1 : Nat) : Int) by omega]
    rw [fl] at ht ⊢
    rcases fb with z | z
    · rw [if_neg (by omega)] at ht ⊢
      obtain ⟨x, e1, e2⟩ := ih (j + 1) n t (by omega) (by omega) ht
      refine ⟨x, e1, ?_⟩
      have tb := (fl_len (M 1) Mc (q : Int) k (j + 1)).2
      rw [if_pos z, if_pos z, ck_pos ⟨by omega, by omega⟩, ck_pos ⟨by omega, by omega⟩, Int.sub_zero]
      exact e2
    · rw [if_pos z] at ht ⊢
      rw [List.length_cons] at ht
      have tb := (fl_len (M 1) Mc (q : Int) k (j + 1)).2
      have z0 : ¬ fa (M 1) Mc (q : Int) j = 0 := by omega
      rw [if_neg z0]
      by_cases w : t = 0
      · refine ⟨((q : Int), if (q : Int) = 5 then -1 else (j : Int)), by rw [w, List.getElem?_cons_zero], ?_⟩
        rw [if_pos (show (t : Int) ≤ 0 by omega)]
        by_cases y0 : y = 0
        · rw [if_pos y0, if_pos y0]
        · rw [if_neg y0, if_neg y0]
          by_cases q5 : (q : Int) = 5
          · rw [if_pos q5, if_pos q5]
          · rw [if_neg q5, if_neg q5]
      · obtain ⟨x, e1, e2⟩ := ih (j + 1) n (t - 1) (by omega) (by omega) (by omega)
        refine ⟨x, ?_, ?_⟩
        · rw [show t = (t - 1) + 1 by omega]; exact e1
        · rw [if_neg (show ¬ (t : Int) ≤ 0 by omega), if_neg z0, ck_pos ⟨by omega, by omega⟩, ck_pos ⟨by omega, by omega⟩, show (t : Int) - 1 = ((t - 1 : Nat) : Int) by omega]
          exact e2
theorem L_37 {Mc M : Mem} (hl : WFl (M 1)) (hv : WFv (M 1)) (o : PcsOK Mc (M 1)) (pq : PcsEq Mc M) (k2 : ∀ i : Nat, (i : Int) < M 1 9 → M 19 i = wb (M 1) i) {y : Int} : ∀ (r q n t : Nat), q + r = 6 → 1 ≤ q → r < n → t < (flA (M 1) Mc r q).length →
    ∃ x : Int × Int, (flA (M 1) Mc r q)[t]? = some x ∧ f_X11_fault_L37 y (wEnd (M 1)) n (t : Int) (q : Int) M = some (if y = 0 then x.1 else x.2, M) := by
  intro r
  induction r with
  | zero => intro q n t _ _ _ h; exact absurd h (Nat.not_lt_zero t)
  | succ r ih =>
    intro q n t hq h1 hn ht
    obtain ⟨n, rfl⟩ := nat_ex hn
    have ll := flA_len (g := M 1) (Mc := Mc) pq.1 hv.1 (r + 1) q hq h1
    have cb := cd_b (g := M 1) pq.1 hv.1 (q : Int)
    simp only [f_X11_fault_L37]
    rw [fo_R hl hv o pq k2 ⟨h1, by omega⟩, Option.bind_some, Option.bind_some]
    rw [flA, List.length_append] at ht ll
    rw [flA]
    by_cases c : t < (fl (M 1) Mc (q : Int) (cd (M 1) Mc (q : Int)) 0).length
    · rw [if_pos (by omega), List.getElem?_append_left c]
      exact L_70 hl hv o pq k2 ⟨h1, by omega⟩ (cd (M 1) Mc (q : Int)) 0 jFuel t (by omega) (jF (by omega)) c
    · rw [if_neg (by omega), List.getElem?_append_right (by omega), ck_pos ⟨by omega, by omega⟩, ck_pos ⟨by omega, by omega⟩, show (q : Int) + 1 = ((q + 1 : Nat) : Int) by omega, show (t : Int) - ((fl (M 1) Mc (q : Int) (cd (M 1) Mc (q : Int)) 0).length : Nat) = ((t - (fl (M 1) Mc (q : Int) (cd (M 1) Mc (q : Int)) 0).length : Nat) : Int) by omega]
      exact ih (q + 1) n _ (by omega) (by omega) (by omega) (by omega)
theorem p_fault {k : Nat} {Mc Mr : Mem} (h : Rel k Mc Mr) (p q : Int) : ∃ Mc' Mr' : Mem, st_fault p q Mc Mr Mc' Mr' ∧ Rel (k + 1) Mc' Mr' := by
  have hl := h.wf.1
  have hv := h.wf.2.1
  obtain ⟨M1, a1, a2, a3⟩ := fnd_C h
  obtain ⟨M2, b1, b2, b3, b4, b5, b6⟩ := af_R h (M := Mr) rfl
  have ll := flA_len (g := Mr 1) (Mc := Mc) h.n60 hv.1 5 1 (by omega) (by omega)
  have ir : inR ((((flA (Mr 1) Mc 5 1).length : Nat) : Int) - 1) := ⟨by omega, by omega⟩
  by_cases hp : 0 ≤ p ∧ p < (((flA (Mr 1) Mc 5 1).length : Nat) : Int)
  · by_cases hq : 0 ≤ q ∧ q ≤ 1
    · obtain ⟨t, rfl⟩ : ∃ t : Nat, p = (t : Int) := ⟨p.toNat, by omega⟩
      have k2 : (upm M2 0 7 0) 1 = Mr 1 := (thr_ne _ _ (by decide)).trans b4
      obtain ⟨M3, w1, w2, w3⟩ := laysW (M := upm M2 0 7 0) (by rw [k2]; exact hl) (by rw [k2]; exact hv)
      rw [k2] at w1 w3
      have k3 : M3 1 = Mr 1 := (w2 1 (by decide) (by decide)).trans k2
      have pq : PcsEq Mc M3 := b5.eqv (by rw [w2 0 (by decide) (by decide), thr_sl _ _ (by decide)]) (fun c c1 c2 => by rw [w2 c (by omega) (by omega), thr_ne _ _ (by omega)])
      obtain ⟨x, x1, x2⟩ := L_37 (M := M3) (Mc := Mc) (by rw [k3]; exact hl) (by rw [k3]; exact hv) (by rw [k3]; exact h.pc.1) pq (by rw [k3]; exact fun i hi => (w3 i hi).1) (y := q) 5 1 jFuel t (by omega) (by omega) (jF (by omega)) (by rw [k3]; omega)
      rw [k3] at x1 x2
      have cx := a3.2 t x x1
      refine ⟨M1, M3, Or.inl ⟨if q = 0 then x.1 else x.2, ?_, ?_, ?_⟩, h.scr a2.C (b2.trans (keepR.thr.trans w2.R)) (by omega)⟩
      · unfold f_X10_fault
        rw [a1, Option.bind_some, a3.1, (rI_ok hp).1, Option.bind_some, (rR_ok hq).1, Option.bind_some]
        by_cases z : q = 0
        · rw [if_pos z, ck_pos ⟨by omega, by omega⟩, if_pos z, Int.toNat_natCast, cx.1]
        · rw [if_neg z, ck_pos ⟨by omega, by omega⟩, if_neg z, Int.toNat_natCast, cx.2]
      · unfold f_X11_fault
        rw [b1, Option.bind_some]
        simp only []
        rw [ck_pos ir, isIn_eq, if_pos (by omega), Option.bind_some, isIn_eq, if_pos hq, Option.bind_some, gb11, Option.bind_some]
        simp only []
        rw [if_neg (by decide), w1, Option.bind_some]
        exact x2
      · rw [w2 0 (by decide) (by decide)]; exact thr_at _ _
    · refine ⟨M1, upm M2 0 7 2, Or.inr (Or.inr ⟨?_, 0, ?_, thr_at _ _⟩), h.scr a2.C (b2.trans keepR.thr) (by omega)⟩
      · unfold x_X10_fault
        rw [a1, Option.bind_some, a3.1]; exact x2_2 hp hq
      · unfold f_X11_fault
        rw [b1, Option.bind_some]
        simp only []
        rw [ck_pos ir, isIn_eq, if_pos (by omega), Option.bind_some, isIn_eq, if_neg hq, Option.bind_some, gb10, Option.bind_some]
        simp
  · refine ⟨M1, upm M2 0 7 1, Or.inr (Or.inl ⟨?_, 0, ?_, thr_at _ _⟩), h.scr a2.C (b2.trans keepR.thr) (by omega)⟩
    · unfold x_X10_fault
      rw [a1, Option.bind_some, a3.1]; exact x2_1 hp
    · unfold f_X11_fault
      rw [b1, Option.bind_some]
      simp only []
      rw [ck_pos ir, isIn_eq, if_neg (by omega), Option.bind_some, isIn_eq, Option.bind_some, gb0, Option.bind_some]
      simp
/-! numbers that are numbers -/
theorem n64_of {r : UInt64} (h : FP.Core.dIsNaN r = false) : r &&& 0x7fffffffffffffff ≤ 0x7ff0000000000000 := by
  have e := (FP.Core.ne_nan r).1 ((FP.Core.notNaN_iff r).1 h)
  rw [UInt64.le_iff_toNat_le, UInt64.toNat_and]
  have a : (0x7fffffffffffffff : UInt64).toNat = 2 ^ 63 - 1 := by decide
  rw [a, Nat.and_two_pow_sub_one_eq_mod]
  exact e
theorem n32_of {r : UInt32} (h : FP.Core.fIsNaN r = false) : r &&& 0x7fffffff ≤ 0x7f800000 := by
  have e := (FP.Core.ne_nan32 r).1 ((FP.Core.notNaN_iff32 r).1 h)
  rw [UInt32.le_iff_toNat_le, UInt32.toNat_and]
  have a : (0x7fffffff : UInt32).toNat = 2 ^ 31 - 1 := by decide
  rw [a, Nat.and_two_pow_sub_one_eq_mod]
  exact e
theorem jI_ne0 {x : Int} (h : inR x) (h0 : x ≠ 0) : jI x ≠ 0 := by
  intro e
  have := congrArg Int32.toInt e
  rw [jI_toInt h] at this
  exact h0 this
theorem div_ok {a b : Int} (hb : inR b) (h0 : b ≠ 0) : FP.Core.dIsNaN (FP.ddiv (FP.i2d (jI a)) (FP.i2d (jI b))) = false :=
  FP.Core.ddiv_out (FP.Core.DFin.notNaN (FP.Core.i2d_fin _)) (FP.Core.i2d_fin _) (fun z => FP.Core.i2d_ne_zero (jI_ne0 hb h0) ((FP.Core.zero_bits2 _).1 z))
theorem fdiv_ok {a b : Int} (hb : inR b) (h0 : b ≠ 0) : FP.Core.fIsNaN (FP.fdiv (FP.i2f (jI a)) (FP.i2f (jI b))) = false :=
  FP.Core.fdiv_out (FP.Core.FFin.notNaN (FP.Core.i2f_fin _)) (FP.Core.i2f_fin _) (fun z => FP.Core.i2f_ne_zero (jI_ne0 hb h0) ((FP.Core.zero_bits232 _).1 z))
theorem p_pace {k : Nat} {Mc Mr : Mem} (h : Rel k Mc Mr) : ∃ Mc' Mr' : Mem, st_pace Mc Mr Mc' Mr' ∧ Rel (k + 1) Mc' Mr' := by
  have hv := h.wf.2.1
  have h9 := hv.1
  have e6 : Mc 16 0 = Mr 1 9 := h.rs.2.1.1
  have k1 : (upm Mr 0 7 0) 1 = Mr 1 := thr_ne _ _ (by decide)
  have as := allS_R (M := upm Mr 0 7 0) (by rw [k1]; exact hv)
  rw [k1] at as
  by_cases z : Mr 1 9 = 0
  · refine ⟨Mc, upm Mr 0 7 0, ⟨FP.fconst0, ?_, rfl, ?_, ?_⟩, h.scr keepC.rfl keepR.thr (by omega)⟩
    · unfold f_X10_pace
      rw [e6, if_pos z]
    · unfold f_X11_pace
      rw [lt_eq, show (9 : Int).toNat = 9 from rfl, if_pos z]
    · exact n64_of (FP.Core.f2d_out (by decide +kernel))
  · have fd := fdiv_ok (a := sumF (syl (Mr 1)) (Mr 1 9).toNat 0) (b := Mr 1 9) ⟨by omega, by omega⟩ z
    refine ⟨Mc, upm Mr 0 7 0, ⟨FP.fdiv (FP.i2f (jI (sumF (syl (Mr 1)) (Mr 1 9).toNat 0))) (FP.i2f (jI (Mr 1 9))), ?_, rfl, ?_, ?_⟩, h.scr keepC.rfl keepR.thr (by omega)⟩
    · unfold f_X10_pace
      rw [e6, if_neg z, allS_C hv h.rs.2.1, Option.bind_some, ck_pos (n32_of fd)]
    · unfold f_X11_pace
      rw [lt_eq, show (9 : Int).toNat = 9 from rfl, if_neg z, as, Option.bind_some, ck_pos (n32_of fd)]
    · have q := FP.Core.f2d_out fd
      have e : FP.f2d (FP.fdiv (FP.i2f (jI (sumF (syl (Mr 1)) (Mr 1 9).toNat 0))) (FP.i2f (jI (Mr 1 9)))) = FP.Core.f2d (FP.fdiv (FP.i2f (jI (sumF (syl (Mr 1)) (Mr 1 9).toNat 0))) (FP.i2f (jI (Mr 1 9)))) := by
        unfold FP.f2d; rw [fd]; rfl
      rw [e]; exact n64_of q
