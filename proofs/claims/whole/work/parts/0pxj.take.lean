/-! an act by hand done: the draft taken, the reference's row changed -/
theorem RSlv_o {M : Mem} {s : Nat} {g g' : Row} (e : outE g g') (hl : WFl g) (hv : WFv g) (rl : RSl M s g) (rv : RSv M s g) : RSl M s g' ∧ RSv M s g' := by
  obtain ⟨a1, a2, a3, a4, a5, a6, a7⟩ := rl
  obtain ⟨b1, b2, b3, b4⟩ := rv
  have h5 := hl.2.2.2.2.2.1
  have h6 := hl.2.2.2.2.2.2.1
  have h7 := hl.2.2.2.2.2.2.2.1
  have es : ∀ i : Nat, syl g' i = syl g i := by
    intro i
    unfold syl
    have : wLet g' i = wLet g i := by
      funext u
      unfold wLet wFrom
      rw [e (382 + 3 * i) (by omega) (by omega), e _ (by omega) (by omega)]
    rw [this, e (383 + 3 * i) (by omega) (by omega)]
  refine ⟨⟨?_, ?_, ?_, ?_, ?_, ?_, ?_⟩, ?_, ?_, ?_, ?_⟩
  · rw [e 5 (by omega) (by omega)]; exact a1
  · rw [e 6 (by omega) (by omega)]; exact a2
  · rw [e 7 (by omega) (by omega)]; exact a3
  · rw [e 5 (by omega) (by omega)]
    intro i hi
    rw [e (12 + 2 * i) (by omega) (by omega), e (13 + 2 * i) (by omega) (by omega)]; exact a4 i hi
  · rw [e 6 (by omega) (by omega)]
    intro i hi
    have q := (hl.2.2.2.2.2.2.2.2.2.1 i hi).1
    rw [e (36 + 10 * i) (by omega) (by omega)]
    refine ⟨(a5 i hi).1, fun u hu => ?_⟩
    rw [e _ (by omega) (by omega)]; exact (a5 i hi).2 u hu
  · rw [e 7 (by omega) (by omega)]
    intro i hi
    rw [e (96 + 3 * i) (by omega) (by omega), e (97 + 3 * i) (by omega) (by omega), e (98 + 3 * i) (by omega) (by omega)]; exact a6 i hi
  · intro i hi
    rw [e i (by omega) (by omega)]; exact a7 i hi
  · rw [e 9 (by omega) (by omega)]; exact b1
  · rw [e 10 (by omega) (by omega)]; exact b2
  · rw [e 9 (by omega) (by omega)]
    intro i hi
    rw [e (382 + 3 * i) (by omega) (by omega), e (383 + 3 * i) (by omega) (by omega), e (384 + 3 * i) (by omega) (by omega), es]; exact b3 i hi
  · rw [e 10 (by omega) (by omega)]
    intro i hi
    rw [e _ (by omega) (by omega)]; exact b4 i hi
theorem WFlv_o {g g' : Row} (e : outE g g') (hl : WFl g) (hv : WFv g) : WFl g' ∧ WFv g' := by
  obtain ⟨a0, a1, a2, a3, a4, a5, a6, a7, a8, a9, a10, a11⟩ := hl
  refine ⟨?_, ?_⟩
  · unfold WFl
    rw [e 0 (by omega) (by omega), e 1 (by omega) (by omega), e 2 (by omega) (by omega), e 3 (by omega) (by omega), e 4 (by omega) (by omega), e 5 (by omega) (by omega), e 6 (by omega) (by omega), e 7 (by omega) (by omega)]
    refine ⟨a0, a1, a2, a3, a4, a5, a6, a7, fun i hi => ?_, fun i hi => ?_, fun i hi => ?_, fun i j h1 h2 h3 => a11 i j h1 h2 ?_⟩
    · rw [e _ (by omega) (by omega), e _ (by omega) (by omega)]; exact a8 i hi
    · have q := a9 i hi
      rw [e (36 + 10 * i) (by omega) (by omega)]
      refine ⟨q.1, fun t ht => ?_⟩
      rw [e _ (by omega) (by omega)]; exact q.2 t ht
    · rw [e (96 + 3 * i) (by omega) (by omega), e (97 + 3 * i) (by omega) (by omega), e (98 + 3 * i) (by omega) (by omega)]; exact a10 i hi
    · have q := (a9 i (by omega)).1
      unfold nmSame at h3 ⊢
      rw [e (36 + 10 * i) (by omega) (by omega), e (36 + 10 * j) (by omega) (by omega)] at h3
      refine ⟨h3.1, fun t ht => ?_⟩
      have := h3.2 t ht
      rw [e _ (by omega) (by omega), e _ (by omega) (by omega)] at this; exact this
  · obtain ⟨b9, b10, b1, b2, b3, b4⟩ := hv
    unfold WFv
    rw [e 9 (by omega) (by omega), e 10 (by omega) (by omega)]
    refine ⟨b9, b10, fun i hi => ?_, fun i hi => ?_, fun q => ?_, fun i hi => ?_⟩
    · rw [e (382 + 3 * i) (by omega) (by omega), e (383 + 3 * i) (by omega) (by omega), e (384 + 3 * i) (by omega) (by omega)]; exact b1 i hi
    · rw [e _ (by omega) (by omega)]; exact b2 i hi
    · rw [e _ (by omega) (by omega)]; exact b3 q
    · rw [e (385 + 3 * i) (by omega) (by omega), e (382 + 3 * i) (by omega) (by omega), e (383 + 3 * i) (by omega) (by omega)]; exact b4 i hi
theorem RSp_o {M : Mem} {g g' : Row} (e : outE g g') (hl : WFl g) (h : RSp M g) : RSp M g' := by
  have h6 := hl.2.2.2.2.2.2.1
  have el : ∀ i u : Nat, wLet g' i u = wLet g i u := by
    intro i u
    unfold wLet wFrom
    rw [e (382 + 3 * i) (by omega) (by omega), e _ (by omega) (by omega)]
  have es : ∀ i : Nat, syl g' i = syl g i := by
    intro i
    unfold syl
    rw [show wLet g' i = wLet g i from funext (el i), e (383 + 3 * i) (by omega) (by omega)]
  have eb : ∀ i : Nat, wb g' i = wb g i := by
    intro i
    induction i with
    | zero => rfl
    | succ i ih => rw [wb, wb, ih, es, e 1 (by decide) (by omega), e 2 (by decide) (by omega), e (384 + 3 * i) (by omega) (by omega)]
  have ew : ∀ i : Nat, we g' i = we g i := by intro i; unfold we; rw [eb, es, e 1 (by decide) (by omega)]
  have en : ∀ i m : Nat, (m : Int) < g 6 → (nmEq g' i m ↔ nmEq g i m) := by
    intro i m z
    have q := (hl.2.2.2.2.2.2.2.2.2.1 m z).1
    unfold nmEq
    rw [e (36 + 10 * m) (by omega) (by omega), e (383 + 3 * i) (by omega) (by omega)]
    refine ⟨fun ⟨u1, u2⟩ => ⟨u1, fun k hk => ?_⟩, fun ⟨u1, u2⟩ => ⟨u1, fun k hk => ?_⟩⟩
    · have := u2 k hk
      rw [e _ (by omega) (by omega), el] at this; exact this
    · have := u2 k hk
      rw [e _ (by omega) (by omega), el]; exact this
  have em : ∀ i k m : Nat, ((m + k : Nat) : Int) ≤ g 6 → mpS g' i k m = mpS g i k m := by
    intro i k
    induction k with
    | zero => intro m _; rfl
    | succ k ih =>
      intro m hm
      show @ite _ (nmEq g' i m) (Classical.propDecidable _) (m : Int) (mpS g' i k (m + 1)) = @ite _ (nmEq g i m) (Classical.propDecidable _) (m : Int) (mpS g i k (m + 1))
      by_cases c : nmEq g i m
      · rw [if_pos c, if_pos ((en i m (by omega)).2 c)]
      · rw [if_neg c, if_neg (fun q => c ((en i m (by omega)).1 q)), ih (m + 1) (by omega)]
  have eM : ∀ i : Nat, mapOf g' i = mapOf g i := by
    intro i
    unfold mapOf
    rw [e 6 (by decide) (by omega), em i _ _ (by omega)]
  obtain ⟨h1, h2, h3⟩ := h
  refine ⟨by rw [e 9 (by decide) (by omega)]; exact h1, ?_, fun i hi => ?_⟩
  · unfold wEnd at h2 ⊢
    rw [e 9 (by decide) (by omega), ew]; exact h2
  · rw [e 9 (by decide) (by omega)] at hi
    rw [eb, ew, eM]; exact h3 i hi
/-- the draft's items copied to the state -/
theorem copyD {M : Mem} {g : Row} {q : Nat} (h : PRI M g q) (e8 : (g 8).toNat = q) (h0 : 0 ≤ g 8) (h30 : it g q ≤ 30) : ∃ M' : Mem, f_X2_copyFrom 5 29 M = some M' ∧ RSi M' 5 g ∧ ∀ c : Nat, c < 22 ∨ 27 < c → M' c = M c := by
  obtain ⟨r1, r2⟩ := h
  unfold f_X2_copyFrom
  simp only [lt, show (0 : Int).toNat = 0 from rfl, show (30 : Int).toNat = 30 from rfl]
  have rr : ∀ i : Nat, (i : Int) < g 8 → rk g i ≠ 4 → it g i < 30 ∧ M (29 + 18) (it g i) = rk g i ∧ M (29 + 19) (it g i) = g (127 + 4 * i) ∧ M (29 + 20) (it g i) = rF g i ∧ M (29 + 21) (it g i) = rL g i ∧ M (29 + 22) (it g i) = dp g i := by
    intro i h8 h4
    have l := it_lt (g := g) (m := q) (show i < q by omega) h4
    have := r2 i (by omega) h4
    unfold itm at this
    rw [Prod.mk.injEq, Prod.mk.injEq, Prod.mk.injEq, Prod.mk.injEq] at this
    exact ⟨by omega, this⟩
  refine ⟨_, rfl, ⟨?_, fun i h8 h4 => ⟨?_, ?_, ?_, ?_, ?_⟩⟩, fun c hc => ?_⟩
  · simp (disch := omega) only [cpm_ne, upm_ne, upm_sl, upm_hit]; rw [e8]; exact r1
  · have b := (rr i h8 h4).1
    simp (disch := omega) only [cpm_ne, upm_ne, cpm_in]; exact (rr i h8 h4).2.1
  · have b := (rr i h8 h4).1
    simp (disch := omega) only [cpm_ne, upm_ne, cpm_in]; exact (rr i h8 h4).2.2.1
  · have b := (rr i h8 h4).1
    simp (disch := omega) only [cpm_ne, upm_ne, cpm_in]; exact (rr i h8 h4).2.2.2.1
  · have b := (rr i h8 h4).1
    simp (disch := omega) only [cpm_ne, upm_ne, cpm_in]; exact (rr i h8 h4).2.2.2.2.1
  · have b := (rr i h8 h4).1
    simp (disch := omega) only [cpm_ne, upm_ne, cpm_in]; exact (rr i h8 h4).2.2.2.2.2
  · simp (disch := omega) only [cpm_ne, upm_ne]
theorem take_done {k : Nat} {Mc Mr C1 M : Mem} (h : Rel k Mc Mr) (hk : k < 512) (fc : ∀ c : Nat, c < 28 ∨ 52 < c → C1 c = Mc c) (kr : keepR Mr M) :
    ∃ M1 : Mem, f_X11_begins M = some M1 ∧ (∀ c : Nat, c ≠ 0 → c ≠ 3 → c ≠ 5 → M1 c = M c) ∧ (∀ j : Nat, j ≠ 6 → M1 0 j = M 0 j) ∧ ∀ (g' : Row) (M2 : Mem), PRI C1 g' (g' 8).toNat → WF g' → outE (Mr 1) g' → M2 1 = g' → (∀ c : Nat, c ≠ 1 → c ≠ 28 → M2 c = M1 c) →
      ∃ C4 M4 : Mem, f_X10_takeDraftItems C1 = some (C4 56 1, C4) ∧ f_X11_endNow M2 = some (C4 56 1, M4) ∧ M4 0 7 = M 0 7 ∧ Rel (k + 1) C4 M4 := by
  have kc : keepC Mc C1 := ⟨fun c hc => fc c (by omega), by rw [fc 0 (by omega)], by rw [fc 0 (by omega)], by rw [fc 1 (by omega)], by rw [fc 1 (by omega)], by rw [fc 1 (by omega)], by rw [fc 3 (by omega)], by rw [fc 56 (by omega)], by rw [fc 56 (by omega)], by rw [fc 72 (by omega)]⟩
  have h1 : Rel k C1 Mr := h.scr kc keepR.rfl (Nat.le_refl _)
  obtain ⟨C2, M1, a1, a2, a3, a4, a5, a6, a7⟩ := both_rem h1 hk (M := M) (kr.1 1 (by omega)) (kr.1 3 (by omega)) (kr.1 5 (by omega)) kr.2.1
  refine ⟨M1, a2, a4, a5, fun g' M2 pri w' o e1 e2 => ?_⟩
  have h8 := w'.2.2.1
  have pri2 : PRI C2 g' (g' 8).toNat := by
    unfold PRI itm at pri ⊢
    rw [a3 (29 + 17) (by decide) (by decide) (by omega), a3 (29 + 18) (by decide) (by decide) (by omega), a3 (29 + 19) (by decide) (by decide) (by omega), a3 (29 + 20) (by decide) (by decide) (by omega), a3 (29 + 21) (by decide) (by decide) (by omega), a3 (29 + 22) (by decide) (by decide) (by omega)]
    exact pri
  obtain ⟨C3, b1, b2, b3⟩ := copyD pri2 rfl h8.1 w'.2.2.2.2.1
  have rs2 : RS C2 5 (Mr 1) := h1.rs.eqv (fun j _ _ => a3 _ (by omega) (by omega) (by omega))
  obtain ⟨rl, rv⟩ := RSlv_o o h1.wf.1 h1.wf.2.1 rs2.1 rs2.2.1
  have rs3 : RS C3 5 g' := ⟨rl.eqv (fun j _ _ => b3 _ (by omega)), rv.eqv (fun j _ _ => b3 _ (by omega)), b2⟩
  obtain ⟨C4, c1, c2, c3⟩ := cut_OK C3 g' rs3 w'
  obtain ⟨M4, d1, d2, d3⟩ := c3.2 M2 e1
  have th := end_R c3.1 d3
  have f4 : ∀ c : Nat, c ≠ 0 → c ≠ 73 → (c < 22 ∨ 27 < c) → (c < 56 ∨ 63 < c) → (c < 74 ∨ 266 ≤ c) → C4 c = C1 c := fun c x1 x2 x3 x4 x5 => by rw [c2 c x4, b3 c x3, a3 c x1 x2 x5]
  have g4 : ∀ c : Nat, c = 4 ∨ c = 6 ∨ c = 22 ∨ c = 29 → M4 c = Mr c := fun c q => by rw [d2.1 c (by omega) (by omega), e2 c (by omega) (by omega), a4 c (by omega) (by omega) (by omega), kr.1 c (by omega)]
  have g0 : ∀ j : Nat, j ≠ 6 → j ≠ 17 → j ≠ 21 → j ≠ 22 → M4 0 j = M 0 j := fun j x1 x2 x3 x4 => by rw [d2.2 j x2 x3 x4, e2 0 (by decide) (by decide), a5 j x1]
  have e14 : M4 1 = g' := (d2.1 1 (by decide) (by decide)).trans e1
  refine ⟨C4, M4, ?_, ?_, g0 7 (by decide) (by decide) (by decide) (by decide), h1.act (fun c q => f4 c (by omega) (by omega) (by omega) (by omega) (by omega)) (by rw [f4 72 (by decide) (by decide) (by decide) (by decide) (by decide)]) g4 (fun j q => ?_) (fun i hi => ?_) (a6.eqv (fun c q => ?_) ?_ ?_) ?_ ?_ ?_ ?_⟩
  · unfold f_X10_takeDraftItems
    rw [a1, Option.bind_some, b1, Option.bind_some, c1, Option.bind_some]
  · unfold f_X11_endNow
    rw [d1, Option.bind_some, th, Option.bind_some]
  · rw [g0 j (by omega) (by omega) (by omega) (by omega)]
    rcases q with z | z | z | z
    · rw [z]; exact kr.2.2.1
    · rw [z]; exact kr.2.2.2.1
    · rw [z]; exact kr.2.2.2.2.1
    · rw [z]; exact kr.2.2.2.2.2
  · rw [c2 73 (by omega), b3 73 (by omega), d2.1 5 (by decide) (by decide), e2 5 (by decide) (by decide)]; exact a7 i hi
  · rw [c2 c (by omega), b3 c (by omega)]
  · rw [d2.2 6 (by decide) (by decide) (by decide), e2 0 (by decide) (by decide)]
  · rw [d2.1 3 (by decide) (by decide), e2 3 (by decide) (by decide)]
  · rw [e14]; exact rs3.eqv (fun j _ _ => c2 _ (by omega))
  · rw [e14]; exact w'
  · rw [e14]; exact c3
  · rw [e14]
    have sp := RSp_o o h1.wf.1 h1.sp
    unfold RSp at sp ⊢
    rw [c2 64 (by omega), c2 65 (by omega), c2 66 (by omega), c2 67 (by omega), b3 64 (by omega), b3 65 (by omega), b3 66 (by omega), b3 67 (by omega), a3 64 (by decide) (by decide) (by omega), a3 65 (by decide) (by decide) (by omega), a3 66 (by decide) (by decide) (by omega), a3 67 (by decide) (by decide) (by omega)]
    exact sp
