/-! the best week, the best speed -/
theorem keepB.trans {M M1 M2 : Mem} (h : keepB M M1) (h2 : keepB M1 M2) : keepB M M2 := ⟨fun c c1 c2 => (h2.1 c c1 c2).trans (h.1 c c1 c2), h2.2.trans h.2⟩
theorem keepX.trans {M M1 M2 : Mem} (h : keepX M M1) (h2 : keepX M1 M2) : keepX M M2 := ⟨fun c c1 => (h2.1 c c1).trans (h.1 c c1), fun j j1 j2 => (h2.2 j j1 j2).trans (h.2 j j1 j2)⟩
theorem keepB.rs {M M' : Mem} {g : Row} (h : keepB M M') (r : RS M 5 g) : RS M' 5 g := r.eqv (fun j _ _ => h.1 _ (by omega) (by omega))
theorem keepB.rfl {M : Mem} : keepB M M := ⟨fun _ _ _ => _root_.rfl, _root_.rfl⟩
theorem keepX.rfl {M : Mem} : keepX M M := ⟨fun _ _ => _root_.rfl, fun _ _ _ => _root_.rfl⟩
theorem L_week {Mc0 M0 : Mem} {g : Row} (hl : WFl g) (hv : WFv g) (r : RS Mc0 5 g) (h0 : Mc0 72 0 = 0) (hs : Mc0 64 1 = wEnd g) (eg : M0 1 = g) (h21 : ∀ m : Nat, m < 2 ^ (g 5).toNat → M0 21 m = sm g m) : ∀ (k j n n' : Nat) (Mc Mr : Mem) (x1 x2 x3 y : Int), j + k = 100 → k < n → k < n' → keepB Mc0 Mc → keepX M0 Mr → (x1 ≠ -1 → y = x2) →
    (x3 = -1 ∨ ∃ al : Nat, x3 = (al : Int) ∧ ((bst g al (wEnd g) (2 ^ (g 5).toNat)).1 = 0 ∨ (x1 ≠ -1 ∧ x2 ≤ (bst g al (wEnd g) (2 ^ (g 5).toNat)).2))) →
    ∃ (v : Int) (Mc' Mr' : Mem), f_X10_bestWeek_L19 n x1 x2 x3 (j : Int) Mc = some (v, Mc') ∧ f_X11_bestWeek_L26 (wEnd g) n' x1 y (j : Int) Mr = some (v, Mr') ∧ keepB Mc0 Mc' ∧ keepX M0 Mr' := by
  have we := wEnd_b hl hv
  intro k
  induction k with
  | zero =>
    intro j n n' Mc Mr x1 x2 x3 y hj hn hn' kb kx hy hx
    obtain ⟨n, rfl⟩ := nat_ex hn
    obtain ⟨n', rfl⟩ := nat_ex hn'
    refine ⟨x1, Mc, Mr, ?_, ?_, kb, kx⟩
    · simp only [f_X10_bestWeek_L19]; rw [if_pos (by omega)]
    · simp only [f_X11_bestWeek_L26]; rw [if_pos (by omega)]
  | succ k ih =>
    intro j n n' Mc Mr x1 x2 x3 y hj hn hn' kb kx hy hx
    obtain ⟨n, rfl⟩ := nat_ex hn
    obtain ⟨n', rfl⟩ := nat_ex hn'
    have e1 : Mr 1 = g := (kx.1 1 (by decide)).trans eg
    obtain ⟨M3, c1, c2, c3, c4⟩ := ch_R (M := Mr) (by rw [e1]; exact hl) (j : Int) (e := wEnd g) ⟨by omega, by omega⟩ (by rw [e1, kx.1 21 (by decide)]; exact h21)
    rw [e1] at c1 c3 c4
    obtain ⟨Mc3, d1, d2, d3⟩ := choice_C hl hv (kb.rs r).1 (kb.2.trans h0) ((congrFun (kb.1 64 (by decide) (by decide)) 1).trans hs) (j : Int)
    obtain ⟨al, hal⟩ : ∃ al : Nat, al = alM g (j : Int) (g 5).toNat := ⟨_, _root_.rfl⟩
    rw [← hal] at c1 c3 c4 d3
    obtain ⟨s, es⟩ : ∃ s : Nat × Int, s = bst g al (wEnd g) (2 ^ (g 5).toNat) := ⟨_, _root_.rfl⟩
    rw [← es] at c1 c3 c4 d3
    have alc := al_C hl (kb.rs r).1 (j : Int)
    rw [← hal] at alc
    have kb' := kb.trans d2
    have kx' := kx.trans c2
    -- both go on as they are
    have stay : ∀ (Mc' : Mem), keepB Mc0 Mc' → (s.1 = 0 ∨ (x1 ≠ -1 ∧ x2 ≤ s.2)) → ∃ (v : Int) (Mc2 Mr2 : Mem), f_X10_bestWeek_L19 n x1 x2 (al : Int) ((j + 1 : Nat) : Int) Mc' = some (v, Mc2) ∧ f_X11_bestWeek_L26 (wEnd g) n' x1 y ((j + 1 : Nat) : Int) M3 = some (v, Mr2) ∧ keepB Mc0 Mc2 ∧ keepX M0 Mr2 :=
      fun Mc' q1 q2 => ih (j + 1) n n' Mc' M3 x1 x2 (al : Int) y (by omega) (by omega) (by omega) q1 kx' hy (Or.inr ⟨al, _root_.rfl, by rw [← es]; exact q2⟩)
    have sR : (s.1 = 0 ∨ (x1 ≠ -1 ∧ x2 ≤ s.2)) → f_X11_bestWeek_L26 (wEnd g) (n' + 1) x1 y (j : Int) Mr = f_X11_bestWeek_L26 (wEnd g) n' x1 y ((j + 1 : Nat) : Int) M3 := by
      intro q
      simp only [f_X11_bestWeek_L26]
      rw [if_neg (by omega), c1, Option.bind_some]
      simp only []
      rw [ck_pos ⟨by omega, by omega⟩, show (j : Int) + 1 = ((j + 1 : Nat) : Int) by omega]
      by_cases z : s.1 = 0
      · rw [if_pos z, if_pos _root_.rfl]
      · rcases q with q | ⟨q1, q2⟩
        · exact absurd q z
        · rw [if_neg z, if_neg (by decide), if_neg q1, c4, hy q1, if_pos q2]
    have go : f_X10_bestWeek_L19 (n + 1) x1 x2 x3 (j : Int) Mc = if (al : Int) = x3 then f_X10_bestWeek_L19 n x1 x2 (al : Int) ((j + 1 : Nat) : Int) Mc else if Mc3 71 0 = -1 then f_X10_bestWeek_L19 n x1 x2 (al : Int) ((j + 1 : Nat) : Int) Mc3 else if x1 = -1 then f_X10_bestWeek_L19 n (j : Int) (Mc3 71 1) (al : Int) ((j + 1 : Nat) : Int) Mc3 else if x2 ≤ Mc3 71 1 then f_X10_bestWeek_L19 n x1 x2 (al : Int) ((j + 1 : Nat) : Int) Mc3 else f_X10_bestWeek_L19 n (j : Int) (Mc3 71 1) (al : Int) ((j + 1 : Nat) : Int) Mc3 := by
      simp only [f_X10_bestWeek_L19, jn]
      rw [if_neg (by omega), alc, Option.bind_some, d1, Option.bind_some, show (j : Int) + 1 = ((j + 1 : Nat) : Int) by omega]
      repeat rw [ck_pos (show inR ((j + 1 : Nat) : Int) from ⟨by omega, by omega⟩)]
    rw [go]
    unfold clS at d3
    by_cases c : (al : Int) = x3
    · rw [if_pos c]
      have q : s.1 = 0 ∨ (x1 ≠ -1 ∧ x2 ≤ s.2) := by
        rcases hx with hx | ⟨al', a1, a2⟩
        · omega
        · rw [show al' = al by omega, ← es] at a2; exact a2
      rw [sR q]
      exact stay Mc kb q
    · rw [if_neg c]
      by_cases z : s.1 = 0
      · rw [if_pos z] at d3
        rw [if_pos d3.1, sR (Or.inl z)]
        exact stay Mc3 kb' (Or.inl z)
      · rw [if_neg z] at d3
        rw [if_neg (by omega)]
        -- a choice
        have take : ∃ (v : Int) (Mc2 Mr2 : Mem), f_X10_bestWeek_L19 n (j : Int) (Mc3 71 1) (al : Int) ((j + 1 : Nat) : Int) Mc3 = some (v, Mc2) ∧ f_X11_bestWeek_L26 (wEnd g) n' (j : Int) (M3 0 27) ((j + 1 : Nat) : Int) M3 = some (v, Mr2) ∧ keepB Mc0 Mc2 ∧ keepX M0 Mr2 :=
          ih (j + 1) n n' Mc3 M3 (j : Int) (Mc3 71 1) (al : Int) (M3 0 27) (by omega) (by omega) (by omega) kb' kx' (fun _ => by rw [c4, d3.2.1]) (Or.inr ⟨al, _root_.rfl, Or.inr ⟨by omega, by rw [← es, d3.2.1]; exact Int.le_refl _⟩⟩)
        by_cases w : x1 = -1
        · rw [if_pos w]
          have : f_X11_bestWeek_L26 (wEnd g) (n' + 1) x1 y (j : Int) Mr = f_X11_bestWeek_L26 (wEnd g) n' (j : Int) (M3 0 27) ((j + 1 : Nat) : Int) M3 := by
            simp only [f_X11_bestWeek_L26]
            rw [if_neg (by omega), c1, Option.bind_some]
            simp only []
            rw [if_neg z, if_neg (by decide), if_pos w, ck_pos ⟨by omega, by omega⟩, show (j : Int) + 1 = ((j + 1 : Nat) : Int) by omega]
          rw [this]; exact take
        · rw [if_neg w, d3.2.1]
          by_cases u : x2 ≤ s.2
          · rw [if_pos u, sR (Or.inr ⟨w, u⟩)]
            exact stay Mc3 kb' (Or.inr ⟨w, u⟩)
          · rw [if_neg u, ← d3.2.1]
            have : f_X11_bestWeek_L26 (wEnd g) (n' + 1) x1 y (j : Int) Mr = f_X11_bestWeek_L26 (wEnd g) n' (j : Int) (M3 0 27) ((j + 1 : Nat) : Int) M3 := by
              simp only [f_X11_bestWeek_L26]
              rw [if_neg (by omega), c1, Option.bind_some]
              simp only []
              have u2 : ¬ y ≤ M3 0 27 := by rw [hy w, c4]; exact u
              rw [if_neg z, if_neg (by decide), if_neg w, if_neg u2, ck_pos ⟨by omega, by omega⟩, show (j : Int) + 1 = ((j + 1 : Nat) : Int) by omega]
            rw [this]; exact take
theorem p_bestWeek {k : Nat} {Mc Mr : Mem} (h : Rel k Mc Mr) : ∃ Mc' Mr' : Mem, st_bestWeek Mc Mr Mc' Mr' ∧ Rel (k + 1) Mc' Mr' := by
  have hl := h.wf.1
  have hv := h.wf.2.1
  have h0 := hl.1
  have k1 : (upm Mr 0 7 0) 1 = Mr 1 := thr_ne _ _ (by decide)
  obtain ⟨M1, a1, a2, a3⟩ := sums_R (M := upm Mr 0 7 0) (by rw [k1]; exact hl)
  rw [k1] at a3
  have k2 : M1 1 = Mr 1 := (a2 1 (by decide)).trans k1
  obtain ⟨M2, b1, b2, b3⟩ := laysW (M := M1) (by rw [k2]; exact hl) (by rw [k2]; exact hv)
  have k3 : M2 1 = Mr 1 := (b2 1 (by decide) (by decide)).trans k2
  rw [k2] at b1
  obtain ⟨v, Mc', Mr', c1, c2, c3, c4⟩ := L_week hl hv h.rs h.s0 h.sp.2.1 k3 (by rw [b2 21 (by decide) (by decide)]; exact a3) (100 - (Mr 1 0).toNat) (Mr 1 0).toNat jFuel jFuel Mc M2 (-1) (-1) (-1) 0 (by omega) (jF (by omega)) (jF (by omega)) keepB.rfl keepX.rfl (fun q => absurd rfl q) (Or.inl rfl)
  rw [show (((Mr 1 0).toNat : Nat) : Int) = Mr 1 0 by omega] at c1 c2
  refine ⟨Mc', Mr', ⟨v, ?_, ?_⟩, h.scr c3.C (keepR.thr.trans (a2.R.trans (b2.R.trans c4.R))) (by omega)⟩
  · unfold f_X10_bestWeek
    have s0 : f_X3_setting 5 0 Mc = some (Mr 1 0) := set_ev h.rs.1 (i := 0) (by omega)
    rw [s0, Option.bind_some]; exact c1
  · unfold f_X11_bestWeek
    rw [lt_eq, a1, Option.bind_some, b1, Option.bind_some]
    simp only [show (0 : Int).toNat = 0 from rfl]
    rw [k3]; exact c2
/-! the best speed -/
theorem sumF_last (f : Nat → Int) : ∀ (k j : Nat), sumF f (k + 1) j = sumF f k j + f (j + k) := by
  intro k
  induction k with
  | zero => intro j; simp [sumF]
  | succ k ih =>
    intro j
    show f j + sumF f (k + 1) (j + 1) = f j + sumF f k (j + 1) + f (j + (k + 1))
    rw [ih (j + 1), show j + 1 + k = j + (k + 1) by omega]; omega
theorem wb_form {g : Row} (h : WFv g) : ∀ i : Nat, (i : Int) ≤ g 9 → wb g i = g 1 * sumF (syl g) i 0 + g 2 * sumF (sen g) i 0 := by
  intro i
  induction i with
  | zero => intro _; simp [wb, sumF]
  | succ i ih =>
    intro hi
    have hs : sen g i = 0 ∨ sen g i = 1 := (h.2.2.1 i (by omega)).2.2.2
    rw [sumF_last, sumF_last, Nat.zero_add, Int.mul_add, Int.mul_add]
    show wb g i + g 1 * syl g i + (if sen g i = 1 then g 2 else 0) = _
    rw [ih (by omega)]
    rcases hs with z | z
    · rw [z, if_neg (by decide), Int.mul_zero]; omega
    · rw [z, if_pos rfl, Int.mul_one]; omega
theorem wEnd_form {g : Row} (h : WFv g) (h0 : 0 < g 9) : wEnd g = g 1 * sumF (syl g) (g 9).toNat 0 + g 2 * (sumF (sen g) (g 9).toNat 0 - 1) := by
  have h9 := h.1
  obtain ⟨i, hi⟩ : ∃ i : Nat, g 9 = ((i + 1 : Nat) : Int) := ⟨(g 9).toNat - 1, by omega⟩
  have l : sen g i = 1 := by
    have := h.2.2.2.2.1 h0
    rw [show (g 9).toNat - 1 = i by omega] at this; exact this
  unfold wEnd we
  rw [if_neg (by omega), show (g 9).toNat - 1 = i by omega, show (g 9).toNat = i + 1 by omega, sumF_last, sumF_last, Nat.zero_add, wb_form h i (by omega), l, Int.mul_add, show sumF (sen g) i 0 + 1 - 1 = sumF (sen g) i 0 by omega]
  omega
theorem syl_up {g : Row} {v : Int} (i : Nat) : syl (updr g 1 v) i = syl g i := by
  have e : ∀ j : Nat, j ≠ 1 → updr g 1 v j = g j := fun j hj => updr_ne hj
  unfold syl
  rw [e _ (by omega)]
  have : wLet (updr g 1 v) i = wLet g i := by
    funext t
    unfold wLet wFrom
    rw [e (382 + 3 * i) (by omega), e _ (by omega)]
  rw [this]
theorem WFv_up {g : Row} {v : Int} (h : WFv g) : WFv (updr g 1 v) := by
  have e : ∀ j : Nat, j ≠ 1 → updr g 1 v j = g j := fun j hj => updr_ne hj
  unfold WFv
  rw [e 9 (by decide), e 10 (by decide)]
  refine ⟨h.1, h.2.1, fun i hi => ?_, fun i hi => ?_, fun q => ?_, fun i hi => ?_⟩
  · rw [e (382 + 3 * i) (by omega), e (383 + 3 * i) (by omega), e (384 + 3 * i) (by omega)]; exact h.2.2.1 i hi
  · rw [e _ (by omega)]; exact h.2.2.2.1 i hi
  · rw [e _ (by omega)]; exact h.2.2.2.2.1 q
  · rw [e (385 + 3 * i) (by omega), e (382 + 3 * i) (by omega), e (383 + 3 * i) (by omega)]; exact h.2.2.2.2.2 i hi
theorem WFl_up {g : Row} {v : Int} (h : WFl g) (hv : 1 ≤ v ∧ v ≤ 20) : WFl (updr g 1 v) := by
  have e : ∀ j : Nat, j ≠ 1 → updr g 1 v j = g j := fun j hj => updr_ne hj
  obtain ⟨a0, a1, a2, a3, a4, a5, a6, a7, a8, a9, a10, a11⟩ := h
  unfold WFl
  rw [e 0 (by decide), e 2 (by decide), e 3 (by decide), e 4 (by decide), e 5 (by decide), e 6 (by decide), e 7 (by decide), updr_at]
  refine ⟨a0, hv, a2, a3, a4, a5, a6, a7, fun i hi => ?_, fun i hi => ?_, fun i hi => ?_, fun i j h1 h2 h3 => a11 i j h1 h2 ?_⟩
  · rw [e _ (by omega), e _ (by omega)]; exact a8 i hi
  · rw [e (36 + 10 * i) (by omega)]
    refine ⟨(a9 i hi).1, fun t ht => ?_⟩
    rw [e _ (by omega)]; exact (a9 i hi).2 t ht
  · rw [e (96 + 3 * i) (by omega), e (97 + 3 * i) (by omega), e (98 + 3 * i) (by omega)]; exact a10 i hi
  · unfold nmSame at h3 ⊢
    rw [e (36 + 10 * i) (by omega), e (36 + 10 * j) (by omega)] at h3
    refine ⟨h3.1, fun t ht => ?_⟩
    have := h3.2 t ht
    rw [e _ (by omega), e _ (by omega)] at this; exact this
theorem sen_b {g : Row} (h : WFv g) : 0 ≤ sumF (sen g) (g 9).toNat 0 ∧ sumF (sen g) (g 9).toNat 0 ≤ 60 := by
  have h9 := h.1
  have := sumF_b (f := sen g) (B := 1) (g 9).toNat 0 (fun i _ q => by
    have : sen g i = 0 ∨ sen g i = 1 := (h.2.2.1 i (by omega)).2.2.2
    omega)
  omega
theorem sylS_b {g : Row} (h : WFv g) : 0 ≤ sumF (syl g) (g 9).toNat 0 ∧ sumF (syl g) (g 9).toNat 0 ≤ 1200 := by
  have h9 := h.1
  have := sumF_b (f := syl g) (B := 20) (g 9).toNat 0 (fun i _ q => by
    have := syl_b h (i := i) (by omega)
    omega)
  omega
theorem endAt_ev {M : Mem} {s : Nat} {g : Row} (hl : WFl g) (h : WFv g) (r : RSv M s g) {v : Int} (hv : 1 ≤ v ∧ v ≤ 20) : f_X9_endAt s v (g 2) M = some (wEnd (updr g 1 v)) := by
  have h9 := h.1
  have g2 := hl.2.2.1
  have e9 : updr g 1 v 9 = g 9 := updr_ne (by decide)
  unfold f_X9_endAt
  rw [r.1]
  by_cases z : g 9 = 0
  · rw [if_pos z]
    unfold wEnd
    rw [e9, if_pos (by omega)]
  · have f := wEnd_form (WFv_up (v := v) h) (by rw [e9]; omega)
    have s1 : sumF (syl (updr g 1 v)) (g 9).toNat 0 = sumF (syl g) (g 9).toNat 0 := sumF_congr _ _ (fun i _ _ => syl_up i)
    have s2 : sumF (sen (updr g 1 v)) (g 9).toNat 0 = sumF (sen g) (g 9).toNat 0 := sumF_congr _ _ (fun i _ _ => by unfold sen; exact updr_ne (by omega))
    rw [e9, s1, s2, updr_at, show updr g 1 v 2 = g 2 from updr_ne (by decide)] at f
    have b1 := sylS_b h
    have b2 := sen_b h
    have b3 : 1 ≤ sumF (sen g) (g 9).toNat 0 := by
      obtain ⟨i, hi⟩ : ∃ i : Nat, g 9 = ((i + 1 : Nat) : Int) := ⟨(g 9).toNat - 1, by omega⟩
      have l : sen g i = 1 := by
        have := h.2.2.2.2.1 (by omega)
        rw [show (g 9).toNat - 1 = i by omega] at this; exact this
      rw [show (g 9).toNat = i + 1 by omega, sumF_last, Nat.zero_add, l]
      have := sumF_b (f := sen g) (B := 1) i 0 (fun t _ q => by
        have : sen g t = 0 ∨ sen g t = 1 := (h.2.2.1 t (by omega)).2.2.2
        omega)
      omega
    have m1 := mul_b (a := v) (b := sumF (syl g) (g 9).toNat 0) (A := 20) (B := 1200) ⟨by omega, hv.2⟩ b1
    have m2 := mul_b (a := g 2) (b := sumF (sen g) (g 9).toNat 0 - 1) (A := 50) (B := 60) g2 ⟨by omega, by omega⟩
    have c12 : f_X9_sentences s M = some (sumF (sen g) (g 9).toNat 0) := by
      unfold f_X9_sentences
      rw [r.1, sen_C h r ⟨h9.1, Int.le_refl _⟩]; rfl
    rw [if_neg z, allS_C h r, Option.bind_some, ck_pos ⟨by omega, by omega⟩, c12, Option.bind_some, ck_pos ⟨by omega, by omega⟩, ck_pos ⟨by omega, by omega⟩, ck_pos ⟨by omega, by omega⟩, f]
def keepV (M M' : Mem) : Prop := (∀ c : Nat, c ≠ 1 → c ≠ 19 → c ≠ 20 → M' c = M c) ∧ ∀ j : Nat, j ≠ 1 → M' 1 j = M 1 j
theorem L_speed {Mc M0 : Mem} {g : Row} (hl : WFl g) (hv : WFv g) (r : RS Mc 5 g) (eg : M0 1 = g) (he : 0 ≤ Mc 56 1 ∧ Mc 56 1 ≤ 24400) : ∀ (k j n n' : Nat) (M : Mem) (x y : Int), j + k = 21 → 1 ≤ j → k < n → k < n' → keepV M0 M → x ≠ -1 →
    ∃ (v : Int) (M' : Mem), f_X10_bestSpeed_L10 Mc n x y (j : Int) = some v ∧ f_X11_bestSpeed_L29 (Mc 56 1) (g 1) n' x y (j : Int) M = some (v, M') ∧ (∀ c : Nat, c ≠ 19 → c ≠ 20 → M' c = M0 c) := by
  intro k
  induction k with
  | zero =>
    intro j n n' M x y hj h1 hn hn' kv hx
    obtain ⟨n, rfl⟩ := nat_ex hn
    obtain ⟨n', rfl⟩ := nat_ex hn'
    refine ⟨x, upm M 1 1 (g 1), ?_, ?_, fun c c1 c2 => ?_⟩
    · simp only [f_X10_bestSpeed_L10]; rw [if_pos (by omega)]
    · simp only [f_X11_bestSpeed_L29, show (1 : Int).toNat = 1 from rfl]; rw [if_pos (by omega), lt_eq]
    · by_cases z : c = 1
      · subst z
        rw [upm_row]
        funext i
        rw [updr_ap]
        by_cases w : i = 1
        · rw [if_pos w, w, eg]
        · rw [if_neg w]; exact kv.2 i w
      · rw [upm_ne z]; exact kv.1 c z c1 c2
  | succ k ih =>
    intro j n n' M x y hj h1 hn hn' kv hx
    obtain ⟨n, rfl⟩ := nat_ex hn
    obtain ⟨n', rfl⟩ := nat_ex hn'
    have hw := wEnd_b (WFl_up hl (v := (j : Int)) ⟨by omega, by omega⟩) (WFv_up (v := (j : Int)) hv)
    have s2 : f_X3_setting 5 2 Mc = some (g 2) := set_ev r.1 (i := 2) (by omega)
    have gp : f_X10_gapAtSpeed (j : Int) Mc = some (max (Mc 56 1 - wEnd (updr g 1 (j : Int))) (-(Mc 56 1 - wEnd (updr g 1 (j : Int))))) := by
      unfold f_X10_gapAtSpeed
      rw [s2, Option.bind_some, endAt_ev hl hv r.2.1 ⟨by omega, by omega⟩, Option.bind_some, ck_pos ⟨by omega, by omega⟩, ck_pos ⟨by omega, by omega⟩]
    have e1 : (upm M 1 1 (j : Int)) 1 = updr g 1 (j : Int) := by
      rw [upm_row]; funext i; rw [updr_ap, updr_ap]
      by_cases w : i = 1
      · rw [if_pos w, if_pos w]
      · rw [if_neg w, if_neg w, kv.2 i w, eg]
    obtain ⟨M2, b1, b2, b3⟩ := laysW (M := upm M 1 1 (j : Int)) (by rw [e1]; exact WFl_up hl ⟨by omega, by omega⟩) (by rw [e1]; exact WFv_up hv)
    rw [e1] at b1
    have kv2 : keepV M0 M2 := by
      refine ⟨fun c c1 c2 c3 => by rw [b2 c c2 c3, upm_ne c1]; exact kv.1 c c1 c2 c3, fun i hi => ?_⟩
      rw [b2 1 (by decide) (by decide), upm_row, updr_ne hi]; exact kv.2 i hi
    obtain ⟨gpv, hgp⟩ : ∃ gpv : Int, gpv = max (Mc 56 1 - wEnd (updr g 1 (j : Int))) (-(Mc 56 1 - wEnd (updr g 1 (j : Int)))) := ⟨_, rfl⟩
    simp only [f_X10_bestSpeed_L10, f_X11_bestSpeed_L29, show (1 : Int).toNat = 1 from rfl]
    rw [if_neg (by omega), if_neg (by omega), gp, Option.bind_some, lt_eq, b1, Option.bind_some]
    simp only []
    rw [ck_pos (show inR (Mc 56 1 - wEnd (updr g 1 (j : Int))) from ⟨by omega, by omega⟩), ck_pos (show inR (-(Mc 56 1 - wEnd (updr g 1 (j : Int)))) from ⟨by omega, by omega⟩), if_neg hx, ← hgp, show (j : Int) + 1 = ((j + 1 : Nat) : Int) by omega]
    repeat rw [ck_pos (show inR ((j + 1 : Nat) : Int) from ⟨by omega, by omega⟩)]
    by_cases c : y ≤ gpv
    · rw [if_pos c, if_pos c]
      exact ih (j + 1) n n' M2 x y (by omega) (by omega) (by omega) (by omega) kv2 hx
    · rw [if_neg c, if_neg c]
      exact ih (j + 1) n n' M2 (j : Int) gpv (by omega) (by omega) (by omega) (by omega) kv2 (by omega)
theorem p_bestSpeed {k : Nat} {Mc Mr : Mem} (h : Rel k Mc Mr) : ∃ Mc' Mr' : Mem, st_bestSpeed Mc Mr Mc' Mr' ∧ Rel (k + 1) Mc' Mr' := by
  have hl := h.wf.1
  have hv := h.wf.2.1
  obtain ⟨M', l1, l2, l3⟩ := h.lays (M := upm Mr 0 7 0) (thr_ne _ _ (by decide))
  have o := h.pc.1
  have eb := end_b o l3.1
  have k1 : M' 1 = Mr 1 := (l2.1 1 (by decide) (by decide)).trans (thr_ne _ _ (by decide))
  have hw := wEnd_b (WFl_up hl (v := 1) ⟨by omega, by omega⟩) (WFv_up (v := 1) hv)
  have s2 : f_X3_setting 5 2 Mc = some (Mr 1 2) := set_ev h.rs.1 (i := 2) (by omega)
  obtain ⟨gpv, hgp⟩ : ∃ gpv : Int, gpv = max (Mc 56 1 - wEnd (updr (Mr 1) 1 1)) (-(Mc 56 1 - wEnd (updr (Mr 1) 1 1))) := ⟨_, rfl⟩
  have gp : f_X10_gapAtSpeed 1 Mc = some gpv := by
    unfold f_X10_gapAtSpeed
    rw [s2, Option.bind_some, endAt_ev hl hv h.rs.2.1 ⟨by omega, by omega⟩, Option.bind_some, ck_pos ⟨by omega, by omega⟩, ck_pos ⟨by omega, by omega⟩, hgp]
  have e1 : (upm M' 1 1 1) 1 = updr (Mr 1) 1 1 := by rw [upm_row, k1]
  obtain ⟨M2, b1, b2, b3⟩ := laysW (M := upm M' 1 1 1) (by rw [e1]; exact WFl_up hl ⟨by omega, by omega⟩) (by rw [e1]; exact WFv_up hv)
  rw [e1] at b1
  have kv2 : keepV M' M2 := by
    refine ⟨fun c c1 c2 c3 => by rw [b2 c c2 c3, upm_ne c1], fun i hi => ?_⟩
    rw [b2 1 (by decide) (by decide), upm_row, updr_ne hi]
  obtain ⟨fu, hfu⟩ : ∃ fu : Nat, jFuel = fu + 1 := ⟨9999999, rfl⟩
  obtain ⟨v, M3, c1, c2, c3⟩ := L_speed hl hv h.rs k1 eb 19 2 jFuel fu M2 1 gpv (by omega) (by omega) (jF (by omega)) (by have := jF (k := 50) (by omega); omega) kv2 (by decide)
  refine ⟨Mc, M3, ⟨v, ?_, rfl, ?_⟩, h.scr keepC.rfl (keepR.thr.trans (l2.R.trans ?_)) (by omega)⟩
  · unfold f_X10_bestSpeed
    rw [gp, Option.bind_some]; exact c1
  · unfold f_X11_bestSpeed
    rw [lt_eq, l1, Option.bind_some, end_R o l3, Option.bind_some, hfu]
    simp only [f_X11_bestSpeed_L29, show (1 : Int).toNat = 1 from rfl]
    rw [if_neg (by decide), lt_eq, b1, Option.bind_some]
    simp only []
    rw [ck_pos ⟨by omega, by omega⟩, ck_pos ⟨by omega, by omega⟩, if_pos trivial, ck_pos ⟨by omega, by omega⟩, ← hgp, k1]
    exact c2
  · have q : keepW M' M3 := fun c c1 c2 => c3 c c1 c2
    exact q.R
