/-! only 1062 numbers of a row matter -/
def eqR (g g' : Row) : Prop := ∀ i : Nat, 5 ≤ i → i < 1062 → g' i = g i
theorem rk_c {g g' : Row} (e : eqR g g') {i : Nat} (hi : i < 200) : rk g' i = rk g i := e _ (by omega) (by omega)
theorem dp_c {g g' : Row} (e : eqR g g') : ∀ i : Nat, i ≤ 200 → dp g' i = dp g i := by
  intro i
  induction i with
  | zero => intro _; rfl
  | succ i ih => intro hi; show dp g' i + ite _ _ _ = dp g i + ite _ _ _; rw [rk_c e (by omega), ih (by omega)]
theorem it_c {g g' : Row} (e : eqR g g') : ∀ i : Nat, i ≤ 200 → it g' i = it g i := by
  intro i
  induction i with
  | zero => intro _; rfl
  | succ i ih => intro hi; show it g' i + ite _ _ _ = it g i + ite _ _ _; rw [rk_c e (by omega), ih (by omega)]
theorem mulS_c {g g' : Row} (e : eqR g g') : ∀ i : Nat, i ≤ 200 → mulS g' i = mulS g i := by
  intro i
  induction i with
  | zero => intro _; rfl
  | succ i ih =>
    intro hi
    rw [mulS, mulS, rk_c e (by omega), ih (by omega), e (127 + 4 * i) (by omega) (by omega)]
theorem npc_c {g g' : Row} (e : eqR g g') : ∀ i : Nat, i ≤ 200 → npc g' i = npc g i := by
  intro i
  induction i with
  | zero => intro _; rfl
  | succ i ih =>
    intro hi
    rw [npc, npc, rk_c e (by omega), ih (by omega), mulS_c e i (by omega)]
theorem vgr_c {f f' : Nat → Int} : ∀ n : Nat, (∀ k : Nat, k < n → f' k = f k) → vgr f' n = vgr f n := by
  intro n
  induction n with
  | zero => intro _; rfl
  | succ n ih =>
    intro h
    show vgr f' n + ite _ _ _ = vgr f n + ite _ _ _
    rw [ih (fun k hk => h k (by omega)), h n (by omega)]
    by_cases z : n = 0
    · rw [z]; simp
    · rw [h (n - 1) (by omega)]
theorem syl_c {g g' : Row} (e : eqR g g') (hv : WFv g) {i : Nat} (hi : (i : Int) < g 9) : syl g' i = syl g i := by
  have h9 := hv.1
  have h10 := hv.2.1
  have hw := hv.2.2.1 i hi
  unfold syl
  rw [e (383 + 3 * i) (by omega) (by omega), vgr_c (f := wLet g i) _ (fun k hk => by
    unfold wLet wFrom
    rw [e (382 + 3 * i) (by omega) (by omega), e _ (by omega) (by omega)])]
def WFs (g : Row) : Prop := (0 ≤ g 0 ∧ g 0 ≤ 99) ∧ (1 ≤ g 1 ∧ g 1 ≤ 20) ∧ (0 ≤ g 2 ∧ g 2 ≤ 50) ∧ (1 ≤ g 3 ∧ g 3 ≤ 50) ∧ (0 ≤ g 4 ∧ g 4 ≤ 100)
theorem WFl.s {g : Row} (h : WFl g) : WFs g := ⟨h.1, h.2.1, h.2.2.1, h.2.2.2.1, h.2.2.2.2.1⟩
theorem WFl_c {g g' : Row} (e : eqR g g') (ws : WFs g') (h : WFl g) : WFl g' := by
  obtain ⟨a0, a1, a2, a3, a4, a5, a6, a7, a8, a9, a10, a11⟩ := h
  unfold WFl
  rw [e 5 (by decide) (by decide), e 6 (by decide) (by decide), e 7 (by decide) (by decide)]
  refine ⟨ws.1, ws.2.1, ws.2.2.1, ws.2.2.2.1, ws.2.2.2.2, a5, a6, a7, fun i hi => ?_, fun i hi => ?_, fun i hi => ?_, fun i j h1 h2 h3 => a11 i j h1 h2 ?_⟩
  · rw [e _ (by omega) (by omega), e _ (by omega) (by omega)]; exact a8 i hi
  · have q := a9 i hi
    rw [e (36 + 10 * i) (by omega) (by omega)]
    refine ⟨q.1, fun t ht => ?_⟩
    rw [e _ (by omega) (by omega)]; exact q.2 t ht
  · rw [e (96 + 3 * i) (by omega) (by omega), e (97 + 3 * i) (by omega) (by omega), e (98 + 3 * i) (by omega) (by omega)]; exact a10 i hi
  · have q := (a9 i (by omega)).1
    unfold nmSame at h3 ⊢
    rw [e (36 + 10 * i) (by omega) (by omega), e (36 + 10 * j) (by omega) (by omega)] at h3
    refine ⟨h3.1, fun t ht => ?_⟩
    have := h3.2 t ht
    rw [e _ (by omega) (by omega), e _ (by omega) (by omega)] at this; exact this
theorem WFv_c {g g' : Row} (e : eqR g g') (h : WFv g) : WFv g' := by
  obtain ⟨a9, a10, a1, a2, a3, a4⟩ := h
  unfold WFv
  rw [e 9 (by decide) (by decide), e 10 (by decide) (by decide)]
  refine ⟨a9, a10, fun i hi => ?_, fun i hi => ?_, fun q => ?_, fun i hi => ?_⟩
  · rw [e (382 + 3 * i) (by omega) (by omega), e (383 + 3 * i) (by omega) (by omega), e (384 + 3 * i) (by omega) (by omega)]; exact a1 i hi
  · rw [e _ (by omega) (by omega)]; exact a2 i hi
  · rw [e _ (by omega) (by omega)]; exact a3 q
  · rw [e (385 + 3 * i) (by omega) (by omega), e (382 + 3 * i) (by omega) (by omega), e (383 + 3 * i) (by omega) (by omega)]; exact a4 i hi
theorem WFi_c {g g' : Row} (e : eqR g g') (hl : WFl g) (h : WFi g) : WFi g' := by
  obtain ⟨a8, a1, a2, a3, a4⟩ := h
  have h5 := hl.2.2.2.2.2.1
  unfold WFi
  rw [e 8 (by decide) (by decide), e 5 (by decide) (by decide), e 6 (by decide) (by decide), dp_c e _ (by omega), it_c e _ (by omega), npc_c e _ (by omega)]
  refine ⟨a8, a1, a2, a3, fun i hi => ?_⟩
  have q := a4 i hi
  rw [rk_c e (by omega), dp_c e i (by omega), e (127 + 4 * i) (by omega) (by omega), e (128 + 4 * i) (by omega) (by omega), e (129 + 4 * i) (by omega) (by omega)]
  refine ⟨q.1, ?_⟩
  rcases q.2 with w | w | w | w | w
  · rw [e (13 + 2 * (g (127 + 4 * i)).toNat) (by omega) (by omega)]; exact Or.inl w
  · exact Or.inr (Or.inl w)
  · exact Or.inr (Or.inr (Or.inl w))
  · exact Or.inr (Or.inr (Or.inr (Or.inl w)))
  · exact Or.inr (Or.inr (Or.inr (Or.inr w)))
theorem WF_c {g g' : Row} (e : eqR g g') (ws : WFs g') (h : WF g) : WF g' := ⟨WFl_c e ws h.1, WFv_c e h.2.1, WFi_c e h.1 h.2.2⟩
theorem RS_c {M : Mem} {s : Nat} {g g' : Row} (e : eqR g g') (hs : ∀ i : Nat, i < 5 → M (s + 9) i = g' i) (w : WF g) (h : RS M s g) : RS M s g' := by
  obtain ⟨⟨a1, a2, a3, a4, a5, a6, a7⟩, ⟨b1, b2, b3, b4⟩, c1, c2⟩ := h
  have h5 := w.1.2.2.2.2.2.1
  have h6 := w.1.2.2.2.2.2.2.1
  have h7 := w.1.2.2.2.2.2.2.2.1
  have h9 := w.2.1.1
  have h10 := w.2.1.2.1
  have h8 := w.2.2.1
  refine ⟨⟨?_, ?_, ?_, ?_, ?_, ?_, ?_⟩, ⟨?_, ?_, ?_, ?_⟩, ?_, ?_⟩
  · rw [e 5 (by decide) (by decide)]; exact a1
  · rw [e 6 (by decide) (by decide)]; exact a2
  · rw [e 7 (by decide) (by decide)]; exact a3
  · rw [e 5 (by decide) (by decide)]
    intro i hi
    rw [e (12 + 2 * i) (by omega) (by omega), e (13 + 2 * i) (by omega) (by omega)]; exact a4 i hi
  · rw [e 6 (by decide) (by decide)]
    intro i hi
    have q := (w.1.2.2.2.2.2.2.2.2.2.1 i hi).1
    rw [e (36 + 10 * i) (by omega) (by omega)]
    refine ⟨(a5 i hi).1, fun t ht => ?_⟩
    rw [e _ (by omega) (by omega)]; exact (a5 i hi).2 t ht
  · rw [e 7 (by decide) (by decide)]
    intro i hi
    rw [e (96 + 3 * i) (by omega) (by omega), e (97 + 3 * i) (by omega) (by omega), e (98 + 3 * i) (by omega) (by omega)]; exact a6 i hi
  · intro i hi
    exact hs i hi
  · rw [e 9 (by decide) (by decide)]; exact b1
  · rw [e 10 (by decide) (by decide)]; exact b2
  · rw [e 9 (by decide) (by decide)]
    intro i hi
    rw [e (382 + 3 * i) (by omega) (by omega), e (383 + 3 * i) (by omega) (by omega), e (384 + 3 * i) (by omega) (by omega), syl_c e w.2.1 hi]; exact b3 i hi
  · rw [e 10 (by decide) (by decide)]
    intro i hi
    rw [e _ (by omega) (by omega)]; exact b4 i hi
  · rw [e 8 (by decide) (by decide), it_c e _ (by omega)]; exact c1
  · rw [e 8 (by decide) (by decide)]
    intro i hi h4
    rw [rk_c e (by omega)] at h4 ⊢
    have q := c2 i hi h4
    have rf : rF g' i = rF g i := by
      unfold rF; rw [rk_c e (by omega), e (128 + 4 * i) (by omega) (by omega)]
    have rl : rL g' i = rL g i := by
      unfold rL; rw [rk_c e (by omega), e (128 + 4 * i) (by omega) (by omega), e (129 + 4 * i) (by omega) (by omega)]
    rw [it_c e i (by omega), dp_c e i (by omega), e (127 + 4 * i) (by omega) (by omega), rf, rl]; exact q
theorem RS_c2 {M M' : Mem} {s : Nat} {g g' : Row} (e : eqR g g') (em : ∀ j : Nat, 1 ≤ j → j ≤ 22 → j ≠ 9 → M' (s + j) = M (s + j)) (hs : ∀ i : Nat, i < 5 → M' (s + 9) i = g' i) (w : WF g) (h : RS M s g) : RS M' s g' := by
  obtain ⟨⟨a1, a2, a3, a4, a5, a6, a7⟩, ⟨b1, b2, b3, b4⟩, c1, c2⟩ := h
  have h5 := w.1.2.2.2.2.2.1
  have h6 := w.1.2.2.2.2.2.2.1
  have h7 := w.1.2.2.2.2.2.2.2.1
  have h9 := w.2.1.1
  have h10 := w.2.1.2.1
  have h8 := w.2.2.1
  refine ⟨⟨?_, ?_, ?_, ?_, ?_, ?_, ?_⟩, ⟨?_, ?_, ?_, ?_⟩, ?_, ?_⟩
  · rw [em 1 (by omega) (by omega) (by omega)]
    rw [e 5 (by decide) (by decide)]; exact a1
  · rw [em 1 (by omega) (by omega) (by omega)]
    rw [e 6 (by decide) (by decide)]; exact a2
  · rw [em 1 (by omega) (by omega) (by omega)]
    rw [e 7 (by decide) (by decide)]; exact a3
  · rw [em 2 (by omega) (by omega) (by omega), em 3 (by omega) (by omega) (by omega)]
    rw [e 5 (by decide) (by decide)]
    intro i hi
    rw [e (12 + 2 * i) (by omega) (by omega), e (13 + 2 * i) (by omega) (by omega)]; exact a4 i hi
  · rw [em 4 (by omega) (by omega) (by omega), em 5 (by omega) (by omega) (by omega)]
    rw [e 6 (by decide) (by decide)]
    intro i hi
    have q := (w.1.2.2.2.2.2.2.2.2.2.1 i hi).1
    rw [e (36 + 10 * i) (by omega) (by omega)]
    refine ⟨(a5 i hi).1, fun t ht => ?_⟩
    rw [e _ (by omega) (by omega)]; exact (a5 i hi).2 t ht
  · rw [em 6 (by omega) (by omega) (by omega), em 7 (by omega) (by omega) (by omega), em 8 (by omega) (by omega) (by omega)]
    rw [e 7 (by decide) (by decide)]
    intro i hi
    rw [e (96 + 3 * i) (by omega) (by omega), e (97 + 3 * i) (by omega) (by omega), e (98 + 3 * i) (by omega) (by omega)]; exact a6 i hi
  · intro i hi
    exact hs i hi
  · rw [em 11 (by omega) (by omega) (by omega)]
    rw [e 9 (by decide) (by decide)]; exact b1
  · rw [em 11 (by omega) (by omega) (by omega)]
    rw [e 10 (by decide) (by decide)]; exact b2
  · rw [em 13 (by omega) (by omega) (by omega), em 14 (by omega) (by omega) (by omega), em 15 (by omega) (by omega) (by omega), em 16 (by omega) (by omega) (by omega)]
    rw [e 9 (by decide) (by decide)]
    intro i hi
    rw [e (382 + 3 * i) (by omega) (by omega), e (383 + 3 * i) (by omega) (by omega), e (384 + 3 * i) (by omega) (by omega), syl_c e w.2.1 hi]; exact b3 i hi
  · rw [em 12 (by omega) (by omega) (by omega)]
    rw [e 10 (by decide) (by decide)]
    intro i hi
    rw [e _ (by omega) (by omega)]; exact b4 i hi
  · rw [em 17 (by omega) (by omega) (by omega)]
    rw [e 8 (by decide) (by decide), it_c e _ (by omega)]; exact c1
  · rw [em 18 (by omega) (by omega) (by omega), em 19 (by omega) (by omega) (by omega), em 20 (by omega) (by omega) (by omega), em 21 (by omega) (by omega) (by omega), em 22 (by omega) (by omega) (by omega)]
    rw [e 8 (by decide) (by decide)]
    intro i hi h4
    rw [rk_c e (by omega)] at h4 ⊢
    have q := c2 i hi h4
    have rf : rF g' i = rF g i := by
      unfold rF; rw [rk_c e (by omega), e (128 + 4 * i) (by omega) (by omega)]
    have rl : rL g' i = rL g i := by
      unfold rL; rw [rk_c e (by omega), e (128 + 4 * i) (by omega) (by omega), e (129 + 4 * i) (by omega) (by omega)]
    rw [it_c e i (by omega), dp_c e i (by omega), e (127 + 4 * i) (by omega) (by omega), rf, rl]; exact q
theorem WF_e {g g' : Row} (e : ∀ i : Nat, i < 1062 → g' i = g i) (h : WF g) : WF g' := WF_c (fun i _ hi => e i hi) (by unfold WFs; rw [e 0 (by decide), e 1 (by decide), e 2 (by decide), e 3 (by decide), e 4 (by decide)]; exact h.1.s) h
theorem RS_e {M : Mem} {s : Nat} {g g' : Row} (e : ∀ i : Nat, i < 1062 → g' i = g i) (w : WF g) (h : RS M s g) : RS M s g' := RS_c (fun i _ hi => e i hi) (fun i hi => by rw [e i (by omega)]; exact h.1.2.2.2.2.2.2 i hi) w h
/-! the class cuts and times anew -/
def CutOK : Prop := ∀ (M : Mem) (g : Row), RS M 5 g → WF g → ∃ M' : Mem, f_X5_cutFrom 5 M = some M' ∧ (∀ c : Nat, c < 56 ∨ 63 < c → M' c = M c) ∧ RPc M' g
theorem settle_C (hc : CutOK) {M : Mem} {g : Row} (r : RS M 5 g) (w : WF g) : ∃ M' : Mem, f_X10_settle M = some M' ∧ (∀ c : Nat, c < 56 ∨ 67 < c → M' c = M c) ∧ RPc M' g ∧ RSp M' g := by
  obtain ⟨M1, a1, a2, a3⟩ := hc M g r w
  obtain ⟨M2, b1, b2, b3⟩ := time_C w.1 w.2.1 (r.eqv (M' := M1) (fun j _ _ => a2 _ (by omega)))
  refine ⟨M2, ?_, fun c hc => (b2 c (by omega)).trans (a2 c (by omega)), a3.eqv (fun c _ _ => b2 c (by omega)) (by rw [b2 56 (by omega)]) (by rw [b2 56 (by omega)]), b3⟩
  unfold f_X10_settle
  rw [a1, Option.bind_some, b1]; rfl
/-! save and restore -/
theorem p_save {k : Nat} {Mc Mr : Mem} (h : Rel k Mc Mr) (p : Int) : ∃ Mc' Mr' : Mem, st_save p Mc Mr Mc' Mr' ∧ Rel (k + 1) Mc' Mr' := by
  by_cases hp : 0 ≤ p ∧ p ≤ 1
  · obtain ⟨t, rfl⟩ : ∃ t : Nat, p = (t : Int) := ⟨p.toNat, by omega⟩
    obtain ⟨M1, a1, a2, a3⟩ := copy_C (M := Mc) (s := 266 + t * 24) h.wf (by omega) h.rs
    obtain ⟨M2, b1, b2, b3⟩ := cop_R (a := 1) (na := 1062) (b := 4) (nb := 2124) (x := 0) (y := 1062 * t) (by decide) (by omega) (by omega) ⟨by omega, by omega⟩ (upm Mr 0 7 0)
    have k1 : (upm Mr 0 7 0) 1 = Mr 1 := thr_ne _ _ (by decide)
    have k4 : (upm Mr 0 7 0) 4 = Mr 4 := thr_ne _ _ (by decide)
    rw [k1, k4] at b3
    have bar : bar1 1 = 1 := by decide
    refine ⟨upm M1 55 t 1, upm M2 6 t 1, Or.inl ⟨?_, ?_, ?_⟩, ?_⟩
    · unfold f_X10_save
      rw [(rR_ok hp).1, Option.bind_some, ck_pos ⟨by omega, by omega⟩, Int.toNat_natCast, a1, Option.bind_some, lt_eq, bar]
    · unfold f_X11_save f_X11_isSlot
      rw [isIn_eq, if_pos hp, Option.bind_some, ck_pos (Or.inr rfl), Option.bind_some, goes1, Option.bind_some]
      simp only []
      have b1 : f_X11_copies 1 1062 0 4 2124 ((1062 * t : Nat) : Int) (upm Mr 0 7 0) = some M2 := b1
      rw [if_neg (by decide), ck_pos ⟨by omega, by omega⟩, show 1062 * (t : Int) = ((1062 * t : Nat) : Int) by omega, b1, Option.bind_some, ck_pos ⟨by omega, by omega⟩, lt_eq, bar, Int.toNat_natCast]
    · rw [upm_ne (by decide), b2 0 (by decide)]; exact thr_at _ _
    · obtain ⟨h1, h2, h3, h4, h5, h6, h7, h8, h9, h10, h11⟩ := h
      have fc : ∀ c : Nat, c ≠ 55 → (c < 266 + t * 24 + 1 ∨ 266 + t * 24 + 22 < c) → (upm M1 55 t 1) c = Mc c := fun c c1 c2 => by rw [upm_ne c1]; exact a3 c c2
      have fr : ∀ c : Nat, c ≠ 0 → c ≠ 4 → c ≠ 6 → (upm M2 6 t 1) c = Mr c := fun c c1 c2 c3 => by rw [upm_ne c3, b2 c c2, thr_ne _ _ c1]
      have fr0 : ∀ j : Nat, j ≠ 7 → (upm M2 6 t 1) 0 j = Mr 0 j := fun j hj => by rw [upm_ne (by decide), b2 0 (by decide), thr_sl _ _ hj]
      have er := fr 1 (by decide) (by decide) (by decide)
      refine ⟨?_, ?_, ?_, ?_, ?_, ?_, ?_, ?_, ?_, ?_, ?_⟩
      · unfold RTx at h1 ⊢
        rw [fc 1 (by decide) (by omega), fr0 29 (by decide), fc 2 (by decide) (by omega), fr 22 (by decide) (by decide) (by decide)]; exact h1
      · rw [fc 1 (by decide) (by omega), fr0 36 (by decide), fr0 37 (by decide)]; exact h2
      · unfold ROu at h3 ⊢
        rw [fc 3 (by decide) (by omega), fr0 51 (by decide), fc 4 (by decide) (by omega), fr 29 (by decide) (by decide) (by decide)]; exact h3
      · intro i hi
        rw [fc 73 (by decide) (by omega), fr 5 (by decide) (by decide) (by decide)]
        obtain ⟨a, b, c⟩ := h4 i hi
        exact ⟨a, b, by omega⟩
      · unfold RUn at h5 ⊢
        rw [fc 0 (by decide) (by omega), fr0 6 (by decide), fr 3 (by decide) (by decide) (by decide)]
        refine ⟨h5.1, h5.2.1, h5.2.2.1, fun j hj => ⟨((h5.2.2.2 j hj).1).eqv (fun i _ _ => fc _ (by omega) (by omega)), (h5.2.2.2 j hj).2⟩⟩
      · intro u hu
        have e55 : (upm M1 55 t 1) 55 u = if u = t then 1 else Mc 55 u := by rw [upm_row, updr_ap, a3 55 (by omega)]
        have e6 : (upm M2 6 t 1) 6 u = if u = t then 1 else Mr 6 u := by rw [upm_row, updr_ap, b2 6 (by decide), thr_ne _ _ (by decide)]
        have e4 : (upm M2 6 t 1) 4 = M2 4 := upm_ne (by decide)
        rw [e55, e6, e4]
        by_cases z : u = t
        · rw [if_pos z, if_pos z, z]
          have er2 : ∀ i : Nat, i < 1062 → rowAt (M2 4) t i = Mr 1 i := by
            intro i hi
            unfold rowAt
            rw [b3, if_pos ⟨by omega, by omega⟩, show 0 + (1062 * t + i - 1062 * t) = i by omega]
          exact ⟨rfl, Or.inr rfl, fun _ => ⟨RS_e er2 h8 (a2.eqv (fun j _ _ => upm_ne (by omega))), WF_e er2 h8⟩⟩
        · rw [if_neg z, if_neg z]
          obtain ⟨q1, q2, q3⟩ := h6 u hu
          refine ⟨q1, q2, fun q => ?_⟩
          have er2 : ∀ i : Nat, i < 1062 → rowAt (M2 4) u i = rowAt (Mr 4) u i := by
            intro i hi
            unfold rowAt
            rw [b3, if_neg (by omega)]
          exact ⟨RS_e er2 (q3 q).2 ((q3 q).1.eqv (fun j _ _ => fc _ (by omega) (by omega))), WF_e er2 (q3 q).2⟩
      · rw [er]; exact h7.eqv (fun i _ _ => fc _ (by omega) (by omega))
      · rw [er]; exact h8
      · rw [er]; exact h9.eqv (fun c _ _ => fc c (by omega) (by omega)) (by rw [fc 56 (by omega) (by omega)]) (by rw [fc 56 (by omega) (by omega)])
      · unfold RSp at h10 ⊢
        rw [er, fc 64 (by omega) (by omega), fc 65 (by omega) (by omega), fc 66 (by omega) (by omega), fc 67 (by omega) (by omega)]; exact h10
      · rw [fc 72 (by omega) (by omega)]; exact h11
  · refine ⟨Mc, upm Mr 0 7 1, Or.inr ⟨?_, ?_, thr_at _ _⟩, h.scr keepC.rfl keepR.thr (by omega)⟩
    · unfold x_X10_save
      exact x1_2 hp
    · unfold f_X11_save f_X11_isSlot
      rw [isIn_eq, if_neg hp, Option.bind_some, ck_pos (Or.inl rfl), Option.bind_some, goes0, Option.bind_some]
      simp
