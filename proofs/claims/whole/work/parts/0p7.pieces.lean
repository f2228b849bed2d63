/-! pieces, the screen, what is spoken -/
theorem nm_uniq {g : Row} (hl : WFl g) {i m t : Nat} (hm : (m : Int) < g 6) (ht : (t : Int) < g 6) (h1 : nmEq g i m) (h2 : nmEq g i t) : m = t := by
  have key : ∀ a b : Nat, (b : Int) < g 6 → nmEq g i a → nmEq g i b → ¬ a < b := fun a b hb ha hb2 q =>
    hl.2.2.2.2.2.2.2.2.2.2.2 a b q hb ⟨ha.1.trans hb2.1.symm, fun k hk => (ha.2 k hk).trans (hb2.2 k (by rw [hb2.1, ← ha.1]; exact hk)).symm⟩
  have := key m t ht h1 h2
  have := key t m hm h2 h1
  omega
theorem map_iff {g : Row} (hl : WFl g) {i m : Nat} (hm : (m : Int) < g 6) : mapOf g i = (m : Int) ↔ nmEq g i m := by
  have h6 := hl.2.2.2.2.2.2.1
  unfold mapOf
  constructor
  · intro e
    rcases mpS_b (g := g) (i := i) (g 6).toNat 0 with q | ⟨t, t1, t2, t3, t4, t5⟩
    · omega
    · rw [show m = t by omega]; exact t4
  · intro e
    rcases mpS_b (g := g) (i := i) (g 6).toNat 0 with q | ⟨t, t1, t2, t3, t4, t5⟩
    · exfalso
      have : ∀ k a : Nat, a ≤ m → m < a + k → mpS g i k a ≠ -1 := by
        intro k
        induction k with
        | zero => intro a h1 h2; omega
        | succ k ih =>
          intro a h1 h2 h3
          unfold mpS at h3
          by_cases c : nmEq g i a
          · rw [if_pos c] at h3; omega
          · rw [if_neg c] at h3
            have : a ≠ m := fun z => c (z ▸ e)
            exact ih (a + 1) (by omega) (by omega) h3
      exact this (g 6).toNat 0 (by omega) (by omega) q
    · rw [t3, nm_uniq hl hm (by omega) e t4]
theorem Rel.lays {k : Nat} {Mc Mr M : Mem} (h : Rel k Mc Mr) (e : M 1 = Mr 1) : ∃ M' : Mem, f_X11_laysPieces M = some M' ∧ layK M M' ∧ PcsEq Mc M' := h.pc.2 M e
theorem layK.R {M M' : Mem} (h : layK M M') : keepR M M' := by
  refine ⟨fun c hc => h.1 c (by omega) (by omega), ?_, ?_, ?_, ?_, ?_⟩ <;> exact h.2 _ (by decide) (by decide) (by decide)
theorem endR {M : Mem} {i : Nat} (hi : i < 64) (hb : inR (M 11 i + M 10 i)) : f_X11_endOf (i : Int) M = some (M 11 i + M 10 i) := by
  unfold f_X11_endOf
  rw [ck_pos ⟨by omega, by omega⟩, Int.toNat_natCast, ck_pos hb]
theorem endC {M : Mem} {i : Nat} (hi : i < 60) (hb : inR (M 61 i + M 60 i)) : f_X5_endOf (i : Int) M = some (M 61 i + M 60 i) := by
  unfold f_X5_endOf
  rw [if_neg (by omega), if_neg (by omega), ck_pos ⟨by omega, by omega⟩, Int.toNat_natCast, ck_pos hb]
/-- the piece on the screen -/
def scrF (Mc : Mem) (x : Int) : Nat → Int
  | 0 => -1
  | j + 1 => if Mc 61 j ≤ x ∧ x < Mc 61 j + Mc 60 j then (j : Int) else scrF Mc x j
theorem scrF_b (Mc : Mem) (x : Int) : ∀ j : Nat, -1 ≤ scrF Mc x j ∧ scrF Mc x j < (j : Int) := by
  intro j
  induction j with
  | zero => simp [scrF]
  | succ j ih => show -1 ≤ ite _ _ _ ∧ ite _ _ _ < _; split <;> omega
theorem L_scr_C {Mc M' : Mem} {g : Row} (o : PcsOK Mc g) (q : PcsEq Mc M') (x : Int) : ∀ (j n : Nat), (j : Int) ≤ Mc 56 0 → j < n → f_X5_onScreen_L7 x Mc n ((j : Int) - 1) = some (scrF Mc x j) := by
  have h60 := q.1
  intro j
  induction j with
  | zero =>
    intro n hj hn
    obtain ⟨n, rfl⟩ := nat_ex hn
    simp only [f_X5_onScreen_L7]
    rw [if_pos (by omega)]; rfl
  | succ j ih =>
    intro n hj hn
    obtain ⟨n, rfl⟩ := nat_ex hn
    have b := o.1 j (by omega)
    simp only [f_X5_onScreen_L7]
    rw [show ((j + 1 : Nat) : Int) - 1 = (j : Int) by omega, if_neg (by omega), ck_pos ⟨by omega, by omega⟩, Int.toNat_natCast, endC (by omega) ⟨by omega, by omega⟩, Option.bind_some, show (j : Int) + -1 = (j : Int) - 1 by omega, ih n (by omega) (by omega)]
    show _ = some (ite _ _ _)
    by_cases c1 : x < Mc 61 j
    · rw [if_pos c1, ck_pos ⟨by omega, by omega⟩, if_neg (by omega)]
    · rw [if_neg c1]
      by_cases c2 : Mc 61 j + Mc 60 j ≤ x
      · rw [if_pos c2, ck_pos ⟨by omega, by omega⟩, if_neg (by omega)]
      · rw [if_neg c2, if_pos (by omega)]
theorem L_scr_R {Mc M' : Mem} {g : Row} (o : PcsOK Mc g) (q : PcsEq Mc M') (x : Int) : ∀ (j n : Nat), (j : Int) ≤ Mc 56 0 → j < n → f_X11_screenIn_L7 x M' n ((j : Int) - 1) = some (scrF Mc x j) := by
  have h60 := q.1
  intro j
  induction j with
  | zero =>
    intro n hj hn
    obtain ⟨n, rfl⟩ := nat_ex hn
    simp only [f_X11_screenIn_L7]
    rw [if_pos (by omega)]; rfl
  | succ j ih =>
    intro n hj hn
    obtain ⟨n, rfl⟩ := nat_ex hn
    have b := o.1 j (by omega)
    have e := q.2.2 j (by omega)
    simp only [f_X11_screenIn_L7]
    rw [show ((j + 1 : Nat) : Int) - 1 = (j : Int) by omega, if_neg (by omega), ck_pos ⟨by omega, by omega⟩, endR (by omega) (by rw [e.2.2.2.1, e.2.2.2.2.1]; exact ⟨by omega, by omega⟩), Option.bind_some, Int.toNat_natCast, e.2.2.2.1, e.2.2.2.2.1, ck_pos ⟨by omega, by omega⟩, isIn_eq, Option.bind_some, show (j : Int) + -1 = (j : Int) - 1 by omega, ih n (by omega) (by omega)]
    show _ = some (ite _ _ _)
    by_cases c : Mc 61 j ≤ x ∧ x < Mc 61 j + Mc 60 j
    · rw [if_pos (show Mc 61 j ≤ x ∧ x ≤ Mc 61 j + Mc 60 j - 1 by omega), if_pos c, if_neg (by decide)]
    · rw [if_neg (show ¬ (Mc 61 j ≤ x ∧ x ≤ Mc 61 j + Mc 60 j - 1) by omega), if_neg c, if_pos rfl, ck_pos ⟨by omega, by omega⟩]
theorem scr_C {Mc M' : Mem} {g : Row} (o : PcsOK Mc g) (q : PcsEq Mc M') (x : Int) : f_X5_onScreen x Mc = some (scrF Mc x (Mc 56 0).toNat) := by
  have h60 := q.1
  unfold f_X5_onScreen
  rw [ck_pos ⟨by omega, by omega⟩]
  have e := L_scr_C o q x (Mc 56 0).toNat jFuel (by omega) (jF (by omega))
  rw [show (((Mc 56 0).toNat : Nat) : Int) = Mc 56 0 by omega] at e
  exact e
theorem scr_R {Mc M' : Mem} {g : Row} (o : PcsOK Mc g) (q : PcsEq Mc M') (x : Int) : f_X11_screenIn x M' = some (scrF Mc x (Mc 56 0).toNat) := by
  have h60 := q.1
  unfold f_X11_screenIn
  rw [q.2.1, ck_pos ⟨by omega, by omega⟩]
  have e := L_scr_R o q x (Mc 56 0).toNat jFuel (by omega) (jF (by omega))
  rw [show (((Mc 56 0).toNat : Nat) : Int) = Mc 56 0 by omega] at e
  exact e
theorem p_screen {k : Nat} {Mc Mr : Mem} (h : Rel k Mc Mr) (p : Int) : ∃ Mc' Mr' : Mem, st_screen p Mc Mr Mc' Mr' ∧ Rel (k + 1) Mc' Mr' := by
  obtain ⟨M', l1, l2, l3⟩ := h.lays (M := upm Mr 0 7 0) (thr_ne _ _ (by decide))
  refine ⟨Mc, M', ⟨scrF Mc p (Mc 56 0).toNat, ?_, rfl, ?_⟩, h.scr keepC.rfl (keepR.thr.trans l2.R) (by omega)⟩
  · unfold f_X10_screen
    rw [scr_C h.pc.1 l3]; rfl
  · unfold f_X11_screen
    simp only [lt]
    rw [l1, Option.bind_some, scr_R h.pc.1 l3]; rfl
theorem we_le {g : Row} (hl : WFl g) (hv : WFv g) : ∀ (d i : Nat), (i : Int) + d + 1 = g 9 → we g i ≤ wEnd g := by
  have h9 := hv.1
  intro d
  induction d with
  | zero =>
    intro i hi
    unfold wEnd
    rw [if_neg (by omega), show (g 9).toNat - 1 = i by omega]
    exact Int.le_refl _
  | succ d ih =>
    intro i hi
    have e := ih (i + 1) (by omega)
    have w1 := we_b hl hv (i := i + 1) (by omega)
    have s := wb_succ g i
    have h2 := hl.2.2.1
    have : we g i ≤ wb g (i + 1) := by rw [s]; split <;> omega
    omega
def spkF (g : Row) (x : Int) : Nat → Nat → Int
  | 0, _ => -1
  | k + 1, j => if wb g j ≤ x ∧ x < we g j then (j : Int) else spkF g x k (j + 1)
theorem spkF_end {g : Row} (hl : WFl g) (hv : WFv g) {x : Int} (hx : wEnd g ≤ x) : ∀ (k j : Nat), (j : Int) + k = g 9 → spkF g x k j = -1 := by
  intro k
  induction k with
  | zero => intro j _; rfl
  | succ k ih =>
    intro j hj
    have e := we_le hl hv k j (by omega)
    show ite _ _ _ = _
    rw [if_neg (by omega)]
    exact ih (j + 1) (by omega)
theorem L_spk_C {Mc : Mem} {g : Row} (hv : WFv g) (s : RSp Mc g) (x : Int) : ∀ (k j n : Nat), (j : Int) + k = g 9 → k < n → f_X6_wordAt_L2 x Mc n (j : Int) = some (spkF g x k j) := by
  have h9 := hv.1
  intro k
  induction k with
  | zero =>
    intro j n hj hn
    obtain ⟨n, rfl⟩ := nat_ex hn
    simp only [f_X6_wordAt_L2, s.1]; rw [if_pos (by omega)]; rfl
  | succ k ih =>
    intro j n hj hn
    obtain ⟨n, rfl⟩ := nat_ex hn
    have b := s.2.2 j (by omega)
    simp only [f_X6_wordAt_L2, s.1]
    rw [if_neg (by omega), ck_pos ⟨by omega, by omega⟩, Int.toNat_natCast, b.1, b.2.1, show (j : Int) + 1 = ((j + 1 : Nat) : Int) by omega, ih (j + 1) n (by omega) (by omega)]
    show _ = some (ite _ _ _)
    by_cases c1 : x < wb g j
    · rw [if_pos c1, ck_pos ⟨by omega, by omega⟩, if_neg (by omega)]
    · rw [if_neg c1]
      by_cases c2 : we g j ≤ x
      · rw [if_pos c2, ck_pos ⟨by omega, by omega⟩, if_neg (by omega)]
      · rw [if_neg c2, if_pos (by omega)]
theorem L_spk_R {M' : Mem} {g : Row} (hl : WFl g) (hv : WFv g) (x : Int) (k1 : M' 1 = g) (k2 : ∀ i : Nat, (i : Int) < g 9 → M' 19 i = wb g i ∧ M' 20 i = we g i) : ∀ (k j n : Nat), (j : Int) + k = g 9 → k < n → f_X11_spoken_L12 x (wEnd g) n (j : Int) M' = some (spkF g x k j, M') := by
  have h9 := hv.1
  intro k
  induction k with
  | zero =>
    intro j n hj hn
    obtain ⟨n, rfl⟩ := nat_ex hn
    simp only [f_X11_spoken_L12, show (9 : Int).toNat = 9 from rfl, k1]; rw [if_pos (by omega)]; rfl
  | succ k ih =>
    intro j n hj hn
    obtain ⟨n, rfl⟩ := nat_ex hn
    have c := k2 j (by omega)
    have w1 := we_b hl hv (i := j) (by omega)
    have w2 := wb_b hl hv j (by omega)
    by_cases z : wEnd g ≤ x
    · rw [spkF_end hl hv z (k + 1) j hj]
      simp only [f_X11_spoken_L12, show (9 : Int).toNat = 9 from rfl, k1]
      rw [if_neg (by omega), if_pos z]
    · simp only [f_X11_spoken_L12, show (9 : Int).toNat = 9 from rfl, k1]
      rw [if_neg (by omega), if_neg z, ck_pos ⟨by omega, by omega⟩, Int.toNat_natCast, c.1, c.2, ck_pos ⟨by omega, by omega⟩, isIn_eq, Option.bind_some, show (j : Int) + 1 = ((j + 1 : Nat) : Int) by omega, ih (j + 1) n (by omega) (by omega)]
      show _ = some (ite _ _ _, M')
      by_cases q : wb g j ≤ x ∧ x < we g j
      · rw [if_pos (show wb g j ≤ x ∧ x ≤ we g j - 1 by omega), if_neg (by decide), if_pos q]
      · rw [if_neg (show ¬ (wb g j ≤ x ∧ x ≤ we g j - 1) by omega), if_pos rfl, ck_pos ⟨by omega, by omega⟩, if_neg q]
theorem p_spoken {k : Nat} {Mc Mr : Mem} (h : Rel k Mc Mr) (p : Int) : ∃ Mc' Mr' : Mem, st_spoken p Mc Mr Mc' Mr' ∧ Rel (k + 1) Mc' Mr' := by
  have hl := h.wf.1
  have hv := h.wf.2.1
  have h9 := hv.1
  have k1 : (upm Mr 0 7 0) 1 = Mr 1 := thr_ne _ _ (by decide)
  obtain ⟨M', l1, l2, l3⟩ := laysW (M := upm Mr 0 7 0) (by rw [k1]; exact hl) (by rw [k1]; exact hv)
  rw [k1] at l1 l3
  have k2 : M' 1 = Mr 1 := (l2 1 (by decide) (by decide)).trans k1
  refine ⟨Mc, M', ⟨spkF (Mr 1) p (Mr 1 9).toNat 0, ?_, rfl, ?_⟩, h.scr keepC.rfl (keepR.thr.trans l2.R) (by omega)⟩
  · unfold f_X10_spoken f_X6_wordAt
    have e := L_spk_C hv h.sp p (Mr 1 9).toNat 0 jFuel (by omega) (jF (by omega))
    rw [show (0 : Int) = ((0 : Nat) : Int) from rfl, e]; rfl
  · unfold f_X11_spoken
    simp only [lt]
    rw [l1, Option.bind_some]
    exact L_spk_R hl hv p k2 l3 (Mr 1 9).toNat 0 jFuel (by omega) (jF (by omega))
/-! pieces asked for -/
theorem p_piece {k : Nat} {Mc Mr : Mem} (h : Rel k Mc Mr) (p q : Int) : ∃ Mc' Mr' : Mem, st_piece p q Mc Mr Mc' Mr' ∧ Rel (k + 1) Mc' Mr' := by
  obtain ⟨M', l1, l2, l3⟩ := h.lays (M := Mr) rfl
  have o := h.pc.1
  have h60 := l3.1
  have e17 := l3.2.1
  by_cases hp : 0 ≤ p ∧ p < Mc 56 0
  · obtain ⟨i, rfl⟩ : ∃ i : Nat, p = (i : Int) := ⟨p.toNat, by omega⟩
    have b := o.1 i hp.2
    obtain ⟨c1, c2, c3, c4, c5, c6⟩ := l3.2.2 i hp.2
    by_cases hq : 0 ≤ q ∧ q ≤ 6
    · refine ⟨Mc, upm M' 0 7 0, Or.inl ⟨if q = 0 then Mc 57 i else if q = 1 then Mc 58 i else if q = 2 then Mc 59 i else if q = 3 then Mc 60 i else if q = 4 then Mc 61 i else if q = 5 then Mc 61 i + Mc 60 i else Mc 62 i, ?_, rfl, ?_, thr_at _ _⟩, h.scr keepC.rfl (l2.R.trans keepR.thr) (by omega)⟩
      · unfold f_X10_piece
        rw [(rI_ok hp).1, Option.bind_some, (rR_ok hq).1, Option.bind_some, endC (by omega) ⟨by omega, by omega⟩, Option.bind_some]
        repeat rw [ck_pos (show (0 : Int) ≤ (i : Int) ∧ (i : Int) < 60 from ⟨by omega, by omega⟩)]
        simp only [Int.toNat_natCast]
        (repeat' split) <;> rfl
      · unfold f_X11_piece
        rw [l1, Option.bind_some, e17, ck_pos ⟨by omega, by omega⟩, isIn_eq, if_pos (by omega), Option.bind_some, isIn_eq, if_pos hq, Option.bind_some, gb11, Option.bind_some]
        simp only []
        rw [if_neg (by decide), endR (by omega) (by rw [thr_ne _ _ (by decide), thr_ne _ _ (by decide), c4, c5]; exact ⟨by omega, by omega⟩), Option.bind_some]
        repeat rw [ck_pos (show (0 : Int) ≤ (i : Int) ∧ (i : Int) < 64 from ⟨by omega, by omega⟩)]
        simp only [Int.toNat_natCast]
        repeat rw [thr_ne _ _ (by decide)]
        rw [c1, c2, c3, c4, c5, c6]
        (repeat' split) <;> rfl
    · refine ⟨Mc, upm M' 0 7 2, Or.inr (Or.inr ⟨?_, 0, ?_, thr_at _ _⟩), h.scr keepC.rfl (l2.R.trans keepR.thr) (by omega)⟩
      · unfold x_X10_piece
        exact x2_2 hp hq
      · unfold f_X11_piece
        rw [l1, Option.bind_some, e17, ck_pos ⟨by omega, by omega⟩, isIn_eq, if_pos (by omega), Option.bind_some, isIn_eq, if_neg hq, Option.bind_some, gb10, Option.bind_some]
        simp
  · refine ⟨Mc, upm M' 0 7 1, Or.inr (Or.inl ⟨?_, 0, ?_, thr_at _ _⟩), h.scr keepC.rfl (l2.R.trans keepR.thr) (by omega)⟩
    · unfold x_X10_piece
      exact x2_1 hp
    · unfold f_X11_piece
      rw [l1, Option.bind_some, e17, ck_pos ⟨by omega, by omega⟩, isIn_eq, if_neg (by omega), Option.bind_some, isIn_eq, Option.bind_some, gb0, Option.bind_some]
      simp
