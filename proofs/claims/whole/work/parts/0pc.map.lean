/-! maps asked for -/
def shF (Mc : Mem) (x f : Int) : Int := if scrF Mc f (Mc 56 0).toNat = -1 then 0 else if Mc 57 (scrF Mc f (Mc 56 0).toNat).toNat = 1 ∧ Mc 58 (scrF Mc f (Mc 56 0).toNat).toNat = x then 1 else 0
theorem shF_b (Mc : Mem) (x f : Int) : shF Mc x f = 0 ∨ shF Mc x f = 1 := by
  unfold shF; (repeat' split) <;> simp
theorem shows_C {Mc M' : Mem} {g : Row} (o : PcsOK Mc g) (q : PcsEq Mc M') (x f : Int) : f_X5_shows x f Mc = some (shF Mc x f) := by
  have h60 := q.1
  have b := scrF_b Mc f (Mc 56 0).toNat
  unfold f_X5_shows shF
  rw [scr_C o q, Option.bind_some]
  by_cases c : scrF Mc f (Mc 56 0).toNat = -1
  · rw [if_pos (by omega), if_pos c]
  · rw [if_neg (by omega), if_neg c, ck_pos ⟨by omega, by omega⟩]
    by_cases c1 : Mc 57 (scrF Mc f (Mc 56 0).toNat).toNat = 1
    · rw [if_pos c1]
      by_cases c2 : Mc 58 (scrF Mc f (Mc 56 0).toNat).toNat = x
      · rw [if_pos c2, if_pos ⟨c1, c2⟩]
      · rw [if_neg c2, if_neg (fun z => c2 z.2)]
    · rw [if_neg c1, if_neg (fun z => c1 z.1)]
theorem shown_R {Mc M' : Mem} {g : Row} (o : PcsOK Mc g) (q : PcsEq Mc M') (x : Int) {i : Nat} (hi : i < 64) : f_X11_isShown x (i : Int) M' = some (shF Mc x (M' 19 i)) := by
  have h60 := q.1
  have b := scrF_b Mc (M' 19 i) (Mc 56 0).toNat
  unfold f_X11_isShown shF
  rw [ck_pos ⟨by omega, by omega⟩, Int.toNat_natCast, scr_R o q, Option.bind_some]
  by_cases c : scrF Mc (M' 19 i) (Mc 56 0).toNat = -1
  · rw [if_pos c, if_pos c]
  · have e := q.2.2 (scrF Mc (M' 19 i) (Mc 56 0).toNat).toNat (by omega)
    rw [if_neg c, if_neg c, ck_pos ⟨by omega, by omega⟩, e.1, e.2.1]
    by_cases c1 : Mc 57 (scrF Mc (M' 19 i) (Mc 56 0).toNat).toNat = 1
    · rw [if_pos c1]
      by_cases c2 : Mc 58 (scrF Mc (M' 19 i) (Mc 56 0).toNat).toNat = x
      · rw [if_pos c2, if_pos ⟨c1, c2⟩]
      · rw [if_neg c2, if_neg (fun z => c2 z.2)]
    · rw [if_neg c1, if_neg (fun z => c1 z.1)]
noncomputable def nwF (g : Row) (Mc : Mem) (x z : Int) (i : Nat) : Int := if mapOf g i = x ∧ (z = 0 ∨ shF Mc x (wb g i) = 1) then 1 else 0
theorem L_nw_C0 {Mc : Mem} {g : Row} (hv : WFv g) (s : RSp Mc g) (x : Int) : ∀ (k j n : Nat) (a : Int), (j : Int) + k = g 9 → k < n → 0 ≤ a → a ≤ (j : Int) → f_X6_countOf_L4 x Mc n a (j : Int) = some (a + sumF (nwF g Mc x 0) k j) := by
  have h9 := hv.1
  intro k
  induction k with
  | zero =>
    intro j n a hj hn _ _
    obtain ⟨n, rfl⟩ := nat_ex hn
    simp only [f_X6_countOf_L4, s.1]
    rw [if_pos (by omega)]; simp [sumF]
  | succ k ih =>
    intro j n a hj hn h1 h2
    obtain ⟨n, rfl⟩ := nat_ex hn
    have e : sumF (nwF g Mc x 0) (k + 1) j = nwF g Mc x 0 j + sumF (nwF g Mc x 0) k (j + 1) := rfl
    have pb : nwF g Mc x 0 j = if mapOf g j = x ∧ ((0 : Int) = 0 ∨ shF Mc x (wb g j) = 1) then 1 else 0 := rfl
    simp only [f_X6_countOf_L4, s.1]
    rw [if_neg (by omega), ck_pos ⟨by omega, by omega⟩, Int.toNat_natCast, (s.2.2 j (by omega)).2.2, show (j : Int) + 1 = ((j + 1 : Nat) : Int) by omega, e]
    by_cases q : mapOf g j = x
    · rw [if_pos ⟨q, Or.inl rfl⟩] at pb
      rw [if_pos q, ck_pos ⟨by omega, by omega⟩, ck_pos ⟨by omega, by omega⟩, ih (j + 1) n _ (by omega) (by omega) (by omega) (by omega), pb, Int.add_assoc]
    · rw [if_neg (fun z => q z.1)] at pb
      rw [if_neg q, ck_pos ⟨by omega, by omega⟩, ih (j + 1) n _ (by omega) (by omega) (by omega) (by omega), pb, Int.zero_add]
theorem L_nw_C1 {Mc M' : Mem} {g : Row} (hv : WFv g) (s : RSp Mc g) (o : PcsOK Mc g) (pq : PcsEq Mc M') (x : Int) : ∀ (k j n : Nat) (a : Int), (j : Int) + k = g 9 → k < n → 0 ≤ a → a ≤ (j : Int) → f_X10_shownWords_L4 x Mc n a (j : Int) = some (a + sumF (nwF g Mc x 1) k j) := by
  have h9 := hv.1
  intro k
  induction k with
  | zero =>
    intro j n a hj hn _ _
    obtain ⟨n, rfl⟩ := nat_ex hn
    simp only [f_X10_shownWords_L4, s.1]
    rw [if_pos (by omega)]; simp [sumF]
  | succ k ih =>
    intro j n a hj hn h1 h2
    obtain ⟨n, rfl⟩ := nat_ex hn
    have e : sumF (nwF g Mc x 1) (k + 1) j = nwF g Mc x 1 j + sumF (nwF g Mc x 1) k (j + 1) := rfl
    have pb : nwF g Mc x 1 j = if mapOf g j = x ∧ ((1 : Int) = 0 ∨ shF Mc x (wb g j) = 1) then 1 else 0 := rfl
    simp only [f_X10_shownWords_L4, s.1]
    rw [if_neg (by omega), ck_pos ⟨by omega, by omega⟩, Int.toNat_natCast, (s.2.2 j (by omega)).2.2, (s.2.2 j (by omega)).1, shows_C o pq, Option.bind_some, show (j : Int) + 1 = ((j + 1 : Nat) : Int) by omega, e]
    by_cases q : mapOf g j = x
    · rw [if_pos q]
      rcases shF_b Mc x (wb g j) with z | z
      · rw [if_neg (by rw [z]; omega)] at pb
        rw [if_pos z, ck_pos ⟨by omega, by omega⟩, ih (j + 1) n _ (by omega) (by omega) (by omega) (by omega), pb, Int.zero_add]
      · rw [if_pos ⟨q, Or.inr z⟩] at pb
        rw [if_neg (by omega), ck_pos ⟨by omega, by omega⟩, ck_pos ⟨by omega, by omega⟩, ih (j + 1) n _ (by omega) (by omega) (by omega) (by omega), pb, Int.add_assoc]
    · rw [if_neg (fun z => q z.1)] at pb
      rw [if_neg q, ck_pos ⟨by omega, by omega⟩, ih (j + 1) n _ (by omega) (by omega) (by omega) (by omega), pb, Int.zero_add]
theorem PcsEq.eqv {Mc M M' : Mem} (h : PcsEq Mc M) (e0 : M' 0 17 = M 0 17) (e : ∀ c : Nat, 7 ≤ c → c ≤ 12 → M' c = M c) : PcsEq Mc M' := by
  obtain ⟨h1, h2, h3⟩ := h
  refine ⟨h1, e0.trans h2, ?_⟩
  rw [e 7 (by omega) (by omega), e 8 (by omega) (by omega), e 9 (by omega) (by omega), e 10 (by omega) (by omega), e 11 (by omega) (by omega), e 12 (by omega) (by omega)]
  exact h3
theorem L_nw_R {Mc M : Mem} (hl : WFl (M 1)) (hv : WFv (M 1)) (o : PcsOK Mc (M 1)) (pq : PcsEq Mc M) (k2 : ∀ i : Nat, (i : Int) < M 1 9 → M 19 i = wb (M 1) i) {m : Nat} (hm : (m : Int) < M 1 6) (z : Int) : ∀ (k j n : Nat) (a : Int), (j : Int) + k = M 1 9 → k < n → 0 ≤ a → a ≤ (j : Int) → f_X11_namedBy_L15 (m : Int) z (wEnd (M 1)) n a (j : Int) M = some (a + sumF (nwF (M 1) Mc (m : Int) z) k j, M) := by
  have h9 := hv.1
  have we := wEnd_b hl hv
  intro k
  induction k with
  | zero =>
    intro j n a hj hn _ _
    obtain ⟨n, rfl⟩ := nat_ex hn
    simp only [f_X11_namedBy_L15, show (9 : Int).toNat = 9 from rfl]
    rw [if_pos (by omega)]; simp [sumF]
  | succ k ih =>
    intro j n a hj hn h1 h2
    obtain ⟨n, rfl⟩ := nat_ex hn
    obtain ⟨v, e1, e2, e3⟩ := nm_ev hl hv (i := j) (m := m) (by omega) hm
    have e : sumF (nwF (M 1) Mc (m : Int) z) (k + 1) j = nwF (M 1) Mc (m : Int) z j + sumF (nwF (M 1) Mc (m : Int) z) k (j + 1) := rfl
    have pb : nwF (M 1) Mc (m : Int) z j = if mapOf (M 1) j = (m : Int) ∧ (z = 0 ∨ shF Mc (m : Int) (wb (M 1) j) = 1) then 1 else 0 := rfl
    have mi := map_iff hl (i := j) hm
    simp only [f_X11_namedBy_L15, show (9 : Int).toNat = 9 from rfl, jn]
    rw [if_neg (by omega), if_neg (by omega), e1, Option.bind_some, shown_R o pq (m : Int) (by omega), k2 j (by omega), Option.bind_some, show (j : Int) + 1 = ((j + 1 : Nat) : Int) by omega, e]
    have no : nwF (M 1) Mc (m : Int) z j = 0 → ((f_X11_bit 0 M).bind fun r62 => ck (inR (a + r62)) <| ck (inR ((j + 1 : Nat) : Int)) <| (f_X11_namedBy_L15 (m : Int) z (wEnd (M 1)) n) (a + r62) ((j + 1 : Nat) : Int) M) = some (a + (nwF (M 1) Mc (m : Int) z j + sumF (nwF (M 1) Mc (m : Int) z) k (j + 1)), M) := by
      intro w
      rw [bit_eq, if_pos rfl, Option.bind_some, ck_pos ⟨by omega, by omega⟩, ck_pos ⟨by omega, by omega⟩, ih (j + 1) n _ (by omega) (by omega) (by omega) (by omega), w, Int.zero_add, Int.add_zero]
    have yes : nwF (M 1) Mc (m : Int) z j = 1 → ((f_X11_bit 1 M).bind fun r62 => ck (inR (a + r62)) <| ck (inR ((j + 1 : Nat) : Int)) <| (f_X11_namedBy_L15 (m : Int) z (wEnd (M 1)) n) (a + r62) ((j + 1 : Nat) : Int) M) = some (a + (nwF (M 1) Mc (m : Int) z j + sumF (nwF (M 1) Mc (m : Int) z) k (j + 1)), M) := by
      intro w
      rw [bit_eq, if_neg (by decide), Option.bind_some, ck_pos ⟨by omega, by omega⟩, ck_pos ⟨by omega, by omega⟩, ih (j + 1) n _ (by omega) (by omega) (by omega) (by omega), w, Int.add_assoc]
    by_cases c : nmEq (M 1) j m
    · rw [if_neg (by have := e3.2 c; omega)]
      by_cases c1 : z = 0
      · rw [if_pos ⟨mi.2 c, Or.inl c1⟩] at pb
        rw [if_pos c1]; exact yes pb
      · rw [if_neg c1]
        rcases shF_b Mc (m : Int) (wb (M 1) j) with w | w
        · rw [if_neg (by intro q; rcases q.2 with q | q <;> omega)] at pb
          rw [if_pos w]; exact no pb
        · rw [if_pos ⟨mi.2 c, Or.inr w⟩] at pb
          rw [if_neg (by omega)]; exact yes pb
    · rw [if_neg (fun q => c (mi.1 q.1))] at pb
      rw [if_pos (by rcases e2 with q | q; · exact q
                     · exact absurd (e3.1 q) c)]
      exact no pb
theorem nw_R {k : Nat} {Mc Mr M : Mem} (h : Rel k Mc Mr) (e : M 1 = Mr 1) {m : Nat} (hm : (m : Int) < Mr 1 6) (z : Int) : ∃ M' : Mem, f_X11_namedBy (m : Int) z M = some (sumF (nwF (Mr 1) Mc (m : Int) z) (Mr 1 9).toNat 0, M') ∧ keepR M M' ∧ M' 0 7 = M 0 7 := by
  have hl := h.wf.1
  have hv := h.wf.2.1
  have h9 := hv.1
  obtain ⟨M1, l1, l2, l3⟩ := h.lays e
  have k1 : M1 1 = Mr 1 := (l2.1 1 (by decide) (by decide)).trans e
  obtain ⟨M2, w1, w2, w3⟩ := laysW (M := M1) (by rw [k1]; exact hl) (by rw [k1]; exact hv)
  have k2 : M2 1 = Mr 1 := (w2 1 (by decide) (by decide)).trans k1
  rw [k1] at w1 w3
  refine ⟨M2, ?_, l2.R.trans w2.R, ?_⟩
  · unfold f_X11_namedBy
    rw [l1, Option.bind_some, w1, Option.bind_some]
    have pq : PcsEq Mc M2 := l3.eqv (by rw [w2 0 (by decide) (by decide)]) (fun c c1 c2 => w2 c (by omega) (by omega))
    have q := L_nw_R (M := M2) (Mc := Mc) (by rw [k2]; exact hl) (by rw [k2]; exact hv) (by rw [k2]; exact h.pc.1) pq (by rw [k2]; exact fun i hi => (w3 i hi).1) (m := m) (by rw [k2]; exact hm) z (Mr 1 9).toNat 0 jFuel 0 (by rw [k2]; omega) (jF (by omega)) (by omega) (by omega)
    rw [k2, Int.zero_add] at q
    exact q
  · rw [w2 0 (by decide) (by decide)]; exact l2.2 7 (by decide) (by decide) (by decide)
theorem p_map {k : Nat} {Mc Mr : Mem} (h : Rel k Mc Mr) (p q : Int) : ∃ Mc' Mr' : Mem, st_map p q Mc Mr Mc' Mr' ∧ Rel (k + 1) Mc' Mr' := by
  have hl := h.wf.1
  have hv := h.wf.2.1
  have h9 := hv.1
  have r := h.rs.1
  have h6 := hl.2.2.2.2.2.2.1
  have e6 : Mc 6 3 = Mr 1 6 := r.2.1
  have sh : f_X11_isMap p Mr = some (if 0 ≤ p ∧ p < Mr 1 6 then 1 else 0) := by
    unfold f_X11_isMap
    rw [show (6 : Int).toNat = 6 from rfl, ck_pos ⟨by omega, by omega⟩, isIn_eq, Option.bind_some]
    by_cases c : 0 ≤ p ∧ p < Mr 1 6
    · rw [if_pos c, if_pos (by omega), ck_pos (Or.inr rfl)]
    · rw [if_neg c, if_neg (by omega), ck_pos (Or.inl rfl)]
  by_cases hp : 0 ≤ p ∧ p < Mr 1 6
  · rw [if_pos hp] at sh
    obtain ⟨i, rfl⟩ : ∃ i : Nat, p = (i : Int) := ⟨p.toNat, by omega⟩
    by_cases hq : 0 ≤ q ∧ q ≤ 3
    · have k1 : (upm Mr 0 7 0) 1 = Mr 1 := thr_ne _ _ (by decide)
      obtain ⟨Mp, l1, l2, l3⟩ := h.lays (M := Mr) rfl
      obtain ⟨M2, a1, a2⟩ := pcs_R h k1 1 (i : Int) 0
      obtain ⟨M1, b1, b2, b3⟩ := nw_R h k1 (m := i) hp.2 0
      obtain ⟨M3, c1, c2, c3⟩ := nw_R h k1 (m := i) hp.2 1
      have t2 : M2 0 7 = 0 := (a2.2 7 (by decide) (by decide) (by decide)).trans (thr_at _ _)
      have t1 : M1 0 7 = 0 := b3.trans (thr_at _ _)
      have t3 : M3 0 7 = 0 := c3.trans (thr_at _ _)
      have n0 := L_nw_C0 hv h.sp (i : Int) (Mr 1 9).toNat 0 jFuel 0 (by omega) (jF (by omega)) (by omega) (by omega)
      have n1 := L_nw_C1 hv h.sp h.pc.1 l3 (i : Int) (Mr 1 9).toNat 0 jFuel 0 (by omega) (jF (by omega)) (by omega) (by omega)
      rw [Int.zero_add] at n0 n1
      have nl : f_X3_nameLengthOf 5 (i : Int) Mc = some (Mr 1 (36 + 10 * i)) := by
        unfold f_X3_nameLengthOf
        rw [if_neg (by omega), r.2.1, if_neg (by omega), ck_pos ⟨by omega, by omega⟩, Int.toNat_natCast, (r.2.2.2.2.1 i hp.2).1]
      refine ⟨Mc, if q = 0 then upm Mr 0 7 0 else if q = 1 then M1 else if q = 2 then M2 else M3, Or.inl ⟨if q = 0 then Mr 1 (36 + 10 * i) else if q = 1 then sumF (nwF (Mr 1) Mc i 0) (Mr 1 9).toNat 0 else if q = 2 then sumF (pcF Mc 1 i 0) (Mc 56 0).toNat 0 else sumF (nwF (Mr 1) Mc i 1) (Mr 1 9).toNat 0, ?_, rfl, ?_, ?_⟩, h.scr keepC.rfl ?_ (by omega)⟩
      · unfold f_X10_map f_X6_countOf f_X10_shownWords
        have n0 : f_X6_countOf_L4 (i : Int) Mc jFuel 0 0 = _ := n0
        have n1 : f_X10_shownWords_L4 (i : Int) Mc jFuel 0 0 = _ := n1
        rw [e6, (rI_ok hp).1, Option.bind_some, (rR_ok hq).1, Option.bind_some, nl, n0, n1, pcs_C0 h]
        simp only [Option.bind_some]
        (repeat' split) <;> rfl
      · unfold f_X11_map
        rw [sh, Option.bind_some, isIn_eq, if_pos hq, Option.bind_some, gb11, Option.bind_some]
        simp only []
        rw [if_neg (by decide), a1, b1, c1, k1, ck_pos ⟨by omega, by omega⟩, ck_pos ⟨by omega, by omega⟩, ck_pos ⟨by omega, by omega⟩, show (36 + 10 * (i : Int)).toNat = 36 + 10 * i by omega]
        simp only [Option.bind_some]
        by_cases q0 : q = 0
        · rw [if_pos q0, if_pos q0, if_pos q0]
        · rw [if_neg q0, if_neg q0, if_neg q0]
          by_cases q2 : q = 2
          · have q1 : ¬ q = 1 := by omega
            rw [if_pos q2, if_neg q1, if_neg q1, if_pos q2, if_pos q2]
          · rw [if_neg q2]
            by_cases q3 : q = 3
            · have q1 : ¬ q = 1 := by omega
              rw [if_pos q3, if_neg q1, if_neg q1, if_neg q2, if_neg q2]
            · have q1 : q = 1 := by omega
              rw [if_neg q3, if_pos q1, if_pos q1]
      · (repeat' split) <;> first | exact thr_at _ _ | exact t1 | exact t2 | exact t3
      · split
        · exact keepR.thr
        · split
          · exact keepR.thr.trans b2
          · split
            · exact keepR.thr.trans a2.R
            · exact keepR.thr.trans c2
    · refine ⟨Mc, upm Mr 0 7 2, Or.inr (Or.inr ⟨?_, 0, ?_, thr_at _ _⟩), h.scr keepC.rfl keepR.thr (by omega)⟩
      · unfold x_X10_map
        rw [e6]; exact x2_2 hp hq
      · unfold f_X11_map
        rw [sh, Option.bind_some, isIn_eq, if_neg hq, Option.bind_some, gb10, Option.bind_some]
        simp
  · rw [if_neg hp] at sh
    refine ⟨Mc, upm Mr 0 7 1, Or.inr (Or.inl ⟨?_, 0, ?_, thr_at _ _⟩), h.scr keepC.rfl keepR.thr (by omega)⟩
    · unfold x_X10_map
      rw [e6]; exact x2_1 hp
    · unfold f_X11_map
      rw [sh, Option.bind_some, isIn_eq, Option.bind_some, gb0, Option.bind_some]
      simp
