/-! move -/
theorem tops_same {g g' : Row} {t q m : Nat} (hs : same g g' t q m) (dt : dp g' q = dp g t) (mt : mulS g' q = mulS g t) : ∀ (k j : Nat), j + k ≤ m → ∀ a : Int, tops g' k (q + j) a = tops g k (t + j) a := by
  intro k
  induction k with
  | zero => intro j _ a; rfl
  | succ k ih =>
    intro j hj a
    obtain ⟨c1, _⟩ := hs.cols (j := j) (by omega)
    obtain ⟨d1, _⟩ := cat_1 hs dt mt j (by omega)
    show tops g' k (q + j + 1) (ite _ _ _) = tops g k (t + j + 1) (ite _ _ _)
    rw [c1, d1]
    exact ih (j + 1) (by omega) _
theorem isTop.le {g : Row} {x r : Nat} (h : isTop g x r) : x ≤ nTp g := by
  have e := nTp_e g
  have c := tops_cat g r ((g 8).toNat - r) 0
  have h1 := h.1
  rw [show r + ((g 8).toNat - r) = (g 8).toNat by omega] at c
  have := (tops_b g ((g 8).toNat - r) (0 + r) 0).1
  have := h.2.2
  omega
theorem L_m52 {M0 : Mem} {t m : Nat} {y : Int} (ht : t + m ≤ 60) : ∀ (k j n : Nat) (M : Mem), j + k = 4 * m → k < n → (∀ c : Nat, c ≠ 28 → M c = M0 c) → (∀ i : Nat, i < j → M 28 i = M0 1 (126 + 4 * t + i)) →
    ∃ M' : Mem, f_X11_move_L52 y (t : Int) (m : Int) n (j : Int) M = ((f_X11_shiftsFront (t : Int) (m : Int) M').bind fun M92 => (f_X11_rowOf y M92).bind fun r97 => (f_X11_shiftsBack r97 (m : Int) M92).bind fun M107 => f_X11_move_L113 (m : Int) r97 jFuel 0 M107) ∧ (∀ c : Nat, c ≠ 28 → M' c = M0 c) ∧ ∀ i : Nat, i < 4 * m → M' 28 i = M0 1 (126 + 4 * t + i) := by
  intro k
  induction k with
  | zero =>
    intro j n M hj hn h1 h2
    obtain ⟨n, rfl⟩ := nat_ex hn
    refine ⟨M, ?_, h1, fun i hi => h2 i (by omega)⟩
    rw [f_X11_move_L52, ck_pos ⟨by omega, by omega⟩, if_pos (by omega)]
  | succ k ih =>
    intro j n M hj hn h1 h2
    obtain ⟨n, rfl⟩ := nat_ex hn
    obtain ⟨M', e1, e2⟩ := ih (j + 1) n (upm M 28 j (M0 1 (126 + 4 * t + j))) (by omega) (by omega) (fun c hc => by rw [upm_ne hc]; exact h1 c hc) (fun i hi => by
      by_cases z : i = j
      · rw [z, upm_hit]
      · rw [upm_sl z]; exact h2 i (by omega))
    refine ⟨M', ?_, e2⟩
    rw [f_X11_move_L52, ck_pos ⟨by omega, by omega⟩, if_neg (by omega), ck_pos ⟨by omega, by omega⟩, ck_pos ⟨by omega, by omega⟩, ck_pos ⟨by omega, by omega⟩, ck_pos ⟨by omega, by omega⟩, ck_pos ⟨by omega, by omega⟩, lt_eq, ck_pos ⟨by omega, by omega⟩, Int.toNat_natCast, show (126 + 4 * (t : Int) + (j : Int)).toNat = 126 + 4 * t + j by omega, h1 1 (by decide), show (j : Int) + 1 = ((j + 1 : Nat) : Int) by omega]
    exact e1
theorem L_m113 {M0 : Mem} {v m : Nat} (hv : v + m ≤ 60) : ∀ (k j n : Nat) (M : Mem), j + k = 4 * m → k < n → (∀ c : Nat, c ≠ 1 → M c = M0 c) → (∀ i : Nat, M 1 i = if 126 + 4 * v ≤ i ∧ i < 126 + 4 * v + j then M0 28 (i - (126 + 4 * v)) else M0 1 i) →
    ∃ M' : Mem, f_X11_move_L113 (m : Int) (v : Int) n (j : Int) M = ((f_X11_endNow M').bind fun (r151, M151) => some (r151, M151)) ∧ (∀ c : Nat, c ≠ 1 → M' c = M0 c) ∧ ∀ i : Nat, M' 1 i = if 126 + 4 * v ≤ i ∧ i < 126 + 4 * v + 4 * m then M0 28 (i - (126 + 4 * v)) else M0 1 i := by
  intro k
  induction k with
  | zero =>
    intro j n M hj hn h1 h2
    obtain ⟨n, rfl⟩ := nat_ex hn
    refine ⟨M, ?_, h1, by rw [show j = 4 * m by omega] at h2; exact h2⟩
    rw [f_X11_move_L113, ck_pos ⟨by omega, by omega⟩, if_pos (by omega)]
  | succ k ih =>
    intro j n M hj hn h1 h2
    obtain ⟨n, rfl⟩ := nat_ex hn
    obtain ⟨M', e1, e2⟩ := ih (j + 1) n (upm M 1 (126 + 4 * v + j) (M0 28 j)) (by omega) (by omega) (fun c hc => by rw [upm_ne hc]; exact h1 c hc) (fun i => by
      rw [upm_row, updr_ap, h2 i]
      by_cases z : i = 126 + 4 * v + j
      · rw [if_pos z, if_pos (by omega), z]; congr 1; omega
      · rw [if_neg z]
        by_cases w : 126 + 4 * v ≤ i ∧ i < 126 + 4 * v + j
        · rw [if_pos w, if_pos (by omega)]
        · rw [if_neg w, if_neg (by omega)])
    refine ⟨M', ?_, e2⟩
    rw [f_X11_move_L113, ck_pos ⟨by omega, by omega⟩, if_neg (by omega), ck_pos ⟨by omega, by omega⟩, ck_pos ⟨by omega, by omega⟩, ck_pos ⟨by omega, by omega⟩, ck_pos ⟨by omega, by omega⟩, ck_pos ⟨by omega, by omega⟩, lt_eq, ck_pos ⟨by omega, by omega⟩, Int.toNat_natCast, show (126 + 4 * (v : Int) + (j : Int)).toNat = 126 + 4 * v + j by omega, h1 28 (by decide), show (j : Int) + 1 = ((j + 1 : Nat) : Int) by omega]
    exact e1
theorem tmt (i x y : Nat) (h : i < 100) (M : Mem) : f_X10_topMovedTo (i : Int) (x : Int) (y : Int) M = some ((if i = y then x else if y ≤ i then (if x ≤ i - 1 then i else i - 1) else (if x ≤ i then i + 1 else i) : Nat) : Int) := by
  unfold f_X10_topMovedTo
  by_cases z : i = y
  · rw [if_pos (by omega), if_pos z]
  · rw [if_neg (by omega), if_neg z, jn_eq]
    by_cases a : y ≤ i
    · rw [if_pos (by omega), if_pos a, ck_pos ⟨by omega, by omega⟩]
      dsimp only
      by_cases b : x ≤ i - 1
      · rw [if_pos (by omega), if_pos b, ck_pos ⟨by omega, by omega⟩]; congr 1; omega
      · rw [if_neg (by omega), if_neg b]; congr 1; omega
    · rw [if_neg (by omega), if_neg a]
      dsimp only
      by_cases b : x ≤ i
      · rw [if_pos (by omega), if_pos b, ck_pos ⟨by omega, by omega⟩]; congr 1
      · rw [if_neg (by omega), if_neg b]
theorem L_mov {C0 : Mem} {g g' : Row} {x y e : Nat} {σ Q : Nat → Nat} (hi : WFi g) (r : RSi C0 5 g) (hσ : ∀ i : Nat, i < nTp g → σ i < nTp g ∧ ∀ M : Mem, f_X10_topMovedTo (i : Int) (x : Int) (y : Int) M = some ((σ i : Nat) : Int)) (hs : ∀ i : Nat, i < nTp g → same g g' (tR g (σ i)) (Q i) (tR g (σ i + 1) - tR g (σ i)) ∧ Q (i + 1) = Q i + (tR g (σ i + 1) - tR g (σ i)) ∧ Q (i + 1) ≤ e) (h30 : it g' e ≤ 30) : ∀ (k i n : Nat) (C : Mem), i + k = nTp g → k < n → Bt C g' (Q i) → (∀ c : Nat, c < 29 + 17 ∨ 29 + 22 < c → C c = C0 c) →
    ∃ C1 : Mem, f_X10_move_L34 (x : Int) (y : Int) (nTp g : Nat) n (i : Int) C = ((f_X10_takeDraftItems C1).bind fun (r63, M63) => some (r63, M63)) ∧ Bt C1 g' (Q (nTp g)) ∧ ∀ c : Nat, c < 29 + 17 ∨ 29 + 22 < c → C1 c = C0 c := by
  have n60 : nTp g ≤ 60 := by
    have := (tops_b g (g 8).toNat 0 0).2
    have := nTp_e g
    have := hi.1
    omega
  intro k
  induction k with
  | zero =>
    intro i n C hk hn b f
    obtain ⟨n, rfl⟩ := nat_ex hn
    refine ⟨C, ?_, ?_, f⟩
    · rw [f_X10_move_L34, if_pos (by omega)]
    · rw [show i = nTp g by omega] at b; exact b
  | succ k ih =>
    intro i n C hk hn b f
    obtain ⟨n, rfl⟩ := nat_ex hn
    obtain ⟨s1, s2, s3⟩ := hs i (by omega)
    obtain ⟨t1, t2⟩ := hσ i (by omega)
    have ri : RSi C 5 g := r.eqv (fun j _ _ => f _ (by omega))
    obtain ⟨C2, a1, a2, a3⟩ := bt_x (e := e) hi ri b t1 s1 (by omega) h30
    rw [f_X10_move_L34, if_neg (by omega), t2, Option.bind_some, a1, Option.bind_some, ck_pos ⟨by omega, by omega⟩, show (i : Int) + 1 = ((i + 1 : Nat) : Int) by omega]
    exact ih (i + 1) n C2 (by omega) (by omega) (by rw [s2]; exact a2) (fun c hc => (a3 c hc).trans (f c hc))
/-- the reference's row after a move, from row t of m rows to row v -/
def mvd (g : Row) (t m v e : Nat) : Row := fun i => if 126 + 4 * v ≤ i ∧ i < 126 + 4 * v + 4 * m then g (126 + 4 * t + (i - (126 + 4 * v))) else if i = 8 then (e : Int) else if 126 + 4 * (v + m) ≤ i ∧ i < 126 + 4 * e then (if 126 + 4 * t ≤ i - 4 * m ∧ i - 4 * m < 126 + 4 * (e - m) then g (i - 4 * m + 4 * m) else g (i - 4 * m)) else if 126 + 4 * t ≤ i ∧ i < 126 + 4 * (e - m) then g (i + 4 * m) else g i
theorem mvd_v (g : Row) (t m v e i : Nat) : mvd g t m v e i = if 126 + 4 * v ≤ i ∧ i < 126 + 4 * v + 4 * m then g (126 + 4 * t + (i - (126 + 4 * v))) else if i = 8 then (e : Int) else if 126 + 4 * (v + m) ≤ i ∧ i < 126 + 4 * e then (if 126 + 4 * t ≤ i - 4 * m ∧ i - 4 * m < 126 + 4 * (e - m) then g (i - 4 * m + 4 * m) else g (i - 4 * m)) else if 126 + 4 * t ≤ i ∧ i < 126 + 4 * (e - m) then g (i + 4 * m) else g i := rfl
theorem mvd_o {g : Row} {t m v e : Nat} (hv : v + m ≤ e) (he : e ≤ 60) (ht : t + m ≤ e) : outE g (mvd g t m v e) := fun i h1 h2 => by
  rw [mvd_v, if_neg (by omega), if_neg h1, if_neg (by omega), if_neg (by omega)]
theorem mvd_S2 {g : Row} {t m v e : Nat} : same g (mvd g t m v e) t v m := fun i hi => by
  rw [mvd_v, if_pos (by omega)]; congr 1; omega
/-- the two cases, as one -/
theorem mv_main {k : Nat} {Mc Mr : Mem} (h : Rel k Mc Mr) (hk : k < 512) {x y e t u m v : Nat} (he : Mr 1 8 = (e : Int)) (hx : x < nTp (Mr 1)) (hy : y < nTp (Mr 1)) (ht : t = tR (Mr 1) x) (hu : u = tR (Mr 1) (x + 1)) (htu : t < u) (hue : u ≤ e) (hm : m = u - t) (hv : v + m ≤ e)
    (hrow : ∀ M1 M2 : Mem, M1 1 = Mr 1 → f_X11_shiftsFront (t : Int) (m : Int) M1 = some M2 → f_X11_rowOf (y : Int) M2 = some (v : Int)) {N : Int} (st : St (mvd (Mr 1) t m v e) e (it (Mr 1) e) N) (hN : N ≤ 60)
    {σ Q : Nat → Nat} (hσ : ∀ i : Nat, i < nTp (Mr 1) → σ i < nTp (Mr 1) ∧ ∀ M : Mem, f_X10_topMovedTo (i : Int) (x : Int) (y : Int) M = some ((σ i : Nat) : Int)) (hs : ∀ i : Nat, i < nTp (Mr 1) → same (Mr 1) (mvd (Mr 1) t m v e) (tR (Mr 1) (σ i)) (Q i) (tR (Mr 1) (σ i + 1) - tR (Mr 1) (σ i)) ∧ Q (i + 1) = Q i + (tR (Mr 1) (σ i + 1) - tR (Mr 1) (σ i)) ∧ Q (i + 1) ≤ e) (Q0 : Q 0 = 0) (Qn : Q (nTp (Mr 1)) = e) : ∃ Mc' Mr' : Mem, st_move (x : Int) (y : Int) Mc Mr Mc' Mr' ∧ Rel (k + 1) Mc' Mr' := by
  have hi := h.wf.2.2
  have h8 := hi.1
  have tc := top_C hi h.rs.2.2
  have en := nTp_e (Mr 1)
  have n60 : nTp (Mr 1) ≤ 60 := by
    have := (tops_b (Mr 1) (Mr 1 8).toNat 0 0).2
    omega
  have i1 := isItem_R (M := Mr) hi (x : Int)
  have i2 := isItem_R (M := Mr) hi (y : Int)
  rw [en] at tc i1 i2
  rw [if_pos ⟨by omega, by omega⟩] at i1 i2
  obtain ⟨g', hg⟩ : ∃ g' : Row, g' = mvd (Mr 1) t m v e := ⟨_, rfl⟩
  have o : outE (Mr 1) g' := by rw [hg]; exact mvd_o hv (by omega) (by omega)
  rw [← hg] at st hs
  have e8' : g' 8 = (e : Int) := by rw [hg, mvd_v, if_neg (by omega), if_pos rfl]
  have i30 := hi.2.2.1
  rw [he, Int.toNat_natCast] at i30
  have w' := St.wf h.wf o st e8' (by omega) i30 hN
  obtain ⟨C0, q1, q2, q3⟩ := clrD_C (M := Mc) g'
  have ri0 : RSi C0 5 (Mr 1) := h.rs.2.2.eqv (fun j _ _ => q3 _ (by omega))
  obtain ⟨C1, l1, l2, l3⟩ := L_mov (C0 := C0) hi ri0 hσ hs (by rw [st.2.2.2.1]; exact i30) (nTp (Mr 1)) 0 jFuel C0 (by omega) (jF (by omega)) (by rw [Q0]; exact q2) (fun _ _ => rfl)
  rw [Qn] at l2
  obtain ⟨M1, t1, t2, t3, t4⟩ := take_done (C1 := C1) (M := upm Mr 0 7 0) h hk (fun c hc => (l3 c (by omega)).trans (q3 c (by omega))) keepR.thr
  have e11 : M1 1 = Mr 1 := (t2 1 (by decide) (by decide) (by decide)).trans (thr_ne _ _ (by decide))
  obtain ⟨M2, m1, m2, m3⟩ := L_m52 (M0 := M1) (t := t) (m := m) (y := (y : Int)) (by omega) (4 * m) 0 jFuel M1 (by omega) (jF (by omega)) (fun _ _ => rfl) (fun i hi => absurd hi (Nat.not_lt_zero i))
  have e21 : M2 1 = Mr 1 := (m2 1 (by decide)).trans e11
  obtain ⟨M3, f1, f2, f3⟩ := front_R (M := M2) (a := t) (m := m) (e := e) (by rw [e21]; exact he) (by omega) (by omega) (by omega)
  have ro := hrow M2 M3 e21 f1
  obtain ⟨M4, b1, b2, b3⟩ := back_R (M := M3) (a := v) (m := m) (e := e - m) (by rw [f3, if_pos rfl]; omega) (by omega) (by omega) (by omega)
  obtain ⟨M5, c1, c2, c3⟩ := L_m113 (M0 := M4) (v := v) (m := m) (by omega) (4 * m) 0 jFuel M4 (by omega) (jF (by omega)) (fun _ _ => rfl) (fun i => by rw [if_neg (by omega)])
  have eg : M5 1 = g' := by
    funext i
    rw [c3, hg, mvd_v, b2 28 (by decide), f2 28 (by decide)]
    by_cases z : 126 + 4 * v ≤ i ∧ i < 126 + 4 * v + 4 * m
    · rw [if_pos z, if_pos z, m3 _ (by omega), e11]
    · rw [if_neg z, if_neg z, b3, f3, f3, e21]
      by_cases y8 : i = 8
      · rw [if_pos y8, if_pos y8]; omega
      · rw [if_neg y8, if_neg y8, show e - m + m = e by omega]
        by_cases w : 126 + 4 * (v + m) ≤ i ∧ i < 126 + 4 * e
        · rw [if_pos w, if_pos w, if_neg (by omega), if_neg y8]
        · rw [if_neg w, if_neg w, if_neg y8]
  obtain ⟨C4, M6, z1, z2, z3, z4⟩ := t4 g' M5 (by rw [e8', Int.toNat_natCast]; exact l2.2.2) w' o eg (fun c n1 n28 => by rw [c2 c n1, b2 c n1, f2 c n1, m2 c n28])
  refine ⟨C4, M6, Or.inl ⟨C4 56 1, ?_, ?_, z3.trans (thr_at _ _)⟩, z4⟩
  · unfold f_X10_move
    rw [tc, Option.bind_some, (rI_ok ⟨by omega, by omega⟩).1, Option.bind_some, (rI_ok ⟨by omega, by omega⟩).1, Option.bind_some, q1, Option.bind_some]
    exact l1.trans (by rw [z1]; rfl)
  · unfold f_X11_move
    rw [i1, Option.bind_some]
    simp only [jn]
    rw [if_neg (by decide), i2, Option.bind_some, if_neg (by decide), goes1, Option.bind_some]
    simp only []
    have rt := row_top (M := M1) (by rw [e11]; exact hi) (x := x) (by rw [e11]; omega)
    have bt := beh_top (M := M1) (by rw [e11]; exact hi) (x := x) (by rw [e11]; omega)
    rw [e11, ← ht] at rt
    rw [e11, ← ht, ← hu] at bt
    have m1 : f_X11_move_L52 (y : Int) (t : Int) (m : Int) jFuel 0 M1 = _ := m1
    have c1 : f_X11_move_L113 (m : Int) (v : Int) jFuel 0 M4 = _ := c1
    rw [if_neg (by decide), t1, Option.bind_some, rt, Option.bind_some, bt, Option.bind_some, ck_pos ⟨by omega, by omega⟩, show (u : Int) - (t : Int) = (m : Int) by omega, m1, f1, Option.bind_some, ro, Option.bind_some, b1, Option.bind_some, c1, z2]
    rfl
theorem p_move {k : Nat} {Mc Mr : Mem} (h : Rel k Mc Mr) (hk : k < 512) (p q : Int) : ∃ Mc' Mr' : Mem, st_move p q Mc Mr Mc' Mr' ∧ Rel (k + 1) Mc' Mr' := by
  have hi := h.wf.2.2
  have h8 := hi.1
  have tc := top_C hi h.rs.2.2
  have en := nTp_e (Mr 1)
  rw [en] at tc
  by_cases hp : 0 ≤ p ∧ p < (nTp (Mr 1) : Int)
  · by_cases hq : 0 ≤ q ∧ q < (nTp (Mr 1) : Int)
    · obtain ⟨x, rfl⟩ : ∃ x : Nat, p = (x : Int) := ⟨p.toNat, by omega⟩
      obtain ⟨y, rfl⟩ : ∃ y : Nat, q = (y : Int) := ⟨q.toNat, by omega⟩
      have hx : x < nTp (Mr 1) := by omega
      have hy : y < nTp (Mr 1) := by omega
      have h5 := h.wf.1.2.2.2.2.2.1
      obtain ⟨e, he⟩ : ∃ e : Nat, Mr 1 8 = (e : Int) := ⟨(Mr 1 8).toNat, by omega⟩
      obtain ⟨g, hg⟩ : ∃ g : Row, g = Mr 1 := ⟨_, rfl⟩
      rw [← hg] at hx hy he hi h8
      have de : dp g e = 0 := by have := hi.2.1; rw [he, Int.toNat_natCast] at this; exact this
      have n60 : nTp g ≤ 60 := by
        have := (tops_b g (g 8).toNat 0 0).2
        have := nTp_e g
        omega
      have ne60 := hi.2.2.2.1
      rw [he, Int.toNat_natCast] at ne60
      have tRn := tR_n hi
      rw [he, Int.toNat_natCast] at tRn
      have le1 := tR_lt hi (show x < x + 1 by omega) hx
      have le2 := tR_le hi (show x + 1 ≤ nTp g by omega) (Nat.le_refl _)
      rw [tRn] at le2
      obtain ⟨a1, a2, a3⟩ := tR_s hi (show x ≤ nTp g by omega)
      obtain ⟨b1, b2, b3⟩ := tR_s hi (show x + 1 ≤ nTp g by omega)
      obtain ⟨t, ht⟩ : ∃ t, t = tR g x := ⟨_, rfl⟩
      obtain ⟨u, hu⟩ : ∃ u, u = tR g (x + 1) := ⟨_, rfl⟩
      obtain ⟨m, hm⟩ : ∃ m, m = u - t := ⟨_, rfl⟩
      rw [← ht] at a1 a2 a3 le1
      rw [← hu] at b1 b2 b3 le1 le2
      have m1 := it_mono g t 0
      have m2 := it_mono g (u - t) t
      have m3 := it_mono g (e - u) u
      rw [Nat.zero_add] at m1
      rw [show t + (u - t) = u by omega] at m2
      rw [show u + (e - u) = e by omega] at m3
      have z1 : it g 0 = 0 := rfl
      have z2 : npc g 0 = 0 := rfl
      -- the row without the item
      obtain ⟨g1, hg1⟩ : ∃ g1 : Row, g1 = fun i => if i = 8 then (e : Int) - (m : Nat) else if 126 + 4 * t ≤ i ∧ i < 126 + 4 * (e - m) then g (i + 4 * m) else g i := ⟨_, rfl⟩
      have o1 : outE g g1 := fun i h1 h2 => by rw [hg1]; show (if i = 8 then _ else _) = _; rw [if_neg h1, if_neg (by omega)]
      have s1 : same g g1 0 0 t := fun i hi' => by
        rw [hg1]; show (if _ = 8 then _ else _) = _
        rw [if_neg (by omega), if_neg (by omega)]
      have s2 : same g g1 u t (e - u) := fun i hi' => by
        rw [hg1]; show (if _ = 8 then _ else _) = _
        rw [if_neg (by omega), if_pos (by omega)]; congr 1; omega
      have e81 : g1 8 = ((e - (u - t) : Nat) : Int) := by
        rw [hg1]; show (if 8 = 8 then _ else _) = _
        rw [if_pos rfl]; omega
      obtain ⟨w1, _⟩ := cut_wf (by rw [hg]; exact h.wf) he (by omega) le2 a2 b2 o1 e81 s1 s2
      have row1 : ∀ (v : Nat), isTop g1 y v → ∀ M1 M2 : Mem, M1 1 = g → f_X11_shiftsFront (t : Int) (m : Int) M1 = some M2 → f_X11_rowOf (y : Int) M2 = some (v : Int) := by
        intro v tv M1 M2 e1 f
        obtain ⟨M3, f1, f2, f3⟩ := front_R (M := M1) (a := t) (m := m) (e := e) (by rw [e1]; exact he) (by omega) (by omega) (by omega)
        have : M2 = M3 := Option.some.inj (f.symm.trans f1)
        rw [this]
        have eg : M3 1 = g1 := by
          funext i
          rw [f3, hg1, e1]
        have := row_top (M := M3) (by rw [eg]; exact w1.2.2) (x := y) (by rw [eg]; exact tv.le)
        rw [eg, isTop.uniq w1.2.2 tv.le tv] at this
        exact this
      by_cases c : y ≤ x
      · -- up
        obtain ⟨v1, v2, v3⟩ := tR_s hi (show y ≤ nTp g by omega)
        obtain ⟨v, hv⟩ : ∃ v, v = tR g y := ⟨_, rfl⟩
        have le3 := tR_le hi c (by omega)
        rw [← ht, ← hv] at le3
        rw [← hv] at v1 v2 v3
        have m4 := it_mono g v 0
        have m5 := it_mono g (t - v) v
        rw [Nat.zero_add] at m4
        rw [show v + (t - v) = t by omega] at m5
        have tv : isTop g1 y v := by
          have c1 := cat_1 (q := 0) (t := 0) s1 rfl rfl v le3
          have c2 := tops_same (q := 0) (t := 0) s1 rfl rfl v 0 (by omega) 0
          rw [Nat.zero_add] at c1
          rw [Nat.add_zero] at c2
          exact ⟨by rw [e81]; omega, by rw [c1.1]; exact v2, by rw [c2]; exact v3⟩
        have o : outE g (mvd g t m v e) := mvd_o (by omega) (by omega) (by omega)
        have S1 : same g (mvd g t m v e) 0 0 v := fun i hi' => by rw [mvd_v, if_neg (by omega), if_neg (by omega), if_neg (by omega), if_neg (by omega)]
        have S2 : same g (mvd g t m v e) t v m := mvd_S2
        have S3 : same g (mvd g t m v e) v (v + m) (t - v) := fun i hi' => by
          rw [mvd_v, if_neg (by omega), if_neg (by omega), if_pos (by omega), if_neg (by omega)]; congr 1; omega
        have S4 : same g (mvd g t m v e) u u (e - u) := fun i hi' => by
          rw [mvd_v, if_neg (by omega), if_neg (by omega), if_pos (by omega), if_pos (by omega)]; congr 1; omega
        have st1 := st_cat (a := 0) (b := v) hi (by rw [hg]; exact h5.2) o (st_0 _) (by omega) rfl (Nat.zero_le _) v1 v2 S1
        rw [Nat.sub_zero, Nat.zero_add] at st1
        have st2 := st_cat (a := t) (b := u) hi (by rw [hg]; exact h5.2) o st1 a1 a2 (by omega) b1 b2 (by rw [← hm]; exact S2)
        rw [← hm] at st2
        have st3 := st_cat (a := v) (b := t) hi (by rw [hg]; exact h5.2) o st2 v1 v2 le3 a1 a2 S3
        have st4 := st_cat (a := u) (b := e) hi (by rw [hg]; exact h5.2) o st3 b1 b2 le2 (by omega) de (by rw [show v + m + (t - v) = u by omega]; exact S4)
        rw [show v + m + (t - v) + (e - u) = e by omega, show 0 + (it g v - it g 0) + (it g u - it g t) + (it g t - it g v) + (it g e - it g u) = it g e by omega] at st4
        obtain ⟨σ, hσ⟩ : ∃ σ : Nat → Nat, ∀ i, σ i = if i = y then x else if y ≤ i then (if x ≤ i - 1 then i else i - 1) else (if x ≤ i then i + 1 else i) := ⟨_, fun i => rfl⟩
        obtain ⟨Q, hQ⟩ : ∃ Q : Nat → Nat, ∀ i, Q i = if i ≤ y then tR g i else if i ≤ x + 1 then tR g (i - 1) + m else tR g i := ⟨_, fun i => rfl⟩
        rw [hg] at he hx hy ht hu st4 hQ row1
        refine mv_main h hk he hx hy ht hu le1 le2 hm (v := v) (by omega) (row1 v tv) st4 (by rw [← hg]; omega) (σ := σ) (Q := Q) (fun i hi' => ⟨?_, fun M => ?_⟩) (fun i hi' => ?_) ?_ ?_
        · rw [hσ]
          by_cases y1 : i = y
          · rw [if_pos y1]; exact hx
          · rw [if_neg y1]
            by_cases y2 : y ≤ i
            · rw [if_pos y2]; split <;> omega
            · rw [if_neg y2, if_neg (by omega)]; exact hi'
        · have h60 := n60
          rw [hg] at h60
          rw [tmt i x y (by omega) M, hσ]
        · rw [← hg] at hi' hx hy ht hu hQ he ⊢
          have l1 := tR_le hi (show i ≤ i + 1 by omega) (by omega)
          have l2 := tR_le hi (show i + 1 ≤ nTp g by omega) (Nat.le_refl _)
          rw [tRn] at l2
          by_cases y1 : i < y
          · have e1 : σ i = i := by rw [hσ, if_neg (by omega), if_neg (by omega), if_neg (by omega)]
            have e2 : Q i = tR g i := by rw [hQ, if_pos (by omega)]
            have e3 : Q (i + 1) = tR g (i + 1) := by rw [hQ, if_pos (by omega)]
            have l3 := tR_le hi (show i + 1 ≤ y by omega) (by omega)
            have s := S1.sub (a := tR g i) (n := tR g (i + 1) - tR g i) (by omega)
            rw [Nat.zero_add] at s
            rw [e1, e2, e3]
            exact ⟨s, by omega, by omega⟩
          · by_cases y2 : i = y
            · have e1 : σ i = x := by rw [hσ, if_pos y2]
              have e2 : Q i = v := by rw [hQ, if_pos (by omega), y2, hv]
              have e3 : Q (i + 1) = v + m := by rw [hQ, if_neg (by omega), if_pos (by omega), Nat.add_sub_cancel, y2, hv]
              rw [e1, e2, e3, ← ht, ← hu, ← hm]
              exact ⟨S2, rfl, by omega⟩
            · by_cases y3 : i ≤ x
              · have e1 : σ i = i - 1 := by rw [hσ, if_neg y2, if_pos (by omega), if_neg (by omega)]
                have e2 : Q i = tR g (i - 1) + m := by rw [hQ, if_neg (by omega), if_pos (by omega)]
                have e3 : Q (i + 1) = tR g i + m := by rw [hQ, if_neg (by omega), if_pos (by omega), Nat.add_sub_cancel]
                have l3 := tR_le hi (show i ≤ x by omega) (by omega)
                have l4 := tR_le hi (show y ≤ i - 1 by omega) (by omega)
                have l5 := tR_le hi (show i - 1 ≤ i by omega) (by omega)
                have s := S3.sub (a := tR g (i - 1) - v) (n := tR g i - tR g (i - 1)) (by omega)
                rw [show v + (tR g (i - 1) - v) = tR g (i - 1) by omega, show v + m + (tR g (i - 1) - v) = tR g (i - 1) + m by omega] at s
                rw [e1, e2, e3, show i - 1 + 1 = i by omega]
                exact ⟨s, by omega, by omega⟩
              · have e1 : σ i = i := by rw [hσ, if_neg y2, if_pos (by omega), if_pos (by omega)]
                have e3 : Q (i + 1) = tR g (i + 1) := by rw [hQ, if_neg (by omega), if_neg (by omega)]
                have e2 : Q i = tR g i := by
                  rw [hQ, if_neg (by omega)]
                  by_cases y4 : i = x + 1
                  · rw [if_pos (by omega), y4, Nat.add_sub_cancel, ← ht, ← hu]; omega
                  · rw [if_neg (by omega)]
                have l3 := tR_le hi (show x + 1 ≤ i by omega) (by omega)
                have s := S4.sub (a := tR g i - u) (n := tR g (i + 1) - tR g i) (by omega)
                rw [show u + (tR g i - u) = tR g i by omega] at s
                rw [e1, e2, e3]
                exact ⟨s, by omega, by omega⟩
        · rw [hQ, if_pos (Nat.zero_le _), ← hg, tR_0 hi]
        · rw [hQ, if_neg (by omega), ← hg]
          by_cases y4 : nTp g = x + 1
          · rw [if_pos (by omega), y4, Nat.add_sub_cancel, hg, ← ht]
            rw [hg] at tRn y4
            rw [y4, ← hu] at tRn
            omega
          · rw [if_neg (by rw [← hg] at hx; omega)]; exact tRn
      · -- down
        obtain ⟨v1, v2, v3⟩ := tR_s hi (show y + 1 ≤ nTp g by omega)
        obtain ⟨w, hw⟩ : ∃ w, w = tR g (y + 1) := ⟨_, rfl⟩
        have le3 := tR_le hi (show x + 1 ≤ y + 1 by omega) (by omega)
        have le4 := tR_le hi (show y + 1 ≤ nTp g by omega) (Nat.le_refl _)
        rw [← hu, ← hw] at le3
        rw [tRn, ← hw] at le4
        rw [← hw] at v1 v2 v3
        obtain ⟨v, hv⟩ : ∃ v, v = w - m := ⟨_, rfl⟩
        have m4 := it_mono g (w - u) u
        have m5 := it_mono g (e - w) w
        rw [show u + (w - u) = w by omega] at m4
        rw [show w + (e - w) = e by omega] at m5
        have tv : isTop g1 y v := by
          have c1 := cat_1 (q := 0) (t := 0) s1 rfl rfl t (Nat.le_refl _)
          have c2 := tops_same (q := 0) (t := 0) s1 rfl rfl t 0 (by omega) 0
          rw [Nat.zero_add] at c1
          rw [Nat.add_zero] at c2
          have mu : mulS g u = [1] := mul_0 hi (by omega) b2
          have mt : mulS g t = [1] := mul_0 hi (by omega) a2
          have dd : dp g1 t = dp g u := by rw [c1.1, a2, b2]
          have mm : mulS g1 t = mulS g u := by rw [c1.2.2.1, mt, mu]
          have c3 := cat_1 s2 dd mm (w - u) (by omega)
          have c4 := tops_same s2 dd mm (w - u) 0 (by omega) 0
          rw [Nat.add_zero, Nat.add_zero] at c4
          rw [show u + (w - u) = w by omega, show t + (w - u) = v by omega] at c3
          have c5 := tops_cat g1 t (w - u) 0
          have c6 := tops_cat g u (w - u) 0
          rw [Nat.zero_add, show t + (w - u) = v by omega] at c5
          rw [Nat.zero_add, show u + (w - u) = w by omega] at c6
          exact ⟨by rw [e81]; omega, by rw [c3.1]; exact v2, by rw [c5, c2, c4]; omega⟩
        have o : outE g (mvd g t m v e) := mvd_o (by omega) (by omega) (by omega)
        have S1 : same g (mvd g t m v e) 0 0 t := fun i hi' => by rw [mvd_v, if_neg (by omega), if_neg (by omega), if_neg (by omega), if_neg (by omega)]
        have S2 : same g (mvd g t m v e) t v m := mvd_S2
        have S3 : same g (mvd g t m v e) u t (v - t) := fun i hi' => by
          rw [mvd_v, if_neg (by omega), if_neg (by omega), if_neg (by omega), if_pos (by omega)]; congr 1; omega
        have S4 : same g (mvd g t m v e) w w (e - w) := fun i hi' => by
          rw [mvd_v, if_neg (by omega), if_neg (by omega), if_pos (by omega), if_pos (by omega)]; congr 1; omega
        have st1 := st_cat (a := 0) (b := t) hi (by rw [hg]; exact h5.2) o (st_0 _) (by omega) rfl (Nat.zero_le _) a1 a2 S1
        rw [Nat.sub_zero, Nat.zero_add] at st1
        have st2 := st_cat (a := u) (b := w) hi (by rw [hg]; exact h5.2) o st1 b1 b2 le3 v1 v2 (by rw [show w - u = v - t by omega]; exact S3)
        rw [show t + (w - u) = v by omega] at st2
        have st3 := st_cat (a := t) (b := u) hi (by rw [hg]; exact h5.2) o st2 a1 a2 (by omega) b1 b2 (by rw [← hm]; exact S2)
        have st4 := st_cat (a := w) (b := e) hi (by rw [hg]; exact h5.2) o st3 v1 v2 le4 (by omega) de (by rw [show v + (u - t) = w by omega]; exact S4)
        rw [show v + (u - t) + (e - w) = e by omega, show 0 + (it g t - it g 0) + (it g w - it g u) + (it g u - it g t) + (it g e - it g w) = it g e by omega] at st4
        obtain ⟨σ, hσ⟩ : ∃ σ : Nat → Nat, ∀ i, σ i = if i = y then x else if y ≤ i then (if x ≤ i - 1 then i else i - 1) else (if x ≤ i then i + 1 else i) := ⟨_, fun i => rfl⟩
        obtain ⟨Q, hQ⟩ : ∃ Q : Nat → Nat, ∀ i, Q i = if i ≤ x then tR g i else if i ≤ y then tR g (i + 1) - m else tR g i := ⟨_, fun i => rfl⟩
        rw [hg] at he hx hy ht hu st4 hQ row1
        refine mv_main h hk he hx hy ht hu le1 le2 hm (v := v) (by omega) (row1 v tv) st4 (by rw [← hg]; omega) (σ := σ) (Q := Q) (fun i hi' => ⟨?_, fun M => ?_⟩) (fun i hi' => ?_) ?_ ?_
        · rw [hσ]
          by_cases y1 : i = y
          · rw [if_pos y1]; exact hx
          · rw [if_neg y1]
            by_cases y2 : y ≤ i
            · rw [if_pos y2]; split <;> omega
            · rw [if_neg y2]; split <;> omega
        · have h60 := n60
          rw [hg] at h60
          rw [tmt i x y (by omega) M, hσ]
        · rw [← hg] at hi' hx hy ht hu hQ he ⊢
          have l1 := tR_le hi (show i ≤ i + 1 by omega) (by omega)
          have l2 := tR_le hi (show i + 1 ≤ nTp g by omega) (Nat.le_refl _)
          rw [tRn] at l2
          by_cases y1 : i < x
          · have e1 : σ i = i := by rw [hσ, if_neg (by omega), if_neg (by omega), if_neg (by omega)]
            have e2 : Q i = tR g i := by rw [hQ, if_pos (by omega)]
            have e3 : Q (i + 1) = tR g (i + 1) := by rw [hQ, if_pos (by omega)]
            have l3 := tR_le hi (show i + 1 ≤ x by omega) (by omega)
            have s := S1.sub (a := tR g i) (n := tR g (i + 1) - tR g i) (by omega)
            rw [Nat.zero_add] at s
            rw [e1, e2, e3]
            exact ⟨s, by omega, by omega⟩
          · by_cases y2 : i = y
            · have e1 : σ i = x := by rw [hσ, if_pos y2]
              have e2 : Q i = v := by rw [hQ, if_neg (by omega), if_pos (by omega), y2, hv, hw]
              have e3 : Q (i + 1) = w := by rw [hQ, if_neg (by omega), if_neg (by omega), y2, hw]
              rw [e1, e2, e3, ← ht, ← hu, ← hm]
              exact ⟨S2, by omega, by omega⟩
            · by_cases y3 : i < y
              · have e1 : σ i = i + 1 := by rw [hσ, if_neg y2, if_neg (by omega), if_pos (by omega)]
                have l3 := tR_le hi (show x + 1 ≤ i + 1 by omega) (by omega)
                have l4 := tR_le hi (show i + 1 + 1 ≤ y + 1 by omega) (by omega)
                have l5 := tR_le hi (show i + 1 ≤ i + 1 + 1 by omega) (by omega)
                have e2 : Q i = tR g (i + 1) - m := by
                  rw [hQ]
                  by_cases y4 : i = x
                  · rw [if_pos (by omega), y4, ← ht, ← hu]; omega
                  · rw [if_neg (by omega), if_pos (by omega)]
                have e3 : Q (i + 1) = tR g (i + 1 + 1) - m := by rw [hQ, if_neg (by omega), if_pos (by omega)]
                have s := S3.sub (a := tR g (i + 1) - u) (n := tR g (i + 1 + 1) - tR g (i + 1)) (by omega)
                rw [show u + (tR g (i + 1) - u) = tR g (i + 1) by omega, show t + (tR g (i + 1) - u) = tR g (i + 1) - m by omega] at s
                rw [e1, e2, e3]
                exact ⟨s, by omega, by omega⟩
              · have e1 : σ i = i := by rw [hσ, if_neg y2, if_pos (by omega), if_pos (by omega)]
                have e3 : Q (i + 1) = tR g (i + 1) := by rw [hQ, if_neg (by omega), if_neg (by omega)]
                have e2 : Q i = tR g i := by rw [hQ, if_neg (by omega), if_neg (by omega)]
                have l3 := tR_le hi (show y + 1 ≤ i by omega) (by omega)
                have s := S4.sub (a := tR g i - w) (n := tR g (i + 1) - tR g i) (by omega)
                rw [show w + (tR g i - w) = tR g i by omega] at s
                rw [e1, e2, e3]
                exact ⟨s, by omega, by omega⟩
        · rw [hQ, if_pos (Nat.zero_le _), ← hg, tR_0 hi]
        · rw [hQ, if_neg (by omega), if_neg (by omega), ← hg]; exact tRn
    · refine ⟨Mc, upm Mr 0 7 1, Or.inr ⟨?_, 0, ?_, thr_at _ _⟩, h.scr keepC.rfl keepR.thr (by omega)⟩
      · unfold x_X10_move
        rw [tc, Option.bind_some, (rI_ok hp).2, (rI_ok hp).1, Option.bind_some]
        exact x2_1 hq
      · have i1 := isItem_R (M := Mr) hi p
        have i2 := isItem_R (M := Mr) hi q
        rw [en] at i1 i2
        rw [if_pos hp] at i1
        rw [if_neg hq] at i2
        unfold f_X11_move
        rw [i1, Option.bind_some]
        simp only [jn]
        rw [if_neg (by decide), i2, Option.bind_some, if_pos rfl, goes0, Option.bind_some]
        simp
  · refine ⟨Mc, upm Mr 0 7 1, Or.inr ⟨?_, 0, ?_, thr_at _ _⟩, h.scr keepC.rfl keepR.thr (by omega)⟩
    · unfold x_X10_move
      rw [tc, Option.bind_some]; exact x2_1 hp
    · have i1 := isItem_R (M := Mr) hi p
      rw [en] at i1
      rw [if_neg hp] at i1
      unfold f_X11_move
      rw [i1, Option.bind_some]
      simp only [jn]
      rw [if_pos trivial, goes0, Option.bind_some]
      simp
