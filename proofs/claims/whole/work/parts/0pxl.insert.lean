/-! insert -/
/-- a new row so far: balanced, so many items, so many pieces -/
def St (g' : Row) (q I : Nat) (N : Int) : Prop := dp g' q = 0 ∧ mulS g' q = [1] ∧ PWF g' q ∧ it g' q = I ∧ npc g' q = N
theorem st_0 (g' : Row) : St g' 0 0 0 := ⟨rfl, rfl, fun i hi => absurd hi (Nat.not_lt_zero i), rfl, rfl⟩
theorem st_cat {g g' : Row} {q I a b : Nat} {N : Int} (hi : WFi g) (h5 : g 5 ≤ 12) (o : outE g g') (s : St g' q I N) (ha : (a : Int) ≤ g 8) (da : dp g a = 0) (hab : a ≤ b) (hb : (b : Int) ≤ g 8) (db : dp g b = 0) (hs : same g g' a q (b - a)) : St g' (q + (b - a)) (I + (it g b - it g a)) (N + (npc g b - npc g a)) := by
  obtain ⟨s1, s2, s3, s4, s5⟩ := s
  have c := cat_1 hs (s1.trans da.symm) (s2.trans (mul_0 hi ha da).symm) (b - a) (Nat.le_refl _)
  have h8 := hi.1
  have w := cat_wf o h5 hs (s1.trans da.symm) (s2.trans (mul_0 hi ha da).symm) (fun i hi' => hi.rok i (by omega)) s3
  have m1 := it_mono g (b - a) a
  rw [show a + (b - a) = b by omega] at c m1
  exact ⟨by rw [c.1]; exact db, by rw [c.2.2.1]; exact mul_0 hi hb db, w, by omega, by omega⟩
theorem St.wf {g g' : Row} {q I : Nat} {N : Int} (w : WF g) (o : outE g g') (s : St g' q I N) (e8 : g' 8 = (q : Int)) (h60 : q ≤ 60) (hI : I ≤ 30) (hN : N ≤ 60) : WF g' :=
  ⟨(WFlv_o o w.1 w.2.1).1, (WFlv_o o w.1 w.2.1).2, WFi_of e8 h60 s.1 (by rw [s.2.2.2.1]; exact hI) (by rw [s.2.2.2.2]; exact hN) s.2.2.1⟩
theorem L_ins2 {C0 : Mem} {g g' : Row} {x e : Nat} (hi : WFi g) (r : RSi C0 5 g) (hx : x ≤ nTp g) (s2 : same g g' (tR g x) (tR g x + 1) ((g 8).toNat - tR g x)) (he : e = (g 8).toNat + 1) (h30 : it g' e ≤ 30) : ∀ (k i n : Nat) (C : Mem), i + k = nTp g → k < n → x ≤ i → Bt C g' (tR g i + 1) → (∀ c : Nat, c < 29 + 17 ∨ 29 + 22 < c → C c = C0 c) →
    ∃ C1 : Mem, f_X10_insert_L145 (nTp g : Nat) n (i : Int) C = ((f_X10_takeDraftItems C1).bind fun (r63, M63) => some (r63, M63)) ∧ Bt C1 g' e ∧ ∀ c : Nat, c < 29 + 17 ∨ 29 + 22 < c → C1 c = C0 c := by
  have n60 : nTp g ≤ 60 := by
    have := (tops_b g (g 8).toNat 0 0).2
    have := nTp_e g
    have := hi.1
    omega
  intro k
  induction k with
  | zero =>
    intro i n C hk hn _ b f
    obtain ⟨n, rfl⟩ := nat_ex hn
    refine ⟨C, ?_, ?_, f⟩
    · rw [f_X10_insert_L145, if_pos (by omega)]
    · rw [show i = nTp g by omega, tR_n hi, ← he] at b; exact b
  | succ k ih =>
    intro i n C hk hn hxi b f
    obtain ⟨n, rfl⟩ := nat_ex hn
    rw [f_X10_insert_L145, if_neg (by omega)]
    have ri : RSi C 5 g := r.eqv (fun j _ _ => f _ (by omega))
    have le1 := tR_le hi hxi (by omega)
    have le3 := tR_le hi (show i ≤ i + 1 by omega) (by omega)
    have le4 := tR_le hi (show i + 1 ≤ nTp g by omega) (Nat.le_refl _)
    rw [tR_n hi] at le4
    have s := s2.sub (a := tR g i - tR g x) (n := tR g (i + 1) - tR g i) (by omega)
    rw [show tR g x + (tR g i - tR g x) = tR g i by omega, show tR g x + 1 + (tR g i - tR g x) = tR g i + 1 by omega] at s
    obtain ⟨C2, t1, t2, t3⟩ := bt_x (e := e) hi ri b (by omega) s (by omega) h30
    rw [t1, Option.bind_some, ck_pos ⟨by omega, by omega⟩, show (i : Int) + 1 = ((i + 1 : Nat) : Int) by omega]
    refine ih (i + 1) n C2 (by omega) (by omega) (by omega) ?_ (fun c hc => (t3 c hc).trans (f c hc))
    rw [show tR g (i + 1) + 1 = tR g i + 1 + (tR g (i + 1) - tR g i) by omega]
    exact t2
theorem L_ins1 {C0 : Mem} {g g' : Row} {x e y f' : Nat} (hi : WFi g) (r : RSi C0 5 g) (hx : x ≤ nTp g) (s1 : same g g' 0 0 (tR g x)) (hf : 1 ≤ f' ∧ f' ≤ 400) (r1 : rk g' (tR g x) = 1) (r2 : g' (127 + 4 * tR g x) = (y : Int)) (r3 : g' (128 + 4 * tR g x) = (f' : Int)) (s2 : same g g' (tR g x) (tR g x + 1) ((g 8).toNat - tR g x)) (he : e = (g 8).toNat + 1) (h30 : it g' e ≤ 30) : ∀ (k i n : Nat) (C : Mem), i + k = x → k < n → Bt C g' (tR g i) → (∀ c : Nat, c < 29 + 17 ∨ 29 + 22 < c → C c = C0 c) →
    ∃ C1 : Mem, f_X10_insert_L94 (x : Int) (y : Int) (f' : Int) (nTp g : Nat) n (i : Int) C = ((f_X10_takeDraftItems C1).bind fun (r63, M63) => some (r63, M63)) ∧ Bt C1 g' e ∧ ∀ c : Nat, c < 29 + 17 ∨ 29 + 22 < c → C1 c = C0 c := by
  have n60 : nTp g ≤ 60 := by
    have := (tops_b g (g 8).toNat 0 0).2
    have := nTp_e g
    have := hi.1
    omega
  have lex := tR_le hi hx (Nat.le_refl _)
  rw [tR_n hi] at lex
  intro k
  induction k with
  | zero =>
    intro i n C hk hn b f
    obtain ⟨n, rfl⟩ := nat_ex hn
    rw [f_X10_insert_L94, if_pos (by omega), ck_pos ⟨by omega, by omega⟩]
    rw [show i = x by omega] at b
    obtain ⟨b1, b2, b3, b4⟩ := b
    have im := it_mono g' (e - (tR g x + 1)) (tR g x + 1)
    rw [show tR g x + 1 + (e - (tR g x + 1)) = e by omega, it_s1 (by omega)] at im
    obtain ⟨C2, a1, a2, a3, a4, a5⟩ := addI_C (s := 29) b3 (by omega) 1 (y : Int) 0 ((f' : Int) - 1) 0
    rw [a1, Option.bind_some]
    have ds := dp_s g' (tR g x)
    rw [if_neg (by omega), if_neg (by omega)] at ds
    refine L_ins2 hi r hx s2 he h30 (nTp g - x) x jFuel C2 (by omega) (jF (by omega)) (Nat.le_refl _) ⟨by omega, ?_, ?_, fun j hj h4 => ?_⟩ (fun c hc => (a5 c (by omega)).trans (f c hc))
    · rw [mulS, if_neg (by omega), if_neg (by omega), if_neg (by omega)]; exact b2
    · rw [a2, it_s1 (by omega)]
    · by_cases z : j = tR g x
      · rw [z, a3, r1, r2]
        unfold rF rL
        rw [if_neg (by omega), if_neg (by omega), if_pos r1, r3, b1]
      · have := it_lt (g := g') (m := tR g x) (show j < tR g x by omega) h4
        rw [a4 _ (by omega)]
        exact b4 j (by omega) h4
  | succ k ih =>
    intro i n C hk hn b f
    obtain ⟨n, rfl⟩ := nat_ex hn
    rw [f_X10_insert_L94, if_neg (by omega)]
    have ri : RSi C 5 g := r.eqv (fun j _ _ => f _ (by omega))
    have le3 := tR_le hi (show i ≤ i + 1 by omega) (by omega)
    have le4 := tR_le hi (show i + 1 ≤ x by omega) hx
    have s := s1.sub (a := tR g i) (n := tR g (i + 1) - tR g i) (by omega)
    rw [Nat.zero_add] at s
    obtain ⟨C2, t1, t2, t3⟩ := bt_x (e := e) hi ri b (by omega) s (by omega) h30
    rw [t1, Option.bind_some, ck_pos ⟨by omega, by omega⟩, show (i : Int) + 1 = ((i + 1 : Nat) : Int) by omega]
    refine ih (i + 1) n C2 (by omega) (by omega) ?_ (fun c hc => (t3 c hc).trans (f c hc))
    rw [show tR g (i + 1) = tR g i + (tR g (i + 1) - tR g i) by omega]
    exact t2
theorem isMap_R (p : Int) (M : Mem) (h : 0 ≤ M 1 6 ∧ M 1 6 ≤ 6) : f_X11_isMap p M = some (if 0 ≤ p ∧ p < M 1 6 then 1 else 0) := by
  unfold f_X11_isMap
  rw [show (6 : Int).toNat = 6 from rfl, ck_pos ⟨by omega, by omega⟩, isIn_eq, Option.bind_some]
  by_cases c : 0 ≤ p ∧ p < M 1 6
  · rw [if_pos c, if_pos (by omega), ck_pos (Or.inr rfl)]
  · rw [if_neg c, if_neg (by omega), ck_pos (Or.inl rfl)]
theorem lays_R {M : Mem} {t : Nat} (ht : t < 60) (a b c d : Int) : ∃ M' : Mem, f_X11_lays (t : Int) a b c d M = some M' ∧ (∀ c : Nat, c ≠ 1 → M' c = M c) ∧ ∀ i : Nat, M' 1 i = if i = 126 + 4 * t then a else if i = 127 + 4 * t then b else if i = 128 + 4 * t then c else if i = 129 + 4 * t then d else M 1 i := by
  unfold f_X11_lays
  rw [ck_pos ⟨by omega, by omega⟩, ck_pos ⟨by omega, by omega⟩, ck_pos ⟨by omega, by omega⟩, show (126 + 4 * (t : Int)).toNat = 126 + 4 * t by omega, lt_eq, ck_pos ⟨by omega, by omega⟩, ck_pos ⟨by omega, by omega⟩, show (126 + 4 * (t : Int) + 1).toNat = 127 + 4 * t by omega, lt_eq, ck_pos ⟨by omega, by omega⟩, ck_pos ⟨by omega, by omega⟩, show (126 + 4 * (t : Int) + 2).toNat = 128 + 4 * t by omega, lt_eq, ck_pos ⟨by omega, by omega⟩, ck_pos ⟨by omega, by omega⟩, show (126 + 4 * (t : Int) + 3).toNat = 129 + 4 * t by omega, lt_eq]
  refine ⟨_, rfl, fun c hc => by rw [upm_ne hc, upm_ne hc, upm_ne hc, upm_ne hc], fun i => ?_⟩
  rw [upm_row, updr_ap, upm_row, updr_ap, upm_row, updr_ap, upm_row, updr_ap]
  by_cases z0 : i = 126 + 4 * t
  · rw [if_neg (by omega), if_neg (by omega), if_neg (by omega), if_pos z0, if_pos z0]
  · by_cases z1 : i = 127 + 4 * t
    · rw [if_neg (by omega), if_neg (by omega), if_pos z1, if_neg z0, if_pos z1]
    · by_cases z2 : i = 128 + 4 * t
      · rw [if_neg (by omega), if_pos z2, if_neg z0, if_neg z1, if_pos z2]
      · by_cases z3 : i = 129 + 4 * t
        · rw [if_pos z3, if_neg z0, if_neg z1, if_neg z2, if_pos z3]
        · rw [if_neg z3, if_neg z2, if_neg z1, if_neg z0, if_neg z0, if_neg z1, if_neg z2, if_neg z3]
