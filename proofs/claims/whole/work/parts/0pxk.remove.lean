/-! remove -/
theorem beh_top {M : Mem} (hi : WFi (M 1)) {x : Nat} (hx : x < nTp (M 1)) : f_X11_behind (tR (M 1) x : Nat) M = some ((tR (M 1) (x + 1) : Nat) : Int) := by
  have h8 := hi.1
  obtain ⟨a1, a2, a3⟩ := tR_s hi (show x ≤ nTp (M 1) by omega)
  have l := tR_lt hi hx (Nat.le_refl _)
  rw [tR_n hi] at l
  have h4 : rk (M 1) (tR (M 1) x) ≠ 4 := by
    intro q
    have := (hi.2.2.2.2 (tR (M 1) x) (by omega)).2
    omega
  obtain ⟨j', e1, e2, e3, e4, e5⟩ := L_beh hi (b := 0) ⟨by omega, by omega⟩ (M 1 8 - tR (M 1) x).toNat (tR (M 1) x) jFuel (by omega) (by omega) (jF (by omega))
  have e0 : f_X11_behind (tR (M 1) x : Nat) M = some (j' : Int) := by
    rw [a2] at e1; exact e1
  have d0 : dp (M 1) j' = 0 := by
    by_cases w : (j' : Int) < M 1 8
    · have := (hi.2.2.2.2 j' w).1; omega
    · rw [show j' = (M 1 8).toNat by omega]; exact hi.2.1
  have t1 := tops_1 (g := M 1) (j := tR (M 1) x)
  rw [if_pos ⟨h4, a2⟩] at t1
  have t2 : tops (M 1) j' 0 0 = tops (M 1) (tR (M 1) x + 1) 0 0 := by
    have c := tops_cat (M 1) (tR (M 1) x + 1) (j' - (tR (M 1) x + 1)) 0
    rw [show tR (M 1) x + 1 + (j' - (tR (M 1) x + 1)) = j' by omega, Nat.zero_add] at c
    have s := tops_skip (M 1) (j' - (tR (M 1) x + 1)) 0 (tR (M 1) x + 1) 0 (fun t t1 t2 => e5 t (by omega) (by omega))
    rw [Nat.add_zero] at s
    rw [c, s]
    show _ + (0 : Int) = _
    omega
  rw [e0, isTop.uniq hi (show x + 1 ≤ nTp (M 1) by omega) ⟨e3, d0, by omega⟩]
theorem row_top {M : Mem} (hi : WFi (M 1)) {x : Nat} (hx : x ≤ nTp (M 1)) : f_X11_rowOf (x : Int) M = some ((tR (M 1) x : Nat) : Int) := by
  have e := nTp_e (M 1)
  obtain ⟨r, r0, r1, r2, r3⟩ := rowOf_R (M := M) (x := (x : Int)) hi (by omega)
  rw [r0, isTop.uniq hi hx ⟨r1, r2, r3⟩]
theorem WFi_of {g : Row} {q : Nat} (e8 : g 8 = (q : Int)) (h60 : q ≤ 60) (d : dp g q = 0) (i : it g q ≤ 30) (n : npc g q ≤ 60) (w : PWF g q) : WFi g := by
  unfold WFi
  rw [e8, Int.toNat_natCast]
  exact ⟨by omega, d, i, n, fun i hi => w i (by omega)⟩
theorem clrD_C {M : Mem} (g' : Row) : ∃ C : Mem, f_X2_clear 29 M = some C ∧ Bt C g' 0 ∧ ∀ c : Nat, c < 29 + 17 ∨ 29 + 22 < c → C c = M c := by
  refine ⟨upm M (29 + 17) 0 0, ?_, ⟨rfl, rfl, ?_, fun i hi => absurd hi (Nat.not_lt_zero i)⟩, fun c hc => upm_ne (by omega)⟩
  · unfold f_X2_clear
    rw [lt_eq]
  · rw [upm_hit]; rfl
/-- the row with the rows t to u taken out -/
theorem cut_wf {g g' : Row} {t u e : Nat} (w : WF g) (e8 : g 8 = (e : Int)) (htu : t ≤ u) (hue : u ≤ e) (dt : dp g t = 0) (du : dp g u = 0) (o : outE g g') (e8' : g' 8 = ((e - (u - t) : Nat) : Int)) (s1 : same g g' 0 0 t) (s2 : same g g' u t (e - u)) : WF g' ∧ it g' (e - (u - t)) ≤ 30 := by
  have hi := w.2.2
  have h8 := hi.1
  have h5 := w.1.2.2.2.2.2.1
  have rok := hi.rok
  rw [e8, Int.toNat_natCast] at rok
  have c1 := cat_1 (q := 0) (t := 0) (m := t) s1 rfl rfl t (Nat.le_refl _)
  have w1 := cat_wf (q := 0) (t := 0) (m := t) o h5.2 s1 rfl rfl (fun i hi' => rok i (by omega)) (fun i hi' => absurd hi' (Nat.not_lt_zero i))
  rw [Nat.zero_add] at c1 w1
  have mt : mulS g t = [1] := mul_0 hi (by omega) dt
  have mu : mulS g u = [1] := mul_0 hi (by omega) du
  have c2 := cat_1 (q := t) (t := u) (m := e - u) s2 (by rw [c1.1, dt, du]) (by rw [c1.2.2.1, mt, mu]) (e - u) (Nat.le_refl _)
  have w2 := cat_wf (q := t) (t := u) (m := e - u) o h5.2 s2 (by rw [c1.1, dt, du]) (by rw [c1.2.2.1, mt, mu]) (fun i hi' => rok i (by omega)) w1
  rw [show u + (e - u) = e by omega, show t + (e - u) = e - (u - t) by omega] at c2
  rw [show t + (e - u) = e - (u - t) by omega] at w2
  have a1 := hi.2.1
  have a2 := hi.2.2.1
  have a3 := hi.2.2.2.1
  rw [e8, Int.toNat_natCast] at a1 a2 a3
  have m1 := it_mono g (u - t) t
  rw [show t + (u - t) = u by omega] at m1
  have m2 := npc_mono hi (u - t) t (by omega)
  rw [show t + (u - t) = u by omega] at m2
  have z1 : it g' 0 = 0 := rfl
  have z2 : it g 0 = 0 := rfl
  have z3 : npc g' 0 = 0 := rfl
  have z4 : npc g 0 = 0 := rfl
  refine ⟨⟨(WFlv_o o w.1 w.2.1).1, (WFlv_o o w.1 w.2.1).2, WFi_of e8' (by omega) (by rw [c2.1, a1]) (by omega) (by omega) w2⟩, by omega⟩
theorem L_rem {C0 : Mem} {g g' : Row} {x e : Nat} (hi : WFi g) (r : RSi C0 5 g) (hx : x < nTp g) (s1 : same g g' 0 0 (tR g x)) (s2 : same g g' (tR g (x + 1)) (tR g x) ((g 8).toNat - tR g (x + 1))) (he : e = (g 8).toNat - (tR g (x + 1) - tR g x)) (h30 : it g' e ≤ 30) : ∀ (k i n : Nat) (C : Mem), i + k = nTp g → k < n → Bt C g' (if i ≤ x then tR g i else tR g i - (tR g (x + 1) - tR g x)) → (∀ c : Nat, c < 29 + 17 ∨ 29 + 22 < c → C c = C0 c) →
    ∃ C1 : Mem, f_X10_remove_L28 (x : Int) (nTp g : Nat) n (i : Int) C = ((f_X10_takeDraftItems C1).bind fun (r63, M63) => some (r63, M63)) ∧ Bt C1 g' e ∧ ∀ c : Nat, c < 29 + 17 ∨ 29 + 22 < c → C1 c = C0 c := by
  have n60 : nTp g ≤ 60 := by
    have := (tops_b g (g 8).toNat 0 0).2
    have := nTp_e g
    have := hi.1
    omega
  intro k
  induction k with
  | zero =>
    intro i n C hk hn b f
    obtain ⟨n, rfl⟩ := nat_ex hn
    refine ⟨C, ?_, ?_, f⟩
    · rw [f_X10_remove_L28, if_pos (by omega)]
    · rw [if_neg (by omega), show i = nTp g by omega, tR_n hi, ← he] at b; exact b
  | succ k ih =>
    intro i n C hk hn b f
    obtain ⟨n, rfl⟩ := nat_ex hn
    rw [f_X10_remove_L28, if_neg (by omega)]
    have ri : RSi C 5 g := r.eqv (fun j _ _ => f _ (by omega))
    have le1 := tR_le hi (show x ≤ x + 1 by omega) (by omega)
    have le2 := tR_le hi (show x + 1 ≤ nTp g by omega) (Nat.le_refl _)
    have le3 := tR_le hi (show i ≤ i + 1 by omega) (by omega)
    have le4 := tR_le hi (show i + 1 ≤ nTp g by omega) (Nat.le_refl _)
    rw [tR_n hi] at le2 le4
    by_cases z : i = x
    · rw [if_pos (by omega), ck_pos ⟨by omega, by omega⟩, show (i : Int) + 1 = ((i + 1 : Nat) : Int) by omega]
      refine ih (i + 1) n C (by omega) (by omega) ?_ f
      rw [if_pos (by omega), z] at b
      rw [if_neg (by omega), z, show tR g (x + 1) - (tR g (x + 1) - tR g x) = tR g x by omega]
      exact b
    · rw [if_neg (by omega)]
      by_cases y : i < x
      · rw [if_pos (by omega)] at b
        have le5 := tR_le hi (show i + 1 ≤ x by omega) (by omega)
        have s := s1.sub (a := tR g i) (n := tR g (i + 1) - tR g i) (by omega)
        rw [Nat.zero_add] at s
        obtain ⟨C2, t1, t2, t3⟩ := bt_x (e := e) hi ri b (by omega) s (by omega) h30
        rw [t1, Option.bind_some, ck_pos ⟨by omega, by omega⟩, show (i : Int) + 1 = ((i + 1 : Nat) : Int) by omega]
        refine ih (i + 1) n C2 (by omega) (by omega) ?_ (fun c hc => (t3 c hc).trans (f c hc))
        rw [if_pos (by omega), show tR g (i + 1) = tR g i + (tR g (i + 1) - tR g i) by omega]
        exact t2
      · rw [if_neg (by omega)] at b
        have le5 := tR_le hi (show x + 1 ≤ i by omega) (by omega)
        have s := s2.sub (a := tR g i - tR g (x + 1)) (n := tR g (i + 1) - tR g i) (by omega)
        rw [show tR g (x + 1) + (tR g i - tR g (x + 1)) = tR g i by omega, show tR g x + (tR g i - tR g (x + 1)) = tR g i - (tR g (x + 1) - tR g x) by omega] at s
        obtain ⟨C2, t1, t2, t3⟩ := bt_x (e := e) hi ri b (by omega) s (by omega) h30
        rw [t1, Option.bind_some, ck_pos ⟨by omega, by omega⟩, show (i : Int) + 1 = ((i + 1 : Nat) : Int) by omega]
        refine ih (i + 1) n C2 (by omega) (by omega) ?_ (fun c hc => (t3 c hc).trans (f c hc))
        rw [if_neg (by omega), show tR g (i + 1) - (tR g (x + 1) - tR g x) = tR g i - (tR g (x + 1) - tR g x) + (tR g (i + 1) - tR g i) by omega]
        exact t2
theorem p_remove {k : Nat} {Mc Mr : Mem} (h : Rel k Mc Mr) (hk : k < 512) (p : Int) : ∃ Mc' Mr' : Mem, st_remove p Mc Mr Mc' Mr' ∧ Rel (k + 1) Mc' Mr' := by
  have hi := h.wf.2.2
  have h8 := hi.1
  have tc := top_C hi h.rs.2.2
  have ii := isItem_R (M := Mr) hi p
  have en := nTp_e (Mr 1)
  rw [en] at tc ii
  by_cases hp : 0 ≤ p ∧ p < (nTp (Mr 1) : Int)
  · rw [if_pos hp] at ii
    obtain ⟨x, rfl⟩ : ∃ x : Nat, p = (x : Int) := ⟨p.toNat, by omega⟩
    have hx : x < nTp (Mr 1) := by omega
    obtain ⟨e, he⟩ : ∃ e : Nat, Mr 1 8 = (e : Int) := ⟨(Mr 1 8).toNat, by omega⟩
    have le1 := tR_lt hi (show x < x + 1 by omega) hx
    have le2 := tR_le hi (show x + 1 ≤ nTp (Mr 1) by omega) (Nat.le_refl _)
    rw [tR_n hi, he, Int.toNat_natCast] at le2
    obtain ⟨a1, a2, a3⟩ := tR_s hi (show x ≤ nTp (Mr 1) by omega)
    obtain ⟨b1, b2, b3⟩ := tR_s hi hx
    obtain ⟨t, ht⟩ : ∃ t, t = tR (Mr 1) x := ⟨_, rfl⟩
    obtain ⟨u, hu⟩ : ∃ u, u = tR (Mr 1) (x + 1) := ⟨_, rfl⟩
    -- the row without it
    obtain ⟨g', hg⟩ : ∃ g' : Row, g' = fun i => if i = 8 then (e : Int) - (u - t : Nat) else if 126 + 4 * t ≤ i ∧ i < 126 + 4 * (e - (u - t)) then Mr 1 (i + 4 * (u - t)) else Mr 1 i := ⟨_, rfl⟩
    rw [← ht, ← hu] at le1
    rw [← hu] at le2
    have o : outE (Mr 1) g' := fun i h1 h2 => by rw [hg]; show (if i = 8 then _ else _) = _; rw [if_neg h1, if_neg (by omega)]
    have s1 : same (Mr 1) g' 0 0 t := fun i hi' => by
      rw [hg]; show (if _ = 8 then _ else _) = _
      rw [if_neg (by omega), if_neg (by omega)]
    have s2 : same (Mr 1) g' u t (e - u) := fun i hi' => by
      rw [hg]; show (if _ = 8 then _ else _) = _
      rw [if_neg (by omega), if_pos (by omega)]; congr 1; omega
    have e8' : g' 8 = ((e - (u - t) : Nat) : Int) := by
      rw [hg]; show (if 8 = 8 then _ else _) = _
      rw [if_pos rfl]; omega
    obtain ⟨w', i30⟩ := cut_wf h.wf he (by omega) le2 (by rw [ht]; exact a2) (by rw [hu]; exact b2) o e8' s1 s2
    -- the class
    obtain ⟨C0, q1, q2, q3⟩ := clrD_C (M := Mc) g'
    have ri0 : RSi C0 5 (Mr 1) := h.rs.2.2.eqv (fun j _ _ => q3 _ (by omega))
    obtain ⟨C1, l1, l2, l3⟩ := L_rem (C0 := C0) (g' := g') (e := e - (u - t)) hi ri0 hx (by rw [← ht]; exact s1) (by rw [← ht, ← hu, he, Int.toNat_natCast]; exact s2) (by rw [← ht, ← hu, he, Int.toNat_natCast]) i30 (nTp (Mr 1)) 0 jFuel C0 (by omega) (jF (by have := (tops_b (Mr 1) (Mr 1 8).toNat 0 0).2; omega)) (by rw [if_pos (by omega), tR_0 hi]; exact q2) (fun _ _ => rfl)
    obtain ⟨M1, t1, t2, t3, t4⟩ := take_done (C1 := C1) (M := upm Mr 0 7 0) h hk (fun c hc => (l3 c (by omega)).trans (q3 c (by omega))) keepR.thr
    have e11 : M1 1 = Mr 1 := (t2 1 (by decide) (by decide) (by decide)).trans (thr_ne _ _ (by decide))
    obtain ⟨M2, f1, f2, f3⟩ := front_R (M := M1) (a := t) (m := u - t) (e := e) (by rw [e11]; exact he) (by omega) (by omega) (by omega)
    have eg : M2 1 = g' := by
      funext i
      rw [f3, hg, e11]
    obtain ⟨C4, M4, z1, z2, z3, z4⟩ := t4 g' M2 (by rw [e8', Int.toNat_natCast]; exact l2.2.2) w' o eg (fun c c1 _ => f2 c c1)
    refine ⟨C4, M4, Or.inl ⟨C4 56 1, ?_, ?_, z3.trans (thr_at _ _)⟩, z4⟩
    · unfold f_X10_remove
      rw [tc, Option.bind_some, (rI_ok hp).1, Option.bind_some, q1, Option.bind_some]
      exact l1.trans (by rw [z1]; rfl)
    · unfold f_X11_remove
      rw [ii, Option.bind_some, goes1, Option.bind_some]
      simp only []
      have rt := row_top (M := M1) (by rw [e11]; exact hi) (x := x) (by rw [e11]; omega)
      have bt := beh_top (M := M1) (by rw [e11]; exact hi) (x := x) (by rw [e11]; omega)
      rw [e11, ← ht] at rt
      rw [e11, ← ht, ← hu] at bt
      rw [if_neg (by decide), t1, Option.bind_some, rt, Option.bind_some, bt, Option.bind_some, ck_pos ⟨by omega, by omega⟩, show (u : Int) - (t : Int) = ((u - t : Nat) : Int) by omega, f1, Option.bind_some, z2]
      rfl
  · rw [if_neg hp] at ii
    refine ⟨Mc, upm Mr 0 7 1, Or.inr ⟨?_, 0, ?_, thr_at _ _⟩, h.scr keepC.rfl keepR.thr (by omega)⟩
    · unfold x_X10_remove
      rw [tc, Option.bind_some]; exact x2_1 hp
    · unfold f_X11_remove
      rw [ii, Option.bind_some, goes0, Option.bind_some]
      simp
