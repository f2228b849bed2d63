theorem flat_n {g' : Row} : ∀ n : Nat, (∀ i : Nat, i < n → rk g' i = 0) → dp g' n = 0 ∧ it g' n = n ∧ mulS g' n = [1] ∧ npc g' n = (n : Int) := by
  intro n
  induction n with
  | zero => intro _; exact ⟨rfl, rfl, rfl, rfl⟩
  | succ n ih =>
    intro h
    obtain ⟨a, b, c, d⟩ := ih (fun i hi => h i (by omega))
    have z := h n (by omega)
    refine ⟨?_, ?_, ?_, ?_⟩
    · rw [dp_s, a, if_neg (by omega), if_neg (by omega)]; omega
    · rw [it_s1 (by omega), b]
    · rw [mulS, if_neg (by omega), if_neg (by omega), if_neg (by omega)]; exact c
    · rw [show npc g' (n + 1) = npc g' n + (if rk g' n = 0 ∨ rk g' n = 1 then (mulS g' n).headD 0 else 0) from rfl, if_pos (Or.inl z), c, d]
      show (n : Int) + 1 = _; omega
/-- the laid choice is well formed, and what the class has -/
theorem as_wf {g f : Row} {m : Nat} {al : Nat} {e w : Int} (wf : WF g) (hm : m < 2 ^ (g 5).toNat) (ok : okM g al e m) (hw : w = sm g m - e) (a : asRow g m w (chL m (g 5).toNat) f) :
    WF f ∧ 0 < (chL m (g 5).toNat).length ∧ (chL m (g 5).toNat).length ≤ 12 ∧ 0 ≤ w ∧ w < 400 ∧ ∀ {C C' : Mem}, C 22 0 = ((chL m (g 5).toNat).length : Int) → (∀ i : Nat, i < (chL m (g 5).toNat).length → itm C 5 i = (0, ((chL m (g 5).toNat).getD i 0 : Int), 0, g (13 + 2 * (chL m (g 5).toNat).getD i 0) - 1, 0)) → C' = upm C (5 + 21) ((chL m (g 5).toNat).length - 1) (C (5 + 21) ((chL m (g 5).toNat).length - 1) - w) → RSi C' 5 f ∧ f_X2_shorten 5 ((C 22 0) - 1) w C = some C' := by
  have hl := wf.1
  have h5 := hl.2.2.2.2.2.1
  have h3 := hl.2.2.2.1
  obtain ⟨k1, k2, k3, k4⟩ := ok
  obtain ⟨n, hn⟩ : ∃ n, n = (g 5).toNat := ⟨_, rfl⟩
  obtain ⟨t, ht⟩ : ∃ t, t = m.log2 := ⟨_, rfl⟩
  rw [← hn] at a hm ⊢
  rw [← ht] at k4
  have p1 : 2 ^ t ≤ m := by rw [ht]; exact Nat.log2_self_le k1
  have p2 : m < 2 ^ (t + 1) := by rw [ht]; exact Nat.lt_log2_self
  have tn : t < n := by
    apply Decidable.byContradiction
    intro z
    have := Nat.pow_le_pow_right (n := 2) (by omega) (show n ≤ t by omega)
    omega
  have top := chL_top p1 p2 (n - (t + 1))
  rw [show t + 1 + (n - (t + 1)) = n by omega] at top
  obtain ⟨L, hL⟩ : ∃ L, L = chL m n := ⟨_, rfl⟩
  have cl := chL_le m n
  have clt := chL_le m t
  rw [← hL] at a top cl ⊢
  obtain ⟨a8, ar, ao⟩ := a
  have lt0 : L.length = (chL m t).length + 1 := by rw [top, List.length_append, List.length_singleton]
  have last : L.getD (L.length - 1) 0 = t := by rw [lt0, Nat.add_sub_cancel, top, getD_lastN]
  have one : ∀ i : Nat, i < L.length → (if m / 2 ^ (L.getD i 0) = 1 then w else 0) = if i = L.length - 1 then w else 0 := by
    intro i hi
    by_cases z : i = L.length - 1
    · rw [if_pos z, z, last, if_pos]
      have p := Nat.two_pow_pos t
      have q : 2 ^ (t + 1) = 2 ^ t * 2 := Nat.pow_succ 2 t
      exact Nat.div_eq_of_lt_le (by omega) (by omega)
    · have lt1 : L.getD i 0 < t := by
        rw [top, getD_appN (by omega)]
        exact clt.2 _ (getD_memN (by omega))
      rw [if_neg z, if_neg]
      intro y
      have q := Nat.pow_le_pow_right (n := 2) (by omega) (show L.getD i 0 + 1 ≤ t by omega)
      have q2 : 2 ^ (L.getD i 0 + 1) = 2 ^ L.getD i 0 * 2 := Nat.pow_succ 2 _
      have := (Nat.le_div_iff_mul_le (Nat.two_pow_pos (L.getD i 0))).2 (show 2 * 2 ^ L.getD i 0 ≤ m by omega)
      omega
  have rk0 : ∀ i : Nat, i < L.length → rk f i = 0 := fun i hi => (ar i hi).1
  have fl := fun i (hi : i ≤ L.length) => flat_n (g' := f) i (fun j hj => rk0 j (by omega))
  have sh : ∀ i : Nat, i < L.length → (L.getD i 0 : Int) < g 5 := fun i hi => by
    have := cl.2 _ (getD_memN hi)
    omega
  have gt := hl.2.2.2.2.2.2.2.2.1 t (by omega)
  have wp : WF f := by
    refine ⟨(WFlv_o ao wf.1 wf.2.1).1, (WFlv_o ao wf.1 wf.2.1).2, WFi_of a8 (by omega) (fl _ (Nat.le_refl _)).1 (by rw [(fl _ (Nat.le_refl _)).2.1]; omega) (by rw [(fl _ (Nat.le_refl _)).2.2.2]; omega) (fun i hi => ?_)⟩
    have d0 := (fl i (by omega)).1
    obtain ⟨q0, q1, q2, q3⟩ := ar i hi
    have s := sh i hi
    have gi := hl.2.2.2.2.2.2.2.2.1 (L.getD i 0) s
    rw [one i hi] at q3
    refine ⟨by omega, Or.inl ⟨rk0 i hi, ?_, ?_, ?_, ?_⟩⟩
    · rw [q1, ao 5 (by decide) (by omega)]; omega
    · rw [q2]; omega
    · rw [q2, q3]
      by_cases z : i = L.length - 1
      · rw [if_pos z, z, last]; omega
      · rw [if_neg z]; omega
    · rw [q1, q3, Int.toNat_natCast, ao _ (by omega) (by omega)]
      split <;> omega
  refine ⟨wp, by omega, by omega, by omega, by omega, fun {C C'} c1 c2 hC => ⟨⟨?_, fun i hi h4 => ?_⟩, ?_⟩⟩
  · rw [a8, Int.toNat_natCast, (fl _ (Nat.le_refl _)).2.1, hC, upm_ne (by decide)]; exact c1
  · have hi : i < L.length := by omega
    have e := c2 i hi
    unfold itm at e
    rw [Prod.mk.injEq, Prod.mk.injEq, Prod.mk.injEq, Prod.mk.injEq] at e
    obtain ⟨q0, q1, q2, q3⟩ := ar i hi
    rw [one i hi] at q3
    rw [(fl i (by omega)).2.1, (fl i (by omega)).1, rk0 i hi, q1]
    unfold rF rL
    rw [rk0 i hi, if_pos rfl, if_pos rfl, q2, q3, hC, upm_ne (b := 5 + 18) (by decide), upm_ne (b := 5 + 19) (by decide), upm_ne (b := 5 + 20) (by decide), upm_ne (b := 5 + 22) (by decide), upm_row, updr_ap]
    refine ⟨e.1, e.2.1, e.2.2.1, ?_, e.2.2.2.2⟩
    by_cases z : i = L.length - 1
    · rw [if_pos z, if_pos z, ← z, e.2.2.2.1]
    · rw [if_neg z, if_neg z, e.2.2.2.1]; omega
  · have e := c2 (L.length - 1) (by omega)
    unfold itm at e
    rw [Prod.mk.injEq, Prod.mk.injEq, Prod.mk.injEq, Prod.mk.injEq] at e
    unfold f_X2_shorten
    have c17 : C (5 + 17) 0 = (L.length : Int) := c1
    rw [if_neg (by omega), c17, if_neg (by omega), ck_pos ⟨by omega, by omega⟩, show ((L.length : Int) - 1).toNat = L.length - 1 by omega]
    have vb : C (5 + 21) (L.length - 1) = g (13 + 2 * t) - 1 := by rw [e.2.2.2.1, last]
    rw [hC, vb, ck_pos ⟨by omega, by omega⟩, lt_eq]
theorem p_assemble (hc : CutOK) {k : Nat} {Mc Mr : Mem} (h : Rel k Mc Mr) (hk : k < 512) : ∃ Mc' Mr' : Mem, st_assemble Mc Mr Mc' Mr' ∧ Rel (k + 1) Mc' Mr' := by
  have hl := h.wf.1
  have hv := h.wf.2.1
  have h5 := hl.2.2.2.2.2.1
  have we := wEnd_b hl hv
  have k1 : (upm Mr 0 7 0) 1 = Mr 1 := thr_ne _ _ (by decide)
  obtain ⟨M1, a1, a2, a3⟩ := sums_R (M := upm Mr 0 7 0) (by rw [k1]; exact hl)
  rw [k1] at a3
  have k2 : M1 1 = Mr 1 := (a2 1 (by decide)).trans k1
  obtain ⟨M2, b1, b2, b3⟩ := laysW (M := M1) (by rw [k2]; exact hl) (by rw [k2]; exact hv)
  have k3 : M2 1 = Mr 1 := (b2 1 (by decide) (by decide)).trans k2
  obtain ⟨M3, c1, c2, c3, c4⟩ := ch_R (M := M2) (by rw [k3]; exact hl) (Mr 1 0) (e := wEnd (Mr 1)) ⟨by omega, by omega⟩ (by rw [k3, b2 21 (by decide) (by decide)]; exact a3)
  rw [k2] at b1
  rw [k3] at c1 c3 c4
  obtain ⟨Mc1, d1, d2, d3⟩ := choice_C hl hv h.rs.1 h.s0 h.sp.2.1 (Mr 1 0)
  obtain ⟨s, hs⟩ : ∃ s : Nat × Int, s = bst (Mr 1) (alM (Mr 1) (Mr 1 0) (Mr 1 5).toNat) (wEnd (Mr 1)) (2 ^ (Mr 1 5).toNat) := ⟨_, rfl⟩
  have bo := bst_ok (Mr 1) (alM (Mr 1) (Mr 1 0) (Mr 1 5).toNat) (wEnd (Mr 1)) (2 ^ (Mr 1 5).toNat)
  rw [← hs] at c1 c3 c4 d3 bo
  have kr : keepR Mr M3 := keepR.thr.trans (a2.R.trans (b2.R.trans c2.R))
  have h0 : Rel k Mc1 Mr := h.scr d2.C keepR.rfl (Nat.le_refl _)
  have e31 : M3 1 = Mr 1 := kr.1 1 (by omega)
  have s0 : f_X3_setting 5 0 Mc = some (Mr 1 0) := set_ev h.rs.1 (i := 0) (by omega)
  have goC : f_X10_assemble Mc = if (Mc1 71 0) = (-1) then (f_X10_refuse 3 Mc1).bind fun (r28, M28) => some (r28, M28) else (f_X10_remember Mc1).bind fun M33 => (f_X2_clear 5 M33).bind fun M43 => f_X10_assemble_L48 jFuel 0 M43 := by
    unfold f_X10_assemble
    rw [s0, Option.bind_some, d1, Option.bind_some]
  have goR : f_X11_assemble Mr = if (if s.1 = 0 then (0 : Int) else 1) = 0 then (f_X11_refuses 3 M3).bind fun (r28, M28) => some (r28, M28) else (f_X11_begins M3).bind fun M33 => lt (upm M33 1 (8 : Int).toNat 0) fun N8 => f_X11_assemble_L46 jFuel 0 N8 := by
    unfold f_X11_assemble
    rw [lt_eq, a1, Option.bind_some, b1, Option.bind_some]
    simp only [show (0 : Int).toNat = 0 from rfl]
    rw [k2, c1, Option.bind_some]
  unfold clS at d3
  by_cases z : s.1 = 0
  · rw [if_pos z] at d3 goR
    rw [if_pos d3.1] at goC
    rw [if_pos rfl] at goR
    obtain ⟨Mc', M', x1, x2, x3, x4⟩ := both_ref h0 hk (c := 3) ⟨by omega, by omega⟩ kr
    have x1 : f_X10_refuse 3 Mc1 = some (-3, Mc') := x1
    have x2 : f_X11_refuses 3 M3 = some (-3, M') := x2
    exact ⟨Mc', M', ⟨-3, by rw [goC, x1]; rfl, by rw [goR, x2]; rfl⟩, x4⟩
  · rw [if_neg z] at d3 goR
    obtain ⟨y1, y2, y3⟩ := d3
    rw [if_neg (by omega)] at goC
    rw [if_neg (by decide)] at goR
    obtain ⟨m, w⟩ := s
    obtain ⟨o1, o2, o3⟩ := bo z
    dsimp only at c3 c4 y1 y2 y3 o1 o2 o3 z
    have p12 := pow_12 (n := 12) (j := (Mr 1 5).toNat) (by omega) (by omega)
    obtain ⟨Mc2, M4, t1, t2, t3, t4, t5, t6, t7⟩ := both_rem h0 hk (M := M3) e31 (kr.1 3 (by omega)) (kr.1 5 (by omega)) kr.2.1
    obtain ⟨M5, hM5⟩ : ∃ M5 : Mem, M5 = upm M4 1 8 0 := ⟨_, rfl⟩
    have e41 : M4 1 = Mr 1 := (t4 1 (by decide) (by decide) (by decide)).trans e31
    have f5 : ∀ c : Nat, c ≠ 1 → M5 c = M4 c := fun c hc => by rw [hM5]; exact upm_ne hc
    have wb : 0 ≤ w ∧ w ≤ 5000 := by
      have := o1.2.2.1
      have := o1.2.2.2
      have gt := hl.2.2.2.2.2.2.2.2.1 m.log2
      have ml : m.log2 < 13 := by
        have := (Nat.log2_lt (n := m) (k := 12) z).2 (by omega)
        omega
      have l5 : ((m.log2 : Nat) : Int) < Mr 1 5 := by
        have := (Nat.log2_lt (n := m) (k := (Mr 1 5).toNat) z).2 o3
        omega
      have := gt l5
      have := hl.2.2.2.1
      omega
    obtain ⟨M6, u1, u2, u3⟩ := L_asR (M0 := M5) (g := Mr 1) (m := m) (w := w) hl (by omega) wb (by rw [f5 0 (by decide), t5 26 (by decide)]; exact c3) (by rw [f5 0 (by decide), t5 27 (by decide)]; exact c4) (Mr 1 5).toNat 0 jFuel M5 (by omega) (jF (by omega)) ⟨by rw [hM5, upm_hit]; rfl, fun i hi => absurd hi (Nat.not_lt_zero i), fun i i1 _ => by rw [hM5, upm_sl i1, e41]⟩ (fun _ _ => rfl)
    obtain ⟨wf', len0, len12, w0, w400, itC⟩ := as_wf h.wf o3 o1 o2 u2
    obtain ⟨Mc3, hM3⟩ : ∃ Mc3 : Mem, Mc3 = upm Mc2 22 0 0 := ⟨_, rfl⟩
    have f3 : ∀ c : Nat, c ≠ 22 → Mc3 c = Mc2 c := fun c hc => by rw [hM3]; exact upm_ne hc
    have rs2 : RS Mc2 5 (Mr 1) := h0.rs.eqv (fun j _ _ => t3 _ (by omega) (by omega) (by omega))
    have m71 : Mc3 71 = Mc1 71 := by rw [f3 71 (by decide), t3 71 (by decide) (by decide) (by omega)]
    obtain ⟨Mc4, v1, v2, v3, v4⟩ := L_asC (C0 := Mc3) (g := Mr 1) hl (rs2.1.eqv (fun j _ _ => f3 _ (by omega))) (m := m) (by omega) (by rw [m71]; exact y1) (Mr 1 5).toNat 0 jFuel Mc3 (by omega) (jF (by omega)) (by rw [hM3, upm_hit]; rfl) (fun i hi => absurd hi (Nat.not_lt_zero i)) (fun _ _ => rfl)
    obtain ⟨Mc5, hM5c⟩ : ∃ Mc5 : Mem, Mc5 = upm Mc4 (5 + 21) ((chL m (Mr 1 5).toNat).length - 1) (Mc4 (5 + 21) ((chL m (Mr 1 5).toNat).length - 1) - w) := ⟨_, rfl⟩
    obtain ⟨ri5, sh5⟩ := itC v2 v3 hM5c
    have f5c : ∀ c : Nat, c < 22 ∨ 27 < c → Mc5 c = Mc2 c := fun c hc => by rw [hM5c, upm_ne (by omega), v4 c hc, f3 c (by omega)]
    have m714 : Mc4 71 1 = w := by rw [v4 71 (by omega), m71]; exact y2
    obtain ⟨rl, rv⟩ := RSlv_o u2.2.2 hl hv rs2.1 rs2.2.1
    have rs5 : RS Mc5 5 (M6 1) := ⟨rl.eqv (fun j _ _ => f5c _ (by omega)), rv.eqv (fun j _ _ => f5c _ (by omega)), ri5⟩
    obtain ⟨Mc6, s1, s2, s3, s4⟩ := act_done hc (k' := k + 1) h0 (Mc2 := Mc5) (M2 := M6) (fun c q => by rw [f5c c (by omega), t3 c (by omega) (by omega) (by omega)]) (by rw [f5c 72 (by omega), t3 72 (by decide) (by decide) (by omega)]) (fun c q => by rw [u3 c (by omega), f5 c (by omega), t4 c (by omega) (by omega) (by omega)]; exact kr.1 c (by omega)) (fun j q => by
      rw [u3 0 (by decide), f5 0 (by decide), t5 j (by omega)]
      rcases q with q | q | q | q
      · rw [q]; exact kr.2.2.1
      · rw [q]; exact kr.2.2.2.1
      · rw [q]; exact kr.2.2.2.2.1
      · rw [q]; exact kr.2.2.2.2.2) (t6.eqv (fun c q => f5c c (by omega)) (by rw [u3 0 (by decide), f5 0 (by decide)]) (by rw [u3 3 (by decide), f5 3 (by decide)])) (fun i hi => by rw [f5c 73 (by omega), u3 5 (by decide), f5 5 (by decide)]; exact t7 i hi) rfl rs5 wf'
    refine ⟨Mc6, M6, ⟨w, ?_, ?_⟩, s2⟩
    · rw [goC, t1, Option.bind_some]
      unfold f_X2_clear
      rw [lt_eq, Option.bind_some]
      have v1 : f_X10_assemble_L48 jFuel 0 Mc3 = _ := v1
      rw [← hM3] 
      rw [v1, v2, ck_pos ⟨by omega, by omega⟩, m714]
      rw [v2] at sh5
      rw [sh5, Option.bind_some, s1, Option.bind_some, s3 71 (by omega), hM5c, upm_ne (by decide), m714]
    · rw [goR, t2, Option.bind_some, lt_eq, show (8 : Int).toNat = 8 from rfl, ← hM5]
      exact u1
