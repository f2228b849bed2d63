/-! edit -/
theorem L_tr13 {M0 : Mem} {q : Nat} (h40 : M0 0 40 = (q : Int)) (hq : q ≤ 60) : ∀ (k j m : Nat) (M : Mem), j + k = 256 → k < m → (∀ c : Nat, c ≠ 1 → M c = M0 c) → (∀ i : Nat, M 1 i = if 126 ≤ i ∧ i < 126 + j then (if i - 126 < 4 * q then M0 23 (i - 126) else 0) else M0 1 i) →
    ∃ M' : Mem, f_X11_takesReel_L13 m (j : Int) M = some M' ∧ (∀ c : Nat, c ≠ 1 → M' c = M0 c) ∧ ∀ i : Nat, M' 1 i = if 126 ≤ i ∧ i < 382 then (if i - 126 < 4 * q then M0 23 (i - 126) else 0) else M0 1 i := by
  intro k
  induction k with
  | zero =>
    intro j m M hj hm f0 f1
    obtain ⟨m, rfl⟩ := nat_ex hm
    refine ⟨M, ?_, f0, fun i => by rw [f1, show j = 256 by omega]⟩
    rw [f_X11_takesReel_L13, if_pos (by omega)]
  | succ k ih =>
    intro j m M hj hm f0 f1
    obtain ⟨m, rfl⟩ := nat_ex hm
    obtain ⟨M', e1, e2⟩ := ih (j + 1) m (upm M 1 (126 + j) (if j < 4 * q then M0 23 j else 0)) (by omega) (by omega) (fun c hc => by rw [upm_ne hc]; exact f0 c hc) (fun i => by
      rw [upm_row, updr_ap, f1 i]
      by_cases y : i = 126 + j
      · rw [if_pos y, if_pos (show 126 ≤ i ∧ i < 126 + (j + 1) by omega), show i - 126 = j by omega]
      · rw [if_neg y]
        by_cases u : 126 ≤ i ∧ i < 126 + j
        · rw [if_pos u, if_pos (show 126 ≤ i ∧ i < 126 + (j + 1) by omega)]
        · rw [if_neg u, if_neg (show ¬ (126 ≤ i ∧ i < 126 + (j + 1)) by omega)])
    refine ⟨M', ?_, e2⟩
    rw [f_X11_takesReel_L13, if_neg (by omega), ck_pos ⟨by omega, by omega⟩, f0 0 (by decide), h40, ck_pos ⟨by omega, by omega⟩, show (126 + (j : Int)).toNat = 126 + j by omega, Int.toNat_natCast, f0 23 (by decide), show (j : Int) + 1 = ((j + 1 : Nat) : Int) by omega]
    by_cases y : j < 4 * q
    · rw [if_neg (by omega), ck_pos ⟨by omega, by omega⟩, ck_pos ⟨by omega, by omega⟩, lt_eq, ck_pos ⟨by omega, by omega⟩]
      rw [if_pos y] at e1
      exact e1
    · rw [if_pos (by omega), ck_pos ⟨by omega, by omega⟩, lt_eq, ck_pos ⟨by omega, by omega⟩]
      rw [if_neg y] at e1
      exact e1
theorem takesR_R {M : Mem} {q : Nat} (h40 : M 0 40 = (q : Int)) (hq : q ≤ 60) : ∃ M' : Mem, f_X11_takesReel M = some M' ∧ (∀ c : Nat, c ≠ 1 → M' c = M c) ∧ M' 1 = eR M q := by
  obtain ⟨M1, hM1⟩ : ∃ M1 : Mem, M1 = upm M 1 8 (q : Int) := ⟨_, rfl⟩
  have f1 : ∀ c : Nat, c ≠ 1 → M1 c = M c := fun c hc => by rw [hM1, upm_ne hc]
  obtain ⟨M', e1, e2, e3⟩ := L_tr13 (M0 := M1) (q := q) (by rw [f1 0 (by decide)]; exact h40) hq 256 0 jFuel M1 (by omega) (jF (by omega)) (fun _ _ => rfl) (fun i => by rw [if_neg (by omega)])
  refine ⟨M', ?_, fun c hc => (e2 c hc).trans (f1 c hc), ?_⟩
  · unfold f_X11_takesReel
    rw [h40, lt_eq, show (8 : Int).toNat = 8 from rfl, ← hM1]
    exact e1
  · funext i
    rw [e3, eR_v, f1 23 (by decide), hM1, upm_row, updr_ap]
    by_cases y : i = 8
    · rw [if_neg (by omega), if_pos y, if_pos y]
    · rw [if_neg y, if_neg y]
theorem p_edit (hc : CutOK) {k : Nat} {Mc Mr : Mem} (h : Rel k Mc Mr) (hk : k < 512) : ∃ Mc' Mr' : Mem, st_edit Mc Mr Mc' Mr' ∧ Rel (k + 1) Mc' Mr' := by
  obtain ⟨tx1, tx2, tx3⟩ := h.1
  obtain ⟨nT, hn⟩ : ∃ nT : Nat, Mr 0 29 = (nT : Int) := ⟨(Mr 0 29).toNat, by omega⟩
  obtain ⟨C0, hC0⟩ : ∃ C0 : Mem, C0 = upm Mc (29 + 17) 0 0 := ⟨_, rfl⟩
  obtain ⟨M0, hM0⟩ : ∃ M0 : Mem, M0 = upm (upm (upm (upm Mr 0 7 0) 0 40 0) 0 41 0) 0 42 0 := ⟨_, rfl⟩
  have fC0 : ∀ c : Nat, c ≠ 46 → C0 c = Mc c := fun c hc => by rw [hC0, upm_ne hc]
  have fM0 : ∀ c : Nat, c ≠ 0 → M0 c = Mr c := fun c hc => by rw [hM0, upm_ne hc, upm_ne hc, upm_ne hc, upm_ne hc]
  have fM00 : ∀ j : Nat, j ≠ 7 → j ≠ 40 → j ≠ 41 → j ≠ 42 → M0 0 j = Mr 0 j := fun j j1 j2 j3 j4 => by rw [hM0, upm_sl j4, upm_sl j3, upm_sl j2, upm_sl j1]
  have tx0 : TX C0 M0 nT := ⟨by rw [fC0 1 (by decide), tx1, hn], by rw [fM00 29 (by decide) (by decide) (by decide) (by decide), hn], by omega, fun i hi => by rw [fM0 22 (by decide), fC0 2 (by decide)]; exact tx3 i (by omega)⟩
  obtain ⟨a, z, C1, M1, s1, s2, s3, s4, s5, s6, s7, s8, s9⟩ := start_both tx0
  have t5 := tx0.2.2.1
  have rd1 : RD C1 M1 nT a z := ⟨s4, s3, s5⟩
  have ed1 : ED C1 M1 0 0 0 := by
    refine ⟨⟨?_, fun i hi => absurd hi (Nat.not_lt_zero i)⟩, fun i hi => absurd hi (Nat.not_lt_zero i), rfl, by omega, ?_, ?_, Nat.zero_le _, ?_⟩
    · rw [s6 (29 + 17) (by decide), hC0, upm_hit]; rfl
    · rw [s9 40 (by omega), hM0, upm_sl (by decide), upm_sl (by decide), upm_hit]; rfl
    · rw [s9 41 (by omega), hM0, upm_sl (by decide), upm_hit]; rfl
    · rw [s9 42 (by omega), hM0, upm_hit]; rfl
  have row1 : M1 1 = Mr 1 := by rw [s8 1 (by decide), fM0 1 (by decide)]
  have kc1 : kEC Mc C1 := ⟨fun c c1 c2 => by rw [s6 c c1, fC0 c (by omega)], fun j hj => by rw [s7 j (by omega), fC0 1 (by decide)]⟩
  have rl1 : RSl C1 5 (M1 1) := by rw [row1]; exact h.rs.1.eqv (fun j _ _ => kc1.1 _ (by omega) (by omega))
  have wl1 : WFl (M1 1) := by rw [row1]; exact h.wf.1
  have jf : 600 < jFuel := jF (by omega)
  -- both have read
  have both : ∃ (r : Int) (C' M' : Mem), f_X2_readFrom 29 5 Mc = some (r, C') ∧ f_X11_readsReel (upm Mr 0 7 0) = some (endM M') ∧ kEC C1 C' ∧ kEM M1 M' ∧ (r = 1 ∧ goodT C' M' ∧ (∃ q : Nat, ED C' M' q 0 0) ∨ r = 0 ∧ badT C' M') := by
    have gC : ∀ r X, f_X2_readItems_L3 (g_X2_readItems (5 - 0)) 29 5 ((0 : Nat) : Int) jFuel ((0 : Nat) : Int) C1 = some (r, X) → f_X2_readFrom 29 5 Mc = if r = 0 then some ((0 : Int), X) else (f_X8_take 0 X).bind fun (r20, M20) => if r20 = 0 then some ((0 : Int), M20) else some ((1 : Int), M20) := by
      intro r X e
      have e : g_X2_readItems 6 29 5 0 C1 = some (r, X) := e
      unfold f_X2_readFrom f_X2_clear
      rw [lt_eq, Option.bind_some, ← hC0, s1, Option.bind_some, e, Option.bind_some]
    have gR : f_X11_readsReel (upm Mr 0 7 0) = f_X11_readsReel_L19 jFuel M1 := by
      unfold f_X11_readsReel
      rw [lt_eq, lt_eq, lt_eq, ← hM0, s2, Option.bind_some]
    rcases reel_run t5 nT C1 M1 a z 0 0 0 rd1 ed1 rl1 wl1 (by omega) (by omega) (Nat.zero_le _) jFuel (by omega) with ⟨C', M', s, u1, u2, u3, u4, u5, u6⟩ | ⟨C', M', a', z', q', s, u1, u2, u3, u4, u5, u6, _, u7, u8⟩
    · refine ⟨0, C', M', ?_, ?_, u5, u6, Or.inr ⟨rfl, u4⟩⟩
      · rw [gC 0 C' u2, if_pos rfl]
      · rw [gR]
        have := u3 (jFuel - s)
        rw [show jFuel - s + s = jFuel by omega] at this
        exact this
    · have an := u4.2.1.2.1
      have zn := u4.2.1.2.2.1
      have d42 : M' 0 42 = ((0 : Nat) : Int) := u5.2.2.2.2.2.2.2
      have lR := u3 (jFuel - s - 2 + 1 + 1)
      rw [show jFuel - s - 2 + 1 + 1 + s = jFuel by omega] at lR
      by_cases k0 : C' 1 2 = 0
      · have m0 : M' 0 32 = 0 := by
          obtain ⟨_, h1, h2, r | r | r | r | r⟩ := u4.2.1 <;> omega
        obtain ⟨C2, M2, a2, z2, f1, _, _, _, _, f6, _⟩ := next_both u4
        refine ⟨1, C2, M', ?_, ?_, u7.trans f6.N.E, u8, Or.inl ⟨rfl, ?_, q', u5.eqv f6.N kNM.rfl⟩⟩
        · rw [gC 1 C' u2, if_neg (by decide)]
          unfold f_X8_take
          rw [if_pos k0, f1, Option.bind_some, Option.bind_some]
          dsimp only
          rw [if_neg (by decide)]
        · rw [gR, lR, L19_e u4.2.2.1 m0 (by omega)]
        · exact u4.2.2.eqv f6 kTM.rfl
      · have m0 : M' 0 32 ≠ 0 := by
          obtain ⟨_, h1, h2, r | r | r | r | r⟩ := u4.2.1 <;> omega
        obtain ⟨b1, b2, b3⟩ := fail_both u4.2.2 u4.2.1 (c := 1) (by decide)
        refine ⟨0, upm (upm C' 1 7 1) 1 8 (C' 1 3), upm (upm M' 0 34 1) 0 35 (M' 0 31), ?_, ?_, u7.trans kNC.fail.E, u8.trans kNM.fail.E, Or.inr ⟨rfl, b3⟩⟩
        · rw [gC 1 C' u2, if_neg (by decide)]
          unfold f_X8_take
          rw [if_neg k0, b1, Option.bind_some]
          dsimp only
          rw [ck_pos (Or.inl rfl), Option.bind_some]
          dsimp only
          rw [if_pos rfl]
        · rw [gR, lR, L19_i u4.2.2.1 (by omega) (Or.inl (by omega)), item_no u4 u6, Option.bind_some, L19_b b3.1]
  obtain ⟨r, C', M', rC, rR, kc2, km2, out⟩ := both
  have kc := kc1.trans kc2
  have row' : M' 1 = Mr 1 := by rw [km2.1 1 (by decide) (by decide), row1]
  have fM' : ∀ c : Nat, c ≠ 0 → c ≠ 23 → M' c = Mr c := fun c c0 c1 => by rw [km2.1 c c0 c1, s8 c c0, fM0 c c0]
  have fM'0 : ∀ j : Nat, j ≠ 7 → (j < 30 ∨ (35 < j ∧ j ≠ 40 ∧ j ≠ 41 ∧ j ≠ 42)) → M' 0 j = Mr 0 j := fun j j7 hj => by rw [km2.2 j hj, s9 j (by omega), fM00 j j7 (by omega) (by omega) (by omega)]
  obtain ⟨N3, hN3⟩ : ∃ N3 : Mem, N3 = upm C' 1 1 0 := ⟨_, rfl⟩
  have rel : ∀ Mx : Mem, Mx 1 = Mr 1 → (∀ c : Nat, 3 ≤ c → c ≠ 23 → (c < 7 ∨ 18 < c) → Mx c = endM M' c) → (∀ j : Nat, j ≠ 17 → j ≠ 21 → j ≠ 22 → Mx 0 j = endM M' 0 j) → C' 1 7 = M' 0 34 → C' 1 8 = M' 0 35 → Rel k N3 Mx := by
    intro Mx x1 x2 x3 e7 e8
    rw [hN3]
    refine read_rel h (fun c c1 c2 => ?_) (fun j j1 j2 => ?_) upm_hit (fun c q => ?_) ⟨?_, ?_⟩ ?_ ⟨?_, ?_⟩
    · rw [upm_ne c1, kc.1 c c1 (by omega)]
    · rw [upm_sl j1, kc.2 j (by omega)]
    · by_cases y : c = 1
      · rw [y, x1]
      · rw [x2 c (by omega) (by omega) (by omega), endM_c (by omega), fM' c (by omega) (by omega)]
    · rw [x3 6 (by decide) (by decide) (by decide), endM_0 (by decide) (by decide) (by decide), fM'0 6 (by decide) (by omega)]
    · rw [x3 51 (by decide) (by decide) (by decide), endM_0 (by decide) (by decide) (by decide), fM'0 51 (by decide) (by omega)]
    · rw [x3 29 (by decide) (by decide) (by decide)]; exact endM_v.1
    · rw [upm_sl (by decide), x3 36 (by decide) (by decide) (by decide), endM_v.2.1]; exact e7
    · rw [upm_sl (by decide), x3 37 (by decide) (by decide) (by decide), endM_v.2.2]; exact e8
  have goC : f_X10_edit Mc = if r = 0 then (f_X10_refuse 1 N3).bind fun (r36, M36) => some (r36, M36) else (f_X2_pieceCount 29 N3).bind fun (r47, M47) => if r47 ≤ 60 then (f_X10_remember M47).bind fun M62 => (f_X2_copyFrom 5 29 M62).bind fun M79 => (f_X10_settle M79).bind fun M83 => some ((M83 56 0), M83) else (f_X10_refuse 2 M47).bind fun (r57, M57) => some (r57, M57) := by
    unfold f_X10_edit
    rw [rC, Option.bind_some]
    dsimp only
    rw [lt_eq, ← hN3]
  have goR : f_X11_edit Mr = (f_X11_isGood (endM M')).bind fun r10 => if r10 = 0 then (f_X11_refuses 1 (endM M')).bind fun (r18, M18) => some (r18, M18) else (f_X11_copies 1 1062 0 2 1062 0 (endM M')).bind fun M32 => (f_X11_takesReel M32).bind fun M36 => (f_X11_laysPieces M36).bind fun M40 => (f_X11_copies 2 1062 0 1 1062 0 M40).bind fun M53 => if (M53 0 17) ≤ 60 then (f_X11_begins M53).bind fun M72 => (f_X11_takesReel M72).bind fun M76 => some ((M76 0 17), M76) else (f_X11_refuses 2 M53).bind fun (r67, M67) => some (r67, M67) := by
    unfold f_X11_edit
    rw [lt_eq, rR, Option.bind_some]
  have e34 : endM M' 0 34 = M' 0 34 := endM_0 (by decide) (by decide) (by decide)
  rcases out with ⟨r1, gd, q, ed⟩ | ⟨r0, bd⟩
  · rw [if_neg (by omega)] at goC
    rw [good_1 (by rw [e34]; exact gd.1), Option.bind_some, if_neg (by decide)] at goR
    obtain ⟨x1, x2, x3, _, x5, _, x7, _⟩ := ed
    have q60 : q ≤ 60 := by
      have := row2 (eR M' q) q
      rw [x3] at this; omega
    obtain ⟨f, hf⟩ : ∃ f : Row, f = eR M' q := ⟨_, rfl⟩
    rw [← hf] at x1 x2 x3 x7
    have f8 : f 8 = (q : Int) := by rw [hf, eR_v, if_pos rfl]
    have x1' : PRI N3 f q := x1.eqv (fun c _ _ => by rw [hN3, upm_ne (by omega)])
    obtain ⟨C4, c1, c2⟩ := count_C x1' x2 q60 x7 x3
    rw [c1, Option.bind_some] at goC
    dsimp only at goC
    have o : outE (Mr 1) f := by rw [hf, ← row']; exact eR_o M' q
    have lv := WFlv_o o h.wf.1 h.wf.2.1
    -- the reference's trial
    obtain ⟨Ma, a1, a2, a3⟩ := cop_R (a := 1) (na := 1062) (b := 2) (nb := 1062) (x := 0) (y := 0) (by decide) (by omega) (by omega) ⟨by omega, by omega⟩ (endM M')
    have a1 : f_X11_copies 1 1062 0 2 1062 0 (endM M') = some Ma := a1
    have Ma0 : Ma 0 40 = (q : Int) := by rw [a2 0 (by decide), endM_0 (by decide) (by decide) (by decide)]; exact x5
    obtain ⟨Mb, b1, b2, b3⟩ := takesR_R Ma0 q60
    have eMb : Mb 1 = f := by
      rw [b3, hf]
      exact eR_c (by rw [a2 1 (by decide), endM_c (by decide)]) (by rw [a2 23 (by decide), endM_c (by decide)]) q
    rw [a1, Option.bind_some, b1, Option.bind_some] at goR
    -- what holds once it is laid
    have after : ∀ Mx : Mem, layK Mb Mx → ∃ Md : Mem, f_X11_copies 2 1062 0 1 1062 0 Mx = some Md ∧ Md 0 17 = Mx 0 17 ∧ Md 0 40 = (q : Int) ∧ Md 23 = M' 23 ∧ Md 1 = Mr 1 ∧ Rel k N3 Md := by
      intro Mx lk
      obtain ⟨Md, d1, d2, d3⟩ := cop_R (a := 2) (na := 1062) (b := 1) (nb := 1062) (x := 0) (y := 0) (by decide) (by omega) (by omega) ⟨by omega, by omega⟩ Mx
      have d1 : f_X11_copies 2 1062 0 1 1062 0 Mx = some Md := d1
      have rowd : Md 1 = Mr 1 := by
        funext i
        rw [d3]
        by_cases y : i < 1062
        · rw [if_pos (by omega), lk.1 2 (by decide) (by decide), b2 2 (by decide), a3, if_pos (by omega), endM_c (by decide), row', Nat.zero_add, Nat.sub_zero, Nat.zero_add, Nat.sub_zero]
        · rw [if_neg (by omega), lk.1 1 (by decide) (by decide), eMb, hf, eR_v, if_neg (by omega), if_neg (by omega), row']
      have fd0 : ∀ j : Nat, j ≠ 17 → j ≠ 21 → j ≠ 22 → Md 0 j = endM M' 0 j := fun j j1 j2 j3 => by rw [d2 0 (by decide), lk.2 j j1 j2 j3, b2 0 (by decide), a2 0 (by decide)]
      refine ⟨Md, d1, by rw [d2 0 (by decide)], by rw [fd0 40 (by decide) (by decide) (by decide), endM_0 (by decide) (by decide) (by decide)]; exact x5, by rw [d2 23 (by decide), lk.1 23 (by decide) (by decide), b2 23 (by decide), a2 23 (by decide), endM_c (by decide)], rowd, rel Md rowd (fun c h3 _ hl => by rw [d2 c (by omega), lk.1 c (by omega) hl, b2 c (by omega), a2 c (by omega)]) fd0 (by rw [gd.1, gd.2.2.1]) (by rw [gd.2.1, gd.2.2.2])⟩
    have kC4 : keepC N3 C4 := ⟨fun c hc => c2 c (by omega), by rw [c2 0 (by decide)], by rw [c2 0 (by decide)], by rw [c2 1 (by decide)], by rw [c2 1 (by decide)], by rw [c2 1 (by decide)], by rw [c2 3 (by decide)], by rw [c2 56 (by decide)], by rw [c2 56 (by decide)], by rw [c2 72 (by decide)]⟩
    by_cases n60 : npc f q ≤ 60
    · rw [if_pos n60] at goC
      have wf : WF f := ⟨lv.1, lv.2, WFi_of f8 q60 x3 x7 n60 x2⟩
      -- the pieces as such
      have pri4 : PRI C4 f (f 8).toNat := by rw [f8, Int.toNat_natCast]; exact x1'.eqv (fun c _ _ => c2 c (by omega))
      have rsN : RS N3 5 (Mr 1) := h.rs.eqv (fun j _ _ => by rw [hN3, upm_ne (by omega), kc.1 _ (by omega) (by omega)])
      obtain ⟨Cx, y1, y2, y3⟩ := copyD pri4 rfl wf.2.2.1.1 wf.2.2.2.2.1
      obtain ⟨rlx, rvx⟩ := RSlv_o o h.wf.1 h.wf.2.1 rsN.1 rsN.2.1
      have rsx : RS Cx 5 f := ⟨rlx.eqv (fun j _ _ => by rw [y3 _ (by omega), c2 _ (by omega)]), rvx.eqv (fun j _ _ => by rw [y3 _ (by omega), c2 _ (by omega)]), y2⟩
      obtain ⟨Cy, z1, z2, z3⟩ := hc Cx f rsx wf
      obtain ⟨Mx, l1, l2, l3⟩ := z3.2 Mb eMb
      obtain ⟨Md, d1, d17, d40, d23, drow, drel⟩ := after Mx l2
      rw [l1, Option.bind_some, d1, Option.bind_some, d17, l3.2.1, if_pos (by have := l3.1; omega)] at goR
      have drel4 : Rel k C4 Md := drel.scr kC4 keepR.rfl (Nat.le_refl _)
      obtain ⟨C5, Me, t1, t2, t3, t4, t5', t6, t7⟩ := both_rem drel4 hk (M := Md) rfl rfl rfl rfl
      have pri5 : PRI C5 f (f 8).toNat := pri4.eqv (fun c _ _ => t3 c (by omega) (by omega) (by omega))
      obtain ⟨C6, g1, g2, g3⟩ := copyD pri5 rfl wf.2.2.1.1 wf.2.2.2.2.1
      obtain ⟨Mf, w1, w2, w3⟩ := takesR_R (M := Me) (q := q) (by rw [t5' 40 (by decide)]; exact d40) q60
      have eMf : Mf 1 = f := by
        rw [w3, hf]
        exact eR_c (by rw [t4 1 (by decide) (by decide) (by decide), drow, row']) (by rw [t4 23 (by decide) (by decide) (by decide), d23]) q
      have rs6 : RS C6 5 f := ⟨rlx.eqv (fun j _ _ => by rw [g3 _ (by omega), t3 _ (by omega) (by omega) (by omega), c2 _ (by omega)]), rvx.eqv (fun j _ _ => by rw [g3 _ (by omega), t3 _ (by omega) (by omega) (by omega), c2 _ (by omega)]), g2⟩
      obtain ⟨C7, v1, v2, v3, v4⟩ := act_done hc (k' := k + 1) drel4 (Mc2 := C6) (M2 := Mf) (fun c hc' => by rw [g3 c (by omega), t3 c (by omega) (by omega) (by omega)]) (by rw [g3 72 (by omega), t3 72 (by decide) (by decide) (by omega)]) (fun c hc' => by rw [w2 c (by omega), t4 c (by omega) (by omega) (by omega)]) (fun j hj => by rw [w2 0 (by decide), t5' j (by omega)]) (t6.eqv (fun c hc' => g3 c (by omega)) (by rw [w2 0 (by decide)]) (w2 3 (by decide))) (fun i hi => by rw [g3 73 (by omega), w2 5 (by decide)]; exact t7 i hi) eMf rs6 wf
      have pc7 := v2.pc
      rw [eMf] at pc7
      obtain ⟨My, m1, _, m3⟩ := pc7.2 Mb eMb
      have eM : Mx = My := Option.some.inj (l1.symm.trans m1)
      have cnt : C7 56 0 = Mx 0 17 := by rw [eM]; exact m3.2.1.symm
      refine ⟨C7, Mf, ⟨C7 56 0, ?_, ?_⟩, v2⟩
      · rw [goC, t1, Option.bind_some, g1, Option.bind_some, v1, Option.bind_some]
      · rw [goR, t2, Option.bind_some, w1, Option.bind_some, w2 0 (by decide), t5' 17 (by decide), d17, cnt]
    · rw [if_neg n60] at goC
      obtain ⟨Mx, l1, l2, l3⟩ := over_R (g := f) lv.1 (by rw [f8]; omega) (by rw [f8, Int.toNat_natCast]; exact x2) (by rw [f8, Int.toNat_natCast]; exact x3) (by rw [f8, Int.toNat_natCast]; omega) eMb
      obtain ⟨Md, d1, d17, d40, d23, drow, drel⟩ := after Mx l2
      rw [l1, Option.bind_some, d1, Option.bind_some, d17, l3, if_neg (by decide)] at goR
      have drel4 : Rel k C4 Md := drel.scr kC4 keepR.rfl (Nat.le_refl _)
      obtain ⟨Mc', M'', b1', b2', b3', b4'⟩ := both_ref drel4 hk (c := 2) ⟨by omega, by omega⟩ keepR.rfl
      have b1' : f_X10_refuse 2 C4 = some (-2, Mc') := b1'
      have b2' : f_X11_refuses 2 Md = some (-2, M'') := b2'
      exact ⟨Mc', M'', ⟨-2, by rw [goC, b1']; rfl, by rw [goR, b2']; rfl⟩, b4'⟩
  · rw [if_pos r0] at goC
    rw [good_0 (by rw [e34]; exact bd.1), Option.bind_some, if_pos rfl] at goR
    have rl0 := rel (endM M') (by rw [endM_c (by decide)]; exact row') (fun c _ _ _ => rfl) (fun j _ _ _ => rfl) bd.2.1 bd.2.2
    obtain ⟨Mc', M'', b1, b2, b3, b4⟩ := both_ref rl0 hk (c := 1) ⟨by omega, by omega⟩ keepR.rfl
    have b1 : f_X10_refuse 1 N3 = some (-1, Mc') := b1
    have b2 : f_X11_refuses 1 (endM M') = some (-1, M'') := b2
    exact ⟨Mc', M'', ⟨-1, by rw [goC, b1]; rfl, by rw [goR, b2]; rfl⟩, b4⟩
