/-! an item, the row of items -/
/-- what an item comes to: failed; made with its semicolon; a block opened -/
def POut (C M : Mem) (n a q d : Nat) : Prop :=
  (∃ C' M' : Mem, (∀ rc, f_X2_readItem rc 29 5 (d : Int) C = some (0, C') ∨ ∃ C1 : Mem, f_X2_readItem rc 29 5 (d : Int) C = some (1, C1) ∧ f_X8_take 3 C1 = some (0, C')) ∧ f_X11_readsItem M = some M' ∧ badT C' M' ∧ kEC C C' ∧ kEM M M') ∨
  (∃ (C' M' : Mem) (a' z' : Nat), (∀ rc, ∃ C1 : Mem, f_X2_readItem rc 29 5 (d : Int) C = some (1, C1) ∧ f_X8_take 3 C1 = some (1, C')) ∧ f_X11_readsItem M = some M' ∧ RD C' M' n a' z' ∧ ED C' M' (q + 1) d 0 ∧ a < a' ∧ it (eR M q) q + 1 ≤ it (eR M' (q + 1)) (q + 1) ∧ kEC C C' ∧ kEM M M') ∨
  ∃ (C' M' : Mem) (a' z' : Nat), d < 4 ∧ (∀ rc, f_X2_readItem rc 29 5 (d : Int) C = (blkE rc d C').bind fun (r96, M96) => if r96 = 0 then some ((0 : Int), M96) else some ((1 : Int), M96)) ∧ f_X11_readsItem M = some M' ∧ RD C' M' n a' z' ∧ ED C' M' (q + 1) (d + 1) 0 ∧ a < a' ∧ it (eR M q) q + 1 ≤ it (eR M' (q + 1)) (q + 1) ∧ kEC C C' ∧ kEM M M'
theorem item_both {C M : Mem} {n a z q d : Nat} (rd : RD C M n a z) (ed : ED C M q d 0) (rl : RSl C 5 (M 1)) (wl : WFl (M 1)) (k1 : C 1 2 = 1) : POut C M n a q d := by
  have h5 := wl.2.2.2.2.2.1.2
  obtain ⟨v0, u0, p0, q0, _⟩ := isW_both rd 0
  obtain ⟨v1, u1, p1, q1, _⟩ := isW_both rd 1
  obtain ⟨v8, u8, p8, q8, _⟩ := isW_both rd 8
  obtain ⟨v9, u9, p9, q9, _⟩ := isW_both rd 9
  have c46 : C (29 + 17) 0 = (it (eR M q) q : Nat) := ed.1.1
  have i41 := ed.2.2.2.2.2.1
  have i30 := ed.2.2.2.2.2.2.1
  rw [Nat.add_zero] at i41
  obtain ⟨kd, hkd⟩ : ∃ kd : Int, kd = (if v0 = 0 then (if v1 = 0 then (if v8 = 0 then (if v9 = 0 then -1 else 3) else 2) else 1) else 0) := ⟨_, rfl⟩
  have kt : f_X2_kindTold C = some kd := by
    unfold f_X2_kindTold
    rw [p0, p1, p8, p9, Option.bind_some, Option.bind_some, Option.bind_some, Option.bind_some, hkd]
    repeat' split
    all_goals rfl
  -- the reference up to the number of items
  have goR : f_X11_readsItem M = if kd = -1 then some (upm (upm M 0 34 1) 0 35 (M 0 31)) else if (M 0 41) = 30 then some (upm (upm M 0 34 4) 0 35 (M 0 31)) else ck (inR ((M 0 41) + 1)) <| lt (upm M 0 41 ((M 0 41) + 1)) fun N5 => (f_X11_isWord 0 N5).bind fun r91 => if r91 = 0 then (f_X11_isWord 1 N5).bind fun r108 => if r108 = 0 then (f_X11_isWord 8 N5).bind fun r125 => if r125 = 0 then (f_X11_readsBlock 3 0 40 N5).bind fun M147 => some M147 else (f_X11_readsBlock 2 1 9 N5).bind fun M136 => some M136 else (f_X11_readsHeld N5).bind fun M115 => some M115 else (f_X11_readsCut N5).bind fun M98 => some M98 := by
    have bad1 : M 0 34 = 0 := rd.2.2.1
    have go1 : ∀ (X : Mem → Option Mem), (jn (fun (M55 : Mem) => (jn (fun (M69 : Mem) => ((f_X11_isGood M69).bind fun r70 => if r70 = 0 then some M69 else X M69 : Option (Mem))) fun k69 => if (M55 0 41) = 30 then (f_X11_fails 4 M55).bind fun M66 => k69 M66 else k69 M55 : Option (Mem))) fun k55 => if (1 : Int) = 0 then (f_X11_fails 1 M).bind fun M52 => k55 M52 else k55 M) = if (M 0 41) = 30 then some (upm (upm M 0 34 4) 0 35 (M 0 31)) else X M := by
      intro X
      rw [jn_eq, if_neg (by decide)]
      dsimp only
      rw [jn_eq]
      by_cases c : M 0 41 = 30
      · rw [if_pos c, if_pos c, fails_g bad1, Option.bind_some]
        dsimp only
        rw [good_0 (by rw [upm_sl (by decide), upm_hit]; decide), Option.bind_some, if_pos rfl]
      · rw [if_neg c, if_neg c]
        dsimp only
        rw [good_1 bad1, Option.bind_some, if_neg (by decide)]
    have go0 : ∀ (X : Mem → Option Mem), (jn (fun (M55 : Mem) => (jn (fun (M69 : Mem) => ((f_X11_isGood M69).bind fun r70 => if r70 = 0 then some M69 else X M69 : Option (Mem))) fun k69 => if (M55 0 41) = 30 then (f_X11_fails 4 M55).bind fun M66 => k69 M66 else k69 M55 : Option (Mem))) fun k55 => if (0 : Int) = 0 then (f_X11_fails 1 M).bind fun M52 => k55 M52 else k55 M) = some (upm (upm M 0 34 1) 0 35 (M 0 31)) := by
      intro X
      have b : (upm (upm M 0 34 1) 0 35 (M 0 31)) 0 34 ≠ 0 := by rw [upm_sl (by decide), upm_hit]; decide
      rw [jn_eq, if_pos rfl, fails_g bad1, Option.bind_some]
      dsimp only
      rw [jn_eq]
      by_cases c : (upm (upm M 0 34 1) 0 35 (M 0 31)) 0 41 = 30
      · rw [if_pos c, fails_b b, Option.bind_some]
        dsimp only
        rw [good_0 b, Option.bind_some, if_pos rfl]
      · rw [if_neg c]
        dsimp only
        rw [good_0 b, Option.bind_some, if_pos rfl]
    unfold f_X11_readsItem
    rw [q0, Option.bind_some, jn_eq, jn_eq]
    by_cases c0 : v0 = 0
    · rw [if_pos c0, q1, Option.bind_some]
      rw [if_pos c0] at hkd
      by_cases c1 : v1 = 0
      · rw [if_pos c1, q8, Option.bind_some]
        rw [if_pos c1] at hkd
        by_cases c8 : v8 = 0
        · rw [if_pos c8, q9, Option.bind_some]
          rw [if_pos c8] at hkd
          by_cases c9 : v9 = 0
          · rw [if_pos c9]
            rw [if_pos c9] at hkd
            rw [if_pos hkd]
            exact go0 _
          · rw [if_neg c9]
            rw [if_neg c9] at hkd
            rw [if_neg (show ¬ kd = -1 by omega)]
            exact go1 _
        · rw [if_neg c8]
          rw [if_neg c8] at hkd
          rw [if_neg (show ¬ kd = -1 by omega)]
          exact go1 _
      · rw [if_neg c1]
        rw [if_neg c1] at hkd
        rw [if_neg (show ¬ kd = -1 by omega)]
        exact go1 _
    · rw [if_neg c0]
      rw [if_neg c0] at hkd
      rw [if_neg (show ¬ kd = -1 by omega)]
      exact go1 _
  by_cases cm : kd = -1
  · obtain ⟨b1, b2, b3⟩ := fail_both rd.2.2 rd.2.1 (c := 1) (by decide)
    rw [if_pos cm] at goR
    refine Or.inl ⟨_, _, fun rc => Or.inl ?_, goR, b3, kNC.fail.E, kNM.fail.E⟩
    unfold f_X2_readItem
    rw [kt, Option.bind_some, if_pos cm, b1, Option.bind_some]
    dsimp only
    rw [ck_pos (Or.inl rfl)]
  · rw [if_neg cm] at goR
    by_cases c30 : it (eR M q) q = 30
    · obtain ⟨b1, b2, b3⟩ := fail_both rd.2.2 rd.2.1 (c := 4) (by decide)
      rw [if_pos (by omega)] at goR
      refine Or.inl ⟨_, _, fun rc => Or.inl ?_, goR, b3, kNC.fail.E, kNM.fail.E⟩
      unfold f_X2_readItem
      rw [kt, Option.bind_some, if_neg cm, c46, if_neg (by omega), b1, Option.bind_some]
      dsimp only
      rw [ck_pos (Or.inl rfl)]
    · rw [if_neg (by omega), i41, ck_pos ⟨by omega, by omega⟩, lt_eq] at goR
      obtain ⟨N5, hN⟩ : ∃ N5 : Mem, N5 = upm M 0 41 (((it (eR M q) q : Nat) : Int) + 1) := ⟨_, rfl⟩
      rw [← hN] at goR
      have kN : kEM M N5 := by rw [hN]; exact ⟨fun c c1 _ => upm_ne c1, fun j hj => upm_sl (by omega)⟩
      have rdN : RD C N5 n a z := by
        have r := rd
        unfold RD TX Tok goodT at r ⊢
        rw [hN, upm_ne (b := 22) (by decide), upm_sl (j := 29) (by decide), upm_sl (j := 30) (by decide), upm_sl (j := 31) (by decide), upm_sl (j := 32) (by decide), upm_sl (j := 33) (by decide), upm_sl (j := 34) (by decide), upm_sl (j := 35) (by decide)]
        exact r
      have rowN : N5 1 = M 1 := by rw [hN, upm_ne (by decide)]
      have eN : eR N5 q = eR M q := eR_c rowN (by rw [hN, upm_ne (by decide)]) q
      have edN : ED C N5 q d 1 := by
        obtain ⟨x1, x2, x3, x4, x5, x6, x7, x8⟩ := ed
        refine ⟨by rw [eN]; exact x1, by rw [eN]; exact x2, by rw [eN]; exact x3, x4, by rw [hN, upm_sl (by decide)]; exact x5, by rw [eN, hN, upm_hit]; omega, by rw [eN]; exact x7, by rw [hN, upm_sl (by decide)]; exact x8⟩
      have rlN : RSl C 5 (N5 1) := by rw [rowN]; exact rl
      have wlN : WFl (N5 1) := by rw [rowN]; exact wl
      obtain ⟨w0, _, P0, Q0, _⟩ := isW_both rdN 0
      obtain ⟨w1, _, P1, Q1, _⟩ := isW_both rdN 1
      obtain ⟨w8, _, P8, Q8, _⟩ := isW_both rdN 8
      rw [p0] at P0
      rw [p1] at P1
      rw [p8] at P8
      rw [Q0, Option.bind_some, ← Option.some.inj P0] at goR
      have goC : ∀ rc, ∀ C1, f_X8_advance C = some C1 → f_X2_readItem rc 29 5 (d : Int) C = if kd = 0 then (f_X2_readCut 29 5 (d : Int) C1).bind fun (r68, M68) => ck (r68 = 0 ∨ r68 = 1) <| some (r68, M68) else if kd = 1 then (f_X2_readMap 29 5 (d : Int) C1).bind fun (r76, M76) => ck (r76 = 0 ∨ r76 = 1) <| some (r76, M76) else if kd = 2 then blkX rc kd 1 9 d C1 else blkX rc kd 0 40 d C1 := by
        intro rc C1 e
        unfold f_X2_readItem blkX
        rw [kt, Option.bind_some, if_neg cm, c46, if_pos (by omega), e, Option.bind_some]
      have fromI : ∀ (rcX : Option (Int × Mem)) (rmX : Option Mem), IOut C N5 n a q d rcX rmX → (∀ rc, f_X2_readItem rc 29 5 (d : Int) C = rcX.bind fun (r, M) => ck (r = 0 ∨ r = 1) <| some (r, M)) → f_X11_readsItem M = (rmX.bind fun M98 => some M98) → POut C M n a q d := by
        intro rcX rmX io hC hR
        rcases io with ⟨C', M', t1, t2, t3, t4, t5⟩ | ⟨C1, C', M', a', z', t1, t2, t3, t4, t5, t6, ti, t7, t8⟩
        · refine Or.inl ⟨C', M', fun rc => ?_, by rw [hR, t2]; rfl, t3, t4, kN.trans t5⟩
          rcases t1 with t1 | ⟨C1, t1, t1'⟩
          · left
            rw [hC rc, t1, Option.bind_some]
            dsimp only
            rw [ck_pos (Or.inl rfl)]
          · right
            refine ⟨C1, ?_, t1'⟩
            rw [hC rc, t1, Option.bind_some]
            dsimp only
            rw [ck_pos (Or.inr rfl)]
        · refine Or.inr (Or.inl ⟨C', M', a', z', fun rc => ⟨C1, ?_, t2⟩, by rw [hR, t3]; rfl, t4, t5, t6, ?_, t7, kN.trans t8⟩)
          · rw [hC rc, t1, Option.bind_some]
            dsimp only
            rw [ck_pos (Or.inr rfl)]
          · rw [ti, eN]; exact Nat.le_refl _
      have fromB : ∀ (k lo hi : Int), (k = 2 ∧ lo = 1 ∧ hi = 9 ∨ k = 3 ∧ lo = 0 ∧ hi = 40) → (∀ rc, ∀ C1, f_X8_advance C = some C1 → f_X2_readItem rc 29 5 (d : Int) C = blkX rc k lo hi d C1) → f_X11_readsItem M = ((f_X11_readsBlock k lo hi N5).bind fun M147 => some M147) → POut C M n a q d := by
        intro k lo hi hk hC hR
        obtain ⟨C1, e1, o⟩ := block_item rdN edN (by rw [eN]; omega) (by rw [rowN]; exact h5) hk
        rcases o with ⟨C', M', t1, t2, t3, t4, t5⟩ | ⟨C', M', a', z', t0, t1, t2, t3, t4, t5, t6, t7, t8⟩
        · exact Or.inl ⟨C', M', fun rc => Or.inl ((hC rc C1 e1).trans (t1 rc)), by rw [hR, t2]; rfl, t3, t4, kN.trans t5⟩
        · refine Or.inr (Or.inr ⟨C', M', a', z', t0, fun rc => (hC rc C1 e1).trans (t1 rc), by rw [hR, t2]; rfl, t3, t4, t5, ?_, t7, kN.trans t8⟩)
          rw [eN] at t6; exact t6
      by_cases c0 : v0 = 0
      · rw [if_pos c0, Q1, Option.bind_some, ← Option.some.inj P1] at goR
        rw [if_pos c0] at hkd
        by_cases c1 : v1 = 0
        · rw [if_pos c1, Q8, Option.bind_some, ← Option.some.inj P8] at goR
          rw [if_pos c1] at hkd
          by_cases c8 : v8 = 0
          · rw [if_pos c8] at goR hkd
            have k3 : kd = 3 := by
              by_cases c9 : v9 = 0
              · rw [if_pos c9] at hkd; exact absurd hkd cm
              · rw [if_neg c9] at hkd; exact hkd
            exact fromB 3 0 40 (Or.inr ⟨rfl, rfl, rfl⟩) (fun rc C1 e => by rw [goC rc C1 e, k3, if_neg (by decide), if_neg (by decide), if_neg (by decide)]) goR
          · rw [if_neg c8] at goR hkd
            exact fromB 2 1 9 (Or.inl ⟨rfl, rfl, rfl⟩) (fun rc C1 e => by rw [goC rc C1 e, hkd, if_neg (by decide), if_neg (by decide), if_pos rfl]) goR
        · rw [if_neg c1] at goR hkd
          obtain ⟨C1, e1, o⟩ := map_item rdN edN (by rw [eN]; omega) rlN wlN
          exact fromI _ _ o (fun rc => by rw [goC rc C1 e1, hkd, if_neg (by decide), if_pos rfl]) goR
      · rw [if_neg c0] at goR hkd
        obtain ⟨C1, e1, o⟩ := cut_item rdN edN (by rw [eN]; omega) rlN wlN
        exact fromI _ _ o (fun rc => by rw [goC rc C1 e1, hkd, if_pos rfl]) goR
