/-! blocks and the row of items -/
def blkE (rc : Nat → Nat → Int → Mem → Option (Int × Mem)) (d : Nat) (C : Mem) : Option (Int × Mem) := (rc 29 5 ((d + 1 : Nat) : Int) C).bind fun (r48, M48) => if r48 = 0 then some (0, M48) else (f_X8_take 5 M48).bind fun (r56, M56) => if r56 = 0 then some ((0 : Int), M56) else some ((1 : Int), M56)
def blkX (rc : Nat → Nat → Int → Mem → Option (Int × Mem)) (k lo hi : Int) (d : Nat) (C : Mem) : Option (Int × Mem) := (f_X8_takeNumber lo hi C).bind fun (r84, M84) => if r84 = 0 then some (0, M84) else (f_X2_readBlock rc 29 k 5 (d : Int) M84).bind fun (r96, M96) => if r96 = 0 then some ((0 : Int), M96) else some ((1 : Int), M96)
theorem block_item {C M : Mem} {n a z q d : Nat} (rd : RD C M n a z) (ed : ED C M q d 1) (lt30 : it (eR M q) q < 30) (h5 : M 1 5 ≤ 12) {k lo hi : Int} (hk : k = 2 ∧ lo = 1 ∧ hi = 9 ∨ k = 3 ∧ lo = 0 ∧ hi = 40) : ∃ C1 : Mem, f_X8_advance C = some C1 ∧
    ((∃ C' M' : Mem, (∀ rc, blkX rc k lo hi d C1 = some (0, C')) ∧ f_X11_readsBlock k lo hi M = some M' ∧ badT C' M' ∧ kEC C C' ∧ kEM M M') ∨
     ∃ (C' M' : Mem) (a' z' : Nat), d < 4 ∧ (∀ rc, blkX rc k lo hi d C1 = (blkE rc d C').bind fun (r96, M96) => if r96 = 0 then some ((0 : Int), M96) else some ((1 : Int), M96)) ∧ f_X11_readsBlock k lo hi M = some M' ∧ RD C' M' n a' z' ∧ ED C' M' (q + 1) (d + 1) 0 ∧ a < a' ∧ it (eR M q) q + 1 ≤ it (eR M' (q + 1)) (q + 1) ∧ kEC C C' ∧ kEM M M') := by
  obtain ⟨C1, M1, a1, z1, e1, e2, _, rd1, e5, e6, e7⟩ := next_both rd
  refine ⟨C1, e1, ?_⟩
  have ed1 := ed.eqv e6.N e7.N
  have az := rd.2.1.2.1
  have az1 := rd1.2.1.2.1
  have d4 := ed.2.2.2.1
  -- the bad road
  have badR : ∀ M2 : Mem, M2 0 34 ≠ 0 → (M2 0 42 = (d : Int)) → (jn (fun (M35 : Mem) => (jn (fun (M48 : Mem) => (ck (inR ((M48 0 42) + 1)) <| lt (upm M48 0 42 ((M48 0 42) + 1)) fun N7 => (f_X11_goesOn N7).bind fun M59 => some M59 : Option (Mem))) fun k48 => if (M35 0 42) = 4 then (f_X11_fails 5 M35).bind fun M45 => k48 M45 else k48 M35 : Option (Mem))) fun k35 => k35 M2) = some (upm M2 0 42 ((d : Int) + 1)) := by
    intro M2 h h42
    rw [jn_eq]
    dsimp only
    rw [jn_eq]
    have t : (ck (inR ((M2 0 42) + 1)) <| lt (upm M2 0 42 ((M2 0 42) + 1)) fun N7 => (f_X11_goesOn N7).bind fun M59 => some M59) = some (upm M2 0 42 ((d : Int) + 1)) := by
      rw [h42, ck_pos ⟨by omega, by omega⟩, lt_eq, goes_b (by rw [upm_sl (by decide)]; exact h)]; rfl
    by_cases c : M2 0 42 = 4
    · rw [if_pos c, fails_b h, Option.bind_some]; exact t
    · rw [if_neg c]; exact t
  have kE42 : ∀ {A : Mem} {v : Int}, kEM A (upm A 0 42 v) := fun {A v} => ⟨fun c c1 _ => upm_ne c1, fun j hj => upm_sl (by omega)⟩
  have b42 : ∀ {C' M' : Mem} {v : Int}, badT C' M' → badT C' (upm M' 0 42 v) := fun {C' M' v} h => by
    unfold badT at h ⊢
    rw [upm_sl (by decide), upm_sl (by decide)]; exact h
  have hl : 0 ≤ lo ∧ hi < 100000 := by omega
  rcases num_both rd1 (lo := lo) (hi := hi) hl.1 hl.2 with ⟨C2, M2, n1, n2, n3, n4, n5⟩ | ⟨C2, M2, a2, z2, v, n1, n2, n3, n4, rd2, n6, n7, n8⟩
  · left
    have d42 : M2 0 42 = (d : Int) := by rw [n5.2 42 (by omega), e7.2 42 (by omega)]; exact ed.2.2.2.2.2.2.2
    refine ⟨C2, upm M2 0 42 ((d : Int) + 1), fun rc => ?_, ?_, b42 n3, (e6.N.trans n4).E, (e7.N.trans n5).E.trans kE42⟩
    · unfold blkX
      rw [n1, Option.bind_some]
      dsimp only
      rw [if_pos rfl]
    · unfold f_X11_readsBlock
      rw [e2, Option.bind_some, n2, Option.bind_some]
      dsimp only
      rw [makes_b n3.1, Option.bind_some, sign_b n3.1, Option.bind_some]
      have := badR M2 n3.1 d42
      rw [jn_eq] at this ⊢
      rw [if_pos rfl, fails_b n3.1, Option.bind_some]
      exact this
  · have az2 := rd2.2.1.2.1
    have kc2 := e6.N.trans n7
    have km2 := e7.N.trans n8
    have ed2 := ed.eqv kc2 km2
    have row2' : M2 1 = M 1 := km2.1 1 (by decide)
    have er : eR M2 q = eR M q := eR_c row2' (km2.1 23 (by decide)) q
    have q60 := ed.q60
    obtain ⟨M3, m1, m2, m3, m4, m5, m6, m7, m8, m9⟩ := makes_R rd2.2.2.1 ed2.2.2.2.2.1 (by omega) k v 0 0
    have mr : M3 1 = M2 1 := m4 1 (by decide) (by decide)
    have hk4 : k ≠ 4 := by omega
    -- the draft's item
    have addC : ∃ C3 : Mem, f_X2_add 29 k v 0 0 (d : Int) C2 = some C3 ∧ PRI C3 (eR M3 (q + 1)) (q + 1) ∧ it (eR M3 (q + 1)) (q + 1) = it (eR M q) q + 1 ∧ (d < 4 → PWF (eR M3 (q + 1)) (q + 1)) ∧ dp (eR M3 (q + 1)) (q + 1) = (d : Int) + 1 ∧ ∀ c : Nat, c < 46 ∨ 51 < c → C3 c = C2 c := by
      obtain ⟨⟨p1, p2⟩, w, d1, _⟩ := ed2
      have cc := fun j hj => cat_1 (q := 0) (t := 0) m5 (dp_00 _ _) (mul_00 _ _) j hj
      have cq := cc q (Nat.le_refl _)
      rw [Nat.zero_add] at cq
      have z1' : it (eR M2 q) 0 = 0 := rfl
      have z2' : it (eR M3 (q + 1)) 0 = 0 := rfl
      have dq : dp (eR M3 (q + 1)) q = (d : Int) := by rw [cq.1]; exact d1
      rw [er] at p1 cq z1'
      obtain ⟨C3, a1', a2', a3', a4', a5'⟩ := addI_C (M := C2) (s := 29) p1 lt30 k v 0 0 (d : Int)
      have i1 := it_s1 (g := eR M3 (q + 1)) (j := q) (by rw [m6]; exact hk4)
      have iq : it (eR M3 (q + 1)) q = it (eR M q) q := by omega
      have erF : rF (eR M3 (q + 1)) q = 0 := by unfold rF; rw [m6, if_neg (by omega)]
      have erL : rL (eR M3 (q + 1)) q = 0 := by unfold rL; rw [m6, if_neg (by omega), if_neg (by omega)]
      refine ⟨C3, a1', ⟨by rw [a2', i1, iq], fun i hi h4 => ?_⟩, by rw [i1, iq], fun hd => ?_, by rw [dp_s, dq, m6, if_pos (by omega), if_neg hk4]; omega, fun c hc => a5' c (by omega)⟩
      · by_cases y : i = q
        · rw [y, iq, a3', m6, m7, erF, erL, dq]
        · have ci := cc i (by omega)
          rw [Nat.zero_add, er] at ci
          obtain ⟨k0, k1, k2, k3⟩ := m5.cols (j := i) (by omega)
          rw [Nat.zero_add] at k0 k1 k2 k3
          have l := it_lt (g := eR M3 (q + 1)) (m := q) (show i < q by omega) h4
          rw [a4' _ (by omega)]
          rw [k0] at h4
          have p2i := p2 i (by omega) h4
          rw [er] at p2i k0 k1 k2 k3
          rw [show it (eR M3 (q + 1)) i = it (eR M q) i by omega, k0, k1, rF_c k0 k2, rL_c k0 k2 k3, ci.1]
          exact p2i
      · have h5' : eR M2 q 5 ≤ 12 := by rw [eR_v, if_neg (by decide), if_neg (by decide), row2']; exact h5
        have w' := cat_wf (q := 0) (t := 0) (eR_oo mr q (q + 1)) h5' m5 (dp_00 _ _) (mul_00 _ _) (by rw [Nat.zero_add]; exact w) (fun i hi => absurd hi (Nat.not_lt_zero i))
        rw [Nat.zero_add] at w'
        intro i hi
        by_cases y : i = q
        · rw [y]
          refine ⟨by omega, ?_⟩
          unfold rowOK
          rw [m6, m7, dq]
          rcases hk with w | w
          · exact Or.inr (Or.inr (Or.inl ⟨w.1, by omega, by omega, by omega⟩))
          · exact Or.inr (Or.inr (Or.inr (Or.inl ⟨w.1, by omega, by omega, by omega⟩)))
        · exact w' i (by omega)
    obtain ⟨C3, c1, c2, c3, c4, c5, c6⟩ := addC
    have rd3 : RD C3 M3 n a2 z2 := by
      have r := rd2
      unfold RD TX Tok goodT at r ⊢
      rw [c6 1 (by decide), c6 2 (by decide), m4 22 (by decide) (by decide), m3 29 (by decide), m3 30 (by decide), m3 31 (by decide), m3 32 (by decide), m3 33 (by decide), m3 34 (by decide), m3 35 (by decide)]
      exact r
    have kc3 : kEC C C3 := kc2.E.trans ⟨fun c _ h => c6 c h, fun j _ => by rw [c6 1 (by decide)]⟩
    have km3 : kEM M M3 := km2.E.trans ⟨fun c h1 h2 => m4 c h1 h2, fun j hj => m3 j (by omega)⟩
    have d42 : M3 0 42 = (d : Int) := by rw [m3 42 (by decide)]; exact ed2.2.2.2.2.2.2.2
    have t5 := rd3.1.2.2.1
    have gX : ∀ (rc : Nat → Nat → Int → Mem → Option (Int × Mem)) (R : Option (Int × Mem)), f_X2_readBlock rc 29 k 5 (d : Int) C2 = R → blkX rc k lo hi d C1 = R.bind fun (r96, M96) => if r96 = 0 then some ((0 : Int), M96) else some ((1 : Int), M96) := by
      intro rc R hR
      unfold blkX
      rw [n1, Option.bind_some]
      dsimp only
      rw [if_neg (by decide), hR]
    have gR : ∀ R, ((f_X11_isSign 123 M3).bind fun r24 => jn (fun (M35 : Mem) => (jn (fun (M48 : Mem) => (ck (inR ((M48 0 42) + 1)) <| lt (upm M48 0 42 ((M48 0 42) + 1)) fun N7 => (f_X11_goesOn N7).bind fun M59 => some M59 : Option (Mem))) fun k48 => if (M35 0 42) = 4 then (f_X11_fails 5 M35).bind fun M45 => k48 M45 else k48 M35 : Option (Mem))) fun k35 => if r24 = 0 then (f_X11_fails 1 M3).bind fun M32 => k35 M32 else k35 M3) = R → f_X11_readsBlock k lo hi M = R := by
      intro R hR
      unfold f_X11_readsBlock
      rw [e2, Option.bind_some, n2, Option.bind_some]
      dsimp only
      rw [m1, Option.bind_some]
      exact hR
    by_cases sg : C3 1 2 = 4
    · have ms2 : (M3 0 32 = 3 ∧ M3 22 a2 = 123) ∧ a2 < z2 := by
        obtain ⟨_, h1, h2, r | r | r | r | r⟩ := rd3.2.1 <;> omega
      have ms := ms2.1
      have msl := ms2.2
      by_cases dd : d = 4
      · obtain ⟨b1, b2, b3⟩ := fail_both rd3.2.2 rd3.2.1 (c := 5) (by decide)
        left
        refine ⟨upm (upm C3 1 7 5) 1 8 (C3 1 3), upm (upm (upm M3 0 34 5) 0 35 (M3 0 31)) 0 42 ((d : Int) + 1), fun rc => ?_, gR _ ?_, b42 b3, kc3.trans kNC.fail.E, (km3.trans kNM.fail.E).trans kE42⟩
        · rw [gX rc (some (0, upm (upm C3 1 7 5) 1 8 (C3 1 3))) (by
            unfold f_X2_readBlock
            rw [n3, c1, Option.bind_some, jn_eq, if_pos sg, if_neg (by omega), b1, Option.bind_some]
            dsimp only
            rw [ck_pos (Or.inl rfl)]), Option.bind_some]
          dsimp only
          rw [if_pos rfl]
        · rw [sign_g rd3.2.2.1 rd3.2.1 t5, if_pos ms, Option.bind_some, jn_eq, if_neg (by decide)]
          dsimp only
          rw [jn_eq, if_pos (by omega), b2, Option.bind_some]
          dsimp only
          have e42 : (upm (upm M3 0 34 5) 0 35 (M3 0 31)) 0 42 = (d : Int) := by rw [upm_sl (by decide), upm_sl (by decide)]; exact d42
          rw [e42, ck_pos ⟨by omega, by omega⟩, lt_eq, goes_b (by rw [upm_sl (by decide)]; exact b3.1)]; rfl
      · right
        obtain ⟨M4, hM4⟩ : ∃ M4 : Mem, M4 = upm M3 0 42 ((d : Int) + 1) := ⟨_, rfl⟩
        have rd4 : RD C3 M4 n a2 z2 := by
          have r := rd3
          unfold RD TX Tok goodT at r ⊢
          rw [hM4, upm_ne (b := 22) (by decide), upm_sl (j := 29) (by decide), upm_sl (j := 30) (by decide), upm_sl (j := 31) (by decide), upm_sl (j := 32) (by decide), upm_sl (j := 33) (by decide), upm_sl (j := 34) (by decide), upm_sl (j := 35) (by decide)]
          exact r
        have e3' : eR M4 (q + 1) = eR M3 (q + 1) := eR_c (by rw [hM4, upm_ne (by decide)]) (by rw [hM4, upm_ne (by decide)]) _
        have ed4 : ED C3 M4 (q + 1) (d + 1) 0 := by
          refine ⟨by rw [e3']; exact c2, by rw [e3']; exact c4 (by omega), by rw [e3', c5]; omega, by omega, by rw [hM4, upm_sl (by decide)]; exact m2, ?_, by rw [e3', c3]; omega, by rw [hM4, upm_hit]; omega⟩
          rw [show M4 0 41 = M3 0 41 by rw [hM4, upm_sl (by decide)], m3 41 (by decide), ed2.2.2.2.2.2.1, er, e3', c3]
        obtain ⟨C5, M5, a5, z5, f1, f2, f3, rd5, f5, f6, f7⟩ := next_both rd4
        have e5' : eR M5 (q + 1) = eR M3 (q + 1) := (eR_c (f7.1 1 (by decide)) (f7.1 23 (by decide)) _).trans e3'
        refine ⟨C5, M5, a5, z5, by omega, fun rc => gX rc (blkE rc d C5) ?_, gR _ ?_, rd5, ed4.eqv f6.N f7.N, by have := rd4.2.1.2.1; omega, by rw [e5', c3]; omega, kc3.trans f6.N.E, (km3.trans (by rw [hM4]; exact kE42)).trans f7.N.E⟩
        · have tk4 : f_X8_take 4 C3 = some (1, C5) := by
            unfold f_X8_take
            rw [if_pos sg, f1]; rfl
          unfold f_X2_readBlock blkE
          rw [n3, c1, Option.bind_some, jn_eq, if_pos sg, if_pos (by omega)]
          dsimp only
          rw [tk4, Option.bind_some]
          dsimp only
          rw [if_neg (by decide), ck_pos ⟨by omega, by omega⟩, show (d : Int) + 1 = ((d + 1 : Nat) : Int) by omega]
        · rw [sign_g rd3.2.2.1 rd3.2.1 t5, if_pos ms, Option.bind_some, jn_eq, if_neg (by decide)]
          dsimp only
          rw [jn_eq, if_neg (by omega)]
          dsimp only
          rw [d42, ck_pos ⟨by omega, by omega⟩, lt_eq, ← hM4, f3]; rfl
    · have ms : ¬ (M3 0 32 = 3 ∧ M3 22 a2 = 123) := by
        obtain ⟨_, h1, h2, r | r | r | r | r⟩ := rd3.2.1 <;> omega
      obtain ⟨b1, b2, b3⟩ := fail_both rd3.2.2 rd3.2.1 (c := 1) (by decide)
      left
      have e42 : (upm (upm M3 0 34 1) 0 35 (M3 0 31)) 0 42 = (d : Int) := by rw [upm_sl (by decide), upm_sl (by decide)]; exact d42
      refine ⟨upm (upm C3 1 7 1) 1 8 (C3 1 3), upm (upm (upm M3 0 34 1) 0 35 (M3 0 31)) 0 42 ((d : Int) + 1), fun rc => ?_, gR _ ?_, b42 b3, kc3.trans kNC.fail.E, (km3.trans kNM.fail.E).trans kE42⟩
      · have tk4 : f_X8_take 4 C3 = some (0, upm (upm C3 1 7 1) 1 8 (C3 1 3)) := by
          unfold f_X8_take
          rw [if_neg sg, b1, Option.bind_some]
          dsimp only
          rw [ck_pos (Or.inl rfl)]
        rw [gX rc (some (0, upm (upm C3 1 7 1) 1 8 (C3 1 3))) (by
          unfold f_X2_readBlock
          rw [n3, c1, Option.bind_some, jn_eq, if_neg sg]
          dsimp only
          rw [tk4, Option.bind_some]
          dsimp only
          rw [if_pos rfl]), Option.bind_some]
        dsimp only
        rw [if_pos rfl]
      · rw [sign_g rd3.2.2.1 rd3.2.1 t5, if_neg ms, Option.bind_some]
        have := badR _ b3.1 e42
        rw [jn_eq] at this ⊢
        rw [if_pos rfl, b2, Option.bind_some]
        exact this
