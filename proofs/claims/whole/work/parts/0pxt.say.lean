/-! the voice read on both sides -/
def VD (C M : Mem) (n l : Nat) : Prop :=
  (C 40 0 = (n : Int) ∧ M 0 48 = (n : Int) ∧ C 40 1 = (l : Int) ∧ M 0 47 = (l : Int) ∧ n ≤ 60) ∧
  (∀ i : Nat, i < n → ∃ f e : Nat, (C 42 i = (f : Int) ∧ M 25 i = (f : Int) ∧ C 43 i = (e : Int) ∧ M 26 i = (e : Int)) ∧ (1 ≤ e ∧ e ≤ 20) ∧ f + e ≤ l ∧ C 44 i = max 1 (vgr (fun q => M 24 (f + q)) e) ∧ C 45 i = M 27 i ∧ (M 27 i = 0 ∨ M 27 i = 1)) ∧
  (∀ i : Nat, i < l → C 41 i = M 24 i ∧ 97 ≤ M 24 i ∧ M 24 i ≤ 122) ∧
  (∀ i : Nat, i + 1 < n → M 25 (i + 1) = M 25 i + M 26 i) ∧ (0 < n → M 25 (n - 1) + M 26 (n - 1) = (l : Int))
def kVC (C C' : Mem) : Prop := (∀ c : Nat, c ≠ 1 → (c < 40 ∨ 45 < c) → C' c = C c) ∧ ∀ j : Nat, j < 2 ∨ j = 6 ∨ 8 < j → C' 1 j = C 1 j
def kVM (M M' : Mem) : Prop := (∀ c : Nat, c ≠ 0 → (c < 24 ∨ 27 < c) → M' c = M c) ∧ ∀ j : Nat, j < 30 ∨ (35 < j ∧ j ≠ 47 ∧ j ≠ 48) → M' 0 j = M 0 j
theorem kVC.trans {A B C : Mem} (h : kVC A B) (h2 : kVC B C) : kVC A C := ⟨fun c c1 c2 => (h2.1 c c1 c2).trans (h.1 c c1 c2), fun j hj => (h2.2 j hj).trans (h.2 j hj)⟩
theorem kVM.trans {A B C : Mem} (h : kVM A B) (h2 : kVM B C) : kVM A C := ⟨fun c c1 c2 => (h2.1 c c1 c2).trans (h.1 c c1 c2), fun j hj => (h2.2 j hj).trans (h.2 j hj)⟩
theorem kTC.V {A B : Mem} (h : kTC A B) : kVC A B := ⟨fun c c1 _ => h.1 c c1, fun j hj => h.2 j (by omega)⟩
theorem kTM.V {A B : Mem} (h : kTM A B) : kVM A B := ⟨fun c c1 _ => h.1 c c1, fun j hj => h.2 j (by omega)⟩
theorem kVC.fail {A : Mem} {c v : Int} : kVC A (upm (upm A 1 7 c) 1 8 v) := ⟨fun c c1 _ => by rw [upm_ne c1, upm_ne c1], fun j hj => by rw [upm_sl (by omega), upm_sl (by omega)]⟩
theorem kVM.fail {A : Mem} {c v : Int} : kVM A (upm (upm A 0 34 c) 0 35 v) := ⟨fun c c1 _ => by rw [upm_ne c1, upm_ne c1], fun j hj => by rw [upm_sl (by omega), upm_sl (by omega)]⟩
theorem VD.eqv {C M C' M' : Mem} {n l : Nat} (h : VD C M n l) (hc : kTC C C') (hm : kTM M M') : VD C' M' n l := by
  unfold VD at h ⊢
  rw [hc.1 40 (by decide), hc.1 41 (by decide), hc.1 42 (by decide), hc.1 43 (by decide), hc.1 44 (by decide), hc.1 45 (by decide), hm.1 24 (by decide), hm.1 25 (by decide), hm.1 26 (by decide), hm.1 27 (by decide), hm.2 47 (by omega), hm.2 48 (by omega)]
  exact h
theorem L_rw87 {M0 : Mem} {n a z l w : Nat} (tx : M0 0 29 = (n : Int)) (h5 : n ≤ 500) (hz : z ≤ n) (h30 : M0 0 30 = (z : Int)) (h48 : M0 0 48 = (w : Int)) (hw : w < 60) (hl : l ≤ a) : ∀ (k x m : Nat) (M : Mem), x + k = z → a ≤ x → k < m → (∀ c : Nat, c ≠ 0 → c ≠ 24 → M c = M0 c) → (∀ j : Nat, j ≠ 47 → M 0 j = M0 0 j) → M 0 47 = ((l + (x - a) : Nat) : Int) → (∀ i : Nat, M 24 i = if l ≤ i ∧ i < l + (x - a) then M0 22 (a + (i - l)) else M0 24 i) →
    ∃ M' : Mem, f_X11_readsWord_L87 m (x : Int) M = (f_X11_scans M').bind (fun M137 => some M137) ∧ (∀ c : Nat, c ≠ 0 → c ≠ 24 → M' c = M0 c) ∧ (∀ j : Nat, j ≠ 47 → j ≠ 48 → M' 0 j = M0 0 j) ∧ M' 0 47 = ((l + (z - a) : Nat) : Int) ∧ M' 0 48 = ((w + 1 : Nat) : Int) ∧ ∀ i : Nat, M' 24 i = if l ≤ i ∧ i < l + (z - a) then M0 22 (a + (i - l)) else M0 24 i := by
  intro k
  induction k with
  | zero =>
    intro x m M hx hax hm f0 f1 f2 f3
    obtain ⟨m, rfl⟩ := nat_ex hm
    obtain rfl : x = z := by omega
    refine ⟨upm M 0 48 ((w : Int) + 1), ?_, fun c c1 c2 => by rw [upm_ne c1]; exact f0 c c1 c2, fun j j1 j2 => by rw [upm_sl j2]; exact f1 j j1, by rw [upm_sl (by decide)]; exact f2, by rw [upm_hit]; omega, fun i => by rw [upm_ne (by decide)]; exact f3 i⟩
    rw [f_X11_readsWord_L87, f1 30 (by decide), h30, if_pos (by omega), f1 48 (by decide), h48, ck_pos ⟨by omega, by omega⟩, lt_eq]
  | succ k ih =>
    intro x m M hx hax hm f0 f1 f2 f3
    obtain ⟨m, rfl⟩ := nat_ex hm
    obtain ⟨M', e1, e2⟩ := ih (x + 1) m (upm (upm M 24 (l + (x - a)) (M0 22 x)) 0 47 (((l + (x - a) : Nat) : Int) + 1)) (by omega) (by omega) (by omega) (fun c c1 c2 => by rw [upm_ne c1, upm_ne c2]; exact f0 c c1 c2) (fun j j1 => by rw [upm_sl j1, upm_ne (by decide)]; exact f1 j j1) (by rw [upm_hit]; omega) (fun i => by
      rw [upm_ne (by decide), upm_row, updr_ap, f3 i]
      by_cases y : i = l + (x - a)
      · rw [if_pos y, if_pos (by omega)]; congr 1; omega
      · rw [if_neg y]
        by_cases u : l ≤ i ∧ i < l + (x - a)
        · rw [if_pos u, if_pos (by omega)]
        · rw [if_neg u, if_neg (by omega)])
    refine ⟨M', ?_, e2⟩
    rw [f_X11_readsWord_L87, f1 30 (by decide), h30, if_neg (by omega), ck_pos ⟨by omega, by omega⟩, f2, ck_pos ⟨by omega, by omega⟩, lt_eq, ck_pos ⟨by omega, by omega⟩, lt_eq, ck_pos ⟨by omega, by omega⟩, Int.toNat_natCast, Int.toNat_natCast, f0 22 (by decide) (by decide), show (x : Int) + 1 = ((x + 1 : Nat) : Int) by omega]
    exact e1
/-- between two tokens of a voice -/
def VSt (C0 M0 C M : Mem) (nT n l a z : Nat) : Prop := TX C M nT ∧ Tok C M nT a z ∧ VD C M n l ∧ l ≤ a ∧ goodT C M ∧ kVC C0 C ∧ kVM M0 M
/-- a word read -/
theorem word_both {C0 M0 C M : Mem} {nT n l a z : Nat} (h : VSt C0 M0 C M nT n l a z) (k1 : C 1 2 = 1) : (∃ C' M' : Mem, f_X9_readWord 29 C = some (0, C') ∧ f_X11_readsWord M = some M' ∧ badT C' M' ∧ kVC C0 C' ∧ kVM M0 M') ∨
    ∃ (C' M' : Mem) (a' z' : Nat), f_X9_readWord 29 C = some (1, C') ∧ f_X11_readsWord M = some M' ∧ VSt C0 M0 C' M' nT (n + 1) (l + (z - a)) a' z' ∧ z ≤ a' ∧ a < z := by
  obtain ⟨tx, tk, vd, la, gd, kc, km⟩ := h
  have t5 := tx.2.2.1
  obtain ⟨⟨s1, s2, s3, s4⟩, az, zn, kinds⟩ := id tk
  have kw : a < z ∧ ∀ i : Nat, a ≤ i → i < z → 97 ≤ M 22 i ∧ M 22 i ≤ 122 := by
    rcases kinds with q | q | q | q | q
    · omega
    · exact ⟨q.2.2.1, q.2.2.2⟩
    · omega
    · omega
    · omega
  obtain ⟨⟨d1, d2, d3, d4, d5⟩, dw, dl, dc, de⟩ := id vd
  have sz : f_X8_size C = some (((z - a : Nat)) : Int) := by
    unfold f_X8_size
    rw [s1, s2, ck_pos ⟨by omega, by omega⟩, show (z : Int) - (a : Int) = ((z - a : Nat) : Int) by omega]
  by_cases c20 : z - a ≤ 20
  · by_cases c60 : n = 60
    · obtain ⟨b1, b2, b3⟩ := fail_both gd tk (c := 4) (by decide)
      refine Or.inl ⟨_, _, ?_, ?_, b3, kc.trans kVC.fail, km.trans kVM.fail⟩
      · unfold f_X9_readWord
        rw [sz, Option.bind_some, if_pos (by omega), show C (29 + 11) 0 = (n : Int) from d1, if_pos (by omega), b1, Option.bind_some]
        dsimp only
        rw [ck_pos (Or.inl rfl)]
      · unfold f_X11_readsWord
        rw [s3, s4, ck_pos ⟨by omega, by omega⟩, jn_eq, if_pos (by omega)]
        dsimp only
        rw [jn_eq, if_pos (by omega), b2, Option.bind_some]
        dsimp only
        rw [good_0 b3.1, Option.bind_some, if_pos rfl, s3]
    · right
      obtain ⟨C1, hC1⟩ : ∃ C1 : Mem, C1 = cpm C 2 a (29 + 12) l (z - a) := ⟨_, rfl⟩
      obtain ⟨C2, hC2⟩ : ∃ C2 : Mem, C2 = upm (upm (upm C1 (29 + 13) n (l : Int)) (29 + 14) n ((z - a : Nat) : Int)) (29 + 16) n 0 := ⟨_, rfl⟩
      have l41 : ∀ i : Nat, C2 41 i = if l ≤ i ∧ i < l + (z - a) then M 22 (a + (i - l)) else C 41 i := by
        intro i
        rw [hC2, upm_ne (by decide), upm_ne (by decide), upm_ne (by decide), hC1, cpm_at, if_pos rfl, cpr_ap]
        by_cases y : l ≤ i ∧ i < l + (z - a)
        · rw [if_pos y, if_pos y, (tx.2.2.2 _ (by omega)).2]
          have := kw.2 (a + (i - l)) (by omega) (by omega)
          unfold sx; rw [if_pos (by omega)]
        · rw [if_neg y, if_neg y]
      have sy := sylC (M := C2) (s := 29) (f := l) (e := z - a) (by omega)
      obtain ⟨v, hv⟩ : ∃ v : Int, v = max 1 (vgr (fun q => C2 (29 + 12) (l + q)) (z - a)) := ⟨_, rfl⟩
      rw [← hv] at sy
      obtain ⟨C3, hC3⟩ : ∃ C3 : Mem, C3 = upm (upm (upm C2 (29 + 15) n v) (29 + 11) 1 ((l : Int) + ((z - a : Nat) : Int))) (29 + 11) 0 ((n : Int) + 1) := ⟨_, rfl⟩
      obtain ⟨M1, hM1⟩ : ∃ M1 : Mem, M1 = upm (upm (upm M 25 n (l : Int)) 26 n ((z - a : Nat) : Int)) 27 n 0 := ⟨_, rfl⟩
      have g1 : ∀ c : Nat, c < 25 ∨ 27 < c → M1 c = M c := fun c hc => by rw [hM1, upm_ne (by omega), upm_ne (by omega), upm_ne (by omega)]
      obtain ⟨M2, r1, r2, r3, r4, r5, r6⟩ := L_rw87 (M0 := M1) (n := nT) (a := a) (z := z) (l := l) (w := n) (by rw [g1 0 (by omega)]; exact tx.2.1) t5 zn (by rw [g1 0 (by omega)]; exact s4) (by rw [g1 0 (by omega)]; exact d2) (by omega) la (z - a) a jFuel M1 (by omega) (Nat.le_refl _) (jF (by omega)) (fun _ _ _ => rfl) (fun _ _ => rfl) (by rw [g1 0 (by omega), d4]; omega) (fun i => by rw [if_neg (by omega)])
      have f3 : ∀ c : Nat, c < 40 ∨ 45 < c → C3 c = C c := fun c hc => by
        rw [hC3, hC2, hC1]
        simp (disch := omega) only [upm_ne, cpm_ne]
      have f2m : ∀ c : Nat, c ≠ 0 → (c < 24 ∨ 27 < c) → M2 c = M c := fun c c1 c2 => by rw [r2 c c1 (by omega), g1 c (by omega)]
      have f2m0 : ∀ j : Nat, j ≠ 47 → j ≠ 48 → M2 0 j = M 0 j := fun j j1 j2 => by rw [r3 j j1 j2, g1 0 (by omega)]
      have tx3 : TX C3 M2 nT := by
        unfold TX at tx ⊢
        rw [f3 1 (by omega), f3 2 (by omega), f2m0 29 (by decide) (by decide), f2m 22 (by decide) (by omega)]; exact tx
      obtain ⟨a', z', C4, M4, e1, e2, e3, e4, e5, e6⟩ := adv_both (p := z) tx3 zn (by rw [f3 1 (by omega)]; exact s2) (by rw [f2m0 30 (by decide) (by decide)]; exact s4)
      refine ⟨C4, M4, a', z', ?_, ?_, ⟨tx3.eqv e5 e6, e4, ?_, by omega, ?_, ?_, ?_⟩, e1, kw.1⟩
      · unfold f_X9_readWord
        rw [sz, Option.bind_some, if_pos (by omega), show C (29 + 11) 0 = (n : Int) from d1, if_neg (by omega), show C (29 + 11) 1 = (l : Int) from d3, ck_pos ⟨by omega, by omega⟩, if_pos (by omega), s1, ck_pos ⟨by omega, by omega, by omega, by omega, by omega⟩, Int.toNat_natCast, Int.toNat_natCast, Int.toNat_natCast, lt_eq, ← hC1, ck_pos ⟨by omega, by omega⟩, Int.toNat_natCast, lt_eq, lt_eq, show bar1 0 = 0 by decide, lt_eq, ← hC2, sy, Option.bind_some, lt_eq, ck_pos ⟨by omega, by omega⟩, lt_eq, ck_pos ⟨by omega, by omega⟩, lt_eq, ← hC3, e2]
        rfl
      · unfold f_X11_readsWord
        rw [s3, s4, ck_pos ⟨by omega, by omega⟩, jn_eq, if_pos (by omega)]
        dsimp only
        rw [jn_eq, d2, if_neg (by omega)]
        dsimp only
        rw [good_1 gd.1, Option.bind_some, if_neg (by decide), d2, s3, s4, d4, ck_pos ⟨by omega, by omega⟩, Int.toNat_natCast, lt_eq, ck_pos ⟨by omega, by omega⟩, lt_eq, lt_eq, show (z : Int) - (a : Int) = ((z - a : Nat) : Int) by omega, ← hM1, r1, e3]
        rfl
      · refine VD.eqv ?_ e5 e6
        have h40 : C3 40 0 = ((n + 1 : Nat) : Int) := by rw [hC3, upm_hit]; omega
        have h401 : C3 40 1 = ((l + (z - a) : Nat) : Int) := by rw [hC3, upm_sl (by decide), upm_hit]; omega
        have h41 : ∀ i : Nat, C3 41 i = if l ≤ i ∧ i < l + (z - a) then M 22 (a + (i - l)) else C 41 i := fun i => by
          rw [hC3, upm_ne (by decide), upm_ne (by decide), upm_ne (by decide)]; exact l41 i
        have h24 : ∀ i : Nat, M2 24 i = if l ≤ i ∧ i < l + (z - a) then M 22 (a + (i - l)) else M 24 i := fun i => by
          rw [r6, g1 22 (by omega), g1 24 (by omega)]
        have h42 : ∀ i : Nat, C3 42 i = if i = n then (l : Int) else C 42 i := fun i => by
          rw [hC3, hC2, hC1]
          simp (disch := omega) only [upm_ne, cpm_ne]
          rw [upm_row, updr_ap]
          simp (disch := omega) only [cpm_ne]
        have h43 : ∀ i : Nat, C3 43 i = if i = n then ((z - a : Nat) : Int) else C 43 i := fun i => by
          rw [hC3, hC2, hC1]
          simp (disch := omega) only [upm_ne, cpm_ne]
          rw [upm_row, updr_ap]
          simp (disch := omega) only [upm_ne, cpm_ne]
        have h44 : ∀ i : Nat, C3 44 i = if i = n then v else C 44 i := fun i => by
          rw [hC3, hC2, hC1]
          simp (disch := omega) only [upm_ne, cpm_ne]
          rw [upm_row, updr_ap]
          simp (disch := omega) only [upm_ne, cpm_ne]
        have h45 : ∀ i : Nat, C3 45 i = if i = n then 0 else C 45 i := fun i => by
          rw [hC3, hC2, hC1]
          simp (disch := omega) only [upm_ne, cpm_ne]
          rw [upm_row, updr_ap]
          simp (disch := omega) only [upm_ne, cpm_ne]
        have k25 : ∀ i : Nat, M2 25 i = if i = n then (l : Int) else M 25 i := fun i => by
          rw [r2 25 (by decide) (by decide), hM1, upm_ne (by decide), upm_ne (by decide), upm_row, updr_ap]
        have k26 : ∀ i : Nat, M2 26 i = if i = n then ((z - a : Nat) : Int) else M 26 i := fun i => by
          rw [r2 26 (by decide) (by decide), hM1, upm_ne (by decide), upm_row, updr_ap, upm_ne (by decide)]
        have k27 : ∀ i : Nat, M2 27 i = if i = n then 0 else M 27 i := fun i => by
          rw [r2 27 (by decide) (by decide), hM1, upm_row, updr_ap, upm_ne (by decide), upm_ne (by decide)]
        refine ⟨⟨h40, r5, h401, r4, by omega⟩, fun i hi => ?_, fun i hi => ?_, fun i hi => ?_, fun _ => ?_⟩
        · by_cases y : i = n
          · refine ⟨l, z - a, ⟨by rw [h42, if_pos y], by rw [k25, if_pos y], by rw [h43, if_pos y], by rw [k26, if_pos y]⟩, by omega, Nat.le_refl _, ?_, by rw [h45, k27, if_pos y, if_pos y], Or.inl (by rw [k27, if_pos y])⟩
            have ev : vgr (fun q => C2 (29 + 12) (l + q)) (z - a) = vgr (fun q => M2 24 (l + q)) (z - a) := vgr_c _ (fun q hq => by
              rw [show (29 + 12 : Nat) = 41 from rfl, l41, h24, if_pos (by omega), if_pos (by omega)])
            rw [h44, if_pos y, hv, ev]
          · obtain ⟨f, e, ⟨q1, q2, q3, q4⟩, q5, q6, q7, q8, q9⟩ := dw i (by omega)
            refine ⟨f, e, ⟨by rw [h42, if_neg y, q1], by rw [k25, if_neg y, q2], by rw [h43, if_neg y, q3], by rw [k26, if_neg y, q4]⟩, q5, by omega, ?_, by rw [h45, k27, if_neg y, if_neg y]; exact q8, by rw [k27, if_neg y]; exact q9⟩
            have ev : vgr (fun q => M2 24 (f + q)) e = vgr (fun q => M 24 (f + q)) e := vgr_c _ (fun q hq => by
              rw [h24, if_neg (by omega)])
            rw [h44, if_neg y, q7, ev]
        · rw [h41, h24]
          by_cases y : l ≤ i ∧ i < l + (z - a)
          · rw [if_pos y, if_pos y]
            exact ⟨rfl, kw.2 (a + (i - l)) (by omega) (by omega)⟩
          · rw [if_neg y, if_neg y]
            exact dl i (by omega)
        · rw [k25, k25, k26]
          by_cases y : i + 1 = n
          · rw [if_pos y, if_neg (by omega), if_neg (by omega)]
            have := de (by omega)
            rw [show n - 1 = i by omega] at this
            exact this.symm
          · rw [if_neg y, if_neg (by omega), if_neg (by omega)]
            exact dc i (by omega)
        · rw [show n + 1 - 1 = n by omega, k25, k26, if_pos rfl, if_pos rfl]; omega
      · refine goodT.eqv ?_ e5 e6
        unfold goodT at gd ⊢
        rw [f2m0 34 (by decide) (by decide), f2m0 35 (by decide) (by decide), f3 1 (by omega)]; exact gd
      · refine (kc.trans ?_).trans e5.V
        exact ⟨fun c _ c2 => f3 c c2, fun j _ => by rw [f3 1 (by omega)]⟩
      · refine (km.trans ?_).trans e6.V
        exact ⟨fun c c1 c2 => f2m c c1 c2, fun j hj => f2m0 j (by omega) (by omega)⟩
  · obtain ⟨b1, b2, b3⟩ := fail_both gd tk (c := 2) (by decide)
    refine Or.inl ⟨_, _, ?_, ?_, b3, kc.trans kVC.fail, km.trans kVM.fail⟩
    · unfold f_X9_readWord
      rw [sz, Option.bind_some, if_neg (by omega), b1, Option.bind_some]
      dsimp only
      rw [ck_pos (Or.inl rfl)]
    · unfold f_X11_readsWord
      rw [s3, s4, ck_pos ⟨by omega, by omega⟩, jn_eq, if_neg (by omega), b2, Option.bind_some]
      dsimp only
      rw [jn_eq]
      have e48 : (upm (upm M 0 34 2) 0 35 (M 0 31)) 0 48 = (n : Int) := by rw [upm_sl (by decide), upm_sl (by decide)]; exact d2
      rw [e48]
      by_cases c60 : n = 60
      · rw [if_pos (by omega), fails_b b3.1, Option.bind_some]
        dsimp only
        rw [good_0 b3.1, Option.bind_some, if_pos rfl, s3]
      · rw [if_neg (by omega)]
        dsimp only
        rw [good_0 b3.1, Option.bind_some, if_pos rfl, s3]
