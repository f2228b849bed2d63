/-! good and bad texts -/
def goodT (C M : Mem) : Prop := M 0 34 = 0 ∧ M 0 35 = -1 ∧ C 1 7 = 0 ∧ C 1 8 = -1
def badT (C M : Mem) : Prop := M 0 34 ≠ 0 ∧ C 1 7 = M 0 34 ∧ C 1 8 = M 0 35
theorem good_1 {M : Mem} (h : M 0 34 = 0) : f_X11_isGood M = some 1 := by unfold f_X11_isGood; rw [if_pos h]
theorem good_0 {M : Mem} (h : M 0 34 ≠ 0) : f_X11_isGood M = some 0 := by unfold f_X11_isGood; rw [if_neg h]
theorem fails_g {M : Mem} (h : M 0 34 = 0) (c : Int) : f_X11_fails c M = some (upm (upm M 0 34 c) 0 35 (M 0 31)) := by
  unfold f_X11_fails; rw [if_pos h, lt_eq, lt_eq]
theorem fails_b {M : Mem} (h : M 0 34 ≠ 0) (c : Int) : f_X11_fails c M = some M := by
  unfold f_X11_fails; rw [if_neg h]
theorem goes_b {M : Mem} (h : M 0 34 ≠ 0) : f_X11_goesOn M = some M := by
  unfold f_X11_goesOn; rw [good_0 h, Option.bind_some, if_pos rfl]
theorem goes_g {M M' : Mem} (h : M 0 34 = 0) (e : f_X11_scans M = some M') : f_X11_goesOn M = some M' := by
  unfold f_X11_goesOn; rw [good_1 h, Option.bind_some, if_neg (by decide), e]; rfl
theorem sign_b {M : Mem} (h : M 0 34 ≠ 0) (x : Int) : f_X11_isSign x M = some 0 := by
  unfold f_X11_isSign; rw [good_0 h, Option.bind_some, if_pos rfl]
theorem Tok.a5 {C M : Mem} {n a z : Nat} (t : Tok C M n a z) (h5 : n ≤ 500) (h3 : M 0 32 = 3) : a < 500 := by
  obtain ⟨_, h1, h2, h | h | h | h | h⟩ := t <;> omega
theorem sign_g {C M : Mem} {n a z : Nat} (h : M 0 34 = 0) (t : Tok C M n a z) (h5 : n ≤ 500) (x : Int) : f_X11_isSign x M = some (if M 0 32 = 3 ∧ M 22 a = x then 1 else 0) := by
  unfold f_X11_isSign
  rw [good_1 h, Option.bind_some, if_neg (by decide), t.1.2.2.1]
  by_cases c : M 0 32 = 3
  · have := t.a5 h5 c
    rw [if_pos c, ck_pos ⟨by omega, by omega⟩, Int.toNat_natCast]
    by_cases d : M 22 a = x
    · rw [if_pos d, if_pos ⟨c, d⟩]
    · rw [if_neg d, if_neg (fun q => d q.2)]
  · rw [if_neg c, if_neg (fun q => c q.1)]
theorem need_b {M : Mem} (h : M 0 34 ≠ 0) (x : Int) : f_X11_needsSign x M = some M := by
  unfold f_X11_needsSign
  rw [sign_b h, Option.bind_some, if_pos rfl, fails_b h, Option.bind_some, goes_b h]; rfl
theorem need_no {C M : Mem} {n a z : Nat} (h : M 0 34 = 0) (t : Tok C M n a z) (h5 : n ≤ 500) {x : Int} (hx : ¬ (M 0 32 = 3 ∧ M 22 a = x)) : f_X11_needsSign x M = some (upm (upm M 0 34 1) 0 35 (M 0 31)) := by
  unfold f_X11_needsSign
  rw [sign_g h t h5, if_neg hx, Option.bind_some, if_pos rfl, fails_g h, Option.bind_some, goes_b (by rw [upm_sl (by decide), upm_hit]; decide)]; rfl
theorem need_yes {C M M' : Mem} {n a z : Nat} (h : M 0 34 = 0) (t : Tok C M n a z) (h5 : n ≤ 500) {x : Int} (hx : M 0 32 = 3 ∧ M 22 a = x) (e : f_X11_scans M = some M') : f_X11_needsSign x M = some M' := by
  unfold f_X11_needsSign
  rw [sign_g h t h5, if_pos hx, Option.bind_some, if_neg (by decide), goes_g h e]; rfl
/-- both fail at the token -/
theorem fail_both {C M : Mem} {n a z : Nat} (g : goodT C M) (t : Tok C M n a z) {c : Int} (hc : c ≠ 0) : f_X8_fail c C = some (0, upm (upm C 1 7 c) 1 8 (C 1 3)) ∧ f_X11_fails c M = some (upm (upm M 0 34 c) 0 35 (M 0 31)) ∧ badT (upm (upm C 1 7 c) 1 8 (C 1 3)) (upm (upm M 0 34 c) 0 35 (M 0 31)) := by
  refine ⟨by unfold f_X8_fail; rw [lt_eq, lt_eq], fails_g g.1 c, ?_, ?_, ?_⟩
  · rw [upm_sl (by decide), upm_hit]; exact hc
  · rw [upm_sl (by decide), upm_hit, upm_sl (by decide), upm_hit]
  · rw [upm_hit, upm_hit, t.1.1, t.1.2.2.1]
/-- the start of reading -/
theorem start_both {C M : Mem} {n : Nat} (tx : TX C M n) : ∃ (a z : Nat) (C' M' : Mem), f_X8_startReading C = some C' ∧ f_X11_beginsText M = some M' ∧ Tok C' M' n a z ∧ TX C' M' n ∧ goodT C' M' ∧ (∀ c : Nat, c ≠ 1 → C' c = C c) ∧ (∀ j : Nat, j < 2 ∨ j = 6 ∨ 8 < j → C' 1 j = C 1 j) ∧ (∀ c : Nat, c ≠ 0 → M' c = M c) ∧ (∀ j : Nat, j < 30 ∨ 35 < j → M' 0 j = M 0 j) := by
  obtain ⟨C1, hC1⟩ : ∃ C1 : Mem, C1 = upm (upm (upm C 1 4 0) 1 7 0) 1 8 (-1) := ⟨_, rfl⟩
  obtain ⟨M1, hM1⟩ : ∃ M1 : Mem, M1 = upm (upm (upm M 0 30 0) 0 34 0) 0 35 (-1) := ⟨_, rfl⟩
  have fC : ∀ c : Nat, c ≠ 1 → C1 c = C c := fun c hc => by rw [hC1, upm_ne hc, upm_ne hc, upm_ne hc]
  have fM : ∀ c : Nat, c ≠ 0 → M1 c = M c := fun c hc => by rw [hM1, upm_ne hc, upm_ne hc, upm_ne hc]
  have tx1 : TX C1 M1 n := by
    unfold TX at tx ⊢
    rw [fM 22 (by decide), fC 2 (by decide), hC1, hM1, upm_sl (by decide), upm_sl (by decide), upm_sl (by decide), upm_sl (by decide), upm_sl (by decide), upm_sl (by decide)]; exact tx
  obtain ⟨a, z, C', M', e1, e2, e3, e4, e5, e6⟩ := adv_both (p := 0) tx1 (Nat.zero_le _) (by rw [hC1, upm_sl (by decide), upm_sl (by decide), upm_hit]; rfl) (by rw [hM1, upm_sl (by decide), upm_sl (by decide), upm_hit]; rfl)
  refine ⟨a, z, C', M', ?_, ?_, e4, tx1.eqv e5 e6, ⟨?_, ?_, ?_, ?_⟩, fun c hc => (e5.1 c hc).trans (fC c hc), fun j hj => ?_, fun c hc => (e6.1 c hc).trans (fM c hc), fun j hj => ?_⟩
  · unfold f_X8_startReading
    rw [lt_eq, lt_eq, lt_eq, ← hC1, e2]; rfl
  · unfold f_X11_beginsText
    rw [lt_eq, lt_eq, lt_eq, ← hM1, e3]; rfl
  · rw [e6.2 34 (by omega), hM1, upm_sl (by decide), upm_hit]
  · rw [e6.2 35 (by omega), hM1, upm_hit]
  · rw [e5.2 7 (by omega), hC1, upm_sl (by decide), upm_hit]
  · rw [e5.2 8 (by omega), hC1, upm_hit]
  · rw [e5.2 j (by omega), hC1, upm_sl (by omega), upm_sl (by omega), upm_sl (by omega)]
  · rw [e6.2 j (by omega), hM1, upm_sl (by omega), upm_sl (by omega), upm_sl (by omega)]
theorem goodT.eqv {C M C' M' : Mem} (h : goodT C M) (kc : kTC C C') (km : kTM M M') : goodT C' M' := by
  unfold goodT at h ⊢
  rw [km.2 34 (by omega), km.2 35 (by omega), kc.2 7 (by omega), kc.2 8 (by omega)]; exact h
theorem ends_R (M : Mem) : f_X11_endsText M = some (upm (upm (upm M 0 29 0) 0 36 (M 0 34)) 0 37 (M 0 35)) := by
  unfold f_X11_endsText; rw [lt_eq, lt_eq, lt_eq]
/-- the syllables, by the class -/
theorem vowC (v : Int) (M : Mem) : f_X9_isVowel v M = some (vow v) := by
  unfold f_X9_isVowel vow
  repeat' split
  all_goals rfl
theorem L_sylC {M : Mem} {s f e : Nat} (hfe : f + e ≤ 500) : ∀ (k j n : Nat), j + k = e → k < n → f_X9_syllablesOf_L8 s (f : Int) (e : Int) M n (vgr (fun q => M (s + 12) (f + q)) j) (if j = 0 then 0 else vow (M (s + 12) (f + (j - 1)))) ((f + j : Nat) : Int) = some (max (vgr (fun q => M (s + 12) (f + q)) e) 1) := by
  intro k
  induction k with
  | zero =>
    intro j n hj hn
    obtain ⟨n, rfl⟩ := nat_ex hn
    rw [f_X9_syllablesOf_L8, ck_pos ⟨by omega, by omega⟩, if_pos (by omega), show e = j by omega]
  | succ k ih =>
    intro j n hj hn
    obtain ⟨n, rfl⟩ := nat_ex hn
    have hv := vgr_b (fun q => M (s + 12) (f + q)) j
    have e' := ih (j + 1) n (by omega) (by omega)
    rw [if_neg (by omega), Nat.add_sub_cancel] at e'
    have sv : vgr (fun q => M (s + 12) (f + q)) (j + 1) = vgr (fun q => M (s + 12) (f + q)) j + (if vow (M (s + 12) (f + j)) = 1 ∧ (j = 0 ∨ vow (M (s + 12) (f + (j - 1))) = 0) then 1 else 0) := rfl
    rw [f_X9_syllablesOf_L8, ck_pos ⟨by omega, by omega⟩, if_neg (by omega), ck_pos ⟨by omega, by omega⟩, Int.toNat_natCast, vowC, Option.bind_some, show ((f + j : Nat) : Int) + 1 = ((f + (j + 1) : Nat) : Int) by omega, ck_pos ⟨by omega, by omega⟩]
    by_cases c : vow (M (s + 12) (f + j)) = 0
    · rw [if_neg (by omega)] at sv
      rw [if_pos c]
      rw [sv, Int.add_zero] at e'
      exact e'
    · have c1 : vow (M (s + 12) (f + j)) = 1 := (vow_b _).resolve_left c
      rw [if_neg c]
      by_cases z : j = 0
      · rw [if_pos ⟨c1, Or.inl z⟩] at sv
        rw [if_pos z, if_pos rfl, ck_pos ⟨by omega, by omega⟩, ← sv, ck_pos ⟨by omega, by omega⟩]
        exact e'
      · rw [if_neg z]
        by_cases d : vow (M (s + 12) (f + (j - 1))) = 0
        · rw [if_pos ⟨c1, Or.inr d⟩] at sv
          rw [if_pos d, ck_pos ⟨by omega, by omega⟩, ← sv, ck_pos ⟨by omega, by omega⟩]
          exact e'
        · rw [if_neg (by omega)] at sv
          rw [if_neg d]
          rw [sv, Int.add_zero] at e'
          exact e'
theorem sylC {M : Mem} {s f e : Nat} (hfe : f + e ≤ 500) : f_X9_syllablesOf s (f : Int) (e : Int) M = some (max 1 (vgr (fun q => M (s + 12) (f + q)) e)) := by
  have := L_sylC (M := M) (s := s) hfe e 0 jFuel (by omega) (jF (by omega))
  unfold f_X9_syllablesOf
  rw [Int.max_comm]
  exact this
