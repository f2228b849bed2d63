/-! words, numbers and signs asked for, on both sides -/
def kNC (C C' : Mem) : Prop := (∀ c : Nat, c ≠ 1 → C' c = C c) ∧ ∀ j : Nat, j < 2 ∨ 8 < j → C' 1 j = C 1 j
def kNM (M M' : Mem) : Prop := (∀ c : Nat, c ≠ 0 → M' c = M c) ∧ ∀ j : Nat, j < 30 ∨ 35 < j → M' 0 j = M 0 j
theorem kNC.trans {A B C : Mem} (h : kNC A B) (h2 : kNC B C) : kNC A C := ⟨fun c hc => (h2.1 c hc).trans (h.1 c hc), fun j hj => (h2.2 j hj).trans (h.2 j hj)⟩
theorem kNM.trans {A B C : Mem} (h : kNM A B) (h2 : kNM B C) : kNM A C := ⟨fun c hc => (h2.1 c hc).trans (h.1 c hc), fun j hj => (h2.2 j hj).trans (h.2 j hj)⟩
theorem kNC.rfl {A : Mem} : kNC A A := ⟨fun _ _ => _root_.rfl, fun _ _ => _root_.rfl⟩
theorem kNM.rfl {A : Mem} : kNM A A := ⟨fun _ _ => _root_.rfl, fun _ _ => _root_.rfl⟩
theorem kTC.N {A B : Mem} (h : kTC A B) : kNC A B := ⟨h.1, fun j hj => h.2 j (by omega)⟩
theorem kTM.N {A B : Mem} (h : kTM A B) : kNM A B := ⟨h.1, fun j hj => h.2 j (by omega)⟩
theorem kNC.fail {A : Mem} {c v : Int} : kNC A (upm (upm A 1 7 c) 1 8 v) := ⟨fun c c1 => by rw [upm_ne c1, upm_ne c1], fun j hj => by rw [upm_sl (by omega), upm_sl (by omega)]⟩
theorem kNM.fail {A : Mem} {c v : Int} : kNM A (upm (upm A 0 34 c) 0 35 v) := ⟨fun c c1 => by rw [upm_ne c1, upm_ne c1], fun j hj => by rw [upm_sl (by omega), upm_sl (by omega)]⟩
/-- reading goes well: the texts, the token, no error -/
def RD (C M : Mem) (n a z : Nat) : Prop := TX C M n ∧ Tok C M n a z ∧ goodT C M
theorem L_isW {C M : Mem} {n a z : Nat} (tx : TX C M n) (tk : Tok C M n a z) (hk : a < z ∧ ∀ i : Nat, a ≤ i → i < z → 97 ≤ M 22 i ∧ M 22 i ≤ 122) {w : Nat} (hw : z - a = lenST.getD w 0) : ∀ (k j nC nR : Nat), j + k = lenST.getD w 0 → k < nC → k + 1 < nR → ∃ v : Int, (v = 0 ∨ v = 1) ∧ f_X8_isWord_L23 w C nC (j : Int) = some v ∧ f_X11_isWord_L39 w M nR 1 (j : Int) = some v := by
  have t5 := tx.2.2.1
  have z5 := tk.2.2.1
  intro k
  induction k with
  | zero =>
    intro j nC nR hj hC hR
    obtain ⟨nC, rfl⟩ := nat_ex hC
    obtain ⟨nR, rfl⟩ := nat_ex hR
    refine ⟨1, Or.inr rfl, ?_, ?_⟩
    · rw [f_X8_isWord_L23, if_pos (by omega)]
    · rw [f_X11_isWord_L39, if_neg (by decide), if_pos (by omega), ck_pos (Or.inr rfl)]
  | succ k ih =>
    intro j nC nR hj hC hR
    obtain ⟨nC, rfl⟩ := nat_ex hC
    obtain ⟨nR, rfl⟩ := nat_ex hR
    obtain ⟨v, v0, e1, e2⟩ := ih (j + 1) nC nR (by omega) (by omega) (by omega)
    have tb := (tx.2.2.2 (a + j) (by omega)).2
    have lb := hk.2 (a + j) (by omega) (by omega)
    have sb : sx (M 22 (a + j)) = M 22 (a + j) := by unfold sx; rw [if_pos (by omega)]
    have gC : f_X8_isWord_L23 w C (nC + 1) (j : Int) = if M 22 (a + j) = chST w j then f_X8_isWord_L23 w C nC ((j + 1 : Nat) : Int) else some 0 := by
      rw [f_X8_isWord_L23, if_neg (by omega), tk.1.1, ck_pos ⟨by omega, by omega⟩, ck_pos ⟨by omega, by omega⟩, ck_pos ⟨by omega, by omega⟩, show ((a : Int) + (j : Int)).toNat = a + j by omega, Int.toNat_natCast, tb, sb, ck_pos ⟨by omega, by omega⟩, show (j : Int) + 1 = ((j + 1 : Nat) : Int) by omega]
    have gR : f_X11_isWord_L39 w M (nR + 1) 1 (j : Int) = if M 22 (a + j) = chST w j then f_X11_isWord_L39 w M nR 1 ((j + 1 : Nat) : Int) else f_X11_isWord_L39 w M nR 0 ((j + 1 : Nat) : Int) := by
      rw [f_X11_isWord_L39, if_neg (by decide), if_neg (by omega), tk.1.2.2.1, ck_pos ⟨by omega, by omega⟩, ck_pos ⟨by omega, by omega⟩, ck_pos ⟨by omega, by omega⟩, show ((a : Int) + (j : Int)).toNat = a + j by omega, Int.toNat_natCast, ck_pos ⟨by omega, by omega⟩, ck_pos ⟨by omega, by omega⟩, show (j : Int) + 1 = ((j + 1 : Nat) : Int) by omega]
    rw [gC, gR]
    by_cases c : M 22 (a + j) = chST w j
    · rw [if_pos c, if_pos c]
      exact ⟨v, v0, e1, e2⟩
    · obtain ⟨nR, rfl⟩ := nat_ex (show 0 < nR by omega)
      rw [if_neg c, if_neg c, f_X11_isWord_L39, if_pos rfl, ck_pos (Or.inl rfl)]
      exact ⟨0, Or.inl rfl, rfl, rfl⟩
theorem isW_both {C M : Mem} {n a z : Nat} (h : RD C M n a z) (w : Nat) : ∃ v : Int, (v = 0 ∨ v = 1) ∧ f_X8_isWord w C = some v ∧ f_X11_isWord w M = some v ∧ (v = 1 → C 1 2 = 1) := by
  obtain ⟨tx, tk, gd⟩ := h
  have t5 := tx.2.2.1
  have z5 := tk.2.2.1
  have az := tk.2.1
  obtain ⟨m, hm⟩ : ∃ m, jFuel = m + 1 := ⟨9999999, rfl⟩
  have zero : f_X11_isWord_L39 w M jFuel 0 0 = some 0 := by rw [hm, f_X11_isWord_L39, if_pos rfl, ck_pos (Or.inl rfl)]
  unfold f_X8_isWord f_X11_isWord
  rw [good_1 gd.1, Option.bind_some, if_neg (show ¬ ((1 : Int) = 0) by decide)]
  by_cases c : C 1 2 = 1
  · have kw : M 0 32 = 1 ∧ a < z ∧ ∀ i : Nat, a ≤ i → i < z → 97 ≤ M 22 i ∧ M 22 i ≤ 122 := by
      obtain ⟨_, h1, h2, q | q | q | q | q⟩ := tk
      · omega
      · exact ⟨q.2.1, q.2.2.1, q.2.2.2⟩
      · omega
      · omega
      · omega
    have sz : f_X8_size C = some (((z - a : Nat)) : Int) := by
      unfold f_X8_size
      rw [tk.1.1, tk.1.2.1, ck_pos ⟨by omega, by omega⟩, show (z : Int) - (a : Int) = ((z - a : Nat) : Int) by omega]
    rw [if_pos c, sz, Option.bind_some, if_pos kw.1, tk.1.2.2.1, tk.1.2.2.2, ck_pos ⟨by omega, by omega⟩]
    by_cases d : z - a = lenST.getD w 0
    · obtain ⟨v, v0, e1, e2⟩ := L_isW tx tk kw.2 d (lenST.getD w 0) 0 jFuel jFuel (by omega) (jF (by omega)) (by have := jF (k := lenST.getD w 0 + 1) (by omega); omega)
      refine ⟨v, v0, ?_, ?_, fun _ => c⟩
      · rw [if_pos (by omega)]; exact e1
      · rw [if_pos (by omega)]; exact e2
    · refine ⟨0, Or.inl rfl, by rw [if_neg (by omega)], by rw [if_neg (by omega)]; exact zero, fun h => by omega⟩
  · have m1 : M 0 32 ≠ 1 := by
      obtain ⟨_, h1, h2, q | q | q | q | q⟩ := tk <;> omega
    exact ⟨0, Or.inl rfl, by rw [if_neg c], by rw [if_neg m1]; exact zero, fun h => by omega⟩
theorem reads_b {M : Mem} (h : M 0 34 ≠ 0) (lo hi : Int) : f_X11_reads lo hi M = some (lo, M) := by
  unfold f_X11_reads
  rw [jn_eq]
  have tail : (f_X11_isIn (M 0 33) lo hi M).bind (fun r19 => jn (fun (M30 : Mem) => ((f_X11_goesOn M30).bind fun M36 => (f_X11_isGood M36).bind fun r40 => if r40 = 0 then some (lo, M36) else some ((M30 0 33), M36) : Option (Int × Mem))) fun k30 => if r19 = 0 then (f_X11_fails 2 M).bind fun M27 => k30 M27 else k30 M) = some (lo, M) := by
    rw [isIn_eq, Option.bind_some, jn_eq]
    by_cases c : lo ≤ M 0 33 ∧ M 0 33 ≤ hi
    · rw [if_pos c, if_neg (by decide)]
      dsimp only
      rw [goes_b h, Option.bind_some, good_0 h, Option.bind_some, if_pos rfl]
    · rw [if_neg c, if_pos rfl, fails_b h, Option.bind_some]
      dsimp only
      rw [goes_b h, Option.bind_some, good_0 h, Option.bind_some, if_pos rfl]
  by_cases c : M 0 32 = 2
  · rw [if_pos c]; exact tail
  · rw [if_neg c, fails_b h, Option.bind_some]; exact tail
theorem num_both {C M : Mem} {n a z : Nat} (h : RD C M n a z) {lo hi : Int} (hl : 0 ≤ lo) (hh : hi < 100000) :
    (∃ C' M' : Mem, f_X8_takeNumber lo hi C = some (0, C') ∧ f_X11_reads lo hi M = some (lo, M') ∧ badT C' M' ∧ kNC C C' ∧ kNM M M') ∨
    ∃ (C' M' : Mem) (a' z' : Nat) (v : Int), f_X8_takeNumber lo hi C = some (1, C') ∧ f_X11_reads lo hi M = some (v, M') ∧ C' 1 6 = v ∧ (lo ≤ v ∧ v ≤ hi) ∧ RD C' M' n a' z' ∧ z ≤ a' ∧ kNC C C' ∧ kNM M M' := by
  obtain ⟨tx, tk, gd⟩ := h
  have z5 := tk.2.2.1
  by_cases k2 : C 1 2 = 2
  · have kn : M 0 32 = 2 ∧ (0 ≤ C 1 5 ∧ C 1 5 ≤ 1000000) ∧ M 0 33 = min 100000 (C 1 5) := by
      obtain ⟨_, h1, h2, q | q | q | q | q⟩ := tk
      · omega
      · omega
      · exact ⟨q.2.1, q.2.2.2.1, q.2.2.2.2⟩
      · omega
      · omega
    by_cases rg : lo ≤ C 1 5 ∧ C 1 5 ≤ hi
    · right
      have e33 : M 0 33 = C 1 5 := by omega
      obtain ⟨C1, hC1⟩ : ∃ C1 : Mem, C1 = upm C 1 6 (C 1 5) := ⟨_, rfl⟩
      have f1 : ∀ j : Nat, j ≠ 6 → C1 1 j = C 1 j := fun j hj => by rw [hC1, upm_sl hj]
      have f1c : ∀ c : Nat, c ≠ 1 → C1 c = C c := fun c hc => by rw [hC1, upm_ne hc]
      have tx1 : TX C1 M n := by
        unfold TX at tx ⊢
        rw [f1 1 (by decide), f1c 2 (by decide)]; exact tx
      obtain ⟨a', z', C2, M2, e1, e2, e3, e4, e5, e6⟩ := adv_both (p := z) tx1 z5 (by rw [f1 4 (by decide)]; exact tk.1.2.1) tk.1.2.2.2
      have gd2 : goodT C2 M2 := (show goodT C1 M by unfold goodT at gd ⊢; rw [f1 7 (by decide), f1 8 (by decide)]; exact gd).eqv e5 e6
      refine ⟨C2, M2, a', z', C 1 5, ?_, ?_, ?_, rg, ⟨tx1.eqv e5 e6, e4, gd2⟩, e1, (show kNC C C1 from ⟨f1c, fun j hj => f1 j (by omega)⟩).trans e5.N, e6.N⟩
      · unfold f_X8_takeNumber
        rw [if_pos k2, if_neg (by omega), if_pos rg.2, lt_eq, ← hC1, e2]; rfl
      · unfold f_X11_reads
        rw [jn_eq, if_pos kn.1]
        dsimp only
        rw [isIn_eq, if_pos (by omega), Option.bind_some, jn_eq, if_neg (by decide)]
        dsimp only
        rw [goes_g gd.1 e3, Option.bind_some, good_1 gd2.1, Option.bind_some, if_neg (by decide), e33]
      · rw [e5.2 6 (by omega), hC1, upm_hit]
    · left
      obtain ⟨b1, b2, b3⟩ := fail_both gd tk (c := 2) (by decide)
      refine ⟨_, _, ?_, ?_, b3, kNC.fail, kNM.fail⟩
      · unfold f_X8_takeNumber
        rw [if_pos k2, b1, Option.bind_some]
        dsimp only
        rw [ck_pos (Or.inl rfl)]
        by_cases c : C 1 5 < lo
        · rw [if_pos c]
        · rw [if_neg c, if_neg (by omega)]
      · unfold f_X11_reads
        rw [jn_eq, if_pos kn.1]
        dsimp only
        rw [isIn_eq, if_neg (by omega), Option.bind_some, jn_eq, if_pos rfl, b2, Option.bind_some]
        dsimp only
        rw [goes_b b3.1, Option.bind_some, good_0 b3.1, Option.bind_some, if_pos rfl]
  · left
    have m2 : M 0 32 ≠ 2 := by
      obtain ⟨_, h1, h2, q | q | q | q | q⟩ := tk <;> omega
    obtain ⟨b1, b2, b3⟩ := fail_both gd tk (c := 1) (by decide)
    refine ⟨_, _, ?_, ?_, b3, kNC.fail, kNM.fail⟩
    · unfold f_X8_takeNumber
      rw [if_neg k2, b1, Option.bind_some]
      dsimp only
      rw [ck_pos (Or.inl rfl)]
    · have rb := reads_b b3.1 lo hi
      unfold f_X11_reads at rb ⊢
      rw [jn_eq] at rb ⊢
      rw [if_neg m2, b2, Option.bind_some]
      have m2' : (upm (upm M 0 34 1) 0 35 (M 0 31)) 0 32 ≠ 2 := by rw [upm_sl (by decide), upm_sl (by decide)]; exact m2
      rw [if_neg m2', fails_b b3.1, Option.bind_some] at rb
      exact rb
/-- the next token, whatever it is -/
theorem next_both {C M : Mem} {n a z : Nat} (h : RD C M n a z) : ∃ (C' M' : Mem) (a' z' : Nat), f_X8_advance C = some C' ∧ f_X11_scans M = some M' ∧ f_X11_goesOn M = some M' ∧ RD C' M' n a' z' ∧ z ≤ a' ∧ kTC C C' ∧ kTM M M' := by
  obtain ⟨tx, tk, gd⟩ := h
  obtain ⟨a', z', C2, M2, e1, e2, e3, e4, e5, e6⟩ := adv_both (p := z) tx tk.2.2.1 tk.1.2.1 tk.1.2.2.2
  exact ⟨C2, M2, a', z', e2, e3, goes_g gd.1 e3, ⟨tx.eqv e5 e6, e4, gd.eqv e5 e6⟩, e1, e5, e6⟩
theorem sign_both {C M : Mem} {n a z : Nat} (h : RD C M n a z) {x κ : Int} (hx : x = 59 ∧ κ = 3 ∨ x = 123 ∧ κ = 4 ∨ x = 125 ∧ κ = 5 ∨ x = 46 ∧ κ = 6) :
    (∃ C' M' : Mem, f_X8_take κ C = some (0, C') ∧ f_X11_needsSign x M = some M' ∧ badT C' M' ∧ kNC C C' ∧ kNM M M') ∨
    ∃ (C' M' : Mem) (a' z' : Nat), f_X8_take κ C = some (1, C') ∧ f_X11_needsSign x M = some M' ∧ RD C' M' n a' z' ∧ z ≤ a' ∧ a < z ∧ kTC C C' ∧ kTM M M' := by
  have h' := h
  obtain ⟨tx, tk, gd⟩ := h'
  have t5 := tx.2.2.1
  by_cases c : C 1 2 = κ
  · right
    have ms : (M 0 32 = 3 ∧ M 22 a = x) ∧ a < z := by
      obtain ⟨_, h1, h2, q | q | q | q | q⟩ := tk <;> omega
    obtain ⟨C2, M2, a', z', e1, e2, e3, e4, e5, e6, e7⟩ := next_both h
    refine ⟨C2, M2, a', z', ?_, need_yes gd.1 tk t5 ms.1 e2, e4, e5, ms.2, e6, e7⟩
    unfold f_X8_take
    rw [if_pos c, e1]; rfl
  · left
    have ms : ¬ (M 0 32 = 3 ∧ M 22 a = x) := by
      obtain ⟨_, h1, h2, q | q | q | q | q⟩ := tk <;> omega
    obtain ⟨b1, b2, b3⟩ := fail_both gd tk (c := 1) (by decide)
    refine ⟨_, _, ?_, need_no gd.1 tk t5 ms, b3, kNC.fail, kNM.fail⟩
    unfold f_X8_take
    rw [if_neg c, b1, Option.bind_some]
    dsimp only
    rw [ck_pos (Or.inl rfl)]
