/-! the next token -/
theorem sx_is {v : Int} (h : 0 ≤ v ∧ v ≤ 255) {x : Int} (hx : 0 ≤ x ∧ x < 128) : sx v = x ↔ v = x := by
  unfold sx
  split <;> omega
theorem L_adv {n : Nat} : ∀ (k p nC nR : Nat) (C M : Mem), p + k = n → k < nC → k < nR → TX C M n → M 0 30 = (p : Int) →
    ∃ (a z : Nat) (C' M' : Mem), p ≤ a ∧ f_X8_advance_L5 nC (p : Int) C = some C' ∧ f_X11_scans_L0 nR M = some M' ∧ Tok C' M' n a z ∧ kTC C C' ∧ kTM M M' := by
  intro k
  induction k with
  | zero =>
    intro p nC nR C M hp hC hR tx h30
    obtain ⟨nC, rfl⟩ := nat_ex hC
    obtain ⟨nR, rfl⟩ := nat_ex hR
    have t5 := tx.2.2.1
    have eb : f_X11_byteAt (p : Int) M = some (-1) := by rw [bAt tx.2.1 t5, if_neg (by omega)]
    have eb2 : f_X11_byteAt (p : Int) (upm M 0 31 (p : Int)) = some (-1) := by rw [bAt (n := n) (by rw [upm_sl (by decide)]; exact tx.2.1) t5, if_neg (by omega)]
    refine ⟨p, p, upm (upm (upm C 1 3 p) 1 2 0) 1 4 p, upm (upm M 0 31 p) 0 32 0, Nat.le_refl _, ?_, ?_, ⟨⟨?_, ?_, ?_, ?_⟩, Nat.le_refl _, by omega, Or.inl ⟨?_, ?_, by omega⟩⟩, ((kTC.up (by omega)).trans (kTC.up (by omega))).trans (kTC.up (by omega)), (kTM.up (by omega)).trans (kTM.up (by omega))⟩
    · rw [f_X8_advance_L5, jn_eq, tx.1, if_pos (by omega)]
      dsimp only
      rw [lt_eq, if_neg (by omega), lt_eq, lt_eq]
    · rw [f_X11_scans_L0, h30, eb, Option.bind_some, if_neg (by decide), Option.bind_some, if_neg (by decide), lt_eq, eb2, Option.bind_some, if_pos rfl, lt_eq]
    · rw [upm_sl (by decide), upm_sl (by decide), upm_hit]
    · rw [upm_hit]
    · rw [upm_sl (by decide), upm_hit]
    · rw [upm_sl (by decide), upm_sl (by decide)]; exact h30
    · rw [upm_sl (by decide), upm_hit]
    · rw [upm_hit]
  | succ k ih =>
    intro p nC nR C M hp hC hR tx h30
    obtain ⟨nC, rfl⟩ := nat_ex hC
    obtain ⟨nR, rfl⟩ := nat_ex hR
    have t5 := tx.2.2.1
    obtain ⟨tb, te⟩ := tx.2.2.2 p (by omega)
    have eb : f_X11_byteAt (p : Int) M = some (M 22 p) := by rw [bAt tx.2.1 t5, if_pos (by omega)]
    by_cases sp : M 22 p = 32 ∨ M 22 p = 10
    · obtain ⟨a, z, C', M', e1, e2, e3, e4, e5, e6⟩ := ih (p + 1) nC nR C (upm M 0 30 ((p : Int) + 1)) (by omega) (by omega) (by omega) (tx.eqv kTC.rfl (kTM.up (by omega))) (by rw [upm_hit]; omega)
      refine ⟨a, z, C', M', by omega, ?_, ?_, e4, e5, (kTM.up (by omega)).trans e6⟩
      · rw [f_X8_advance_L5, jn_eq, tx.1, if_neg (by omega), ck_pos ⟨by omega, by omega⟩, Int.toNat_natCast, te, show (p : Int) + 1 = ((p + 1 : Nat) : Int) by omega, ck_pos ⟨by omega, by omega⟩]
        rcases sp with c | c
        · rw [if_pos ((sx_is tb ⟨by omega, by omega⟩).2 c)]
          exact e2
        · rw [if_neg (fun q => by have := (sx_is tb ⟨by omega, by omega⟩).1 q; omega), if_pos ((sx_is tb ⟨by omega, by omega⟩).2 c)]
          exact e2
      · rw [f_X11_scans_L0, h30, eb, Option.bind_some, Option.bind_some, ck_pos ⟨by omega, by omega⟩, lt_eq]
        rcases sp with c | c
        · rw [if_pos c]; exact e3
        · rw [if_neg (by omega), if_pos c]; exact e3
    · obtain ⟨C1, hC1⟩ : ∃ C1 : Mem, C1 = upm C 1 3 (p : Int) := ⟨_, rfl⟩
      obtain ⟨M1, hM1⟩ : ∃ M1 : Mem, M1 = upm M 0 31 (p : Int) := ⟨_, rfl⟩
      have kC1 : kTC C C1 := by rw [hC1]; exact kTC.up (by omega)
      have kM1 : kTM M M1 := by rw [hM1]; exact kTM.up (by omega)
      have tx1 := tx.eqv kC1 kM1
      have goC : f_X8_advance_L5 (nC + 1) (p : Int) C = (if 97 ≤ M 22 p ∧ M 22 p ≤ 122 then (f_X8_advance_L79 jFuel (p : Int) (upm C1 1 2 1)) else if 48 ≤ M 22 p ∧ M 22 p ≤ 57 then (f_X8_advance_L127 jFuel (p : Int) (upm (upm C1 1 2 2) 1 5 0)) else (f_X8_kindOfSign (sx (M 22 p)) C1).bind fun r186 => some (upm (upm C1 1 2 r186) 1 4 ((p : Int) + 1))) := by
        rw [f_X8_advance_L5, jn_eq, tx.1, if_neg (by omega), ck_pos ⟨by omega, by omega⟩, Int.toNat_natCast, te, if_neg (fun q => sp (Or.inl ((sx_is tb ⟨by omega, by omega⟩).1 q))), if_neg (fun q => sp (Or.inr ((sx_is tb ⟨by omega, by omega⟩).1 q)))]
        dsimp only
        rw [lt_eq, if_pos (by omega), ck_pos ⟨by omega, by omega⟩, ← hC1, sx_L tb, Option.bind_some, sx_D tb]
        by_cases c : 97 ≤ M 22 p ∧ M 22 p ≤ 122
        · rw [if_pos c, if_neg (by decide), if_pos c, lt_eq]
        · rw [if_neg c, if_pos rfl, if_neg c, Option.bind_some]
          by_cases d : 48 ≤ M 22 p ∧ M 22 p ≤ 57
          · rw [if_pos d, if_neg (by decide), if_pos d, lt_eq, lt_eq]
          · rw [if_neg d, if_pos rfl, if_neg d]
            have q : f_X8_kindOfSign (sx (M 22 p)) C1 = some (if sx (M 22 p) = 46 then 6 else if sx (M 22 p) = 59 then 3 else if sx (M 22 p) = 123 then 4 else if sx (M 22 p) = 125 then 5 else 7) := by
              unfold f_X8_kindOfSign
              repeat' split
              all_goals rfl
            rw [q, Option.bind_some, Option.bind_some, lt_eq, ck_pos ⟨by omega, by omega⟩, lt_eq]
      have goR : f_X11_scans_L0 (nR + 1) M = (if 97 ≤ M 22 p ∧ M 22 p ≤ 122 then f_X11_scans_L78 jFuel M1 else if 48 ≤ M 22 p ∧ M 22 p ≤ 57 then f_X11_scans_L126 jFuel (upm M1 0 33 0) else some (upm (upm M1 0 32 (if M 22 p = 59 ∨ M 22 p = 123 ∨ M 22 p = 125 ∨ M 22 p = 46 then 3 else 4)) 0 30 ((p : Int) + 1))) := by
        have e22 : M1 22 = M 22 := kM1.1 22 (by decide)
        rw [f_X11_scans_L0, h30, eb, Option.bind_some, if_neg (fun q => sp (Or.inl q)), Option.bind_some, if_neg (fun q => sp (Or.inr q)), lt_eq, ← hM1, bAt tx1.2.1 t5, if_pos (by omega), e22, Option.bind_some, if_neg (by omega), lAt tx1.2.1 t5, e22]
        by_cases c : 97 ≤ M 22 p ∧ M 22 p ≤ 122
        · rw [if_pos (show p < n ∧ 97 ≤ M 22 p ∧ M 22 p ≤ 122 from ⟨by omega, c⟩), Option.bind_some, if_neg (by decide), if_pos c]
        · rw [if_neg (show ¬ (p < n ∧ 97 ≤ M 22 p ∧ M 22 p ≤ 122) from fun q => c q.2), Option.bind_some, if_pos rfl, if_neg c, dAt tx1.2.1 t5, e22]
          by_cases d : 48 ≤ M 22 p ∧ M 22 p ≤ 57
          · rw [if_pos (show p < n ∧ 48 ≤ M 22 p ∧ M 22 p ≤ 57 from ⟨by omega, d⟩), Option.bind_some, if_neg (by decide), if_pos d, lt_eq]
          · rw [if_neg (show ¬ (p < n ∧ 48 ≤ M 22 p ∧ M 22 p ≤ 57) from fun q => d q.2), Option.bind_some, if_pos rfl, if_neg d, ck_pos ⟨by omega, by omega⟩, Int.toNat_natCast]
            have q : f_X11_isSymbol (M 22 p) M1 = some (if M 22 p = 59 ∨ M 22 p = 123 ∨ M 22 p = 125 ∨ M 22 p = 46 then 1 else 0) := by
              unfold f_X11_isSymbol
              by_cases s1 : M 22 p = 59
              · rw [if_pos s1, if_pos (Or.inl s1)]
              · rw [if_neg s1]
                by_cases s2 : M 22 p = 123
                · rw [if_pos s2, if_pos (Or.inr (Or.inl s2))]
                · rw [if_neg s2]
                  by_cases s3 : M 22 p = 125
                  · rw [if_pos s3, if_pos (Or.inr (Or.inr (Or.inl s3)))]
                  · rw [if_neg s3]
                    by_cases s4 : M 22 p = 46
                    · rw [if_pos s4, if_pos (Or.inr (Or.inr (Or.inr s4)))]
                    · rw [if_neg s4, if_neg (by omega)]
            rw [q, Option.bind_some, jn_eq]
            by_cases s : M 22 p = 59 ∨ M 22 p = 123 ∨ M 22 p = 125 ∨ M 22 p = 46
            · rw [if_pos s, if_pos s, if_neg (by decide)]
              dsimp only
              rw [lt_eq, ck_pos ⟨by omega, by omega⟩, lt_eq]
            · rw [if_neg s, if_neg s, if_pos rfl]
              dsimp only
              rw [lt_eq, ck_pos ⟨by omega, by omega⟩, lt_eq]
      have e22 : M1 22 = M 22 := kM1.1 22 (by decide)
      have m30 : M1 0 30 = (p : Int) := by rw [hM1, upm_sl (by decide)]; exact h30
      have m31 : M1 0 31 = (p : Int) := by rw [hM1, upm_hit]
      have c13 : C1 1 3 = (p : Int) := by rw [hC1, upm_hit]
      by_cases c : 97 ≤ M 22 p ∧ M 22 p ≤ 122
      · rw [if_pos c] at goC goR
        obtain ⟨z, C', M', w1, w2, w3, w4, w5, w6, w7, w8, w9, w10, w11, w12, w13⟩ := L_word (n := n) (n - p) p jFuel jFuel (upm C1 1 2 1) M1 (by omega) (jF (by omega)) (jF (by omega)) (tx1.eqv (kTC.up (by omega)) kTM.rfl) m30
        rw [e22] at w3 w13
        have e22' : M' 22 = M 22 := (w11 22 (by decide)).trans e22
        refine ⟨p, z, C', M', Nat.le_refl _, by rw [goC]; exact w4, by rw [goR]; exact w5, ⟨⟨?_, w6, ?_, w7⟩, w1, w2, Or.inr (Or.inl ⟨?_, w8, w13 (by omega) c, by rw [e22']; exact w3⟩)⟩, kC1.trans ((kTC.up (A := C1) (j := 2) (v := 1) (by omega)).trans ⟨w9, fun j hj => w10 j (by omega)⟩), kM1.trans ⟨w11, fun j hj => w12 j (by omega) (by omega)⟩⟩
        · rw [w10 3 (by decide), upm_sl (by decide)]; exact c13
        · rw [w12 31 (by decide) (by decide)]; exact m31
        · rw [w10 2 (by decide), upm_hit]
      · rw [if_neg c] at goC goR
        by_cases d : 48 ≤ M 22 p ∧ M 22 p ≤ 57
        · rw [if_pos d] at goC goR
          obtain ⟨z, C', M', w1, w2, w4, w5, w6, w7, w8, w8a, w8b, w9, w10, w11, w12, w13⟩ := L_numb (n := n) (n - p) p jFuel jFuel (upm (upm C1 1 2 2) 1 5 0) (upm M1 0 33 0) (by omega) (jF (by omega)) (jF (by omega)) (tx1.eqv ((kTC.up (by omega)).trans (kTC.up (by omega))) (kTM.up (by omega))) (by rw [upm_sl (by decide)]; exact m30) (by rw [upm_hit]; omega) (by rw [upm_hit, upm_hit]; rfl)
          rw [upm_ne (by decide), e22] at w13
          refine ⟨p, z, C', M', Nat.le_refl _, by rw [goC]; exact w4, by rw [goR]; exact w5, ⟨⟨?_, w6, ?_, w7⟩, w1, w2, Or.inr (Or.inr (Or.inl ⟨?_, w8, w13 (by omega) d, w8a, w8b⟩))⟩, kC1.trans (((kTC.up (A := C1) (j := 2) (v := 2) (by omega)).trans (kTC.up (j := 5) (v := 0) (by omega))).trans ⟨w9, fun j hj => w10 j (by omega) (by omega)⟩), kM1.trans ((kTM.up (A := M1) (j := 33) (v := 0) (by omega)).trans ⟨w11, fun j hj => w12 j (by omega) (by omega) (by omega)⟩)⟩
          · rw [w10 3 (by decide) (by decide), upm_sl (by decide), upm_sl (by decide)]; exact c13
          · rw [w12 31 (by decide) (by decide) (by decide), upm_sl (by decide)]; exact m31
          · rw [w10 2 (by decide) (by decide), upm_sl (by decide), upm_hit]
        · rw [if_neg d] at goC goR
          have q : f_X8_kindOfSign (sx (M 22 p)) C1 = some (if M 22 p = 46 then 6 else if M 22 p = 59 then 3 else if M 22 p = 123 then 4 else if M 22 p = 125 then 5 else 7) := by
            unfold f_X8_kindOfSign
            by_cases s4 : M 22 p = 46
            · rw [if_pos ((sx_is tb ⟨by omega, by omega⟩).2 s4), if_pos s4]
            · rw [if_neg (fun q => s4 ((sx_is tb ⟨by omega, by omega⟩).1 q)), if_neg s4]
              by_cases s1 : M 22 p = 59
              · rw [if_pos ((sx_is tb ⟨by omega, by omega⟩).2 s1), if_pos s1]
              · rw [if_neg (fun q => s1 ((sx_is tb ⟨by omega, by omega⟩).1 q)), if_neg s1]
                by_cases s2 : M 22 p = 123
                · rw [if_pos ((sx_is tb ⟨by omega, by omega⟩).2 s2), if_pos s2]
                · rw [if_neg (fun q => s2 ((sx_is tb ⟨by omega, by omega⟩).1 q)), if_neg s2]
                  by_cases s3 : M 22 p = 125
                  · rw [if_pos ((sx_is tb ⟨by omega, by omega⟩).2 s3), if_pos s3]
                  · rw [if_neg (fun q => s3 ((sx_is tb ⟨by omega, by omega⟩).1 q)), if_neg s3]
          rw [q, Option.bind_some] at goC
          refine ⟨p, p + 1, _, _, Nat.le_refl _, goC, goR, ⟨⟨?_, ?_, ?_, ?_⟩, by omega, by omega, Or.inr (Or.inr (Or.inr ?_))⟩, kC1.trans ((kTC.up (by omega)).trans (kTC.up (by omega))), kM1.trans ((kTM.up (by omega)).trans (kTM.up (by omega)))⟩
          · rw [upm_sl (by decide), upm_sl (by decide)]; exact c13
          · rw [upm_hit]; omega
          · rw [upm_sl (by decide), upm_sl (by decide)]; exact m31
          · rw [upm_hit]; omega
          · rw [upm_sl (by decide), upm_hit, upm_sl (by decide), upm_hit, upm_ne (by decide), upm_ne (by decide), e22]
            obtain ⟨A, hA⟩ : ∃ A : Int, A = (if M 22 p = 46 then 6 else if M 22 p = 59 then 3 else if M 22 p = 123 then 4 else if M 22 p = 125 then 5 else 7) := ⟨_, rfl⟩
            obtain ⟨B, hB⟩ : ∃ B : Int, B = (if M 22 p = 59 ∨ M 22 p = 123 ∨ M 22 p = 125 ∨ M 22 p = 46 then 3 else 4) := ⟨_, rfl⟩
            rw [← hA, ← hB]
            by_cases s1 : M 22 p = 59
            · rw [if_neg (by omega), if_pos s1] at hA
              rw [if_pos (by omega)] at hB
              omega
            · by_cases s2 : M 22 p = 123
              · rw [if_neg (by omega), if_neg s1, if_pos s2] at hA
                rw [if_pos (by omega)] at hB
                omega
              · by_cases s3 : M 22 p = 125
                · rw [if_neg (by omega), if_neg s1, if_neg s2, if_pos s3] at hA
                  rw [if_pos (by omega)] at hB
                  omega
                · by_cases s4 : M 22 p = 46
                  · rw [if_pos s4] at hA
                    rw [if_pos (by omega)] at hB
                    omega
                  · rw [if_neg s4, if_neg s1, if_neg s2, if_neg s3] at hA
                    rw [if_neg (by omega)] at hB
                    omega
theorem scans_eq (M : Mem) : f_X11_scans M = f_X11_scans_L0 (jFuel + 1) M := by
  rw [f_X11_scans_L0]
  rfl
/-- one token more on both sides -/
theorem adv_both {C M : Mem} {n p : Nat} (tx : TX C M n) (hp : p ≤ n) (c4 : C 1 4 = (p : Int)) (h30 : M 0 30 = (p : Int)) : ∃ (a z : Nat) (C' M' : Mem), p ≤ a ∧ f_X8_advance C = some C' ∧ f_X11_scans M = some M' ∧ Tok C' M' n a z ∧ kTC C C' ∧ kTM M M' := by
  have t5 := tx.2.2.1
  have jf : n - p < jFuel := jF (by omega)
  obtain ⟨a, z, C', M', e1, e2, e3, e4⟩ := L_adv (n := n) (n - p) p jFuel (jFuel + 1) C M (by omega) jf (by omega) tx h30
  refine ⟨a, z, C', M', e1, ?_, ?_, e4⟩
  · unfold f_X8_advance
    rw [c4]; exact e2
  · rw [scans_eq]; exact e3
