/-! the whole voice read -/
def kVE (M M' : Mem) : Prop := (∀ c : Nat, c ≠ 0 → (c < 24 ∨ 27 < c) → M' c = M c) ∧ ∀ j : Nat, j < 29 ∨ (37 < j ∧ j ≠ 47 ∧ j ≠ 48) → M' 0 j = M 0 j
def VFin (C0 M0 C M : Mem) (r : Int) : Prop := kVC C0 C ∧ kVE M0 M ∧ M 0 29 = 0 ∧ C 1 7 = M 0 36 ∧ C 1 8 = M 0 37 ∧ (r = 1 ∧ M 0 34 = 0 ∧ (∃ n l : Nat, VD C M n l ∧ l ≤ 500 ∧ (0 < n → M 27 (n - 1) = 1)) ∨ r = 0 ∧ M 0 34 ≠ 0)
def endM (M : Mem) : Mem := upm (upm (upm M 0 29 0) 0 36 (M 0 34)) 0 37 (M 0 35)
theorem endM_c {M : Mem} {c : Nat} (h : c ≠ 0) : endM M c = M c := by unfold endM; rw [upm_ne h, upm_ne h, upm_ne h]
theorem endM_0 {M : Mem} {j : Nat} (h1 : j ≠ 29) (h2 : j ≠ 36) (h3 : j ≠ 37) : endM M 0 j = M 0 j := by unfold endM; rw [upm_sl h3, upm_sl h2, upm_sl h1]
theorem endM_v {M : Mem} : endM M 0 29 = 0 ∧ endM M 0 36 = M 0 34 ∧ endM M 0 37 = M 0 35 := by
  unfold endM
  exact ⟨by rw [upm_sl (by decide), upm_sl (by decide), upm_hit], by rw [upm_sl (by decide), upm_hit], upm_hit⟩
theorem fin_bad {C0 M0 C M : Mem} (b : badT C M) (kc : kVC C0 C) (km : kVM M0 M) : VFin C0 M0 C (endM M) 0 :=
  ⟨kc, ⟨fun c c1 c2 => (endM_c c1).trans (km.1 c c1 c2), fun j hj => (endM_0 (by omega) (by omega) (by omega)).trans (km.2 j (by omega))⟩, endM_v.1, by rw [endM_v.2.1]; exact b.2.1, by rw [endM_v.2.2]; exact b.2.2, Or.inr ⟨rfl, by rw [endM_0 (by decide) (by decide) (by decide)]; exact b.1⟩⟩
theorem L13_b {M : Mem} (h : M 0 34 ≠ 0) (m : Nat) : f_X11_readsSentence_L13 (m + 1) M = some M := by
  rw [f_X11_readsSentence_L13, good_0 h, Option.bind_some, jn_eq, if_pos rfl]
  dsimp only
  rw [sign_b h, Option.bind_some, if_pos rfl, need_b h]; rfl
theorem L14_b {M : Mem} (h : M 0 34 ≠ 0) (m : Nat) : f_X11_readsVoice_L14 (m + 1) M = some (endM M) := by
  rw [f_X11_readsVoice_L14, good_0 h, Option.bind_some, if_pos rfl, ends_R]; rfl
theorem say_run {C0 M0 : Mem} {nT : Nat} : ∀ (k : Nat) (C M : Mem) (n l a z x3 : Nat), VSt C0 M0 C M nT n l a z → nT - a ≤ k → x3 ≤ a →
    ((0 < n → M 27 (n - 1) = 1) → ∀ nC nR : Nat, k + 1 < nC → k + 1 < nR → ∃ (r : Int) (C' M' : Mem), f_X9_readFrom_L12 29 nC 0 (x3 : Int) C = some (r, C') ∧ f_X11_readsVoice_L14 nR M = some M' ∧ VFin C0 M0 C' M' r) ∧
    (0 < n → ∀ nC nR1 nR2 : Nat, k + 1 < nC → k + 1 < nR1 → k + 1 < nR2 → ∃ (r : Int) (C' M' : Mem), f_X9_readFrom_L12 29 nC 1 (x3 : Int) C = some (r, C') ∧ ((f_X11_readsSentence_L13 nR1 M).bind fun M29 => f_X11_readsVoice_L14 nR2 M29) = some M' ∧ VFin C0 M0 C' M' r) := by
  intro k
  induction k with
  | zero =>
    intro C M n l a z x3 st hk hx
    obtain ⟨tx, tk, vd, la, gd, kc, km⟩ := id st
    have t5 := tx.2.2.1
    have k0 : C 1 2 = 0 ∧ M 0 32 = 0 := by
      obtain ⟨_, h1, h2, q | q | q | q | q⟩ := tk
      · exact ⟨q.1, q.2.1⟩
      all_goals omega
    refine ⟨fun fl nC nR hC hR => ?_, fun hn nC nR1 nR2 hC h1 h2 => ?_⟩
    · obtain ⟨nC, rfl⟩ := nat_ex hC
      obtain ⟨nR, rfl⟩ := nat_ex hR
      refine ⟨1, C, endM M, ?_, ?_, kc, ⟨fun c c1 c2 => (endM_c c1).trans (km.1 c c1 c2), fun j hj => (endM_0 (by omega) (by omega) (by omega)).trans (km.2 j (by omega))⟩, endM_v.1, by rw [endM_v.2.1, gd.1]; exact gd.2.2.1, by rw [endM_v.2.2, gd.2.1]; exact gd.2.2.2, Or.inl ⟨rfl, by rw [endM_0 (by decide) (by decide) (by decide)]; exact gd.1, n, l, ?_, by have := tk.2.1; have := tk.2.2.1; omega, by rw [endM_c (by decide)]; exact fl⟩⟩
      · rw [f_X9_readFrom_L12, jn_eq]
        dsimp only
        rw [if_pos rfl, k0.1, if_pos rfl]
        split <;> rfl
      · rw [f_X11_readsVoice_L14, good_1 gd.1, Option.bind_some, if_neg (by decide), if_pos k0.2, ends_R]; rfl
      · unfold VD at vd ⊢
        rw [endM_c (c := 24) (by decide), endM_c (c := 25) (by decide), endM_c (c := 26) (by decide), endM_c (c := 27) (by decide), endM_0 (j := 47) (by decide) (by decide) (by decide), endM_0 (j := 48) (by decide) (by decide) (by decide)]; exact vd
    · obtain ⟨nC, rfl⟩ := nat_ex hC
      obtain ⟨nR1, rfl⟩ := nat_ex h1
      obtain ⟨nR2, rfl⟩ := nat_ex h2
      obtain ⟨b1, b2, b3⟩ := fail_both gd tk (c := 1) (by decide)
      refine ⟨0, _, _, ?_, ?_, fin_bad b3 (kc.trans kVC.fail) (km.trans kVM.fail)⟩
      · rw [f_X9_readFrom_L12, jn_eq]
        dsimp only
        by_cases hx5 : (500 : Int) ≤ (x3 : Int)
        · rw [if_pos hx5, if_neg (by decide), b1, Option.bind_some]
          dsimp only
          rw [ck_pos (Or.inl rfl)]
        · rw [if_neg hx5, if_pos k0.1, if_neg (by decide), b1, Option.bind_some]
          dsimp only
          rw [ck_pos (Or.inl rfl)]
      · rw [f_X11_readsSentence_L13, good_1 gd.1, Option.bind_some, jn_eq, if_neg (by decide), if_neg (by omega)]
        dsimp only
        rw [sign_g gd.1 tk t5, if_neg (by omega), Option.bind_some, if_pos rfl, need_no gd.1 tk t5 (by omega), Option.bind_some, Option.bind_some, L14_b b3.1]
  | succ k ih =>
    intro C M n l a z x3 st hk hx
    obtain ⟨tx, tk, vd, la, gd, kc, km⟩ := id st
    have t5 := tx.2.2.1
    by_cases hk' : nT - a ≤ k
    · obtain ⟨i1, i2⟩ := ih C M n l a z x3 st hk' hx
      exact ⟨fun fl nC nR hC hR => i1 fl nC nR (by omega) (by omega), fun hn nC nR1 nR2 hC h1 h2 => i2 hn nC nR1 nR2 (by omega) (by omega) (by omega)⟩
    · have z5 := tk.2.2.1
      have k0 : C 1 2 ≠ 0 ∧ M 0 32 ≠ 0 ∧ a < z := by
        obtain ⟨_, h1, h2, q | q | q | q | q⟩ := tk <;> omega
      by_cases c1 : C 1 2 = 1
      · have m1 : M 0 32 = 1 := by
          obtain ⟨_, h1, h2, q | q | q | q | q⟩ := tk <;> omega
        rcases word_both st c1 with ⟨C', M', e1, e2, e3, e4, e5⟩ | ⟨C', M', a', z', e1, e2, e3, e4, e5⟩
        · refine ⟨fun fl nC nR hC hR => ?_, fun hn nC nR1 nR2 hC h1 h2 => ?_⟩
          · obtain ⟨nC, rfl⟩ := nat_ex hC
            obtain ⟨nR, rfl⟩ := nat_ex hR
            obtain ⟨nR, rfl⟩ := nat_ex (show 0 < nR by omega)
            have jf : ∃ m, jFuel = m + 1 + 1 := ⟨9999998, rfl⟩
            obtain ⟨m, hm⟩ := jf
            refine ⟨0, C', endM M', ?_, ?_, fin_bad e3 e4 e5⟩
            · rw [f_X9_readFrom_L12, jn_eq, if_neg (by omega), if_neg k0.1, if_pos c1, e1, Option.bind_some]
              dsimp only
              rw [if_pos rfl]
            · rw [f_X11_readsVoice_L14, good_1 gd.1, Option.bind_some, if_neg (by decide), if_neg k0.2.1]
              unfold f_X11_readsSentence
              rw [if_pos m1, hm, f_X11_readsSentence_L13, good_1 gd.1, Option.bind_some, jn_eq, if_neg (by decide), if_pos m1, e2, Option.bind_some, L13_b e3.1, Option.bind_some, L14_b e3.1]
          · obtain ⟨nC, rfl⟩ := nat_ex hC
            obtain ⟨nR1, rfl⟩ := nat_ex h1
            obtain ⟨nR1, rfl⟩ := nat_ex (show 0 < nR1 by omega)
            obtain ⟨nR2, rfl⟩ := nat_ex h2
            refine ⟨0, C', endM M', ?_, ?_, fin_bad e3 e4 e5⟩
            · rw [f_X9_readFrom_L12, jn_eq, if_neg (by omega), if_neg k0.1, if_pos c1, e1, Option.bind_some]
              dsimp only
              rw [if_pos rfl]
            · rw [f_X11_readsSentence_L13, good_1 gd.1, Option.bind_some, jn_eq, if_neg (by decide), if_pos m1, e2, Option.bind_some, L13_b e3.1, Option.bind_some, L14_b e3.1]
        · obtain ⟨_, i2⟩ := ih C' M' (n + 1) (l + (z - a)) a' z' (x3 + 1) e3 (by omega) (by omega)
          refine ⟨fun fl nC nR hC hR => ?_, fun hn nC nR1 nR2 hC h1 h2 => ?_⟩
          · obtain ⟨nC, rfl⟩ := nat_ex hC
            obtain ⟨nR, rfl⟩ := nat_ex hR
            have tk' := e3.2.1.2
            have jf : ∃ m, jFuel = m + 1 ∧ 1000 < m := ⟨9999999, rfl, by omega⟩
            obtain ⟨m, hm, hm2⟩ := jf
            obtain ⟨r, C2, M2, f1, f2, f3⟩ := i2 (by omega) nC m nR (by omega) (by omega) (by omega)
            refine ⟨r, C2, M2, ?_, ?_, f3⟩
            · rw [f_X9_readFrom_L12, jn_eq, if_neg (by omega), if_neg k0.1, if_pos c1, e1, Option.bind_some]
              dsimp only
              rw [if_neg (by decide), ck_pos ⟨by omega, by omega⟩, show (x3 : Int) + 1 = ((x3 + 1 : Nat) : Int) by omega]
              exact f1
            · rw [f_X11_readsVoice_L14, good_1 gd.1, Option.bind_some, if_neg (by decide), if_neg k0.2.1]
              unfold f_X11_readsSentence
              rw [if_pos m1, hm, f_X11_readsSentence_L13, good_1 gd.1, Option.bind_some, jn_eq, if_neg (by decide), if_pos m1, e2, Option.bind_some]
              exact f2
          · obtain ⟨nC, rfl⟩ := nat_ex hC
            obtain ⟨nR1, rfl⟩ := nat_ex h1
            obtain ⟨r, C2, M2, f1, f2, f3⟩ := i2 (by omega) nC nR1 nR2 (by omega) (by omega) (by omega)
            refine ⟨r, C2, M2, ?_, ?_, f3⟩
            · rw [f_X9_readFrom_L12, jn_eq, if_neg (by omega), if_neg k0.1, if_pos c1, e1, Option.bind_some]
              dsimp only
              rw [if_neg (by decide), ck_pos ⟨by omega, by omega⟩, show (x3 : Int) + 1 = ((x3 + 1 : Nat) : Int) by omega]
              exact f1
            · rw [f_X11_readsSentence_L13, good_1 gd.1, Option.bind_some, jn_eq, if_neg (by decide), if_pos m1, e2, Option.bind_some]
              exact f2
      · have m1 : M 0 32 ≠ 1 := by
          obtain ⟨_, h1, h2, q | q | q | q | q⟩ := tk <;> omega
        obtain ⟨b1, b2, b3⟩ := fail_both gd tk (c := 1) (by decide)
        have F := fin_bad b3 (kc.trans kVC.fail) (km.trans kVM.fail)
        refine ⟨fun fl nC nR hC hR => ?_, fun hn nC nR1 nR2 hC h1 h2 => ?_⟩
        · obtain ⟨nC, rfl⟩ := nat_ex hC
          obtain ⟨nR, rfl⟩ := nat_ex hR
          obtain ⟨nR, rfl⟩ := nat_ex (show 0 < nR by omega)
          have jf : ∃ m, jFuel = m + 1 := ⟨9999999, rfl⟩
          obtain ⟨m, hm⟩ := jf
          refine ⟨0, _, _, ?_, ?_, F⟩
          · rw [f_X9_readFrom_L12, jn_eq, if_neg (by omega), if_neg k0.1, if_neg c1, b1, Option.bind_some]
            dsimp only
            rw [ck_pos (Or.inl rfl), if_pos rfl]
            split <;> rfl
          · rw [f_X11_readsVoice_L14, good_1 gd.1, Option.bind_some, if_neg (by decide), if_neg k0.2.1]
            unfold f_X11_readsSentence
            rw [if_neg m1, b2, Option.bind_some, hm, L13_b b3.1, Option.bind_some, L14_b b3.1]
        · obtain ⟨nC, rfl⟩ := nat_ex hC
          obtain ⟨nR1, rfl⟩ := nat_ex h1
          obtain ⟨nR2, rfl⟩ := nat_ex h2
          obtain ⟨⟨d1, d2, d3, d4, d5⟩, dw, dl, dc, de⟩ := id vd
          by_cases c6 : C 1 2 = 6
          · have m6 : M 0 32 = 3 ∧ M 22 a = 46 := by
              obtain ⟨_, h1, h2, q | q | q | q | q⟩ := tk <;> omega
            obtain ⟨C1, hC1⟩ : ∃ C1 : Mem, C1 = upm C 45 (n - 1) 1 := ⟨_, rfl⟩
            obtain ⟨M1, hM1⟩ : ∃ M1 : Mem, M1 = upm M 27 (n - 1) 1 := ⟨_, rfl⟩
            have f1 : ∀ c : Nat, c ≠ 45 → C1 c = C c := fun c hc => by rw [hC1]; exact upm_ne hc
            have g1 : ∀ c : Nat, c ≠ 27 → M1 c = M c := fun c hc => by rw [hM1]; exact upm_ne hc
            have tx1 : TX C1 M1 nT := by
              unfold TX at tx ⊢
              rw [f1 1 (by decide), f1 2 (by decide), g1 0 (by decide), g1 22 (by decide)]; exact tx
            have tk1 : Tok C1 M1 nT a z := by
              unfold Tok at tk ⊢
              rw [f1 1 (by decide), g1 0 (by decide), g1 22 (by decide)]; exact tk
            obtain ⟨a', z', C2, M2, e1, e2, e3, e4, e5, e6⟩ := adv_both (p := z) tx1 z5 (by rw [f1 1 (by decide)]; exact tk.1.2.1) (by rw [g1 0 (by decide)]; exact tk.1.2.2.2)
            have vd1 : VD C1 M1 n l := by
              refine ⟨by rw [f1 40 (by decide), g1 0 (by decide)]; exact ⟨d1, d2, d3, d4, d5⟩, fun i hi => ?_, by rw [f1 41 (by decide), g1 24 (by decide)]; exact dl, by rw [g1 25 (by decide), g1 26 (by decide)]; exact dc, by rw [g1 25 (by decide), g1 26 (by decide)]; exact de⟩
              obtain ⟨f, e, q1, q2, q3, q4, q5, q6⟩ := dw i hi
              rw [f1 42 (by decide), f1 43 (by decide), f1 44 (by decide), g1 24 (by decide), g1 25 (by decide), g1 26 (by decide), hC1, hM1, upm_row, upm_row, updr_ap, updr_ap]
              refine ⟨f, e, q1, q2, q3, q4, ?_, ?_⟩
              · split
                · rfl
                · exact q5
              · split
                · exact Or.inr rfl
                · exact q6
            have st2 : VSt C0 M0 C2 M2 nT n l a' z' := ⟨tx1.eqv e5 e6, e4, vd1.eqv e5 e6, by omega, (show goodT C1 M1 by unfold goodT at gd ⊢; rw [f1 1 (by decide), g1 0 (by decide)]; exact gd).eqv e5 e6, (kc.trans ⟨fun c _ c2 => f1 c (by omega), fun j _ => by rw [f1 1 (by decide)]⟩).trans e5.V, (km.trans ⟨fun c _ c2 => g1 c (by omega), fun j _ => by rw [g1 0 (by decide)]⟩).trans e6.V⟩
            obtain ⟨i1, _⟩ := ih C2 M2 n l a' z' (x3 + 1) st2 (by omega) (by omega)
            obtain ⟨r, C3, M3, u1, u2, u3⟩ := i1 (fun _ => by rw [e6.1 27 (by decide), hM1, upm_hit]) nC (nR2 + 1) (by omega) (by omega)
            refine ⟨r, C3, M3, ?_, ?_, u3⟩
            · rw [f_X9_readFrom_L12, jn_eq, if_neg (by omega), if_neg k0.1, if_neg c1, if_pos c6, if_neg (by decide), show C (29 + 11) 0 = (n : Int) from d1, if_neg (by omega), ck_pos ⟨by omega, by omega⟩, ck_pos ⟨by omega, by omega⟩, show ((n : Int) - 1).toNat = n - 1 by omega, show bar1 1 = 1 by decide, lt_eq, show (29 + 16 : Nat) = 45 from rfl, ← hC1, e2, Option.bind_some, ck_pos ⟨by omega, by omega⟩, show (x3 : Int) + 1 = ((x3 + 1 : Nat) : Int) by omega]
              exact u1
            · rw [f_X11_readsSentence_L13, good_1 gd.1, Option.bind_some, jn_eq, if_neg (by decide), if_neg m1]
              dsimp only
              rw [sign_g gd.1 tk t5, if_pos m6, Option.bind_some, if_neg (by decide), d2, ck_pos ⟨by omega, by omega⟩, ck_pos ⟨by omega, by omega⟩, show ((n : Int) - 1).toNat = n - 1 by omega, lt_eq, ← hM1, need_yes (by rw [g1 0 (by decide)]; exact gd.1) tk1 t5 (by rw [g1 0 (by decide), g1 22 (by decide)]; exact m6) e3, Option.bind_some, Option.bind_some]
              exact u2
          · have m6 : ¬ (M 0 32 = 3 ∧ M 22 a = 46) := by
              obtain ⟨_, h1, h2, q | q | q | q | q⟩ := tk <;> omega
            refine ⟨0, _, _, ?_, ?_, F⟩
            · rw [f_X9_readFrom_L12, jn_eq, if_neg (by omega), if_neg k0.1, if_neg c1, if_neg c6, b1, Option.bind_some]
              dsimp only
              rw [ck_pos (Or.inl rfl)]
            · rw [f_X11_readsSentence_L13, good_1 gd.1, Option.bind_some, jn_eq, if_neg (by decide), if_neg m1]
              dsimp only
              rw [sign_g gd.1 tk t5, if_neg m6, Option.bind_some, if_pos rfl, need_no gd.1 tk t5 m6, Option.bind_some, Option.bind_some, L14_b b3.1]
