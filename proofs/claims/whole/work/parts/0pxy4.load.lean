/-! load -/
theorem wfs_0 {g : Row} (h : WFs g) {v : Int} (a : 0 ≤ v) (b : v ≤ 99) : WFs (updr g 0 v) := by
  unfold WFs at h ⊢
  rw [updr_at, updr_ne (j := 1) (by decide), updr_ne (j := 2) (by decide), updr_ne (j := 3) (by decide), updr_ne (j := 4) (by decide)]; omega
theorem wfs_1 {g : Row} (h : WFs g) {v : Int} (a : 1 ≤ v) (b : v ≤ 20) : WFs (updr g 1 v) := by
  unfold WFs at h ⊢
  rw [updr_at, updr_ne (j := 0) (by decide), updr_ne (j := 2) (by decide), updr_ne (j := 3) (by decide), updr_ne (j := 4) (by decide)]; omega
theorem wfs_2 {g : Row} (h : WFs g) {v : Int} (a : 0 ≤ v) (b : v ≤ 50) : WFs (updr g 2 v) := by
  unfold WFs at h ⊢
  rw [updr_at, updr_ne (j := 0) (by decide), updr_ne (j := 1) (by decide), updr_ne (j := 3) (by decide), updr_ne (j := 4) (by decide)]; omega
theorem wfs_3 {g : Row} (h : WFs g) {v : Int} (a : 1 ≤ v) (b : v ≤ 50) : WFs (updr g 3 v) := by
  unfold WFs at h ⊢
  rw [updr_at, updr_ne (j := 0) (by decide), updr_ne (j := 1) (by decide), updr_ne (j := 2) (by decide), updr_ne (j := 4) (by decide)]; omega
theorem wfs_4 {g : Row} (h : WFs g) {v : Int} (a : 0 ≤ v) (b : v ≤ 100) : WFs (updr g 4 v) := by
  unfold WFs at h ⊢
  rw [updr_at, updr_ne (j := 0) (by decide), updr_ne (j := 1) (by decide), updr_ne (j := 2) (by decide), updr_ne (j := 3) (by decide)]; omega
/-- a statement and its semicolon -/
def SOut (C0 M0 : Mem) (n a : Nat) (rc : Option (Int × Mem)) (rm : Option Mem) : Prop := (∃ C' M' : Mem, (rc = some (0, C') ∨ ∃ C1 : Mem, rc = some (1, C1) ∧ f_X8_take 3 C1 = some (0, C')) ∧ rm = some M' ∧ badT C' M' ∧ kLC C0 C' ∧ kLM M0 M') ∨ ∃ (C1 C' M' : Mem) (a' z' : Nat), rc = some (1, C1) ∧ f_X8_take 3 C1 = some (1, C') ∧ rm = some M' ∧ LSt C0 M0 C' M' n a' z' ∧ a < a'
theorem fin_stmt {C0 M0 : Mem} {n a z : Nat} {rc : Option (Int × Mem)} {rm : Option Mem} (az : a ≤ z) (o : Out C0 M0 n z rc rm) : SOut C0 M0 n a (rc.bind fun (r, M) => ck (r = 0 ∨ r = 1) <| some (r, M)) (rm.bind fun M => (f_X11_needsSign 59 M).bind fun M164 => some M164) := by
  rcases o with ⟨C', M', e1, e2, e3, e4, e5⟩ | ⟨C', M', a', z', e1, e2, ⟨rd, ld, kc, km⟩, e4⟩
  · refine Or.inl ⟨C', M', Or.inl ?_, ?_, e3, e4, e5⟩
    · rw [e1, Option.bind_some]
      dsimp only
      rw [ck_pos (Or.inl rfl)]
    · rw [e2, Option.bind_some, need_b e3.1]; rfl
  · have rc1 : (rc.bind fun (r, M) => ck (r = 0 ∨ r = 1) <| some (r, M)) = some (1, C') := by
      rw [e1, Option.bind_some]
      dsimp only
      rw [ck_pos (Or.inr rfl)]
    rw [rc1]
    rcases sign_both rd (x := 59) (κ := 3) (Or.inl ⟨rfl, rfl⟩) with ⟨C2, M2, s1, s2, s3, s4, s5⟩ | ⟨C2, M2, a2, z2, s1, s2, s3, s4, s5, s6, s7⟩
    · refine Or.inl ⟨C2, M2, Or.inr ⟨C', rfl, s1⟩, ?_, s3, kc.trans s4.L, km.trans s5.L⟩
      rw [e2, Option.bind_some, s2]; rfl
    · refine Or.inr ⟨C', C2, M2, a2, z2, rfl, s1, ?_, ⟨s3, ?_, kc.trans s6.N.L, km.trans s7.N.L⟩, by omega⟩
      · rw [e2, Option.bind_some, s2]; rfl
      · unfold LD at ld ⊢
        rw [s7.1 1 (by decide), s7.2 38 (by omega), s6.1 39 (by decide)]
        exact ⟨⟨ld.1.1.eqv (fun j _ _ => s6.1 _ (by omega)), ld.1.2⟩, ld.2⟩
theorem stmt_both {C0 M0 C M : Mem} {n a z : Nat} (h : LSt C0 M0 C M n a z) : SOut C0 M0 n a (f_X3_readStatement 29 C) (f_X11_readsStatement M) := by
  have rd := h.1
  have az := rd.2.1.2.1
  have ws := h.2.1.1.2.s
  obtain ⟨v0, u0, p0, q0, _⟩ := isW_both rd 0
  obtain ⟨v1, u1, p1, q1, _⟩ := isW_both rd 1
  obtain ⟨v2, u2, p2, q2, _⟩ := isW_both rd 2
  obtain ⟨v3, u3, p3, q3, _⟩ := isW_both rd 3
  obtain ⟨v4, u4, p4, q4, _⟩ := isW_both rd 4
  obtain ⟨v5, u5, p5, q5, _⟩ := isW_both rd 5
  obtain ⟨v6, u6, p6, q6, _⟩ := isW_both rd 6
  obtain ⟨v7, u7, p7, q7, _⟩ := isW_both rd 7
  unfold f_X3_readStatement f_X11_readsStatement f_X3_settingTold
  rw [p0, q0, Option.bind_some, Option.bind_some]
  by_cases c0 : v0 = 0
  · rw [if_pos c0, if_pos c0, p1, q1, Option.bind_some, Option.bind_some]
    by_cases c1 : v1 = 0
    · rw [if_pos c1, if_pos c1, p2, q2, Option.bind_some, Option.bind_some]
      by_cases c2 : v2 = 0
      · rw [if_pos c2, if_pos c2, p3, q3, Option.bind_some, Option.bind_some]
        by_cases c3 : v3 = 0
        · rw [if_pos c3, if_pos c3, p4, q4, Option.bind_some, Option.bind_some]
          by_cases c4 : v4 = 0
          · rw [if_pos c4, if_pos c4, p5, q5, Option.bind_some, Option.bind_some]
            by_cases c5 : v5 = 0
            · rw [if_pos c5, if_pos c5, p6, q6, Option.bind_some, Option.bind_some]
              by_cases c6 : v6 = 0
              · rw [if_pos c6, if_pos c6, p7, q7, Option.bind_some, Option.bind_some]
                by_cases c7 : v7 = 0
                · rw [if_pos c7, if_pos c7, Option.bind_some, if_pos rfl]
                  obtain ⟨b1, b2, b3⟩ := fail_both rd.2.2 rd.2.1 (c := 1) (by decide)
                  exact fin_stmt (z := z) az (Or.inl ⟨_, _, b1, b2, b3, h.2.2.1.trans kNC.fail.L, h.2.2.2.trans kNM.fail.L⟩)
                · rw [if_neg c7, if_neg c7, Option.bind_some, if_neg (by decide)]
                  exact fin_stmt az (val_both (i := 4) h (by decide) rfl rfl (by decide) (by decide) (fun v a b => wfs_4 ws a b))
              · rw [if_neg c6, if_neg c6, Option.bind_some, if_neg (by decide)]
                exact fin_stmt az (val_both (i := 3) h (by decide) rfl rfl (by decide) (by decide) (fun v a b => wfs_3 ws a b))
            · rw [if_neg c5, if_neg c5, Option.bind_some, if_neg (by decide)]
              exact fin_stmt az (val_both (i := 2) h (by decide) rfl rfl (by decide) (by decide) (fun v a b => wfs_2 ws a b))
          · rw [if_neg c4, if_neg c4, Option.bind_some, if_neg (by decide)]
            exact fin_stmt az (val_both (i := 1) h (by decide) rfl rfl (by decide) (by decide) (fun v a b => wfs_1 ws a b))
        · rw [if_neg c3, if_neg c3, Option.bind_some, if_neg (by decide)]
          exact fin_stmt az (val_both (i := 0) h (by decide) rfl rfl (by decide) (by decide) (fun v a b => wfs_0 ws a b))
      · rw [if_neg c2, if_neg c2]
        exact fin_stmt az (ban_both h)
    · rw [if_neg c1, if_neg c1]
      exact fin_stmt az (map_both h)
  · rw [if_neg c0, if_neg c0]
    exact fin_stmt az (shot_both h)
def postL (M : Mem) : Option (Int × Mem) := (f_X11_endsText M).bind fun M53 => (f_X11_isGood M53).bind fun r57 => if r57 = 0 then (f_X11_copies 2 1062 0 1 1062 0 M53).bind fun M73 => some ((-1), M73) else lt (upm M53 0 6 0) fun N1 => some ((M53 1 5), N1)
theorem L31_s (m : Nat) (M : Mem) : f_X11_load_L31 (m + 1) M = (f_X11_isGood M).bind fun r32 => if r32 = 0 then postL M else if (M 0 32) = 0 then postL M else (f_X11_readsStatement M).bind fun M46 => f_X11_load_L31 m M46 := by
  rw [f_X11_load_L31]
  rfl
theorem load_run {C0 M0 : Mem} {nT : Nat} : ∀ (k : Nat) (C M : Mem) (a z x2 : Nat), LSt C0 M0 C M nT a z → nT - a ≤ k → x2 ≤ a → ∀ nC nR : Nat, k + 1 < nC → k + 1 < nR →
    (∃ (C' M' : Mem) (a' z' : Nat), f_X3_readFrom_L52 29 nC (x2 : Int) C = some (1, C') ∧ f_X11_load_L31 nR M = postL M' ∧ LSt C0 M0 C' M' nT a' z') ∨
    ∃ C' M' : Mem, f_X3_readFrom_L52 29 nC (x2 : Int) C = some (0, C') ∧ f_X11_load_L31 nR M = postL M' ∧ badT C' M' ∧ kLC C0 C' ∧ kLM M0 M' := by
  intro k
  induction k with
  | zero =>
    intro C M a z x2 st hk hx nC nR hC hR
    obtain ⟨nC, rfl⟩ := nat_ex hC
    obtain ⟨nR, rfl⟩ := nat_ex hR
    have k0 : C 1 2 = 0 ∧ M 0 32 = 0 := by
      obtain ⟨_, h1, h2, q | q | q | q | q⟩ := st.1.2.1
      · exact ⟨q.1, q.2.1⟩
      all_goals omega
    refine Or.inl ⟨C, M, a, z, ?_, ?_, st⟩
    · rw [f_X3_readFrom_L52, if_pos k0.1]
      split <;> rfl
    · rw [L31_s, good_1 st.1.2.2.1, Option.bind_some, if_neg (by decide), if_pos k0.2]
  | succ k ih =>
    intro C M a z x2 st hk hx nC nR hC hR
    by_cases hk' : nT - a ≤ k
    · exact ih C M a z x2 st hk' hx nC nR (by omega) (by omega)
    · obtain ⟨nC, rfl⟩ := nat_ex hC
      obtain ⟨nR, rfl⟩ := nat_ex hR
      have t5 := st.1.1.2.2.1
      have k0 : C 1 2 ≠ 0 ∧ M 0 32 ≠ 0 := by
        obtain ⟨_, h1, h2, q | q | q | q | q⟩ := st.1.2.1 <;> omega
      have gR : f_X11_load_L31 (nR + 1) M = (f_X11_readsStatement M).bind fun M46 => f_X11_load_L31 nR M46 := by
        rw [L31_s, good_1 st.1.2.2.1, Option.bind_some, if_neg (by decide), if_neg k0.2]
      have bad : ∀ M' : Mem, M' 0 34 ≠ 0 → f_X11_load_L31 nR M' = postL M' := fun M' hM => by
        obtain ⟨m, rfl⟩ := nat_ex (show 0 < nR by omega)
        rw [L31_s, good_0 hM, Option.bind_some, if_pos rfl]
      rcases stmt_both st with ⟨C', M', e1, e2, e3, e4, e5⟩ | ⟨C1, C', M', a', z', e1, e2, e3, e4, e5⟩
      · refine Or.inr ⟨C', M', ?_, ?_, e3, e4, e5⟩
        · rw [f_X3_readFrom_L52, if_neg (by omega), if_neg k0.1]
          rcases e1 with e1 | ⟨C1, e1, e1'⟩
          · rw [e1, Option.bind_some]
            dsimp only
            rw [if_pos rfl]
          · rw [e1, Option.bind_some]
            dsimp only
            rw [if_neg (by decide), e1', Option.bind_some]
            dsimp only
            rw [if_pos rfl]
        · rw [gR, e2, Option.bind_some, bad M' e3.1]
      · have i := ih C' M' a' z' (x2 + 1) e4 (by omega) (by omega) nC nR (by omega) (by omega)
        have gC : f_X3_readFrom_L52 29 (nC + 1) (x2 : Int) C = f_X3_readFrom_L52 29 nC ((x2 + 1 : Nat) : Int) C' := by
          rw [f_X3_readFrom_L52, if_neg (by omega), if_neg k0.1, e1, Option.bind_some]
          dsimp only
          rw [if_neg (by decide), e2, Option.bind_some]
          dsimp only
          rw [if_neg (by decide), ck_pos ⟨by omega, by omega⟩, show (x2 : Int) + 1 = ((x2 + 1 : Nat) : Int) by omega]
        rw [gC, gR, e3, Option.bind_some]
        exact i
theorem L_l17 {C0 : Mem} : ∀ (k j m : Nat) (C : Mem), j + k = 5 → k < m → (∀ c : Nat, c ≠ 38 → c ≠ 39 → C c = C0 c) → (∀ i : Nat, i < j → C 38 i = tI i ∧ C 39 i = 0) →
    ∃ C' : Mem, f_X3_readFrom_L17 29 m (j : Int) C = ((f_X8_startReading C').bind fun M47 => f_X3_readFrom_L52 29 jFuel 0 M47) ∧ (∀ c : Nat, c ≠ 38 → c ≠ 39 → C' c = C0 c) ∧ ∀ i : Nat, i < 5 → C' 38 i = tI i ∧ C' 39 i = 0 := by
  intro k
  induction k with
  | zero =>
    intro j m C hj hm f0 f1
    obtain ⟨m, rfl⟩ := nat_ex hm
    refine ⟨C, ?_, f0, fun i hi => f1 i (by omega)⟩
    rw [f_X3_readFrom_L17, if_pos (by omega)]
  | succ k ih =>
    intro j m C hj hm f0 f1
    obtain ⟨m, rfl⟩ := nat_ex hm
    have tj : (jTab 0).getD j 0 = tI j := by
      match j with
      | 0 => rfl
      | 1 => rfl
      | 2 => rfl
      | 3 => rfl
      | 4 => rfl
      | j + 5 => omega
    obtain ⟨C', e1, e2⟩ := ih (j + 1) m (upm (upm C 38 j (tI j)) 39 j 0) (by omega) (by omega) (fun c c1 c2 => by rw [upm_ne c2, upm_ne c1]; exact f0 c c1 c2) (fun i hi => by
      rw [upm_ne (b := 38) (by decide), upm_row, upm_row, updr_ap, updr_ap, upm_ne (b := 39) (by decide)]
      by_cases y : i = j
      · rw [if_pos y, if_pos y, y]; exact ⟨rfl, rfl⟩
      · rw [if_neg y, if_neg y]; exact f1 i (by omega))
    refine ⟨C', ?_, e2⟩
    rw [f_X3_readFrom_L17, if_neg (by omega), ck_pos ⟨by omega, by omega⟩, Int.toNat_natCast, tj, lt_eq, show bar1 0 = 0 by decide, lt_eq, ck_pos ⟨by omega, by omega⟩, show (j : Int) + 1 = ((j + 1 : Nat) : Int) by omega]
    exact e1
theorem L_clr3 {M0 : Mem} : ∀ (k j n : Nat) (M M' : Mem), j + k = 1062 → k < n → (∀ i : Nat, 1062 ≤ i → M 1 i = M0 1 i) → f_X11_clears_L2 n (j : Int) M = some M' → ∀ i : Nat, 1062 ≤ i → M' 1 i = M0 1 i := by
  intro k
  induction k with
  | zero =>
    intro j n M M' hj hn h1 e i hi
    obtain ⟨n, rfl⟩ := nat_ex hn
    rw [f_X11_clears_L2, if_pos (by omega), lt_eq, lt_eq, lt_eq, show (1 : Int).toNat = 1 from rfl, show (2 : Int).toNat = 2 from rfl, show (3 : Int).toNat = 3 from rfl] at e
    rw [← Option.some.inj e, upm_sl (by omega), upm_sl (by omega), upm_sl (by omega)]; exact h1 i hi
  | succ k ih =>
    intro j n M M' hj hn h1 e i hi
    obtain ⟨n, rfl⟩ := nat_ex hn
    rw [f_X11_clears_L2, if_neg (by omega), ck_pos ⟨by omega, by omega⟩, lt_eq, ck_pos ⟨by omega, by omega⟩, Int.toNat_natCast, show (j : Int) + 1 = ((j + 1 : Nat) : Int) by omega] at e
    exact ih (j + 1) n _ M' (by omega) (by omega) (fun i hi => by rw [upm_sl (by omega)]; exact h1 i hi) e i hi
