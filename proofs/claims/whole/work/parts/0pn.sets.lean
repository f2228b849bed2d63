/-! settings, undo, restore -/
theorem RUn.eqv {Mc Mr Mc' Mr' : Mem} (h : RUn Mc Mr) (fc : ∀ c : Nat, c = 0 ∨ (74 ≤ c ∧ c < 266) → Mc' c = Mc c) (f6 : Mr' 0 6 = Mr 0 6) (f3 : Mr' 3 = Mr 3) : RUn Mc' Mr' := by
  unfold RUn at h ⊢
  rw [fc 0 (by omega), f6, f3]
  refine ⟨h.1, h.2.1, h.2.2.1, fun j hj => ⟨((h.2.2.2 j hj).1).eqv (fun i _ _ => fc _ (by omega)), (h.2.2.2 j hj).2⟩⟩
theorem act_done (hc : CutOK) {k k' : Nat} {Mc Mr Mc2 M2 : Mem} (h : Rel k Mc Mr) {g' : Row} (fc : ∀ c : Nat, (1 ≤ c ∧ c ≤ 4) ∨ c = 55 ∨ 266 ≤ c → Mc2 c = Mc c) (f72 : Mc2 72 0 = Mc 72 0) (fr : ∀ c : Nat, c = 4 ∨ c = 6 ∨ c = 22 ∨ c = 29 → M2 c = Mr c) (fr0 : ∀ j : Nat, j = 29 ∨ j = 36 ∨ j = 37 ∨ j = 51 → M2 0 j = Mr 0 j)
    (un : RUn Mc2 M2) (ac : RAc k' Mc2 M2) (eg : M2 1 = g') (r : RS Mc2 5 g') (w : WF g') :
    ∃ Mc3 : Mem, f_X10_settle Mc2 = some Mc3 ∧ Rel k' Mc3 M2 ∧ (∀ c : Nat, c < 56 ∨ 67 < c → Mc3 c = Mc2 c) ∧ Mc3 64 1 = wEnd g' := by
  obtain ⟨Mc3, a1, a2, a3, a4⟩ := settle_C hc r w
  refine ⟨Mc3, a1, h.act (fun c q => by rw [a2 c (by omega)]; exact fc c q) (by rw [a2 72 (by omega)]; exact f72) fr fr0 ?_ (un.eqv (fun c q => a2 c (by omega)) rfl rfl) ?_ (by rw [eg]; exact w) (by rw [eg]; exact a3) (by rw [eg]; exact a4), a2, a4.2.1⟩
  · intro i hi
    rw [a2 73 (by omega)]; exact ac i hi
  · rw [eg]; exact r.eqv (fun j _ _ => a2 _ (by omega))
theorem rS_ok {c x lo hi : Int} {M : Mem} (hc : 0 ≤ c ∧ c < 5) (h1 : (jTab 1).getD c.toNat 0 = lo) (h2 : (jTab 2).getD c.toNat 0 = hi) (h : lo ≤ x ∧ x ≤ hi) : f_X10_requireSetting c x M = some () ∧ x_X10_requireSetting c x M = none := by
  constructor
  · unfold f_X10_requireSetting
    rw [if_neg (by omega), if_pos hc.2, ck_pos hc, h1, h2, (rR_ok h).1]; rfl
  · unfold x_X10_requireSetting
    rw [if_neg (by omega), if_pos hc.2, ck_pos hc, h1, h2, (rR_ok h).1, (rR_ok h).2]; rfl
theorem rS_no {c x lo hi : Int} {M : Mem} (hc : 0 ≤ c ∧ c < 5) (h1 : (jTab 1).getD c.toNat 0 = lo) (h2 : (jTab 2).getD c.toNat 0 = hi) (h : ¬ (lo ≤ x ∧ x ≤ hi)) : x_X10_requireSetting c x M = some (2, M) := by
  unfold x_X10_requireSetting
  rw [if_neg (by omega), if_pos hc.2, ck_pos hc, h1, h2, rR_no h]; rfl
theorem set_C {j : Nat} (hj : j < 5) (v : Int) (M : Mem) : f_X3_set 5 (j : Int) v M = some (upm M (5 + 9) j v) := by
  unfold f_X3_set
  rw [if_neg (by omega), if_neg (by omega), ck_pos ⟨by omega, by omega⟩, lt_eq, Int.toNat_natCast]
theorem set_RS {M : Mem} {g : Row} {j : Nat} (hj : j < 5) (v : Int) (w : WF g) (r : RS M 5 g) : RS (upm M (5 + 9) j v) 5 (updr g j v) := by
  refine RS_c2 (g := g) (M := M) (fun i h5 _ => updr_ne (by omega)) (fun i _ _ h9 => upm_ne (by omega)) (fun i hi => ?_) w r
  rw [upm_row, updr_ap, updr_ap, r.1.2.2.2.2.2.2 i hi]
theorem set_WF {g : Row} {j : Nat} (hj : j < 5) {v : Int} (w : WF g) (ws : WFs (updr g j v)) : WF (updr g j v) := WF_c (fun i h5 _ => updr_ne (by omega)) ws w
/-! counted bits of the two masks -/
theorem pop_top : ∀ (k a j : Nat), a < 2 ^ j → j < k → pop k (a + 2 ^ j) = pop k a + 1 := by
  intro k
  induction k with
  | zero => intro a j _ h; omega
  | succ k ih =>
    intro a j ha hj
    show (a + 2 ^ j) % 2 + pop k ((a + 2 ^ j) / 2) = a % 2 + pop k (a / 2) + 1
    by_cases z : j = 0
    · subst z
      have : a = 0 := by simpa using ha
      subst this
      show 1 + pop k 0 = 0 + pop k 0 + 1
      omega
    · obtain ⟨i, rfl⟩ : ∃ i, j = i + 1 := ⟨j - 1, by omega⟩
      have p2 : 2 ^ (i + 1) = 2 ^ i * 2 := Nat.pow_succ 2 i
      have e := ih (a / 2) i (by omega) (by omega)
      rw [show (a + 2 ^ (i + 1)) / 2 = a / 2 + 2 ^ i by omega, e]
      omega
theorem pop_0 : ∀ k : Nat, pop k 0 = 0 := by
  intro k
  induction k with
  | zero => rfl
  | succ k ih => show 0 % 2 + pop k (0 / 2) = 0; simpa using ih
theorem pop_both (g : Row) (w : Int) : ∀ j : Nat, j ≤ 12 → pop 12 (alM g w j) + pop 12 (bnM g w j) = j := by
  intro j
  induction j with
  | zero => intro _; show pop 12 0 + pop 12 0 = 0; rw [pop_0]
  | succ j ih =>
    intro hj
    have e := ih (by omega)
    show pop 12 (alM g w j + ite _ _ _) + pop 12 (bnM g w j + ite _ _ _) = _
    by_cases c : bnd g w j = 0
    · rw [if_pos c, if_pos c, pop_top 12 _ j (alM_b g w j) (by omega), show bnM g w j + 0 = bnM g w j from rfl]; omega
    · rw [if_neg c, if_neg c, pop_top 12 _ j (bnM_b g w j) (by omega), show alM g w j + 0 = alM g w j from rfl]; omega
theorem p_setWeek (hc : CutOK) {k : Nat} {Mc Mr : Mem} (h : Rel k Mc Mr) (hk : k < 512) (p : Int) : ∃ Mc' Mr' : Mem, st_setWeek p Mc Mr Mc' Mr' ∧ Rel (k + 1) Mc' Mr' := by
  have hl := h.wf.1
  by_cases hp : 0 ≤ p ∧ p ≤ 99
  · obtain ⟨Mc1, M1, a1, a2, a3, a4, a5, a6, a7⟩ := both_rem h hk (M := upm Mr 0 7 0) (thr_ne _ _ (by decide)) (thr_ne _ _ (by decide)) (thr_ne _ _ (by decide)) (thr_sl _ _ (by decide))
    have e1 : M1 1 = Mr 1 := (a4 1 (by decide) (by decide) (by decide)).trans (thr_ne _ _ (by decide))
    have r1 : RS Mc1 5 (Mr 1) := h.rs.eqv (fun j _ _ => a3 _ (by omega) (by omega) (by omega))
    have w' : WF (updr (Mr 1) 0 p) := set_WF (by omega) h.wf ⟨hp, by rw [updr_ne (by decide)]; exact hl.2.1, by rw [updr_ne (by decide)]; exact hl.2.2.1, by rw [updr_ne (by decide)]; exact hl.2.2.2.1, by rw [updr_ne (by decide)]; exact hl.2.2.2.2.1⟩
    have eg : (upm M1 1 0 p) 1 = updr (Mr 1) 0 p := by rw [upm_row, e1]
    obtain ⟨Mc3, s1, s2, s3, s4⟩ := act_done hc h (Mc2 := upm Mc1 (5 + 9) 0 p) (M2 := upm M1 1 0 p) (fun c q => by rw [upm_ne (by omega)]; exact a3 c (by omega) (by omega) (by omega)) (by rw [upm_ne (by decide), a3 72 (by decide) (by decide) (by omega)]) (fun c q => by rw [upm_ne (by omega), a4 c (by omega) (by omega) (by omega), thr_ne _ _ (by omega)]) (fun j q => by rw [upm_ne (by decide), a5 j (by omega), thr_sl _ _ (by omega)]) (a6.eqv (fun c q => upm_ne (by omega)) (by rw [upm_ne (by decide)]) (upm_ne (by decide))) (fun i hi => by rw [upm_ne (by decide), upm_ne (by decide)]; exact a7 i hi) eg (set_RS (by omega) p h.wf r1) w'
    have rl3 : RSl Mc3 5 (updr (Mr 1) 0 p) := by have := s2.rs.1; rw [eg] at this; exact this
    have al := al_C w'.1 rl3 p
    have bm := bm_R (M := upm M1 1 0 p) (by rw [eg]; exact w'.1) p
    rw [eg] at bm
    have pb := pop_both (updr (Mr 1) 0 p) p (updr (Mr 1) 0 p 5).toNat (by have := w'.1.2.2.2.2.2.1; omega)
    have e5 : Mc3 6 0 = updr (Mr 1) 0 p 5 := rl3.1
    have h5 := w'.1.2.2.2.2.2.1
    have l1 := alM_12 w'.1 p
    have l2 := bnM_12 w'.1 p
    refine ⟨Mc3, upm M1 1 0 p, Or.inl ⟨(pop 12 (bnM (updr (Mr 1) 0 p) p (updr (Mr 1) 0 p 5).toNat) : Nat), ?_, ?_, ?_⟩, s2⟩
    · unfold f_X10_setWeek
      have sc : f_X3_set 5 0 p Mc1 = some (upm Mc1 (5 + 9) 0 p) := set_C (j := 0) (by omega) p Mc1
      rw [(rS_ok (lo := 0) (hi := 99) ⟨by omega, by omega⟩ rfl rfl hp).1, Option.bind_some, a1, Option.bind_some, sc, Option.bind_some, s1, Option.bind_some, al, Option.bind_some, pop_C l1, Option.bind_some, e5, ck_pos ⟨by omega, by omega⟩]
      congr 2
      omega
    · unfold f_X11_setWeek
      rw [isIn_eq, if_pos hp, Option.bind_some, goes1, Option.bind_some]
      simp only []
      rw [if_neg (by decide), a2, Option.bind_some, lt_eq, show (0 : Int).toNat = 0 from rfl, bm, Option.bind_some, pop_R l2]; rfl
    · rw [upm_ne (by decide), a5 7 (by decide)]; exact thr_at _ _
  · refine ⟨Mc, upm Mr 0 7 1, Or.inr ⟨?_, 0, ?_, thr_at _ _⟩, h.scr keepC.rfl keepR.thr (by omega)⟩
    · unfold x_X10_setWeek
      rw [rS_no (lo := 0) (hi := 99) ⟨by omega, by omega⟩ rfl rfl hp]; rfl
    · unfold f_X11_setWeek
      rw [isIn_eq, if_neg hp, Option.bind_some, goes0, Option.bind_some]
      simp
theorem p_setSlack (hc : CutOK) {k : Nat} {Mc Mr : Mem} (h : Rel k Mc Mr) (hk : k < 512) (p : Int) : ∃ Mc' Mr' : Mem, st_setSlack p Mc Mr Mc' Mr' ∧ Rel (k + 1) Mc' Mr' := by
  have hl := h.wf.1
  by_cases hp : 0 ≤ p ∧ p ≤ 100
  · obtain ⟨Mc1, M1, a1, a2, a3, a4, a5, a6, a7⟩ := both_rem h hk (M := upm Mr 0 7 0) (thr_ne _ _ (by decide)) (thr_ne _ _ (by decide)) (thr_ne _ _ (by decide)) (thr_sl _ _ (by decide))
    have e1 : M1 1 = Mr 1 := (a4 1 (by decide) (by decide) (by decide)).trans (thr_ne _ _ (by decide))
    have r1 : RS Mc1 5 (Mr 1) := h.rs.eqv (fun j _ _ => a3 _ (by omega) (by omega) (by omega))
    have w' : WF (updr (Mr 1) 4 p) := set_WF (by omega) h.wf ⟨by rw [updr_ne (by decide)]; exact hl.1, by rw [updr_ne (by decide)]; exact hl.2.1, by rw [updr_ne (by decide)]; exact hl.2.2.1, by rw [updr_ne (by decide)]; exact hl.2.2.2.1, hp⟩
    have eg : (upm M1 1 4 p) 1 = updr (Mr 1) 4 p := by rw [upm_row, e1]
    obtain ⟨Mc3, s1, s2, s3, s4⟩ := act_done hc h (Mc2 := upm Mc1 (5 + 9) 4 p) (M2 := upm M1 1 4 p) (fun c q => by rw [upm_ne (by omega)]; exact a3 c (by omega) (by omega) (by omega)) (by rw [upm_ne (by decide), a3 72 (by decide) (by decide) (by omega)]) (fun c q => by rw [upm_ne (by omega), a4 c (by omega) (by omega) (by omega), thr_ne _ _ (by omega)]) (fun j q => by rw [upm_ne (by decide), a5 j (by omega), thr_sl _ _ (by omega)]) (a6.eqv (fun c q => upm_ne (by omega)) (by rw [upm_ne (by decide)]) (upm_ne (by decide))) (fun i hi => by rw [upm_ne (by decide), upm_ne (by decide)]; exact a7 i hi) eg (set_RS (by omega) p h.wf r1) w'
    refine ⟨Mc3, upm M1 1 4 p, Or.inl ⟨Mr 1 4, ?_, ?_, ?_⟩, s2⟩
    · unfold f_X10_setSlack
      have sc : f_X3_set 5 4 p Mc1 = some (upm Mc1 (5 + 9) 4 p) := set_C (j := 4) (by omega) p Mc1
      have s4 : f_X3_setting 5 4 Mc = some (Mr 1 4) := set_ev h.rs.1 (i := 4) (by omega)
      rw [(rS_ok (lo := 0) (hi := 100) ⟨by omega, by omega⟩ rfl rfl hp).1, Option.bind_some, s4, Option.bind_some, a1, Option.bind_some, sc, Option.bind_some, s1]; rfl
    · unfold f_X11_setSlack
      rw [isIn_eq, if_pos hp, Option.bind_some, goes1, Option.bind_some]
      simp only []
      rw [if_neg (by decide), a2, Option.bind_some, lt_eq, show (4 : Int).toNat = 4 from rfl, e1]
    · rw [upm_ne (by decide), a5 7 (by decide)]; exact thr_at _ _
  · refine ⟨Mc, upm Mr 0 7 1, Or.inr ⟨?_, 0, ?_, thr_at _ _⟩, h.scr keepC.rfl keepR.thr (by omega)⟩
    · unfold x_X10_setSlack
      rw [rS_no (lo := 0) (hi := 100) ⟨by omega, by omega⟩ rfl rfl hp]; rfl
    · unfold f_X11_setSlack
      rw [isIn_eq, if_neg hp, Option.bind_some, goes0, Option.bind_some]
      simp
