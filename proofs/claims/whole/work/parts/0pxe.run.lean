/-! blocks opened and closed by the reference -/
theorem opens_R {M : Mem} {d a : Nat} {t m : Int} (e21 : M 0 21 = (d : Int)) (hd : d ≤ 4) (hm : m = 0 ∨ m = 1) (h22 : 0 ≤ M 0 22 ∧ M 0 22 ≤ 1000000) : ∃ M' : Mem, f_X11_opens (a : Int) t m M = some M' ∧ M' 0 21 = (d : Int) + 1 ∧ M' 0 22 = M 0 22 + m ∧ (∀ i : Nat, i ≠ 21 → i ≠ 22 → M' 0 i = M 0 i) ∧ M' 16 d = (a : Int) ∧ M' 17 d = t ∧ M' 18 d = (if m = 0 then 0 else M 0 22 + 1) ∧ (∀ j : Nat, j ≠ d → M' 16 j = M 16 j ∧ M' 17 j = M 17 j ∧ M' 18 j = M 18 j) ∧ ∀ c : Nat, c ≠ 0 → (c < 16 ∨ 18 < c) → M' c = M c := by
  unfold f_X11_opens
  rw [e21, ck_pos ⟨by omega, by omega⟩, Int.toNat_natCast, lt_eq, lt_eq, jn_eq]
  rcases hm with z | z
  · rw [if_pos z]
    dsimp only
    rw [jn_eq, if_pos z]
    dsimp only
    rw [upm_ne (b := 0) (by decide), upm_ne (b := 0) (by decide), e21, ck_pos ⟨by omega, by omega⟩, lt_eq, ck_pos ⟨by omega, by omega⟩, lt_eq, Int.toNat_natCast, if_pos z, z]
    refine ⟨_, rfl, upm_hit, ?_, fun i h1 h2 => ?_, ?_, ?_, ?_, fun j hj => ⟨?_, ?_, ?_⟩, fun c c1 c2 => ?_⟩
    all_goals first | (simp (disch := omega) only [upm_ne, upm_sl, upm_hit]; done) | (simp (disch := omega) only [upm_ne, upm_sl, upm_hit]; omega) | skip
  · rw [if_neg (by omega), ck_pos ⟨by omega, by omega⟩, lt_eq]
    dsimp only
    rw [jn_eq, if_neg (by omega)]
    dsimp only
    rw [upm_sl (j := 21) (by decide), upm_ne (b := 0) (by decide), upm_ne (b := 0) (by decide), upm_hit, e21, ck_pos ⟨by omega, by omega⟩, lt_eq, ck_pos ⟨by omega, by omega⟩, lt_eq, Int.toNat_natCast, if_neg (by omega), z]
    refine ⟨_, rfl, upm_hit, ?_, fun i h1 h2 => ?_, ?_, ?_, ?_, fun j hj => ⟨?_, ?_, ?_⟩, fun c c1 c2 => ?_⟩
    all_goals first | (simp (disch := omega) only [upm_ne, upm_sl, upm_hit]; done) | (simp (disch := omega) only [upm_ne, upm_sl, upm_hit]; omega) | skip
theorem closes_R {M : Mem} {d a c r : Nat} (e21 : M 0 21 = ((d + 1 : Nat) : Int)) (hd : d ≤ 4) (e17 : M 17 d = (r : Int)) (hr : 1 ≤ r ∧ r ≤ 9) (e16 : M 16 d = (a : Int)) (ha : a < 60) (hc : c < 60) : ∃ M' : Mem, f_X11_closes (c : Int) M = some (if r = 1 then ((c + 1 : Nat) : Int) else ((a + 1 : Nat) : Int), M') ∧ M' 0 21 = (if r = 1 then (d : Int) else ((d + 1 : Nat) : Int)) ∧ M' 17 d = (r : Int) - 1 ∧ (∀ i : Nat, i ≠ 21 → M' 0 i = M 0 i) ∧ (∀ j : Nat, j ≠ d → M' 17 j = M 17 j) ∧ ∀ c : Nat, c ≠ 0 → c ≠ 17 → M' c = M c := by
  unfold f_X11_closes
  rw [e21, ck_pos ⟨by omega, by omega⟩, ck_pos ⟨by omega, by omega⟩, show (((d + 1 : Nat) : Int) - 1).toNat = d by omega, e17, ck_pos ⟨by omega, by omega⟩, lt_eq, upm_hit, e16]
  by_cases z : r = 1
  · rw [if_pos (by omega), lt_eq, ck_pos ⟨by omega, by omega⟩, if_pos z, if_pos z]
    refine ⟨_, by rw [show (c : Int) + 1 = ((c + 1 : Nat) : Int) by omega], ?_, ?_, fun i hi => ?_, fun j hj => ?_, fun c c1 c2 => ?_⟩
    · rw [upm_hit]; omega
    all_goals simp (disch := omega) only [upm_ne, upm_sl, upm_hit]
  · rw [if_neg (by omega), ck_pos ⟨by omega, by omega⟩, if_neg z, if_neg z]
    refine ⟨_, by rw [show (a : Int) + 1 = ((a + 1 : Nat) : Int) by omega], ?_, ?_, fun i hi => ?_, fun j hj => ?_, fun c c1 c2 => ?_⟩
    · rw [upm_ne (by decide)]; exact e21
    all_goals simp (disch := omega) only [upm_ne, upm_sl, upm_hit]
theorem go_R {M : Mem} {a n : Nat} (ha : (a : Int) < M 1 8) (h17 : M 0 17 ≤ 60) : f_X11_laysPieces_L17 (n + 1) (a : Int) M = (f_X11_goesThrough (a : Int) M).bind fun (r39, M39) => f_X11_laysPieces_L17 n r39 M39 := by
  rw [f_X11_laysPieces_L17, show (8 : Int).toNat = 8 from rfl, if_neg (by omega), if_neg (by omega)]
theorem Inv.chg {g : Row} {C M C' M' : Mem} {P d d' : Nat} {S S' : List (Int × Int)} (v : Inv g C M P d S) (eC : ∀ c : Nat, 57 ≤ c → c ≤ 62 → C' c = C c) (e0 : C' 56 0 = C 56 0) (e1 : C' 56 1 = C 56 1) (eM : ∀ c : Nat, c = 1 ∨ (7 ≤ c ∧ c ≤ 15) → M' c = M c) (e17 : M' 0 17 = M 0 17) (e22 : M 0 22 ≤ M' 0 22) (h21 : M' 0 21 = (d' : Int)) (hS : S' = stkL M' g d') (hd : d' ≤ 4) (h16 : ∀ j : Nat, j < d' → ∃ r : Nat, M' 16 j = (r : Int) ∧ r < 60) (hp : ∀ p ∈ S', p.1 ≤ M' 0 22 ∧ 0 ≤ p.2 ∧ p.2 ≤ 40) (hc : 0 < P → ∀ L : List (Int × Int), (∀ p ∈ L, p.1 ≤ M 0 22) → C 56 9 = (cpl S L : Nat) → C' 56 9 = (cpl S' L : Nat)) : Inv g C' M' P d' S' := by
  obtain ⟨⟨T, ⟨⟨t1, t2, t3, t4, t5⟩, tk, tf, tz, tn⟩, tc⟩, _, _, _⟩ := v
  refine ⟨⟨T, ⟨⟨e0.trans t1, e17.trans t2, t3, (eM 1 (by omega)).trans t4, by omega⟩, fun k hk => ?_, fun z => ?_, fun z => e1.trans (tz z), fun k hk => ?_⟩, fun z => hc z _ (fun p hp => ((tk (P - 1) (by omega)).2.2.2.2.2.2.2 p hp).1) (tc z)⟩, ⟨h21, hS, hd⟩, h16, hp⟩
  · obtain ⟨q1, q2, q3, q4, q5, q6, q7, q8⟩ := tk k hk
    rw [eC 57 (by omega) (by omega), eC 58 (by omega) (by omega), eC 59 (by omega) (by omega), eC 60 (by omega) (by omega), eC 61 (by omega) (by omega), eM 7 (by omega), eM 8 (by omega), eM 9 (by omega), eM 10 (by omega)]
    exact ⟨q1, q2, q3, q4, q5, q6.eqv (by rw [eM 13 (by omega)]) (fun i hi => by rw [eM 14 (by omega), eM 15 (by omega)]; exact ⟨rfl, rfl⟩), q7, fun p hp => by have := q8 p hp; omega⟩
  · rw [eC 61 (by omega) (by omega), eC 62 (by omega) (by omega), eC 60 (by omega) (by omega), e1]; exact tf z
  · rw [eC 61 (by omega) (by omega), eC 62 (by omega) (by omega), eC 60 (by omega) (by omega)]; exact tn k hk
def stkK (d : Nat) (M M' : Mem) : Prop := (∀ j : Nat, j < d → M' 16 j = M 16 j ∧ M' 17 j = M 17 j ∧ M' 18 j = M 18 j) ∧ layK M M'
theorem stkK.trans {d : Nat} {M1 M2 M3 : Mem} (h : stkK d M1 M2) (h2 : stkK d M2 M3) : stkK d M1 M3 :=
  ⟨fun j hj => ⟨(h2.1 j hj).1.trans (h.1 j hj).1, (h2.1 j hj).2.1.trans (h.1 j hj).2.1, (h2.1 j hj).2.2.trans (h.1 j hj).2.2⟩, fun c c1 c2 => (h2.2.1 c c1 c2).trans (h.2.1 c c1 c2), fun j j1 j2 j3 => (h2.2.2 j j1 j2 j3).trans (h.2.2 j j1 j2 j3)⟩
theorem stkK.low {d d' : Nat} {M1 M2 : Mem} (h : stkK d M1 M2) (hd : d' ≤ d) : stkK d' M1 M2 := ⟨fun j hj => h.1 j (by omega), h.2⟩
/-- the weight of a depth: how often its rows may be gone through -/
def wt (d : Nat) : Nat := 9 ^ (4 - d)
theorem wt_s {d : Nat} (h : d < 4) : wt d = 9 * wt (d + 1) := by
  unfold wt
  rw [show 4 - d = (4 - (d + 1)) + 1 by omega, Nat.pow_succ, Nat.mul_comm]
theorem wt_p (d : Nat) : 1 ≤ wt d := by unfold wt; exact Nat.pow_pos (by decide)
def RunC (g : Row) (d a b N : Nat) : Prop := ∀ (C M : Mem) (P : Nat) (S : List (Int × Int)), RSi C 5 g → Inv g C M P d S → Ovl C S → P + N ≤ 60 → M 0 22 + (((b - a) * wt d : Nat) : Int) ≤ 1000000 →
  ∃ (C' M' : Mem) (s : Nat), s ≤ (b - a) * wt d ∧ (∀ (n : Nat) (e : Int), ((it g b : Nat) : Int) ≤ e → f_X5_addItems_L3 (g_X5_addItems (5 - d)) 5 e (d : Int) (S.length : Nat) (n + (it g b - it g a)) (it g a : Nat) C = f_X5_addItems_L3 (g_X5_addItems (5 - d)) 5 e (d : Int) (S.length : Nat) n (it g b : Nat) C') ∧
    (∀ n : Nat, f_X11_laysPieces_L17 (n + s) (a : Int) M = f_X11_laysPieces_L17 n (b : Int) M') ∧ Inv g C' M' (P + N) d S ∧ Ovl C' S ∧ (∀ c : Nat, c < 56 ∨ 63 < c → C' c = C c) ∧ (N = 0 → ∀ c : Nat, c ≠ 63 → C' c = C c) ∧ stkK d M M' ∧ M' 0 22 ≤ M 0 22 + (s : Int)
def hasPc (g : Row) (a b : Nat) : Prop := ∃ t : Nat, a ≤ t ∧ t < b ∧ (rk g t = 0 ∨ rk g t = 1)
def RunQ (g : Row) (d a b N : Nat) : Prop := a ≤ b ∧ (b : Int) ≤ g 8 ∧ dp g b = (d : Int) ∧ (N = 0 → ∀ t : Nat, a ≤ t → t < b → ¬ (rk g t = 0 ∨ rk g t = 1)) ∧ (0 < N → hasPc g a b) ∧ RunC g d a b N
theorem rc_C {g : Row} {C C' : Mem} {d a c : Nat} {x : Int} (hd : d < 4) (hi : WFi g) (hc : (c : Int) ≤ g 8) (h : ∀ (n : Nat) (e : Int), ((it g c : Nat) : Int) ≤ e → f_X5_addItems_L3 (g_X5_addItems (5 - (d + 1))) 5 e ((d + 1 : Nat) : Int) x (n + (it g c - it g a)) (it g a : Nat) C = f_X5_addItems_L3 (g_X5_addItems (5 - (d + 1))) 5 e ((d + 1 : Nat) : Int) x n (it g c : Nat) C') : g_X5_addItems (5 - d) 5 (it g a : Nat) (it g c : Nat) ((d + 1 : Nat) : Int) x C = some C' := by
  have m2 := it_mono g ((g 8).toNat - c) c
  rw [show c + ((g 8).toNat - c) = (g 8).toNat by omega] at m2
  have h30 := hi.2.2.1
  have jf : (it g c - it g a) + 1 < jFuel := jF (by omega)
  have := h (jFuel - (it g c - it g a) - 1 + 1) (it g c : Nat) (Int.le_refl _)
  rw [show jFuel - (it g c - it g a) - 1 + 1 + (it g c - it g a) = jFuel by omega] at this
  rw [show 5 - d = (5 - (d + 1)) + 1 by omega]
  show f_X5_addItems_L3 (g_X5_addItems (5 - (d + 1))) 5 (it g c : Nat) ((d + 1 : Nat) : Int) x jFuel (it g a : Nat) C = some C'
  rw [this, f_X5_addItems_L3, if_pos (Int.le_refl _)]
