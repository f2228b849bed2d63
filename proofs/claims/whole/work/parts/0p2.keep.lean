/-! what doesn't matter may change -/
def keepC (M M' : Mem) : Prop :=
  (∀ c : Nat, c = 2 ∨ c = 4 ∨ (6 ≤ c ∧ c ≤ 27) ∨ c = 55 ∨ (57 ≤ c ∧ c ≤ 62) ∨ (64 ≤ c ∧ c ≤ 67) ∨ 73 ≤ c → M' c = M c) ∧
  M' 0 5 = M 0 5 ∧ M' 0 6 = M 0 6 ∧ M' 1 1 = M 1 1 ∧ M' 1 7 = M 1 7 ∧ M' 1 8 = M 1 8 ∧ M' 3 1 = M 3 1 ∧ M' 56 0 = M 56 0 ∧ M' 56 1 = M 56 1 ∧ M' 72 0 = M 72 0
def keepR (M M' : Mem) : Prop :=
  (∀ c : Nat, c = 1 ∨ (3 ≤ c ∧ c ≤ 6) ∨ c = 22 ∨ c = 29 → M' c = M c) ∧ M' 0 6 = M 0 6 ∧ M' 0 29 = M 0 29 ∧ M' 0 36 = M 0 36 ∧ M' 0 37 = M 0 37 ∧ M' 0 51 = M 0 51
theorem keepC.rfl {M : Mem} : keepC M M := ⟨fun _ _ => _root_.rfl, _root_.rfl, _root_.rfl, _root_.rfl, _root_.rfl, _root_.rfl, _root_.rfl, _root_.rfl, _root_.rfl, _root_.rfl⟩
theorem keepR.rfl {M : Mem} : keepR M M := ⟨fun _ _ => _root_.rfl, _root_.rfl, _root_.rfl, _root_.rfl, _root_.rfl, _root_.rfl⟩
theorem keepC.trans {M M1 M2 : Mem} (h : keepC M M1) (h2 : keepC M1 M2) : keepC M M2 :=
  ⟨fun c hc => (h2.1 c hc).trans (h.1 c hc), h2.2.1.trans h.2.1, h2.2.2.1.trans h.2.2.1, h2.2.2.2.1.trans h.2.2.2.1, h2.2.2.2.2.1.trans h.2.2.2.2.1, h2.2.2.2.2.2.1.trans h.2.2.2.2.2.1, h2.2.2.2.2.2.2.1.trans h.2.2.2.2.2.2.1, h2.2.2.2.2.2.2.2.1.trans h.2.2.2.2.2.2.2.1, h2.2.2.2.2.2.2.2.2.1.trans h.2.2.2.2.2.2.2.2.1, h2.2.2.2.2.2.2.2.2.2.trans h.2.2.2.2.2.2.2.2.2⟩
theorem keepR.trans {M M1 M2 : Mem} (h : keepR M M1) (h2 : keepR M1 M2) : keepR M M2 :=
  ⟨fun c hc => (h2.1 c hc).trans (h.1 c hc), h2.2.1.trans h.2.1, h2.2.2.1.trans h.2.2.1, h2.2.2.2.1.trans h.2.2.2.1, h2.2.2.2.2.1.trans h.2.2.2.2.1, h2.2.2.2.2.2.trans h.2.2.2.2.2⟩
theorem RS.eqv {M M' : Mem} {s : Nat} {g : Row} (h : RS M s g) (e : ∀ j : Nat, 1 ≤ j → j ≤ 22 → M' (s + j) = M (s + j)) : RS M' s g := by
  obtain ⟨⟨a1, a2, a3, a4, a5, a6, a7⟩, ⟨b1, b2, b3, b4⟩, c1, c2⟩ := h
  refine ⟨⟨?_, ?_, ?_, ?_, ?_, ?_, ?_⟩, ⟨?_, ?_, ?_, ?_⟩, ?_, ?_⟩
  · rw [e 1 (by omega) (by omega)]; exact a1
  · rw [e 1 (by omega) (by omega)]; exact a2
  · rw [e 1 (by omega) (by omega)]; exact a3
  · rw [e 2 (by omega) (by omega), e 3 (by omega) (by omega)]; exact a4
  · rw [e 4 (by omega) (by omega), e 5 (by omega) (by omega)]; exact a5
  · rw [e 6 (by omega) (by omega), e 7 (by omega) (by omega), e 8 (by omega) (by omega)]; exact a6
  · rw [e 9 (by omega) (by omega)]; exact a7
  · rw [e 11 (by omega) (by omega)]; exact b1
  · rw [e 11 (by omega) (by omega)]; exact b2
  · rw [e 13 (by omega) (by omega), e 14 (by omega) (by omega), e 15 (by omega) (by omega), e 16 (by omega) (by omega)]; exact b3
  · rw [e 12 (by omega) (by omega)]; exact b4
  · rw [e 17 (by omega) (by omega)]; exact c1
  · rw [e 18 (by omega) (by omega), e 19 (by omega) (by omega), e 20 (by omega) (by omega), e 21 (by omega) (by omega), e 22 (by omega) (by omega)]; exact c2
theorem PcsOK.eqv {M M' : Mem} {g : Row} (h : PcsOK M g) (e : ∀ c : Nat, 57 ≤ c → c ≤ 62 → M' c = M c) (e0 : M' 56 0 = M 56 0) (e1 : M' 56 1 = M 56 1) : PcsOK M' g := by
  unfold PcsOK at h ⊢
  rw [e0, e1, e 57 (by omega) (by omega), e 58 (by omega) (by omega), e 59 (by omega) (by omega), e 60 (by omega) (by omega), e 61 (by omega) (by omega), e 62 (by omega) (by omega)]
  exact h
theorem RPc.eqv {M M' : Mem} {g : Row} (h : RPc M g) (e : ∀ c : Nat, 57 ≤ c → c ≤ 62 → M' c = M c) (e0 : M' 56 0 = M 56 0) (e1 : M' 56 1 = M 56 1) : RPc M' g := by
  refine ⟨h.1.eqv e e0 e1, fun Mr hr => ?_⟩
  obtain ⟨M1, h1, h2, h3⟩ := h.2 Mr hr
  refine ⟨M1, h1, h2, ?_⟩
  unfold PcsEq at h3 ⊢
  rw [e0, e 57 (by omega) (by omega), e 58 (by omega) (by omega), e 59 (by omega) (by omega), e 60 (by omega) (by omega), e 61 (by omega) (by omega), e 62 (by omega) (by omega)]
  exact h3
theorem Rel.scr {k k' : Nat} {Mc Mr Mc' Mr' : Mem} (h : Rel k Mc Mr) (hc : keepC Mc Mc') (hr : keepR Mr Mr') (hk : k ≤ k') : Rel k' Mc' Mr' := by
  obtain ⟨h1, h2, h3, h4, h5, h6, h7, h8, h9, h10, h11⟩ := h
  obtain ⟨c0, c1, c2, c3, c4, c5, c6, c7, c8, c9⟩ := hc
  obtain ⟨r0, r1, r2, r3, r4, r5⟩ := hr
  have er : Mr' 1 = Mr 1 := r0 1 (by omega)
  refine ⟨?_, ?_, ?_, ?_, ?_, ?_, ?_, ?_, ?_, ?_, c9.trans h11⟩
  · unfold RTx at h1 ⊢
    rw [c3, r2, c0 2 (by omega), r0 22 (by omega)]; exact h1
  · rw [c4, c5, r3, r4]; exact h2
  · unfold ROu at h3 ⊢
    rw [c6, r5, c0 4 (by omega), r0 29 (by omega)]; exact h3
  · intro i hi
    rw [c0 73 (by omega), r0 5 (by omega)]
    obtain ⟨a, b, c⟩ := h4 i hi
    exact ⟨a, b, by omega⟩
  · unfold RUn at h5 ⊢
    rw [c1, c2, r1, r0 3 (by omega)]
    refine ⟨h5.1, h5.2.1, h5.2.2.1, fun j hj => ⟨((h5.2.2.2 j hj).1).eqv (fun i _ _ => c0 _ (by omega)), (h5.2.2.2 j hj).2⟩⟩
  · intro t ht
    obtain ⟨a, b, c⟩ := h6 t ht
    rw [c0 55 (by omega), r0 6 (by omega), r0 4 (by omega)]
    exact ⟨a, b, fun h => ⟨(c h).1.eqv (fun i _ _ => c0 _ (by omega)), (c h).2⟩⟩
  · rw [er]; exact h7.eqv (fun i _ _ => c0 _ (by omega))
  · rw [er]; exact h8
  · rw [er]; exact h9.eqv (fun c _ _ => c0 c (by omega)) c7 c8
  · unfold RSp at h10 ⊢
    rw [er, c0 64 (by omega), c0 65 (by omega), c0 66 (by omega), c0 67 (by omega)]; exact h10
/-- all but the text and its errors -/
def keepT (M M' : Mem) : Prop :=
  (∀ c : Nat, c = 4 ∨ (6 ≤ c ∧ c ≤ 27) ∨ c = 55 ∨ (57 ≤ c ∧ c ≤ 62) ∨ (64 ≤ c ∧ c ≤ 67) ∨ 73 ≤ c → M' c = M c) ∧
  M' 0 5 = M 0 5 ∧ M' 0 6 = M 0 6 ∧ M' 3 1 = M 3 1 ∧ M' 56 0 = M 56 0 ∧ M' 56 1 = M 56 1 ∧ M' 72 0 = M 72 0
def keepU (M M' : Mem) : Prop :=
  (∀ c : Nat, c = 1 ∨ (3 ≤ c ∧ c ≤ 6) ∨ c = 29 → M' c = M c) ∧ M' 0 6 = M 0 6 ∧ M' 0 51 = M 0 51
theorem Rel.txt {k k' : Nat} {Mc Mr Mc' Mr' : Mem} (h : Rel k Mc Mr) (hc : keepT Mc Mc') (hr : keepU Mr Mr') (ht : RTx Mc' Mr') (he : Mc' 1 7 = Mr' 0 36 ∧ Mc' 1 8 = Mr' 0 37) (hk : k ≤ k') : Rel k' Mc' Mr' := by
  obtain ⟨h1, h2, h3, h4, h5, h6, h7, h8, h9, h10, h11⟩ := h
  obtain ⟨c0, c1, c2, c6, c7, c8, c9⟩ := hc
  obtain ⟨r0, r1, r5⟩ := hr
  have er : Mr' 1 = Mr 1 := r0 1 (by omega)
  refine ⟨ht, he, ?_, ?_, ?_, ?_, ?_, ?_, ?_, ?_, c9.trans h11⟩
  · unfold ROu at h3 ⊢
    rw [c6, r5, c0 4 (by omega), r0 29 (by omega)]; exact h3
  · intro i hi
    rw [c0 73 (by omega), r0 5 (by omega)]
    obtain ⟨a, b, c⟩ := h4 i hi
    exact ⟨a, b, by omega⟩
  · unfold RUn at h5 ⊢
    rw [c1, c2, r1, r0 3 (by omega)]
    refine ⟨h5.1, h5.2.1, h5.2.2.1, fun j hj => ⟨((h5.2.2.2 j hj).1).eqv (fun i _ _ => c0 _ (by omega)), (h5.2.2.2 j hj).2⟩⟩
  · intro t ht
    obtain ⟨a, b, c⟩ := h6 t ht
    rw [c0 55 (by omega), r0 6 (by omega), r0 4 (by omega)]
    exact ⟨a, b, fun h => ⟨(c h).1.eqv (fun i _ _ => c0 _ (by omega)), (c h).2⟩⟩
  · rw [er]; exact h7.eqv (fun i _ _ => c0 _ (by omega))
  · rw [er]; exact h8
  · rw [er]; exact h9.eqv (fun c _ _ => c0 c (by omega)) c7 c8
  · unfold RSp at h10 ⊢
    rw [er, c0 64 (by omega), c0 65 (by omega), c0 66 (by omega), c0 67 (by omega)]; exact h10
/-! the reference's flag of throws -/
theorem keepR.thr {M : Mem} {v : Int} : keepR M (upm M 0 7 v) := by
  refine ⟨fun c hc => upm_ne (by omega), ?_, ?_, ?_, ?_, ?_⟩ <;> simp [upm_at, updr_ap]
theorem isIn_eq (x a b : Int) (M : Mem) : f_X11_isIn x a b M = some (if a ≤ x ∧ x ≤ b then 1 else 0) := by
  unfold f_X11_isIn
  by_cases h1 : x < a
  · rw [if_pos h1, if_neg (by omega)]
  · rw [if_neg h1]
    by_cases h2 : b < x
    · rw [if_pos h2, if_neg (by omega)]
    · rw [if_neg h2, if_pos (by omega)]
theorem bit_eq {x : Int} (M : Mem) : f_X11_bit x M = some (if x = 0 then 0 else 1) := by unfold f_X11_bit; split <;> rfl
theorem goes0 (M : Mem) : f_X11_goes 0 M = some (0, upm M 0 7 1) := by simp [f_X11_goes, lt, ck]
theorem goes1 (M : Mem) : f_X11_goes 1 M = some (1, upm M 0 7 0) := by simp [f_X11_goes, lt, ck]
theorem gb0 (y : Int) (M : Mem) : f_X11_goesBoth 0 y M = some (0, upm M 0 7 1) := by simp [f_X11_goesBoth, lt, jn]
theorem gb10 (M : Mem) : f_X11_goesBoth 1 0 M = some (0, upm M 0 7 2) := by simp [f_X11_goesBoth, lt, jn]
theorem gb11 (M : Mem) : f_X11_goesBoth 1 1 M = some (1, upm M 0 7 0) := by simp [f_X11_goesBoth, lt, jn]
/-! the class's two askings -/
theorem rI_ok {x n : Int} {M : Mem} (h : 0 ≤ x ∧ x < n) : f_X10_requireIndex x n M = some () ∧ x_X10_requireIndex x n M = none := by
  constructor
  · unfold f_X10_requireIndex jn; simp [show ¬ x < 0 by omega, h.2]
  · unfold x_X10_requireIndex jn; simp [show ¬ x < 0 by omega, h.2]
theorem rI_no {x n : Int} {M : Mem} (h : ¬ (0 ≤ x ∧ x < n)) : x_X10_requireIndex x n M = some (1, M) := by
  unfold x_X10_requireIndex jn
  by_cases h1 : x < 0
  · simp [h1]
  · simp [h1, show ¬ x < n by omega]
theorem rR_ok {x a b : Int} {M : Mem} (h : a ≤ x ∧ x ≤ b) : f_X10_requireRange x a b M = some () ∧ x_X10_requireRange x a b M = none := by
  constructor
  · unfold f_X10_requireRange jn; simp [show ¬ x < a by omega, h.2]
  · unfold x_X10_requireRange jn; simp [show ¬ x < a by omega, h.2]
theorem rR_no {x a b : Int} {M : Mem} (h : ¬ (a ≤ x ∧ x ≤ b)) : x_X10_requireRange x a b M = some (2, M) := by
  unfold x_X10_requireRange jn
  by_cases h1 : x < a
  · simp [h1]
  · simp [h1, show ¬ x ≤ b by omega]
