theorem keepT.trans {M M1 M2 : Mem} (h : keepT M M1) (h2 : keepT M1 M2) : keepT M M2 :=
  ⟨fun c hc => (h2.1 c hc).trans (h.1 c hc), h2.2.1.trans h.2.1, h2.2.2.1.trans h.2.2.1, h2.2.2.2.1.trans h.2.2.2.1, h2.2.2.2.2.1.trans h.2.2.2.2.1, h2.2.2.2.2.2.1.trans h.2.2.2.2.2.1, h2.2.2.2.2.2.2.trans h.2.2.2.2.2.2⟩
theorem keepU.trans {M M1 M2 : Mem} (h : keepU M M1) (h2 : keepU M1 M2) : keepU M M2 :=
  ⟨fun c hc => (h2.1 c hc).trans (h.1 c hc), h2.2.1.trans h.2.1, h2.2.2.trans h.2.2⟩
theorem keepT.rfl {M : Mem} : keepT M M := ⟨fun _ _ => _root_.rfl, _root_.rfl, _root_.rfl, _root_.rfl, _root_.rfl, _root_.rfl, _root_.rfl⟩
theorem keepU.rfl {M : Mem} : keepU M M := ⟨fun _ _ => _root_.rfl, _root_.rfl, _root_.rfl⟩
/-- writing into the text's own cells -/
theorem keepT.wr {M : Mem} {a k : Nat} {v : Int} (h : a = 1 ∨ a = 2) : keepT M (upm M a k v) := by
  refine ⟨fun c hc => upm_ne (by omega), ?_, ?_, ?_, ?_, ?_, ?_⟩ <;> rw [upm_ne (by omega)]
theorem keepU.wr {M : Mem} {a k : Nat} {v : Int} (h : a = 22 ∨ (a = 0 ∧ k ≠ 6 ∧ k ≠ 51)) : keepU M (upm M a k v) := by
  refine ⟨fun c hc => upm_ne (by omega), ?_, ?_⟩ <;> (rcases h with rfl | ⟨rfl, h1, h2⟩ <;> simp [upm_at, updr_ap]) <;> omega
theorem L_append (x : Int) : ∀ (j n n' : Nat) (Mc Mr : Mem), j ≤ 4 → j < n → j < n' → Mc 1 1 = Mr 0 29 → 0 ≤ Mr 0 29 → Mr 0 29 + (j : Int) ≤ 500 → (∀ i : Nat, (i : Int) < Mr 0 29 → (0 ≤ Mr 22 i ∧ Mr 22 i ≤ 255) ∧ Mc 2 i = sx (Mr 22 i)) →
    ∃ Mc' Mr' : Mem, f_X8_append_L3 x n (8 * (j : Int) - 8) Mc = some Mc' ∧ f_X11_appendText_L29 x n' (8 * (j : Int) - 8) Mr = some (Mr' 0 29, Mr') ∧ RTx Mc' Mr' ∧ Mr' 0 29 = Mr 0 29 + (j : Int) ∧ keepT Mc Mc' ∧ keepU Mr Mr' ∧ Mc' 1 7 = Mc 1 7 ∧ Mc' 1 8 = Mc 1 8 ∧ Mr' 0 36 = Mr 0 36 ∧ Mr' 0 37 = Mr 0 37 ∧ Mr' 0 7 = Mr 0 7 := by
  intro j
  induction j with
  | zero =>
    intro n n' Mc Mr h4 hn hn' h1 h2 h3 h5
    obtain ⟨n, rfl⟩ : ∃ m, n = m + 1 := ⟨n - 1, by omega⟩
    obtain ⟨n', rfl⟩ : ∃ m, n' = m + 1 := ⟨n' - 1, by omega⟩
    refine ⟨Mc, Mr, ?_, ?_, ⟨h1, by omega, h5⟩, by omega, keepT.rfl, keepU.rfl, rfl, rfl, rfl, rfl, rfl⟩
    · simp only [f_X8_append_L3]; rw [if_pos (by omega)]
    · simp only [f_X11_appendText_L29]; rw [if_pos (by omega)]
  | succ j ih =>
    intro n n' Mc Mr h4 hn hn' h1 h2 h3 h5
    obtain ⟨n, rfl⟩ : ∃ m, n = m + 1 := ⟨n - 1, by omega⟩
    obtain ⟨n', rfl⟩ : ∃ m, n' = m + 1 := ⟨n' - 1, by omega⟩
    obtain ⟨L, hL⟩ : ∃ L : Nat, Mr 0 29 = (L : Int) := ⟨(Mr 0 29).toNat, by omega⟩
    have hb := sx_byte (ishr x (8 * ((j + 1 : Nat) : Int) - 8)) (ishr_R _ _)
    obtain ⟨v, hv⟩ : ∃ v : Int, v = iand (ishr x (8 * ((j + 1 : Nat) : Int) - 8)) 255 := ⟨_, rfl⟩
    rw [← hv] at hb
    have hL2 : Mc 1 1 = (L : Int) := h1.trans hL
    obtain ⟨Mc', Mr', a1, a2, a3, a4, a5, a6, a7, a8, a9, a10, a11⟩ := ih n n' (upm (upm Mc 2 L (sx v)) 1 1 ((L : Int) + 1)) (upm (upm Mr 22 L v) 0 29 ((L : Int) + 1)) (by omega) (by omega) (by omega) (by simp [upm_at, updr_ap]) (by simp [upm_at, updr_ap]; omega) (by simp [upm_at, updr_ap]; omega) (fun i hi => by
      have e0 : (upm (upm Mr 22 L v) 0 29 ((L : Int) + 1)) 0 29 = (L : Int) + 1 := by simp [upm_at, updr_ap]
      have e1 : (upm (upm Mr 22 L v) 0 29 ((L : Int) + 1)) 22 i = if i = L then v else Mr 22 i := by simp [upm_at, updr_ap]
      have e2 : (upm (upm Mc 2 L (sx v)) 1 1 ((L : Int) + 1)) 2 i = if i = L then sx v else Mc 2 i := by simp [upm_at, updr_ap]
      rw [e0] at hi
      rw [e1, e2]
      by_cases e : i = L
      · rw [if_pos e, if_pos e]; exact ⟨⟨hb.2.1, hb.2.2⟩, rfl⟩
      · rw [if_neg e, if_neg e]; exact h5 i (by omega))
    have k1 : keepT Mc (upm (upm Mc 2 L (sx v)) 1 1 ((L : Int) + 1)) := (keepT.wr (Or.inr rfl)).trans (keepT.wr (Or.inl rfl))
    have k2 : keepU Mr (upm (upm Mr 22 L v) 0 29 ((L : Int) + 1)) := (keepU.wr (Or.inl rfl)).trans (keepU.wr (Or.inr ⟨rfl, by decide, by decide⟩))
    refine ⟨Mc', Mr', ?_, ?_, a3, ?_, k1.trans a5, k2.trans a6, ?_, ?_, ?_, ?_, ?_⟩
    · simp only [f_X8_append_L3, lt]
      rw [if_neg (by omega), if_neg (by omega), hL2, ck_pos ⟨by omega, by omega⟩, ck_pos ⟨by omega, by omega⟩, ck_pos ⟨by omega, by omega⟩, hb.1, Int.toNat_natCast]
      rw [show 8 * ((j + 1 : Nat) : Int) - 8 + -8 = 8 * (j : Int) - 8 by omega]
      exact a1
    · simp only [f_X11_appendText_L29, lt]
      rw [if_neg (by omega), hL, ck_pos ⟨by omega, by omega⟩, ck_pos ⟨by omega, by omega⟩, ck_pos ⟨by omega, by omega⟩, Int.toNat_natCast, ← hv]
      rw [show 8 * ((j + 1 : Nat) : Int) - 8 + -8 = 8 * (j : Int) - 8 by omega]
      exact a2
    · rw [a4]; simp [upm_at, updr_ap]; omega
    · rw [a7]; simp [upm_at, updr_ap]
    · rw [a8]; simp [upm_at, updr_ap]
    · rw [a9]; simp [upm_at, updr_ap]
    · rw [a10]; simp [upm_at, updr_ap]
    · rw [a11]; simp [upm_at, updr_ap]
theorem p_appendText {k : Nat} {Mc Mr : Mem} (h : Rel k Mc Mr) (p : Int) : ∃ Mc' Mr' : Mem, st_appendText p Mc Mr Mc' Mr' ∧ Rel (k + 1) Mc' Mr' := by
  obtain ⟨t1, t2, t3⟩ := h.1
  by_cases hp : Mr 0 29 ≤ 496
  · obtain ⟨Mc', Mr', a1, a2, a3, a4, a5, a6, a7, a8, a9, a10, a11⟩ := L_append p 4 jFuel jFuel Mc (upm Mr 0 7 0) (by omega) (by unfold jFuel; omega) (by unfold jFuel; omega) (by simpa [upm_at, updr_ap] using t1) (by simpa [upm_at, updr_ap] using t2.1) (by simp [upm_at, updr_ap]; omega) (by simpa [upm_at, updr_ap] using t3)
    refine ⟨Mc', Mr', Or.inl ⟨Mr' 0 29, ?_, ?_, ?_⟩, ?_⟩
    · unfold f_X10_appendText f_X8_append
      rw [if_pos (by omega)]
      have a1 : f_X8_append_L3 p jFuel 24 Mc = some Mc' := a1
      rw [a1, Option.bind_some, a3.1]
    · unfold f_X11_appendText
      rw [ck_pos ⟨by omega, by omega⟩]
      simp only [jn]
      rw [if_neg (by omega), goes1, Option.bind_some]
      simp only []
      rw [if_neg (by decide)]
      exact a2
    · rw [a11]; simp [upm_at, updr_ap]
    · refine h.txt a5 ((keepU.wr (Or.inr ⟨rfl, by decide, by decide⟩)).trans a6) a3 ?_ (by omega)
      rw [a7, a8, a9, a10]
      simpa [upm_at, updr_ap] using h.2.1
  · refine ⟨Mc, upm Mr 0 7 1, Or.inr ⟨?_, 0, ?_, thr_at _ _⟩, h.scr keepC.rfl keepR.thr (by omega)⟩
    · unfold x_X10_appendText
      rw [if_neg (by omega)]
    · unfold f_X11_appendText
      rw [ck_pos ⟨by omega, by omega⟩]
      simp only [jn]
      rw [if_pos (by omega), goes0, Option.bind_some]
      simp
