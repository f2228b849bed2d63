/-! single calls: errors, accounts, output, the text buffer -/
theorem p_errorCode {k : Nat} {Mc Mr : Mem} (h : Rel k Mc Mr) : ∃ Mc' Mr' : Mem, st_errorCode Mc Mr Mc' Mr' ∧ Rel (k + 1) Mc' Mr' :=
  ⟨Mc, upm Mr 0 7 0, ⟨Mc 1 7, rfl, rfl, by rw [h.2.1.1]; rfl⟩, h.scr keepC.rfl keepR.thr (by omega)⟩
theorem p_errorPosition {k : Nat} {Mc Mr : Mem} (h : Rel k Mc Mr) : ∃ Mc' Mr' : Mem, st_errorPosition Mc Mr Mc' Mr' ∧ Rel (k + 1) Mc' Mr' :=
  ⟨Mc, upm Mr 0 7 0, ⟨Mc 1 8, rfl, rfl, by rw [h.2.1.2]; rfl⟩, h.scr keepC.rfl keepR.thr (by omega)⟩
theorem thr_at (M : Mem) (v : Int) : (upm M 0 7 v) 0 7 = v := by simp [upm_at, updr_ap]
theorem thr_ne (M : Mem) (v : Int) {c : Nat} (h : c ≠ 0) : (upm M 0 7 v) c = M c := upm_ne h
theorem thr_sl (M : Mem) (v : Int) {j : Nat} (h : j ≠ 7) : (upm M 0 7 v) 0 j = M 0 j := by rw [upm_row, updr_ne h]
theorem p_account {k : Nat} {Mc Mr : Mem} (h : Rel k Mc Mr) (p : Int) : ∃ Mc' Mr' : Mem, st_account p Mc Mr Mc' Mr' ∧ Rel (k + 1) Mc' Mr' := by
  by_cases hp : 0 ≤ p ∧ p ≤ 6
  · refine ⟨Mc, upm Mr 0 7 0, Or.inl ⟨Mc 73 p.toNat, ?_, rfl, ?_, thr_at _ _⟩, h.scr keepC.rfl keepR.thr (by omega)⟩
    · unfold f_X10_account
      rw [(rR_ok hp).1, Option.bind_some, ck_pos ⟨hp.1, by omega⟩]
    · unfold f_X11_account
      rw [isIn_eq, if_pos hp, Option.bind_some, goes1, Option.bind_some]
      simp only []
      rw [if_neg (by decide), ck_pos ⟨hp.1, by omega⟩, thr_ne _ _ (by decide), (h.2.2.2.1 p.toNat (by omega)).1]
  · refine ⟨Mc, upm Mr 0 7 1, Or.inr ⟨?_, 0, ?_, thr_at _ _⟩, h.scr keepC.rfl keepR.thr (by omega)⟩
    · unfold x_X10_account
      rw [rR_no hp]; rfl
    · unfold f_X11_account
      rw [isIn_eq, if_neg hp, Option.bind_some, goes0, Option.bind_some]
      simp
theorem p_output {k : Nat} {Mc Mr : Mem} (h : Rel k Mc Mr) (p : Int) : ∃ Mc' Mr' : Mem, st_output p Mc Mr Mc' Mr' ∧ Rel (k + 1) Mc' Mr' := by
  obtain ⟨h1, h2, h3⟩ := h.2.2.1
  refine ⟨Mc, upm Mr 0 7 0, ⟨if 0 ≤ p ∧ p < Mr 0 51 then Mr 29 p.toNat else -1, ?_, rfl, ?_⟩, h.scr keepC.rfl keepR.thr (by omega)⟩
  · unfold f_X10_output f_X4_byteAt
    by_cases a : p < 0
    · rw [if_pos a, if_neg (by omega)]; rfl
    · rw [if_neg a, h1]
      by_cases b : Mr 0 51 ≤ p
      · rw [if_pos b, if_neg (by omega)]; rfl
      · rw [if_neg b, if_pos (by omega), ck_pos ⟨by omega, by omega⟩, h3 p.toNat (by omega)]; rfl
  · unfold f_X11_output
    simp only [lt]
    rw [ck_pos ⟨by omega, by omega⟩, isIn_eq]
    by_cases b : 0 ≤ p ∧ p < Mr 0 51
    · rw [if_pos b, if_pos (by omega), Option.bind_some, if_neg (by decide), ck_pos ⟨by omega, by omega⟩]
    · rw [if_neg b, if_neg (by omega), Option.bind_some, if_pos rfl]
theorem p_truncateText {k : Nat} {Mc Mr : Mem} (h : Rel k Mc Mr) (p : Int) : ∃ Mc' Mr' : Mem, st_truncateText p Mc Mr Mc' Mr' ∧ Rel (k + 1) Mc' Mr' := by
  obtain ⟨t1, t2, t3⟩ := h.1
  by_cases hp : 0 ≤ p ∧ p ≤ Mr 0 29
  · refine ⟨upm Mc 1 1 p, upm (upm Mr 0 7 0) 0 29 p, Or.inl ⟨p, ?_, ?_, ?_⟩, ?_⟩
    · unfold f_X10_truncateText
      rw [t1, (rR_ok hp).1, Option.bind_some]; rfl
    · unfold f_X11_truncateText
      rw [isIn_eq, if_pos hp, Option.bind_some, goes1, Option.bind_some]
      simp [lt]
    · simp [upm_at, updr_ap]
    · have e : (upm (upm Mr 0 7 0) 0 29 p) 0 29 = p := by simp [upm_at, updr_ap]
      refine h.txt ⟨fun c hc => upm_ne (by omega), ?_, ?_, ?_, ?_, ?_, ?_⟩ ⟨fun c hc => ?_, ?_, ?_⟩ ⟨?_, ?_, fun i hi => ?_⟩ ?_ (by omega)
      iterate 6 rw [upm_ne (by decide)]
      · rw [upm_ne (by omega), upm_ne (by omega)]
      · simp [upm_at, updr_ap]
      · simp [upm_at, updr_ap]
      · rw [e]; simp [upm_at, updr_ap]
      · rw [e]; omega
      · rw [e] at hi
        rw [upm_ne (by decide), upm_ne (by decide), upm_ne (show (2 : Nat) ≠ 1 by decide)]
        exact t3 i (by omega)
      · simpa [upm_at, updr_ap] using h.2.1
  · refine ⟨Mc, upm Mr 0 7 1, Or.inr ⟨?_, 0, ?_, thr_at _ _⟩, h.scr keepC.rfl keepR.thr (by omega)⟩
    · unfold x_X10_truncateText
      rw [t1, rR_no hp]; rfl
    · unfold f_X11_truncateText
      rw [isIn_eq, if_neg hp, Option.bind_some, goes0, Option.bind_some]
      simp
theorem sx_byte (v : Int) (hv : inR v) : bar8 (i2b v) = sx (iand v 255) ∧ 0 ≤ iand v 255 ∧ iand v 255 ≤ 255 := by
  have e1 : bar8 (i2b v) = (jI v).toInt8.toInt := by
    show ((jI (jI v).toInt8.toInt32.toInt).toInt8.toInt32).toInt = _
    rw [← jI_of]
    simp
  have e2 : iand v 255 = (((jI v).toBitVec.toNat % 256 : Nat) : Int) := by
    show ((jI v &&& jI 255).toInt) = _
    rw [← Int32.toInt_toBitVec, Int32.toBitVec_and, BitVec.toInt_eq_toNat_cond, BitVec.toNat_and]
    have h255 : (jI 255).toBitVec.toNat = 2 ^ 8 - 1 := by decide
    rw [h255, Nat.and_two_pow_sub_one_eq_mod]
    rw [if_pos (by omega)]
  have e3 : (jI v).toInt8.toInt = if (jI v).toBitVec.toNat % 256 < 128 then (((jI v).toBitVec.toNat % 256 : Nat) : Int) else (((jI v).toBitVec.toNat % 256 : Nat) : Int) - 256 := by
    rw [← Int8.toInt_toBitVec, Int32.toBitVec_toInt8, BitVec.signExtend_eq_setWidth_of_le _ (by decide), BitVec.toInt_eq_toNat_cond, BitVec.toNat_setWidth]
    by_cases h : (jI v).toBitVec.toNat % 256 < 128
    · rw [if_pos h, if_pos (by omega)]
    · rw [if_neg h, if_neg (by omega)]
      simp
  rw [e1, e2, e3]
  unfold sx
  refine ⟨?_, by omega, by omega⟩
  split <;> split <;> omega
