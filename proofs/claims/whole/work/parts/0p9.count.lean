/-! counts, maps -/
def tops (g : Row) : Nat → Nat → Int → Int
  | 0, _, a => a
  | k + 1, j, a => tops g k (j + 1) (if rk g j ≠ 4 ∧ dp g j = 0 then a + 1 else a)
theorem tops_b (g : Row) : ∀ (k j : Nat) (a : Int), a ≤ tops g k j a ∧ tops g k j a ≤ a + (k : Int) := by
  intro k
  induction k with
  | zero => intro j a; simp [tops]
  | succ k ih =>
    intro j a
    have e := ih (j + 1) (if rk g j ≠ 4 ∧ dp g j = 0 then a + 1 else a)
    show a ≤ tops g k (j + 1) (ite _ _ _) ∧ tops g k (j + 1) (ite _ _ _) ≤ _
    split at e <;> (first | rw [if_pos (by assumption)] | rw [if_neg (by assumption)]) <;> omega
theorem L_top_C {M : Mem} {s : Nat} {g : Row} (hi : WFi g) (r : RSi M s g) : ∀ (k j n : Nat) (a : Int), (j : Int) + k = g 8 → k < n → 0 ≤ a → a ≤ (j : Int) → f_X2_topCount_L4 s M n a (it g j : Nat) = some (tops g k j a) := by
  have h8 := hi.1
  intro k
  induction k with
  | zero =>
    intro j n a hj hn _ _
    obtain ⟨n, rfl⟩ := nat_ex hn
    simp only [f_X2_topCount_L4, r.1]
    rw [show (g 8).toNat = j by omega, if_pos (by omega)]; rfl
  | succ k ih =>
    intro j n a hj hn h1 h2
    show _ = some (tops g k (j + 1) (ite _ _ _))
    by_cases h4 : rk g j = 4
    · rw [if_neg (by omega), ← it_s4 h4]
      exact ih (j + 1) n a (by omega) (by omega) (by omega) (by omega)
    · obtain ⟨n, rfl⟩ := nat_ex hn
      have b := hi.it30 (i := j) (by omega) h4
      have c := (r.2 j (by omega) h4).2.2.2.2
      simp only [f_X2_topCount_L4, r.1]
      rw [if_neg (by omega), ck_pos ⟨by omega, by omega⟩, Int.toNat_natCast, c, show ((it g j : Nat) : Int) + 1 = (it g (j + 1) : Nat) by rw [it_s1 h4]; omega]
      by_cases q : dp g j = 0
      · rw [if_pos q, ck_pos ⟨by omega, by omega⟩, ck_pos (by rw [it_s1 h4]; exact ⟨by omega, by omega⟩), if_pos ⟨h4, q⟩]
        exact ih (j + 1) n _ (by omega) (by omega) (by omega) (by omega)
      · rw [if_neg q, ck_pos (by rw [it_s1 h4]; exact ⟨by omega, by omega⟩), if_neg (fun z => q z.2)]
        exact ih (j + 1) n _ (by omega) (by omega) (by omega) (by omega)
theorem top_C {M : Mem} {s : Nat} {g : Row} (hi : WFi g) (r : RSi M s g) : f_X2_topCount s M = some (tops g (g 8).toNat 0 0) := by
  have h8 := hi.1
  exact L_top_C hi r (g 8).toNat 0 jFuel 0 (by omega) (jF (by omega)) (by omega) (by omega)
/-- behind a block -/
theorem L_beh {M : Mem} (hi : WFi (M 1)) {b : Int} (hb : 0 ≤ b ∧ b ≤ 4) : ∀ (k r n : Nat), (r : Int) + k = M 1 8 → 0 < k → k < n →
    ∃ j : Nat, f_X11_behind_L4 M n (dp (M 1) r - b) (r : Int) = some (j : Int) ∧ r < j ∧ (j : Int) ≤ M 1 8 ∧ dp (M 1) j ≤ b ∧ ∀ t : Nat, r < t → t < j → b < dp (M 1) t := by
  have h8 := hi.1
  intro k
  induction k with
  | zero => intro r n _ h _; omega
  | succ k ih =>
    intro r n hr _ hn
    obtain ⟨n, rfl⟩ := nat_ex hn
    have d := (hi.2.2.2.2 r (by omega)).1
    have s := dp_s (M 1) r
    have d2 : 0 ≤ dp (M 1) (r + 1) ∧ dp (M 1) (r + 1) ≤ 5 := by
      by_cases z : k = 0
      · rw [show r + 1 = (M 1 8).toNat by omega, hi.2.1]; omega
      · have := (hi.2.2.2.2 (r + 1) (by omega)).1; omega
    simp only [f_X11_behind_L4]
    rw [r0 (by omega), Option.bind_some, opn, cls]
    have b1 : inR ((if rk (M 1) r = 2 ∨ rk (M 1) r = 3 then (1 : Int) else 0) - (if rk (M 1) r = 4 then 1 else 0)) := by
      constructor <;> (repeat' split) <;> omega
    rw [ck_pos b1, show dp (M 1) r - b + ((if rk (M 1) r = 2 ∨ rk (M 1) r = 3 then (1 : Int) else 0) - (if rk (M 1) r = 4 then 1 else 0)) = dp (M 1) (r + 1) - b by rw [s]; omega]
    rw [ck_pos ⟨by omega, by omega⟩, ck_pos ⟨by omega, by omega⟩]
    by_cases q : 0 < dp (M 1) (r + 1) - b
    · have k0 : 0 < k := by
        by_cases z : k = 0
        · rw [show r + 1 = (M 1 8).toNat by omega, hi.2.1] at q; omega
        · omega
      obtain ⟨j, e1, e2, e3, e4, e5⟩ := ih (r + 1) n (by omega) k0 (by omega)
      rw [if_pos q, show (r : Int) + 1 = ((r + 1 : Nat) : Int) by omega]
      refine ⟨j, e1, by omega, e3, e4, fun t t1 t2 => ?_⟩
      by_cases z : t = r + 1
      · rw [z]; omega
      · exact e5 t (by omega) t2
    · rw [if_neg q]
      exact ⟨r + 1, by rw [show (r : Int) + 1 = ((r + 1 : Nat) : Int) by omega], by omega, by omega, by omega, fun t t1 t2 => by omega⟩
theorem tops_skip (g : Row) : ∀ (d k j : Nat) (a : Int), (∀ t : Nat, j ≤ t → t < j + d → 0 < dp g t) → tops g (d + k) j a = tops g k (j + d) a := by
  intro d
  induction d with
  | zero => intro k j a _; rw [Nat.zero_add]; rfl
  | succ d ih =>
    intro k j a h
    rw [show d + 1 + k = (d + k) + 1 by omega]
    show tops g (d + k) (j + 1) (ite _ _ _) = _
    have := h j (by omega) (by omega)
    rw [if_neg (by omega), ih k (j + 1) a (fun t t1 t2 => h t (by omega) (by omega)), show j + 1 + d = j + (d + 1) by omega]
theorem L_many {M : Mem} (hi : WFi (M 1)) : ∀ (N k j n : Nat) (a : Int), k ≤ N → (j : Int) + k = M 1 8 → k < n → dp (M 1) j = 0 → 0 ≤ a → a ≤ (j : Int) → f_X11_itemMany_L4 M n a (j : Int) = some (tops (M 1) k j a) := by
  have h8 := hi.1
  intro N
  induction N with
  | zero =>
    intro k j n a hk hj hn _ _ _
    obtain rfl : k = 0 := by omega
    obtain ⟨n, rfl⟩ := nat_ex hn
    simp only [f_X11_itemMany_L4, show (8 : Int).toNat = 8 from rfl]
    rw [if_pos (by omega)]; rfl
  | succ N ih =>
    intro k j n a hk hj hn hd h1 h2
    by_cases z : k = 0
    · exact ih k j n a (by omega) hj hn hd h1 h2
    · obtain ⟨k, rfl⟩ : ∃ q, k = q + 1 := ⟨k - 1, by omega⟩
      obtain ⟨n, rfl⟩ := nat_ex hn
      have h4 : rk (M 1) j ≠ 4 := by
        intro q
        have := (hi.2.2.2.2 j (by omega)).2
        omega
      obtain ⟨j', e1, e2, e3, e4, e5⟩ := L_beh hi (b := 0) ⟨by omega, by omega⟩ (k + 1) j jFuel hj (by omega) (jF (by omega))
      have e0 : f_X11_behind (j : Int) M = some (j' : Int) := by
        rw [hd] at e1; exact e1
      have d0 : dp (M 1) j' = 0 := by
        by_cases w : (j' : Int) < M 1 8
        · have := (hi.2.2.2.2 j' w).1; omega
        · rw [show j' = (M 1 8).toNat by omega]; exact hi.2.1
      simp only [f_X11_itemMany_L4, show (8 : Int).toNat = 8 from rfl]
      rw [if_neg (by omega), ck_pos ⟨by omega, by omega⟩, e0, Option.bind_some]
      show _ = some (tops (M 1) k (j + 1) (ite _ _ _))
      rw [if_pos ⟨h4, hd⟩]
      have sk := tops_skip (M 1) (j' - (j + 1)) (k - (j' - (j + 1))) (j + 1) (a + 1) (fun t t1 t2 => e5 t (by omega) (by omega))
      rw [show j' - (j + 1) + (k - (j' - (j + 1))) = k by omega, show j + 1 + (j' - (j + 1)) = j' by omega] at sk
      rw [sk]
      exact ih (k - (j' - (j + 1))) j' n (a + 1) (by omega) (by omega) (by omega) d0 (by omega) (by omega)
theorem many_R {M : Mem} (hi : WFi (M 1)) : f_X11_itemMany M = some (tops (M 1) (M 1 8).toNat 0 0) := by
  have h8 := hi.1
  exact L_many hi (M 1 8).toNat (M 1 8).toNat 0 jFuel 0 (by omega) (by omega) (jF (by omega)) rfl (by omega) (by omega)
theorem L_all_R {M : Mem} (hi : WFi (M 1)) : ∀ (k j n : Nat), (j : Int) + k = M 1 8 → k < n → f_X11_allItems_L4 M n (it (M 1) j : Nat) (j : Int) = some ((it (M 1) (M 1 8).toNat : Nat) : Int) := by
  have h8 := hi.1
  intro k
  induction k with
  | zero =>
    intro j n hj hn
    obtain ⟨n, rfl⟩ := nat_ex hn
    simp only [f_X11_allItems_L4, show (8 : Int).toNat = 8 from rfl]
    rw [if_pos (by omega), show (M 1 8).toNat = j by omega]
  | succ k ih =>
    intro j n hj hn
    obtain ⟨n, rfl⟩ := nat_ex hn
    have m := it_mono (M 1) (k + 1) j
    have m30 := hi.2.2.1
    rw [show j + (k + 1) = (M 1 8).toNat by omega] at m
    simp only [f_X11_allItems_L4, show (8 : Int).toNat = 8 from rfl, jn]
    rw [if_neg (by omega), r0 (by omega), Option.bind_some, show (j : Int) + 1 = ((j + 1 : Nat) : Int) by omega]
    by_cases c : rk (M 1) j = 4
    · rw [if_pos c, bit_eq, if_pos rfl, Option.bind_some, ck_pos ⟨by omega, by omega⟩, ck_pos ⟨by omega, by omega⟩, Int.add_zero, ← it_s4 c]
      exact ih (j + 1) n (by omega) (by omega)
    · rw [if_neg c, bit_eq, if_neg (by decide), Option.bind_some, ck_pos ⟨by omega, by omega⟩, ck_pos ⟨by omega, by omega⟩, show ((it (M 1) j : Nat) : Int) + 1 = (it (M 1) (j + 1) : Nat) by rw [it_s1 c]; omega]
      exact ih (j + 1) n (by omega) (by omega)
theorem all_R {M : Mem} (hi : WFi (M 1)) : f_X11_allItems M = some ((it (M 1) (M 1 8).toNat : Nat) : Int) := by
  have h8 := hi.1
  exact L_all_R hi (M 1 8).toNat 0 jFuel (by omega) (jF (by omega))
theorem set_ev {M : Mem} {s : Nat} {g : Row} (r : RSl M s g) {i : Nat} (hi : i < 5) : f_X3_setting s (i : Int) M = some (g i) := by
  unfold f_X3_setting
  rw [if_neg (by omega), if_neg (by omega), ck_pos ⟨by omega, by omega⟩, Int.toNat_natCast, r.2.2.2.2.2.2 i hi]
theorem p_count {k : Nat} {Mc Mr : Mem} (h : Rel k Mc Mr) (p : Int) : ∃ Mc' Mr' : Mem, st_count p Mc Mr Mc' Mr' ∧ Rel (k + 1) Mc' Mr' := by
  have hl := h.wf.1
  have hv := h.wf.2.1
  have hi := h.wf.2.2
  have rl := h.rs.1
  have rv := h.rs.2.1
  have ri := h.rs.2.2
  have h9 := hv.1
  by_cases hp : 0 ≤ p ∧ p ≤ 13
  · have k1 : (upm Mr 0 7 0) 1 = Mr 1 := thr_ne _ _ (by decide)
    have c0 : Mc 6 0 = Mr 1 5 := rl.1
    have c1 : Mc 6 3 = Mr 1 6 := rl.2.1
    have c2 : Mc 6 6 = Mr 1 7 := rl.2.2.1
    have c9 : Mc 22 0 = (it (Mr 1) (Mr 1 8).toNat : Nat) := ri.1
    have c10 : Mc 16 0 = Mr 1 9 := rv.1
    have c12 : f_X9_sentences 5 Mc = some (sumF (sen (Mr 1)) (Mr 1 9).toNat 0) := by
      unfold f_X9_sentences
      rw [show Mc (5 + 11) 0 = Mr 1 9 from c10, sen_C hv rv ⟨h9.1, Int.le_refl _⟩]; rfl
    have c13 : Mc 0 5 = Mr 0 6 := h.2.2.2.2.1.1
    have d8 := many_R (M := upm Mr 0 7 0) (by rw [k1]; exact hi)
    have d9 := all_R (M := upm Mr 0 7 0) (by rw [k1]; exact hi)
    have d11 := allS_R (M := upm Mr 0 7 0) (by rw [k1]; exact hv)
    have d12 := sen_R (M := upm Mr 0 7 0) (by rw [k1]; exact hv) (x := Mr 1 9) (by rw [k1]; omega)
    rw [k1] at d8 d9 d11 d12
    refine ⟨Mc, upm Mr 0 7 0, Or.inl ⟨if p = 0 then Mr 1 5 else if p = 1 then Mr 1 6 else if p = 2 then Mr 1 7 else if p = 8 then tops (Mr 1) (Mr 1 8).toNat 0 0 else if p = 9 then (it (Mr 1) (Mr 1 8).toNat : Nat) else if p = 10 then Mr 1 9 else if p = 11 then sumF (syl (Mr 1)) (Mr 1 9).toNat 0 else if p = 12 then sumF (sen (Mr 1)) (Mr 1 9).toNat 0 else if p = 13 then Mr 0 6 else Mr 1 (p - 3).toNat, ?_, rfl, ?_, thr_at _ _⟩, h.scr keepC.rfl keepR.thr (by omega)⟩
    · unfold f_X10_count
      rw [(rR_ok hp).1, Option.bind_some, c0, c1, c2, c9, c10, c12, c13, top_C hi ri, allS_C hv rv]
      simp only [Option.bind_some]
      by_cases q : 3 ≤ p ∧ p ≤ 7
      · rw [ck_pos ⟨by omega, by omega⟩, show p - 3 = ((p - 3).toNat : Int) by omega, set_ev rl (by omega), Option.bind_some]
        simp only [Int.toNat_natCast]
        (repeat' split) <;> rfl
      · (repeat' split) <;> (first | rfl | (exfalso; omega))
    · unfold f_X11_count
      rw [isIn_eq, if_pos hp, Option.bind_some, goes1, Option.bind_some]
      simp only [show (9 : Int).toNat = 9 from rfl]
      rw [if_neg (by decide), d8, d9, d11, k1, d12, thr_sl _ _ (by decide)]
      simp only [Option.bind_some]
      by_cases q0 : p = 0
      · rw [if_pos q0, if_pos q0, ck_pos ⟨by omega, by omega⟩, ck_pos ⟨by omega, by omega⟩, q0]; rfl
      · rw [if_neg q0, if_neg q0]
        by_cases q1 : p = 1
        · rw [if_pos q1, if_pos q1, ck_pos ⟨by omega, by omega⟩, ck_pos ⟨by omega, by omega⟩, q1]; rfl
        · rw [if_neg q1, if_neg q1]
          by_cases q2 : p = 2
          · rw [if_pos q2, if_pos q2, ck_pos ⟨by omega, by omega⟩, ck_pos ⟨by omega, by omega⟩, q2]; rfl
          · rw [if_neg q2, if_neg q2]
            rw [ck_pos ⟨by omega, by omega⟩]
            by_cases q : 3 ≤ p ∧ p ≤ 7
            · rw [ck_pos ⟨by omega, by omega⟩]
              (repeat' split) <;> rfl
            · (repeat' split) <;> (first | rfl | (exfalso; omega))
  · refine ⟨Mc, upm Mr 0 7 1, Or.inr ⟨?_, 0, ?_, thr_at _ _⟩, h.scr keepC.rfl keepR.thr (by omega)⟩
    · unfold x_X10_count
      exact x1_2 hp
    · unfold f_X11_count
      rw [isIn_eq, if_neg hp, Option.bind_some, goes0, Option.bind_some]
      simp
