/-! faults -/
/-- what a candidate is: a fault of a kind (1) or none (0) -/
noncomputable def fa (g : Row) (Mc : Mem) (q : Int) (i : Nat) : Int :=
  if q = 1 then (if Mc 57 i = 0 ∧ bnd g (g 0) (Mc 58 i).toNat = 1 then 1 else 0)
  else if q = 2 then (if mapOf g i ≠ -1 ∧ shF Mc (mapOf g i) (wb g i) = 0 then 1 else 0)
  else if q = 3 then (if Mc 60 i < g 3 then 1 else 0)
  else if q = 4 then (if 0 < i ∧ Mc 57 i = 0 ∧ Mc 57 (i - 1) = 0 ∧ g (12 + 2 * (Mc 58 i).toNat) = g (12 + 2 * (Mc 58 (i - 1)).toNat) then 1 else 0)
  else (if max (Mc 56 1 - wEnd g) (-(Mc 56 1 - wEnd g)) ≤ g 4 then 0 else 1)
theorem fa_b (g : Row) (Mc : Mem) (q : Int) (i : Nat) : fa g Mc q i = 0 ∨ fa g Mc q i = 1 := by
  unfold fa; (repeat' split) <;> simp
def cd (g : Row) (Mc : Mem) (q : Int) : Nat := if q = 5 then 1 else if q = 2 then (g 9).toNat else (Mc 56 0).toNat
noncomputable def fl (g : Row) (Mc : Mem) (q : Int) : Nat → Nat → List (Int × Int)
  | 0, _ => []
  | k + 1, j => if fa g Mc q j = 1 then (q, if q = 5 then -1 else (j : Int)) :: fl g Mc q k (j + 1) else fl g Mc q k (j + 1)
theorem fl_len (g : Row) (Mc : Mem) (q : Int) : ∀ (k j : Nat), ((fl g Mc q k j).length : Int) = sumF (fa g Mc q) k j ∧ (fl g Mc q k j).length ≤ k := by
  intro k
  induction k with
  | zero => intro j; exact ⟨rfl, Nat.le_refl _⟩
  | succ k ih =>
    intro j
    have e := ih (j + 1)
    have s : sumF (fa g Mc q) (k + 1) j = fa g Mc q j + sumF (fa g Mc q) k (j + 1) := rfl
    unfold fl
    rcases fa_b g Mc q j with z | z
    · rw [if_neg (by omega)]; omega
    · rw [if_pos z, List.length_cons]; omega
/-- the class's list -/
def clL (M : Mem) (L : List (Int × Int)) : Prop := M 68 0 = (L.length : Int) ∧ ∀ (k : Nat) (x : Int × Int), L[k]? = some x → M 69 k = x.1 ∧ M 70 k = x.2
def keepF (M M' : Mem) : Prop := ∀ c : Nat, c < 68 ∨ 70 < c → M' c = M c
theorem keepF.trans {M M1 M2 : Mem} (h : keepF M M1) (h2 : keepF M1 M2) : keepF M M2 := fun c hc => (h2 c hc).trans (h c hc)
theorem keepF.C {M M' : Mem} (h : keepF M M') : keepC M M' := by
  refine ⟨fun c hc => h c (by omega), ?_, ?_, ?_, ?_, ?_, ?_, ?_, ?_, ?_⟩ <;> rw [h _ (by decide)]
theorem keepF.rs {M M' : Mem} {g : Row} (h : keepF M M') (r : RS M 5 g) : RS M' 5 g := r.eqv (fun j _ _ => h _ (by omega))
theorem add_C {M : Mem} {L : List (Int × Int)} (h : clL M L) (hn : L.length ≤ 240) (a b : Int) : ∃ M' : Mem, f_X1_add a b M = some M' ∧ keepF M M' ∧ clL M' (L ++ [(a, b)]) := by
  obtain ⟨h1, h2⟩ := h
  refine ⟨upm (upm (upm M 69 L.length a) 70 L.length b) 68 0 ((L.length : Int) + 1), ?_, fun c hc => by rw [upm_ne (by omega), upm_ne (by omega), upm_ne (by omega)], ?_, fun k x hx => ?_⟩
  · unfold f_X1_add
    rw [h1, if_neg (by omega), ck_pos ⟨by omega, by omega⟩, lt_eq, lt_eq, ck_pos ⟨by omega, by omega⟩, lt_eq, Int.toNat_natCast]
  · rw [upm_row, updr_at, List.length_append]; simp
  · have e1 : (upm (upm (upm M 69 L.length a) 70 L.length b) 68 0 ((L.length : Int) + 1)) 69 k = if k = L.length then a else M 69 k := by simp [upm_at, updr_ap]
    have e2 : (upm (upm (upm M 69 L.length a) 70 L.length b) 68 0 ((L.length : Int) + 1)) 70 k = if k = L.length then b else M 70 k := by simp [upm_at, updr_ap]
    rw [e1, e2]
    by_cases z : k < L.length
    · rw [List.getElem?_append_left z] at hx
      rw [if_neg (by omega), if_neg (by omega)]
      exact h2 k x hx
    · rw [List.getElem?_append_right (by omega)] at hx
      by_cases w : k = L.length
      · rw [w, Nat.sub_self] at hx
        simp at hx
        rw [if_pos w, if_pos w, ← hx]; exact ⟨rfl, rfl⟩
      · rw [show k - L.length = (k - L.length - 1) + 1 by omega] at hx
        simp at hx
/-- one loop of the class: what it adds -/
theorem fl_y {g : Row} {Mc : Mem} {q : Int} {k j : Nat} (h : fa g Mc q j = 1) (h5 : q ≠ 5) (L : List (Int × Int)) : L ++ fl g Mc q (k + 1) j = (L ++ [(q, (j : Int))]) ++ fl g Mc q k (j + 1) := by
  rw [fl, if_pos h, if_neg h5, List.append_assoc]; rfl
theorem fl_n {g : Row} {Mc : Mem} {q : Int} {k j : Nat} (h : fa g Mc q j ≠ 1) (L : List (Int × Int)) : L ++ fl g Mc q (k + 1) j = L ++ fl g Mc q k (j + 1) := by
  rw [fl, if_neg h]
theorem L_f1 {Mc : Mem} {g : Row} (hl : WFl g) (o : PcsOK Mc g) (h60 : 0 ≤ Mc 56 0 ∧ Mc 56 0 ≤ 60) : ∀ (k j n : Nat) (M : Mem) (L : List (Int × Int)), (j : Int) + k = Mc 56 0 → k < n → keepF Mc M → clL M L → L.length + k ≤ 241 →
    ∃ M' : Mem, f_X1_findBanned_L13 5 ((alM g (g 0) (g 5).toNat : Nat) : Int) n (j : Int) M = some M' ∧ keepF Mc M' ∧ clL M' (L ++ fl g Mc 1 k j) := by
  have h5 := hl.2.2.2.2.2.1
  intro k
  induction k with
  | zero =>
    intro j n M L hj hn hk hc hL
    obtain ⟨n, rfl⟩ := nat_ex hn
    refine ⟨M, ?_, hk, by rw [fl, List.append_nil]; exact hc⟩
    simp only [f_X1_findBanned_L13]
    rw [hk 56 (by decide), if_pos (by omega)]
  | succ k ih =>
    intro j n M L hj hn hk hc hL
    obtain ⟨n, rfl⟩ := nat_ex hn
    have b := o.1 j (by omega)
    simp only [f_X1_findBanned_L13]
    rw [hk 56 (by decide), hk 57 (by decide), hk 58 (by decide), if_neg (by omega), ck_pos ⟨by omega, by omega⟩, Int.toNat_natCast, show (j : Int) + 1 = ((j + 1 : Nat) : Int) by omega]
    repeat rw [ck_pos (show inR ((j + 1 : Nat) : Int) from ⟨by omega, by omega⟩)]
    have pb : fa g Mc 1 j = if Mc 57 j = 0 ∧ bnd g (g 0) (Mc 58 j).toNat = 1 then 1 else 0 := rfl
    by_cases c : Mc 57 j = 0
    · obtain ⟨i, hi⟩ : ∃ i : Nat, Mc 58 j = (i : Int) := ⟨(Mc 58 j).toNat, by omega⟩
      have hi5 : (i : Int) < g 5 := by omega
      rw [hi, Int.toNat_natCast] at pb
      rw [if_pos c, hi, tb_eq (alM_12 hl _) (by omega), alM_t]
      rcases bnd_b g (g 0) i with z | z
      · rw [if_neg (by omega)] at pb
        rw [z, if_neg (by simp; omega), fl_n (by omega)]
        exact ih (j + 1) n M L (by omega) (by omega) hk hc (by omega)
      · rw [if_pos ⟨c, z⟩] at pb
        obtain ⟨M1, a1, a2, a3⟩ := add_C hc (by omega) 1 (j : Int)
        rw [z, if_pos (by simp), fl_y pb (by decide), a1, Option.bind_some, ck_pos ⟨by omega, by omega⟩]
        exact ih (j + 1) n M1 _ (by omega) (by omega) (hk.trans a2) a3 (by rw [List.length_append, List.length_singleton]; omega)
    · rw [if_neg (fun z => c z.1)] at pb
      rw [if_neg c, fl_n (by omega)]
      exact ih (j + 1) n M L (by omega) (by omega) hk hc (by omega)
theorem L_f3 {Mc : Mem} {g : Row} (h60 : 0 ≤ Mc 56 0 ∧ Mc 56 0 ≤ 60) : ∀ (k j n : Nat) (M : Mem) (L : List (Int × Int)), (j : Int) + k = Mc 56 0 → k < n → keepF Mc M → clL M L → L.length + k ≤ 241 →
    ∃ M' : Mem, f_X1_findShort_L2 (g 3) n (j : Int) M = some M' ∧ keepF Mc M' ∧ clL M' (L ++ fl g Mc 3 k j) := by
  intro k
  induction k with
  | zero =>
    intro j n M L hj hn hk hc hL
    obtain ⟨n, rfl⟩ := nat_ex hn
    refine ⟨M, ?_, hk, by rw [fl, List.append_nil]; exact hc⟩
    simp only [f_X1_findShort_L2]
    rw [hk 56 (by decide), if_pos (by omega)]
  | succ k ih =>
    intro j n M L hj hn hk hc hL
    obtain ⟨n, rfl⟩ := nat_ex hn
    simp only [f_X1_findShort_L2]
    rw [hk 56 (by decide), hk 60 (by decide), if_neg (by omega), ck_pos ⟨by omega, by omega⟩, Int.toNat_natCast, show (j : Int) + 1 = ((j + 1 : Nat) : Int) by omega]
    have pb : fa g Mc 3 j = if Mc 60 j < g 3 then 1 else 0 := rfl
    by_cases c : g 3 ≤ Mc 60 j
    · rw [if_neg (by omega)] at pb
      rw [if_pos c, ck_pos ⟨by omega, by omega⟩, fl_n (by omega)]
      exact ih (j + 1) n M L (by omega) (by omega) hk hc (by omega)
    · rw [if_pos (by omega)] at pb
      obtain ⟨M1, a1, a2, a3⟩ := add_C hc (by omega) 3 (j : Int)
      rw [if_neg c, fl_y pb (by decide), a1, Option.bind_some, ck_pos ⟨by omega, by omega⟩]
      exact ih (j + 1) n M1 _ (by omega) (by omega) (hk.trans a2) a3 (by rw [List.length_append, List.length_singleton]; omega)
theorem camP {Mc M : Mem} {g : Row} (hl : WFl g) (o : PcsOK Mc g) (h60 : 0 ≤ Mc 56 0 ∧ Mc 56 0 ≤ 60) (hk : keepF Mc M) (r : RSl M 5 g) {j : Nat} (hj : (j : Int) < Mc 56 0) : f_X5_cameraOf (j : Int) 5 M = some (if Mc 57 j = 0 then g (12 + 2 * (Mc 58 j).toNat) else -1) := by
  have b := o.1 j hj
  unfold f_X5_cameraOf
  rw [hk 56 (by decide), hk 57 (by decide), hk 58 (by decide), if_neg (by omega), if_neg (by omega), ck_pos ⟨by omega, by omega⟩, Int.toNat_natCast]
  by_cases c : Mc 57 j = 0
  · obtain ⟨i, hi⟩ : ∃ i : Nat, Mc 58 j = (i : Int) := ⟨(Mc 58 j).toNat, by omega⟩
    rw [if_pos c, if_pos c, hi, camC hl r (by omega), Int.toNat_natCast]; rfl
  · rw [if_neg c, if_neg c]
theorem L_f4 {Mc : Mem} {g : Row} (hl : WFl g) (o : PcsOK Mc g) (h60 : 0 ≤ Mc 56 0 ∧ Mc 56 0 ≤ 60) (r : RS Mc 5 g) : ∀ (k j n : Nat) (M : Mem) (L : List (Int × Int)), (j : Int) + k = Mc 56 0 → 0 < j → k < n → keepF Mc M → clL M L → L.length + k ≤ 241 →
    ∃ M' : Mem, f_X1_findSameCamera_L2 5 n (j : Int) M = some M' ∧ keepF Mc M' ∧ clL M' (L ++ fl g Mc 4 k j) := by
  have h5 := hl.2.2.2.2.2.1
  intro k
  induction k with
  | zero =>
    intro j n M L hj h0 hn hk hc hL
    obtain ⟨n, rfl⟩ := nat_ex hn
    refine ⟨M, ?_, hk, by rw [fl, List.append_nil]; exact hc⟩
    simp only [f_X1_findSameCamera_L2]
    rw [hk 56 (by decide), if_pos (by omega)]
  | succ k ih =>
    intro j n M L hj h0 hn hk hc hL
    obtain ⟨n, rfl⟩ := nat_ex hn
    have b := o.1 j (by omega)
    have b' := o.1 (j - 1) (by omega)
    simp only [f_X1_findSameCamera_L2]
    rw [hk 56 (by decide), if_neg (by omega), camP hl o h60 hk (hk.rs r).1 (by omega), Option.bind_some, ck_pos ⟨by omega, by omega⟩, show (j : Int) - 1 = ((j - 1 : Nat) : Int) by omega, camP hl o h60 hk (hk.rs r).1 (by omega), Option.bind_some, show (j : Int) + 1 = ((j + 1 : Nat) : Int) by omega]
    repeat rw [ck_pos (show inR (((j - 1 : Nat) : Int)) from ⟨by omega, by omega⟩)]
    repeat rw [ck_pos (show inR ((j + 1 : Nat) : Int) from ⟨by omega, by omega⟩)]
    have pb : fa g Mc 4 j = if 0 < j ∧ Mc 57 j = 0 ∧ Mc 57 (j - 1) = 0 ∧ g (12 + 2 * (Mc 58 j).toNat) = g (12 + 2 * (Mc 58 (j - 1)).toNat) then 1 else 0 := rfl
    have no : fa g Mc 4 j = 0 → ∃ M' : Mem, f_X1_findSameCamera_L2 5 n ((j + 1 : Nat) : Int) M = some M' ∧ keepF Mc M' ∧ clL M' (L ++ fl g Mc 4 (k + 1) j) := by
      intro z
      rw [fl_n (by omega)]
      exact ih (j + 1) n M L (by omega) (by omega) (by omega) hk hc (by omega)
    by_cases c : Mc 57 j = 0
    · have cb := (hl.2.2.2.2.2.2.2.2.1 (Mc 58 j).toNat (by omega)).1
      rw [if_pos c, if_neg (by omega)]
      by_cases c2 : Mc 57 (j - 1) = 0
      · rw [if_pos c2]
        by_cases c3 : g (12 + 2 * (Mc 58 j).toNat) = g (12 + 2 * (Mc 58 (j - 1)).toNat)
        · rw [if_pos ⟨h0, c, c2, c3⟩] at pb
          obtain ⟨M1, a1, a2, a3⟩ := add_C hc (by omega) 4 (j : Int)
          rw [if_pos c3, fl_y pb (by decide), a1, Option.bind_some, ck_pos ⟨by omega, by omega⟩]
          exact ih (j + 1) n M1 _ (by omega) (by omega) (by omega) (hk.trans a2) a3 (by rw [List.length_append, List.length_singleton]; omega)
        · rw [if_neg (fun z => c3 z.2.2.2)] at pb
          rw [if_neg c3]; exact no pb
      · rw [if_neg (fun z => c2 z.2.2.1)] at pb
        rw [if_neg c2, if_neg (by omega)]; exact no pb
    · rw [if_neg (fun z => c z.2.1)] at pb
      rw [if_neg c, if_pos rfl]; exact no pb
theorem L_f2 {Mc M0 : Mem} {g : Row} (hv : WFv g) (s : RSp Mc g) (o : PcsOK Mc g) (pq : PcsEq Mc M0) : ∀ (k j n : Nat) (M : Mem) (L : List (Int × Int)), (j : Int) + k = g 9 → k < n → keepF Mc M → clL M L → L.length + k ≤ 241 →
    ∃ M' : Mem, f_X1_findUnseenNames_L2 n (j : Int) M = some M' ∧ keepF Mc M' ∧ clL M' (L ++ fl g Mc 2 k j) := by
  have h9 := hv.1
  intro k
  induction k with
  | zero =>
    intro j n M L hj hn hk hc hL
    obtain ⟨n, rfl⟩ := nat_ex hn
    refine ⟨M, ?_, hk, by rw [fl, List.append_nil]; exact hc⟩
    simp only [f_X1_findUnseenNames_L2]
    rw [hk 64 (by decide), s.1, if_pos (by omega)]
  | succ k ih =>
    intro j n M L hj hn hk hc hL
    obtain ⟨n, rfl⟩ := nat_ex hn
    obtain ⟨s1, s2, s3⟩ := s.2.2 j (by omega)
    have pqM : PcsEq M M0 := by
      unfold PcsEq
      rw [hk 56 (by decide), hk 57 (by decide), hk 58 (by decide), hk 59 (by decide), hk 60 (by decide), hk 61 (by decide), hk 62 (by decide)]
      exact pq
    have oM : PcsOK M g := o.eqv (fun c c1 c2 => hk c (by omega)) (by rw [hk 56 (by decide)]) (by rw [hk 56 (by decide)])
    have shE : ∀ x f, shF M x f = shF Mc x f := by
      have sc : ∀ f (t : Nat), scrF M f t = scrF Mc f t := by
        intro f t
        induction t with
        | zero => rfl
        | succ t it =>
          show ite _ _ _ = ite _ _ _
          rw [hk 61 (by decide), hk 60 (by decide), it]
      intro x f
      unfold shF
      rw [hk 56 (by decide), hk 57 (by decide), hk 58 (by decide), sc]
    have pb : fa g Mc 2 j = if mapOf g j ≠ -1 ∧ shF Mc (mapOf g j) (wb g j) = 0 then 1 else 0 := rfl
    simp only [f_X1_findUnseenNames_L2]
    rw [hk 64 (by decide), hk 65 (by decide), hk 67 (by decide), s.1, if_neg (by omega), ck_pos ⟨by omega, by omega⟩, Int.toNat_natCast, s1, s3, shows_C oM pqM, Option.bind_some, shE, show (j : Int) + 1 = ((j + 1 : Nat) : Int) by omega]
    repeat rw [ck_pos (show inR ((j + 1 : Nat) : Int) from ⟨by omega, by omega⟩)]
    by_cases c : mapOf g j = -1
    · rw [if_neg (fun z => z.1 c)] at pb
      rw [if_pos c, fl_n (by omega)]
      exact ih (j + 1) n M L (by omega) (by omega) hk hc (by omega)
    · rw [if_neg c]
      by_cases c2 : shF Mc (mapOf g j) (wb g j) = 0
      · rw [if_pos ⟨c, c2⟩] at pb
        obtain ⟨M1, a1, a2, a3⟩ := add_C hc (by omega) 2 (j : Int)
        rw [if_pos c2, fl_y pb (by decide), a1, Option.bind_some, ck_pos ⟨by omega, by omega⟩]
        exact ih (j + 1) n M1 _ (by omega) (by omega) (hk.trans a2) a3 (by rw [List.length_append, List.length_singleton]; omega)
      · rw [if_neg (fun z => c2 z.2)] at pb
        rw [if_neg c2, fl_n (by omega)]
        exact ih (j + 1) n M L (by omega) (by omega) hk hc (by omega)
noncomputable def flA (g : Row) (Mc : Mem) : Nat → Nat → List (Int × Int)
  | 0, _ => []
  | r + 1, q => fl g Mc (q : Int) (cd g Mc (q : Int)) 0 ++ flA g Mc r (q + 1)
