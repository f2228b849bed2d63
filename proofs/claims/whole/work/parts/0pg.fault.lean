/-! faults asked for -/
theorem fl_4 (g : Row) (Mc : Mem) (k : Nat) : fl g Mc 4 (k + 1) 0 = fl g Mc 4 k 1 := by
  have : fa g Mc 4 0 = 0 := by
    unfold fa
    rw [if_neg (by decide), if_neg (by decide), if_neg (by decide), if_pos rfl, if_neg (by omega)]
  rw [fl, if_neg (by omega)]
theorem fnd_C {k : Nat} {Mc Mr : Mem} (h : Rel k Mc Mr) : ∃ M' : Mem, f_X1_find 5 Mc = some M' ∧ keepF Mc M' ∧ clL M' (flA (Mr 1) Mc 5 1) := by
  have hl := h.wf.1
  have hv := h.wf.2.1
  have h9 := hv.1
  have h60 := h.n60
  have o := h.pc.1
  have eb := end_b o h60
  have we := wEnd_b hl hv
  obtain ⟨M0, _, _, pq⟩ := h.lays (M := Mr) rfl
  have kN : keepF Mc (upm Mc 68 0 0) := fun c hc => upm_ne (by omega)
  have c0 : clL (upm Mc 68 0 0) [] := ⟨by rw [upm_row, updr_at]; rfl, fun k x hx => by simp at hx⟩
  have len := fun q k j => (fl_len (Mr 1) Mc q k j).2
  have l1 := len 1 (Mc 56 0).toNat 0
  have l2 := len 2 (Mr 1 9).toNat 0
  have l3 := len 3 (Mc 56 0).toNat 0
  have l4 := len 4 (Mc 56 0).toNat 0
  obtain ⟨M1, a1, a2, a3⟩ := L_f1 hl o h60 (Mc 56 0).toNat 0 jFuel _ [] (by omega) (jF (by omega)) kN c0 (by simp; omega)
  obtain ⟨M2, b1, b2, b3⟩ := L_f2 hv h.sp o pq (Mr 1 9).toNat 0 jFuel M1 _ (by omega) (jF (by omega)) a2 a3 (by simp only [List.length_append, List.length_nil]; omega)
  obtain ⟨M3, d1, d2, d3⟩ := L_f3 (g := Mr 1) h60 (Mc 56 0).toNat 0 jFuel M2 _ (by omega) (jF (by omega)) b2 b3 (by simp only [List.length_append, List.length_nil]; omega)
  have four : ∃ M4 : Mem, f_X1_findSameCamera_L2 5 jFuel 1 M3 = some M4 ∧ keepF Mc M4 ∧ clL M4 (([] ++ fl (Mr 1) Mc 1 (Mc 56 0).toNat 0 ++ fl (Mr 1) Mc 2 (Mr 1 9).toNat 0 ++ fl (Mr 1) Mc 3 (Mc 56 0).toNat 0) ++ fl (Mr 1) Mc 4 (Mc 56 0).toNat 0) := by
    by_cases z : Mc 56 0 = 0
    · refine ⟨M3, ?_, d2, ?_⟩
      · obtain ⟨fu, hfu⟩ : ∃ fu : Nat, jFuel = fu + 1 := ⟨9999999, rfl⟩
        rw [hfu]
        simp only [f_X1_findSameCamera_L2]
        rw [d2 56 (by decide), if_pos (by omega)]
      · rw [show (Mc 56 0).toNat = 0 by omega] at d3 ⊢
        rw [show fl (Mr 1) Mc 4 0 0 = [] from rfl, List.append_nil]; exact d3
    · rw [show fl (Mr 1) Mc 4 (Mc 56 0).toNat 0 = fl (Mr 1) Mc 4 ((Mc 56 0).toNat - 1) 1 by rw [← fl_4, show (Mc 56 0).toNat - 1 + 1 = (Mc 56 0).toNat by omega]]
      exact L_f4 hl o h60 h.rs ((Mc 56 0).toNat - 1) 1 jFuel M3 _ (by omega) (by omega) (jF (by omega)) d2 d3 (by simp only [List.length_append, List.length_nil]; omega)
  obtain ⟨M4, e1, e2, e3⟩ := four
  have s0 : f_X3_setting 5 0 (upm Mc 68 0 0) = some (Mr 1 0) := set_ev (kN.rs h.rs).1 (i := 0) (by omega)
  have s3 : f_X3_setting 5 3 M2 = some (Mr 1 3) := set_ev (b2.rs h.rs).1 (i := 3) (by omega)
  have s4 : f_X3_setting 5 4 M4 = some (Mr 1 4) := set_ev (e2.rs h.rs).1 (i := 4) (by omega)
  have a1 : f_X1_findBanned_L13 5 ((alM (Mr 1) (Mr 1 0) (Mr 1 5).toNat : Nat) : Int) jFuel 0 (upm Mc 68 0 0) = some M1 := a1
  have b1 : f_X1_findUnseenNames_L2 jFuel 0 M1 = some M2 := b1
  have d1 : f_X1_findShort_L2 (Mr 1 3) jFuel 0 M2 = some M3 := d1
  have all : flA (Mr 1) Mc 5 1 = (([] ++ fl (Mr 1) Mc 1 (Mc 56 0).toNat 0 ++ fl (Mr 1) Mc 2 (Mr 1 9).toNat 0 ++ fl (Mr 1) Mc 3 (Mc 56 0).toNat 0) ++ fl (Mr 1) Mc 4 (Mc 56 0).toNat 0) ++ fl (Mr 1) Mc 5 1 0 := by
    show fl (Mr 1) Mc 1 (Mc 56 0).toNat 0 ++ (fl (Mr 1) Mc 2 (Mr 1 9).toNat 0 ++ (fl (Mr 1) Mc 3 (Mc 56 0).toNat 0 ++ (fl (Mr 1) Mc 4 (Mc 56 0).toNat 0 ++ (fl (Mr 1) Mc 5 1 0 ++ [])))) = _
    simp only [List.append_nil, List.nil_append, List.append_assoc]
  have f5 : fa (Mr 1) Mc 5 0 = if max (Mc 56 1 - wEnd (Mr 1)) (-(Mc 56 1 - wEnd (Mr 1))) ≤ Mr 1 4 then 0 else 1 := rfl
  have e561 : M4 56 1 = Mc 56 1 := by rw [e2 56 (by decide)]
  have e641 : M4 64 1 = wEnd (Mr 1) := by rw [e2 64 (by decide)]; exact h.sp.2.1
  unfold f_X1_find f_X1_findBanned f_X1_findUnseenNames f_X1_findShort f_X1_findSameCamera
  rw [lt_eq, s0, Option.bind_some, al_C hl (kN.rs h.rs).1, Option.bind_some, a1, Option.bind_some, b1, Option.bind_some, s3, Option.bind_some, d1, Option.bind_some, e1, Option.bind_some, e561, e641, ck_pos ⟨by omega, by omega⟩, ck_pos ⟨by omega, by omega⟩, s4, Option.bind_some, all]
  by_cases c : max (Mc 56 1 - wEnd (Mr 1)) (-(Mc 56 1 - wEnd (Mr 1))) ≤ Mr 1 4
  · rw [if_pos c] at f5 ⊢
    refine ⟨M4, rfl, e2, ?_⟩
    rw [fl, if_neg (by omega), fl, List.append_nil]; exact e3
  · rw [if_neg c] at f5 ⊢
    obtain ⟨M5, g1, g2, g3⟩ := add_C e3 (by simp only [List.length_append, List.length_nil]; omega) 5 (-1)
    rw [g1]
    refine ⟨M5, rfl, e2.trans g2, ?_⟩
    rw [fl, if_pos f5, if_pos rfl, fl]; exact g3
/-! the reference's -/
theorem isF_R {Mc M : Mem} (hl : WFl (M 1)) (hv : WFv (M 1)) (o : PcsOK Mc (M 1)) (pq : PcsEq Mc M) (k2 : ∀ i : Nat, (i : Int) < M 1 9 → M 19 i = wb (M 1) i) {q i : Nat} (hq : 1 ≤ q ∧ q ≤ 5) (hi : i < cd (M 1) Mc (q : Int)) : f_X11_isFault (q : Int) (i : Int) (wEnd (M 1)) M = some (fa (M 1) Mc (q : Int) i) := by
  have h60 := pq.1
  have h5 := hl.2.2.2.2.2.1
  have h6 := hl.2.2.2.2.2.2.1
  have h9 := hv.1
  have eb := end_b o h60
  have we := wEnd_b hl hv
  have shot : ∀ j : Nat, (j : Int) < Mc 56 0 → f_X11_isShot (j : Int) M = some (if Mc 57 j = 0 then 1 else 0) := by
    intro j hj
    unfold f_X11_isShot
    rw [ck_pos ⟨by omega, by omega⟩, Int.toNat_natCast, (pq.2.2 j hj).1]
    split <;> rfl
  have cam : ∀ j : Nat, (j : Int) < Mc 56 0 → Mc 57 j = 0 → f_X11_cameraOf (M 8 j) M = some (M 1 (12 + 2 * (Mc 58 j).toNat)) := by
    intro j hj hc
    have b := o.1 j hj
    obtain ⟨t, ht⟩ : ∃ t : Nat, Mc 58 j = (t : Int) := ⟨(Mc 58 j).toNat, by omega⟩
    rw [(pq.2.2 j hj).2.1, ht, cam_ev (by omega), Int.toNat_natCast]
  unfold f_X11_isFault fa
  unfold cd at hi
  by_cases q1 : (q : Int) = 1
  · rw [if_neg (by omega), if_neg (by omega)] at hi
    rw [if_pos q1, if_pos q1, shot i (by omega), Option.bind_some]
    have b := o.1 i (by omega)
    by_cases c : Mc 57 i = 0
    · obtain ⟨t, ht⟩ : ∃ t : Nat, Mc 58 i = (t : Int) := ⟨(Mc 58 i).toNat, by omega⟩
      rw [if_pos c, if_neg (by decide), ck_pos ⟨by omega, by omega⟩, Int.toNat_natCast, (pq.2.2 i (by omega)).2.1, ht, isB_R hl (by omega), Option.bind_some, Int.toNat_natCast]
      rcases bnd_b (M 1) (M 1 0) t with z | z
      · rw [if_pos z, if_neg (by omega)]
      · rw [if_neg (by omega), if_pos ⟨c, z⟩]
    · rw [if_neg c, if_pos rfl, if_neg (fun z => c z.1)]
  · rw [if_neg q1, if_neg q1]
    by_cases q2 : (q : Int) = 2
    · rw [if_neg (by omega), if_pos q2] at hi
      rw [if_pos q2, if_pos q2, map_ev hl hv (by omega), Option.bind_some, Option.bind_some, shown_R o pq _ (by omega), k2 i (by omega), Option.bind_some]
      by_cases c : mapOf (M 1) i = -1
      · rw [if_pos c, if_neg (fun z => z.1 c)]
      · rw [if_neg c]
        by_cases c2 : shF Mc (mapOf (M 1) i) (wb (M 1) i) = 0
        · rw [if_pos c2, if_pos ⟨c, c2⟩]
        · rw [if_neg c2, if_neg (fun z => c2 z.2)]
    · rw [if_neg q2, if_neg q2]
      by_cases q3 : (q : Int) = 3
      · rw [if_neg (by omega), if_neg (by omega)] at hi
        rw [if_pos q3, if_pos q3, ck_pos ⟨by omega, by omega⟩, Int.toNat_natCast, show (3 : Int).toNat = 3 from rfl, (pq.2.2 i (by omega)).2.2.2.1]
        by_cases c : M 1 3 ≤ Mc 60 i
        · rw [if_pos c, if_neg (by omega)]
        · rw [if_neg c, if_pos (by omega)]
      · rw [if_neg q3, if_neg q3]
        by_cases q4 : (q : Int) = 4
        · rw [if_neg (by omega), if_neg (by omega)] at hi
          rw [if_pos q4, if_pos q4]
          by_cases z : i = 0
          · rw [if_pos (by omega), if_neg (by omega)]
          · rw [if_neg (by omega), shot i (by omega), Option.bind_some, show (i : Int) - 1 = ((i - 1 : Nat) : Int) by omega, shot (i - 1) (by omega), Option.bind_some, ck_pos ⟨by omega, by omega⟩, ck_pos ⟨by omega, by omega⟩]
            by_cases c : Mc 57 i = 0
            · rw [if_pos c, if_neg (by decide)]
              by_cases c2 : Mc 57 (i - 1) = 0
              · rw [if_pos c2, if_neg (by decide), Int.toNat_natCast, cam i (by omega) c, Option.bind_some, ck_pos ⟨by omega, by omega⟩, Int.toNat_natCast, cam (i - 1) (by omega) c2, Option.bind_some]
                by_cases c3 : M 1 (12 + 2 * (Mc 58 i).toNat) = M 1 (12 + 2 * (Mc 58 (i - 1)).toNat)
                · rw [if_pos c3, if_pos ⟨by omega, c, c2, c3⟩]
                · rw [if_neg c3, if_neg (fun w => c3 w.2.2.2)]
              · rw [if_neg c2, if_pos rfl, if_neg (fun w => c2 w.2.2.1)]
            · rw [if_neg c, if_pos rfl, if_neg (fun w => c w.2.1)]
        · rw [if_neg q4, if_neg q4, end_R o pq, Option.bind_some, ck_pos ⟨by omega, by omega⟩, ck_pos ⟨by omega, by omega⟩, show (4 : Int).toNat = 4 from rfl]
          split <;> rfl
theorem cand_R {Mc M : Mem} (h60 : 0 ≤ Mc 56 0) (h9 : 0 ≤ M 1 9) (e : M 0 17 = Mc 56 0) (q : Int) : f_X11_candidates q M = some ((cd (M 1) Mc q : Nat) : Int) := by
  unfold f_X11_candidates cd
  rw [show (9 : Int).toNat = 9 from rfl, e]
  by_cases a : q = 5
  · rw [if_pos a, if_pos a]; rfl
  · rw [if_neg a, if_neg a]
    by_cases b : q = 2
    · rw [if_pos b, if_pos b]; congr 1; omega
    · rw [if_neg b, if_neg b]; congr 1; omega
theorem cd_b {g : Row} {Mc : Mem} (h60 : 0 ≤ Mc 56 0 ∧ Mc 56 0 ≤ 60) (h9 : 0 ≤ g 9 ∧ g 9 ≤ 60) (q : Int) : cd g Mc q ≤ 60 := by
  unfold cd; (repeat' split) <;> omega
theorem L_fo_R {Mc M : Mem} (hl : WFl (M 1)) (hv : WFv (M 1)) (o : PcsOK Mc (M 1)) (pq : PcsEq Mc M) (k2 : ∀ i : Nat, (i : Int) < M 1 9 → M 19 i = wb (M 1) i) {q : Nat} (hq : 1 ≤ q ∧ q ≤ 5) : ∀ (k j n : Nat) (a : Int), j + k = cd (M 1) Mc (q : Int) → k < n → 0 ≤ a → a ≤ (j : Int) → f_X11_faultsOf_L5 (q : Int) (wEnd (M 1)) M n a (j : Int) = some (a + sumF (fa (M 1) Mc (q : Int)) k j) := by
  have h9 := hv.1
  have cb := cd_b (g := M 1) pq.1 h9 (q : Int)
  have ca := cand_R (Mc := Mc) (M := M) pq.1.1 h9.1 pq.2.1 (q : Int)
  intro k
  induction k with
  | zero =>
    intro j n a hj hn _ _
    obtain ⟨n, rfl⟩ := nat_ex hn
    simp only [f_X11_faultsOf_L5]
    rw [ca, Option.bind_some, if_pos (by omega)]; simp [sumF]
  | succ k ih =>
    intro j n a hj hn h1 h2
    obtain ⟨n, rfl⟩ := nat_ex hn
    have s : sumF (fa (M 1) Mc (q : Int)) (k + 1) j = fa (M 1) Mc (q : Int) j + sumF (fa (M 1) Mc (q : Int)) k (j + 1) := rfl
    have fb := fa_b (M 1) Mc (q : Int) j
    have bt : (if fa (M 1) Mc (q : Int) j = 0 then (0 : Int) else 1) = fa (M 1) Mc (q : Int) j := by
      rcases fb with z | z <;> rw [z] <;> rfl
    simp only [f_X11_faultsOf_L5]
    rw [ca, Option.bind_some, if_neg (by omega), isF_R hl hv o pq k2 hq (by omega), Option.bind_some, bit_eq, Option.bind_some, bt, ck_pos ⟨by omega, by omega⟩, ck_pos ⟨by omega, by omega⟩, show (j : Int) + 1 = ((j + 1 : Nat) : Int) by omega, ih (j + 1) n _ (by omega) (by omega) (by omega) (by omega), s, Int.add_assoc]
theorem fo_R {Mc M : Mem} (hl : WFl (M 1)) (hv : WFv (M 1)) (o : PcsOK Mc (M 1)) (pq : PcsEq Mc M) (k2 : ∀ i : Nat, (i : Int) < M 1 9 → M 19 i = wb (M 1) i) {q : Nat} (hq : 1 ≤ q ∧ q ≤ 5) : f_X11_faultsOf (q : Int) (wEnd (M 1)) M = some (((fl (M 1) Mc (q : Int) (cd (M 1) Mc (q : Int)) 0).length : Nat) : Int) := by
  have cb := cd_b (g := M 1) pq.1 hv.1 (q : Int)
  have e := L_fo_R hl hv o pq k2 hq (cd (M 1) Mc (q : Int)) 0 jFuel 0 (by omega) (jF (by omega)) (by omega) (by omega)
  rw [Int.zero_add, ← (fl_len _ _ _ _ _).1] at e
  exact e
theorem L_af_R {Mc M : Mem} (hl : WFl (M 1)) (hv : WFv (M 1)) (o : PcsOK Mc (M 1)) (pq : PcsEq Mc M) (k2 : ∀ i : Nat, (i : Int) < M 1 9 → M 19 i = wb (M 1) i) : ∀ (r q n : Nat) (a : Int), q + r = 6 → 1 ≤ q → r < n → 0 ≤ a → a ≤ 60 * (q : Int) → f_X11_allFaults_L13 (wEnd (M 1)) n a (q : Int) M = some (a + ((flA (M 1) Mc r q).length : Nat), M) := by
  intro r
  induction r with
  | zero =>
    intro q n a hq h1 hn _ _
    obtain ⟨n, rfl⟩ := nat_ex hn
    simp only [f_X11_allFaults_L13]
    rw [if_pos (by omega)]; simp [flA]
  | succ r ih =>
    intro q n a hq h1 hn ha hb
    obtain ⟨n, rfl⟩ := nat_ex hn
    have cb := cd_b (g := M 1) pq.1 hv.1 (q : Int)
    have lb := (fl_len (M 1) Mc (q : Int) (cd (M 1) Mc (q : Int)) 0).2
    simp only [f_X11_allFaults_L13]
    rw [if_neg (by omega), fo_R hl hv o pq k2 ⟨h1, by omega⟩, Option.bind_some, ck_pos ⟨by omega, by omega⟩, ck_pos ⟨by omega, by omega⟩, show (q : Int) + 1 = ((q + 1 : Nat) : Int) by omega, ih (q + 1) n _ (by omega) (by omega) (by omega) (by omega) (by omega)]
    rw [flA, List.length_append]
    congr 2; omega
theorem af_R {k : Nat} {Mc Mr M : Mem} (h : Rel k Mc Mr) (e : M 1 = Mr 1) : ∃ M' : Mem, f_X11_allFaults M = some ((((flA (Mr 1) Mc 5 1).length : Nat) : Int), M') ∧ keepR M M' ∧ M' 0 7 = M 0 7 ∧ M' 1 = Mr 1 ∧ PcsEq Mc M' ∧ ∀ i : Nat, (i : Int) < Mr 1 9 → M' 19 i = wb (Mr 1) i := by
  have hl := h.wf.1
  have hv := h.wf.2.1
  obtain ⟨M1, l1, l2, l3⟩ := h.lays e
  have k1 : M1 1 = Mr 1 := (l2.1 1 (by decide) (by decide)).trans e
  obtain ⟨M2, w1, w2, w3⟩ := laysW (M := M1) (by rw [k1]; exact hl) (by rw [k1]; exact hv)
  have k2 : M2 1 = Mr 1 := (w2 1 (by decide) (by decide)).trans k1
  rw [k1] at w1 w3
  have pq : PcsEq Mc M2 := l3.eqv (by rw [w2 0 (by decide) (by decide)]) (fun c c1 c2 => w2 c (by omega) (by omega))
  refine ⟨M2, ?_, l2.R.trans w2.R, ?_, k2, pq, fun i hi => (w3 i hi).1⟩
  · unfold f_X11_allFaults
    rw [l1, Option.bind_some, w1, Option.bind_some]
    have q := L_af_R (M := M2) (Mc := Mc) (by rw [k2]; exact hl) (by rw [k2]; exact hv) (by rw [k2]; exact h.pc.1) pq (by rw [k2]; exact fun i hi => (w3 i hi).1) 5 1 jFuel 0 (by omega) (by omega) (jF (by omega)) (by omega) (by omega)
    rw [k2, Int.zero_add] at q
    exact q
  · rw [w2 0 (by decide) (by decide)]; exact l2.2 7 (by decide) (by decide) (by decide)
theorem p_fits {k : Nat} {Mc Mr : Mem} (h : Rel k Mc Mr) : ∃ Mc' Mr' : Mem, st_fits Mc Mr Mc' Mr' ∧ Rel (k + 1) Mc' Mr' := by
  obtain ⟨M1, a1, a2, a3⟩ := fnd_C h
  obtain ⟨M2, b1, b2, b3, b4, b5, b6⟩ := af_R h (M := upm Mr 0 7 0) (thr_ne _ _ (by decide))
  refine ⟨M1, M2, ⟨if (flA (Mr 1) Mc 5 1).length = 0 then 1 else 0, ?_, ?_⟩, h.scr a2.C (keepR.thr.trans b2) (by omega)⟩
  · unfold f_X10_fits
    rw [a1, Option.bind_some, a3.1]
    by_cases z : (flA (Mr 1) Mc 5 1).length = 0
    · rw [if_pos z, if_pos (by omega)]
    · rw [if_neg z, if_neg (by omega)]
  · unfold f_X11_fits
    rw [lt_eq, b1, Option.bind_some]
    simp only []
    by_cases z : (flA (Mr 1) Mc 5 1).length = 0
    · rw [if_pos z, if_pos (by omega)]
    · rw [if_neg z, if_neg (by omega)]
/-! counted by kind -/
def cnt (x : Int) : List (Int × Int) → Nat
  | [] => 0
  | h :: t => (if h.1 = x then 1 else 0) + cnt x t
theorem cnt_app (x : Int) : ∀ L L' : List (Int × Int), cnt x (L ++ L') = cnt x L + cnt x L' := by
  intro L
  induction L with
  | nil => intro L'; simp [cnt]
  | cons a t ih => intro L'; show (if a.1 = x then 1 else 0) + cnt x (t ++ L') = _; rw [ih]; show _ = (if a.1 = x then 1 else 0) + cnt x t + cnt x L'; omega
theorem cnt_len (x : Int) : ∀ L : List (Int × Int), cnt x L ≤ L.length := by
  intro L
  induction L with
  | nil => exact Nat.le_refl _
  | cons a t ih => show (if a.1 = x then 1 else 0) + cnt x t ≤ t.length + 1; split <;> omega
theorem cnt_fl (g : Row) (Mc : Mem) (x q : Int) : ∀ k j : Nat, cnt x (fl g Mc q k j) = if q = x then (fl g Mc q k j).length else 0 := by
  intro k
  induction k with
  | zero => intro j; show 0 = _; split <;> rfl
  | succ k ih =>
    intro j
    unfold fl
    by_cases z : fa g Mc q j = 1
    · rw [if_pos z]
      show (if q = x then 1 else 0) + cnt x (fl g Mc q k (j + 1)) = _
      rw [ih, List.length_cons]
      split <;> omega
    · rw [if_neg z]; exact ih (j + 1)
theorem cnt_flA (g : Row) (Mc : Mem) (x : Nat) : ∀ r q : Nat, cnt (x : Int) (flA g Mc r q) = if q ≤ x ∧ x < q + r then (fl g Mc (x : Int) (cd g Mc (x : Int)) 0).length else 0 := by
  intro r
  induction r with
  | zero => intro q; rw [if_neg (by omega)]; rfl
  | succ r ih =>
    intro q
    rw [flA, cnt_app, ih, cnt_fl]
    by_cases z : q = x
    · rw [if_pos (by omega), if_neg (by omega), if_pos (by omega), z]; rfl
    · rw [if_neg (by omega)]
      by_cases w : q + 1 ≤ x ∧ x < q + 1 + r
      · rw [if_pos w, if_pos (by omega)]; omega
      · rw [if_neg w, if_neg (by omega)]
theorem L_cnt_C {M : Mem} {L : List (Int × Int)} (h : clL M L) (hL : L.length ≤ 241) (x : Int) : ∀ (k j n : Nat) (a : Int), j + k = L.length → k < n → 0 ≤ a → a ≤ (j : Int) → f_X1_countOf_L4 x M n a (j : Int) = some (a + (cnt x (L.drop j) : Nat)) := by
  intro k
  induction k with
  | zero =>
    intro j n a hj hn _ _
    obtain ⟨n, rfl⟩ := nat_ex hn
    simp only [f_X1_countOf_L4, h.1]
    rw [if_pos (by omega), List.drop_of_length_le (by omega)]; simp [cnt]
  | succ k ih =>
    intro j n a hj hn h1 h2
    obtain ⟨n, rfl⟩ := nat_ex hn
    have hd : L.drop j = L[j]'(by omega) :: L.drop (j + 1) := List.drop_eq_getElem_cons (by omega)
    have hx := (h.2 j (L[j]'(by omega)) (List.getElem?_eq_getElem (by omega))).1
    have c : cnt x (L.drop j) = (if (L[j]'(by omega)).1 = x then 1 else 0) + cnt x (L.drop (j + 1)) := by rw [hd]; rfl
    simp only [f_X1_countOf_L4, h.1]
    rw [if_neg (by omega), ck_pos ⟨by omega, by omega⟩, Int.toNat_natCast, hx, show (j : Int) + 1 = ((j + 1 : Nat) : Int) by omega]
    by_cases z : (L[j]'(by omega)).1 = x
    · rw [if_pos z] at c ⊢
      rw [ck_pos ⟨by omega, by omega⟩, ck_pos ⟨by omega, by omega⟩, ih (j + 1) n _ (by omega) (by omega) (by omega) (by omega), c]
      congr 1; omega
    · rw [if_neg z] at c ⊢
      rw [ck_pos ⟨by omega, by omega⟩, ih (j + 1) n _ (by omega) (by omega) (by omega) (by omega), c]
      congr 1; omega
theorem flA_len {g : Row} {Mc : Mem} (h60 : 0 ≤ Mc 56 0 ∧ Mc 56 0 ≤ 60) (h9 : 0 ≤ g 9 ∧ g 9 ≤ 60) : ∀ r q : Nat, q + r = 6 → 1 ≤ q → (flA g Mc r q).length ≤ 60 * (r - 1) + 1 := by
  intro r
  induction r with
  | zero => intro q _ _; exact Nat.zero_le _
  | succ r ih =>
    intro q hq h1
    have e := ih (q + 1) (by omega) (by omega)
    have l := (fl_len g Mc (q : Int) (cd g Mc (q : Int)) 0).2
    have c := cd_b h60 h9 (q : Int)
    rw [flA, List.length_append]
    by_cases z : r = 0
    · subst z
      have : cd g Mc (q : Int) = 1 := by unfold cd; rw [if_pos (by omega)]
      show _ + 0 ≤ _
      omega
    · omega
theorem p_faults {k : Nat} {Mc Mr : Mem} (h : Rel k Mc Mr) (p : Int) : ∃ Mc' Mr' : Mem, st_faults p Mc Mr Mc' Mr' ∧ Rel (k + 1) Mc' Mr' := by
  have hl := h.wf.1
  have hv := h.wf.2.1
  by_cases hp : 0 ≤ p ∧ p ≤ 5
  · obtain ⟨M1, a1, a2, a3⟩ := fnd_C h
    obtain ⟨M2, b1, b2, b3, b4, b5, b6⟩ := af_R h (M := upm Mr 0 7 0) (thr_ne _ _ (by decide))
    have ll := flA_len (g := Mr 1) (Mc := Mc) h.n60 hv.1 5 1 (by omega) (by omega)
    obtain ⟨x, hx⟩ : ∃ x : Nat, p = (x : Int) := ⟨p.toNat, by omega⟩
    obtain ⟨M3, w1, w2, w3⟩ := laysW (M := M2) (by rw [b4]; exact hl) (by rw [b4]; exact hv)
    have k3 : M3 1 = Mr 1 := (w2 1 (by decide) (by decide)).trans b4
    rw [b4] at w1 w3
    have pq : PcsEq Mc M3 := b5.eqv (by rw [w2 0 (by decide) (by decide)]) (fun c c1 c2 => w2 c (by omega) (by omega))
    have cC := L_cnt_C a3 (by omega) p (flA (Mr 1) Mc 5 1).length 0 jFuel 0 (by omega) (jF (by omega)) (by omega) (by omega)
    rw [List.drop_zero, Int.zero_add] at cC
    refine ⟨M1, if p = 0 then M2 else M3, Or.inl ⟨if p = 0 then ((flA (Mr 1) Mc 5 1).length : Nat) else (cnt p (flA (Mr 1) Mc 5 1) : Nat), ?_, ?_, ?_⟩, h.scr a2.C (keepR.thr.trans (b2.trans ?_)) (by omega)⟩
    · unfold f_X10_faults f_X1_countOf
      have cC : f_X1_countOf_L4 p M1 jFuel 0 0 = _ := cC
      rw [(rR_ok hp).1, Option.bind_some, a1, Option.bind_some, a3.1, cC]
      split <;> rfl
    · unfold f_X11_faults
      rw [isIn_eq, if_pos hp, Option.bind_some, goes1, Option.bind_some]
      simp only []
      rw [if_neg (by decide), b1, Option.bind_some, w1, Option.bind_some]
      by_cases z : p = 0
      · rw [if_pos z, if_pos z, if_pos z]
      · have fo := fo_R (M := M3) (Mc := Mc) (by rw [k3]; exact hl) (by rw [k3]; exact hv) (by rw [k3]; exact h.pc.1) pq (by rw [k3]; exact fun i hi => (w3 i hi).1) (q := x) ⟨by omega, by omega⟩
        rw [k3, ← hx] at fo
        have cf := cnt_flA (Mr 1) Mc x 5 1
        rw [if_pos (by omega), ← hx] at cf
        rw [if_neg z, if_neg z, if_neg z, fo, Option.bind_some, cf]
    · split
      · exact b3.trans (thr_at _ _)
      · rw [w2 0 (by decide) (by decide)]; exact b3.trans (thr_at _ _)
    · split
      · exact keepR.rfl
      · exact w2.R
  · refine ⟨Mc, upm Mr 0 7 1, Or.inr ⟨?_, 0, ?_, thr_at _ _⟩, h.scr keepC.rfl keepR.thr (by omega)⟩
    · unfold x_X10_faults
      exact x1_2 hp
    · unfold f_X11_faults
      rw [isIn_eq, if_neg hp, Option.bind_some, goes0, Option.bind_some]
      simp
