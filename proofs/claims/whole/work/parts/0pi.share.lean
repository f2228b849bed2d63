/-! share -/
theorem sumF_split (f : Nat → Int) : ∀ (a b i : Nat), sumF f (a + b) i = sumF f a i + sumF f b (i + a) := by
  intro a
  induction a with
  | zero => intro b i; rw [Nat.zero_add]; simp [sumF]
  | succ a ih =>
    intro b i
    rw [show a + 1 + b = (a + b) + 1 by omega]
    show f i + sumF f (a + b) (i + 1) = f i + sumF f a (i + 1) + sumF f b (i + (a + 1))
    rw [ih b (i + 1), show i + 1 + a = i + (a + 1) by omega]; omega
theorem sumF_const {f : Nat → Int} {c : Int} : ∀ (a i : Nat), (∀ j : Nat, i ≤ j → j < i + a → f j = c) → sumF f a i = c * (a : Int) := by
  intro a
  induction a with
  | zero => intro i _; simp [sumF]
  | succ a ih =>
    intro i h
    show f i + sumF f a (i + 1) = _
    rw [h i (by omega) (by omega), ih (i + 1) (fun j h1 h2 => h j (by omega) (by omega)), Int.natCast_add, Int.mul_add]
    simp; omega
def nx (Mc : Mem) (k : Nat) : Int := if (k : Int) + 1 < Mc 56 0 then Mc 61 (k + 1) else Mc 56 1
theorem nx_b {Mc : Mem} {g : Row} (o : PcsOK Mc g) {k : Nat} (hk : (k : Int) < Mc 56 0) : Mc 61 k < nx Mc k ∧ nx Mc k ≤ Mc 61 k + Mc 60 k := by
  have b := o.1 k hk
  unfold nx
  by_cases c : (k : Int) + 1 < Mc 56 0
  · rw [if_pos c]
    have b' := o.1 (k + 1) (by omega)
    have d := o.2.2.2 k c
    omega
  · rw [if_neg c, (o.2.1 (by omega)).2.2, show (Mc 56 0).toNat - 1 = k by omega]
    omega
theorem beg_mono {Mc : Mem} {g : Row} (o : PcsOK Mc g) : ∀ d k : Nat, ((k + d : Nat) : Int) < Mc 56 0 → Mc 61 k ≤ Mc 61 (k + d) := by
  intro d
  induction d with
  | zero => intro k _; exact Int.le_refl _
  | succ d ih =>
    intro k hk
    have e := ih (k + 1) (by omega)
    have b := (nx_b o (k := k) (by omega)).1
    unfold nx at b
    rw [if_pos (by omega)] at b
    rw [show k + (d + 1) = k + 1 + d by omega]
    omega
theorem scr_at {Mc : Mem} {g : Row} (o : PcsOK Mc g) {k : Nat} (hk : (k : Int) < Mc 56 0) {f : Int} (h1 : Mc 61 k ≤ f) (h2 : f < nx Mc k) : ∀ m : Nat, k < m → (m : Int) ≤ Mc 56 0 → scrF Mc f m = (k : Int) := by
  intro m
  induction m with
  | zero => intro h _; omega
  | succ m ih =>
    intro hm hn
    have b := nx_b o hk
    show ite _ _ _ = _
    by_cases z : m = k
    · rw [z, if_pos ⟨h1, by omega⟩]
    · have e := beg_mono o (m - (k + 1)) (k + 1) (by omega)
      rw [show k + 1 + (m - (k + 1)) = m by omega] at e
      unfold nx at h2
      rw [if_pos (by omega)] at h2
      rw [if_neg (by omega)]
      exact ih (by omega) (by omega)
def cs (g : Row) (Mc : Mem) (x : Int) (k : Nat) : Int := if Mc 57 k = 0 ∧ g (12 + 2 * (Mc 58 k).toNat) = x then nx Mc k - Mc 61 k else 0
def byF (g : Row) (Mc : Mem) (x : Int) (f : Nat) : Int := if scrF Mc (f : Int) (Mc 56 0).toNat = -1 then 0 else if Mc 57 (scrF Mc (f : Int) (Mc 56 0).toNat).toNat = 0 ∧ g (12 + 2 * (Mc 58 (scrF Mc (f : Int) (Mc 56 0).toNat).toNat).toNat) = x then 1 else 0
theorem byF_b (g : Row) (Mc : Mem) (x : Int) (f : Nat) : byF g Mc x f = 0 ∨ byF g Mc x f = 1 := by
  unfold byF; (repeat' split) <;> simp
theorem share_sum {Mc : Mem} {g : Row} (o : PcsOK Mc g) (x : Int) : ∀ (d k : Nat), ((k + (d + 1) : Nat) : Int) = Mc 56 0 → sumF (byF g Mc x) (Mc 56 1 - Mc 61 k).toNat (Mc 61 k).toNat = sumF (cs g Mc x) (d + 1) k := by
  intro d
  induction d with
  | zero =>
    intro k hk
    have b := nx_b o (k := k) (by omega)
    have bb := o.1 k (by omega)
    have en : nx Mc k = Mc 56 1 := by unfold nx; rw [if_neg (by omega)]
    have c : ∀ j : Nat, (Mc 61 k).toNat ≤ j → j < (Mc 61 k).toNat + (Mc 56 1 - Mc 61 k).toNat → byF g Mc x j = if Mc 57 k = 0 ∧ g (12 + 2 * (Mc 58 k).toNat) = x then 1 else 0 := by
      intro j h1 h2
      have s := scr_at o (k := k) (by omega) (f := (j : Int)) (by omega) (by omega) (Mc 56 0).toNat (by omega) (by omega)
      unfold byF
      rw [s, if_neg (by omega), Int.toNat_natCast]
    rw [sumF_const _ _ c]
    show _ = cs g Mc x k + 0
    unfold cs
    rw [en]
    split <;> omega
  | succ d ih =>
    intro k hk
    have e := ih (k + 1) (by omega)
    have b := nx_b o (k := k) (by omega)
    have bb := o.1 k (by omega)
    have bb' := o.1 (k + 1) (by omega)
    have en : nx Mc k = Mc 61 (k + 1) := by unfold nx; rw [if_pos (by omega)]
    have el : Mc 61 (k + 1) ≤ Mc 56 1 := by
      have e2 := beg_mono o (d) (k + 1) (by omega)
      have e3 := (o.2.1 (by omega)).2.2
      rw [show (Mc 56 0).toNat - 1 = k + 1 + d by omega] at e3
      have := o.1 (k + 1 + d) (by omega)
      omega
    have c : ∀ j : Nat, (Mc 61 k).toNat ≤ j → j < (Mc 61 k).toNat + (Mc 61 (k + 1) - Mc 61 k).toNat → byF g Mc x j = if Mc 57 k = 0 ∧ g (12 + 2 * (Mc 58 k).toNat) = x then 1 else 0 := by
      intro j h1 h2
      have s := scr_at o (k := k) (by omega) (f := (j : Int)) (by omega) (by omega) (Mc 56 0).toNat (by omega) (by omega)
      unfold byF
      rw [s, if_neg (by omega), Int.toNat_natCast]
    rw [show (Mc 56 1 - Mc 61 k).toNat = (Mc 61 (k + 1) - Mc 61 k).toNat + (Mc 56 1 - Mc 61 (k + 1)).toNat by omega, sumF_split, sumF_const _ _ c, show (Mc 61 k).toNat + (Mc 61 (k + 1) - Mc 61 k).toNat = (Mc 61 (k + 1)).toNat by omega, e]
    show _ = cs g Mc x k + sumF (cs g Mc x) (d + 1) (k + 1)
    unfold cs
    rw [en]
    split <;> omega
theorem cs_b {Mc : Mem} {g : Row} (o : PcsOK Mc g) {x : Int} {k : Nat} (hk : (k : Int) < Mc 56 0) : 0 ≤ cs g Mc x k ∧ cs g Mc x k ≤ 400 := by
  have b := nx_b o hk
  have bb := o.1 k hk
  unfold cs
  split <;> omega
theorem isBy_R {Mc M : Mem} (hl : WFl (M 1)) (o : PcsOK Mc (M 1)) (pq : PcsEq Mc M) (x : Int) (f : Nat) : f_X11_isBy x (f : Int) M = some (byF (M 1) Mc x f) := by
  have h60 := pq.1
  have h5 := hl.2.2.2.2.2.1
  have b := scrF_b Mc (f : Int) (Mc 56 0).toNat
  unfold f_X11_isBy byF
  rw [scr_R o pq, Option.bind_some]
  by_cases c : scrF Mc (f : Int) (Mc 56 0).toNat = -1
  · rw [if_pos c, if_pos c]
  · obtain ⟨i, hi⟩ : ∃ i : Nat, scrF Mc (f : Int) (Mc 56 0).toNat = (i : Int) := ⟨(scrF Mc (f : Int) (Mc 56 0).toNat).toNat, by omega⟩
    have e := pq.2.2 i (by omega)
    have bb := o.1 i (by omega)
    rw [if_neg c, if_neg c, hi, Int.toNat_natCast]
    unfold f_X11_isShot
    rw [ck_pos ⟨by omega, by omega⟩, Int.toNat_natCast, e.1]
    by_cases c1 : Mc 57 i = 0
    · obtain ⟨t, ht⟩ : ∃ t : Nat, Mc 58 i = (t : Int) := ⟨(Mc 58 i).toNat, by omega⟩
      rw [if_pos c1, Option.bind_some, if_neg (by decide), ck_pos ⟨by omega, by omega⟩, e.2.1, ht, cam_ev (by omega), Option.bind_some, Int.toNat_natCast]
      by_cases c2 : M 1 (12 + 2 * t) = x
      · rw [if_pos c2, if_pos ⟨c1, c2⟩]
      · rw [if_neg c2, if_neg (fun z => c2 z.2)]
    · rw [if_neg c1, Option.bind_some, if_pos rfl, if_neg (fun z => c1 z.1)]
theorem L_sh_R {Mc M : Mem} (hl : WFl (M 1)) (o : PcsOK Mc (M 1)) (pq : PcsEq Mc M) (x : Int) (e0 : Mc 56 1 ≠ 0) : ∀ (k j n : Nat) (a : Int), (j : Int) + k = Mc 56 1 → k < n → 0 ≤ a → a ≤ (j : Int) → f_X11_share_L29 x (Mc 56 1) n a (j : Int) M = some (FP.ddiv (FP.i2d (jI (a + sumF (byF (M 1) Mc x) k j))) (FP.i2d (jI (Mc 56 1))), M) := by
  have eb := end_b o pq.1
  intro k
  induction k with
  | zero =>
    intro j n a hj hn _ _
    obtain ⟨n, rfl⟩ := nat_ex hn
    simp only [f_X11_share_L29]
    rw [if_pos (by omega), if_neg e0, ck_pos (n64_of (div_ok ⟨by omega, by omega⟩ e0))]
    simp [sumF]
  | succ k ih =>
    intro j n a hj hn h1 h2
    obtain ⟨n, rfl⟩ := nat_ex hn
    have s : sumF (byF (M 1) Mc x) (k + 1) j = byF (M 1) Mc x j + sumF (byF (M 1) Mc x) k (j + 1) := rfl
    have fb := byF_b (M 1) Mc x j
    have bt : (if byF (M 1) Mc x j = 0 then (0 : Int) else 1) = byF (M 1) Mc x j := by
      rcases fb with z | z <;> rw [z] <;> rfl
    simp only [f_X11_share_L29]
    rw [if_neg (by omega), isBy_R hl o pq, Option.bind_some, bit_eq, Option.bind_some, bt, ck_pos ⟨by omega, by omega⟩, ck_pos ⟨by omega, by omega⟩, show (j : Int) + 1 = ((j + 1 : Nat) : Int) by omega, ih (j + 1) n _ (by omega) (by omega) (by omega) (by omega), s, Int.add_assoc]
theorem onS_C {Mc : Mem} {g : Row} (o : PcsOK Mc g) (h60 : 0 ≤ Mc 56 0 ∧ Mc 56 0 ≤ 60) {j : Nat} (hj : (j : Int) < Mc 56 0) : f_X5_framesOnScreen (j : Int) Mc = some (nx Mc j - Mc 61 j) := by
  have b := nx_b o hj
  have bb := o.1 j hj
  have en : nx Mc j = if (j : Int) + 1 < Mc 56 0 then Mc 61 (j + 1) else Mc 56 1 := rfl
  unfold f_X5_framesOnScreen
  rw [if_neg (by omega), if_pos hj, ck_pos ⟨by omega, by omega⟩]
  by_cases c : (j : Int) + 1 < Mc 56 0
  · rw [if_pos c] at en
    rw [if_neg (by omega), ck_pos ⟨by omega, by omega⟩, ck_pos ⟨by omega, by omega⟩, show ((j : Int) + 1).toNat = j + 1 by omega, Int.toNat_natCast, ← en, ck_pos ⟨by omega, by omega⟩]
  · rw [if_neg c] at en
    rw [if_pos (by omega), ck_pos ⟨by omega, by omega⟩, Int.toNat_natCast, ← en, ck_pos ⟨by omega, by omega⟩]
theorem L_sh_C {Mc : Mem} {g : Row} (hl : WFl g) (o : PcsOK Mc g) (h60 : 0 ≤ Mc 56 0 ∧ Mc 56 0 ≤ 60) (r : RSl Mc 5 g) {x : Int} (hx : 0 ≤ x) (e0 : Mc 56 1 ≠ 0) : ∀ (k j n : Nat) (a : Int), (j : Int) + k = Mc 56 0 → k < n → 0 ≤ a → a ≤ 400 * (j : Int) → f_X10_share_L22 x Mc n a (j : Int) = some (FP.ddiv (FP.i2d (jI (a + sumF (cs g Mc x) k j))) (FP.i2d (jI (Mc 56 1)))) := by
  have eb := end_b o h60
  intro k
  induction k with
  | zero =>
    intro j n a hj hn _ _
    obtain ⟨n, rfl⟩ := nat_ex hn
    simp only [f_X10_share_L22]
    rw [if_pos (by omega), ck_pos (n64_of (div_ok ⟨by omega, by omega⟩ e0))]
    simp [sumF]
  | succ k ih =>
    intro j n a hj hn h1 h2
    obtain ⟨n, rfl⟩ := nat_ex hn
    have s : sumF (cs g Mc x) (k + 1) j = cs g Mc x j + sumF (cs g Mc x) k (j + 1) := rfl
    have cb := cs_b o (x := x) (k := j) (by omega)
    have ce : cs g Mc x j = if Mc 57 j = 0 ∧ g (12 + 2 * (Mc 58 j).toNat) = x then nx Mc j - Mc 61 j else 0 := rfl
    simp only [f_X10_share_L22]
    rw [if_neg (by omega), camP hl o h60 (fun c _ => rfl) r (by omega), Option.bind_some, onS_C o h60 (by omega), Option.bind_some, show (j : Int) + 1 = ((j + 1 : Nat) : Int) by omega, s]
    by_cases c1 : Mc 57 j = 0
    · rw [if_pos c1]
      by_cases c2 : g (12 + 2 * (Mc 58 j).toNat) = x
      · rw [if_pos ⟨c1, c2⟩] at ce
        rw [if_pos c2, ← ce, ck_pos ⟨by omega, by omega⟩, ck_pos ⟨by omega, by omega⟩, ih (j + 1) n _ (by omega) (by omega) (by omega) (by omega), Int.add_assoc]
      · rw [if_neg (fun z => c2 z.2)] at ce
        rw [if_neg c2, ck_pos ⟨by omega, by omega⟩, ih (j + 1) n _ (by omega) (by omega) (by omega) (by omega), ce, Int.zero_add]
    · rw [if_neg (fun z => c1 z.1)] at ce
      rw [if_neg c1, if_neg (by omega), ck_pos ⟨by omega, by omega⟩, ih (j + 1) n _ (by omega) (by omega) (by omega) (by omega), ce, Int.zero_add]
theorem p_share {k : Nat} {Mc Mr : Mem} (h : Rel k Mc Mr) (p : Int) : ∃ Mc' Mr' : Mem, st_share p Mc Mr Mc' Mr' ∧ Rel (k + 1) Mc' Mr' := by
  have hl := h.wf.1
  have o := h.pc.1
  have h60 := h.n60
  have eb := end_b o h60
  by_cases hp : 0 ≤ p ∧ p < 6
  · obtain ⟨M', l1, l2, l3⟩ := h.lays (M := upm Mr 0 7 0) (thr_ne _ _ (by decide))
    have k1 : M' 1 = Mr 1 := (l2.1 1 (by decide) (by decide)).trans (thr_ne _ _ (by decide))
    have t1 : M' 0 7 = 0 := (l2.2 7 (by decide) (by decide) (by decide)).trans (thr_at _ _)
    obtain ⟨fu, hfu⟩ : ∃ fu : Nat, jFuel = fu + 1 := ⟨9999999, rfl⟩
    have go : f_X11_share p Mr = f_X11_share_L29 p (Mc 56 1) jFuel 0 0 M' := by
      unfold f_X11_share
      rw [isIn_eq, if_pos (by omega), Option.bind_some, goes1, Option.bind_some]
      simp only []
      rw [if_neg (by decide), l1, Option.bind_some, end_R o l3, Option.bind_some]
    by_cases e0 : Mc 56 1 = 0
    · refine ⟨Mc, M', Or.inl ⟨FP.dconst0, ?_, rfl, ?_, t1⟩, h.scr keepC.rfl (keepR.thr.trans l2.R) (by omega)⟩
      · unfold f_X10_share
        rw [(rI_ok hp).1, Option.bind_some, if_pos e0]
      · rw [go, hfu]
        simp only [f_X11_share_L29]
        rw [if_pos (by omega), if_pos e0]
    · have n0 : 0 < Mc 56 0 := by
        apply Decidable.byContradiction
        intro q
        exact e0 (o.2.2.1 (by omega))
      have ss := share_sum o p ((Mc 56 0).toNat - 1) 0 (by omega)
      rw [(o.2.1 n0).1, Int.sub_zero, show (Mc 56 0).toNat - 1 + 1 = (Mc 56 0).toNat by omega] at ss
      have a1 := L_sh_C hl o h60 h.rs.1 hp.1 e0 (Mc 56 0).toNat 0 jFuel 0 (by omega) (jF (by omega)) (by omega) (by omega)
      have a2 := L_sh_R (M := M') (Mc := Mc) (by rw [k1]; exact hl) (by rw [k1]; exact o) l3 p e0 (Mc 56 1).toNat 0 jFuel 0 (by omega) (jF (by omega)) (by omega) (by omega)
      rw [k1] at a2
      rw [show (0 : Int).toNat = 0 from rfl] at ss
      rw [ss] at a2
      refine ⟨Mc, M', Or.inl ⟨_, ?_, rfl, go.trans a2, t1⟩, h.scr keepC.rfl (keepR.thr.trans l2.R) (by omega)⟩
      unfold f_X10_share
      rw [(rI_ok hp).1, Option.bind_some, if_neg e0]
      exact a1
  · refine ⟨Mc, upm Mr 0 7 1, Or.inr ⟨?_, FP.dconst0, ?_, thr_at _ _⟩, h.scr keepC.rfl keepR.thr (by omega)⟩
    · unfold x_X10_share
      exact x2_1 hp
    · unfold f_X11_share
      rw [isIn_eq, if_neg (by omega), Option.bind_some, goes0, Option.bind_some]
      simp
