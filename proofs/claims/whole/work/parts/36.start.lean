def nrW : List Cond := flatC (Jvm.Cond.and given_1 narrow_1)
theorem nr {A : Array Value} {s : State} (h : (Jvm.Cond.and given_1 narrow_1).before A s = true) (i : Nat) (w : Cond) (hi : nrW[i]? = some w) : w.before A s = true := flat_of_before _ h w (List.mem_of_getElem? hi)
def repST : List (String × Nat) := [("NewsReel$Library", 84), ("NewsReel$Library", 93), ("NewsReel$Library", 98), ("NewsReel$Library", 114), ("NewsReel$Library", 116), ("NewsReel$Library", 118), ("NewsReel$Library", 120), ("NewsReel$Library", 122), ("NewsReel$Items", 111), ("NewsReel$Items", 113), ("NewsReel$Items", 126), ("NewsReel$Items", 128), ("NewsReel$Output", 50), ("NewsReel$Output", 56), ("NewsReel$Output", 58), ("NewsReel$Output", 60), ("NewsReel$Output", 77), ("NewsReel$Output", 82), ("NewsReel", 88), ("NewsReel", 378), ("NewsReel", 373), ("NewsReel", 369), ("NewsReelModel", 532)]
def bsST : List Nat := [77, 85, 92, 99, 107, 116, 125, 134, 160, 170, 177, 185, 191, 200, 208, 219, 227, 237, 245, 288, 317, 344, 520]
def tmST (i : Nat) : Term := Term.string (repST.getD i ("", 0)).1 (repST.getD i ("", 0)).2
theorem nr_ex : ∀ i, i < nST → nrW[bsST.getD i 0]? = some (Cond.exactly (tmST i) "java/lang/String") := by decide +kernel
theorem nr_co : ∀ i, i < nST → nrW[bsST.getD i 0 + 1]? = some (Cond.eq (.field (tmST i) "java/lang/String" "coder" "B") (.int 0)) := by decide +kernel
theorem nr_ar : ∀ i, i < nST → nrW[bsST.getD i 0 + 2]? = some (Cond.arrayOf (.field (tmST i) "java/lang/String" "value" "[B") .byte) := by decide +kernel
theorem nr_le : ∀ i, i < nST → nrW[bsST.getD i 0 + 3]? = some (Cond.eq (.length (.field (tmST i) "java/lang/String" "value" "[B")) (.int (Int32.ofNat (lenST.getD i 0)))) := by decide +kernel
theorem nr_el : ∀ i, i < nST → ∀ j, j < lenST.getD i 0 → nrW[bsST.getD i 0 + 4 + j]? = some (Cond.eq (.elem (.field (tmST i) "java/lang/String" "value" "[B") (.int (Int32.ofNat j))) (.int ((bytST.getD i []).getD j 0))) := by decide +kernel
theorem st_apart : ∀ i, i < nST → ∀ j, j < nST → lenST.getD i 0 = lenST.getD j 0 → (∀ k, k < lenST.getD i 0 → (bytST.getD i []).getD k 0 = (bytST.getD j []).getD k 0) → i = j := by decide +kernel
theorem sv_eqR {A : Array Value} {s : State} {t u : Term} {a : Nat} (h : (Cond.eq t u).before A s = true) (hu : u.eval A s none [] s = some (.ref a)) : t.eval A s none [] s = some (.ref a) := by
  cases hv : t.eval A s none [] s with
  | none => simp [Cond.before, Cond.holds, Cond.value, hv] at h
  | some w =>
    simp only [Cond.before, Cond.holds, Cond.value, hv, hu] at h
    cases w <;> simp_all
theorem sv_eqL {A : Array Value} {s : State} {t u : Term} {a : Nat} (h : (Cond.eq u t).before A s = true) (hu : u.eval A s none [] s = some (.ref a)) : t.eval A s none [] s = some (.ref a) := by
  cases hv : t.eval A s none [] s with
  | none => simp [Cond.before, Cond.holds, Cond.value, hv, hu] at h
  | some w =>
    simp only [Cond.before, Cond.holds, Cond.value, hv, hu] at h
    cases w <;> simp_all
/-- the pool's Strings, each once -/
theorem str_all {s : State} {b : Nat} (hgv : (Jvm.Cond.and given_1 narrow_1).before #[Value.ref b] s = true) {A : Nat → Prop} (hA : ∀ a : Nat, a < s.heap.size → ¬ A a) : ∃ aK aV : Nat → Nat, vk_S nST lenST bytST aK aV A s s.heap ∧ ∀ i : Nat, i < nST → (tmST i).eval #[Value.ref b] s none [] s = some (.ref (aK i)) := by
  have h0 : ∀ i : Nat, ∃ q : Nat × Nat, i < nST → (tmST i).eval #[Value.ref b] s none [] s = some (.ref q.1) ∧ va_O "java/lang/String" q.1 A s s.heap ∧ va_OF "java/lang/String" "coder" "B" (.int 0) q.1 A s s.heap ∧ va_OF "java/lang/String" "value" "[B" (.ref q.2) q.1 A s s.heap ∧ va_T .byte q.2 (lenST.getD i 0) (fun j => .int ((bytST.getD i []).getD j 0)) A s s.heap := by
    intro i
    by_cases hi : i < nST
    · obtain ⟨a, c, cA, kA, q1, q2, q3, q4, q5, q6, -⟩ := Cond.exactly_spec (args := #[Value.ref b]) (first := s) (o := none) (s := s) (idx := []) (t := tmST i) (cls := "java/lang/String") (nr hgv _ _ (nr_ex i hi))
      obtain ⟨t, ht, hT⟩ := va_Tof (f := fun j => .int ((bytST.getD i []).getD j 0)) (A := A) (Nat.lt_trans (lenST_ok i hi) (by decide)) (nr hgv _ _ (nr_ar i hi)) (va_eqt (nr hgv _ _ (nr_le i hi))) (fun j hj => va_eqt (nr hgv _ _ (nr_el i hi j hj))) hA
      exact ⟨(a, t), fun _ => ⟨q1, ⟨cA, q3, q5, by rw [q6]; exact q2, hA a (Array.getElem?_eq_some_iff.mp q3).1⟩, vk_OFof q1 (va_eqt (nr hgv _ _ (nr_co i hi))) hA, vk_OFof q1 ht hA, hT⟩⟩
    · exact ⟨(0, 0), fun h => absurd h hi⟩
  obtain ⟨ad, had⟩ := Classical.axiomOfChoice h0
  refine ⟨fun i => (ad i).1, fun i => (ad i).2, ⟨fun i hi => (had i hi).2, fun i j hi hj e => ?_⟩, fun i hi => (had i hi).1⟩
  have e : (ad i).1 = (ad j).1 := e
  obtain ⟨-, -, -, oi, ti⟩ := had i hi
  obtain ⟨-, -, -, oj, tj⟩ := had j hj
  obtain ⟨cf, k, fi, f, cell, a1, a2, a3, a4, a5, a6⟩ := oi
  obtain ⟨cf', k', fi', f', cell', b1, b2, b3, b4, b5, b6⟩ := oj
  rw [e] at a3
  cases a1.symm.trans b1
  cases a3.symm.trans b3
  have hv : (ad i).2 = (ad j).2 := by
    exact Value.ref.inj (Option.some.inj (a5.symm.trans b5))
  obtain ⟨c1, d1, d2, d3, d4, d5, d6, d7⟩ := ti
  obtain ⟨c2, f1, f2, f3, f4, f5, f6, f7⟩ := tj
  rw [hv] at d1
  cases d1.symm.trans f1
  have hl : lenST.getD i 0 = lenST.getD j 0 := by
    have h1 := lenST_ok i hi
    have h2 := lenST_ok j hj
    have h3 := congrArg Int32.toNatClampNeg (d5.symm.trans f5)
    rwa [Int32.toNatClampNeg_ofNat_of_lt (by omega), Int32.toNatClampNeg_ofNat_of_lt (by omega)] at h3
  refine st_apart i hi j hj hl (fun k hk => ?_)
  exact Value.int.inj (Option.some.inj ((d6 k hk).symm.trans (f6 k (by rw [← hl]; exact hk))))
theorem strR {s : State} {b : Nat} (hts : ∀ w ∈ lw_tbl, w.before #[Value.ref b] s = true) (hgv : (Jvm.Cond.and given_1 narrow_1).before #[Value.ref b] s = true) {aK : Nat → Nat} (hK : ∀ i, i < nST → (tmST i).eval #[Value.ref b] s none [] s = some (.ref (aK i))) : ∀ q ∈ strST, vk_R q.1 q.2.1 q.2.2.1 (aK q.2.2.2) s := by
  intro q hq
  simp only [strST, List.mem_cons, List.not_mem_nil, or_false] at hq
  rcases hq with rfl | rfl | rfl | rfl | rfl | rfl | rfl | rfl | rfl | rfl | rfl | rfl | rfl | rfl | rfl | rfl | rfl | rfl | rfl | rfl | rfl | rfl | rfl | rfl | rfl | rfl | rfl | rfl | rfl | rfl | rfl | rfl | rfl | rfl | rfl | rfl | rfl | rfl | rfl | rfl | rfl | rfl | rfl
  · exact vk_R.of (hts _ (List.mem_of_getElem? (i := 587) (by decide +kernel))) (hK 0 (by decide))
  · exact vk_R.of (hts _ (List.mem_of_getElem? (i := 658) (by decide +kernel))) (hK 1 (by decide))
  · exact vk_R.of (hts _ (List.mem_of_getElem? (i := 672) (by decide +kernel))) (hK 2 (by decide))
  · exact vk_R.of (hts _ (List.mem_of_getElem? (i := 680) (by decide +kernel))) (hK 3 (by decide))
  · exact vk_R.of (hts _ (List.mem_of_getElem? (i := 681) (by decide +kernel))) (hK 4 (by decide))
  · exact vk_R.of (hts _ (List.mem_of_getElem? (i := 682) (by decide +kernel))) (hK 5 (by decide))
  · exact vk_R.of (hts _ (List.mem_of_getElem? (i := 683) (by decide +kernel))) (hK 6 (by decide))
  · exact vk_R.of (hts _ (List.mem_of_getElem? (i := 684) (by decide +kernel))) (hK 7 (by decide))
  · exact vk_R.of (hts _ (List.mem_of_getElem? (i := 940) (by decide +kernel))) (sv_eqL (nr hgv 151 _ (by decide +kernel)) (hK 0 (by decide)))
  · exact vk_R.of (hts _ (List.mem_of_getElem? (i := 942) (by decide +kernel))) (sv_eqL (nr hgv 159 _ (by decide +kernel)) (hK 1 (by decide)))
  · exact vk_R.of (hts _ (List.mem_of_getElem? (i := 943) (by decide +kernel))) (hK 8 (by decide))
  · exact vk_R.of (hts _ (List.mem_of_getElem? (i := 944) (by decide +kernel))) (hK 9 (by decide))
  · exact vk_R.of (hts _ (List.mem_of_getElem? (i := 953) (by decide +kernel))) (hK 10 (by decide))
  · exact vk_R.of (hts _ (List.mem_of_getElem? (i := 954) (by decide +kernel))) (hK 11 (by decide))
  · exact vk_R.of (hts _ (List.mem_of_getElem? (i := 1044) (by decide +kernel))) (hK 12 (by decide))
  · exact vk_R.of (hts _ (List.mem_of_getElem? (i := 1051) (by decide +kernel))) (hK 13 (by decide))
  · exact vk_R.of (hts _ (List.mem_of_getElem? (i := 1052) (by decide +kernel))) (hK 14 (by decide))
  · exact vk_R.of (hts _ (List.mem_of_getElem? (i := 1053) (by decide +kernel))) (hK 15 (by decide))
  · exact vk_R.of (hts _ (List.mem_of_getElem? (i := 1065) (by decide +kernel))) (hK 16 (by decide))
  · exact vk_R.of (hts _ (List.mem_of_getElem? (i := 1066) (by decide +kernel))) (hK 17 (by decide))
  · exact vk_R.of (hts _ (List.mem_of_getElem? (i := 1136) (by decide +kernel))) (hK 18 (by decide))
  · exact vk_R.of (hts _ (List.mem_of_getElem? (i := 1186) (by decide +kernel))) (hK 19 (by decide))
  · exact vk_R.of (hts _ (List.mem_of_getElem? (i := 1225) (by decide +kernel))) (hK 20 (by decide))
  · exact vk_R.of (hts _ (List.mem_of_getElem? (i := 1447) (by decide +kernel))) (hK 21 (by decide))
  · exact vk_R.of (hts _ (List.mem_of_getElem? (i := 1682) (by decide +kernel))) (sv_eqL (nr hgv 378 _ (by decide +kernel)) (hK 0 (by decide)))
  · exact vk_R.of (hts _ (List.mem_of_getElem? (i := 1705) (by decide +kernel))) (sv_eqL (nr hgv 387 _ (by decide +kernel)) (hK 1 (by decide)))
  · exact vk_R.of (hts _ (List.mem_of_getElem? (i := 1714) (by decide +kernel))) (sv_eqL (nr hgv 396 _ (by decide +kernel)) (hK 2 (by decide)))
  · exact vk_R.of (hts _ (List.mem_of_getElem? (i := 1719) (by decide +kernel))) (sv_eqL (nr hgv 405 _ (by decide +kernel)) (hK 3 (by decide)))
  · exact vk_R.of (hts _ (List.mem_of_getElem? (i := 1724) (by decide +kernel))) (sv_eqL (nr hgv 415 _ (by decide +kernel)) (hK 4 (by decide)))
  · exact vk_R.of (hts _ (List.mem_of_getElem? (i := 1725) (by decide +kernel))) (sv_eqL (nr hgv 425 _ (by decide +kernel)) (hK 5 (by decide)))
  · exact vk_R.of (hts _ (List.mem_of_getElem? (i := 1726) (by decide +kernel))) (sv_eqL (nr hgv 435 _ (by decide +kernel)) (hK 6 (by decide)))
  · exact vk_R.of (hts _ (List.mem_of_getElem? (i := 1727) (by decide +kernel))) (sv_eqL (nr hgv 445 _ (by decide +kernel)) (hK 7 (by decide)))
  · exact vk_R.of (hts _ (List.mem_of_getElem? (i := 2019) (by decide +kernel))) (sv_eqL (nr hgv 456 _ (by decide +kernel)) (hK 8 (by decide)))
  · exact vk_R.of (hts _ (List.mem_of_getElem? (i := 2020) (by decide +kernel))) (sv_eqL (nr hgv 464 _ (by decide +kernel)) (hK 9 (by decide)))
  · exact vk_R.of (hts _ (List.mem_of_getElem? (i := 2025) (by decide +kernel))) (sv_eqL (nr hgv 473 _ (by decide +kernel)) (hK 10 (by decide)))
  · exact vk_R.of (hts _ (List.mem_of_getElem? (i := 2026) (by decide +kernel))) (sv_eqL (nr hgv 480 _ (by decide +kernel)) (hK 11 (by decide)))
  · exact vk_R.of (hts _ (List.mem_of_getElem? (i := 2143) (by decide +kernel))) (sv_eqL (nr hgv 490 _ (by decide +kernel)) (hK 12 (by decide)))
  · exact vk_R.of (hts _ (List.mem_of_getElem? (i := 2156) (by decide +kernel))) (sv_eqL (nr hgv 501 _ (by decide +kernel)) (hK 16 (by decide)))
  · exact vk_R.of (hts _ (List.mem_of_getElem? (i := 2157) (by decide +kernel))) (sv_eqL (nr hgv 510 _ (by decide +kernel)) (hK 17 (by decide)))
  · exact vk_R.of (hts _ (List.mem_of_getElem? (i := 2158) (by decide +kernel))) (sv_eqL (nr hgv 519 _ (by decide +kernel)) (hK 13 (by decide)))
  · exact vk_R.of (hts _ (List.mem_of_getElem? (i := 2159) (by decide +kernel))) (hK 22 (by decide))
  · exact vk_R.of (hts _ (List.mem_of_getElem? (i := 2160) (by decide +kernel))) (sv_eqL (nr hgv 537 _ (by decide +kernel)) (hK 14 (by decide)))
  · exact vk_R.of (hts _ (List.mem_of_getElem? (i := 2161) (by decide +kernel))) (sv_eqL (nr hgv 546 _ (by decide +kernel)) (hK 15 (by decide)))
theorem nt_ar0 : nrW[5]? = some (Cond.arrayOf (.static "NewsReel" "SETTING_AT_FIRST" "[I") .int) := by decide +kernel
theorem nt_le0 : nrW[6]? = some (Cond.eq (.length (.static "NewsReel" "SETTING_AT_FIRST" "[I")) (.int (Int32.ofNat 5))) := by decide +kernel
theorem nt_el0 : ∀ k, k < 5 → nrW[7 + k]? = some (Cond.eq (.elem (.static "NewsReel" "SETTING_AT_FIRST" "[I") (.int (Int32.ofNat k))) (.int (jI ((jTab 0).getD k 0)))) := by decide +kernel
theorem nt_la0 : Cond.laysStatic "NewsReel" "SETTING_AT_FIRST" "[I" ∈ lw_tbl := List.mem_of_getElem? (i := 240) (by decide +kernel)
theorem nt_ar1 : nrW[18]? = some (Cond.arrayOf (.static "NewsReel" "SETTING_LOWEST" "[I") .int) := by decide +kernel
theorem nt_le1 : nrW[19]? = some (Cond.eq (.length (.static "NewsReel" "SETTING_LOWEST" "[I")) (.int (Int32.ofNat 5))) := by decide +kernel
theorem nt_el1 : ∀ k, k < 5 → nrW[20 + k]? = some (Cond.eq (.elem (.static "NewsReel" "SETTING_LOWEST" "[I") (.int (Int32.ofNat k))) (.int (jI ((jTab 1).getD k 0)))) := by decide +kernel
theorem nt_la1 : Cond.laysStatic "NewsReel" "SETTING_LOWEST" "[I" ∈ lw_tbl := List.mem_of_getElem? (i := 690) (by decide +kernel)
theorem nt_ar2 : nrW[26]? = some (Cond.arrayOf (.static "NewsReel" "SETTING_HIGHEST" "[I") .int) := by decide +kernel
theorem nt_le2 : nrW[27]? = some (Cond.eq (.length (.static "NewsReel" "SETTING_HIGHEST" "[I")) (.int (Int32.ofNat 5))) := by decide +kernel
theorem nt_el2 : ∀ k, k < 5 → nrW[28 + k]? = some (Cond.eq (.elem (.static "NewsReel" "SETTING_HIGHEST" "[I") (.int (Int32.ofNat k))) (.int (jI ((jTab 2).getD k 0)))) := by decide +kernel
theorem nt_la2 : Cond.laysStatic "NewsReel" "SETTING_HIGHEST" "[I" ∈ lw_tbl := List.mem_of_getElem? (i := 692) (by decide +kernel)
theorem nt_in : Cond.initialized "NewsReel" ∈ lw_tbl := List.mem_of_getElem? (i := 133) (by decide +kernel)
theorem st_tab {s : State} {b : Nat} (hts : ∀ w ∈ lw_tbl, w.before #[Value.ref b] s = true) (hgv : (Jvm.Cond.and given_1 narrow_1).before #[Value.ref b] s = true) {A : Nat → Prop} (hA : ∀ a : Nat, a < s.heap.size → ¬ A a) : ∀ t : Nat, ∃ q : Nat, t < 3 → va_Z "NewsReel" (jTabN t) "[I" (.ref q) A s s.heap ∧ va_T .int q 5 (fun k => .int (jI ((jTab t).getD k 0))) A s s.heap := by
  have go : ∀ (t i0 : Nat) (nm : String), (nrW[i0]? = some (Cond.arrayOf (.static "NewsReel" nm "[I") .int)) → (nrW[i0 + 1]? = some (Cond.eq (.length (.static "NewsReel" nm "[I")) (.int (Int32.ofNat 5)))) → (∀ k, k < 5 → nrW[i0 + 2 + k]? = some (Cond.eq (.elem (.static "NewsReel" nm "[I") (.int (Int32.ofNat k))) (.int (jI ((jTab t).getD k 0))))) → Cond.laysStatic "NewsReel" nm "[I" ∈ lw_tbl → ∃ q : Nat, va_Z "NewsReel" nm "[I" (.ref q) A s s.heap ∧ va_T .int q 5 (fun k => .int (jI ((jTab t).getD k 0))) A s s.heap := by
    intro t i0 nm h1 h2 h3 h4
    obtain ⟨q, hq, hT⟩ := va_Tof (f := fun k => .int (jI ((jTab t).getD k 0))) (A := A) (N := 5) (by decide) (nr hgv _ _ h1) (va_eqt (nr hgv _ _ h2)) (fun k hk => va_eqt (nr hgv _ _ (h3 k hk))) hA
    exact ⟨q, va_Zof (hts _ h4) (hts _ nt_in) hq hA, hT⟩
  intro t
  match t with
  | 0 => obtain ⟨q, h⟩ := go 0 _ "SETTING_AT_FIRST" nt_ar0 nt_le0 nt_el0 nt_la0; exact ⟨q, fun _ => h⟩
  | 1 => obtain ⟨q, h⟩ := go 1 _ "SETTING_LOWEST" nt_ar1 nt_le1 nt_el1 nt_la1; exact ⟨q, fun _ => h⟩
  | 2 => obtain ⟨q, h⟩ := go 2 _ "SETTING_HIGHEST" nt_ar2 nt_le2 nt_el2 nt_la2; exact ⟨q, fun _ => h⟩
  | t + 3 => exact ⟨0, fun h => by omega⟩
theorem st_cls {s : State} {b : Nat} (hts : ∀ w ∈ lw_tbl, w.before #[Value.ref b] s = true) : ∃ (dC : Nat → ClassId) (dI : Nat → Nat → Nat), ∀ (k : Nat) (q : vw_C), vwCl[k]? = some q → u_Kn s q.1 q.2.1 q.2.2 (dC k) (dI k) := by
  have h0 : ∀ k : Nat, ∃ x : ClassId × (Nat → Nat), ∀ q : vw_C, vwCl[k]? = some q → u_Kn s q.1 q.2.1 q.2.2 x.1 x.2 := by
    have go : ∀ {ci N : Nat} {C : String} {T : u_T} {ty : Nat → FieldType}, jCl ci C T N ty → Cond.instantiable C N ∈ lwG → ∃ x : ClassId × (Nat → Nat), ∀ q : vw_C, vwCl[ci]? = some q → u_Kn s q.1 q.2.1 q.2.2 x.1 x.2 := by
      intro ci N C T ty jc hi
      obtain ⟨c0, i0, h⟩ := u_known (C := C) (T := T) (N := N) (n := N) hts (fun w hw => lwG_tbl (jc.2.1 w hw)) (hts _ (lwG_tbl hi))
      refine ⟨(c0, i0), fun q hq => ?_⟩
      cases (jc.1.symm.trans hq)
      exact h
    intro k
    match k with
    | 0 => exact go jc0 xi_X0
    | 1 => exact go jc1 xi_X1
    | 2 => exact go jc2 xi_X2
    | 3 => exact go jc3 xi_X3
    | 4 => exact go jc4 xi_X4
    | 5 => exact go jc5 xi_X5
    | 6 => exact go jc6 xi_X6
    | 7 => exact go jc7 xi_X7
    | 8 => exact go jc8 xi_X8
    | 9 => exact go jc9 xi_X9
    | 10 => exact go jc10 xi_X10
    | 11 => exact go jc11 xi_X11
    | k + 12 => exact ⟨(default, fun _ => 0), fun q hq => nomatch hq⟩
  obtain ⟨f, hf⟩ := Classical.axiomOfChoice h0
  exact ⟨fun k => (f k).1, fun k => (f k).2, fun k q hq => hf k q hq⟩
theorem st_arr {s : State} {A : Array Value} {ty : FieldType} (hp : (match ty with | .object _ => False | _ => True)) (h : (Cond.arrayClass ty).before A s = true) : ∃ cA : ClassId, ArrOfT s cA ty ∧ va_RA s cA ty := by
  obtain ⟨cA, kA, comp, h1, h2, h3⟩ := Cond.arrayClass_spec h
  refine ⟨cA, fun n z => ⟨fun k h => (by cases h), kA, h2, comp, h3⟩, ?_⟩
  cases ty <;> first | exact hp.elim | exact h1
theorem st_arrO {s : State} {A : Array Value} (h : (Cond.arrayOver (.object "NewsReel$State")).before A s = true) : ∃ cA : ClassId, ArrOfT s cA (.object "NewsReel$State") ∧ va_RA s cA (.object "NewsReel$State") := by
  obtain ⟨comp, cA, kA, h1, -, h2, h3, h4⟩ := Cond.arrayOver_spec h
  exact ⟨cA, fun n z => ⟨fun k h => (by cases h), kA, h2, comp, h3⟩, kA, comp, h2, h3, h1, h4⟩
/-- all that a call of the class or of the reference wants of the start -/
theorem st_all {s : State} {b : Nat} (hts : ∀ w ∈ lw_tbl, w.before #[Value.ref b] s = true) (hgv : (Jvm.Cond.and given_1 narrow_1).before #[Value.ref b] s = true) : ∃ E0 : jE, (∀ q : Nat, eA E0 q ↔ s.heap.size ≤ q) ∧ va_K (eD E0) vwCl (eT E0) s ∧ Sta E0 s s.heap ∧ StL s ∧ StN s := by
  have hA : ∀ a : Nat, a < s.heap.size → ¬ (fun q : Nat => s.heap.size ≤ q) a := fun a h1 h2 => by
    have h2 : s.heap.size ≤ a := h2
    omega
  obtain ⟨dC, dI, hK⟩ := st_cls hts
  obtain ⟨c0, a0, b0⟩ := st_arr (ty := .int) trivial (hts _ (lwG_tbl gw_aI))
  obtain ⟨c1, a1, b1⟩ := st_arr (ty := .byte) trivial (hts _ (lwG_tbl gw_aB))
  obtain ⟨c2, a2, b2⟩ := st_arr (ty := .boolean) trivial (hts _ (lwG_tbl gw_aZ))
  obtain ⟨c3, a3, b3⟩ := st_arrO (hts _ gw_aO)
  obtain ⟨c4, a4, b4⟩ := st_arr (ty := .long) trivial (hts _ (List.mem_of_getElem? (i := 2185) (by decide +kernel)))
  obtain ⟨c5, a5, b5⟩ := st_arr (ty := .double) trivial (hts _ (List.mem_of_getElem? (i := 2186) (by decide +kernel)))
  obtain ⟨aK, aV, hStr, hKe⟩ := str_all hgv hA
  obtain ⟨aS, hS⟩ := Classical.axiomOfChoice (st_tab hts hgv hA)
  let E0 : jE := ((dC, dI), (fun k => match k with | 0 => c0 | 1 => c1 | 2 => c2 | 3 => c3 | 4 => c4 | _ => c5), (fun q => s.heap.size ≤ q), aK, aV, aS)
  refine ⟨E0, fun q => Iff.rfl, ⟨hK, fun k q hq => ?_⟩, ⟨hStr, strR hts hgv hKe, ?_, fun t ht => hS t ht, ?_, ?_, ?_, ?_⟩, ⟨⟨?_, ?_⟩, ?_, ?_⟩, ⟨?_, ?_⟩⟩
  · match k, hq with
    | 0, hq => cases hq; exact ⟨a0, b0⟩
    | 1, hq => cases hq; exact ⟨a1, b1⟩
    | 2, hq => cases hq; exact ⟨a2, b2⟩
    | 3, hq => cases hq; exact ⟨a3, b3⟩
    | 4, hq => cases hq; exact ⟨a4, b4⟩
    | 5, hq => cases hq; exact ⟨a5, b5⟩
    | k + 6, hq => exact nomatch hq
  · exact va_Zof (hts _ (List.mem_of_getElem? (i := 605) (by decide +kernel))) (hts _ (List.mem_of_getElem? (i := 152) (by decide +kernel))) (va_eqt (nr hgv 12 _ (by decide +kernel))) hA
  · intro q hq
    have h : ∀ q ∈ jNest, Cond.fieldLinkNest "NewsReel$Library" q.1 "NewsReel" q.2 "[I" "NewsReel" ∈ lw_tbl := by decide +kernel
    exact va_Nw.of rfl (hts _ (h q hq))
  · exact va_Zqof (hts _ (List.mem_of_getElem? (i := 621) (by decide +kernel))) (hts _ (List.mem_of_getElem? (i := 154) (by decide +kernel))) (nr hgv 13 _ (by decide +kernel)) hA
  · exact vx_Zqof (hts _ (List.mem_of_getElem? (i := 1122) (by decide +kernel))) (hts _ (List.mem_of_getElem? (i := 146) (by decide +kernel))) (nr hgv 33 _ (by decide +kernel)) hA
  · exact vx_Zqof (hts _ (List.mem_of_getElem? (i := 1124) (by decide +kernel))) (hts _ (List.mem_of_getElem? (i := 146) (by decide +kernel))) (nr hgv 34 _ (by decide +kernel)) hA
  · intro y hy
    exact va_Nw.of rfl (hts _ (xW_in _ (List.mem_append_left _ (List.mem_map.mpr ⟨y, hy, rfl⟩))))
  · intro q hq
    exact va_Nw.of rfl (hts _ (xW_in _ (List.mem_append_right _ (List.mem_map.mpr ⟨q, hq, rfl⟩))))
  · exact va_Nc.of (nr hgv 76 _ (by decide +kernel))
  · exact va_Nc.of (nr hgv 61 _ (by decide +kernel))
  · intro q hq
    have h : ∀ q ∈ nestM, Cond.methodLinkNest q.1 q.2.1 q.2.2 "NewsReel" ∈ lw_tbl := by decide +kernel
    exact va_Nw.of rfl (hts _ (h q hq))
  · exact va_AO.of (hts _ gw_aO)
