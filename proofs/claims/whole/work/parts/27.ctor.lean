/-! making: the cells of a maker lie at the heap's end -/
def seg (E : jE) (z a : Nat) (Ly : jLy) (M : Mem) (n : Nat) : va_W := (List.range n).map fun j => (z + (a + j), cellOf (eC E) z (a + j) (Ly.2 (a + j)) (M (a + j)))
theorem seg_len (E : jE) (z a : Nat) (Ly : jLy) (M : Mem) (n : Nat) : (seg E z a Ly M n).length = n := by simp [seg]
theorem seg_get {E : jE} {z a : Nat} {Ly : jLy} {M : Mem} {n j : Nat} (h : j < n) : (seg E z a Ly M n)[j]? = some (z + (a + j), cellOf (eC E) z (a + j) (Ly.2 (a + j)) (M (a + j))) := by simp [seg, h]
theorem seg_at {E : jE} {z a : Nat} {Ly : jLy} {M : Mem} {n k : Nat} {q : Nat × va_E} (h : (seg E z a Ly M n)[k]? = some q) : k < n ∧ q = (z + (a + k), cellOf (eC E) z (a + k) (Ly.2 (a + k)) (M (a + k))) := by
  have hk : k < n := by
    have := (List.getElem?_eq_some_iff.mp h).1
    rwa [seg_len] at this
  rw [seg_get hk] at h
  exact ⟨hk, (Option.some.inj h).symm⟩
theorem seg_app (E : jE) (z a : Nat) (Ly : jLy) (M : Mem) (n k : Nat) : seg E z a Ly M n ++ seg E z (a + n) Ly M k = seg E z a Ly M (n + k) := by
  unfold seg
  rw [List.range_add, List.map_append, List.map_map]
  congr 1
  apply List.map_congr_left
  intro j _
  simp only [Function.comp, Nat.add_assoc]
theorem seg_D {E : jE} {z a : Nat} {Ly : jLy} {M : Mem} {n : Nat} {A : Nat → Prop} (h : ∀ j, j < n → A (z + (a + j))) : va_D A (seg E z a Ly M n) := by
  refine ⟨fun i j p q hp hq hpq => ?_, fun k q hq => ?_⟩
  · have h1 := (seg_at hp).2
    have h2 := (seg_at hq).2
    rw [h1, h2] at hpq
    have : z + (a + i) = z + (a + j) := hpq
    omega
  · obtain ⟨hk, rfl⟩ := seg_at hq
    exact h k hk
theorem seg_Wd (E : jE) (z : Nat) (Ly : jLy) (M : Mem) : Wd (eC E) z Ly M = seg E z 0 Ly M Ly.1 := by
  unfold Wd seg
  apply List.map_congr_left
  intro j _
  rw [Nat.zero_add]
def eN (E : jE) (h : Nat) : jE := (E.1, E.2.1, (fun q => h ≤ q), E.2.2.2)
theorem Sta.narrow {E : jE} {B : Nat → Prop} {U : State} {H : Heap} (h : Sta E U H) (hAB : ∀ q, B q → eA E q) : Sta (E.1, E.2.1, B, E.2.2.2) U H :=
  ⟨h.1.narrow hAB, h.2.1, h.2.2.1.narrow hAB, fun t ht => ⟨(h.2.2.2.1 t ht).1.narrow hAB, (h.2.2.2.1 t ht).2.narrow hAB⟩, h.2.2.2.2.1, h.2.2.2.2.2.1.narrow hAB, h.2.2.2.2.2.2.1.narrow hAB, h.2.2.2.2.2.2.2.narrow hAB⟩
/-- the world ws of n cells from z + a on is the heap's end -/
def HN (E : jE) (z a n : Nat) (ws : va_W) (s : State) (H : Heap) (locs : List Loc) : Prop :=
  va_P (eD E) vwCl ws H ∧ va_D (fun q => z + a ≤ q) ws ∧ va_S (fun q => z + a ≤ q) s.heap H locs ∧ H.size = z + (a + n) ∧ z + a ≤ s.heap.size ∧ ∀ q : Nat, z + a ≤ q → eA E q
def nestM : List (String × Nat × MethodName) := [(RX10, 11, yX8_init), (RX10, 18, yX4_init), (RX10, 25, yX7_init), (RX7, 18, yX9_init), (RX7, 25, yX2_init), (RX10, 53, yX5_init), (RX10, 60, yX6_init), (RX10, 67, yX1_init), (RX10, 74, yX0_init)]
def StN (U : State) : Prop := (∀ q ∈ nestM, va_Nw (.methodLinkNest q.1 q.2.1 q.2.2 "NewsReel") U) ∧ va_AO "NewsReel$State" U
theorem StN.warm {s U : State} (hW : s.WarmedH U.vm) (h : StN s) : StN U := ⟨fun q hq => va_Nw.warmM hW (h.1 q hq), va_AO.moved hW.alike h.2⟩
theorem StN.same {u U : State} (hv : u.vm = U.vm) (h : StN u) : StN U := ⟨fun q hq => va_Nw.same rfl hv (h.1 q hq), va_AO.moved (by rw [hv]; exact Vm.Alike.refl U.vm) h.2⟩
def jPreN (E : jE) (h : Nat) (e0 : va_E) : Array Value → State → Prop :=
  va_Pc [.ref h] (fun U => va_P (eD E) vwCl [(h, e0)] U.heap ∧ va_K (eD E) vwCl (eT E) U ∧ Sta E U U.heap ∧ (∀ q : Nat, h ≤ q → eA E q) ∧ U.heap.size = h + 1 ∧ StN U)
theorem jPreN_blind {E : jE} {h : Nat} {e0 : va_E} : FrameBlind (jPreN E h e0) := fun a U g mk q => by
  obtain ⟨q0, qP, qK, qS, qA, qZ, qN⟩ := q
  exact ⟨q0, qP, va_K.moved (u := U) (U := U.calling g mk a) (Vm.Alike.refl U.vm) qK, Sta.same (u := U) rfl qS, qA, qZ, StN.same (u := U) rfl qN⟩
def CtN (l : Launch) (y : MethodName) (cc : ByteArray) (maxL : Nat) (rm : Room) (E : jE) (z a n : Nat) (Ly : jLy) (M : Mem) (e0 : va_E) : Prop :=
  Met l y (.code y cc maxL none :: lwG) rm (jPreN E (z + a) e0) (va_Qv (fun (_ : Unit) => True) (fun _ t => va_P (eD E) vwCl (seg E z a Ly M n) t.heap ∧ t.heap.size = z + (a + n)) (fun q => z + a ≤ q)) rm.cells rm.slots (fun q => z + a ≤ q)
def jYI (y : MethodName) (cc : ByteArray) (maxL : Nat) : Prop :=
  Cond.instanceMethod y ∈ lwG ∧ y.name = "<init>" ∧ Cond.initialized y.cls ∈ lwG ∧ Cond.code y cc maxL none ∈ lwG ∧ (y.cls ≠ "java/lang/invoke/MethodHandle" ∧ y.cls ≠ "java/lang/invoke/VarHandle" ∧ (parseMethodDescriptor y.desc).map (fun d => d.parameters.length) = some 0)
set_option maxHeartbeats 4000000 in
theorem jmN {l : Launch} {y : MethodName} {cc : ByteArray} {maxL : Nat} {rm : Room} {E : jE} {z a : Nat} {e0 : va_E} {Qc : Array Value → State → Outcome → State → Prop} (hy : plainName y.cls = true) (hn : (lg_sl [Value.ref (z + a)]).length ≤ maxL)
    (body : ∀ (p : Program) (e : Env) (s : State) (m : MethodId) (below : List Frame) (meth : Method) (c : Code), Cx E p c cc maxL s [Value.ref (z + a)].toArray y.cls m → HN E z a 1 [(z + a, e0)] s s.heap [] → StN s → meth.sig.returnType = none → meth.locks = false → meth.name = y.name → ∀ ls : Array Slot, lv_has ls maxL (lv_args 0 [Value.ref (z + a)]) →
      W p l e rm s m [Value.ref (z + a)].toArray below meth c s.heap [] 0 0 (MQ below Qc [Value.ref (z + a)].toArray s rm.cells rm.slots (fun q => z + a ≤ q)) (F0 m 0 ls [])) :
    Met l y (.code y cc maxL none :: lwG) rm (jPreN E (z + a) e0) Qc rm.cells rm.slots (fun q => z + a ≤ q) := by
  refine Met.ofW (cc := cc) (maxL := maxL) (ret := none) hy rfl ?_
  intro p e s m args below meth c s₁ B hml hv
  obtain ⟨rfl, hP, hK, hSt, hA, hZ, hXN⟩ := hv
  have hts := atoms_spec (ws := Cond.code y cc maxL none :: lwG) B.pre
  have hown : s.vm.findClass y.cls = some m.cls := findClass_of_methodNamed B.named
  have hl := lv_entry [Value.ref (z + a)] (n := maxL) hn
  have hD : va_D (fun q => z + a ≤ q) [(z + a, e0)] := by
    refine ⟨fun i j p q hp hq _ => ?_, fun k q hq => ?_⟩
    · have h1 := (List.getElem?_eq_some_iff.mp hp).1
      have h2 := (List.getElem?_eq_some_iff.mp hq).1
      simp at h1 h2
      omega
    · have h1 := (List.getElem?_eq_some_iff.mp hq).1
      simp at h1
      subst h1
      cases hq
      exact Nat.le_refl _
  rw [lg_entry_eq]
  exact body p e s m below meth c ⟨⟨B.exec, B.bytes, hml, hown, fun w hw => hts w (List.mem_cons_of_mem _ hw)⟩, hK, hSt, fun q hq => hA q (by omega)⟩ ⟨hP, hD, va_S.rf, by omega, by omega, hA⟩ hXN B.returns B.notSynchronized (name_of_methodNamed B.named B.method).1 _ hl
theorem gw_objI : Cond.instanceMethod objectInit ∈ lwG := gmem 164 (by decide +kernel) (by decide +kernel)
theorem gw_objC : Cond.code objectInit ⟨#[0xb1]⟩ 1 none ∈ lwG := gmem 165 (by decide +kernel) (by decide +kernel)
theorem gw_aI : Cond.arrayClass .int ∈ lwG := gmem 290 (by decide +kernel) (by decide +kernel)
theorem gw_aB : Cond.arrayClass .byte ∈ lwG := gmem 212 (by decide +kernel) (by decide +kernel)
theorem gw_aZ : Cond.arrayClass .boolean ∈ lwG := gmem 291 (by decide +kernel) (by decide +kernel)
section JN
variable {p : Program} {l : Launch} {e : Env} {R : Room} {s : State} {m : MethodId} {args : Array Value} {below : List Frame} {meth : Method} {c : Code} {H : Heap} {locs : List Loc} {cells slots : Nat} {Q : State → Prop}
variable {cc : ByteArray} {nL : Nat} {own : String} {E : jE} {z a n : Nat} {ws : va_W} {pc : Nat} {ls : Array Slot} {rest : List Value}
theorem r_objInit (C : Cx E p c cc nL s args own m) {b idx : Nat} (hlink : Cond.methodLink own idx objectInit ∈ lwG) (hsz : ls.size = nL) (hdg : decode cc pc = .ok (.invokespecial idx, 3)) (hf : 1 ≤ R.frames) (hl : (rest.map fun v => v.category).sum + 12 ≤ R.locals) (k : W p l e R s m args below meth c H locs cells slots Q (F0 m (pc + 3) ls rest)) : W p l e R s m args below meth c H locs cells slots Q (F0 m pc ls (.ref b :: rest)) := by
  refine W.objInit C.1.1 C.1.2.1 C.1.2.2.2.1 (C.1.2.2.2.2 _ hlink) (C.1.2.2.2.2 _ gw_objI) (C.1.2.2.2.2 _ gw_objC) rfl (by rw [C.1.2.2.1]; exact hsz) rfl hdg hf (by show 2 * 0 + _ + 12 ≤ _; omega) ?_
  exact W.eq (g2 := F0 m (pc + 3) ls rest) rfl k
theorem hn_put {ci N k : Nat} {fs : List Value} {v : Value} {H1 : Heap} {Cn : String} {T : u_T} {ty : Nat → FieldType} {cell : Cell} (C : Cx E p c cc nL s args own m) (hN : HN E z a n ((z + a, .inr (ci, fs)) :: ws) s H locs) (jc : jCl ci Cn T N ty) (hk : k < N) (hl : k < fs.length) (hap : ∀ x y : Nat, x < N → y < N → x ≠ y → (eD E).2 ci x ≠ (eD E).2 ci y) (q2 : cell.cls = (eD E).1 ci) (q3 : cell.vm = .none) (q4 : ∀ x, x < N → cell.slots[(eD E).2 ci x]? = some (vp_V fs x)) (e1 : H1[z + a]? = some (cell.setSlot ((eD E).2 ci k) v)) (e2 : H1.size = H.size) (e3 : ∀ q, q ≠ z + a → H1[q]? = H[q]?) :
    HN E z a n ((z + a, .inr (ci, fs.set k v)) :: ws) s H1 (locs ++ [⟨z + a, (eD E).2 ci k⟩]) := by
  have he : ((z + a, Sum.inr (ci, fs)) :: ws : va_W)[0]? = some (z + a, .inr (ci, fs)) := rfl
  exact ⟨hN.1.set hN.2.1 he ⟨_, jc.1, t_OB.to (V := updV (vp_V fs) k v) ⟨_, e1, q2, q3, t_set q4 hap hk v⟩ (fun j _ => vp_updV_set hl v j)⟩ e3, hN.2.1.set he, hN.2.2.1.put e2 e3 (Nat.le_refl (z + a)), by rw [e2]; exact hN.2.2.2.1, hN.2.2.2.2⟩
set_option maxHeartbeats 1000000 in
theorem r_putN (C : Cx E p c cc nL s args own m) {ci N index : Nat} {fs : List Value} (hN : HN E z a n ((z + a, .inr (ci, fs)) :: ws) s H locs) {Cn : String} {T : u_T} {ty : Nat → FieldType} (jc : jCl ci Cn T N ty) (k : Nat) {v : Value} {tv : FieldType} (hdg : decode cc pc = .ok (.putfield index, 3)) (hlink : Cond.fieldLink own index Cn (T k).2.1 (T k).2.2.1 ∈ lwG) (hk : k < N) (hd : (T k).1 = Cn) (hfin : (T k).2.2.2 = false) (hty : ty k = tv) (hnr : narrow tv v = v) (hfit : fits tv v = true) (hlen : k < fs.length)
    (kk : ∀ (H1 : Heap) (locs1 : List Loc), HN E z a n ((z + a, .inr (ci, fs.set k v)) :: ws) s H1 locs1 → W p l e R s m args below meth c H1 locs1 cells slots Q (F0 m (pc + 3) ls rest)) : W p l e R s m args below meth c H locs cells slots Q (F0 m pc ls (v :: .ref (z + a) :: rest)) := by
  subst hty
  have hin : ∀ w ∈ u_ws Cn T N, w ∈ lwG := jc.2.1
  have hts := C.1.2.2.2.2
  have hown := C.1.2.2.2.1
  have hap := va_apart (own := own) hts hin ty jc.2.2.1 jc.2.2.2 C.2.1 jc.1
  obtain ⟨r, h1, cell, q1, q2, q3, q4⟩ := hN.1 0 _ rfl
  have hr : r = (Cn, T, N) := Option.some.inj (h1.symm.trans jc.1)
  subst hr
  obtain ⟨hS, hfc, kC, hkC, hkind⟩ := C.2.1.1 ci _ jc.1
  obtain ⟨cf, kf, fi, f, hi, hsl⟩ := hS k hk
  have hlay := hts _ (hin _ (u_in_lay hk))
  unfold u_lay at hlay
  rw [if_neg (by rw [hfin]; decide)] at hlay
  have hst := (u_facts hfc hkC (u_lays hts hin hk) hi).1
  have h6 := u_store hfc hkC hkind hlay hi (jc.2.2.1 k hk) hnr hfit
  refine W.putK C.1.1 C.1.2.1 (f := f) ⟨hown, C.1.2.2.2.2 _ hlink, ⟨_, _, _, (by rw [← hd]; exact hi)⟩, hst⟩ (by rw [q2]; exact h6) q1 q3 (by rw [hsl]; exact k2_hasslot (q4 k hk)) rfl rfl hdg fun H' e1 e2 e3 => ?_
  rw [hsl] at e1 ⊢
  exact kk H' _ (hn_put C hN jc hk hlen hap q2 q3 q4 e1 e2 e3)
set_option maxHeartbeats 1000000 in
theorem r_putFN (C : Cx E p c cc nL s args own m) {ci N index : Nat} {fs : List Value} (hN : HN E z a n ((z + a, .inr (ci, fs)) :: ws) s H locs) {Cn : String} {T : u_T} {ty : Nat → FieldType} (jc : jCl ci Cn T N ty) (k : Nat) {v : Value} {tv : FieldType} (hin2 : meth.name = "<init>") (hoC : own = Cn) (hdg : decode cc pc = .ok (.putfield index, 3)) (hlink : Cond.fieldLink own index Cn (T k).2.1 (T k).2.2.1 ∈ lwG) (hk : k < N) (hd : (T k).1 = Cn) (hfin : (T k).2.2.2 = true) (hty : ty k = tv) (hnr : narrow tv v = v) (hfit : fits tv v = true) (hlen : k < fs.length)
    (kk : ∀ (H1 : Heap) (locs1 : List Loc), HN E z a n ((z + a, .inr (ci, fs.set k v)) :: ws) s H1 locs1 → W p l e R s m args below meth c H1 locs1 cells slots Q (F0 m (pc + 3) ls rest)) : W p l e R s m args below meth c H locs cells slots Q (F0 m pc ls (v :: .ref (z + a) :: rest)) := by
  subst hty
  have hin : ∀ w ∈ u_ws Cn T N, w ∈ lwG := jc.2.1
  have hts := C.1.2.2.2.2
  have hown := C.1.2.2.2.1
  have hap := va_apart (own := own) hts hin ty jc.2.2.1 jc.2.2.2 C.2.1 jc.1
  obtain ⟨r, h1, cell, q1, q2, q3, q4⟩ := hN.1 0 _ rfl
  have hr : r = (Cn, T, N) := Option.some.inj (h1.symm.trans jc.1)
  subst hr
  obtain ⟨hS, hfc, kC, hkC, hkind⟩ := C.2.1.1 ci _ jc.1
  obtain ⟨cf, kf, fi, f, hi, hsl⟩ := hS k hk
  have hlay := hts _ (hin _ (u_in_lay hk))
  unfold u_lay at hlay
  rw [if_pos hfin] at hlay
  have hst := (u_facts hfc hkC (u_lays hts hin hk) hi).1
  have hcf : m.cls = cf := by
    obtain ⟨_, _, c', _, _, _, -, -, hf', -, -, -, hown2, -⟩ := Cond.laysFinal_spec hlay
    have e1 : c' = cf := by have := hi.symm.trans hf'; simp at this; exact this.1.symm
    rw [hd, ← hoC] at hown2
    rw [← e1]; exact Option.some.inj (hown.symm.trans hown2)
  have h6 := u_fits hfc hkC hkind (Or.inr hlay) hi (jc.2.2.1 k hk) hnr hfit
  refine W.putFinK C.1.1 C.1.2.1 hown (C.1.2.2.2.2 _ hlink) (by rw [← hd]; exact hi) hst hcf hin2 (by rw [q2]; exact h6) q1 q3 (by rw [hsl]; exact k2_hasslot (q4 k hk)) rfl rfl hdg fun H' e1 e2 e3 => ?_
  rw [hsl] at e1 ⊢
  exact kk H' _ (hn_put C hN jc hk hlen hap q2 q3 q4 e1 e2 e3)
/-- one cell more at the end -/
theorem hn_push {x : va_E} {H1 : Heap} (hN : HN E z a n ws s H locs) (z1 : H1.size = H.size + 1) (o1 : ∀ q, q < H.size → H1[q]? = H[q]?) (hx : va_at (eD E) vwCl (z + (a + n), x) H1) : HN E z a (n + 1) (ws ++ [(z + (a + n), x)]) s H1 locs := by
  have hz := hN.2.2.2.1
  refine ⟨(hN.1.kept (fun k q hq => o1 q.1 ((hN.1 k q hq).lt))).app (fun k q hq => ?_), hN.2.1.push hN.1 hz.symm ((show z + a ≤ z + (a + n) by omega)), ⟨Nat.le_trans hN.2.2.1.1 (by omega), fun q h1 h2 => (o1 q (Nat.lt_of_lt_of_le h1 hN.2.2.1.1)).trans (hN.2.2.1.2.1 q h1 h2), hN.2.2.1.2.2⟩, by rw [z1, hz]; omega, hN.2.2.2.2⟩
  have hk : k < 1 := (List.getElem?_eq_some_iff.mp hq).1
  rw [show k = 0 by omega] at hq
  cases hq
  exact hx
theorem r_newaN (C : Cx E p c cc nL s args own m) (hN : HN E z a n ws s H locs) {k : Int} {N t : Nat} {atype : ArrayType} (harr : Cond.arrayClass (newarray.typeOf atype) ∈ lwG) (ht : t = 0 ∧ atype = .int ∨ t = 1 ∧ atype = .byte ∨ t = 2 ∧ atype = .boolean) (hk : inR k) (h0 : 0 ≤ k) (hkN : k.toNat = N) (hb : N ≤ 100000) (hc : cells + 1 ≤ R.cells) (hs : slots + N ≤ R.slots) (hdg : decode cc pc = .ok (.newarray atype, 2))
    (kk : ∀ H1 : Heap, HN E z a (n + 1) (ws ++ [(z + (a + n), .inl (eC E t, N, .inl (fun _ => jI 0)))]) s H1 locs → W p l e R s m args below meth c H1 locs (cells + 1) (slots + N) Q (F0 m (pc + 2) ls (.ref (z + (a + n)) :: rest))) : W p l e R s m args below meth c H locs cells slots Q (F0 m pc ls (.int (jI k) :: rest)) := by
  have hn0 : ¬ jI k < 0 := fun q => by
    have := (jI_lt hk ⟨by decide, by decide⟩).mp (show jI k < jI 0 from q)
    omega
  have hz := hN.2.2.2.1
  refine va_newaK (h := z + (a + n)) C.1.1 C.1.2.1 (C.1.2.2.2.2 _ harr) rfl hdg rfl hn0 ((jI_nat hk).trans hkN) ?_ hc hs hz (fun H1 cA e1 z1 o1 hAr hNm => ?_)
  · rcases ht with ⟨_, rfl⟩ | ⟨_, rfl⟩ | ⟨_, rfl⟩ <;> simp [newarray.typeOf, componentBytes] <;> omega
  · have hcA : cA = eC E t := by
      rcases ht with ⟨rfl, rfl⟩ | ⟨rfl, rfl⟩ | ⟨rfl, rfl⟩
      · exact Option.some.inj (hNm.symm.trans (C.2.1.2 0 _ rfl).2)
      · exact Option.some.inj (hNm.symm.trans (C.2.1.2 1 _ rfl).2)
      · exact Option.some.inj (hNm.symm.trans (C.2.1.2 2 _ rfl).2)
    subst hcA
    refine W.eq (g2 := F0 m (pc + 2) ls (.ref (z + (a + n)) :: rest)) rfl (kk H1 (hn_push hN (by rw [z1, hz]) (fun q hq => o1 q (by omega)) ?_))
    show H1[z + (a + n)]? = some (vp_cell _ _)
    rw [e1]
    rcases ht with ⟨rfl, rfl⟩ | ⟨rfl, rfl⟩ | ⟨rfl, rfl⟩ <;> rfl
theorem r_newqN (C : Cx E p c cc nL s args own m) (hN : HN E z a n ws s H locs) {k : Int} {N index : Nat} (hclink : Cond.classLink own index "NewsReel$State" ∈ lwG) (hX : StN s) (hk : inR k) (h0 : 0 ≤ k) (hkN : k.toNat = N) (hb : N ≤ 100000) (hc : cells + 1 ≤ R.cells) (hs : slots + N ≤ R.slots) (hdg : decode cc pc = .ok (.anewarray index, 3))
    (kk : ∀ H1 : Heap, HN E z a (n + 1) (ws ++ [(z + (a + n), .inl (eC E 3, N, .inr (.inr (.inr (.inr (fun _ => none))))))]) s H1 locs → W p l e R s m args below meth c H1 locs (cells + 1) (slots + N) Q (F0 m (pc + 3) ls (.ref (z + (a + n)) :: rest))) : W p l e R s m args below meth c H locs cells slots Q (F0 m pc ls (.int (jI k) :: rest)) := by
  have hn0 : ¬ jI k < 0 := fun q => by
    have := (jI_lt hk ⟨by decide, by decide⟩).mp (show jI k < jI 0 from q)
    omega
  have hz := hN.2.2.2.1
  have hkn := (jI_nat hk).trans hkN
  refine W.anew C.1.1 C.1.2.1 C.1.2.2.2.1 (C.1.2.2.2.2 _ hclink) (va_AO.use hX.2) rfl hdg rfl hn0 (by rw [hkn]; omega) hc (by rw [hkn]; exact hs) fun cA kA comp f1 f2 f3 f4 => ?_
  rw [hkn]
  have hcA : cA = eC E 3 := by
    obtain ⟨kB, cB, g1, g2, g3, g4⟩ := (C.2.1.2 3 _ rfl).2
    exact Option.some.inj (f1.symm.trans g4)
  subst hcA
  generalize hH1 : H.push ({ cls := eC E 3, slots := Array.replicate N .null, vm := .none } : Cell) = H1
  have z1 : H1.size = H.size + 1 := by rw [← hH1, Array.size_push]
  have e1 : H1[H.size]? = some (arrV (eC E 3) N (fun _ => .null)) := by rw [← hH1, Array.getElem?_push_size, ← arrV_new]
  have o1 : ∀ q : Nat, q < H.size → H1[q]? = H[q]? := fun q hq => by rw [← hH1, Array.getElem?_push, if_neg (Nat.ne_of_lt hq)]
  rw [hz]
  refine W.eq (g2 := F0 m (pc + 3) ls (.ref (z + (a + n)) :: rest)) rfl (kk H1 (hn_push hN z1 o1 ?_))
  show H1[z + (a + n)]? = some (vp_cell _ _)
  rw [vp_cell_q, ← hz]
  exact e1
/-- new K; dup; K() -/
theorem r_mkN (C : Cx E p c cc nL s args own m) (hN : HN E z a n ws s H locs) {ci N ik ic nK maxL : Nat} {Cn : String} {T : u_T} {ty : Nat → FieldType} (jc : jCl ci Cn T N ty) {fs : List Value} (hfs : ∀ j, j < N → defaultValue (ty j) = vp_V fs j) {y : MethodName} {bytes : ByteArray} {rm : Room} {Ly : jLy} {M : Mem} (ct : CtN l y bytes maxL rm E z (a + n) nK Ly M (.inr (ci, fs))) (jy : jYI y bytes maxL) (hik : Cond.classLink own ik Cn ∈ lwG) (hinst : Cond.instantiable Cn N ∈ lwG) (hini : Cond.initialized Cn ∈ lwG) (hX : StN s) (hlink : Cond.methodLink own ic y ∈ lwG ∨ (own, ic, y) ∈ nestM)
    (d0 : decode cc pc = .ok (.new ik, 3)) (d3 : decode cc (pc + 3) = .ok (.dup, 1)) (d4 : decode cc (pc + 4) = .ok (.invokespecial ic, 3)) (hsz : ls.size = nL) (hroom : (rest.map fun v => v.category).sum ≤ 6) (hR : rm.frames + 1 ≤ R.frames ∧ 8 + (maxL + 11) + rm.locals ≤ R.locals) (hc : cells + 1 + rm.cells ≤ R.cells ∧ slots + N + rm.slots ≤ R.slots)
    (kk : ∀ (H1 : Heap) (locs1 : List Loc), HN E z a (n + nK) (ws ++ seg E z (a + n) Ly M nK) s H1 locs1 → W p l e R s m args below meth c H1 locs1 (cells + 1 + rm.cells) (slots + N + rm.slots) Q (F0 m (pc + 7) ls (.ref (z + (a + n)) :: rest))) : W p l e R s m args below meth c H locs cells slots Q (F0 m pc ls rest) := by
  have hHz := hN.2.2.2.1
  have hKn := C.2.1.1 ci _ jc.1
  refine W.newcK (h := z + (a + n)) C.1.1 C.1.2.1 C.1.2.2.2.1 (C.1.2.2.2.2 _ hik) (C.1.2.2.2.2 _ hinst) (C.1.2.2.2.2 _ hini) rfl d0 (by omega) (by omega) hKn.2.1 hHz fun H1 kC hkC e1 z1 o1 => ?_
  have hN1 : HN E z a (n + 1) (ws ++ [(z + (a + n), .inr (ci, fs))]) s H1 locs := hn_push hN (by rw [z1, hHz]) (fun q hq => o1 q (by omega)) ⟨_, jc.1, (u_born ty C.1.2.2.2.2 jc.2.1 hKn hkC e1 jc.2.2.1).to hfs⟩
  refine W.eq (g2 := F0 m (pc + 3) ls (.ref (z + (a + n)) :: rest)) rfl ?_
  refine r_dup C d3 rfl ?_
  have hN2 := hN1.2.2.2.1
  have hpre0 : PreS s H1 (jPreN E (z + (a + n)) (.inr (ci, fs))) [Value.ref (z + (a + n))] := by
    refine ⟨jPreN_blind, fun U hU hW => ⟨rfl, ?_, va_K.moved hW.alike C.2.1, ?_, fun q hq => hN.2.2.2.2.2 q (by omega), ?_, hX.warm hW⟩⟩
    · rw [hU]
      refine fun k q hq => hN1.1 (ws.length + k) q ?_
      rw [List.getElem?_append_right (by omega), show ws.length + k - ws.length = k by omega]
      exact hq
    · rw [hU]
      exact (C.2.2.1.kept (fun q h1 h2 => hN1.2.2.1.2.1 q h1 (fun hle => h2 (hN.2.2.2.2.2 q hle)))).warm hW
    · rw [hU, hN2]; omega
  have hw8 : 2 * 0 + ((Value.ref (z + (a + n)) :: rest).map fun v => v.category).sum ≤ 8 := by
    rw [List.map_cons, List.sum_cons]; show 2 * 0 + (1 + _) ≤ 8; omega
  have hfit : cells + 1 + rm.cells ≤ R.cells ∧ slots + N + rm.slots ≤ R.slots := ⟨by omega, by omega⟩
  have hrun : va_Run p l e R s m args below meth c H1 locs (cells + 1) (slots + N) rm.cells rm.slots (F0 m (pc + 4) ls (.ref (z + (a + n)) :: .ref (z + (a + n)) :: rest)) (.ref (z + (a + n)) :: rest) (va_Qv (fun (_ : Unit) => True) (fun _ t => va_P (eD E) vwCl (seg E z (a + n) Ly M nK) t.heap ∧ t.heap.size = z + (a + n + nK)) (fun q => z + (a + n) ≤ q) [Value.ref (z + (a + n))].toArray) (fun q => z + (a + n) ≤ q) := by
    rcases hlink with hlink | hlink
    · exact va_runI (As := []) (rest := .ref (z + (a + n)) :: rest) C.1 ct ⟨callB_of 0 C.1.2.2.2.2 (good_G jy.2.2.2.1) rfl rfl rfl (C.1.2.2.2.2 _ jy.2.2.1) (C.1.2.2.2.2 _ hlink) jy.2.2.2.2 hR, jy.2.1, C.1.2.2.2.2 _ jy.1⟩ hpre0 rfl rfl hsz rfl hw8 d4 hfit
    · exact va_runIN (As := []) (rest := .ref (z + (a + n)) :: rest) C.1 ct ⟨va_cnB 0 C.1.2.2.2.2 (good_G jy.2.2.2.1) rfl rfl rfl (hX.1 _ hlink) (C.1.2.2.2.2 _ jy.2.2.1) jy.2.2.2.2 hR, jy.2.1, C.1.2.2.2.2 _ jy.1⟩ hpre0 rfl rfl hsz rfl hw8 d4 hfit
  refine va_callv hrun hN1.2.2.1 (fun q _ hq => by omega) (fun q hq => by omega) (fun u t H2 locs1 ht hvm hw hB hz1 hk1 hS => ?_)
  · obtain ⟨hB1, hB2⟩ := hB
    rw [ht] at hB1 hB2
    have hpre : va_P (eD E) vwCl ws H2 := hN.1.kept (fun k q hq => by
      have hlt := (hN.1 k q hq).lt
      rw [hk1 q.1 (by omega) (by omega)]
      exact o1 q.1 (by omega))
    refine kk H2 locs1 ⟨hpre.app hB1, va_D.app hN.2.1 (seg_D (fun j _ => by omega)) (fun i j x w hx hw' hxw => ?_), hS, by omega, hN.2.2.2.2⟩
    have h1 := (hN.1 i x hx).lt
    have h2 := (seg_at hw').2
    rw [h2] at hxw
    have : x.1 = z + (a + n + j) := hxw
    omega
theorem r_endN (C : Cx E p c cc nL s args own m) {nK mc ms : Nat} {Ly : jLy} {M : Mem} (hN : HN E z a nK ws s H locs) (hw : ws = seg E z a Ly M nK) (hr : meth.sig.returnType = none) (hlk : meth.locks = false) (hdg : decode cc pc = .ok (.return_, 1)) (hc : cells ≤ mc) (hs : slots ≤ ms) :
    W p l e R s m args below meth c H locs cells slots (MQ below (va_Qv (fun (_ : Unit) => True) (fun _ t => va_P (eD E) vwCl (seg E z a Ly M nK) t.heap ∧ t.heap.size = z + (a + nK)) (fun q => z + a ≤ q)) args s mc ms (fun q => z + a ≤ q)) (F0 m pc ls []) := by
  subst hw
  refine W.widen hc hs ?_
  exact W.vret C.1.1 C.1.2.1 hr (fun t ht hW => ⟨⟨(), rfl, trivial, by rw [ht]; exact hN.1, by rw [ht]; have := hN.2.2.2.1; omega⟩, hN.2.2.1.F ht⟩) hN.2.2.1.2.2 hdg hlk
def tF : Nat → Int32 := fun j => jI (tI j)
theorem tF_cpy : va_cpy (fun j => jI ((jTab 0).getD j 0)) (fun _ => jI 0) 0 0 5 = tF := by
  funext j
  unfold va_cpy tF
  by_cases hj : 0 ≤ j ∧ j < 0 + 5
  · rw [if_pos hj]
    have : j = 0 ∨ j = 1 ∨ j = 2 ∨ j = 3 ∨ j = 4 := by omega
    rcases this with rfl | rfl | rfl | rfl | rfl <;> rfl
  · rw [if_neg hj]
    have : 5 ≤ j := by omega
    obtain ⟨i, rfl⟩ : ∃ i, j = i + 5 := ⟨j - 5, by omega⟩
    rfl
theorem hn_S (hN : HN E z a n ws s H locs) : va_S (eA E) s.heap H locs :=
  ⟨hN.2.2.1.1, fun q h1 h2 => hN.2.2.1.2.1 q h1 (fun hle => h2 (hN.2.2.2.2.2 q hle)), fun x hx => hN.2.2.2.2.2 _ (hN.2.2.1.2.2 x hx)⟩
theorem r_getsTN (C : Cx E p c cc nL s args own m) (hN : HN E z a n ws s H locs) {index : Nat} (hown : own = "NewsReel$Library") (hq : (index, "SETTING_AT_FIRST") ∈ jNest) (hdg : decode cc pc = .ok (.getstatic index, 3))
    (kk : W p l e R s m args below meth c H locs cells slots Q (F0 m (pc + 3) ls (.ref (eS E 0) :: rest))) : W p l e R s m args below meth c H locs cells slots Q (F0 m pc ls rest) := by
  subst hown
  have hz := (C.2.2.1.2.2.2.1 0 (by decide)).1
  have hw : (Cond.fieldLinkNest "NewsReel$Library" index "NewsReel" "SETTING_AT_FIRST" "[I" "NewsReel").before args s = true := va_Nw.use rfl (C.2.2.1.2.2.2.2.1 (index, "SETTING_AT_FIRST") hq)
  exact va_getsN (C := "NewsReel") (ref := "NewsReel") (n := "SETTING_AT_FIRST") (d := "[I") (host := "NewsReel") C.1.1 C.1.2.1 hz (hn_S hN) C.1.2.2.2.1 hw (fun _ h => h) hdg kk
theorem r_getN (C : Cx E p c cc nL s args own m) {ci N index : Nat} {fs : List Value} (hN : HN E z a n ((z + a, .inr (ci, fs)) :: ws) s H locs) {Cn : String} {T : u_T} {ty : Nat → FieldType} (jc : jCl ci Cn T N ty) (k : Nat) {v : Value} (hdg : decode cc pc = .ok (.getfield index, 3)) (hlink : Cond.fieldLink own index Cn (T k).2.1 (T k).2.2.1 ∈ lwG) (hv : fs[k]? = some v) (hd : (T k).1 = Cn) (hk : k < N) (hne : v = v)
    (kk : W p l e R s m args below meth c H locs cells slots Q (F0 m (pc + 3) ls (v :: rest))) : W p l e R s m args below meth c H locs cells slots Q (F0 m pc ls (.ref (z + a) :: rest)) :=
  va_get C.1.1 C.1.2.1 (Ts := lwG) C.1.2.2.2.2 jc.2.1 C.1.2.2.2.1 C.2.1 hN.1 0 rfl jc.1 k hk (C.1.2.2.2.2 _ hlink) (fun x h => by rw [hd] at h; exact h) hv hdg kk
set_option maxHeartbeats 4000000 in
/-- the static row of the first settings into the new row at place q1 -/
theorem r_copyTN (C : Cx E p c cc nL s args own m) (hN : HN E z a n ws s H locs) {index : Nat} (hlink : Cond.methodLink own index arraycopyName ∈ lwG) (hdg : decode cc pc = .ok (.invokestatic index, 3)) (q1 : Nat) (ha1 : ws[q1]? = some (z + (a + q1), .inl (eC E 0, 5, .inl (fun _ => jI 0)))) (hsz : ls.size = nL) (hf : 1 ≤ R.frames) (hlo : (rest.map fun v => v.category).sum + (nativeFrameWords "java/lang/System" "arraycopy" 5 + 11) ≤ R.locals)
    (kk : ∀ (H1 : Heap) (locs1 : List Loc), HN E z a n (ws.set q1 (z + (a + q1), .inl (eC E 0, 5, .inl tF))) s H1 locs1 → W p l e R s m args below meth c H1 locs1 cells slots Q (F0 m (pc + 3) ls rest)) : W p l e R s m args below meth c H locs cells slots Q (F0 m pc ls (.int (jI 5) :: .int (jI 0) :: .ref (z + (a + q1)) :: .int (jI 0) :: .ref (eS E 0) :: rest)) := by
  intro T hT X
  obtain ⟨scr, hs1, hs2, hs3, hs4, -, hs5, hs7⟩ := ((C.2.2.1.2.2.2.1 0 (by decide)).2).kept (hn_S hN).2.1
  have hc1 : H[z + (a + q1)]? = some (vp_cell (eC E 0) (5, .inl (fun _ => jI 0))) := hN.1 q1 _ ha1
  obtain ⟨hs6, k0, hk0, cm0, hkk0⟩ := hs2
  obtain ⟨-, k1, hk1, cm1, hkk1⟩ := (C.2.1.2 0 _ rfl).1 5 (fun _ => .int (jI 0))
  have e5 : (jI 5).toNatClampNeg = 5 := jI_nat ⟨by decide, by decide⟩
  have e0 : (jI 0).toNatClampNeg = 0 := jI_nat ⟨by decide, by decide⟩
  have i5 : (jI 5).toInt = 5 := jI_toInt ⟨by decide, by decide⟩
  have i0 : (jI 0).toInt = 0 := jI_toInt ⟨by decide, by decide⟩
  obtain ⟨vm', X', step⟩ := X.arraycopy C.1.1 C.1.2.2.2.1 (C.1.2.2.2.2 _ hlink) (C.1.2.2.2.2 _ gw_copy.1) (C.1.2.2.2.2 _ gw_copy.2.1) (C.1.2.2.2.2 _ gw_copy.2.2) (src := eS E 0) (dst := z + (a + q1)) (cs := scr) (cd := vp_cell (eC E 0) (5, .inl (fun _ => jI 0))) (srcPos := jI 0) (destPos := jI 0) (n := jI 5) (by rw [hT]; exact hs1) (by rw [hT]; exact hc1)
    hs6 (fun _ h => by cases h) hs3 (fun h => by cases h) hk0 hk1 hkk0 hkk1 (by simp [refKind]) (by decide) (by decide) (by decide)
    (by rw [i0, i5]; omega)
    (by rw [i0, i5]; show ¬ _ > ((arrV (eC E 0) 5 (fun _ => .int (jI 0))).slots.size : Int); rw [arrV_size]; omega)
    (fun vm₁ _ i hi => by
      rw [e0]
      rw [e5] at hi
      rw [Array.getD_eq_getD_getElem?, hs5 _ (by omega)]
      exact ⟨rfl, trivial⟩)
    (g := F0 m pc ls (.int (jI 5) :: .int (jI 0) :: .ref (z + (a + q1)) :: .int (jI 0) :: .ref (eS E 0) :: rest)) rfl (by rw [C.1.2.2.1]; exact hsz) (rest := rest) rfl (by rw [C.1.2.1]; exact hdg) hf (by show 2 * 0 + _ + _ ≤ _; omega)
  have e1 : copied scr (vp_cell (eC E 0) (5, .inl (fun _ => jI 0))) (jI 0) (jI 0) (jI 5) = vp_cell (eC E 0) (5, .inl tF) := by
    rw [← tF_cpy, ← e0, ← e5]
    exact va_copiedX (fun z => .int z) scr (eC E 0) (fun j => jI ((jTab 0).getD j 0)) (fun _ => jI 0) hs5 (by rw [e0, e5]; decide)
  rw [e1] at X' step
  have hl : z + (a + q1) < H.size := (Array.getElem?_eq_some_iff.mp hc1).1
  have hheap : ((T.setVm vm').setCell (z + (a + q1)) (vp_cell (eC E 0) (5, .inl tF))).heap = H.setIfInBounds (z + (a + q1)) (vp_cell (eC E 0) (5, .inl tF)) := by rw [← hT]; rfl
  have oq : ∀ q : Nat, q ≠ z + (a + q1) → (H.setIfInBounds (z + (a + q1)) (vp_cell (eC E 0) (5, .inl tF)))[q]? = H[q]? := fun q hq => by simp [Array.getElem?_setIfInBounds, Ne.symm hq]
  obtain ⟨t, a1, b1⟩ := kk _ _ ⟨hN.1.set hN.2.1 ha1 (show (H.setIfInBounds _ _)[z + (a + q1)]? = some _ by simp [Array.getElem?_setIfInBounds, hl]) oq, hN.2.1.set ha1, ⟨by simp; exact hN.2.2.1.1, fun q g1 g2 => by
      rw [oq q (fun e => g2 (by omega))]
      exact hN.2.2.1.2.1 q g1 g2, fun q hq => by
      rcases List.mem_append.mp hq with h | h
      · exact hN.2.2.1.2.2 q h
      · obtain ⟨y, -, hy⟩ := List.mem_map.mp h
        rw [← hy]
        exact hN.2.1.2 q1 _ ha1⟩, by simp; exact hN.2.2.2.1, hN.2.2.2.2⟩ _ hheap X'
  exact ⟨t, step t a1, b1⟩
end JN
