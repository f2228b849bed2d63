theorem xk_1 : Cond.classLink RX10 371 (exN 1) ∈ lwG ∧ Cond.initialized (exN 1) ∈ lwG := ⟨gmem 1216 (by decide +kernel) (by decide +kernel), gmem 156 (by decide +kernel) (by decide +kernel)⟩
theorem xk_2 : Cond.classLink RX10 376 (exN 2) ∈ lwG ∧ Cond.initialized (exN 2) ∈ lwG := ⟨gmem 1177 (by decide +kernel) (by decide +kernel), gmem 150 (by decide +kernel) (by decide +kernel)⟩
theorem xk_3 : Cond.classLink RX10 86 (exN 3) ∈ lwG ∧ Cond.initialized (exN 3) ∈ lwG := ⟨gmem 1095 (by decide +kernel) (by decide +kernel), gmem 149 (by decide +kernel) (by decide +kernel)⟩
section JY
variable {p : Program} {l : Launch} {e : Env} {R : Room} {s : State} {m : MethodId} {args : Array Value} {below : List Frame} {meth : Method} {c : Code} {H : Heap} {locs : List Loc} {cells slots : Nat}
variable {cc : ByteArray} {nL : Nat} {own : String} {E : jE} {z : Nat} {Ly : jLy} {M : Mem} {pc : Nat} {ls : Array Slot} {rest : List Value} {Qc : Array Value → State → Outcome → State → Prop} {mc ms : Nat}
set_option maxHeartbeats 4000000 in
theorem r_callSVX (C : Cx E p c cc nL s args own m) (hM : HS E z Ly M s H locs) (hX : StX s) {y : MethodName} {bytes : ByteArray} {maxL n index k : Nat} {ret : Option FieldType} {rm : Room} {As : List Value} {M' : Mem} {st : List Value} (ct : CtX (QXv E) l y bytes maxL ret rm E z Ly As M k M') (jy : jYS y bytes maxL ret n) (hlink : Cond.methodLink own index y ∈ lwG) (hdg : decode cc pc = .ok (.invokestatic index, 3)) (ht : ∀ x ∈ c.exceptionTable.toList, False) (hlk : meth.locks = false) (hst : st = As.reverse ++ rest) (hn : As.length = n) (hsz : ls.size = nL) (hroom : (rest.map fun v => v.category).sum ≤ 8) (hR : rm.frames + 1 ≤ R.frames ∧ 8 + (maxL + 11) + rm.locals ≤ R.locals) (hc : cells + rm.cells ≤ R.cells ∧ slots + rm.slots ≤ R.slots) (hm : cells + rm.cells ≤ mc ∧ slots + rm.slots ≤ ms) :
    W p l e R s m args below meth c H locs cells slots (vx_MQ below Qc (XX E z Ly M' k) args s mc ms (eA E)) (F0 m pc ls st) := by
  refine vx_callv (vx_runS (As := As) (rest := rest) C.1 ct ⟨callB_of n C.1.2.2.2.2 (good_G jy.2.2.1) rfl rfl rfl (C.1.2.2.2.2 _ jy.2.1) (C.1.2.2.2.2 _ hlink) jy.2.2.2 hR, C.1.2.2.2.2 _ jy.1⟩ ⟨jPreX_blind, fun U hU hW => ⟨j_pre C hM _ hU hW, hX.warm hW⟩⟩ rfl hn hsz hst (lv_room hroom) hdg hc) hM.2.1 (fun q _ h => h) (fun q h => h) (fun q _ h => h) (fun E' ce q9 u t H1 locs1 ht1 hvm hp hB hz1 hk1 hS hce hcv hcl => ?_) (fun u t H1 locs1 ht1 hvm hw hB hz1 hk1 hS => hw.elim)
  obtain ⟨hB1, hB2⟩ := hB
  subst hB1
  refine vx_out (fun x hx => (ht x hx).elim) hlk hce hcv hcl (fun t' ht' _ => ⟨(), hp, ⟨rfl, ?_⟩, hS.F ht'⟩) hS.2.2 hm.1 hm.2
  have hB2 : va_P (eD E) vwCl (Wd (eC E) z Ly M') t.heap := hB2
  rw [ht', ← ht1]
  exact hB2
end JY
/-! double and float answers -/
def CtD (l : Launch) (y : MethodName) (cc : ByteArray) (maxL : Nat) (ret : Option FieldType) (rm : Room) (E : jE) (z : Nat) (Ly : jLy) (As : List Value) (M : Mem) (r : UInt64) (M' : Mem) : Prop :=
  Met l y (.code y cc maxL ret :: lwG) rm (jPre E z Ly As M) (va_Qd (fun (v : UInt64) (_ : Unit) => v = r ∧ Mok Ly M') (fun _ t => va_P (eD E) vwCl (Wd (eC E) z Ly M') t.heap) (eA E)) rm.cells rm.slots (eA E)
def CtF (l : Launch) (y : MethodName) (cc : ByteArray) (maxL : Nat) (ret : Option FieldType) (rm : Room) (E : jE) (z : Nat) (Ly : jLy) (As : List Value) (M : Mem) (r : UInt32) (M' : Mem) : Prop :=
  Met l y (.code y cc maxL ret :: lwG) rm (jPre E z Ly As M) (va_Qf (fun (v : UInt32) (_ : Unit) => v = r ∧ Mok Ly M') (fun _ t => va_P (eD E) vwCl (Wd (eC E) z Ly M') t.heap) (eA E)) rm.cells rm.slots (eA E)
section JF
variable {p : Program} {l : Launch} {e : Env} {R : Room} {s : State} {m : MethodId} {args : Array Value} {below : List Frame} {meth : Method} {c : Code} {H : Heap} {locs : List Loc} {cells slots : Nat}
variable {cc : ByteArray} {nL : Nat} {own : String} {E : jE} {z : Nat} {Ly : jLy} {M : Mem} {pc : Nat} {ls : Array Slot}
theorem r_dreturn (C : Cx E p c cc nL s args own m) (hM : HS E z Ly M s H locs) {v r : UInt64} {M' : Mem} (hr : meth.sig.returnType = some .double) (hlk : meth.locks = false) (h : some v = some r) (h' : M = M') (hdg : decode cc pc = .ok (.dreturn, 1)) :
    W p l e R s m args below meth c H locs cells slots (MQ below (va_Qd (fun (w : UInt64) (_ : Unit) => w = r ∧ Mok Ly M') (fun _ t => va_P (eD E) vwCl (Wd (eC E) z Ly M') t.heap) (eA E)) args s cells slots (eA E)) (F0 m pc ls [.double v]) := by
  cases h; subst h'
  exact W.dret C.1.1 C.1.2.1 hr (fun t ht hW => ⟨⟨v, (), rfl, ⟨rfl, hM.2.2.1⟩, by show va_P _ _ _ t.heap; rw [ht]; exact hM.1⟩, hM.2.1.F ht⟩) hM.2.1.2.2 hdg hlk
theorem r_dreturnM (C : Cx E p c cc nL s args own m) (hM : HS E z Ly M s H locs) {v r : UInt64} {M' : Mem} (hr : meth.sig.returnType = some .double) (hlk : meth.locks = false) (h : some (v, M) = some (r, M')) (hdg : decode cc pc = .ok (.dreturn, 1)) :
    W p l e R s m args below meth c H locs cells slots (MQ below (va_Qd (fun (w : UInt64) (_ : Unit) => w = r ∧ Mok Ly M') (fun _ t => va_P (eD E) vwCl (Wd (eC E) z Ly M') t.heap) (eA E)) args s cells slots (eA E)) (F0 m pc ls [.double v]) := by
  cases h
  exact r_dreturn C hM hr hlk rfl rfl hdg
theorem r_freturn (C : Cx E p c cc nL s args own m) (hM : HS E z Ly M s H locs) {v r : UInt32} {M' : Mem} (hr : meth.sig.returnType = some .float) (hlk : meth.locks = false) (h : some v = some r) (h' : M = M') (hdg : decode cc pc = .ok (.freturn, 1)) :
    W p l e R s m args below meth c H locs cells slots (MQ below (va_Qf (fun (w : UInt32) (_ : Unit) => w = r ∧ Mok Ly M') (fun _ t => va_P (eD E) vwCl (Wd (eC E) z Ly M') t.heap) (eA E)) args s cells slots (eA E)) (F0 m pc ls [.float v]) := by
  cases h; subst h'
  exact W.fret C.1.1 C.1.2.1 hr (fun t ht hW => ⟨⟨v, (), rfl, ⟨rfl, hM.2.2.1⟩, by show va_P _ _ _ t.heap; rw [ht]; exact hM.1⟩, hM.2.1.F ht⟩) hM.2.1.2.2 hdg hlk
theorem r_freturnM (C : Cx E p c cc nL s args own m) (hM : HS E z Ly M s H locs) {v r : UInt32} {M' : Mem} (hr : meth.sig.returnType = some .float) (hlk : meth.locks = false) (h : some (v, M) = some (r, M')) (hdg : decode cc pc = .ok (.freturn, 1)) :
    W p l e R s m args below meth c H locs cells slots (MQ below (va_Qf (fun (w : UInt32) (_ : Unit) => w = r ∧ Mok Ly M') (fun _ t => va_P (eD E) vwCl (Wd (eC E) z Ly M') t.heap) (eA E)) args s cells slots (eA E)) (F0 m pc ls [.float v]) := by
  cases h
  exact r_freturn C hM hr hlk rfl rfl hdg
end JF
