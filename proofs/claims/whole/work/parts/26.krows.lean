def kN : List Cond := [.methodLinkNest RX4 11 yX8_init RX9, .methodLinkNest RX8 63 yX2_init RX9, .methodLinkNest RX9 30 yX8_init RX9, .methodLinkNest RX9 37 yX6_init RX9, .methodLinkNest RX9 63 yX0_init RX9, .methodLinkNest RX9 70 yX5_init RX9]
def kX (b0 : Nat) (U : State) : Prop := (∀ w ∈ kN, va_Nw w U) ∧ q_X (fun q => b0 ≤ q) U U.heap
theorem kX.moved {b0 : Nat} {s U : State} {H : Heap} (h : kX b0 s) (hW : s.WarmedH U.vm) (hU : U.heap = H) (hk : ∀ q : Nat, q < s.heap.size → ¬ b0 ≤ q → H[q]? = s.heap[q]?) : kX b0 U := by
  refine ⟨fun w hw => ?_, by rw [hU]; exact h.2.moved hW hk⟩
  have h1 := h.1 w hw
  unfold kN at hw
  simp only [List.mem_cons, List.not_mem_nil, or_false] at hw
  rcases hw with rfl | rfl | rfl | rfl | rfl | rfl <;> exact va_Nw.warmM hW h1
theorem kX.same {b0 : Nat} {s U : State} (h : kX b0 s) (hv : s.vm = U.vm) (hh : s.heap = U.heap) : kX b0 U := by
  refine ⟨fun w hw => ?_, by rw [← hh]; exact q_X.same h.2 hv⟩
  have h1 := h.1 w hw
  unfold kN at hw
  simp only [List.mem_cons, List.not_mem_nil, or_false] at hw
  rcases hw with rfl | rfl | rfl | rfl | rfl | rfl <;> exact va_Nw.same rfl hv h1
theorem ti_obj : Cond.instanceMethod objectInit ∈ wsQ := wq_1 (List.mem_of_getElem? (i := 30) rfl) rfl
theorem td_obj : Cond.code objectInit ⟨#[0xb1]⟩ 1 none ∈ wsQ := wq_1 (List.mem_of_getElem? (i := 31) rfl) rfl
/-! constructors: worlds as lists of cells, that grow -/
def CK (p : Program) (m : MethodId) (c : Code) (cc : ByteArray) (nL : Nat) (s : State) (args : Array Value) (own : String) (D : va_G) (cA : Nat → ClassId) (A : Nat → Prop) (b0 : Nat) : Prop :=
  CallFix p m c cc nL s args wsQ own ∧ va_K D vwCl (q_tys cA) s ∧ (∀ q, s.heap.size ≤ q → A q) ∧ (∀ q, A q → b0 ≤ q) ∧ kX b0 s
def KM (p : Program) (l : Launch) (e : Env) (R : Room) (s : State) (m : MethodId) (args : Array Value) (below : List Frame) (meth : Method) (c : Code) (nL : Nat) (D : va_G) (A : Nat → Prop) (Q : State → Prop) (ws : va_W) (kc ks : Nat) (pc : Nat) (L : List (Nat × Value)) (st : List Value) : Prop :=
  ∀ (H : Heap) (locs : List Loc) (ls : Array Slot), va_P D vwCl ws H → va_D A ws → va_S A s.heap H locs → lv_has ls nL L → W p l e R s m args below meth c H locs kc ks Q (F0 m pc ls st)
section QK
variable {p : Program} {l : Launch} {e : Env} {R : Room} {s : State} {m : MethodId} {args : Array Value} {below : List Frame} {meth : Method} {c : Code} {cc : ByteArray} {nL : Nat} {own : String} {D : va_G} {cA : Nat → ClassId} {A : Nat → Prop} {b0 : Nat} {Q : State → Prop} {ws : va_W} {kc ks : Nat} {pc : Nat} {L : List (Nat × Value)} {st : List Value}
theorem k_iln (C : CK p m c cc nL s args own D cA A b0) {j : Fin 4} {k : Nat} {x : Int} (d : decode cc pc = .ok (.iload_n j, 1)) (hk : L[k]? = some ((j : Nat), .int (qI x))) (kk : KM p l e R s m args below meth c nL D A Q ws kc ks (pc + 1) L (.int (qI x) :: st)) : KM p l e R s m args below meth c nL D A Q ws kc ks pc L st := by
  intro H locs ls hP hD hS hl
  exact lv_iload_n C.1.1 C.1.2.1 d rfl (lv_at hl k hk) (kk H locs ls hP hD hS hl)
theorem k_aln (C : CK p m c cc nL s args own D cA A b0) {j : Fin 4} {k : Nat} {x : Nat} (d : decode cc pc = .ok (.aload_n j, 1)) (hk : L[k]? = some ((j : Nat), .ref (x))) (kk : KM p l e R s m args below meth c nL D A Q ws kc ks (pc + 1) L (.ref (x) :: st)) : KM p l e R s m args below meth c nL D A Q ws kc ks pc L st := by
  intro H locs ls hP hD hS hl
  exact lv_aload_n C.1.1 C.1.2.1 d rfl (lv_at hl k hk) (kk H locs ls hP hD hS hl)
theorem k_ic (C : CK p m c cc nL s args own D cA A b0) {n : Int} (d : decode cc pc = .ok (.iconst n, 1)) (kk : KM p l e R s m args below meth c nL D A Q ws kc ks (pc + 1) L (.int (qI n) :: st)) : KM p l e R s m args below meth c nL D A Q ws kc ks pc L st := by
  intro H locs ls hP hD hS hl
  exact lv_iconst C.1.1 C.1.2.1 d rfl (kk H locs ls hP hD hS hl)
theorem k_bi (C : CK p m c cc nL s args own D cA A b0) {n : Int} (d : decode cc pc = .ok (.bipush n, 2)) (hv : (Int8.ofInt n).toInt32 = qI n) (kk : KM p l e R s m args below meth c nL D A Q ws kc ks (pc + 2) L (.int (qI n) :: st)) : KM p l e R s m args below meth c nL D A Q ws kc ks pc L st := by
  intro H locs ls hP hD hS hl
  exact lv_bipush C.1.1 C.1.2.1 d hv (kk H locs ls hP hD hS hl)
theorem k_si (C : CK p m c cc nL s args own D cA A b0) {n : Int} (d : decode cc pc = .ok (.sipush n, 3)) (hv : (Int16.ofInt n).toInt32 = qI n) (kk : KM p l e R s m args below meth c nL D A Q ws kc ks (pc + 3) L (.int (qI n) :: st)) : KM p l e R s m args below meth c nL D A Q ws kc ks pc L st := by
  intro H locs ls hP hD hS hl
  exact lv_sipush C.1.1 C.1.2.1 d hv (kk H locs ls hP hD hS hl)
theorem k_dup (C : CK p m c cc nL s args own D cA A b0) {v : Value} (hc : v.category = 1) (d : decode cc pc = .ok (.dup, 1)) (kk : KM p l e R s m args below meth c nL D A Q ws kc ks (pc + 1) L (v :: v :: st)) : KM p l e R s m args below meth c nL D A Q ws kc ks pc L (v :: st) := by
  intro H locs ls hP hD hS hl
  exact lv_dup C.1.1 C.1.2.1 d hc (kk H locs ls hP hD hS hl)
theorem k_obj (C : CK p m c cc nL s args own D cA A b0) {a idx : Nat} (w : Cond.methodLink own idx objectInit ∈ wsQ) (hR : 1 ≤ R.frames ∧ (st.map fun v => v.category).sum + 12 ≤ R.locals) (d : decode cc pc = .ok (.invokespecial idx, 3)) (kk : KM p l e R s m args below meth c nL D A Q ws kc ks (pc + 3) L st) : KM p l e R s m args below meth c nL D A Q ws kc ks pc L (.ref a :: st) := by
  intro H locs ls hP hD hS hl
  refine W.objInit C.1.1 C.1.2.1 C.1.2.2.2.1 (C.1.2.2.2.2 _ w) (C.1.2.2.2.2 _ ti_obj) (C.1.2.2.2.2 _ td_obj) rfl (hl.1.trans C.1.2.2.1.symm) rfl d hR.1 ?_ ?_
  · have := hR.2
    show 2 * (F0 m pc ls (.ref a :: st)).monitorRoom + _ + 12 ≤ _
    simpa [JFrame.monitorRoom] using this
  · exact W.eq (g2 := F0 m (pc + 3) ls st) rfl (kk H locs ls hP hD hS hl)
theorem k_pf (C : CK p m c cc nL s args own D cA A b0) {a ci N idx : Nat} {Cn nm ds : String} {T : u_T} {fs : List Value} (q0 f : Nat) {v : Value} {ty : FieldType} {ws1 : va_W} (hc : q_cl ci Cn T N) (hT0 : T f = (Cn, nm, ds, false)) (he : ws[q0]? = some (a, .inr (ci, fs))) (hf : f < N) (hl0 : f < fs.length) (hd : parseFieldDescriptor ds = some ty) (hn : narrow ty v = v) (hfit : fits ty v = true) (w : Cond.fieldLink own idx Cn nm ds ∈ wsQ) (h1 : ws.set q0 (a, .inr (ci, fs.set f v)) = ws1) (d : decode cc pc = .ok (.putfield idx, 3)) (kk : KM p l e R s m args below meth c nL D A Q ws1 kc ks (pc + 3) L st) : KM p l e R s m args below meth c nL D A Q ws kc ks pc L (v :: .ref a :: st) := by
  subst h1
  obtain ⟨ty0, hty⟩ := hc.2.2.1
  intro H locs ls hP hD hS hl
  exact va_put (ref := Cn) C.1.1 C.1.2.1 C.1.2.2.2.2 hc.2.1 ty0 hty hc.2.2.2 C.1.2.2.2.1 C.2.1 hP hD hS q0 he hc.1 f hf (by rw [hT0]; exact C.1.2.2.2.2 _ w) (fun _ h9 => by rw [hT0] at h9 ⊢; exact h9) (by rw [hT0]) (by rw [hT0]; exact hd) hn hfit hl0 d (fun H1 locs1 hP1 hD1 hS1 => kk H1 locs1 ls hP1 hD1 hS1 hl)
theorem k_pF (C : CK p m c cc nL s args own D cA A b0) {a ci N idx : Nat} {Cn nm ds : String} {T : u_T} {fs : List Value} (q0 f : Nat) {v : Value} {ty : FieldType} {ws1 : va_W} (hin : meth.name = "<init>") (hoc : Cn = own) (hc : q_cl ci Cn T N) (hT0 : T f = (Cn, nm, ds, true)) (he : ws[q0]? = some (a, .inr (ci, fs))) (hf : f < N) (hl0 : f < fs.length) (hd : parseFieldDescriptor ds = some ty) (hn : narrow ty v = v) (hfit : fits ty v = true) (w : Cond.fieldLink own idx Cn nm ds ∈ wsQ) (h1 : ws.set q0 (a, .inr (ci, fs.set f v)) = ws1) (d : decode cc pc = .ok (.putfield idx, 3)) (kk : KM p l e R s m args below meth c nL D A Q ws1 kc ks (pc + 3) L st) : KM p l e R s m args below meth c nL D A Q ws kc ks pc L (v :: .ref a :: st) := by
  subst h1
  obtain ⟨ty0, hty⟩ := hc.2.2.1
  intro H locs ls hP hD hS hl
  exact va_putF (ref := Cn) C.1.1 C.1.2.1 C.1.2.2.2.2 hc.2.1 ty0 hty hc.2.2.2 C.1.2.2.2.1 C.2.1 hP hD hS q0 he hc.1 f hf (by rw [hT0]; exact C.1.2.2.2.2 _ w) (fun _ h9 => by rw [hT0] at h9 ⊢; exact h9) (by rw [hT0]) hin (by rw [hT0]; exact hoc) (by rw [hT0]; exact hd) hn hfit hl0 d (fun H1 locs1 hP1 hD1 hS1 => kk H1 locs1 ls hP1 hD1 hS1 hl)
theorem k_gf (C : CK p m c cc nL s args own D cA A b0) {a ci N idx : Nat} {Cn nm ds : String} {T : u_T} {fs : List Value} (q0 f : Nat) {v : Value} {fin : Bool} (hc : q_cl ci Cn T N) (hT0 : T f = (Cn, nm, ds, fin)) (he : ws[q0]? = some (a, .inr (ci, fs))) (hf : f < N) (hv : fs[f]? = some v) (w : Cond.fieldLink own idx Cn nm ds ∈ wsQ) (d : decode cc pc = .ok (.getfield idx, 3)) (kk : KM p l e R s m args below meth c nL D A Q ws kc ks (pc + 3) L (v :: st)) : KM p l e R s m args below meth c nL D A Q ws kc ks pc L (.ref a :: st) := by
  intro H locs ls hP hD hS hl
  exact va_get (ref := Cn) C.1.1 C.1.2.1 C.1.2.2.2.2 hc.2.1 C.1.2.2.2.1 C.2.1 hP q0 he hc.1 f hf (by rw [hT0]; exact C.1.2.2.2.2 _ w) (fun _ h9 => by rw [hT0] at h9 ⊢; exact h9) hv d (kk H locs ls hP hD hS hl)
theorem k_new (C : CK p m c cc nL s args own D cA A b0) {ci N idx : Nat} {Cn : String} {T : u_T} {fs : List Value} {ty0 : Nat → FieldType} (hc : q_cl ci Cn T N) (hty : ∀ k, k < N → parseFieldDescriptor (T k).2.2.1 = some (ty0 k)) (hfs : ∀ j, j < N → defaultValue (ty0 j) = vp_V fs j) (w1 : Cond.classLink own idx Cn ∈ wsQ) (w2 : Cond.instantiable Cn N ∈ wsQ) (w3 : Cond.initialized Cn ∈ wsQ) (hR : kc + 1 ≤ R.cells ∧ ks + N ≤ R.slots) (d : decode cc pc = .ok (.new idx, 3)) (kk : ∀ q : Nat, KM p l e R s m args below meth c nL D A Q (ws ++ [(q, .inr (ci, fs))]) (kc + 1) (ks + N) (pc + 3) L (.ref q :: st)) : KM p l e R s m args below meth c nL D A Q ws kc ks pc L st := by
  intro H locs ls hP hD hS hl
  exact va_new C.1.1 C.1.2.1 C.1.2.2.2.2 hc.2.1 ty0 hty C.1.2.2.2.1 (C.1.2.2.2.2 _ w1) (C.1.2.2.2.2 _ w2) (C.1.2.2.2.2 _ w3) C.2.1 hP hD hS C.2.2.1 hc.1 hfs hR.1 hR.2 d (fun q H1 hP1 hD1 hS1 => kk q H1 locs ls hP1 hD1 hS1 hl)
theorem k_nI (C : CK p m c cc nL s args own D cA A b0) {n : Int} {N' : Nat} (hn : ¬ qI n < 0) (hN : (qI n).toNatClampNeg = N') (hb0 : N' ≤ 4096) (hR : kc + 1 ≤ R.cells ∧ ks + N' ≤ R.slots) (d : decode cc pc = .ok (.newarray .int, 2)) (kk : ∀ q : Nat, KM p l e R s m args below meth c nL D A Q (ws ++ [(q, .inl (cA 2, N', .inl (fun _ => qI 0)))]) (kc + 1) (ks + N') (pc + 2) L (.ref q :: st)) : KM p l e R s m args below meth c nL D A Q ws kc ks pc L (.int (qI n) :: st) := by
  intro H locs ls hP hD hS hl
  refine va_newa (atype := .int) (ty := .int) (a0 := (N', .inl (fun _ => qI 0))) C.1.1 C.1.2.1 (C.1.2.2.2.2 _ ta_int) rfl C.2.1 hP hD hS C.2.2.1 (fun _ => rfl) hn hN (by show N' * 4 ≤ _; omega) hR.1 hR.2 d (fun q cN H1 hK1 hP1 hD1 hS1 => ?_)
  have e1 : s.vm.findClass ("[" ++ (FieldType.toString .int)) = some (cA 2) := (C.2.1.2 0 _ rfl).2
  have e2 : s.vm.findClass ("[" ++ (FieldType.toString .int)) = some cN := (hK1.2 4 _ rfl).2
  have e3 : cA 2 = cN := Option.some.inj (e1.symm.trans e2)
  subst e3
  exact kk q H1 locs ls hP1 hD1 hS1 hl
theorem k_nB (C : CK p m c cc nL s args own D cA A b0) {n : Int} {N' : Nat} (hn : ¬ qI n < 0) (hN : (qI n).toNatClampNeg = N') (hb0 : N' ≤ 4096) (hR : kc + 1 ≤ R.cells ∧ ks + N' ≤ R.slots) (d : decode cc pc = .ok (.newarray .byte, 2)) (kk : ∀ q : Nat, KM p l e R s m args below meth c nL D A Q (ws ++ [(q, .inl (cA 3, N', .inl (fun _ => qI 0)))]) (kc + 1) (ks + N') (pc + 2) L (.ref q :: st)) : KM p l e R s m args below meth c nL D A Q ws kc ks pc L (.int (qI n) :: st) := by
  intro H locs ls hP hD hS hl
  refine va_newa (atype := .byte) (ty := .byte) (a0 := (N', .inl (fun _ => qI 0))) C.1.1 C.1.2.1 (C.1.2.2.2.2 _ ta_byte) rfl C.2.1 hP hD hS C.2.2.1 (fun _ => rfl) hn hN (by show N' * 1 ≤ _; omega) hR.1 hR.2 d (fun q cN H1 hK1 hP1 hD1 hS1 => ?_)
  have e1 : s.vm.findClass ("[" ++ (FieldType.toString .byte)) = some (cA 3) := (C.2.1.2 1 _ rfl).2
  have e2 : s.vm.findClass ("[" ++ (FieldType.toString .byte)) = some cN := (hK1.2 4 _ rfl).2
  have e3 : cA 3 = cN := Option.some.inj (e1.symm.trans e2)
  subst e3
  exact kk q H1 locs ls hP1 hD1 hS1 hl
theorem k_nZ (C : CK p m c cc nL s args own D cA A b0) {n : Int} {N' : Nat} (hn : ¬ qI n < 0) (hN : (qI n).toNatClampNeg = N') (hb0 : N' ≤ 4096) (hR : kc + 1 ≤ R.cells ∧ ks + N' ≤ R.slots) (d : decode cc pc = .ok (.newarray .boolean, 2)) (kk : ∀ q : Nat, KM p l e R s m args below meth c nL D A Q (ws ++ [(q, .inl (cA 4, N', .inl (fun _ => qI 0)))]) (kc + 1) (ks + N') (pc + 2) L (.ref q :: st)) : KM p l e R s m args below meth c nL D A Q ws kc ks pc L (.int (qI n) :: st) := by
  intro H locs ls hP hD hS hl
  refine va_newa (atype := .boolean) (ty := .boolean) (a0 := (N', .inl (fun _ => qI 0))) C.1.1 C.1.2.1 (C.1.2.2.2.2 _ ta_boolean) rfl C.2.1 hP hD hS C.2.2.1 (fun _ => rfl) hn hN (by show N' * 1 ≤ _; omega) hR.1 hR.2 d (fun q cN H1 hK1 hP1 hD1 hS1 => ?_)
  have e1 : s.vm.findClass ("[" ++ (FieldType.toString .boolean)) = some (cA 4) := (C.2.1.2 2 _ rfl).2
  have e2 : s.vm.findClass ("[" ++ (FieldType.toString .boolean)) = some cN := (hK1.2 4 _ rfl).2
  have e3 : cA 4 = cN := Option.some.inj (e1.symm.trans e2)
  subst e3
  exact kk q H1 locs ls hP1 hD1 hS1 hl
theorem k_nJ (C : CK p m c cc nL s args own D cA A b0) {n : Int} {N' : Nat} (hn : ¬ qI n < 0) (hN : (qI n).toNatClampNeg = N') (hb0 : N' ≤ 4096) (hR : kc + 1 ≤ R.cells ∧ ks + N' ≤ R.slots) (d : decode cc pc = .ok (.newarray .long, 2)) (kk : ∀ q : Nat, KM p l e R s m args below meth c nL D A Q (ws ++ [(q, .inl (cA 5, N', .inr (.inl (fun _ => qJ 0))))]) (kc + 1) (ks + N') (pc + 2) L (.ref q :: st)) : KM p l e R s m args below meth c nL D A Q ws kc ks pc L (.int (qI n) :: st) := by
  intro H locs ls hP hD hS hl
  refine va_newa (atype := .long) (ty := .long) (a0 := (N', .inr (.inl (fun _ => qJ 0)))) C.1.1 C.1.2.1 (C.1.2.2.2.2 _ ta_long) rfl C.2.1 hP hD hS C.2.2.1 (fun _ => rfl) hn hN (by show N' * 8 ≤ _; omega) hR.1 hR.2 d (fun q cN H1 hK1 hP1 hD1 hS1 => ?_)
  have e1 : s.vm.findClass ("[" ++ (FieldType.toString .long)) = some (cA 5) := (C.2.1.2 3 _ rfl).2
  have e2 : s.vm.findClass ("[" ++ (FieldType.toString .long)) = some cN := (hK1.2 4 _ rfl).2
  have e3 : cA 5 = cN := Option.some.inj (e1.symm.trans e2)
  subst e3
  exact kk q H1 locs ls hP1 hD1 hS1 hl
theorem k_widen {k' n' : Nat} (h1 : kc ≤ k') (h2 : ks ≤ n') (kk : KM p l e R s m args below meth c nL D A Q ws k' n' pc L st) : KM p l e R s m args below meth c nL D A Q ws kc ks pc L st := by
  intro H locs ls hP hD hS hl
  exact W.widen h1 h2 (kk H locs ls hP hD hS hl)
theorem k_eq {ws1 : va_W} (h : ws = ws1) (kk : KM p l e R s m args below meth c nL D A Q ws1 kc ks pc L st) : KM p l e R s m args below meth c nL D A Q ws kc ks pc L st := h ▸ kk
end QK
def k_Post (D : va_G) (ws : va_W) (F : (Nat → Nat) → va_W) : Array Value → State → Outcome → State → Prop := fun _ st oc t => oc = .returned none ∧ (∃ q : Nat → Nat, va_P D vwCl (F q) t.heap ∧ va_D (va_A ws st.heap.size) (F q)) ∧ va_F (va_A ws st.heap.size) st t
def k_Met (l : Launch) (b0 : Nat) (D : va_G) (cA : Nat → ClassId) (y : MethodName) (cc : ByteArray) (maxL : Nat) (rm : Room) (av : List Value) (ws : va_W) (F : (Nat → Nat) → va_W) (mc ms : Nat) : Prop := ∀ sz : Nat, Met l y (q_ws y cc maxL none) rm (va_Pc av (fun U => U.heap.size = sz ∧ b0 ≤ sz ∧ va_P D vwCl ws U.heap ∧ va_D (fun q => b0 ≤ q) ws ∧ va_K D vwCl (q_tys cA) U ∧ kX b0 U)) (k_Post D ws F) mc ms (va_A ws sz)
theorem k_met {l : Launch} {b0 : Nat} {D : va_G} {cA : Nat → ClassId} {y : MethodName} {cc : ByteArray} {maxL : Nat} {rm : Room} {av : List Value} {ws : va_W} {F : (Nat → Nat) → va_W} {mc ms : Nat} {L0 : List (Nat × Value)} (hy : plainName y.cls = true) (hlen : (lg_sl av).length ≤ maxL) (hL : lv_args 0 av = L0) (hin : y.name = "<init>")
    (body : ∀ (p : Program) (e : Env) (s : State) (m : MethodId) (args : Array Value) (below : List Frame) (meth : Method) (c : Code), CK p m c cc maxL s args y.cls D cA (va_A ws s.heap.size) b0 → meth.sig.returnType = none → meth.locks = false → meth.name = "<init>" → KM p l e rm s m args below meth c maxL D (va_A ws s.heap.size) (MQ below (k_Post D ws F) args s mc ms (va_A ws s.heap.size)) ws 0 0 0 L0 []) : k_Met l b0 D cA y cc maxL rm av ws F mc ms := by
  intro sz
  refine Met.ofW (cc := cc) (maxL := maxL) (ret := none) hy rfl ?_
  intro p e s m args below meth c s₁ B hml hv
  obtain ⟨rfl, hsz, hb, hP, hD0, hK, hX⟩ := hv
  subst hsz
  have hts := atoms_spec (ws := q_ws y cc maxL none) B.pre
  have hown : s.vm.findClass y.cls = some m.cls := findClass_of_methodNamed B.named
  have C : CK p m c cc maxL s av.toArray y.cls D cA (va_A ws s.heap.size) b0 := ⟨⟨B.exec, B.bytes, hml, hown, fun w h => hts w (List.mem_cons_of_mem _ h)⟩, hK, fun q h => Or.inr h, fun q h => by
    rcases h with ⟨k, e9, h9⟩ | h
    · exact hD0.2 k _ h9
    · exact Nat.le_trans hb h, hX⟩
  have hl := lv_entry av (n := maxL) hlen
  rw [hL] at hl
  rw [lg_entry_eq]
  exact body p e s m av.toArray below meth c C B.returns B.notSynchronized ((name_of_methodNamed B.named B.method).1.trans hin) s.heap [] _ hP hD0.self va_S.rf hl
theorem k_ret {p : Program} {l : Launch} {e : Env} {R : Room} {s : State} {m : MethodId} {args : Array Value} {below : List Frame} {meth : Method} {c : Code} {cc : ByteArray} {nL : Nat} {own : String} {D : va_G} {cA : Nat → ClassId} {b0 : Nat} {ws0 ws : va_W} {kc ks : Nat} {pc : Nat} {L : List (Nat × Value)} {F : (Nat → Nat) → va_W} (C : CK p m c cc nL s args own D cA (va_A ws0 s.heap.size) b0) (hr : meth.sig.returnType = none) (hlk : meth.locks = false) (q : Nat → Nat) (is : List Nat) (hn : va_nd is = true) (h1 : is.filterMap (fun i => ws[i]?) = F q) (h2 : is.map (fun i => ws[i]?) = (F q).map some) (d : decode cc pc = .ok (.return_, 1)) : KM p l e R s m args below meth c nL D (va_A ws0 s.heap.size) (MQ below (k_Post D ws0 F) args s kc ks (va_A ws0 s.heap.size)) ws kc ks pc L [] := by
  intro H locs ls hP hD hS hl
  exact W.vret C.1.1 C.1.2.1 hr (fun t ht hW => ⟨rfl, ⟨q, by rw [ht]; exact hP.sub is h1, hD.sub is hn h2⟩, hS.F ht⟩) hS.2.2 d hlk
theorem k_call {p : Program} {l : Launch} {e : Env} {R : Room} {s : State} {m : MethodId} {args : Array Value} {below : List Frame} {meth : Method} {c : Code} {cc : ByteArray} {nL : Nat} {own : String} {D : va_G} {cA : Nat → ClassId} {A : Nat → Prop} {b0 : Nat} {Q : State → Prop} {ws wc wr : va_W} {kc ks mc ms : Nat} {pc : Nat} {L : List (Nat × Value)} {st stk : List Value} {y : MethodName} {bytes : ByteArray} {maxL : Nat} {rm : Room} {As : List Value} {a na idx : Nat} {F : (Nat → Nat) → va_W} (C : CK p m c cc nL s args own D cA A b0) (hM : k_Met l b0 D cA y bytes maxL rm (.ref a :: As) wc F mc ms) (cw : CallB R s args own idx y bytes maxL none (q_ws y bytes maxL none) rm mc ms na ∧ y.name = "<init>" ∧ (Cond.instanceMethod y).before args s = true) (isC isR : List Nat) (hC : isC.map (fun i => ws[i]?) = wc.map some) (hC1 : isC.filterMap (fun i => ws[i]?) = wc) (hR9 : isR.map (fun i => ws[i]?) = wr.map some) (hn1 : va_nd isC = true) (hn2 : va_nd isR = true) (hdis : ∀ i ∈ isR, i ∉ isC) (hk9 : kc + mc ≤ R.cells ∧ ks + ms ≤ R.slots) (hn : As.length = na) (hstk : stk = As.reverse ++ .ref a :: st) (hW : (st.map fun v => v.category).sum ≤ 8) (d : decode cc pc = .ok (.invokespecial idx, 3)) (kk : ∀ q : Nat → Nat, KM p l e R s m args below meth c nL D A Q (wr ++ F q) (kc + mc) (ks + ms) (pc + 3) L st) : KM p l e R s m args below meth c nL D A Q ws kc ks pc L stk := by
  subst hstk
  intro H locs ls hP hD hS hl
  have hPc := hP.sub isC hC1
  have hDc := hD.sub isC hn1 hC
  have hFc := va_free (wc := wc) hD hS C.2.2.1 isC hC
  have hb : b0 ≤ H.size := Nat.le_trans (C.2.2.2.1 _ (C.2.2.1 _ (Nat.le_refl _))) hS.1
  have hr := va_runI (As := As) (rest := st) (cells := kc) (slots := ks) (H := H) (locs := locs) (below := below) (meth := meth) (e := e) (g := F0 m pc ls (As.reverse ++ .ref a :: st)) C.1 (hM H.size) cw ⟨fun a U g mk q => by
      obtain ⟨q0, q1, qb, qP, qD, qK, qX⟩ := q
      exact ⟨q0, q1, qb, qP, qD, va_K.moved (u := U) (U := U.calling g mk a) (Vm.Alike.refl U.vm) qK, kX.same (s := U) (U := U.calling g mk a) qX rfl rfl⟩, fun U hU hW => ⟨rfl, by rw [hU], hb, by rw [hU]; exact hPc, hDc.weaken (fun _ _ _ h => C.2.2.2.1 _ h), va_K.moved hW.alike C.2.1, kX.moved C.2.2.2.2 hW hU (fun q h1 h2 => hS.2.1 q h1 (fun z => h2 (C.2.2.2.1 q z)))⟩⟩ rfl hn hl.1 rfl (lv_room hW) d hk9
  intro T0 hT0 X0
  obtain ⟨v, st₀, t, T', L2, h0, X', hL, e1, e2, ⟨hv2, ⟨q, hP1, hD1⟩, hz, hkp⟩, stp⟩ := hr T0 hT0 X0
  cases hv2
  rw [h0] at hz hkp hD1
  have hS1 : va_S A s.heap T'.heap (locs ++ L2) := ⟨Nat.le_trans hS.1 (by rw [e1]; exact hz), fun q h1 h2 => by rw [e1, hkp q (Nat.lt_of_lt_of_le h1 hS.1) (fun z => h2 (hFc q z))]; exact hS.2.1 q h1 h2, fun q hq => by
      rcases List.mem_append.mp hq with h | h
      · exact hS.2.2 q h
      · exact hFc _ (hL q h)⟩
  obtain ⟨hPj, hDj⟩ := va_join (wr := wr) (w1 := F q) (H1 := T'.heap) hP hD isC isR hC hR9 hn2 hdis (fun q h1 h2 => by rw [e1]; exact hkp q h1 h2) hFc (by rw [e1]; exact hP1) hD1
  obtain ⟨t2, a1, b1⟩ := kk q T'.heap (locs ++ L2) ls hPj hDj hS1 hl T' rfl X'
  exact ⟨t2, stp t2 a1, b1⟩
theorem k_calN {p : Program} {l : Launch} {e : Env} {R : Room} {s : State} {m : MethodId} {args : Array Value} {below : List Frame} {meth : Method} {c : Code} {cc : ByteArray} {nL : Nat} {own : String} {D : va_G} {cA : Nat → ClassId} {A : Nat → Prop} {b0 : Nat} {Q : State → Prop} {ws wc wr : va_W} {kc ks mc ms : Nat} {pc : Nat} {L : List (Nat × Value)} {st stk : List Value} {y : MethodName} {bytes : ByteArray} {maxL : Nat} {rm : Room} {As : List Value} {a na idx : Nat} {F : (Nat → Nat) → va_W} (C : CK p m c cc nL s args own D cA A b0) (hM : k_Met l b0 D cA y bytes maxL rm (.ref a :: As) wc F mc ms) (cw : va_CN R s args own idx y RX9 bytes maxL none (q_ws y bytes maxL none) rm mc ms na ∧ y.name = "<init>" ∧ (Cond.instanceMethod y).before args s = true) (isC isR : List Nat) (hC : isC.map (fun i => ws[i]?) = wc.map some) (hC1 : isC.filterMap (fun i => ws[i]?) = wc) (hR9 : isR.map (fun i => ws[i]?) = wr.map some) (hn1 : va_nd isC = true) (hn2 : va_nd isR = true) (hdis : ∀ i ∈ isR, i ∉ isC) (hk9 : kc + mc ≤ R.cells ∧ ks + ms ≤ R.slots) (hn : As.length = na) (hstk : stk = As.reverse ++ .ref a :: st) (hW : (st.map fun v => v.category).sum ≤ 8) (d : decode cc pc = .ok (.invokespecial idx, 3)) (kk : ∀ q : Nat → Nat, KM p l e R s m args below meth c nL D A Q (wr ++ F q) (kc + mc) (ks + ms) (pc + 3) L st) : KM p l e R s m args below meth c nL D A Q ws kc ks pc L stk := by
  subst hstk
  intro H locs ls hP hD hS hl
  have hPc := hP.sub isC hC1
  have hDc := hD.sub isC hn1 hC
  have hFc := va_free (wc := wc) hD hS C.2.2.1 isC hC
  have hb : b0 ≤ H.size := Nat.le_trans (C.2.2.2.1 _ (C.2.2.1 _ (Nat.le_refl _))) hS.1
  have hr := va_runIN (As := As) (rest := st) (cells := kc) (slots := ks) (H := H) (locs := locs) (below := below) (meth := meth) (e := e) (g := F0 m pc ls (As.reverse ++ .ref a :: st)) C.1 (hM H.size) cw ⟨fun a U g mk q => by
      obtain ⟨q0, q1, qb, qP, qD, qK, qX⟩ := q
      exact ⟨q0, q1, qb, qP, qD, va_K.moved (u := U) (U := U.calling g mk a) (Vm.Alike.refl U.vm) qK, kX.same (s := U) (U := U.calling g mk a) qX rfl rfl⟩, fun U hU hW => ⟨rfl, by rw [hU], hb, by rw [hU]; exact hPc, hDc.weaken (fun _ _ _ h => C.2.2.2.1 _ h), va_K.moved hW.alike C.2.1, kX.moved C.2.2.2.2 hW hU (fun q h1 h2 => hS.2.1 q h1 (fun z => h2 (C.2.2.2.1 q z)))⟩⟩ rfl hn hl.1 rfl (lv_room hW) d hk9
  intro T0 hT0 X0
  obtain ⟨v, st₀, t, T', L2, h0, X', hL, e1, e2, ⟨hv2, ⟨q, hP1, hD1⟩, hz, hkp⟩, stp⟩ := hr T0 hT0 X0
  cases hv2
  rw [h0] at hz hkp hD1
  have hS1 : va_S A s.heap T'.heap (locs ++ L2) := ⟨Nat.le_trans hS.1 (by rw [e1]; exact hz), fun q h1 h2 => by rw [e1, hkp q (Nat.lt_of_lt_of_le h1 hS.1) (fun z => h2 (hFc q z))]; exact hS.2.1 q h1 h2, fun q hq => by
      rcases List.mem_append.mp hq with h | h
      · exact hS.2.2 q h
      · exact hFc _ (hL q h)⟩
  obtain ⟨hPj, hDj⟩ := va_join (wr := wr) (w1 := F q) (H1 := T'.heap) hP hD isC isR hC hR9 hn2 hdis (fun q h1 h2 => by rw [e1]; exact hkp q h1 h2) hFc (by rw [e1]; exact hP1) hD1
  obtain ⟨t2, a1, b1⟩ := kk q T'.heap (locs ++ L2) ls hPj hDj hS1 hl T' rfl X'
  exact ⟨t2, stp t2 a1, b1⟩
theorem k_cwI {R : Room} {s : State} {args : Array Value} {own : String} {y : MethodName} {bytes : ByteArray} {maxL idx na mc ms : Nat} {rm : Room} (ht : ∀ w ∈ wsQ, w.before args s = true) (w1 : Cond.methodLink own idx y ∈ wsQ) (w2 : Cond.instanceMethod y ∈ wsQ) (w3 : Cond.initialized y.cls ∈ wsQ) (w4 : Cond.code y bytes maxL none ∈ wsQ) (hy : y.name = "<init>") (hrc : rm.cells = mc) (hrs : rm.slots = ms) (hd : y.cls ≠ "java/lang/invoke/MethodHandle" ∧ y.cls ≠ "java/lang/invoke/VarHandle" ∧ (parseMethodDescriptor y.desc).map (fun d => d.parameters.length) = some na) (hR : rm.frames + 1 ≤ R.frames ∧ 8 + (maxL + 11) + rm.locals ≤ R.locals) : CallB R s args own idx y bytes maxL none (q_ws y bytes maxL none) rm mc ms na ∧ y.name = "<init>" ∧ (Cond.instanceMethod y).before args s = true :=
  cwI na ht (fun x hx => by
    have hm : x ∈ wsQ := by
      rcases List.mem_cons.mp hx with rfl | h
      · exact w4
      · exact h
    exact ⟨hm, wsQ_good x hm⟩) rfl hrc hrs (ht _ w3) (ht _ w1) (ht _ w2) hy hd hR
theorem k_cwN {R : Room} {s : State} {args : Array Value} {own : String} {y : MethodName} {bytes : ByteArray} {maxL idx na mc ms : Nat} {rm : Room} (ht : ∀ w ∈ wsQ, w.before args s = true) (w1 : va_Nw (.methodLinkNest own idx y RX9) s) (w2 : Cond.instanceMethod y ∈ wsQ) (w3 : Cond.initialized y.cls ∈ wsQ) (w4 : Cond.code y bytes maxL none ∈ wsQ) (hy : y.name = "<init>") (hrc : rm.cells = mc) (hrs : rm.slots = ms) (hd : y.cls ≠ "java/lang/invoke/MethodHandle" ∧ y.cls ≠ "java/lang/invoke/VarHandle" ∧ (parseMethodDescriptor y.desc).map (fun d => d.parameters.length) = some na) (hR : rm.frames + 1 ≤ R.frames ∧ 8 + (maxL + 11) + rm.locals ≤ R.locals) : va_CN R s args own idx y RX9 bytes maxL none (q_ws y bytes maxL none) rm mc ms na ∧ y.name = "<init>" ∧ (Cond.instanceMethod y).before args s = true :=
  ⟨va_cnB na ht (fun x hx => by
    have hm : x ∈ wsQ := by
      rcases List.mem_cons.mp hx with rfl | h
      · exact w4
      · exact h
    exact ⟨hm, wsQ_good x hm⟩) rfl hrc hrs w1 (ht _ w3) hd hR, hy, ht _ w2⟩
