def xE1 : String := "java/lang/IndexOutOfBoundsException"
def xE2 : String := "java/util/NoSuchElementException"
def xnm : List String := ["java/lang/RuntimeException", "java/lang/Exception"]
def xB : List Cond := [.castable xE1 xE1, .castable xE2 xE2, .declares ⟨"java/lang/RuntimeException", "<init>", "(Ljava/lang/String;)V"⟩, .declares ⟨"java/lang/Exception", "<init>", "(Ljava/lang/String;)V"⟩, .declares ⟨"java/lang/Throwable", "<init>", "(Ljava/lang/String;)V"⟩]
theorem x_bad1 : ∀ w ∈ (vx_atS RX9 146 xE1 xnm).filter (fun w => !goodWord w), w ∈ xB := by decide +kernel
theorem x_ot1 : ∀ w ∈ Cond.classLink RX9 142 xE1 :: Cond.initialized xE1 :: vx_atS RX9 146 xE1 xnm, vx_ot w = true := by decide +kernel
theorem x_in1 : ∀ w ∈ (vx_atS RX9 146 xE1 xnm).filter goodWord, w ∈ wsQ := by decide +kernel
theorem x_fit : Bundle.fit xE1 = true ∧ Bundle.fit xE2 = true ∧ ∀ n ∈ xnm, Bundle.fit n = true := by decide +kernel
theorem tn_E1 : Cond.initialized xE1 ∈ wsQ := wq_1 (List.mem_of_getElem? (i := 20) rfl) rfl
theorem tn_E2 : Cond.initialized xE2 ∈ wsQ := wq_1 (List.mem_of_getElem? (i := 21) rfl) rfl
theorem tk_E1 : Cond.classLink RX9 142 xE1 ∈ wsQ := wq_5 (List.mem_of_getElem? (i := 58) rfl) rfl
theorem tk_E2 : Cond.classLink RX9 171 xE2 ∈ wsQ := wq_5 (List.mem_of_getElem? (i := 128) rfl) rfl
/-! throw new NoSuchElementException(text): its constructor passes on by the place 13 of its pool, which the kit's vx_throwS (place 7) doesn't cover; the same road (Stand.ctorThrowS of the library, vx_throwS of the kit) with that place -/
def x_nb : ByteArray := ⟨#[0x2a, 0x2b, 0xb7, 0x00, 0x0d, 0xb1]⟩
def x_tail : List Cond := [.methodLink RX9 175 (Bundle.initS xE2), .instantiable xE2 6, .castable xE2 xE2, .selects xE2 Bundle.tFill0 Bundle.tFill0, .selects xE2 Bundle.tFill Bundle.tFill, .lays xE2 Bundle.tN "cause" "Ljava/lang/Throwable;", .lays xE2 Bundle.tN "stackTrace" Bundle.steD, .lays xE2 Bundle.tN "suppressedExceptions" Bundle.listD, .lays xE2 Bundle.tN "detailMessage" "Ljava/lang/String;", .isRef (.static Bundle.tN "UNASSIGNED_STACK" Bundle.steD), .isRef (.static Bundle.tN "SUPPRESSED_SENTINEL" Bundle.listD), .fieldLink Bundle.tN 198 Bundle.tN "backtrace" "Ljava/lang/Object;", .lays Bundle.tN Bundle.tN "backtrace" "Ljava/lang/Object;", .lays xE2 Bundle.tN "backtrace" "Ljava/lang/Object;"]
def x_RT : String := "java/lang/RuntimeException"
def x_all : List Cond := Bundle.throwableAtoms ++ (Bundle.throwableSAtoms ++ (Bundle.passSAtoms xE2 x_RT 13 x_nb ++ (Bundle.chainSAtoms x_RT ["java/lang/Exception"] ++ x_tail)))
theorem x_in_t {w : Cond} (h : w ∈ x_tail) : w ∈ x_all := List.mem_append_right _ (List.mem_append_right _ (List.mem_append_right _ (List.mem_append_right _ h)))
theorem x_in_p {w : Cond} (h : w ∈ Bundle.passSAtoms xE2 x_RT 13 x_nb) : w ∈ x_all := List.mem_append_right _ (List.mem_append_right _ (List.mem_append_left _ h))
section XCTOR
variable {p : Program} {l : Launch} {e : Env} {R : Room} {s : State} {m₀ : MethodId} {args : Array Value} {below : List Frame} {meth : Method} {c : Code} {W9 : State} {cells slots : Nat}
set_option maxHeartbeats 1000000 in
theorem x_ctor (X : Stand p l e R s m₀ args below meth c W9 [] cells slots) (hexec : p.tables.exec = Jvm.exec) (htr : e.platform.stackTraces = false)
    (hown : s.vm.findClass RX9 = some m₀.cls) (h : ∀ a ∈ x_all, a.before args s = true)
    {a : Addr} {cX : ClassId} {kX : Class} (hfoundX : s.vm.findClass xE2 = some cX) (hkX : s.vm.classes[cX]? = some kX) (hcell : W9.heap[a]? = some (freshCell cX kX)) (hnew : s.heap.size ≤ a)
    {msg : Value} (hmsg : msg.isRef = true)
    {g : JFrame} (hg : g.method = m₀) (hsize : g.locals.size = c.maxLocals) (hlocked : g.locked = none) (hentered : g.entered = []) {rest : List Value} (hstack : g.stack = msg :: .ref a :: .ref a :: rest)
    (hd6 : decode c.code g.pc = .ok (.invokespecial 175, 3)) (hd9 : decode c.code (g.pc + 3) = .ok (.athrow, 1)) (hout : ∀ x ∈ c.exceptionTable.toList, covers x (g.pc + 3) = false)
    (hRframes : 5 < R.frames) (hRlocals : 2 * g.monitorRoom + ((Value.ref a :: rest).map fun v => v.category).sum + (13 * 3 + 42) ≤ R.locals) (hlocks : meth.locks = false) :
    ∃ U : State, Steps p.tables e below (W9.setTop g) U ∧ U.status = .running ∧ Ended U below (.threw a) ∧ s.WarmedH U.vm ∧ s.sameButNew ({ U with vm := s.vm } : State) [] cells slots ∧
      ∃ ce, U.heap[a]? = some ce ∧ ce.vm = .none ∧ s.vm.findClass xE2 = some ce.cls := by
  have howns : e.platform.frameOwnsMonitors = true := by rw [X.admits.platform]
  have hfin : e.platform.finalization = false := by rw [X.admits.platform]
  have hpl : e.platform.magicAccessors = ({} : Platform).magicAccessors := by rw [X.admits.platform]
  have a' : ∀ x, x ∈ x_tail → x.holds args s none s [] = true := fun x hx => h x (x_in_t hx)
  obtain ⟨T, Z0, L, -, Y⟩ := ThrowableC.of_atoms (args := args) howns hfin hpl (fun x hx => h x (List.mem_append_left _ hx))
  obtain ⟨Z, M, LZ, LM, hnZ⟩ := Init0T.ofS_atoms (args := args) hpl L Y (fun x hx => h x (List.mem_append_right _ (List.mem_append_left _ hx)))
  obtain ⟨P2, Ps, hlen, L2, hL, hP2m, hlink2, hlink⟩ := Bundle.chainS (args := args) hpl hnZ ["java/lang/Exception"] x_RT (by decide +kernel) (by decide +kernel) (fun x hx => h x (List.mem_append_right _ (List.mem_append_right _ (List.mem_append_right _ (List.mem_append_left _ hx)))))
  obtain ⟨P1, L1, hP1m, hP1s⟩ := PassC.ofS_atoms (args := args) (s := s) hpl (X := xE2) (Y := x_RT) (index := 13) (bytes := x_nb) (by decide +kernel) (by decide +kernel) (by decide +kernel) (by decide +kernel) (by decide +kernel) (by decide +kernel) (fun x hx => h x (x_in_p hx))
  have hsup : P1.sup = P2.m := Option.some.inj (hP1s.symm.trans hP2m)
  have hfound : s.vm.findClass xE2 = some P1.m.cls := findClass_of_methodNamed hP1m
  cases Option.some.inj (hfoundX.symm.trans hfound)
  obtain ⟨c1, kX', hc1, hk, hord, -, -, hn6⟩ := Cond.instantiable_spec (a' (.instantiable xE2 6) (by simp [x_tail]))
  cases Option.some.inj (hc1.symm.trans hfound)
  cases Option.some.inj (hkX.symm.trans hk)
  have hsel0 : selectMethod e.platform s.vm P1.m.cls T.fill0 = .method T.fill0 := by
    obtain ⟨c2, r2, m2, q1, q2, q3, q4, -⟩ := Cond.selects_spec (a' (.selects xE2 Bundle.tFill0 Bundle.tFill0) (by simp [x_tail]))
    cases Option.some.inj (q1.symm.trans hfound)
    cases Option.some.inj (q2.symm.trans (State.methodFound?_of_named Y.fill0 (by decide)))
    cases Option.some.inj (q3.symm.trans Y.fill0)
    rw [Launch.admits_selectMethod X.admits]; exact q4
  have hselF : selectMethod e.platform s.vm P1.m.cls T.fill = .method T.fill := by
    obtain ⟨c2, r2, m2, q1, q2, q3, q4, -⟩ := Cond.selects_spec (a' (.selects xE2 Bundle.tFill Bundle.tFill) (by simp [x_tail]))
    cases Option.some.inj (q1.symm.trans hfound)
    cases Option.some.inj (q2.symm.trans (State.methodFound?_of_named Y.fill (by decide)))
    cases Option.some.inj (q3.symm.trans Y.fill)
    rw [Launch.admits_selectMethod X.admits]; exact q4
  obtain ⟨cellS0, hcS0, hiss⟩ := Y.statics
  obtain ⟨u0, hu0⟩ := Cond.staticRefV Y.unassigned L.unassignedStatic L.statics hcS0 hiss (a' (.isRef (.static Bundle.tN "UNASSIGNED_STACK" Bundle.steD)) (by simp [x_tail]))
  obtain ⟨sen, hsen⟩ := Cond.staticRefV Y.sentinel L.sentinelStatic L.statics hcS0 hiss (a' (.isRef (.static Bundle.tN "SUPPRESSED_SENTINEL" Bundle.listD)) (by simp [x_tail]))
  obtain ⟨ci198, i198, fB, hk198, hg198, ha198, hsB, -, hnB, htB, hffB⟩ := Cond.ownField (t := .object "java/lang/Object") Y.found L.cls (by decide +kernel) (a' (.fieldLink Bundle.tN 198 Bundle.tN "backtrace" "Ljava/lang/Object;") (by simp [x_tail])) (a' (.lays Bundle.tN Bundle.tN "backtrace" "Ljava/lang/Object;") (by simp [x_tail])) e.platform hpl
  obtain ⟨cellS, hcS', heS, -, hkeep⟩ := X.same.2.2.2.2.2 T.aS cellS0 hcS0
  have hcellS : W9.heap[T.aS]? = some cellS := hcS'
  have hknownS : cellS.vm ≠ .unknown := by
    rw [heS]; intro hu
    rw [show cellS0.vm = .unknown from hu] at hiss
    cases hiss
  have hneS : T.aS ≠ a := Nat.ne_of_lt (Nat.lt_of_lt_of_le (Array.getElem?_eq_some_iff.mp hcS0).1 hnew)
  obtain ⟨iM, hffM⟩ := Y.msg
  obtain ⟨tyC, dC, hdC, hdnC⟩ := Cond.laysAt hfound hk Y.cause (a' (.lays xE2 Bundle.tN "cause" "Ljava/lang/Throwable;") (by simp [x_tail]))
  obtain ⟨tyS, dS, hdS, hdnS⟩ := Cond.laysAt hfound hk Y.stack (a' (.lays xE2 Bundle.tN "stackTrace" Bundle.steD) (by simp [x_tail]))
  obtain ⟨tyP, dP, hdP, hdnP⟩ := Cond.laysAt hfound hk Y.supp (a' (.lays xE2 Bundle.tN "suppressedExceptions" Bundle.listD) (by simp [x_tail]))
  obtain ⟨tyM, dM, hdM, hdnM⟩ := Cond.laysAt hfound hk hffM (a' (.lays xE2 Bundle.tN "detailMessage" "Ljava/lang/String;") (by simp [x_tail]))
  obtain ⟨tyB, dB, hdB, hdnB⟩ := Cond.laysAt hfound hk hffB (a' (.lays xE2 Bundle.tN "backtrace" "Ljava/lang/Object;") (by simp [x_tail]))
  have bC := Cond.laysApart hdB hdC hdnB hdnC (by rw [hnB, Y.causeName]; decide)
  have bS := Cond.laysApart hdB hdS hdnB hdnS (by rw [hnB, Y.stackName]; decide)
  have bP := Cond.laysApart hdB hdP hdnB hdnP (by rw [hnB, Y.suppName]; decide)
  have hskip : SkipFacts T e.platform s (fun u => u) u0 ((preparedCellV T.toThrowableT (freshCell P1.m.cls kX) a u0 sen).withEntry W9.cur) :=
    ⟨{ ci198 := ci198, i198 := i198, fBack := fB }, ⟨hk198, hg198, ha198, hsB⟩, by
      have := fresh_default (c := P1.m.cls) tyB
      rw [htB] at this
      simpa [preparedCellV, Cell.setSlot, Cell.withEntry, Array.getElem?_setIfInBounds, bC, bS, bP, bC.symm, bS.symm, bP.symm, defaultValue] using this, fun _ _ => rfl⟩
  obtain ⟨tm, methC, cdC, kC, vm₁, hnC, -, -, -, -, -, -, -, hW₁, st1⟩ := Steps.initColdS (tb := p.tables) (e := e) (below := below) (s := s) (U := W9) X.here hexec X.warmed hpl hown (t := Bundle.initS xE2) rfl rfl (by decide +kernel)
    (a' (.methodLink RX9 175 (Bundle.initS xE2)) (by simp [x_tail])) (h (.instanceMethod (Bundle.initS xE2)) (x_in_p (by simp [Bundle.passSAtoms]))) (bytes := x_nb) (maxL := 2) (h (.code (Bundle.initS xE2) x_nb 2 none) (x_in_p (by simp [Bundle.passSAtoms])))
    (f := g) hg (a := a) (msg := msg) (rest := .ref a :: rest) hstack hd6
  cases Option.some.inj (hnC.symm.trans hP1m)
  have X₁ := X.noted hW₁
  obtain ⟨vm₂, X₂, st2⟩ := X₁.ctorMessageOffV hexec (g := { g with stack := .ref a :: rest }) hg hsize T L Z LZ M LM (P1 :: P2 :: Ps)
    (fun P hP => by
      rcases List.mem_cons.mp hP with rfl | hP
      · exact L1
      · rcases List.mem_cons.mp hP with rfl | hP
        · exact L2
        · exact hL P hP) ⟨hsup, hlink2, hlink⟩ (u0 := u0) (sen := sen) (self := a) hmsg (cell := freshCell P1.m.cls kX) (cellS := cellS)
    hcell (fun _ => by simp) (by simp) rfl rfl hsel0 hselF hcellS hneS hknownS (by rw [hkeep _ (by simp)]; exact hu0) (by rw [hkeep _ (by simp)]; exact hsen)
    (Takes.of_laid hk hord tyC (by rw [Y.causeType]; rfl)) (Takes.of_laid hk hord tyS (by rw [Y.stackType]; exact fits_refV_array _ u0)) (Takes.of_laid hk hord tyP (by rw [Y.suppType]; exact fits_refV_object _ sen))
    (Takes.of_laid hk hord tyM (by rw [Y.msgType]; exact fits_refV_object _ ⟨msg, hmsg⟩)) Y.objLocals hskip htr [] hd6
    (by simp only [List.length_cons, hlen]; simp; omega) (by simp only [List.length_cons, hlen]; simpa using hRlocals)
  obtain ⟨hwalk, hrun, hended, hWU, hsame⟩ := X₂.athrowLeaves hexec (g := { g with stack := .ref a :: rest, pc := g.pc + 3 }) hg hlocked hentered hout (a := a) (rest := rest) rfl hd9
  have hlt : a < ((W9.setVm vm₁).setVm vm₂).heap.size := (Array.getElem?_eq_some_iff.mp hcell).1
  have hU := heapAt_setCell_self (s := (W9.setVm vm₁).setVm vm₂) (plainBareV T.toThrowableT (freshCell P1.m.cls kX) a u0 sen msg) hlt
  refine ⟨_, st1 _ (fun acts => ?_), hrun, hended, hWU, hsame.weaken (fun y hy hlt' => ?_) (Nat.le_refl _) (Nat.le_refl _), _, hU, rfl, hfound⟩
  · rw [doInvoke_state]
    exact st2 _ hwalk
  · rcases List.mem_append.mp hy with h1 | h1
    · exact h1
    · exfalso
      have hb : y.base = a := by
        simp only [List.mem_cons, List.not_mem_nil, or_false] at h1
        rcases h1 with rfl | rfl | rfl | rfl | rfl <;> rfl
      rw [hb] at hlt'
      exact Nat.not_lt.mpr hnew hlt'
end XCTOR
def x_no : List Cond := x_all.filter vx_no
theorem x_bad2 : ∀ w ∈ x_no.filter (fun w => !goodWord w), w ∈ xB := by decide +kernel
theorem x_ot2 : ∀ w ∈ Cond.classLink RX9 171 xE2 :: Cond.initialized xE2 :: x_no, vx_ot w = true := by decide +kernel
theorem x_in2 : ∀ w ∈ x_no.filter goodWord, w ∈ wsQ := by decide +kernel
/-- what throwing stands on, beyond the words -/
def q_XS (A : Nat → Prop) (U : State) (H : Heap) : Prop := (∀ w ∈ xB, va_Nw w U) ∧ vx_Zq Bundle.tN "UNASSIGNED_STACK" Bundle.steD A U H ∧ vx_Zq Bundle.tN "SUPPRESSED_SENTINEL" Bundle.listD A U H ∧ (∃ sa, vk_R RX9 144 "no such soul" sa U) ∧ (∃ sa, vk_R RX9 173 "no such what" sa U) ∧ va_Nc xE2 xE1 U
theorem x_warm {s U : State} (hW : s.WarmedH U.vm) (h : ∀ w ∈ xB, va_Nw w s) : ∀ w ∈ xB, va_Nw w U := by
  intro w hw
  have h1 := h w hw
  unfold xB at hw
  simp only [List.mem_cons, List.not_mem_nil, or_false] at hw
  rcases hw with rfl | rfl | rfl | rfl | rfl
  · exact va_Nw.warmC hW h1
  · exact va_Nw.warmC hW h1
  · exact va_Nw.warmD hW h1
  · exact va_Nw.warmD hW h1
  · exact va_Nw.warmD hW h1
theorem q_XS.moved {A : Nat → Prop} {s U : State} {H H1 : Heap} (h : q_XS A s H) (hW : s.WarmedH U.vm) (hk : ∀ q : Nat, q < H.size → ¬ A q → H1[q]? = H[q]?) : q_XS A U H1 := by
  obtain ⟨h1, h2, h3, ⟨a, h4⟩, ⟨b, h5⟩, h6⟩ := h
  exact ⟨x_warm hW h1, (vx_Zq.moved hW.alike h2).kept hk, (vx_Zq.moved hW.alike h3).kept hk, ⟨a, h4.warm hW⟩, ⟨b, h5.warm hW⟩, va_Nc.moved hW.alike h6⟩
theorem q_XS.same {A : Nat → Prop} {s U : State} {H : Heap} (h : q_XS A s H) (hv : s.vm = U.vm) : q_XS A U H := by
  obtain ⟨h1, h2, h3, ⟨a, h4⟩, ⟨b, h5⟩, h6⟩ := h
  have ha : s.vm.Alike U.vm := by rw [← hv]; exact Vm.Alike.refl _
  refine ⟨fun w hw => ?_, vx_Zq.moved ha h2, vx_Zq.moved ha h3, ⟨a, vk_R.same hv.symm h4⟩, ⟨b, vk_R.same hv.symm h5⟩, va_Nc.moved ha h6⟩
  have hw1 := h1 w hw
  unfold xB at hw
  simp only [List.mem_cons, List.not_mem_nil, or_false] at hw
  rcases hw with rfl | rfl | rfl | rfl | rfl <;> exact va_Nw.same rfl hv hw1
theorem q_XS.narrow {A B : Nat → Prop} {U : State} {H : Heap} (h : q_XS A U H) (hAB : ∀ q, B q → A q) : q_XS B U H := ⟨h.1, h.2.1.narrow hAB, h.2.2.1.narrow hAB, h.2.2.2⟩
def xQ (D : va_G) (ad : Nat → Nat) (cA : Nat → ClassId) (k0 r0 : Int) (M : Mem) : Array Value → State → Outcome → State → Prop := fun _ st oc t => k0 = 0 ∧ oc = .returned (some (.int (qI r0))) ∧ q_P syC D ad cA M t.heap ∧ tyC M ∧ va_F (q_A syC ad) st t
def xX (D : va_G) (ad : Nat → Nat) (cA : Nat → ClassId) (k0 : Int) (M : Mem) : String → State → State → Prop := fun E st t => ((k0 = 1 ∧ E = xE1) ∨ (k0 = 2 ∧ E = xE2)) ∧ q_P syC D ad cA M t.heap ∧ tyC M ∧ va_F (q_A syC ad) st t
section QSOUL
variable {p : Program} {l : Launch} {e : Env} {s : State} {m : MethodId} {args : Array Value} {below : List Frame} {meth : Method} {c : Code} {D : va_G} {ad : Nat → Nat} {cA : Nat → ClassId} {M : Mem} {pc : Nat} {L : List (Nat × Value)} {k0 r0 : Int}
abbrev rx_soul : Room := { frames := 7, cells := 1, slots := 6, locals := 120 }
theorem r_iretx (C : Cx syC p m c cX9_soul 3 s args RX9 D ad cA) {v : Int} (hr : meth.sig.returnType = some .int) (hlk : meth.locks = false) (d : decode cX9_soul pc = .ok (.ireturn, 1)) (h : some ((0 : Int), v) = some (k0, r0)) : WM syC p l e rx_soul s m args below meth c 3 D ad cA (vx_MQ below (xQ D ad cA k0 r0 M) (xX D ad cA k0 M) args s 1 6 (q_A syC ad)) M pc L [.int (qI v)] := by
  cases h
  intro H locs ls hP hT hS hl
  refine W.widen (k := 1) (n := 6) (by omega) (by omega) ?_
  exact vx_ret (W.iret C.1.1 C.1.2.1 hr (fun t ht hW => ⟨rfl, rfl, by rw [ht]; exact hP, hT, hS.F ht⟩) hS.2.2 d hlk)
theorem r_thr1 (C : Cx syC p m c cX9_soul 3 s args RX9 D ad cA) (hst : l.stackTraces = false) (htb : ∀ x ∈ c.exceptionTable.toList, False) (hxs : q_XS (q_A syC ad) s s.heap) (d0 : decode cX9_soul pc = .ok (.new 142, 3)) (d3 : decode cX9_soul (pc + 3) = .ok (.dup, 1)) (d4 : decode cX9_soul (pc + 4) = .ok (.ldc 144, 2)) (d6 : decode cX9_soul (pc + 6) = .ok (.invokespecial 146, 3)) (d9 : decode cX9_soul (pc + 9) = .ok (.athrow, 1)) (hlk : meth.locks = false) (h : some ((1 : Int), (0 : Int)) = some (k0, r0)) : WM syC p l e rx_soul s m args below meth c 3 D ad cA (vx_MQ below (xQ D ad cA k0 r0 M) (xX D ad cA k0 M) args s 1 6 (q_A syC ad)) M pc L [] := by
  cases h
  intro H locs ls hP hT hS hl
  obtain ⟨sa, hstr⟩ := hxs.2.2.2.1
  refine vx_throwS (names := xnm) (A := q_A syC ad) C.1.1 C.1.2.1 hst C.1.2.2.2.1 x_fit.1 x_fit.2.2 (C.1.2.2.2.2 _ tk_E1) (C.1.2.2.2.2 _ tn_E1) hstr (vx_hat (fun w hw => C.1.2.2.2.2 _ (x_in1 w hw)) x_bad1 (fun w hw => ?_)) x_ot1 hxs.2.1 hxs.2.2.1 hS (hl.1.trans C.1.2.2.1.symm) d0 d3 d4 d6 d9 (fun x hx => (htb x hx).elim) (Nat.le_of_ble_eq_true rfl) (Nat.le_of_ble_eq_true rfl) (Nat.le_of_ble_eq_true rfl) (Nat.le_of_ble_eq_true rfl) hlk (fun t ha hz hk => ?_) hS.2.2 (Nat.le_refl _) (Nat.le_refl _)
  · have h9 := hxs.1 w hw
    unfold xB at hw
    simp only [List.mem_cons, List.not_mem_nil, or_false] at hw
    rcases hw with rfl | rfl | rfl | rfl | rfl <;> exact va_Nw.use rfl h9
  · exact ⟨Or.inl ⟨rfl, rfl⟩, fun n hn => (hP n hn).kept (hk _ (hP n hn).lt), hT, Nat.le_trans hS.1 hz, fun q h1 h2 => by rw [hk q (Nat.lt_of_lt_of_le h1 hS.1)]; exact hS.2.1 q h1 h2⟩
theorem r_thr2 (C : Cx syC p m c cX9_soul 3 s args RX9 D ad cA) (hst : l.stackTraces = false) (htb : ∀ x ∈ c.exceptionTable.toList, False) (hxs : q_XS (q_A syC ad) s s.heap) (d0 : decode cX9_soul pc = .ok (.new 171, 3)) (d3 : decode cX9_soul (pc + 3) = .ok (.dup, 1)) (d4 : decode cX9_soul (pc + 4) = .ok (.ldc 173, 2)) (d6 : decode cX9_soul (pc + 6) = .ok (.invokespecial 175, 3)) (d9 : decode cX9_soul (pc + 9) = .ok (.athrow, 1)) (hlk : meth.locks = false) (h : some ((2 : Int), (0 : Int)) = some (k0, r0)) : WM syC p l e rx_soul s m args below meth c 3 D ad cA (vx_MQ below (xQ D ad cA k0 r0 M) (xX D ad cA k0 M) args s 1 6 (q_A syC ad)) M pc L [] := by
  cases h
  intro H locs ls hP hT hS hl T hTH X
  obtain ⟨sa, hstr⟩ := hxs.2.2.2.2.1
  have htr : e.platform.stackTraces = false := (show e.platform.stackTraces = l.stackTraces by rw [X.admits.platform]).trans hst
  have Y := vx_rebase X (R' := { frames := 7, locals := 120, cells := 1, slots := 6 }) (Nat.le_refl _) (Nat.le_refl _) (Nat.le_of_ble_eq_true rfl) (Nat.le_of_ble_eq_true rfl)
  obtain ⟨s', hA⟩ : ∃ z, z = (T.setVm s.vm).setFrames (.invoking m args :: below) := ⟨_, rfl⟩
  rw [← hA] at Y
  have hvm : s'.vm = s.vm := by rw [hA]; rfl
  have hhp : s'.heap = H := by rw [hA]; exact hTH
  have hW0 : s.WarmedH s'.vm := by rw [hvm]; exact State.WarmedH.refl s
  have hat : ∀ w ∈ x_no, w.before args s = true := vx_hat (fun w hw => C.1.2.2.2.2 _ (x_in2 w hw)) x_bad2 (fun w hw => by
    have h9 := hxs.1 w hw
    unfold xB at hw
    simp only [List.mem_cons, List.not_mem_nil, or_false] at hw
    rcases hw with rfl | rfl | rfl | rfl | rfl <;> exact va_Nw.use rfl h9)
  have hat' : ∀ w ∈ x_no, w.before args s' = true := fun w hw => vx_ot_at hW0 hvm.symm (x_ot2 w (List.mem_cons_of_mem _ (List.mem_cons_of_mem _ hw))) (hat w hw)
  have hk' : (Cond.classLink RX9 171 xE2).before args s' = true := vx_ot_at hW0 hvm.symm (x_ot2 _ List.mem_cons_self) (C.1.2.2.2.2 _ tk_E2)
  have hini' : (Cond.initialized xE2).before args s' = true := vx_ot_at hW0 hvm.symm (x_ot2 _ (List.mem_cons_of_mem _ List.mem_cons_self)) (C.1.2.2.2.2 _ tn_E2)
  have hU' : vx_Zq Bundle.tN "UNASSIGNED_STACK" Bundle.steD (q_A syC ad) s' s'.heap := by rw [hhp]; exact vx_Zq.moved hW0.alike (hxs.2.1.kept hS.2.1)
  have hN' : vx_Zq Bundle.tN "SUPPRESSED_SENTINEL" Bundle.listD (q_A syC ad) s' s'.heap := by rw [hhp]; exact vx_Zq.moved hW0.alike (hxs.2.2.1.kept hS.2.1)
  have hh : ∀ w ∈ x_all, w.before args s' = true := vx_own hat' (vx_isRefq hU'.1) (vx_isRefq hN'.1) hU'.2.word hN'.2.word
  have hown' : s'.vm.findClass RX9 = some m.cls := by rw [hvm]; exact C.1.2.2.2.1
  have hins : (Cond.instantiable xE2 6).before args s' = true := hh _ (x_in_t (by simp [x_tail]))
  obtain ⟨vm₁, cX, kX, hfX, hkX, -, -, X₁, st1⟩ := Y.newCold C.1.1 (own := RX9) (C := xE2) (index := 171) (n := 6) hown' hk' hins hini'
    (g := F0 m pc ls []) rfl (by rw [C.1.2.1]; exact d0) (Nat.le_refl _) (Nat.le_refl _)
  generalize hT1 : (T.setVm vm₁).pushCell { cls := cX, slots := kX.instanceTypes.map defaultValue, vm := .none } = T1 at X₁ st1
  have hcat : (Value.ref T.heap.size).category = 1 := rfl
  have hcellA : T1.heap[T.heap.size]? = some (freshCell cX kX) := by rw [← hT1]; exact State.heap_pushCell_size _ _
  have d3' : decode c.code (pc + 3) = .ok (.dup, 1) := by rw [C.1.2.1]; exact d3
  have d4' : decode c.code (pc + 4) = .ok (.ldc 173, 2) := by rw [C.1.2.1]; exact d4
  have hstr' : vk_R RX9 173 "no such what" sa s' := vk_R.warm hW0 hstr
  obtain ⟨U, hsteps, hrun, hend, hW, hsame, ce, hce, hcv, hcc⟩ := x_ctor X₁ C.1.1 htr hown' hh hfX hkX hcellA (by rw [hhp, hTH]; exact Nat.le_refl _) (msg := .ref sa) rfl
    (g := { method := m, pc := pc + 6, locals := ls, stack := .ref sa :: .ref T.heap.size :: .ref T.heap.size :: [], locked := none }) rfl (hl.1.trans C.1.2.2.1.symm) rfl rfl (rest := []) rfl
    (by rw [C.1.2.1]; exact d6) (by rw [C.1.2.1]; exact d9) (fun x hx => (htb x hx).elim) (Nat.le_of_ble_eq_true rfl) (Nat.le_of_ble_eq_true rfl) hlk
  obtain ⟨f1, f2⟩ := vx_frame hsame
  rw [hhp] at f1 f2
  have hWs : s.WarmedH U.vm := State.WarmedH.trans hW0 hW
  have hcl : s.vm.findClass xE2 = some ce.cls := by rw [hvm] at hcc; exact hcc
  have hall : s.sameButNew ({ U with vm := s.vm } : State) locs 1 6 := by
    subst hA
    obtain ⟨e1, e2⟩ := hsame
    rw [State.setFrames_setFrames] at e1
    have h2 : (T.setVm s.vm).sameButNew ({ U with vm := s.vm } : State) [] (0 + 1) (0 + 6) := ⟨e1, e2⟩
    have h3 := X.same.trans h2
    rw [List.append_nil] at h3
    exact h3.mono (Nat.le_refl _) (Nat.le_refl _)
  have hkp : ∀ q : Nat, q < H.size → U.heap[q]? = H[q]? := fun q hq => f2 q hq (fun z hz => nomatch hz)
  refine ⟨U, ?_, .threw T.heap.size, hrun, hend, Or.inr ⟨T.heap.size, rfl, xE2, ce, locs, ⟨Or.inr ⟨rfl, rfl⟩, fun n hn => (hP n hn).kept (hkp _ (hP n hn).lt), hT, Nat.le_trans hS.1 f1, fun q h1 h2 => by rw [hkp q (Nat.lt_of_lt_of_le h1 hS.1)]; exact hS.2.1 q h1 h2⟩, hce, hcv, hcl, hWs, hall, hS.2.2⟩⟩
  refine st1 _ ?_
  show Steps p.tables e below (T1.setTop { method := m, pc := pc + 3, locals := ls, stack := .ref T.heap.size :: [], locked := none }) _
  jvm_step X₁.here [X₁.here.top, C.1.1, d3', Value.category]
  exact X₁.ldcString C.1.1 (own := RX9) (text := "no such what") (index := 173) (a := sa) hown' hstr'.1 hstr'.2
    (g := { method := m, pc := pc + 4, locals := ls, stack := .ref T.heap.size :: .ref T.heap.size :: [], locked := none }) rfl d4' _ hsteps
end QSOUL
abbrev rm_X9_soul : Room := { frames := 7, cells := 1, slots := 6, locals := 120 }
theorem mw_X9_soul : q_mw RX9 yX9_soul cX9_soul 3 (some .int) 2 := ⟨⟨ti_X9_soul, tl_X9_soul, tn_RX9, td_X9_soul⟩, by decide +kernel⟩
def f_X9_soul (a0 a1 : Int) (M : Mem) : Option (Int × Int) :=
  q_calp (f_X9_isSoul a0 M) fun r1 =>
  if ¬ w32 r1 = 0 then (if w32 a1 = 0 then (q_al M 162 8 a0 fun v2 =>
  some (0, v2))
  else if w32 a1 = 1 then (q_gr M 0 3 fun t3 =>
  q_al M (32 * (t3 + 1) + 3) 8 a0 fun v4 =>
  some (0, v4))
  else if w32 a1 = 2 then (q_al M 163 8 a0 fun v5 =>
  some (0, v5))
  else if w32 a1 = 3 then (q_al M 164 8 a0 fun v6 =>
  some (0, v6))
  else if w32 a1 = 4 then (q_calp (f_X6_placeOf 4 a0 M) fun r7 =>
  some (0, r7))
  else if w32 a1 = 5 then (q_al M 165 8 a0 fun v8 =>
  some (0, v8))
  else if w32 a1 = 6 then (q_al M 162 8 a0 fun v9 =>
  if ¬ w32 v9 = w32 2 then (some (0, (-2)))
  else (q_al M 166 8 a0 fun v10 =>
  some (0, v10)))
  else if w32 a1 = 7 then (q_calp (f_X9_goneWith a0 M) fun r11 =>
  some (0, r11))
  else (some (2, 0)))
  else (some (1, 0))
theorem c_X9_soul {l : Launch} {D : va_G} {ad : Nat → Nat} {cA : Nat → ClassId} (hst : l.stackTraces = false) (hi : q_inj syC ad) (a0 a1 : Int) (M : Mem) (k0 r0 : Int) (h : f_X9_soul a0 a1 M = some (k0, r0)) : vx_Met l yX9_soul (q_ws yX9_soul cX9_soul 3 (some .int)) rm_X9_soul (va_Pc [.ref (ad 0), .int (qI a0), .int (qI a1)] (fun U => q_P syC D ad cA M U.heap ∧ tyC M ∧ va_K D vwCl (q_tys cA) U ∧ q_X (q_A syC ad) U U.heap ∧ q_XS (q_A syC ad) U U.heap)) (xQ D ad cA k0 r0 M) (xX D ad cA k0 M) 1 6 (q_A syC ad) := by
  refine vx_ofW (cc := cX9_soul) (maxL := 3) (ret := some .int) (by decide) rfl ?_
  intro p e s m args below meth c s₁ B hml htb hv
  obtain ⟨rfl, hP, hT, hK, hX, hxs⟩ := hv
  have hts := atoms_spec (ws := q_ws yX9_soul cX9_soul 3 (some .int)) B.pre
  have hown : s.vm.findClass RX9 = some m.cls := findClass_of_methodNamed B.named
  have C : Cx syC p m c cX9_soul 3 s ([.ref (ad 0), .int (qI a0), .int (qI a1)] : List Value).toArray RX9 D ad cA := ⟨⟨B.exec, B.bytes, hml, hown, fun w h => hts w (List.mem_cons_of_mem _ h)⟩, hK, hi, okC, hX⟩
  have hr := B.returns
  have hlk := B.notSynchronized
  have hl := lv_entry ([.ref (ad 0), .int (qI a0), .int (qI a1)] : List Value) (n := 3) (Nat.le_of_ble_eq_true rfl)
  rw [lg_entry_eq]
  have hW : WM syC p l e rm_X9_soul s m ([.ref (ad 0), .int (qI a0), .int (qI a1)] : List Value).toArray below meth c 3 D ad cA (vx_MQ below (xQ D ad cA k0 r0 M) (xX D ad cA k0 M) ([.ref (ad 0), .int (qI a0), .int (qI a1)] : List Value).toArray s 1 6 (q_A syC ad)) M 0 [(0, .ref (ad 0)), (1, .int (qI a0)), (2, .int (qI a1))] [] := by
    unfold f_X9_soul at h
    refine r_aln C dX9_soul_0 (k := 0) rfl ?_
    refine r_iln C dX9_soul_1 (k := 1) rfl ?_
    obtain ⟨r1, hy, h⟩ := q_calp_some h
    refine r_cvi C (st := []) (c_X9_isSoul C.2.2.1 a0 M r1 hy) tm_RX9_138 mw_X9_isSoul ⟨rfl, rfl⟩ ⟨Nat.le_of_ble_eq_true rfl, Nat.le_of_ble_eq_true rfl⟩ kc_0 clX9 rfl rfl (Nat.le_of_ble_eq_true rfl) dX9_soul_2 ?_
    refine r_zne C (tgt := 18) dX9_soul_5 (by decide) h (fun h => ?_) (fun h => ?_)
    · refine r_iln C dX9_soul_18 (k := 2) rfl ?_
      refine r_tc C h (fun e h => ?_) (fun ne0 h => ?_)
      · refine r_tin C (tgt := 64) dX9_soul_19 e (by decide) rfl (by decide) ?_
        refine r_aln C dX9_soul_64 (k := 0) rfl ?_
        refine r_gs C kc_0 clX9 (f := 4) (by decide) rfl (t := 4) rfl tf_RX9_38 dX9_soul_65 ?_
        refine r_gs C kc_4 clX6 (f := 2) (by decide) rfl (t := 162) rfl tf_RX9_149 dX9_soul_68 ?_
        refine r_iln C dX9_soul_71 (k := 1) rfl ?_
        refine r_iald C kc_162 dX9_soul_72 h (fun v2 h => ?_)
        exact r_iretx C hr hlk dX9_soul_73 h
      refine r_tc C h (fun e h => ?_) (fun ne1 h => ?_)
      · refine r_tin C (tgt := 74) dX9_soul_19 e (by decide) rfl (by decide) ?_
        refine r_aln C dX9_soul_74 (k := 0) rfl ?_
        refine r_gr C kc_0 clX9 (f := 3) (fz := 3) (Pp := isT) (by decide) rfl rfl (fun q => q.1) tf_RX9_31 dX9_soul_75 h (fun t3 ht3 h => ?_)
        refine r_gs C (kT ht3) clX8 (f := 3) (by decide) rfl (t := (32 * (t3 + 1) + 3)) rfl tf_RX9_152 dX9_soul_78 ?_
        refine r_iln C dX9_soul_81 (k := 1) rfl ?_
        refine r_iald C (kT_3 ht3) dX9_soul_82 h (fun v4 h => ?_)
        exact r_iretx C hr hlk dX9_soul_83 h
      refine r_tc C h (fun e h => ?_) (fun ne2 h => ?_)
      · refine r_tin C (tgt := 84) dX9_soul_19 e (by decide) rfl (by decide) ?_
        refine r_aln C dX9_soul_84 (k := 0) rfl ?_
        refine r_gs C kc_0 clX9 (f := 4) (by decide) rfl (t := 4) rfl tf_RX9_38 dX9_soul_85 ?_
        refine r_gs C kc_4 clX6 (f := 3) (by decide) rfl (t := 163) rfl tf_RX9_155 dX9_soul_88 ?_
        refine r_iln C dX9_soul_91 (k := 1) rfl ?_
        refine r_iald C kc_163 dX9_soul_92 h (fun v5 h => ?_)
        exact r_iretx C hr hlk dX9_soul_93 h
      refine r_tc C h (fun e h => ?_) (fun ne3 h => ?_)
      · refine r_tin C (tgt := 94) dX9_soul_19 e (by decide) rfl (by decide) ?_
        refine r_aln C dX9_soul_94 (k := 0) rfl ?_
        refine r_gs C kc_0 clX9 (f := 4) (by decide) rfl (t := 4) rfl tf_RX9_38 dX9_soul_95 ?_
        refine r_gs C kc_4 clX6 (f := 4) (by decide) rfl (t := 164) rfl tf_RX9_156 dX9_soul_98 ?_
        refine r_iln C dX9_soul_101 (k := 1) rfl ?_
        refine r_iald C kc_164 dX9_soul_102 h (fun v6 h => ?_)
        exact r_iretx C hr hlk dX9_soul_103 h
      refine r_tc C h (fun e h => ?_) (fun ne4 h => ?_)
      · refine r_tin C (tgt := 104) dX9_soul_19 e (by decide) rfl (by decide) ?_
        refine r_aln C dX9_soul_104 (k := 0) rfl ?_
        refine r_gs C kc_0 clX9 (f := 4) (by decide) rfl (t := 4) rfl tf_RX9_38 dX9_soul_105 ?_
        refine r_iln C dX9_soul_108 (k := 1) rfl ?_
        obtain ⟨r7, hy, h⟩ := q_calp_some h
        refine r_cvi C (st := []) (c_X6_placeOf C.2.2.1 4 (by unfold isS; omega) a0 M r7 hy) tm_RX9_159 mw_X6_placeOf ⟨rfl, rfl⟩ ⟨Nat.le_of_ble_eq_true rfl, Nat.le_of_ble_eq_true rfl⟩ kc_4 clX6 rfl rfl (Nat.le_of_ble_eq_true rfl) dX9_soul_109 ?_
        exact r_iretx C hr hlk dX9_soul_112 h
      refine r_tc C h (fun e h => ?_) (fun ne5 h => ?_)
      · refine r_tin C (tgt := 113) dX9_soul_19 e (by decide) rfl (by decide) ?_
        refine r_aln C dX9_soul_113 (k := 0) rfl ?_
        refine r_gs C kc_0 clX9 (f := 4) (by decide) rfl (t := 4) rfl tf_RX9_38 dX9_soul_114 ?_
        refine r_gs C kc_4 clX6 (f := 5) (by decide) rfl (t := 165) rfl tf_RX9_162 dX9_soul_117 ?_
        refine r_iln C dX9_soul_120 (k := 1) rfl ?_
        refine r_iald C kc_165 dX9_soul_121 h (fun v8 h => ?_)
        exact r_iretx C hr hlk dX9_soul_122 h
      refine r_tc C h (fun e h => ?_) (fun ne6 h => ?_)
      · refine r_tin C (tgt := 123) dX9_soul_19 e (by decide) rfl (by decide) ?_
        refine r_aln C dX9_soul_123 (k := 0) rfl ?_
        refine r_gs C kc_0 clX9 (f := 4) (by decide) rfl (t := 4) rfl tf_RX9_38 dX9_soul_124 ?_
        refine r_gs C kc_4 clX6 (f := 2) (by decide) rfl (t := 162) rfl tf_RX9_149 dX9_soul_127 ?_
        refine r_iln C dX9_soul_130 (k := 1) rfl ?_
        refine r_iald C kc_162 dX9_soul_131 h (fun v9 h => ?_)
        refine r_ic C dX9_soul_132 ?_
        refine r_cne C (tgt := 148) dX9_soul_133 (by decide) h (fun h => ?_) (fun h => ?_)
        · refine r_bi C dX9_soul_148 (by decide) ?_
          exact r_iretx C hr hlk dX9_soul_150 h
        · refine r_aln C dX9_soul_136 (k := 0) rfl ?_
          refine r_gs C kc_0 clX9 (f := 4) (by decide) rfl (t := 4) rfl tf_RX9_38 dX9_soul_137 ?_
          refine r_gs C kc_4 clX6 (f := 6) (by decide) rfl (t := 166) rfl tf_RX9_165 dX9_soul_140 ?_
          refine r_iln C dX9_soul_143 (k := 1) rfl ?_
          refine r_iald C kc_166 dX9_soul_144 h (fun v10 h => ?_)
          refine r_goto C (tgt := 150) dX9_soul_145 (by decide) ?_
          exact r_iretx C hr hlk dX9_soul_150 h
      refine r_tc C h (fun e h => ?_) (fun ne7 h => ?_)
      · refine r_tin C (tgt := 151) dX9_soul_19 e (by decide) rfl (by decide) ?_
        refine r_aln C dX9_soul_151 (k := 0) rfl ?_
        refine r_iln C dX9_soul_152 (k := 1) rfl ?_
        obtain ⟨r11, hy, h⟩ := q_calp_some h
        refine r_cvi C (st := []) (c_X9_goneWith C.2.2.1 a0 M r11 hy) tm_RX9_168 mw_X9_goneWith ⟨rfl, rfl⟩ ⟨Nat.le_of_ble_eq_true rfl, Nat.le_of_ble_eq_true rfl⟩ kc_0 clX9 rfl rfl (Nat.le_of_ble_eq_true rfl) dX9_soul_153 ?_
        exact r_iretx C hr hlk dX9_soul_156 h
      refine r_tout C (tgt := 157) dX9_soul_19 (by omega) (by decide) ?_
      exact r_thr2 C hst htb hxs dX9_soul_157 dX9_soul_160 dX9_soul_161 dX9_soul_163 dX9_soul_166 hlk h
    · exact r_thr1 C hst htb hxs dX9_soul_8 dX9_soul_11 dX9_soul_12 dX9_soul_14 dX9_soul_17 hlk h
  exact hW s.heap [] _ hP hT va_S.rf hl
