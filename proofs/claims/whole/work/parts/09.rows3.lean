def q_ws (y : MethodName) (cc : ByteArray) (maxL : Nat) (ret : Option FieldType) : List Cond := Cond.code y cc maxL ret :: wsQ
def q_Pre (sy : Sys) (D : va_G) (ad : Nat → Nat) (cA : Nat → ClassId) (av : List Value) (M : Mem) : Array Value → State → Prop := va_Pc av (fun U => q_P sy D ad cA M U.heap ∧ sy.2.2 M ∧ va_K D vwCl (q_tys cA) U ∧ q_X (q_A sy ad) U U.heap)
def q_Post (sy : Sys) (D : va_G) (ad : Nat → Nat) (cA : Nat → ClassId) (rv : Option Value) (M : Mem) : Array Value → State → Outcome → State → Prop := fun _ st oc t => oc = .returned rv ∧ q_P sy D ad cA M t.heap ∧ sy.2.2 M ∧ va_F (q_A sy ad) st t
def q_Met (l : Launch) (sy : Sys) (D : va_G) (ad : Nat → Nat) (cA : Nat → ClassId) (y : MethodName) (cc : ByteArray) (maxL : Nat) (ret : Option FieldType) (rm : Room) (av : List Value) (M : Mem) (rv : Option Value) (M1 : Mem) : Prop := Met l y (q_ws y cc maxL ret) rm (q_Pre sy D ad cA av M) (q_Post sy D ad cA rv M1) 0 0 (q_A sy ad)
def q_mw (Cn : String) (y : MethodName) (bytes : ByteArray) (maxL : Nat) (ret : Option FieldType) (n : Nat) : Prop := (Cond.instanceMethod y ∈ wsQ ∧ Cond.selects Cn y y ∈ wsQ ∧ Cond.initialized Cn ∈ wsQ ∧ Cond.code y bytes maxL ret ∈ wsQ) ∧ (y.cls = Cn ∧ y.cls ≠ "java/lang/invoke/MethodHandle" ∧ y.cls ≠ "java/lang/invoke/VarHandle" ∧ (parseMethodDescriptor y.desc).map (fun d => d.parameters.length) = some n)
def q_ms (y : MethodName) (bytes : ByteArray) (maxL : Nat) (ret : Option FieldType) (n : Nat) : Prop := (Cond.static y ∈ wsQ ∧ Cond.initialized y.cls ∈ wsQ ∧ Cond.code y bytes maxL ret ∈ wsQ) ∧ (y.cls ≠ "java/lang/invoke/MethodHandle" ∧ y.cls ≠ "java/lang/invoke/VarHandle" ∧ (parseMethodDescriptor y.desc).map (fun d => d.parameters.length) = some n)
theorem q_call_some {α : Type} {o : Res} {K : Int → Mem → Option α} {RR : α} (h : q_call o K = some RR) : ∃ (r : Int) (M1 : Mem), o = some (r, M1) ∧ K r M1 = some RR := by
  cases o with
  | none => cases h
  | some x => exact ⟨x.1, x.2, rfl, h⟩
theorem q_calp_some {α : Type} {o : Option Int} {K : Int → Option α} {RR : α} (h : q_calp o K = some RR) : ∃ r : Int, o = some r ∧ K r = some RR := by
  cases o with
  | none => cases h
  | some x => exact ⟨x, rfl, h⟩
theorem q_goodN {maxL n : Nat} {y : MethodName} {bytes : ByteArray} {ret : Option FieldType} (mw : q_ms y bytes maxL ret n) : GoodIn wsQ (q_ws y bytes maxL ret) := by
  intro x hx
  have hm : x ∈ wsQ := by
    rcases List.mem_cons.mp hx with rfl | h
    · exact mw.1.2.2
    · exact h
  exact ⟨hm, wsQ_good x hm⟩
theorem q_goodV {own Cn : String} {idx maxL n : Nat} {y : MethodName} {bytes : ByteArray} {ret : Option FieldType} (w : Cond.methodLink own idx y ∈ wsQ) (mw : q_mw Cn y bytes maxL ret n) : GoodIn wsQ (wsV own idx Cn y (q_ws y bytes maxL ret)) := by
  intro x hx
  have hm : x ∈ wsQ := by
    unfold wsV q_ws at hx
    simp only [List.cons_append, List.nil_append, List.mem_cons] at hx
    rcases hx with rfl | rfl | rfl | rfl | rfl | h
    · exact w
    · exact mw.1.1
    · exact mw.1.2.1
    · exact mw.1.2.2.1
    · exact mw.1.2.2.2
    · exact h
  exact ⟨hm, wsQ_good x hm⟩
theorem q_goodS {own : String} {idx maxL n : Nat} {y : MethodName} {bytes : ByteArray} {ret : Option FieldType} (w : Cond.methodLink own idx y ∈ wsQ) (mw : q_ms y bytes maxL ret n) : GoodIn wsQ (va_wsS own idx y (q_ws y bytes maxL ret)) := by
  intro x hx
  have hm : x ∈ wsQ := by
    unfold va_wsS q_ws at hx
    simp only [List.cons_append, List.nil_append, List.mem_cons] at hx
    rcases hx with rfl | rfl | rfl | rfl | h
    · exact w
    · exact mw.1.1
    · exact mw.1.2.1
    · exact mw.1.2.2
    · exact h
  exact ⟨hm, wsQ_good x hm⟩
section QROWS3
variable {sy : Sys} {p : Program} {l : Launch} {e : Env} {R : Room} {s : State} {m : MethodId} {args : Array Value} {below : List Frame} {meth : Method} {c : Code} {cc : ByteArray} {nL : Nat} {own : String} {D : va_G} {ad : Nat → Nat} {cA : Nat → ClassId} {Q : State → Prop} {M : Mem} {pc : Nat} {L : List (Nat × Value)} {st : List Value} {α : Type} {RR : α}
theorem q_blind {av : List Value} : FrameBlind (q_Pre sy D ad cA av M) := fun a U g mk q => by
  obtain ⟨q0, qP, qT, qK, qX⟩ := q
  exact ⟨q0, qP, qT, va_K.moved (u := U) (U := U.calling g mk a) (Vm.Alike.refl U.vm) qK, q_X.same (s := U) (U := U.calling g mk a) qX rfl⟩
theorem q_run (C : Cx sy p m c cc nL s args own D ad cA) {st0 : List Value} {a : Array Value} {rv : Option Value} {M1 : Mem} {H : Heap} {locs : List Loc} {ls : Array Slot} (hS : va_S (q_A sy ad) s.heap H locs) (hl : lv_has ls nL L) (hr : va_Run p l e R s m args below meth c H locs 0 0 0 0 (F0 m pc ls st0) st (q_Post sy D ad cA rv M1 a) (q_A sy ad)) (kk : WM sy p l e R s m args below meth c nL D ad cA Q M1 (pc + 3) L (rv.toList ++ st)) : W p l e R s m args below meth c H locs 0 0 Q (F0 m pc ls st0) := by
  intro T hT X
  obtain ⟨v, st₀, t, T', L2, h0, X', hL, e1, e2, ⟨hv, hP1, hT1, hz, hk⟩, stp⟩ := hr T hT X
  cases hv
  rw [h0] at hz hk
  have hS1 : va_S (q_A sy ad) s.heap T'.heap (locs ++ L2) := ⟨Nat.le_trans hS.1 (by rw [e1]; exact hz), fun q h1 h2 => by rw [e1, hk q (Nat.lt_of_lt_of_le h1 hS.1) h2]; exact hS.2.1 q h1 h2, fun q hq => by
      rcases List.mem_append.mp hq with h | h
      · exact hS.2.2 q h
      · exact hL q h⟩
  obtain ⟨t2, a1, b1⟩ := kk T'.heap (locs ++ L2) ls (by rw [e1]; exact hP1) hT1 hS1 hl T' rfl X'
  exact ⟨t2, stp t2 a1, b1⟩
theorem r_cvi (C : Cx sy p m c cc nL s args own D ad cA) {y : MethodName} {bytes : ByteArray} {maxL : Nat} {ret : Option FieldType} {rm : Room} {As : List Value} {n ci N na idx : Nat} {Cn : String} {T : u_T} {r : Int} {M1 : Mem} {stk : List Value} (hM : q_Met l sy D ad cA y bytes maxL ret rm (.ref (ad n) :: As) M (some (.int (qI r))) M1) (w : Cond.methodLink own idx y ∈ wsQ) (mw : q_mw Cn y bytes maxL ret na) (hr0 : rm.cells = 0 ∧ rm.slots = 0) (hR : rm.frames + 1 ≤ R.frames ∧ 8 + (maxL + 11) + rm.locals ≤ R.locals) (hk : sy.1 n = (1, ci)) (hc : q_cl ci Cn T N) (hn : As.length = na) (hstk : stk = As.reverse ++ .ref (ad n) :: st) (hW : (st.map fun v => v.category).sum ≤ 8) (d : decode cc pc = .ok (.invokevirtual idx, 3)) (kk : WM sy p l e R s m args below meth c nL D ad cA Q M1 (pc + 3) L (.int (qI r) :: st)) : WM sy p l e R s m args below meth c nL D ad cA Q M pc L stk := by
  subst hstk
  intro H locs ls hP hT hS hl
  have hv := hP n (by rw [hk]; exact Nat.one_ne_zero)
  rw [q_ent_obj hk hc.1] at hv
  exact q_run C hS hl (va_runV (As := As) (rest := st) C.1 hM (cwV na C.1.2.2.2.2 (q_goodV w mw) rfl hr0.1 hr0.2 mw.2 hR) ⟨q_blind, va_recv C.2.1 (q_one hv) (ci := ci) (q0 := 0) hc.1 rfl, fun U hU hW => ⟨rfl, by rw [hU]; exact hP, hT, va_K.moved hW.alike C.2.1, by rw [hU]; exact C.2.2.2.2.moved hW hS.2.1⟩⟩ rfl hn hl.1 rfl (lv_room hW) d ⟨Nat.zero_le _, Nat.zero_le _⟩) kk
theorem r_csi (C : Cx sy p m c cc nL s args own D ad cA) {y : MethodName} {bytes : ByteArray} {maxL : Nat} {ret : Option FieldType} {rm : Room} {As : List Value} {na idx : Nat} {r : Int} {M1 : Mem} {stk : List Value} (hM : q_Met l sy D ad cA y bytes maxL ret rm As M (some (.int (qI r))) M1) (w : Cond.methodLink own idx y ∈ wsQ) (mw : q_ms y bytes maxL ret na) (hr0 : rm.cells = 0 ∧ rm.slots = 0) (hR : rm.frames + 1 ≤ R.frames ∧ 8 + (maxL + 11) + rm.locals ≤ R.locals) (hn : As.length = na) (hstk : stk = As.reverse ++ st) (hW : (st.map fun v => v.category).sum ≤ 8) (d : decode cc pc = .ok (.invokestatic idx, 3)) (kk : WM sy p l e R s m args below meth c nL D ad cA Q M1 (pc + 3) L (.int (qI r) :: st)) : WM sy p l e R s m args below meth c nL D ad cA Q M pc L stk := by
  subst hstk
  intro H locs ls hP hT hS hl
  exact q_run C hS hl (va_runS (As := As) (rest := st) C.1 hM (va_cwS na C.1.2.2.2.2 (q_goodS w mw) rfl hr0.1 hr0.2 mw.2 hR) ⟨q_blind, fun U hU hW => ⟨rfl, by rw [hU]; exact hP, hT, va_K.moved hW.alike C.2.1, by rw [hU]; exact C.2.2.2.2.moved hW hS.2.1⟩⟩ rfl hn hl.1 rfl (lv_room hW) d ⟨Nat.zero_le _, Nat.zero_le _⟩) kk
theorem r_cni (C : Cx sy p m c cc nL s args own D ad cA) {y : MethodName} {bytes : ByteArray} {maxL : Nat} {ret : Option FieldType} {rm : Room} {As : List Value} {na idx : Nat} {host : String} {r : Int} {M1 : Mem} {stk : List Value} (hM : q_Met l sy D ad cA y bytes maxL ret rm As M (some (.int (qI r))) M1) (w : q_nest (Cond.methodLinkNest own idx y host)) (mw : q_ms y bytes maxL ret na) (hr0 : rm.cells = 0 ∧ rm.slots = 0) (hR : rm.frames + 1 ≤ R.frames ∧ 8 + (maxL + 11) + rm.locals ≤ R.locals) (hn : As.length = na) (hstk : stk = As.reverse ++ st) (hW : (st.map fun v => v.category).sum ≤ 8) (d : decode cc pc = .ok (.invokestatic idx, 3)) (kk : WM sy p l e R s m args below meth c nL D ad cA Q M1 (pc + 3) L (.int (qI r) :: st)) : WM sy p l e R s m args below meth c nL D ad cA Q M pc L stk := by
  subst hstk
  intro H locs ls hP hT hS hl
  exact q_run C hS hl (va_runSN (As := As) (rest := st) C.1 hM ⟨va_cnB na C.1.2.2.2.2 (q_goodN mw) rfl hr0.1 hr0.2 (C.2.2.2.2.1 _ w) (C.1.2.2.2.2 _ mw.1.2.1) mw.2 hR, C.1.2.2.2.2 _ mw.1.1, trivial⟩ ⟨q_blind, fun U hU hW => ⟨rfl, by rw [hU]; exact hP, hT, va_K.moved hW.alike C.2.1, by rw [hU]; exact C.2.2.2.2.moved hW hS.2.1⟩⟩ rfl hn hl.1 rfl (lv_room hW) d ⟨Nat.zero_le _, Nat.zero_le _⟩) kk
theorem r_cvl (C : Cx sy p m c cc nL s args own D ad cA) {y : MethodName} {bytes : ByteArray} {maxL : Nat} {ret : Option FieldType} {rm : Room} {As : List Value} {n ci N na idx : Nat} {Cn : String} {T : u_T} {r : Int} {M1 : Mem} {stk : List Value} (hM : q_Met l sy D ad cA y bytes maxL ret rm (.ref (ad n) :: As) M (some (.long (qJ r))) M1) (w : Cond.methodLink own idx y ∈ wsQ) (mw : q_mw Cn y bytes maxL ret na) (hr0 : rm.cells = 0 ∧ rm.slots = 0) (hR : rm.frames + 1 ≤ R.frames ∧ 8 + (maxL + 11) + rm.locals ≤ R.locals) (hk : sy.1 n = (1, ci)) (hc : q_cl ci Cn T N) (hn : As.length = na) (hstk : stk = As.reverse ++ .ref (ad n) :: st) (hW : (st.map fun v => v.category).sum ≤ 8) (d : decode cc pc = .ok (.invokevirtual idx, 3)) (kk : WM sy p l e R s m args below meth c nL D ad cA Q M1 (pc + 3) L (.long (qJ r) :: st)) : WM sy p l e R s m args below meth c nL D ad cA Q M pc L stk := by
  subst hstk
  intro H locs ls hP hT hS hl
  have hv := hP n (by rw [hk]; exact Nat.one_ne_zero)
  rw [q_ent_obj hk hc.1] at hv
  exact q_run C hS hl (va_runV (As := As) (rest := st) C.1 hM (cwV na C.1.2.2.2.2 (q_goodV w mw) rfl hr0.1 hr0.2 mw.2 hR) ⟨q_blind, va_recv C.2.1 (q_one hv) (ci := ci) (q0 := 0) hc.1 rfl, fun U hU hW => ⟨rfl, by rw [hU]; exact hP, hT, va_K.moved hW.alike C.2.1, by rw [hU]; exact C.2.2.2.2.moved hW hS.2.1⟩⟩ rfl hn hl.1 rfl (lv_room hW) d ⟨Nat.zero_le _, Nat.zero_le _⟩) kk
theorem r_csl (C : Cx sy p m c cc nL s args own D ad cA) {y : MethodName} {bytes : ByteArray} {maxL : Nat} {ret : Option FieldType} {rm : Room} {As : List Value} {na idx : Nat} {r : Int} {M1 : Mem} {stk : List Value} (hM : q_Met l sy D ad cA y bytes maxL ret rm As M (some (.long (qJ r))) M1) (w : Cond.methodLink own idx y ∈ wsQ) (mw : q_ms y bytes maxL ret na) (hr0 : rm.cells = 0 ∧ rm.slots = 0) (hR : rm.frames + 1 ≤ R.frames ∧ 8 + (maxL + 11) + rm.locals ≤ R.locals) (hn : As.length = na) (hstk : stk = As.reverse ++ st) (hW : (st.map fun v => v.category).sum ≤ 8) (d : decode cc pc = .ok (.invokestatic idx, 3)) (kk : WM sy p l e R s m args below meth c nL D ad cA Q M1 (pc + 3) L (.long (qJ r) :: st)) : WM sy p l e R s m args below meth c nL D ad cA Q M pc L stk := by
  subst hstk
  intro H locs ls hP hT hS hl
  exact q_run C hS hl (va_runS (As := As) (rest := st) C.1 hM (va_cwS na C.1.2.2.2.2 (q_goodS w mw) rfl hr0.1 hr0.2 mw.2 hR) ⟨q_blind, fun U hU hW => ⟨rfl, by rw [hU]; exact hP, hT, va_K.moved hW.alike C.2.1, by rw [hU]; exact C.2.2.2.2.moved hW hS.2.1⟩⟩ rfl hn hl.1 rfl (lv_room hW) d ⟨Nat.zero_le _, Nat.zero_le _⟩) kk
theorem r_cnl (C : Cx sy p m c cc nL s args own D ad cA) {y : MethodName} {bytes : ByteArray} {maxL : Nat} {ret : Option FieldType} {rm : Room} {As : List Value} {na idx : Nat} {host : String} {r : Int} {M1 : Mem} {stk : List Value} (hM : q_Met l sy D ad cA y bytes maxL ret rm As M (some (.long (qJ r))) M1) (w : q_nest (Cond.methodLinkNest own idx y host)) (mw : q_ms y bytes maxL ret na) (hr0 : rm.cells = 0 ∧ rm.slots = 0) (hR : rm.frames + 1 ≤ R.frames ∧ 8 + (maxL + 11) + rm.locals ≤ R.locals) (hn : As.length = na) (hstk : stk = As.reverse ++ st) (hW : (st.map fun v => v.category).sum ≤ 8) (d : decode cc pc = .ok (.invokestatic idx, 3)) (kk : WM sy p l e R s m args below meth c nL D ad cA Q M1 (pc + 3) L (.long (qJ r) :: st)) : WM sy p l e R s m args below meth c nL D ad cA Q M pc L stk := by
  subst hstk
  intro H locs ls hP hT hS hl
  exact q_run C hS hl (va_runSN (As := As) (rest := st) C.1 hM ⟨va_cnB na C.1.2.2.2.2 (q_goodN mw) rfl hr0.1 hr0.2 (C.2.2.2.2.1 _ w) (C.1.2.2.2.2 _ mw.1.2.1) mw.2 hR, C.1.2.2.2.2 _ mw.1.1, trivial⟩ ⟨q_blind, fun U hU hW => ⟨rfl, by rw [hU]; exact hP, hT, va_K.moved hW.alike C.2.1, by rw [hU]; exact C.2.2.2.2.moved hW hS.2.1⟩⟩ rfl hn hl.1 rfl (lv_room hW) d ⟨Nat.zero_le _, Nat.zero_le _⟩) kk
theorem r_cvv (C : Cx sy p m c cc nL s args own D ad cA) {y : MethodName} {bytes : ByteArray} {maxL : Nat} {ret : Option FieldType} {rm : Room} {As : List Value} {n ci N na idx : Nat} {Cn : String} {T : u_T} {M1 : Mem} {stk : List Value} (hM : q_Met l sy D ad cA y bytes maxL ret rm (.ref (ad n) :: As) M none M1) (w : Cond.methodLink own idx y ∈ wsQ) (mw : q_mw Cn y bytes maxL ret na) (hr0 : rm.cells = 0 ∧ rm.slots = 0) (hR : rm.frames + 1 ≤ R.frames ∧ 8 + (maxL + 11) + rm.locals ≤ R.locals) (hk : sy.1 n = (1, ci)) (hc : q_cl ci Cn T N) (hn : As.length = na) (hstk : stk = As.reverse ++ .ref (ad n) :: st) (hW : (st.map fun v => v.category).sum ≤ 8) (d : decode cc pc = .ok (.invokevirtual idx, 3)) (kk : WM sy p l e R s m args below meth c nL D ad cA Q M1 (pc + 3) L st) : WM sy p l e R s m args below meth c nL D ad cA Q M pc L stk := by
  subst hstk
  intro H locs ls hP hT hS hl
  have hv := hP n (by rw [hk]; exact Nat.one_ne_zero)
  rw [q_ent_obj hk hc.1] at hv
  exact q_run C hS hl (va_runV (As := As) (rest := st) C.1 hM (cwV na C.1.2.2.2.2 (q_goodV w mw) rfl hr0.1 hr0.2 mw.2 hR) ⟨q_blind, va_recv C.2.1 (q_one hv) (ci := ci) (q0 := 0) hc.1 rfl, fun U hU hW => ⟨rfl, by rw [hU]; exact hP, hT, va_K.moved hW.alike C.2.1, by rw [hU]; exact C.2.2.2.2.moved hW hS.2.1⟩⟩ rfl hn hl.1 rfl (lv_room hW) d ⟨Nat.zero_le _, Nat.zero_le _⟩) kk
theorem r_csv (C : Cx sy p m c cc nL s args own D ad cA) {y : MethodName} {bytes : ByteArray} {maxL : Nat} {ret : Option FieldType} {rm : Room} {As : List Value} {na idx : Nat} {M1 : Mem} {stk : List Value} (hM : q_Met l sy D ad cA y bytes maxL ret rm As M none M1) (w : Cond.methodLink own idx y ∈ wsQ) (mw : q_ms y bytes maxL ret na) (hr0 : rm.cells = 0 ∧ rm.slots = 0) (hR : rm.frames + 1 ≤ R.frames ∧ 8 + (maxL + 11) + rm.locals ≤ R.locals) (hn : As.length = na) (hstk : stk = As.reverse ++ st) (hW : (st.map fun v => v.category).sum ≤ 8) (d : decode cc pc = .ok (.invokestatic idx, 3)) (kk : WM sy p l e R s m args below meth c nL D ad cA Q M1 (pc + 3) L st) : WM sy p l e R s m args below meth c nL D ad cA Q M pc L stk := by
  subst hstk
  intro H locs ls hP hT hS hl
  exact q_run C hS hl (va_runS (As := As) (rest := st) C.1 hM (va_cwS na C.1.2.2.2.2 (q_goodS w mw) rfl hr0.1 hr0.2 mw.2 hR) ⟨q_blind, fun U hU hW => ⟨rfl, by rw [hU]; exact hP, hT, va_K.moved hW.alike C.2.1, by rw [hU]; exact C.2.2.2.2.moved hW hS.2.1⟩⟩ rfl hn hl.1 rfl (lv_room hW) d ⟨Nat.zero_le _, Nat.zero_le _⟩) kk
theorem r_cnv (C : Cx sy p m c cc nL s args own D ad cA) {y : MethodName} {bytes : ByteArray} {maxL : Nat} {ret : Option FieldType} {rm : Room} {As : List Value} {na idx : Nat} {host : String} {M1 : Mem} {stk : List Value} (hM : q_Met l sy D ad cA y bytes maxL ret rm As M none M1) (w : q_nest (Cond.methodLinkNest own idx y host)) (mw : q_ms y bytes maxL ret na) (hr0 : rm.cells = 0 ∧ rm.slots = 0) (hR : rm.frames + 1 ≤ R.frames ∧ 8 + (maxL + 11) + rm.locals ≤ R.locals) (hn : As.length = na) (hstk : stk = As.reverse ++ st) (hW : (st.map fun v => v.category).sum ≤ 8) (d : decode cc pc = .ok (.invokestatic idx, 3)) (kk : WM sy p l e R s m args below meth c nL D ad cA Q M1 (pc + 3) L st) : WM sy p l e R s m args below meth c nL D ad cA Q M pc L stk := by
  subst hstk
  intro H locs ls hP hT hS hl
  exact q_run C hS hl (va_runSN (As := As) (rest := st) C.1 hM ⟨va_cnB na C.1.2.2.2.2 (q_goodN mw) rfl hr0.1 hr0.2 (C.2.2.2.2.1 _ w) (C.1.2.2.2.2 _ mw.1.2.1) mw.2 hR, C.1.2.2.2.2 _ mw.1.1, trivial⟩ ⟨q_blind, fun U hU hW => ⟨rfl, by rw [hU]; exact hP, hT, va_K.moved hW.alike C.2.1, by rw [hU]; exact C.2.2.2.2.moved hW hS.2.1⟩⟩ rfl hn hl.1 rfl (lv_room hW) d ⟨Nat.zero_le _, Nat.zero_le _⟩) kk
theorem r_cva (C : Cx sy p m c cc nL s args own D ad cA) {y : MethodName} {bytes : ByteArray} {maxL : Nat} {ret : Option FieldType} {rm : Room} {As : List Value} {n ci N na idx : Nat} {Cn : String} {T : u_T} {r : Int} {M1 : Mem} {stk : List Value} (hM : q_Met l sy D ad cA y bytes maxL ret rm (.ref (ad n) :: As) M (some (.ref (ad r.toNat))) M1) (w : Cond.methodLink own idx y ∈ wsQ) (mw : q_mw Cn y bytes maxL ret na) (hr0 : rm.cells = 0 ∧ rm.slots = 0) (hR : rm.frames + 1 ≤ R.frames ∧ 8 + (maxL + 11) + rm.locals ≤ R.locals) (hk : sy.1 n = (1, ci)) (hc : q_cl ci Cn T N) (hn : As.length = na) (hstk : stk = As.reverse ++ .ref (ad n) :: st) (hW : (st.map fun v => v.category).sum ≤ 8) (d : decode cc pc = .ok (.invokevirtual idx, 3)) (kk : WM sy p l e R s m args below meth c nL D ad cA Q M1 (pc + 3) L (.ref (ad r.toNat) :: st)) : WM sy p l e R s m args below meth c nL D ad cA Q M pc L stk := by
  subst hstk
  intro H locs ls hP hT hS hl
  have hv := hP n (by rw [hk]; exact Nat.one_ne_zero)
  rw [q_ent_obj hk hc.1] at hv
  exact q_run C hS hl (va_runV (As := As) (rest := st) C.1 hM (cwV na C.1.2.2.2.2 (q_goodV w mw) rfl hr0.1 hr0.2 mw.2 hR) ⟨q_blind, va_recv C.2.1 (q_one hv) (ci := ci) (q0 := 0) hc.1 rfl, fun U hU hW => ⟨rfl, by rw [hU]; exact hP, hT, va_K.moved hW.alike C.2.1, by rw [hU]; exact C.2.2.2.2.moved hW hS.2.1⟩⟩ rfl hn hl.1 rfl (lv_room hW) d ⟨Nat.zero_le _, Nat.zero_le _⟩) kk
theorem r_csa (C : Cx sy p m c cc nL s args own D ad cA) {y : MethodName} {bytes : ByteArray} {maxL : Nat} {ret : Option FieldType} {rm : Room} {As : List Value} {na idx : Nat} {r : Int} {M1 : Mem} {stk : List Value} (hM : q_Met l sy D ad cA y bytes maxL ret rm As M (some (.ref (ad r.toNat))) M1) (w : Cond.methodLink own idx y ∈ wsQ) (mw : q_ms y bytes maxL ret na) (hr0 : rm.cells = 0 ∧ rm.slots = 0) (hR : rm.frames + 1 ≤ R.frames ∧ 8 + (maxL + 11) + rm.locals ≤ R.locals) (hn : As.length = na) (hstk : stk = As.reverse ++ st) (hW : (st.map fun v => v.category).sum ≤ 8) (d : decode cc pc = .ok (.invokestatic idx, 3)) (kk : WM sy p l e R s m args below meth c nL D ad cA Q M1 (pc + 3) L (.ref (ad r.toNat) :: st)) : WM sy p l e R s m args below meth c nL D ad cA Q M pc L stk := by
  subst hstk
  intro H locs ls hP hT hS hl
  exact q_run C hS hl (va_runS (As := As) (rest := st) C.1 hM (va_cwS na C.1.2.2.2.2 (q_goodS w mw) rfl hr0.1 hr0.2 mw.2 hR) ⟨q_blind, fun U hU hW => ⟨rfl, by rw [hU]; exact hP, hT, va_K.moved hW.alike C.2.1, by rw [hU]; exact C.2.2.2.2.moved hW hS.2.1⟩⟩ rfl hn hl.1 rfl (lv_room hW) d ⟨Nat.zero_le _, Nat.zero_le _⟩) kk
theorem r_cna (C : Cx sy p m c cc nL s args own D ad cA) {y : MethodName} {bytes : ByteArray} {maxL : Nat} {ret : Option FieldType} {rm : Room} {As : List Value} {na idx : Nat} {host : String} {r : Int} {M1 : Mem} {stk : List Value} (hM : q_Met l sy D ad cA y bytes maxL ret rm As M (some (.ref (ad r.toNat))) M1) (w : q_nest (Cond.methodLinkNest own idx y host)) (mw : q_ms y bytes maxL ret na) (hr0 : rm.cells = 0 ∧ rm.slots = 0) (hR : rm.frames + 1 ≤ R.frames ∧ 8 + (maxL + 11) + rm.locals ≤ R.locals) (hn : As.length = na) (hstk : stk = As.reverse ++ st) (hW : (st.map fun v => v.category).sum ≤ 8) (d : decode cc pc = .ok (.invokestatic idx, 3)) (kk : WM sy p l e R s m args below meth c nL D ad cA Q M1 (pc + 3) L (.ref (ad r.toNat) :: st)) : WM sy p l e R s m args below meth c nL D ad cA Q M pc L stk := by
  subst hstk
  intro H locs ls hP hT hS hl
  exact q_run C hS hl (va_runSN (As := As) (rest := st) C.1 hM ⟨va_cnB na C.1.2.2.2.2 (q_goodN mw) rfl hr0.1 hr0.2 (C.2.2.2.2.1 _ w) (C.1.2.2.2.2 _ mw.1.2.1) mw.2 hR, C.1.2.2.2.2 _ mw.1.1, trivial⟩ ⟨q_blind, fun U hU hW => ⟨rfl, by rw [hU]; exact hP, hT, va_K.moved hW.alike C.2.1, by rw [hU]; exact C.2.2.2.2.moved hW hS.2.1⟩⟩ rfl hn hl.1 rfl (lv_room hW) d ⟨Nat.zero_le _, Nat.zero_le _⟩) kk
theorem r_iret (C : Cx sy p m c cc nL s args own D ad cA) {v : Int} {r0 : Int} {M0 : Mem} (hr : meth.sig.returnType = some .int) (hlocks : meth.locks = false) (d : decode cc pc = .ok (.ireturn, 1)) (h : some (v, M) = some (r0, M0)) : WM sy p l e R s m args below meth c nL D ad cA (MQ below (q_Post sy D ad cA (some (.int (qI r0))) M0) args s 0 0 (q_A sy ad)) M pc L [.int (qI v)] := by
  cases h
  intro H locs ls hP hT hS hl
  exact W.iret C.1.1 C.1.2.1 hr (fun t ht hW => ⟨rfl, by rw [ht]; exact hP, hT, hS.F ht⟩) hS.2.2 d hlocks
theorem r_lret (C : Cx sy p m c cc nL s args own D ad cA) {v : Int} {r0 : Int} {M0 : Mem} (hr : meth.sig.returnType = some .long) (hlocks : meth.locks = false) (d : decode cc pc = .ok (.lreturn, 1)) (h : some (v, M) = some (r0, M0)) : WM sy p l e R s m args below meth c nL D ad cA (MQ below (q_Post sy D ad cA (some (.long (qJ r0))) M0) args s 0 0 (q_A sy ad)) M pc L [.long (qJ v)] := by
  cases h
  intro H locs ls hP hT hS hl
  exact W.lret C.1.1 C.1.2.1 hr (fun t ht hW => ⟨rfl, by rw [ht]; exact hP, hT, hS.F ht⟩) hS.2.2 d hlocks
theorem r_zret (C : Cx sy p m c cc nL s args own D ad cA) {v : Int} {r0 : Int} {M0 : Mem} (hn : narrow .boolean (.int (qI v)) = .int (qI v)) (hr : meth.sig.returnType = some .boolean) (hlocks : meth.locks = false) (d : decode cc pc = .ok (.ireturn, 1)) (h : some (v, M) = some (r0, M0)) : WM sy p l e R s m args below meth c nL D ad cA (MQ below (q_Post sy D ad cA (some (.int (qI r0))) M0) args s 0 0 (q_A sy ad)) M pc L [.int (qI v)] := by
  cases h
  intro H locs ls hP hT hS hl
  exact W.zret C.1.1 C.1.2.1 hr hn (fun t ht hW => ⟨rfl, by rw [ht]; exact hP, hT, hS.F ht⟩) hS.2.2 d hlocks
theorem r_zretb (C : Cx sy p m c cc nL s args own D ad cA) {v : Int} {r0 : Int} {M0 : Mem} (hr : meth.sig.returnType = some .boolean) (hlocks : meth.locks = false) (d : decode cc pc = .ok (.ireturn, 1)) (h : q_bit v (some (v, M)) = some (r0, M0)) : WM sy p l e R s m args below meth c nL D ad cA (MQ below (q_Post sy D ad cA (some (.int (qI r0))) M0) args s 0 0 (q_A sy ad)) M pc L [.int (qI v)] := by
  unfold q_bit at h
  by_cases hb : v = 0 ∨ v = 1
  case neg => rw [if_neg hb] at h; cases h
  rw [if_pos hb] at h
  exact r_zret C (by rcases hb with rfl | rfl <;> decide) hr hlocks d h
theorem r_vret (C : Cx sy p m c cc nL s args own D ad cA) {r0 : Int} {M0 : Mem} (hr : meth.sig.returnType = none) (hlocks : meth.locks = false) (d : decode cc pc = .ok (.return_, 1)) (h : some ((0 : Int), M) = some (r0, M0)) : WM sy p l e R s m args below meth c nL D ad cA (MQ below (q_Post sy D ad cA none M0) args s 0 0 (q_A sy ad)) M pc L [] := by
  cases h
  intro H locs ls hP hT hS hl
  exact W.vret C.1.1 C.1.2.1 hr (fun t ht hW => ⟨rfl, by rw [ht]; exact hP, hT, hS.F ht⟩) hS.2.2 d hlocks
theorem r_iretp (C : Cx sy p m c cc nL s args own D ad cA) {v : Int} {r0 : Int} (hr : meth.sig.returnType = some .int) (hlocks : meth.locks = false) (d : decode cc pc = .ok (.ireturn, 1)) (h : some v = some r0) : WM sy p l e R s m args below meth c nL D ad cA (MQ below (q_Post sy D ad cA (some (.int (qI r0))) M) args s 0 0 (q_A sy ad)) M pc L [.int (qI v)] := by
  cases h
  intro H locs ls hP hT hS hl
  exact W.iret C.1.1 C.1.2.1 hr (fun t ht hW => ⟨rfl, by rw [ht]; exact hP, hT, hS.F ht⟩) hS.2.2 d hlocks
theorem r_lretp (C : Cx sy p m c cc nL s args own D ad cA) {v : Int} {r0 : Int} (hr : meth.sig.returnType = some .long) (hlocks : meth.locks = false) (d : decode cc pc = .ok (.lreturn, 1)) (h : some v = some r0) : WM sy p l e R s m args below meth c nL D ad cA (MQ below (q_Post sy D ad cA (some (.long (qJ r0))) M) args s 0 0 (q_A sy ad)) M pc L [.long (qJ v)] := by
  cases h
  intro H locs ls hP hT hS hl
  exact W.lret C.1.1 C.1.2.1 hr (fun t ht hW => ⟨rfl, by rw [ht]; exact hP, hT, hS.F ht⟩) hS.2.2 d hlocks
theorem r_zretp (C : Cx sy p m c cc nL s args own D ad cA) {v : Int} {r0 : Int} (hn : narrow .boolean (.int (qI v)) = .int (qI v)) (hr : meth.sig.returnType = some .boolean) (hlocks : meth.locks = false) (d : decode cc pc = .ok (.ireturn, 1)) (h : some v = some r0) : WM sy p l e R s m args below meth c nL D ad cA (MQ below (q_Post sy D ad cA (some (.int (qI r0))) M) args s 0 0 (q_A sy ad)) M pc L [.int (qI v)] := by
  cases h
  intro H locs ls hP hT hS hl
  exact W.zret C.1.1 C.1.2.1 hr hn (fun t ht hW => ⟨rfl, by rw [ht]; exact hP, hT, hS.F ht⟩) hS.2.2 d hlocks
theorem r_zretbp (C : Cx sy p m c cc nL s args own D ad cA) {v : Int} {r0 : Int} (hr : meth.sig.returnType = some .boolean) (hlocks : meth.locks = false) (d : decode cc pc = .ok (.ireturn, 1)) (h : q_bit v (some v) = some r0) : WM sy p l e R s m args below meth c nL D ad cA (MQ below (q_Post sy D ad cA (some (.int (qI r0))) M) args s 0 0 (q_A sy ad)) M pc L [.int (qI v)] := by
  unfold q_bit at h
  by_cases hb : v = 0 ∨ v = 1
  case neg => rw [if_neg hb] at h; cases h
  rw [if_pos hb] at h
  exact r_zretp C (by rcases hb with rfl | rfl <;> decide) hr hlocks d h
theorem r_vretp (C : Cx sy p m c cc nL s args own D ad cA) {r0 : Int} (hr : meth.sig.returnType = none) (hlocks : meth.locks = false) (d : decode cc pc = .ok (.return_, 1)) (h : some (0 : Int) = some r0) : WM sy p l e R s m args below meth c nL D ad cA (MQ below (q_Post sy D ad cA none M) args s 0 0 (q_A sy ad)) M pc L [] := by
  cases h
  intro H locs ls hP hT hS hl
  exact W.vret C.1.1 C.1.2.1 hr (fun t ht hW => ⟨rfl, by rw [ht]; exact hP, hT, hS.F ht⟩) hS.2.2 d hlocks
theorem r_aret (C : Cx sy p m c cc nL s args own D ad cA) {t0 : Nat} {rt : FieldType} {r0 : Int} {M0 : Mem} (hr : meth.sig.returnType = some rt) (hrt : (∃ n, rt = .object n) ∨ ∃ t, rt = .array t) (hlocks : meth.locks = false) (d : decode cc pc = .ok (.areturn, 1)) (h : some ((t0 : Int), M) = some (r0, M0)) : WM sy p l e R s m args below meth c nL D ad cA (MQ below (q_Post sy D ad cA (some (.ref (ad r0.toNat))) M0) args s 0 0 (q_A sy ad)) M pc L [.ref (ad t0)] := by
  cases h
  intro H locs ls hP hT hS hl
  exact W.aret C.1.1 C.1.2.1 hr hrt (Or.inr ⟨_, rfl⟩) (fun t ht hW => ⟨rfl, by rw [ht]; exact hP, hT, hS.F ht⟩) hS.2.2 d hlocks
theorem r_tc (C : Cx sy p m c cc nL s args own D ad cA) {x k : Int} {K1 K2 : Option α} (h : (if w32 x = k then K1 else K2) = some RR) (k1 : w32 x = k → K1 = some RR → WM sy p l e R s m args below meth c nL D ad cA Q M pc L (.int (qI x) :: st)) (k2 : ¬ w32 x = k → K2 = some RR → WM sy p l e R s m args below meth c nL D ad cA Q M pc L (.int (qI x) :: st)) : WM sy p l e R s m args below meth c nL D ad cA Q M pc L (.int (qI x) :: st) := by
  by_cases hc : w32 x = k
  · rw [if_pos hc] at h; exact k1 hc h
  · rw [if_neg hc] at h; exact k2 hc h
theorem r_tin (C : Cx sy p m c cc nL s args own D ad cA) {x k dflt lo hi off : Int} {offs : Array Int} {len tgt : Nat} (d : decode cc pc = .ok (.tableswitch dflt lo hi offs, len)) (hx : w32 x = k) (h12 : ¬ k < lo ∧ ¬ hi < k) (ho : offs[(k - lo).toNat]? = some off) (ht : (pc : Int) + off = (tgt : Int)) (kk : WM sy p l e R s m args below meth c nL D ad cA Q M tgt L st) : WM sy p l e R s m args below meth c nL D ad cA Q M pc L (.int (qI x) :: st) := by
  subst hx
  intro H locs ls hP hT hS hl
  exact lv_tableIn C.1.1 C.1.2.1 d h12.1 h12.2 ho ht (kk H locs ls hP hT hS hl)
theorem r_tout (C : Cx sy p m c cc nL s args own D ad cA) {x dflt lo hi : Int} {offs : Array Int} {len tgt : Nat} (d : decode cc pc = .ok (.tableswitch dflt lo hi offs, len)) (hx : w32 x < lo ∨ hi < w32 x) (ht : (pc : Int) + dflt = (tgt : Int)) (kk : WM sy p l e R s m args below meth c nL D ad cA Q M tgt L st) : WM sy p l e R s m args below meth c nL D ad cA Q M pc L (.int (qI x) :: st) := by
  intro H locs ls hP hT hS hl
  exact lv_tableOut C.1.1 C.1.2.1 d hx ht (kk H locs ls hP hT hS hl)
theorem r_lk (C : Cx sy p m c cc nL s args own D ad cA) {x k dflt off : Int} {ps : Array (Int × Int)} {len tgt : Nat} (d : decode cc pc = .ok (.lookupswitch dflt ps, len)) (hp : (ps.toList.zip (ps.toList.drop 1)).all (fun (a, next) => a.1 < next.1) = true) (hx : w32 x = k) (ho : Op.lookupswitch.offset ps.toList dflt k = off) (ht : (pc : Int) + off = (tgt : Int)) (kk : WM sy p l e R s m args below meth c nL D ad cA Q M tgt L st) : WM sy p l e R s m args below meth c nL D ad cA Q M pc L (.int (qI x) :: st) := by
  subst hx
  intro H locs ls hP hT hS hl
  exact lv_lookup C.1.1 C.1.2.1 d hp ho ht (kk H locs ls hP hT hS hl)
end QROWS3
def qlm0 {α : Type} (body : Mem → (Mem → Option α) → Option α) : Nat → Mem → Option α
  | 0, _ => none
  | n + 1, M => body  M (qlm0 body n)
theorem qlm0_r {α : Type} {RR : α} {body : Mem → (Mem → Option α) → Option α} {Wp : Mem → Prop} (hb : ∀ (M : Mem) (again : Mem → Option α), (∀ (M : Mem), again  M = some RR → Wp  M) → body  M again = some RR → Wp  M) (n : Nat) : ∀ (M : Mem), qlm0 body n  M = some RR → Wp  M := by
  induction n with
  | zero => intro  M h; cases h
  | succ n ih => intro  M h; exact hb  M _ ih h
def qlm1 {α : Type} (body : Int → Mem → (Int → Mem → Option α) → Option α) : Nat → Int → Mem → Option α
  | 0, _, _ => none
  | n + 1, a, M => body a M (qlm1 body n)
theorem qlm1_r {α : Type} {RR : α} {body : Int → Mem → (Int → Mem → Option α) → Option α} {Wp : Int → Mem → Prop} (hb : ∀ (a : Int) (M : Mem) (again : Int → Mem → Option α), (∀ (a : Int) (M : Mem), again a M = some RR → Wp a M) → body a M again = some RR → Wp a M) (n : Nat) : ∀ (a : Int) (M : Mem), qlm1 body n a M = some RR → Wp a M := by
  induction n with
  | zero => intro a M h; cases h
  | succ n ih => intro a M h; exact hb a M _ ih h
def qlp1 {α : Type} (body : Int → (Int → Option α) → Option α) : Nat → Int → Option α
  | 0, _ => none
  | n + 1, a => body a (qlp1 body n)
theorem qlp1_r {α : Type} {RR : α} {body : Int → (Int → Option α) → Option α} {Wp : Int → Prop} (hb : ∀ (a : Int) (again : Int → Option α), (∀ (a : Int), again a = some RR → Wp a) → body a again = some RR → Wp a) (n : Nat) : ∀ (a : Int), qlp1 body n a = some RR → Wp a := by
  induction n with
  | zero => intro a h; cases h
  | succ n ih => intro a h; exact hb a _ ih h
def qlm2 {α : Type} (body : Int → Int → Mem → (Int → Int → Mem → Option α) → Option α) : Nat → Int → Int → Mem → Option α
  | 0, _, _, _ => none
  | n + 1, a, b, M => body a b M (qlm2 body n)
theorem qlm2_r {α : Type} {RR : α} {body : Int → Int → Mem → (Int → Int → Mem → Option α) → Option α} {Wp : Int → Int → Mem → Prop} (hb : ∀ (a b : Int) (M : Mem) (again : Int → Int → Mem → Option α), (∀ (a b : Int) (M : Mem), again a b M = some RR → Wp a b M) → body a b M again = some RR → Wp a b M) (n : Nat) : ∀ (a b : Int) (M : Mem), qlm2 body n a b M = some RR → Wp a b M := by
  induction n with
  | zero => intro a b M h; cases h
  | succ n ih => intro a b M h; exact hb a b M _ ih h
def qlp2 {α : Type} (body : Int → Int → (Int → Int → Option α) → Option α) : Nat → Int → Int → Option α
  | 0, _, _ => none
  | n + 1, a, b => body a b (qlp2 body n)
theorem qlp2_r {α : Type} {RR : α} {body : Int → Int → (Int → Int → Option α) → Option α} {Wp : Int → Int → Prop} (hb : ∀ (a b : Int) (again : Int → Int → Option α), (∀ (a b : Int), again a b = some RR → Wp a b) → body a b again = some RR → Wp a b) (n : Nat) : ∀ (a b : Int), qlp2 body n a b = some RR → Wp a b := by
  induction n with
  | zero => intro a b h; cases h
  | succ n ih => intro a b h; exact hb a b _ ih h
def qlm3 {α : Type} (body : Int → Int → Int → Mem → (Int → Int → Int → Mem → Option α) → Option α) : Nat → Int → Int → Int → Mem → Option α
  | 0, _, _, _, _ => none
  | n + 1, a, b, c, M => body a b c M (qlm3 body n)
theorem qlm3_r {α : Type} {RR : α} {body : Int → Int → Int → Mem → (Int → Int → Int → Mem → Option α) → Option α} {Wp : Int → Int → Int → Mem → Prop} (hb : ∀ (a b c : Int) (M : Mem) (again : Int → Int → Int → Mem → Option α), (∀ (a b c : Int) (M : Mem), again a b c M = some RR → Wp a b c M) → body a b c M again = some RR → Wp a b c M) (n : Nat) : ∀ (a b c : Int) (M : Mem), qlm3 body n a b c M = some RR → Wp a b c M := by
  induction n with
  | zero => intro a b c M h; cases h
  | succ n ih => intro a b c M h; exact hb a b c M _ ih h
def qlp3 {α : Type} (body : Int → Int → Int → (Int → Int → Int → Option α) → Option α) : Nat → Int → Int → Int → Option α
  | 0, _, _, _ => none
  | n + 1, a, b, c => body a b c (qlp3 body n)
theorem qlp3_r {α : Type} {RR : α} {body : Int → Int → Int → (Int → Int → Int → Option α) → Option α} {Wp : Int → Int → Int → Prop} (hb : ∀ (a b c : Int) (again : Int → Int → Int → Option α), (∀ (a b c : Int), again a b c = some RR → Wp a b c) → body a b c again = some RR → Wp a b c) (n : Nat) : ∀ (a b c : Int), qlp3 body n a b c = some RR → Wp a b c := by
  induction n with
  | zero => intro a b c h; cases h
  | succ n ih => intro a b c h; exact hb a b c _ ih h
def qlm4 {α : Type} (body : Int → Int → Int → Int → Mem → (Int → Int → Int → Int → Mem → Option α) → Option α) : Nat → Int → Int → Int → Int → Mem → Option α
  | 0, _, _, _, _, _ => none
  | n + 1, a, b, c, d, M => body a b c d M (qlm4 body n)
theorem qlm4_r {α : Type} {RR : α} {body : Int → Int → Int → Int → Mem → (Int → Int → Int → Int → Mem → Option α) → Option α} {Wp : Int → Int → Int → Int → Mem → Prop} (hb : ∀ (a b c d : Int) (M : Mem) (again : Int → Int → Int → Int → Mem → Option α), (∀ (a b c d : Int) (M : Mem), again a b c d M = some RR → Wp a b c d M) → body a b c d M again = some RR → Wp a b c d M) (n : Nat) : ∀ (a b c d : Int) (M : Mem), qlm4 body n a b c d M = some RR → Wp a b c d M := by
  induction n with
  | zero => intro a b c d M h; cases h
  | succ n ih => intro a b c d M h; exact hb a b c d M _ ih h
def qlp4 {α : Type} (body : Int → Int → Int → Int → (Int → Int → Int → Int → Option α) → Option α) : Nat → Int → Int → Int → Int → Option α
  | 0, _, _, _, _ => none
  | n + 1, a, b, c, d => body a b c d (qlp4 body n)
theorem qlp4_r {α : Type} {RR : α} {body : Int → Int → Int → Int → (Int → Int → Int → Int → Option α) → Option α} {Wp : Int → Int → Int → Int → Prop} (hb : ∀ (a b c d : Int) (again : Int → Int → Int → Int → Option α), (∀ (a b c d : Int), again a b c d = some RR → Wp a b c d) → body a b c d again = some RR → Wp a b c d) (n : Nat) : ∀ (a b c d : Int), qlp4 body n a b c d = some RR → Wp a b c d := by
  induction n with
  | zero => intro a b c d h; cases h
  | succ n ih => intro a b c d h; exact hb a b c d _ ih h
def qlm5 {α : Type} (body : Int → Int → Int → Int → Int → Mem → (Int → Int → Int → Int → Int → Mem → Option α) → Option α) : Nat → Int → Int → Int → Int → Int → Mem → Option α
  | 0, _, _, _, _, _, _ => none
  | n + 1, a, b, c, d, e, M => body a b c d e M (qlm5 body n)
theorem qlm5_r {α : Type} {RR : α} {body : Int → Int → Int → Int → Int → Mem → (Int → Int → Int → Int → Int → Mem → Option α) → Option α} {Wp : Int → Int → Int → Int → Int → Mem → Prop} (hb : ∀ (a b c d e : Int) (M : Mem) (again : Int → Int → Int → Int → Int → Mem → Option α), (∀ (a b c d e : Int) (M : Mem), again a b c d e M = some RR → Wp a b c d e M) → body a b c d e M again = some RR → Wp a b c d e M) (n : Nat) : ∀ (a b c d e : Int) (M : Mem), qlm5 body n a b c d e M = some RR → Wp a b c d e M := by
  induction n with
  | zero => intro a b c d e M h; cases h
  | succ n ih => intro a b c d e M h; exact hb a b c d e M _ ih h
def qlp5 {α : Type} (body : Int → Int → Int → Int → Int → (Int → Int → Int → Int → Int → Option α) → Option α) : Nat → Int → Int → Int → Int → Int → Option α
  | 0, _, _, _, _, _ => none
  | n + 1, a, b, c, d, e => body a b c d e (qlp5 body n)
theorem qlp5_r {α : Type} {RR : α} {body : Int → Int → Int → Int → Int → (Int → Int → Int → Int → Int → Option α) → Option α} {Wp : Int → Int → Int → Int → Int → Prop} (hb : ∀ (a b c d e : Int) (again : Int → Int → Int → Int → Int → Option α), (∀ (a b c d e : Int), again a b c d e = some RR → Wp a b c d e) → body a b c d e again = some RR → Wp a b c d e) (n : Nat) : ∀ (a b c d e : Int), qlp5 body n a b c d e = some RR → Wp a b c d e := by
  induction n with
  | zero => intro a b c d e h; cases h
  | succ n ih => intro a b c d e h; exact hb a b c d e _ ih h
def qlm6 {α : Type} (body : Int → Int → Int → Int → Int → Int → Mem → (Int → Int → Int → Int → Int → Int → Mem → Option α) → Option α) : Nat → Int → Int → Int → Int → Int → Int → Mem → Option α
  | 0, _, _, _, _, _, _, _ => none
  | n + 1, a, b, c, d, e, f, M => body a b c d e f M (qlm6 body n)
theorem qlm6_r {α : Type} {RR : α} {body : Int → Int → Int → Int → Int → Int → Mem → (Int → Int → Int → Int → Int → Int → Mem → Option α) → Option α} {Wp : Int → Int → Int → Int → Int → Int → Mem → Prop} (hb : ∀ (a b c d e f : Int) (M : Mem) (again : Int → Int → Int → Int → Int → Int → Mem → Option α), (∀ (a b c d e f : Int) (M : Mem), again a b c d e f M = some RR → Wp a b c d e f M) → body a b c d e f M again = some RR → Wp a b c d e f M) (n : Nat) : ∀ (a b c d e f : Int) (M : Mem), qlm6 body n a b c d e f M = some RR → Wp a b c d e f M := by
  induction n with
  | zero => intro a b c d e f M h; cases h
  | succ n ih => intro a b c d e f M h; exact hb a b c d e f M _ ih h
def qlp6 {α : Type} (body : Int → Int → Int → Int → Int → Int → (Int → Int → Int → Int → Int → Int → Option α) → Option α) : Nat → Int → Int → Int → Int → Int → Int → Option α
  | 0, _, _, _, _, _, _ => none
  | n + 1, a, b, c, d, e, f => body a b c d e f (qlp6 body n)
theorem qlp6_r {α : Type} {RR : α} {body : Int → Int → Int → Int → Int → Int → (Int → Int → Int → Int → Int → Int → Option α) → Option α} {Wp : Int → Int → Int → Int → Int → Int → Prop} (hb : ∀ (a b c d e f : Int) (again : Int → Int → Int → Int → Int → Int → Option α), (∀ (a b c d e f : Int), again a b c d e f = some RR → Wp a b c d e f) → body a b c d e f again = some RR → Wp a b c d e f) (n : Nat) : ∀ (a b c d e f : Int), qlp6 body n a b c d e f = some RR → Wp a b c d e f := by
  induction n with
  | zero => intro a b c d e f h; cases h
  | succ n ih => intro a b c d e f h; exact hb a b c d e f _ ih h
def qlm7 {α : Type} (body : Int → Int → Int → Int → Int → Int → Int → Mem → (Int → Int → Int → Int → Int → Int → Int → Mem → Option α) → Option α) : Nat → Int → Int → Int → Int → Int → Int → Int → Mem → Option α
  | 0, _, _, _, _, _, _, _, _ => none
  | n + 1, a, b, c, d, e, f, g, M => body a b c d e f g M (qlm7 body n)
theorem qlm7_r {α : Type} {RR : α} {body : Int → Int → Int → Int → Int → Int → Int → Mem → (Int → Int → Int → Int → Int → Int → Int → Mem → Option α) → Option α} {Wp : Int → Int → Int → Int → Int → Int → Int → Mem → Prop} (hb : ∀ (a b c d e f g : Int) (M : Mem) (again : Int → Int → Int → Int → Int → Int → Int → Mem → Option α), (∀ (a b c d e f g : Int) (M : Mem), again a b c d e f g M = some RR → Wp a b c d e f g M) → body a b c d e f g M again = some RR → Wp a b c d e f g M) (n : Nat) : ∀ (a b c d e f g : Int) (M : Mem), qlm7 body n a b c d e f g M = some RR → Wp a b c d e f g M := by
  induction n with
  | zero => intro a b c d e f g M h; cases h
  | succ n ih => intro a b c d e f g M h; exact hb a b c d e f g M _ ih h
def qlp7 {α : Type} (body : Int → Int → Int → Int → Int → Int → Int → (Int → Int → Int → Int → Int → Int → Int → Option α) → Option α) : Nat → Int → Int → Int → Int → Int → Int → Int → Option α
  | 0, _, _, _, _, _, _, _ => none
  | n + 1, a, b, c, d, e, f, g => body a b c d e f g (qlp7 body n)
theorem qlp7_r {α : Type} {RR : α} {body : Int → Int → Int → Int → Int → Int → Int → (Int → Int → Int → Int → Int → Int → Int → Option α) → Option α} {Wp : Int → Int → Int → Int → Int → Int → Int → Prop} (hb : ∀ (a b c d e f g : Int) (again : Int → Int → Int → Int → Int → Int → Int → Option α), (∀ (a b c d e f g : Int), again a b c d e f g = some RR → Wp a b c d e f g) → body a b c d e f g again = some RR → Wp a b c d e f g) (n : Nat) : ∀ (a b c d e f g : Int), qlp7 body n a b c d e f g = some RR → Wp a b c d e f g := by
  induction n with
  | zero => intro a b c d e f g h; cases h
  | succ n ih => intro a b c d e f g h; exact hb a b c d e f g _ ih h
def q_N : Nat := 100000
def q_D : Nat := 200
theorem q_met {l : Launch} {sy : Sys} {D : va_G} {ad : Nat → Nat} {cA : Nat → ClassId} {y : MethodName} {cc : ByteArray} {maxL : Nat} {ret : Option FieldType} {rm : Room} {av : List Value} {M M1 : Mem} {rv : Option Value} {L0 : List (Nat × Value)} (hi : q_inj sy ad) (ho : q_ok sy) (hy : plainName y.cls = true) (hlen : (lg_sl av).length ≤ maxL) (hL : lv_args 0 av = L0)
    (body : ∀ (p : Program) (e : Env) (s : State) (m : MethodId) (args : Array Value) (below : List Frame) (meth : Method) (c : Code), Cx sy p m c cc maxL s args y.cls D ad cA → meth.sig.returnType = ret → meth.locks = false → WM sy p l e rm s m args below meth c maxL D ad cA (MQ below (q_Post sy D ad cA rv M1) args s 0 0 (q_A sy ad)) M 0 L0 []) : q_Met l sy D ad cA y cc maxL ret rm av M rv M1 := by
  refine Met.ofW (cc := cc) (maxL := maxL) (ret := ret) hy rfl ?_
  intro p e s m args below meth c s₁ B hml hv
  obtain ⟨rfl, hP, hT, hK, hX⟩ := hv
  have hts := atoms_spec (ws := q_ws y cc maxL ret) B.pre
  have hown : s.vm.findClass y.cls = some m.cls := findClass_of_methodNamed B.named
  have C : Cx sy p m c cc maxL s av.toArray y.cls D ad cA := ⟨⟨B.exec, B.bytes, hml, hown, fun w h => hts w (List.mem_cons_of_mem _ h)⟩, hK, hi, ho, hX⟩
  have hl := lv_entry av (n := maxL) hlen
  rw [hL] at hl
  rw [lg_entry_eq]
  exact body p e s m av.toArray below meth c C B.returns B.notSynchronized s.heap [] _ hP hT va_S.rf hl
