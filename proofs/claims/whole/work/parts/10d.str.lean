/-! String.length and String.charAt of the words' text: the JDK's own methods, walked -/
def s_Q (rv : Option Value) : Array Value → State → Outcome → State → Prop := fun _ st oc t => oc = .returned rv ∧ t.heap = st.heap
def s_Met (l : Launch) (y : MethodName) (cc : ByteArray) (maxL : Nat) (ret : Option FieldType) (rm : Room) (av : List Value) (F : State → Prop) (rv : Option Value) : Prop := Met l y (q_ws y cc maxL ret) rm (va_Pc av F) (s_Q rv) 0 0 (fun _ => False)
theorem s_met {l : Launch} {y : MethodName} {cc : ByteArray} {maxL : Nat} {ret : Option FieldType} {rm : Room} {av : List Value} {F : State → Prop} {rv : Option Value} {L0 : List (Nat × Value)} (hy : plainName y.cls = true) (hlen : (lg_sl av).length ≤ maxL) (hL : lv_args 0 av = L0)
    (body : ∀ (p : Program) (e : Env) (s : State) (m : MethodId) (args : Array Value) (below : List Frame) (meth : Method) (c : Code) (ls : Array Slot), CallFix p m c cc maxL s args wsQ y.cls → meth.sig.returnType = ret → meth.locks = false → F s → lv_has ls maxL L0 → W p l e rm s m args below meth c s.heap [] 0 0 (MQ below (s_Q rv) args s 0 0 (fun _ => False)) (F0 m 0 ls [])) : s_Met l y cc maxL ret rm av F rv := by
  refine Met.ofW (cc := cc) (maxL := maxL) (ret := ret) hy rfl ?_
  intro p e s m args below meth c s₁ B hml hv
  obtain ⟨rfl, hF⟩ := hv
  have hts := atoms_spec (ws := q_ws y cc maxL ret) B.pre
  have hown : s.vm.findClass y.cls = some m.cls := findClass_of_methodNamed B.named
  have hl := lv_entry av (n := maxL) hlen
  rw [hL] at hl
  rw [lg_entry_eq]
  exact body p e s m av.toArray below meth c _ ⟨B.exec, B.bytes, hml, hown, fun w h => hts w (List.mem_cons_of_mem _ h)⟩ B.returns B.notSynchronized hF hl
section QSTR
variable {p : Program} {l : Launch} {e : Env} {R : Room} {s : State} {m : MethodId} {args : Array Value} {below : List Frame} {meth : Method} {c : Code} {cc : ByteArray} {nL : Nat} {own : String} {Q : State → Prop} {pc : Nat} {st : List Value} {H : Heap} {locs : List Loc} {ls : Array Slot}
theorem s_run {st0 : List Value} {a : Array Value} {rv : Option Value} (hr : va_Run p l e R s m args below meth c H locs 0 0 0 0 (F0 m pc ls st0) st (s_Q rv a) (fun _ => False)) (kk : W p l e R s m args below meth c H locs 0 0 Q (F0 m (pc + 3) ls (rv.toList ++ st))) : W p l e R s m args below meth c H locs 0 0 Q (F0 m pc ls st0) := by
  intro T hT X
  obtain ⟨v, st₀, t, T', L2, h0, X', hL, e1, e2, ⟨hv, hh⟩, stp⟩ := hr T hT X
  cases hv
  have hL0 : L2 = [] := by
    cases L2 with
    | nil => rfl
    | cons q _ => exact (hL q List.mem_cons_self).elim
  subst hL0
  rw [List.append_nil] at X'
  obtain ⟨t2, a1, b1⟩ := kk T' (by rw [e1, hh, h0]) X'
  exact ⟨t2, stp t2 a1, b1⟩
theorem s_cs (C : CallFix p m c cc nL s args wsQ own) {y : MethodName} {bytes : ByteArray} {maxL : Nat} {ret : Option FieldType} {rm : Room} {As : List Value} {na idx : Nat} {rv : Option Value} {F : State → Prop} {stk : List Value} (hM : s_Met l y bytes maxL ret rm As F rv) (w : Cond.methodLink own idx y ∈ wsQ) (mw : q_ms y bytes maxL ret na) (hr0 : rm.cells = 0 ∧ rm.slots = 0) (hR : rm.frames + 1 ≤ R.frames ∧ 8 + (maxL + 11) + rm.locals ≤ R.locals) (hF : (∀ (U : State) (g : JFrame) (mk : MethodId) (a : Array Value), F U → F (U.calling g mk a)) ∧ ∀ U : State, U.heap = H → s.WarmedH U.vm → F U) (hn : As.length = na) (hstk : stk = As.reverse ++ st) (hW : (st.map fun v => v.category).sum ≤ 8) (hsz : ls.size = nL) (d : decode cc pc = .ok (.invokestatic idx, 3)) (kk : W p l e R s m args below meth c H locs 0 0 Q (F0 m (pc + 3) ls (rv.toList ++ st))) : W p l e R s m args below meth c H locs 0 0 Q (F0 m pc ls stk) := by
  subst hstk
  exact s_run (va_runS (As := As) (rest := st) C hM (va_cwS na C.2.2.2.2 (q_goodS w mw) rfl hr0.1 hr0.2 mw.2 hR) ⟨fun a U g mk q => ⟨q.1, hF.1 U g mk a q.2⟩, fun U hU hW => ⟨rfl, hF.2 U hU hW⟩⟩ rfl hn hsz rfl (lv_room hW) d ⟨Nat.zero_le _, Nat.zero_le _⟩) kk
theorem s_cv (C : CallFix p m c cc nL s args wsQ own) {y : MethodName} {bytes : ByteArray} {maxL : Nat} {ret : Option FieldType} {rm : Room} {As : List Value} {na idx a : Nat} {Cn : String} {rv : Option Value} {F : State → Prop} {stk : List Value} (hM : s_Met l y bytes maxL ret rm (.ref a :: As) F rv) (w : Cond.methodLink own idx y ∈ wsQ) (mw : q_mw Cn y bytes maxL ret na) (hr0 : rm.cells = 0 ∧ rm.slots = 0) (hR : rm.frames + 1 ≤ R.frames ∧ 8 + (maxL + 11) + rm.locals ≤ R.locals) (hF : (∀ (U : State) (g : JFrame) (mk : MethodId) (a : Array Value), F U → F (U.calling g mk a)) ∧ ∀ U : State, U.heap = H → s.WarmedH U.vm → F U) (ho : ∃ cellB : Cell, H[a]? = some cellB ∧ cellB.vm.isStatics = false ∧ s.vm.findClass Cn = some cellB.cls) (hn : As.length = na) (hstk : stk = As.reverse ++ .ref a :: st) (hW : (st.map fun v => v.category).sum ≤ 8) (hsz : ls.size = nL) (d : decode cc pc = .ok (.invokevirtual idx, 3)) (kk : W p l e R s m args below meth c H locs 0 0 Q (F0 m (pc + 3) ls (rv.toList ++ st))) : W p l e R s m args below meth c H locs 0 0 Q (F0 m pc ls stk) := by
  subst hstk
  exact s_run (va_runV (As := As) (rest := st) C hM (cwV na C.2.2.2.2 (q_goodV w mw) rfl hr0.1 hr0.2 mw.2 hR) ⟨fun a U g mk q => ⟨q.1, hF.1 U g mk a q.2⟩, ho, fun U hU hW => ⟨rfl, hF.2 U hU hW⟩⟩ rfl hn hsz rfl (lv_room hW) d ⟨Nat.zero_le _, Nat.zero_le _⟩) kk
end QSTR
abbrev rs_0 : Room := { frames := 0, cells := 0, slots := 0, locals := 0 }
abbrev rs_1 : Room := { frames := 1, cells := 0, slots := 0, locals := 40 }
abbrev rs_2 : Room := { frames := 2, cells := 0, slots := 0, locals := 80 }
abbrev rs_3 : Room := { frames := 3, cells := 0, slots := 0, locals := 120 }
theorem ms_J3c : q_ms yJ3_checkIndex_8e157 cJ3_checkIndex_8e157 3 (some .int) 3 := ⟨⟨ts_J3_checkIndex_8e157, tn_RJ3, td_J3_checkIndex_8e157⟩, by decide +kernel⟩
theorem ms_J0c : q_ms yJ0_checkIndex_df160 cJ0_checkIndex_df160 2 none 2 := ⟨⟨ts_J0_checkIndex_df160, tn_RJ0, td_J0_checkIndex_df160⟩, by decide +kernel⟩
theorem ms_J1c : q_ms yJ1_charAt_3b067 cJ1_charAt_3b067 2 (some .char) 2 := ⟨⟨ts_J1_charAt_3b067, tn_RJ1, td_J1_charAt_3b067⟩, by decide +kernel⟩
theorem mv_J0i : q_mw RJ0 yJ0_isLatin1_aae02 cJ0_isLatin1_aae02 1 (some .boolean) 0 := ⟨⟨ti_J0_isLatin1_aae02, tl_J0_isLatin1_aae02, tn_RJ0, td_J0_isLatin1_aae02⟩, by decide +kernel⟩
theorem mv_J0o : q_mw RJ0 yJ0_coder_7d493 cJ0_coder_7d493 1 (some .byte) 0 := ⟨⟨ti_J0_coder_7d493, tl_J0_coder_7d493, tn_RJ0, td_J0_coder_7d493⟩, by decide +kernel⟩
theorem mv_J0l : q_mw RJ0 yJ0_length_8abf5 cJ0_length_8abf5 1 (some .int) 0 := ⟨⟨ti_J0_length_8abf5, tl_J0_length_8abf5, tn_RJ0, td_J0_length_8abf5⟩, by decide +kernel⟩
theorem mv_J0c : q_mw RJ0 yJ0_charAt_5068e cJ0_charAt_5068e 2 (some .char) 1 := ⟨⟨ti_J0_charAt_5068e, tl_J0_charAt_5068e, tn_RJ0, td_J0_charAt_5068e⟩, by decide +kernel⟩
theorem s_retQ {st t : State} {rv : Option Value} {a : Array Value} (h : t.heap = st.heap) : s_Q rv a st (.returned rv) t := ⟨rfl, h⟩
def s_F (A : Nat → Prop) (a : Nat) (U : State) : Prop := q_stat A U U.heap ∧ q_str A U U.heap a
theorem s_F.blind {A : Nat → Prop} {a : Nat} (U : State) (g : JFrame) (mk : MethodId) (x : Array Value) (h : s_F A a U) : s_F A a (U.calling g mk x) :=
  ⟨h.1.moved (U := U.calling g mk x) (Vm.Alike.refl U.vm) (fun _ _ _ => rfl), h.2.moved (U := U.calling g mk x) (Vm.Alike.refl U.vm) (fun _ _ _ => rfl)⟩
theorem s_F.go {A : Nat → Prop} {a : Nat} {s : State} (h : s_F A a s) (U : State) (hU : U.heap = s.heap) (hW : s.WarmedH U.vm) : s_F A a U := by
  unfold s_F
  rw [hU]
  exact ⟨h.1.moved hW.alike (fun _ _ _ => rfl), h.2.moved hW.alike (fun _ _ _ => rfl)⟩
theorem c_J3c (l : Launch) (i n : Int32) (fv : Value) (hf : fv = .null ∨ ∃ t, fv = .ref t) (h0 : ¬ i < 0) (h1 : i < n) : s_Met l yJ3_checkIndex_8e157 cJ3_checkIndex_8e157 3 (some .int) rs_0 [.int i, .int n, fv] (fun _ => True) (some (.int i)) := by
  refine s_met (L0 := [(0, .int i), (1, .int n), (2, fv)]) (by decide +kernel) (by rcases hf with rfl | ⟨t, rfl⟩ <;> exact Nat.le_of_ble_eq_true rfl) (by rcases hf with rfl | ⟨t, rfl⟩ <;> rfl) ?_
  intro p e s m args below meth c ls C hr hlk hF hl
  refine lv_iload_n C.1 C.2.1 dJ3_checkIndex_8e157_0 rfl (lv_at hl 0 rfl) ?_
  refine lv_if_lt (tgt := 9) C.1 C.2.1 dJ3_checkIndex_8e157_1 (by decide) (fun z => absurd z h0) (fun _ => ?_)
  refine lv_iload_n C.1 C.2.1 dJ3_checkIndex_8e157_4 rfl (lv_at hl 0 rfl) ?_
  refine lv_iload_n C.1 C.2.1 dJ3_checkIndex_8e157_5 rfl (lv_at hl 1 rfl) ?_
  refine lv_icmp_lt (tgt := 16) C.1 C.2.1 dJ3_checkIndex_8e157_6 (by decide) (fun _ => ?_) (fun z => absurd h1 z)
  refine lv_iload_n C.1 C.2.1 dJ3_checkIndex_8e157_16 rfl (lv_at hl 0 rfl) ?_
  exact W.iret C.1 C.2.1 hr (fun t ht _ => ⟨rfl, ht⟩) (fun _ h => by cases h) dJ3_checkIndex_8e157_17 hlk
theorem c_J0c (l : Launch) (A : Nat → Prop) (i n : Int32) (h0 : ¬ i < 0) (h1 : i < n) : s_Met l yJ0_checkIndex_df160 cJ0_checkIndex_df160 2 none rs_1 [.int i, .int n] (fun U => q_stat A U U.heap) none := by
  refine s_met (L0 := [(0, .int i), (1, .int n)]) (by decide +kernel) (Nat.le_of_ble_eq_true rfl) rfl ?_
  intro p e s m args below meth c ls C hr hlk hF hl
  refine lv_iload_n C.1 C.2.1 dJ0_checkIndex_df160_0 rfl (lv_at hl 0 rfl) ?_
  refine lv_iload_n C.1 C.2.1 dJ0_checkIndex_df160_1 rfl (lv_at hl 1 rfl) ?_
  have go : ∀ fv : Value, (fv = .null ∨ ∃ t, fv = .ref t) → va_Z "jdk/internal/util/Preconditions" "SIOOBE_FORMATTER" "Ljava/util/function/BiFunction;" fv A s s.heap → W p l e rs_1 s m args below meth c s.heap [] 0 0 (MQ below (s_Q none) args s 0 0 (fun _ => False)) (F0 m (0 + 1 + 1) ls [.int n, .int i]) := by
    intro fv hfv hZ
    refine va_gets C.1 C.2.1 hZ va_S.rf C.2.2.2.1 (C.2.2.2.2 _ tf_RJ0_1053) (fun _ h => h) dJ0_checkIndex_df160_2 ?_
    refine s_cs C (st := []) (c_J3c l i n fv hfv h0 h1) tm_RJ0_1059 ms_J3c ⟨rfl, rfl⟩ ⟨Nat.le_of_ble_eq_true rfl, Nat.le_of_ble_eq_true rfl⟩ ⟨fun _ _ _ _ _ => trivial, fun _ _ _ => trivial⟩ rfl rfl (Nat.le_of_ble_eq_true rfl) hl.1 dJ0_checkIndex_df160_5 ?_
    refine lv_pop C.1 C.2.1 dJ0_checkIndex_df160_8 rfl ?_
    exact W.vret C.1 C.2.1 hr (fun t ht _ => ⟨rfl, ht⟩) (fun _ h => by cases h) dJ0_checkIndex_df160_9 hlk
  rcases hF.2 with hZ | ⟨t, hZ⟩
  · exact go _ (Or.inl rfl) hZ
  · exact go _ (Or.inr ⟨t, rfl⟩) hZ
theorem s_wb : ∀ j, j < 97 → ((q_wb.getD j 0 &&& 255).toUInt32 % 65536).toInt32 = q_wb.getD j 0 ∧ narrow .char (.int (q_wb.getD j 0)) = .int (q_wb.getD j 0) := by decide +kernel
theorem s_in {i : Int32} (hi : vp_in i 97) : ¬ i < 0 ∧ i < 97 := by
  have h2 := vp_in_iff.mp hi
  have e0 : (0 : Int32).toInt = 0 := by decide
  have e1 : (97 : Int32).toInt = 97 := by decide
  constructor
  · intro z
    have := Int32.lt_iff_toInt_lt.mp z
    rw [e0] at this
    omega
  · apply Int32.lt_iff_toInt_lt.mpr
    rw [e1]
    omega
theorem s_clamp {i : Int32} (hi : vp_in i 97) : i.toNatClampNeg < 97 := Nat.not_le.mp fun q => hi (Or.inr q)
theorem c_J1c (l : Launch) (A : Nat → Prop) (v : Nat) (i : Int32) (hi : vp_in i 97) : s_Met l yJ1_charAt_3b067 cJ1_charAt_3b067 2 (some .char) rs_2 [.ref v, .int i] (fun U => q_stat A U U.heap ∧ va_T .byte v 97 (fun j => .int (q_wb.getD j 0)) A U U.heap) (some (.int (q_wb.getD i.toNatClampNeg 0))) := by
  refine s_met (L0 := [(0, .ref v), (1, .int i)]) (by decide +kernel) (Nat.le_of_ble_eq_true rfl) rfl ?_
  intro p e s m args below meth c ls C hr hlk hF hl
  refine lv_iload_n C.1 C.2.1 dJ1_charAt_3b067_0 rfl (lv_at hl 1 rfl) ?_
  refine lv_aload_n C.1 C.2.1 dJ1_charAt_3b067_1 rfl (lv_at hl 0 rfl) ?_
  refine va_tlen C.1 C.2.1 hF.2 va_S.rf (v := 97) rfl dJ1_charAt_3b067_2 ?_
  refine s_cs C (st := []) (c_J0c l A i 97 (s_in hi).1 (s_in hi).2) tm_RJ1_9 ms_J0c ⟨rfl, rfl⟩ ⟨Nat.le_of_ble_eq_true rfl, Nat.le_of_ble_eq_true rfl⟩ ⟨fun U g mk a h => h.moved (U := U.calling g mk a) (Vm.Alike.refl U.vm) (fun _ _ _ => rfl), fun U hU hW => by rw [hU]; exact hF.1.moved hW.alike (fun _ _ _ => rfl)⟩ rfl rfl (Nat.le_of_ble_eq_true rfl) hl.1 dJ1_charAt_3b067_3 ?_
  refine lv_aload_n C.1 C.2.1 dJ1_charAt_3b067_6 rfl (lv_at hl 0 rfl) ?_
  refine lv_iload_n C.1 C.2.1 dJ1_charAt_3b067_7 rfl (lv_at hl 1 rfl) ?_
  refine va_tb C.1 C.2.1 hF.2 va_S.rf hi rfl dJ1_charAt_3b067_8 ?_
  refine lv_sipush (v := 255) C.1 C.2.1 dJ1_charAt_3b067_9 (by decide) ?_
  refine lv_iand C.1 C.2.1 dJ1_charAt_3b067_12 ?_
  refine lv_i2c C.1 C.2.1 dJ1_charAt_3b067_13 (s_wb _ (s_clamp hi)).1 ?_
  exact W.zret C.1 C.2.1 hr (s_wb _ (s_clamp hi)).2 (fun t ht _ => ⟨rfl, ht⟩) (fun _ h => by cases h) dJ1_charAt_3b067_14 hlk
theorem c_J0i (l : Launch) (A : Nat → Prop) (a : Nat) : s_Met l yJ0_isLatin1_aae02 cJ0_isLatin1_aae02 1 (some .boolean) rs_0 [.ref a] (s_F A a) (some (.int 1)) := by
  refine s_met (L0 := [(0, .ref a)]) (by decide +kernel) (Nat.le_of_ble_eq_true rfl) rfl ?_
  intro p e s m args below meth c ls C hr hlk hF hl
  obtain ⟨hst, v, h1, h2, h3, h4⟩ := hF
  refine va_gets C.1 C.2.1 hst.1 va_S.rf C.2.2.2.1 (C.2.2.2.2 _ tf_RJ0_38) (fun _ h => h) dJ0_isLatin1_aae02_0 ?_
  refine lv_if_eq (tgt := 17) C.1 C.2.1 dJ0_isLatin1_aae02_3 (by decide) (fun z => absurd z (by decide)) (fun _ => ?_)
  refine lv_aload_n C.1 C.2.1 dJ0_isLatin1_aae02_6 rfl (lv_at hl 0 rfl) ?_
  refine vk_getf C.1 C.2.1 h2 va_S.rf C.2.2.2.1 (C.2.2.2.2 _ tf_RJ0_15) (fun _ h => h) dJ0_isLatin1_aae02_7 ?_
  refine lv_if_ne (tgt := 17) C.1 C.2.1 dJ0_isLatin1_aae02_10 (by decide) (fun z => absurd rfl z) (fun _ => ?_)
  refine lv_iconst (v := 1) C.1 C.2.1 dJ0_isLatin1_aae02_13 (by decide) ?_
  refine lv_goto (tgt := 18) C.1 C.2.1 dJ0_isLatin1_aae02_14 (by decide) ?_
  exact W.zret C.1 C.2.1 hr (by decide) (fun t ht _ => ⟨rfl, ht⟩) (fun _ h => by cases h) dJ0_isLatin1_aae02_18 hlk
theorem c_J0o (l : Launch) (A : Nat → Prop) (a : Nat) : s_Met l yJ0_coder_7d493 cJ0_coder_7d493 1 (some .byte) rs_0 [.ref a] (s_F A a) (some (.int 0)) := by
  refine s_met (L0 := [(0, .ref a)]) (by decide +kernel) (Nat.le_of_ble_eq_true rfl) rfl ?_
  intro p e s m args below meth c ls C hr hlk hF hl
  obtain ⟨hst, v, h1, h2, h3, h4⟩ := hF
  refine va_gets C.1 C.2.1 hst.1 va_S.rf C.2.2.2.1 (C.2.2.2.2 _ tf_RJ0_38) (fun _ h => h) dJ0_coder_7d493_0 ?_
  refine lv_if_eq (tgt := 13) C.1 C.2.1 dJ0_coder_7d493_3 (by decide) (fun z => absurd z (by decide)) (fun _ => ?_)
  refine lv_aload_n C.1 C.2.1 dJ0_coder_7d493_6 rfl (lv_at hl 0 rfl) ?_
  refine vk_getf C.1 C.2.1 h2 va_S.rf C.2.2.2.1 (C.2.2.2.2 _ tf_RJ0_15) (fun _ h => h) dJ0_coder_7d493_7 ?_
  refine lv_goto (tgt := 14) C.1 C.2.1 dJ0_coder_7d493_10 (by decide) ?_
  exact W.zret C.1 C.2.1 hr (by decide) (fun t ht _ => ⟨rfl, ht⟩) (fun _ h => by cases h) dJ0_coder_7d493_14 hlk
theorem s_recv {A : Nat → Prop} {a : Nat} {s : State} (h : va_O "java/lang/String" a A s s.heap) : ∃ cellB : Cell, s.heap[a]? = some cellB ∧ cellB.vm.isStatics = false ∧ s.vm.findClass RJ0 = some cellB.cls := by
  obtain ⟨cell, h1, h2, h3, -⟩ := h
  exact ⟨cell, h1, h2, h3⟩
theorem c_J0l (l : Launch) (A : Nat → Prop) (a : Nat) : s_Met l yJ0_length_8abf5 cJ0_length_8abf5 1 (some .int) rs_1 [.ref a] (s_F A a) (some (.int 97)) := by
  refine s_met (L0 := [(0, .ref a)]) (by decide +kernel) (Nat.le_of_ble_eq_true rfl) rfl ?_
  intro p e s m args below meth c ls C hr hlk hF hl
  obtain ⟨hst, v, h1, h2, h3, h4⟩ := id hF
  refine lv_aload_n C.1 C.2.1 dJ0_length_8abf5_0 rfl (lv_at hl 0 rfl) ?_
  refine vk_getf C.1 C.2.1 h3 va_S.rf C.2.2.2.1 (C.2.2.2.2 _ tf_RJ0_9) (fun _ h => h) dJ0_length_8abf5_1 ?_
  refine va_tlen C.1 C.2.1 h4 va_S.rf (v := 97) rfl dJ0_length_8abf5_4 ?_
  refine lv_aload_n C.1 C.2.1 dJ0_length_8abf5_5 rfl (lv_at hl 0 rfl) ?_
  refine s_cv C (st := [.int 97]) (c_J0o l A a) tm_RJ0_335 mv_J0o ⟨rfl, rfl⟩ ⟨Nat.le_of_ble_eq_true rfl, Nat.le_of_ble_eq_true rfl⟩ ⟨s_F.blind, hF.go⟩ (s_recv h1) rfl rfl (Nat.le_of_ble_eq_true rfl) hl.1 dJ0_length_8abf5_6 ?_
  refine lv_ishr C.1 C.2.1 dJ0_length_8abf5_9 ?_
  exact W.iret C.1 C.2.1 hr (fun t ht _ => ⟨rfl, ht⟩) (fun _ h => by cases h) dJ0_length_8abf5_10 hlk
theorem c_J0h (l : Launch) (A : Nat → Prop) (a : Nat) (i : Int32) (hi : vp_in i 97) : s_Met l yJ0_charAt_5068e cJ0_charAt_5068e 2 (some .char) rs_3 [.ref a, .int i] (s_F A a) (some (.int (q_wb.getD i.toNatClampNeg 0))) := by
  refine s_met (L0 := [(0, .ref a), (1, .int i)]) (by decide +kernel) (Nat.le_of_ble_eq_true rfl) rfl ?_
  intro p e s m args below meth c ls C hr hlk hF hl
  obtain ⟨hst, v, h1, h2, h3, h4⟩ := id hF
  refine lv_aload_n C.1 C.2.1 dJ0_charAt_5068e_0 rfl (lv_at hl 0 rfl) ?_
  refine s_cv C (st := []) (c_J0i l A a) tm_RJ0_492 mv_J0i ⟨rfl, rfl⟩ ⟨Nat.le_of_ble_eq_true rfl, Nat.le_of_ble_eq_true rfl⟩ ⟨s_F.blind, hF.go⟩ (s_recv h1) rfl rfl (Nat.le_of_ble_eq_true rfl) hl.1 dJ0_charAt_5068e_1 ?_
  refine lv_if_eq (tgt := 16) C.1 C.2.1 dJ0_charAt_5068e_4 (by decide) (fun z => absurd z (by decide)) (fun _ => ?_)
  refine lv_aload_n C.1 C.2.1 dJ0_charAt_5068e_7 rfl (lv_at hl 0 rfl) ?_
  refine vk_getf C.1 C.2.1 h3 va_S.rf C.2.2.2.1 (C.2.2.2.2 _ tf_RJ0_9) (fun _ h => h) dJ0_charAt_5068e_8 ?_
  refine lv_iload_n C.1 C.2.1 dJ0_charAt_5068e_11 rfl (lv_at hl 1 rfl) ?_
  refine s_cs C (st := []) (c_J1c l A v i hi) tm_RJ0_495 ms_J1c ⟨rfl, rfl⟩ ⟨Nat.le_of_ble_eq_true rfl, Nat.le_of_ble_eq_true rfl⟩ ⟨fun U g mk a h => ⟨h.1.moved (U := U.calling g mk a) (Vm.Alike.refl U.vm) (fun _ _ _ => rfl), (va_T.moved (U := U.calling g mk a) (Vm.Alike.refl U.vm) h.2)⟩, fun U hU hW => by rw [hU]; exact ⟨hst.moved hW.alike (fun _ _ _ => rfl), va_T.moved hW.alike h4⟩⟩ rfl rfl (Nat.le_of_ble_eq_true rfl) hl.1 dJ0_charAt_5068e_12 ?_
  exact W.zret C.1 C.2.1 hr (s_wb _ (s_clamp hi)).2 (fun t ht _ => ⟨rfl, ht⟩) (fun _ h => by cases h) dJ0_charAt_5068e_15 hlk
