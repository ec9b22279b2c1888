section QLS
variable {p : Program} {l : Launch} {e : Env} {s : State} {m : MethodId} {below : List Frame} {meth : Method} {c : Code} {b Ln : Nat} {xs : Nat → Int32} {D : va_G} {adC adM : Nat → Nat} {cA : Nat → ClassId} {o : Nat} {Q : State → Prop} {Mc Mm : Mem} {wo : Int} {kc ks : Nat} {pc : Nat} {L : List (Nat × Value)} {st : List Value}
theorem q_goodW : GoodIn wsQ (va_wsS RL 39 yL_soul (Cond.codeWith yL_soul cL_soul 5 (some .int) [(0, 10, 13, 13), (0, 10, 17, 15)] :: wsQ)) := by
  intro x hx
  have hm : x ∈ wsQ := by
    unfold va_wsS at hx
    simp only [List.cons_append, List.nil_append, List.mem_cons] at hx
    rcases hx with rfl | rfl | rfl | rfl | h
    · exact tm_RL_39
    · exact ts_L_soul
    · exact tn_RL
    · exact td_L_soul
    · exact h
  exact ⟨hm, wsQ_good x hm⟩
theorem l_soul (C : CL p s m c b Ln xs D adC adM cA o) (hst : l.stackTraces = false) (hXS : q_XS (fun q => s.heap.size ≤ q) s s.heap) {a0 a1 k0 r0 : Int} (h : f_X9_soul a0 a1 Mc = some (k0, r0)) (hks : kc + 1 ≤ 601024 ∧ ks + 6 ≤ 7293034) (hW : (st.map fun v => v.category).sum ≤ 8) (d : decode code pc = .ok (.invokestatic 39, 3)) (kk : WL p l e s m below meth c b D adC adM cA o Q Mc Mm (if k0 = 0 then w32 r0 else wo) (kc + 1) (ks + 6) (pc + 3) L (.int (qI k0) :: st)) : WL p l e s m below meth c b D adC adM cA o Q Mc Mm wo kc ks pc L (.ref o :: .int (qI a1) :: .int (qI a0) :: .ref (adC 0) :: st) := by
  intro H locs ls hC hT hM ho hS hl
  have hsub : ∀ q, xA adC o q → s.heap.size ≤ q := fun q hq => by
    rcases hq with ⟨n, h1, h2⟩ | rfl
    · rw [h2]; exact (C.2.2.2.1.1 n h1).1
    · exact C.2.2.2.1.2.2.2
  have hr := vx_runSW (As := [.ref (adC 0), .int (qI a0), .int (qI a1), .ref o]) (rest := st) (cells := kc) (slots := ks) C.1 (c_L_soul (D := D) (cA := cA) (l := l) hst C.2.2.1.1 (fun n hn => (C.2.2.2.1.1 n hn).2) a0 a1 Mc k0 r0 wo h) (vx_cwSW 4 C.1.2.2.2.2 q_goodW rfl rfl rfl (by decide +kernel) ⟨Nat.le_of_ble_eq_true rfl, Nat.le_of_ble_eq_true rfl⟩) ⟨fun a U g mk q => by
      obtain ⟨q0, qP, qT, qO, qK, qX, qS⟩ := q
      exact ⟨q0, qP, qT, qO, va_K.moved (u := U) (U := U.calling g mk a) (Vm.Alike.refl U.vm) qK, q_X.same (s := U) (U := U.calling g mk a) qX rfl, q_XS.same (s := U) (U := U.calling g mk a) qS rfl⟩, fun U hU hW => ⟨rfl, by rw [hU]; exact hC, hT, by rw [hU]; exact ho, va_K.moved hW.alike C.2.1, by rw [hU]; exact (C.2.2.2.2.1.moved hW hS.2.1).narrow hsub, by rw [hU]; exact (hXS.moved hW hS.2.1).narrow hsub⟩⟩ rfl rfl hl.1 rfl (lv_room hW) d ⟨hks.1, hks.2⟩ (g := F0 m pc ls (.ref o :: .int (qI a1) :: .int (qI a0) :: .ref (adC 0) :: st)) (R := room_1) (locs := locs) (below := below) (meth := meth) (e := e) (H := H)
  intro T0 hT0 X
  obtain ⟨v, st₀, t, T', L2, h0, X', hL, e1, e2, ⟨hv2, hP1, hT1, hO1, hz, hkp⟩, stp⟩ := hr T0 hT0 X
  cases hv2
  rw [h0] at hz hkp
  have hS1 : va_S (fun q => s.heap.size ≤ q) s.heap T'.heap (locs ++ L2) := ⟨Nat.le_trans hS.1 (by rw [e1]; exact hz), fun q h1 h2 => by rw [e1, hkp q (Nat.lt_of_lt_of_le h1 hS.1) (fun z => h2 (hsub q z))]; exact hS.2.1 q h1 h2, fun q hq => by
      rcases List.mem_append.mp hq with h | h
      · exact hS.2.2 q h
      · exact hsub _ (hL q h)⟩
  have hM1 : q_P syM D adM cA Mm T'.heap := fun n hn => by
    have h9 := hM n hn
    have h8 : ¬ xA adC o (adM n) := fun z => by
      rcases z with ⟨n2, hn2, e9⟩ | e9
      · exact C.2.2.2.1.2.2.1 n2 n hn2 hn e9.symm
      · exact (C.2.2.2.1.2.1 n hn).2 e9
    exact h9.kept (by rw [e1]; exact hkp _ h9.lt h8)
  obtain ⟨t2, a1', b1⟩ := kk T'.heap (locs ++ L2) ls (by rw [e1]; exact hP1) hT1 hM1 (by rw [e1]; exact hO1) hS1 hl T' rfl X'
  exact ⟨t2, stp t2 a1', b1⟩
theorem l_zne (C : CL p s m c b Ln xs D adC adM cA o) {x : Int} {off : Int} {tgt : Nat} (d : decode code pc = .ok (.ifCond .ne off, 3)) (ht : (pc : Int) + off = (tgt : Int)) (k1 : ¬ w32 x = 0 → WL p l e s m below meth c b D adC adM cA o Q Mc Mm wo kc ks tgt L st) (k2 : w32 x = 0 → WL p l e s m below meth c b D adC adM cA o Q Mc Mm wo kc ks (pc + 3) L st) : WL p l e s m below meth c b D adC adM cA o Q Mc Mm wo kc ks pc L (.int (qI x) :: st) := by
  intro H locs ls hC hT hM ho hS hl
  have e0 : qI x = 0 ↔ w32 x = 0 := by
    have : (qI x = qI 0) ↔ w32 x = w32 0 := qI_eq
    rwa [qI_0, w32_0] at this
  exact lv_if_ne C.1.1 C.1.2.1 d ht (fun q => k1 (fun z => q (e0.mpr z)) H locs ls hC hT hM ho hS hl) (fun q => k2 (e0.mp q) H locs ls hC hT hM ho hS hl)
end QLS
def rs_soul (Rel : Mem → Mem → Prop) : Prop := ∀ (Mc Mm : Mem) (a0 a1 : Int), Rel Mc Mm → in32 a0 → in32 a1 → ∃ (k r r' : Int) (Mm1 : Mem), f_X9_soul a0 a1 Mc = some (k, r) ∧ f_X10_soul a0 a1 Mm = some (r', Mm1) ∧ f_X10_thrown Mm1 = some k ∧ (k = 0 ∨ k = 1 ∨ k = 2) ∧ (k = 0 → r' = r) ∧ Rel Mc Mm1
section QLS2
variable {p : Program} {l : Launch} {e : Env} {s : State} {m : MethodId} {below : List Frame} {meth : Method} {c : Code} {b Ln : Nat} {xs : Nat → Int32} {D : va_G} {adC adM : Nat → Nat} {cA : Nat → ClassId} {o : Nat} {Q : State → Prop} {wo : Int} {kc ks : Nat}
theorem lc_soul (C : CL p s m c b Ln xs D adC adM cA o) {i : Int} (hi : 0 ≤ i ∧ i + 6 ≤ (Ln : Int)) (hst : l.stackTraces = false) (hXS : q_XS (fun q => s.heap.size ≤ q) s s.heap) (hks : kc + 1 ≤ 601024 ∧ ks + 6 ≤ 7293034) {Rel : Mem → Mem → Prop} (hrel : rs_soul Rel) {Mc Mm : Mem} (hRel : Rel Mc Mm) (kk : ∀ w' Mc1 Mm1, Rel Mc1 Mm1 → WL p l e s m below meth c b D adC adM cA o Q Mc1 Mm1 w' (kc + 1) (ks + 6) 1413 [(0, .ref b), (1, .ref (adC 0)), (2, .ref (adM 0)), (3, .ref o), (4, .int (qI i))] []) : WL p l e s m below meth c b D adC adM cA o Q Mc Mm wo kc ks 360 [(0, .ref b), (1, .ref (adC 0)), (2, .ref (adM 0)), (3, .ref o), (4, .int (qI i))] [] := by
  have hLn := C.2.2.2.2.2.2.2
  refine l_aln C dL_law_360 (k := 1) rfl ?_
  refine l_aln C dL_law_361 (k := 0) rfl ?_
  refine l_il C dL_law_362 (k := 4) rfl ?_
  refine l_ic C dL_law_364 ?_
  refine l_iadd C dL_law_365 ?_
  refine l_sld C (by rw [w32_id (by omega)]; omega) dL_law_366 ?_
  refine l_aln C dL_law_367 (k := 0) rfl ?_
  refine l_il C dL_law_368 (k := 4) rfl ?_
  refine l_ic C dL_law_370 ?_
  refine l_iadd C dL_law_371 ?_
  refine l_sld C (by rw [w32_id (by omega)]; omega) dL_law_372 ?_
  refine l_aln C dL_law_373 (k := 3) rfl ?_
  obtain ⟨k, r, r', Mm1, e1, e2, e3, hk, hkr, hR⟩ := hrel Mc Mm (q_sx xs (w32 (i + 1))) (q_sx xs (w32 (i + 2))) hRel (q_sx_in _ _) (q_sx_in _ _)
  refine l_soul C hst hXS (st := []) e1 hks (Nat.le_of_ble_eq_true rfl) dL_law_374 ?_
  refine l_is C (L1 := [(5, .int (qI k)), (0, .ref b), (1, .ref (adC 0)), (2, .ref (adM 0)), (3, .ref o), (4, .int (qI i))]) dL_law_377 (by decide) rfl ?_
  refine l_aln C dL_law_379 (k := 3) rfl ?_
  refine l_aln C dL_law_380 (k := 1) rfl ?_
  refine l_il C dL_law_381 (k := 5) rfl ?_
  refine l_ic C dL_law_383 ?_
  refine l_iadd C dL_law_384 ?_
  refine l_sld C (by rw [w32_id (by omega)]; omega) dL_law_385 ?_
  refine l_aln C dL_law_386 (k := 1) rfl ?_
  refine l_il C dL_law_387 (k := 5) rfl ?_
  refine l_ic C dL_law_389 ?_
  refine l_iadd C dL_law_390 ?_
  refine l_sld C (by rw [w32_id (by omega)]; omega) dL_law_391 ?_
  refine l_cMi C (st := []) (c_X10_soul C.2.2.1.2 (q_sx xs (w32 (i + 1))) (q_sx xs (w32 (i + 2))) Mm r' Mm1 e2) tm_RL_44 mw_X10_soul ⟨rfl, rfl⟩ ⟨Nat.le_of_ble_eq_true rfl, Nat.le_of_ble_eq_true rfl⟩ km_0 clX10 ⟨hks.1, hks.2⟩ rfl rfl (Nat.le_of_ble_eq_true rfl) dL_law_392 ?_
  refine l_is C (L1 := [(6, .int (qI r')), (5, .int (qI k)), (0, .ref b), (1, .ref (adC 0)), (2, .ref (adM 0)), (3, .ref o), (4, .int (qI i))]) dL_law_395 (by decide) rfl ?_
  refine l_aln C dL_law_397 (k := 4) rfl ?_
  refine l_cMi C (st := []) (c_X10_thrown C.2.2.1.2 Mm1 k e3) tm_RL_45 mw_X10_thrown ⟨rfl, rfl⟩ ⟨Nat.le_of_ble_eq_true rfl, Nat.le_of_ble_eq_true rfl⟩ km_0 clX10 ⟨hks.1, hks.2⟩ rfl rfl (Nat.le_of_ble_eq_true rfl) dL_law_398 ?_
  refine l_il C dL_law_401 (k := 1) rfl ?_
  refine l_ceq C (tgt := 408) dL_law_403 (by decide) (fun _ => ?_) (fun z => absurd rfl z)
  refine l_il C dL_law_408 (k := 1) rfl ?_
  refine l_zne C (tgt := 425) dL_law_410 (by decide) (fun z => ?_) (fun z => ?_)
  · refine l_goto C (tgt := 1413) dL_law_425 (by decide) ?_
    refine l_drop [2, 3, 4, 5, 6] rfl ?_
    exact kk _ Mc Mm1 hR
  · have hk0 : k = 0 := by
      rcases hk with h | h | h
      · exact h
      · rw [h] at z; exact absurd z (by decide)
      · rw [h] at z; exact absurd z (by decide)
    refine l_aln C dL_law_413 (k := 5) rfl ?_
    refine l_ic C dL_law_414 ?_
    refine l_old C dL_law_415 ?_
    refine l_il C dL_law_416 (k := 0) rfl ?_
    refine l_i2l C dL_law_418 ?_
    refine l_lcmp C dL_law_419 ?_
    refine l_zeq C (tgt := 425) dL_law_420 (by decide) (fun _ => ?_) (fun z => absurd ?_ z)
    · refine l_goto C (tgt := 1413) dL_law_425 (by decide) ?_
      refine l_drop [2, 3, 4, 5, 6] rfl ?_
      exact kk _ Mc Mm1 hR
    · rw [if_pos hk0, hkr hk0]
      exact q_cmp_rr _
end QLS2
