def rs_all (Rel : Mem → Mem → Prop) : Prop := rs_feed Rel ∧ rs_text Rel ∧ rs_fault Rel ∧ rs_named Rel ∧ rs_soul Rel ∧ rs_bus Rel ∧ rs_queue Rel ∧ rs_lets Rel ∧ rs_law Rel ∧ rs_move Rel ∧ rs_give Rel ∧ rs_off Rel ∧ rs_go Rel ∧ rs_ahead Rel ∧ rs_next Rel ∧ rs_meet Rel ∧ rs_goes Rel ∧ rs_empty Rel ∧ rs_order Rel ∧ rs_trips Rel ∧ rs_match Rel ∧ rs_coins Rel ∧ rs_rests Rel ∧ rs_rest Rel ∧ rs_dry Rel ∧ rs_see Rel ∧ rs_strike Rel ∧ rs_known Rel ∧ rs_everies Rel ∧ rs_ask Rel ∧ rs_chance Rel ∧ rs_tried Rel ∧ rs_undo Rel ∧ rs_keep Rel ∧ rs_back Rel ∧ rs_count Rel
section QLOOP
variable {p : Program} {l : Launch} {e : Env} {s : State} {m : MethodId} {below : List Frame} {meth : Method} {c : Code} {b Ln : Nat} {xs : Nat → Int32} {D : va_G} {adC adM : Nat → Nat} {cA : Nat → ClassId} {o : Nat}
theorem law_loop (C : CL p s m c b Ln xs D adC adM cA o) (hr : meth.sig.returnType = ret) (hlk : meth.locks = false) (hst : l.stackTraces = false) (hXS : q_XS (fun q => s.heap.size ≤ q) s s.heap) {Rel : Mem → Mem → Prop} (hrs : rs_all Rel) : ∀ (n : Nat) (i : Int) (w : Int) (kc ks : Nat) (Mc Mm : Mem), Rel Mc Mm → 0 ≤ i → i ≤ 3072 + 6 → (Ln : Int) < i + 6 * n → kc + n ≤ 601024 → ks + 6 * n ≤ 7293034 → WL p l e s m below meth c b D adC adM cA o (lw_Z below #[Value.ref b] s) Mc Mm w kc ks 23 [(0, .ref b), (1, .ref (adC 0)), (2, .ref (adM 0)), (3, .ref o), (4, .int (qI i))] [] := by
  have hLn := C.2.2.2.2.2.2.2
  intro n
  induction n with
  | zero =>
    intro i w kc ks Mc Mm hRel h0 h1 h2 h3 h4
    refine l_il C dL_law_23 (k := 4) rfl ?_
    refine l_aln C dL_law_25 (k := 0) rfl ?_
    refine l_slen C dL_law_26 ?_
    refine l_bi C dL_law_27 (by decide) ?_
    refine l_isub C dL_law_29 ?_
    refine l_cgt C (tgt := 1419) dL_law_30 (by decide) (fun z => ?_) (fun z => ?_)
    · refine l_ic C dL_law_1419 ?_
      intro H locs ls hC hT hM ho hS hl
      refine va_forget (fun q hq => hS.2.2 q hq) ?_
      refine W.widen (k := 601024) (n := 7293034) (by omega) (by omega) ?_
      exact lw_ret C.1.1 C.1.2.1 hr hlk dL_law_1420
    · exfalso
      rw [w32_id (by omega), w32_id (by omega)] at z
      omega
  | succ n ih =>
    intro i w kc ks Mc Mm hRel h0 h1 h2 h3 h4
    refine l_il C dL_law_23 (k := 4) rfl ?_
    refine l_aln C dL_law_25 (k := 0) rfl ?_
    refine l_slen C dL_law_26 ?_
    refine l_bi C dL_law_27 (by decide) ?_
    refine l_isub C dL_law_29 ?_
    refine l_cgt C (tgt := 1419) dL_law_30 (by decide) (fun z => ?_) (fun z => ?_)
    · refine l_ic C dL_law_1419 ?_
      intro H locs ls hC hT hM ho hS hl
      refine va_forget (fun q hq => hS.2.2 q hq) ?_
      refine W.widen (k := 601024) (n := 7293034) (by omega) (by omega) ?_
      exact lw_ret C.1.1 C.1.2.1 hr hlk dL_law_1420
    rw [w32_id (by omega), w32_id (by omega)] at z
    have hi : 0 ≤ i ∧ i + 6 ≤ (Ln : Int) := ⟨h0, by omega⟩
    have again : ∀ (w' : Int) (Mc1 Mm1 : Mem), Rel Mc1 Mm1 → WL p l e s m below meth c b D adC adM cA o (lw_Z below #[Value.ref b] s) Mc1 Mm1 w' (kc + 1) (ks + 6) 1413 [(0, .ref b), (1, .ref (adC 0)), (2, .ref (adM 0)), (3, .ref o), (4, .int (qI i))] [] := by
      intro w' Mc1 Mm1 hR1
      refine l_inc C (L1 := [(4, .int (qI (i + 6))), (0, .ref b), (1, .ref (adC 0)), (2, .ref (adM 0)), (3, .ref o)]) dL_law_1413 (k := 4) rfl (by decide) rfl ?_
      refine l_goto C (tgt := 23) dL_law_1416 (by decide) ?_
      refine l_drop [1, 2, 3, 4, 0] rfl ?_
      exact ih (i + 6) w' (kc + 1) (ks + 6) Mc1 Mm1 hR1 (by omega) (by omega) (by omega) (by omega) (by omega)
    refine l_aln C dL_law_33 (k := 0) rfl ?_
    refine l_il C dL_law_34 (k := 4) rfl ?_
    refine l_sld C (by rw [w32_id (by omega)]; omega) dL_law_36 ?_
    refine l_bi C dL_law_37 (by decide) ?_
    refine l_iand C dL_law_39 ?_
    by_cases c0 : w32 (q_and (q_sx xs (w32 i)) 63) = 0
    · refine l_tin C (tgt := 200) dL_law_40 c0 (by decide) rfl (by decide) ?_
      exact lc_feed C hi ⟨by omega, by omega⟩ hrs.1 hRel (again w)
    by_cases c1 : w32 (q_and (q_sx xs (w32 i)) 63) = 1
    · refine l_tin C (tgt := 273) dL_law_40 c1 (by decide) rfl (by decide) ?_
      exact lc_text C hi ⟨by omega, by omega⟩ hrs.2.1 hRel (again w)
    by_cases c2 : w32 (q_and (q_sx xs (w32 i)) 63) = 2
    · refine l_tin C (tgt := 298) dL_law_40 c2 (by decide) rfl (by decide) ?_
      exact lc_fault C hi ⟨by omega, by omega⟩ hrs.2.2.1 hRel (again w)
    by_cases c3 : w32 (q_and (q_sx xs (w32 i)) 63) = 3
    · refine l_tin C (tgt := 323) dL_law_40 c3 (by decide) rfl (by decide) ?_
      exact lc_named C hi ⟨by omega, by omega⟩ hrs.2.2.2.1 hRel (again w)
    by_cases c4 : w32 (q_and (q_sx xs (w32 i)) 63) = 4
    · refine l_tin C (tgt := 360) dL_law_40 c4 (by decide) rfl (by decide) ?_
      exact lc_soul C hi hst hXS ⟨by omega, by omega⟩ hrs.2.2.2.2.1 hRel (again)
    by_cases c5 : w32 (q_and (q_sx xs (w32 i)) 63) = 5
    · refine l_tin C (tgt := 428) dL_law_40 c5 (by decide) rfl (by decide) ?_
      exact lc_bus C hi ⟨by omega, by omega⟩ hrs.2.2.2.2.2.1 hRel (again w)
    by_cases c6 : w32 (q_and (q_sx xs (w32 i)) 63) = 6
    · refine l_tin C (tgt := 465) dL_law_40 c6 (by decide) rfl (by decide) ?_
      exact lc_queue C hi ⟨by omega, by omega⟩ hrs.2.2.2.2.2.2.1 hRel (again w)
    by_cases c7 : w32 (q_and (q_sx xs (w32 i)) 63) = 7
    · refine l_tin C (tgt := 490) dL_law_40 c7 (by decide) rfl (by decide) ?_
      exact lc_lets C hi ⟨by omega, by omega⟩ hrs.2.2.2.2.2.2.2.1 hRel (again w)
    by_cases c8 : w32 (q_and (q_sx xs (w32 i)) 63) = 8
    · refine l_tin C (tgt := 515) dL_law_40 c8 (by decide) rfl (by decide) ?_
      exact lc_law C hi ⟨by omega, by omega⟩ hrs.2.2.2.2.2.2.2.2.1 hRel (again w)
    by_cases c9 : w32 (q_and (q_sx xs (w32 i)) 63) = 9
    · refine l_tin C (tgt := 565) dL_law_40 c9 (by decide) rfl (by decide) ?_
      exact lc_move C hi ⟨by omega, by omega⟩ hrs.2.2.2.2.2.2.2.2.2.1 hRel (again w)
    by_cases c10 : w32 (q_and (q_sx xs (w32 i)) 63) = 10
    · refine l_tin C (tgt := 602) dL_law_40 c10 (by decide) rfl (by decide) ?_
      exact lc_give C hi ⟨by omega, by omega⟩ hrs.2.2.2.2.2.2.2.2.2.2.1 hRel (again w)
    by_cases c11 : w32 (q_and (q_sx xs (w32 i)) 63) = 11
    · refine l_tin C (tgt := 639) dL_law_40 c11 (by decide) rfl (by decide) ?_
      exact lc_off C hi ⟨by omega, by omega⟩ hrs.2.2.2.2.2.2.2.2.2.2.2.1 hRel (again w)
    by_cases c12 : w32 (q_and (q_sx xs (w32 i)) 63) = 12
    · refine l_tin C (tgt := 664) dL_law_40 c12 (by decide) rfl (by decide) ?_
      exact lc_go C hi ⟨by omega, by omega⟩ hrs.2.2.2.2.2.2.2.2.2.2.2.2.1 hRel (again w)
    by_cases c13 : w32 (q_and (q_sx xs (w32 i)) 63) = 13
    · refine l_tin C (tgt := 689) dL_law_40 c13 (by decide) rfl (by decide) ?_
      exact lc_ahead C hi ⟨by omega, by omega⟩ hrs.2.2.2.2.2.2.2.2.2.2.2.2.2.1 hRel (again w)
    by_cases c14 : w32 (q_and (q_sx xs (w32 i)) 63) = 14
    · refine l_tin C (tgt := 738) dL_law_40 c14 (by decide) rfl (by decide) ?_
      exact lc_next C hi ⟨by omega, by omega⟩ hrs.2.2.2.2.2.2.2.2.2.2.2.2.2.2.1 hRel (again w)
    by_cases c15 : w32 (q_and (q_sx xs (w32 i)) 63) = 15
    · refine l_tin C (tgt := 763) dL_law_40 c15 (by decide) rfl (by decide) ?_
      exact lc_meet C hi ⟨by omega, by omega⟩ hrs.2.2.2.2.2.2.2.2.2.2.2.2.2.2.2.1 hRel (again w)
    by_cases c16 : w32 (q_and (q_sx xs (w32 i)) 63) = 16
    · refine l_tin C (tgt := 800) dL_law_40 c16 (by decide) rfl (by decide) ?_
      exact lc_goes C hi ⟨by omega, by omega⟩ hrs.2.2.2.2.2.2.2.2.2.2.2.2.2.2.2.2.1 hRel (again w)
    by_cases c17 : w32 (q_and (q_sx xs (w32 i)) 63) = 17
    · refine l_tin C (tgt := 825) dL_law_40 c17 (by decide) rfl (by decide) ?_
      exact lc_empty C hi ⟨by omega, by omega⟩ hrs.2.2.2.2.2.2.2.2.2.2.2.2.2.2.2.2.2.1 hRel (again w)
    by_cases c18 : w32 (q_and (q_sx xs (w32 i)) 63) = 18
    · refine l_tin C (tgt := 838) dL_law_40 c18 (by decide) rfl (by decide) ?_
      exact lc_order C hi ⟨by omega, by omega⟩ hrs.2.2.2.2.2.2.2.2.2.2.2.2.2.2.2.2.2.2.1 hRel (again w)
    by_cases c19 : w32 (q_and (q_sx xs (w32 i)) 63) = 19
    · refine l_tin C (tgt := 863) dL_law_40 c19 (by decide) rfl (by decide) ?_
      exact lc_trips C hi ⟨by omega, by omega⟩ hrs.2.2.2.2.2.2.2.2.2.2.2.2.2.2.2.2.2.2.2.1 hRel (again w)
    by_cases c20 : w32 (q_and (q_sx xs (w32 i)) 63) = 20
    · refine l_tin C (tgt := 888) dL_law_40 c20 (by decide) rfl (by decide) ?_
      exact lc_match C hi ⟨by omega, by omega⟩ hrs.2.2.2.2.2.2.2.2.2.2.2.2.2.2.2.2.2.2.2.2.1 hRel (again w)
    by_cases c21 : w32 (q_and (q_sx xs (w32 i)) 63) = 21
    · refine l_tin C (tgt := 913) dL_law_40 c21 (by decide) rfl (by decide) ?_
      exact lc_coins C hi ⟨by omega, by omega⟩ hrs.2.2.2.2.2.2.2.2.2.2.2.2.2.2.2.2.2.2.2.2.2.1 hRel (again w)
    by_cases c22 : w32 (q_and (q_sx xs (w32 i)) 63) = 22
    · refine l_tin C (tgt := 938) dL_law_40 c22 (by decide) rfl (by decide) ?_
      exact lc_rests C hi ⟨by omega, by omega⟩ hrs.2.2.2.2.2.2.2.2.2.2.2.2.2.2.2.2.2.2.2.2.2.2.1 hRel (again w)
    by_cases c23 : w32 (q_and (q_sx xs (w32 i)) 63) = 23
    · refine l_tin C (tgt := 975) dL_law_40 c23 (by decide) rfl (by decide) ?_
      exact lc_rest C hi ⟨by omega, by omega⟩ hrs.2.2.2.2.2.2.2.2.2.2.2.2.2.2.2.2.2.2.2.2.2.2.2.1 hRel (again w)
    by_cases c24 : w32 (q_and (q_sx xs (w32 i)) 63) = 24
    · refine l_tin C (tgt := 1024) dL_law_40 c24 (by decide) rfl (by decide) ?_
      exact lc_dry C hi ⟨by omega, by omega⟩ hrs.2.2.2.2.2.2.2.2.2.2.2.2.2.2.2.2.2.2.2.2.2.2.2.2.1 hRel (again w)
    by_cases c25 : w32 (q_and (q_sx xs (w32 i)) 63) = 25
    · refine l_tin C (tgt := 1062) dL_law_40 c25 (by decide) rfl (by decide) ?_
      exact lc_see C hi ⟨by omega, by omega⟩ hrs.2.2.2.2.2.2.2.2.2.2.2.2.2.2.2.2.2.2.2.2.2.2.2.2.2.1 hRel (again w)
    by_cases c26 : w32 (q_and (q_sx xs (w32 i)) 63) = 26
    · refine l_tin C (tgt := 1127) dL_law_40 c26 (by decide) rfl (by decide) ?_
      exact lc_strike C hi ⟨by omega, by omega⟩ hrs.2.2.2.2.2.2.2.2.2.2.2.2.2.2.2.2.2.2.2.2.2.2.2.2.2.2.1 hRel (again w)
    by_cases c27 : w32 (q_and (q_sx xs (w32 i)) 63) = 27
    · refine l_tin C (tgt := 1152) dL_law_40 c27 (by decide) rfl (by decide) ?_
      exact lc_known C hi ⟨by omega, by omega⟩ hrs.2.2.2.2.2.2.2.2.2.2.2.2.2.2.2.2.2.2.2.2.2.2.2.2.2.2.2.1 hRel (again w)
    by_cases c28 : w32 (q_and (q_sx xs (w32 i)) 63) = 28
    · refine l_tin C (tgt := 1177) dL_law_40 c28 (by decide) rfl (by decide) ?_
      exact lc_everies C hi ⟨by omega, by omega⟩ hrs.2.2.2.2.2.2.2.2.2.2.2.2.2.2.2.2.2.2.2.2.2.2.2.2.2.2.2.2.1 hRel (again w)
    by_cases c29 : w32 (q_and (q_sx xs (w32 i)) 63) = 29
    · refine l_tin C (tgt := 1202) dL_law_40 c29 (by decide) rfl (by decide) ?_
      exact lc_ask C hi ⟨by omega, by omega⟩ hrs.2.2.2.2.2.2.2.2.2.2.2.2.2.2.2.2.2.2.2.2.2.2.2.2.2.2.2.2.2.1 hRel (again w)
    by_cases c30 : w32 (q_and (q_sx xs (w32 i)) 63) = 30
    · refine l_tin C (tgt := 1239) dL_law_40 c30 (by decide) rfl (by decide) ?_
      exact lc_chance C hi ⟨by omega, by omega⟩ hrs.2.2.2.2.2.2.2.2.2.2.2.2.2.2.2.2.2.2.2.2.2.2.2.2.2.2.2.2.2.2.1 hRel (again w)
    by_cases c31 : w32 (q_and (q_sx xs (w32 i)) 63) = 31
    · refine l_tin C (tgt := 1300) dL_law_40 c31 (by decide) rfl (by decide) ?_
      exact lc_tried C hi ⟨by omega, by omega⟩ hrs.2.2.2.2.2.2.2.2.2.2.2.2.2.2.2.2.2.2.2.2.2.2.2.2.2.2.2.2.2.2.2.1 hRel (again w)
    by_cases c32 : w32 (q_and (q_sx xs (w32 i)) 63) = 32
    · refine l_tin C (tgt := 1349) dL_law_40 c32 (by decide) rfl (by decide) ?_
      exact lc_undo C hi ⟨by omega, by omega⟩ hrs.2.2.2.2.2.2.2.2.2.2.2.2.2.2.2.2.2.2.2.2.2.2.2.2.2.2.2.2.2.2.2.2.1 hRel (again w)
    by_cases c33 : w32 (q_and (q_sx xs (w32 i)) 63) = 33
    · refine l_tin C (tgt := 1362) dL_law_40 c33 (by decide) rfl (by decide) ?_
      exact lc_keep C hi ⟨by omega, by omega⟩ hrs.2.2.2.2.2.2.2.2.2.2.2.2.2.2.2.2.2.2.2.2.2.2.2.2.2.2.2.2.2.2.2.2.2.1 hRel (again w)
    by_cases c34 : w32 (q_and (q_sx xs (w32 i)) 63) = 34
    · refine l_tin C (tgt := 1375) dL_law_40 c34 (by decide) rfl (by decide) ?_
      exact lc_back C hi ⟨by omega, by omega⟩ hrs.2.2.2.2.2.2.2.2.2.2.2.2.2.2.2.2.2.2.2.2.2.2.2.2.2.2.2.2.2.2.2.2.2.2.1 hRel (again w)
    by_cases c35 : w32 (q_and (q_sx xs (w32 i)) 63) = 35
    · refine l_tin C (tgt := 1388) dL_law_40 c35 (by decide) rfl (by decide) ?_
      exact lc_count C hi ⟨by omega, by omega⟩ hrs.2.2.2.2.2.2.2.2.2.2.2.2.2.2.2.2.2.2.2.2.2.2.2.2.2.2.2.2.2.2.2.2.2.2.2 hRel (again w)
    refine l_tout C (tgt := 1413) dL_law_40 (by omega) (by decide) ?_
    refine l_widen (Nat.le_succ _) (Nat.le_add_right _ 6) ?_
    exact again w Mc Mm hRel
end QLOOP
