theorem tmo_X0_init : Cond.methodLink RX0 3 objectInit ∈ wsQ := wq_2 (List.mem_of_getElem? (i := 166) rfl) rfl
def w_X0_init (cA : Nat → ClassId) (h0 : Nat) (q : Nat → Nat) : va_W := [(h0, .inr (0, [.ref (q 0), .ref (q 1), .ref (q 2), .int (qI 0)])), ((q 0), .inl (cA 2, 20, .inl (fun _ => qI 0))), ((q 1), .inl (cA 2, 20, .inl (fun _ => qI 0))), ((q 2), .inl (cA 2, 20, .inl (fun _ => qI 0)))]
abbrev rm_X0_init : Room := { frames := 1, cells := 3, slots := 60, locals := 20 }
set_option maxRecDepth 20000 in
theorem k_X0_init (l : Launch) (b0 : Nat) (D : va_G) (cA : Nat → ClassId) (h0 : Nat) : k_Met l b0 D cA yX0_init cX0_init 1 rm_X0_init [.ref h0] [(h0, .inr (0, [.null, .null, .null, .int (qI 0)]))] (w_X0_init cA h0) 3 60 := by
  refine k_met (L0 := [(0, .ref h0)]) (by decide) (Nat.le_of_ble_eq_true rfl) rfl rfl ?_
  intro p e s m args below meth c C hr hlk hin
  refine k_aln C dX0_init_0 (k := 0) rfl ?_
  refine k_obj C (tmo_X0_init) ⟨Nat.le_of_ble_eq_true rfl, Nat.le_of_ble_eq_true rfl⟩ dX0_init_1 ?_
  refine k_aln C dX0_init_4 (k := 0) rfl ?_
  refine k_bi C dX0_init_5 (by decide) ?_
  refine k_nI C (by decide) (N' := 20) (by decide) (by decide) ⟨Nat.le_of_ble_eq_true rfl, Nat.le_of_ble_eq_true rfl⟩ dX0_init_7 (fun q7 => ?_)
  refine k_eq (ws1 := [(h0, .inr (0, [.null, .null, .null, .int (qI 0)])), (q7, .inl (cA 2, 20, .inl (fun _ => qI 0)))]) rfl ?_
  refine k_pF C 0 0 (v := .ref q7) (ty := (.array .int)) (ws1 := [(h0, .inr (0, [.ref q7, .null, .null, .int (qI 0)])), (q7, .inl (cA 2, 20, .inl (fun _ => qI 0)))]) hin rfl clX0 rfl rfl (by decide) (Nat.le_of_ble_eq_true rfl) (by decide +kernel) rfl rfl tf_RX0_9 rfl dX0_init_9 ?_
  refine k_aln C dX0_init_12 (k := 0) rfl ?_
  refine k_bi C dX0_init_13 (by decide) ?_
  refine k_nI C (by decide) (N' := 20) (by decide) (by decide) ⟨Nat.le_of_ble_eq_true rfl, Nat.le_of_ble_eq_true rfl⟩ dX0_init_15 (fun q15 => ?_)
  refine k_eq (ws1 := [(h0, .inr (0, [.ref q7, .null, .null, .int (qI 0)])), (q7, .inl (cA 2, 20, .inl (fun _ => qI 0))), (q15, .inl (cA 2, 20, .inl (fun _ => qI 0)))]) rfl ?_
  refine k_pF C 0 1 (v := .ref q15) (ty := (.array .int)) (ws1 := [(h0, .inr (0, [.ref q7, .ref q15, .null, .int (qI 0)])), (q7, .inl (cA 2, 20, .inl (fun _ => qI 0))), (q15, .inl (cA 2, 20, .inl (fun _ => qI 0)))]) hin rfl clX0 rfl rfl (by decide) (Nat.le_of_ble_eq_true rfl) (by decide +kernel) rfl rfl tf_RX0_15 rfl dX0_init_17 ?_
  refine k_aln C dX0_init_20 (k := 0) rfl ?_
  refine k_bi C dX0_init_21 (by decide) ?_
  refine k_nI C (by decide) (N' := 20) (by decide) (by decide) ⟨Nat.le_of_ble_eq_true rfl, Nat.le_of_ble_eq_true rfl⟩ dX0_init_23 (fun q23 => ?_)
  refine k_eq (ws1 := [(h0, .inr (0, [.ref q7, .ref q15, .null, .int (qI 0)])), (q7, .inl (cA 2, 20, .inl (fun _ => qI 0))), (q15, .inl (cA 2, 20, .inl (fun _ => qI 0))), (q23, .inl (cA 2, 20, .inl (fun _ => qI 0)))]) rfl ?_
  refine k_pF C 0 2 (v := .ref q23) (ty := (.array .int)) (ws1 := [(h0, .inr (0, [.ref q7, .ref q15, .ref q23, .int (qI 0)])), (q7, .inl (cA 2, 20, .inl (fun _ => qI 0))), (q15, .inl (cA 2, 20, .inl (fun _ => qI 0))), (q23, .inl (cA 2, 20, .inl (fun _ => qI 0)))]) hin rfl clX0 rfl rfl (by decide) (Nat.le_of_ble_eq_true rfl) (by decide +kernel) rfl rfl tf_RX0_18 rfl dX0_init_25 ?_
  refine k_aln C dX0_init_28 (k := 0) rfl ?_
  refine k_ic C dX0_init_29 ?_
  refine k_pf C 0 3 (v := .int (qI 0)) (ty := .int) (ws1 := [(h0, .inr (0, [.ref q7, .ref q15, .ref q23, .int (qI 0)])), (q7, .inl (cA 2, 20, .inl (fun _ => qI 0))), (q15, .inl (cA 2, 20, .inl (fun _ => qI 0))), (q23, .inl (cA 2, 20, .inl (fun _ => qI 0)))]) clX0 rfl rfl (by decide) (Nat.le_of_ble_eq_true rfl) (by decide +kernel) rfl rfl tf_RX0_21 rfl dX0_init_30 ?_
  exact k_ret C hr hlk (fun i => [q7, q15, q23].getD i 0) [0, 1, 2, 3] (by decide) rfl rfl dX0_init_33
theorem tmo_X5_init : Cond.methodLink RX5 3 objectInit ∈ wsQ := wq_2 (List.mem_of_getElem? (i := 186) rfl) rfl
def w_X5_init (cA : Nat → ClassId) (h0 : Nat) (q : Nat → Nat) : va_W := [(h0, .inr (5, [.ref (q 0), .ref (q 1), .ref (q 2), .int (qI 0), .int (qI (-1))])), ((q 0), .inl (cA 2, 24, .inl (fun _ => qI 0))), ((q 1), .inl (cA 2, 24, .inl (fun _ => qI 0))), ((q 2), .inl (cA 2, 24, .inl (fun _ => qI 0)))]
abbrev rm_X5_init : Room := { frames := 1, cells := 3, slots := 72, locals := 20 }
set_option maxRecDepth 20000 in
theorem k_X5_init (l : Launch) (b0 : Nat) (D : va_G) (cA : Nat → ClassId) (h0 : Nat) : k_Met l b0 D cA yX5_init cX5_init 1 rm_X5_init [.ref h0] [(h0, .inr (5, [.null, .null, .null, .int (qI 0), .int (qI 0)]))] (w_X5_init cA h0) 3 72 := by
  refine k_met (L0 := [(0, .ref h0)]) (by decide) (Nat.le_of_ble_eq_true rfl) rfl rfl ?_
  intro p e s m args below meth c C hr hlk hin
  refine k_aln C dX5_init_0 (k := 0) rfl ?_
  refine k_obj C (tmo_X5_init) ⟨Nat.le_of_ble_eq_true rfl, Nat.le_of_ble_eq_true rfl⟩ dX5_init_1 ?_
  refine k_aln C dX5_init_4 (k := 0) rfl ?_
  refine k_bi C dX5_init_5 (by decide) ?_
  refine k_nI C (by decide) (N' := 24) (by decide) (by decide) ⟨Nat.le_of_ble_eq_true rfl, Nat.le_of_ble_eq_true rfl⟩ dX5_init_7 (fun q7 => ?_)
  refine k_eq (ws1 := [(h0, .inr (5, [.null, .null, .null, .int (qI 0), .int (qI 0)])), (q7, .inl (cA 2, 24, .inl (fun _ => qI 0)))]) rfl ?_
  refine k_pF C 0 0 (v := .ref q7) (ty := (.array .int)) (ws1 := [(h0, .inr (5, [.ref q7, .null, .null, .int (qI 0), .int (qI 0)])), (q7, .inl (cA 2, 24, .inl (fun _ => qI 0)))]) hin rfl clX5 rfl rfl (by decide) (Nat.le_of_ble_eq_true rfl) (by decide +kernel) rfl rfl tf_RX5_9 rfl dX5_init_9 ?_
  refine k_aln C dX5_init_12 (k := 0) rfl ?_
  refine k_bi C dX5_init_13 (by decide) ?_
  refine k_nI C (by decide) (N' := 24) (by decide) (by decide) ⟨Nat.le_of_ble_eq_true rfl, Nat.le_of_ble_eq_true rfl⟩ dX5_init_15 (fun q15 => ?_)
  refine k_eq (ws1 := [(h0, .inr (5, [.ref q7, .null, .null, .int (qI 0), .int (qI 0)])), (q7, .inl (cA 2, 24, .inl (fun _ => qI 0))), (q15, .inl (cA 2, 24, .inl (fun _ => qI 0)))]) rfl ?_
  refine k_pF C 0 1 (v := .ref q15) (ty := (.array .int)) (ws1 := [(h0, .inr (5, [.ref q7, .ref q15, .null, .int (qI 0), .int (qI 0)])), (q7, .inl (cA 2, 24, .inl (fun _ => qI 0))), (q15, .inl (cA 2, 24, .inl (fun _ => qI 0)))]) hin rfl clX5 rfl rfl (by decide) (Nat.le_of_ble_eq_true rfl) (by decide +kernel) rfl rfl tf_RX5_15 rfl dX5_init_17 ?_
  refine k_aln C dX5_init_20 (k := 0) rfl ?_
  refine k_bi C dX5_init_21 (by decide) ?_
  refine k_nI C (by decide) (N' := 24) (by decide) (by decide) ⟨Nat.le_of_ble_eq_true rfl, Nat.le_of_ble_eq_true rfl⟩ dX5_init_23 (fun q23 => ?_)
  refine k_eq (ws1 := [(h0, .inr (5, [.ref q7, .ref q15, .null, .int (qI 0), .int (qI 0)])), (q7, .inl (cA 2, 24, .inl (fun _ => qI 0))), (q15, .inl (cA 2, 24, .inl (fun _ => qI 0))), (q23, .inl (cA 2, 24, .inl (fun _ => qI 0)))]) rfl ?_
  refine k_pF C 0 2 (v := .ref q23) (ty := (.array .int)) (ws1 := [(h0, .inr (5, [.ref q7, .ref q15, .ref q23, .int (qI 0), .int (qI 0)])), (q7, .inl (cA 2, 24, .inl (fun _ => qI 0))), (q15, .inl (cA 2, 24, .inl (fun _ => qI 0))), (q23, .inl (cA 2, 24, .inl (fun _ => qI 0)))]) hin rfl clX5 rfl rfl (by decide) (Nat.le_of_ble_eq_true rfl) (by decide +kernel) rfl rfl tf_RX5_18 rfl dX5_init_25 ?_
  refine k_aln C dX5_init_28 (k := 0) rfl ?_
  refine k_ic C dX5_init_29 ?_
  refine k_pf C 0 3 (v := .int (qI 0)) (ty := .int) (ws1 := [(h0, .inr (5, [.ref q7, .ref q15, .ref q23, .int (qI 0), .int (qI 0)])), (q7, .inl (cA 2, 24, .inl (fun _ => qI 0))), (q15, .inl (cA 2, 24, .inl (fun _ => qI 0))), (q23, .inl (cA 2, 24, .inl (fun _ => qI 0)))]) clX5 rfl rfl (by decide) (Nat.le_of_ble_eq_true rfl) (by decide +kernel) rfl rfl tf_RX5_21 rfl dX5_init_30 ?_
  refine k_aln C dX5_init_33 (k := 0) rfl ?_
  refine k_ic C dX5_init_34 ?_
  refine k_pf C 0 4 (v := .int (qI (-1))) (ty := .int) (ws1 := [(h0, .inr (5, [.ref q7, .ref q15, .ref q23, .int (qI 0), .int (qI (-1))])), (q7, .inl (cA 2, 24, .inl (fun _ => qI 0))), (q15, .inl (cA 2, 24, .inl (fun _ => qI 0))), (q23, .inl (cA 2, 24, .inl (fun _ => qI 0)))]) clX5 rfl rfl (by decide) (Nat.le_of_ble_eq_true rfl) (by decide +kernel) rfl rfl tf_RX5_25 rfl dX5_init_35 ?_
  exact k_ret C hr hlk (fun i => [q7, q15, q23].getD i 0) [0, 1, 2, 3] (by decide) rfl rfl dX5_init_38
theorem tmo_X6_init : Cond.methodLink RX6 3 objectInit ∈ wsQ := wq_2 (List.mem_of_getElem? (i := 72) rfl) rfl
def w_X6_init (cA : Nat → ClassId) (h0 : Nat) (q : Nat → Nat) : va_W := [(h0, .inr (6, [.int (qI 0), .int (qI 0), .ref (q 0), .ref (q 1), .ref (q 2), .ref (q 3), .ref (q 4), .ref (q 5), .ref (q 6), .int (qI 0)])), ((q 0), .inl (cA 2, 8, .inl (fun _ => qI 0))), ((q 1), .inl (cA 2, 8, .inl (fun _ => qI 0))), ((q 2), .inl (cA 2, 8, .inl (fun _ => qI 0))), ((q 3), .inl (cA 2, 8, .inl (fun _ => qI 0))), ((q 4), .inl (cA 2, 8, .inl (fun _ => qI 0))), ((q 5), .inl (cA 2, 8, .inl (fun _ => qI 0))), ((q 6), .inl (cA 2, 8, .inl (fun _ => qI 0)))]
abbrev rm_X6_init : Room := { frames := 1, cells := 7, slots := 56, locals := 20 }
set_option maxRecDepth 20000 in
theorem k_X6_init (l : Launch) (b0 : Nat) (D : va_G) (cA : Nat → ClassId) (h0 : Nat) : k_Met l b0 D cA yX6_init cX6_init 1 rm_X6_init [.ref h0] [(h0, .inr (6, [.int (qI 0), .int (qI 0), .null, .null, .null, .null, .null, .null, .null, .int (qI 0)]))] (w_X6_init cA h0) 7 56 := by
  refine k_met (L0 := [(0, .ref h0)]) (by decide) (Nat.le_of_ble_eq_true rfl) rfl rfl ?_
  intro p e s m args below meth c C hr hlk hin
  refine k_aln C dX6_init_0 (k := 0) rfl ?_
  refine k_obj C (tmo_X6_init) ⟨Nat.le_of_ble_eq_true rfl, Nat.le_of_ble_eq_true rfl⟩ dX6_init_1 ?_
  refine k_aln C dX6_init_4 (k := 0) rfl ?_
  refine k_ic C dX6_init_5 ?_
  refine k_pf C 0 0 (v := .int (qI 0)) (ty := .int) (ws1 := [(h0, .inr (6, [.int (qI 0), .int (qI 0), .null, .null, .null, .null, .null, .null, .null, .int (qI 0)]))]) clX6 rfl rfl (by decide) (Nat.le_of_ble_eq_true rfl) (by decide +kernel) rfl rfl tf_RX6_9 rfl dX6_init_6 ?_
  refine k_aln C dX6_init_9 (k := 0) rfl ?_
  refine k_ic C dX6_init_10 ?_
  refine k_pf C 0 1 (v := .int (qI 0)) (ty := .int) (ws1 := [(h0, .inr (6, [.int (qI 0), .int (qI 0), .null, .null, .null, .null, .null, .null, .null, .int (qI 0)]))]) clX6 rfl rfl (by decide) (Nat.le_of_ble_eq_true rfl) (by decide +kernel) rfl rfl tf_RX6_15 rfl dX6_init_11 ?_
  refine k_aln C dX6_init_14 (k := 0) rfl ?_
  refine k_bi C dX6_init_15 (by decide) ?_
  refine k_nI C (by decide) (N' := 8) (by decide) (by decide) ⟨Nat.le_of_ble_eq_true rfl, Nat.le_of_ble_eq_true rfl⟩ dX6_init_17 (fun q17 => ?_)
  refine k_eq (ws1 := [(h0, .inr (6, [.int (qI 0), .int (qI 0), .null, .null, .null, .null, .null, .null, .null, .int (qI 0)])), (q17, .inl (cA 2, 8, .inl (fun _ => qI 0)))]) rfl ?_
  refine k_pF C 0 2 (v := .ref q17) (ty := (.array .int)) (ws1 := [(h0, .inr (6, [.int (qI 0), .int (qI 0), .ref q17, .null, .null, .null, .null, .null, .null, .int (qI 0)])), (q17, .inl (cA 2, 8, .inl (fun _ => qI 0)))]) hin rfl clX6 rfl rfl (by decide) (Nat.le_of_ble_eq_true rfl) (by decide +kernel) rfl rfl tf_RX6_18 rfl dX6_init_19 ?_
  refine k_aln C dX6_init_22 (k := 0) rfl ?_
  refine k_bi C dX6_init_23 (by decide) ?_
  refine k_nI C (by decide) (N' := 8) (by decide) (by decide) ⟨Nat.le_of_ble_eq_true rfl, Nat.le_of_ble_eq_true rfl⟩ dX6_init_25 (fun q25 => ?_)
  refine k_eq (ws1 := [(h0, .inr (6, [.int (qI 0), .int (qI 0), .ref q17, .null, .null, .null, .null, .null, .null, .int (qI 0)])), (q17, .inl (cA 2, 8, .inl (fun _ => qI 0))), (q25, .inl (cA 2, 8, .inl (fun _ => qI 0)))]) rfl ?_
  refine k_pF C 0 3 (v := .ref q25) (ty := (.array .int)) (ws1 := [(h0, .inr (6, [.int (qI 0), .int (qI 0), .ref q17, .ref q25, .null, .null, .null, .null, .null, .int (qI 0)])), (q17, .inl (cA 2, 8, .inl (fun _ => qI 0))), (q25, .inl (cA 2, 8, .inl (fun _ => qI 0)))]) hin rfl clX6 rfl rfl (by decide) (Nat.le_of_ble_eq_true rfl) (by decide +kernel) rfl rfl tf_RX6_22 rfl dX6_init_27 ?_
  refine k_aln C dX6_init_30 (k := 0) rfl ?_
  refine k_bi C dX6_init_31 (by decide) ?_
  refine k_nI C (by decide) (N' := 8) (by decide) (by decide) ⟨Nat.le_of_ble_eq_true rfl, Nat.le_of_ble_eq_true rfl⟩ dX6_init_33 (fun q33 => ?_)
  refine k_eq (ws1 := [(h0, .inr (6, [.int (qI 0), .int (qI 0), .ref q17, .ref q25, .null, .null, .null, .null, .null, .int (qI 0)])), (q17, .inl (cA 2, 8, .inl (fun _ => qI 0))), (q25, .inl (cA 2, 8, .inl (fun _ => qI 0))), (q33, .inl (cA 2, 8, .inl (fun _ => qI 0)))]) rfl ?_
  refine k_pF C 0 4 (v := .ref q33) (ty := (.array .int)) (ws1 := [(h0, .inr (6, [.int (qI 0), .int (qI 0), .ref q17, .ref q25, .ref q33, .null, .null, .null, .null, .int (qI 0)])), (q17, .inl (cA 2, 8, .inl (fun _ => qI 0))), (q25, .inl (cA 2, 8, .inl (fun _ => qI 0))), (q33, .inl (cA 2, 8, .inl (fun _ => qI 0)))]) hin rfl clX6 rfl rfl (by decide) (Nat.le_of_ble_eq_true rfl) (by decide +kernel) rfl rfl tf_RX6_25 rfl dX6_init_35 ?_
  refine k_aln C dX6_init_38 (k := 0) rfl ?_
  refine k_bi C dX6_init_39 (by decide) ?_
  refine k_nI C (by decide) (N' := 8) (by decide) (by decide) ⟨Nat.le_of_ble_eq_true rfl, Nat.le_of_ble_eq_true rfl⟩ dX6_init_41 (fun q41 => ?_)
  refine k_eq (ws1 := [(h0, .inr (6, [.int (qI 0), .int (qI 0), .ref q17, .ref q25, .ref q33, .null, .null, .null, .null, .int (qI 0)])), (q17, .inl (cA 2, 8, .inl (fun _ => qI 0))), (q25, .inl (cA 2, 8, .inl (fun _ => qI 0))), (q33, .inl (cA 2, 8, .inl (fun _ => qI 0))), (q41, .inl (cA 2, 8, .inl (fun _ => qI 0)))]) rfl ?_
  refine k_pF C 0 5 (v := .ref q41) (ty := (.array .int)) (ws1 := [(h0, .inr (6, [.int (qI 0), .int (qI 0), .ref q17, .ref q25, .ref q33, .ref q41, .null, .null, .null, .int (qI 0)])), (q17, .inl (cA 2, 8, .inl (fun _ => qI 0))), (q25, .inl (cA 2, 8, .inl (fun _ => qI 0))), (q33, .inl (cA 2, 8, .inl (fun _ => qI 0))), (q41, .inl (cA 2, 8, .inl (fun _ => qI 0)))]) hin rfl clX6 rfl rfl (by decide) (Nat.le_of_ble_eq_true rfl) (by decide +kernel) rfl rfl tf_RX6_28 rfl dX6_init_43 ?_
  refine k_aln C dX6_init_46 (k := 0) rfl ?_
  refine k_bi C dX6_init_47 (by decide) ?_
  refine k_nI C (by decide) (N' := 8) (by decide) (by decide) ⟨Nat.le_of_ble_eq_true rfl, Nat.le_of_ble_eq_true rfl⟩ dX6_init_49 (fun q49 => ?_)
  refine k_eq (ws1 := [(h0, .inr (6, [.int (qI 0), .int (qI 0), .ref q17, .ref q25, .ref q33, .ref q41, .null, .null, .null, .int (qI 0)])), (q17, .inl (cA 2, 8, .inl (fun _ => qI 0))), (q25, .inl (cA 2, 8, .inl (fun _ => qI 0))), (q33, .inl (cA 2, 8, .inl (fun _ => qI 0))), (q41, .inl (cA 2, 8, .inl (fun _ => qI 0))), (q49, .inl (cA 2, 8, .inl (fun _ => qI 0)))]) rfl ?_
  refine k_pF C 0 6 (v := .ref q49) (ty := (.array .int)) (ws1 := [(h0, .inr (6, [.int (qI 0), .int (qI 0), .ref q17, .ref q25, .ref q33, .ref q41, .ref q49, .null, .null, .int (qI 0)])), (q17, .inl (cA 2, 8, .inl (fun _ => qI 0))), (q25, .inl (cA 2, 8, .inl (fun _ => qI 0))), (q33, .inl (cA 2, 8, .inl (fun _ => qI 0))), (q41, .inl (cA 2, 8, .inl (fun _ => qI 0))), (q49, .inl (cA 2, 8, .inl (fun _ => qI 0)))]) hin rfl clX6 rfl rfl (by decide) (Nat.le_of_ble_eq_true rfl) (by decide +kernel) rfl rfl tf_RX6_31 rfl dX6_init_51 ?_
  refine k_aln C dX6_init_54 (k := 0) rfl ?_
  refine k_bi C dX6_init_55 (by decide) ?_
  refine k_nI C (by decide) (N' := 8) (by decide) (by decide) ⟨Nat.le_of_ble_eq_true rfl, Nat.le_of_ble_eq_true rfl⟩ dX6_init_57 (fun q57 => ?_)
  refine k_eq (ws1 := [(h0, .inr (6, [.int (qI 0), .int (qI 0), .ref q17, .ref q25, .ref q33, .ref q41, .ref q49, .null, .null, .int (qI 0)])), (q17, .inl (cA 2, 8, .inl (fun _ => qI 0))), (q25, .inl (cA 2, 8, .inl (fun _ => qI 0))), (q33, .inl (cA 2, 8, .inl (fun _ => qI 0))), (q41, .inl (cA 2, 8, .inl (fun _ => qI 0))), (q49, .inl (cA 2, 8, .inl (fun _ => qI 0))), (q57, .inl (cA 2, 8, .inl (fun _ => qI 0)))]) rfl ?_
  refine k_pF C 0 7 (v := .ref q57) (ty := (.array .int)) (ws1 := [(h0, .inr (6, [.int (qI 0), .int (qI 0), .ref q17, .ref q25, .ref q33, .ref q41, .ref q49, .ref q57, .null, .int (qI 0)])), (q17, .inl (cA 2, 8, .inl (fun _ => qI 0))), (q25, .inl (cA 2, 8, .inl (fun _ => qI 0))), (q33, .inl (cA 2, 8, .inl (fun _ => qI 0))), (q41, .inl (cA 2, 8, .inl (fun _ => qI 0))), (q49, .inl (cA 2, 8, .inl (fun _ => qI 0))), (q57, .inl (cA 2, 8, .inl (fun _ => qI 0)))]) hin rfl clX6 rfl rfl (by decide) (Nat.le_of_ble_eq_true rfl) (by decide +kernel) rfl rfl tf_RX6_34 rfl dX6_init_59 ?_
  refine k_aln C dX6_init_62 (k := 0) rfl ?_
  refine k_bi C dX6_init_63 (by decide) ?_
  refine k_nI C (by decide) (N' := 8) (by decide) (by decide) ⟨Nat.le_of_ble_eq_true rfl, Nat.le_of_ble_eq_true rfl⟩ dX6_init_65 (fun q65 => ?_)
  refine k_eq (ws1 := [(h0, .inr (6, [.int (qI 0), .int (qI 0), .ref q17, .ref q25, .ref q33, .ref q41, .ref q49, .ref q57, .null, .int (qI 0)])), (q17, .inl (cA 2, 8, .inl (fun _ => qI 0))), (q25, .inl (cA 2, 8, .inl (fun _ => qI 0))), (q33, .inl (cA 2, 8, .inl (fun _ => qI 0))), (q41, .inl (cA 2, 8, .inl (fun _ => qI 0))), (q49, .inl (cA 2, 8, .inl (fun _ => qI 0))), (q57, .inl (cA 2, 8, .inl (fun _ => qI 0))), (q65, .inl (cA 2, 8, .inl (fun _ => qI 0)))]) rfl ?_
  refine k_pF C 0 8 (v := .ref q65) (ty := (.array .int)) (ws1 := [(h0, .inr (6, [.int (qI 0), .int (qI 0), .ref q17, .ref q25, .ref q33, .ref q41, .ref q49, .ref q57, .ref q65, .int (qI 0)])), (q17, .inl (cA 2, 8, .inl (fun _ => qI 0))), (q25, .inl (cA 2, 8, .inl (fun _ => qI 0))), (q33, .inl (cA 2, 8, .inl (fun _ => qI 0))), (q41, .inl (cA 2, 8, .inl (fun _ => qI 0))), (q49, .inl (cA 2, 8, .inl (fun _ => qI 0))), (q57, .inl (cA 2, 8, .inl (fun _ => qI 0))), (q65, .inl (cA 2, 8, .inl (fun _ => qI 0)))]) hin rfl clX6 rfl rfl (by decide) (Nat.le_of_ble_eq_true rfl) (by decide +kernel) rfl rfl tf_RX6_37 rfl dX6_init_67 ?_
  refine k_aln C dX6_init_70 (k := 0) rfl ?_
  refine k_ic C dX6_init_71 ?_
  refine k_pf C 0 9 (v := .int (qI 0)) (ty := .int) (ws1 := [(h0, .inr (6, [.int (qI 0), .int (qI 0), .ref q17, .ref q25, .ref q33, .ref q41, .ref q49, .ref q57, .ref q65, .int (qI 0)])), (q17, .inl (cA 2, 8, .inl (fun _ => qI 0))), (q25, .inl (cA 2, 8, .inl (fun _ => qI 0))), (q33, .inl (cA 2, 8, .inl (fun _ => qI 0))), (q41, .inl (cA 2, 8, .inl (fun _ => qI 0))), (q49, .inl (cA 2, 8, .inl (fun _ => qI 0))), (q57, .inl (cA 2, 8, .inl (fun _ => qI 0))), (q65, .inl (cA 2, 8, .inl (fun _ => qI 0)))]) clX6 rfl rfl (by decide) (Nat.le_of_ble_eq_true rfl) (by decide +kernel) rfl rfl tf_RX6_40 rfl dX6_init_72 ?_
  exact k_ret C hr hlk (fun i => [q17, q25, q33, q41, q49, q57, q65].getD i 0) [0, 1, 2, 3, 4, 5, 6, 7] (by decide) rfl rfl dX6_init_75
theorem tmo_X2_init : Cond.methodLink RX2 3 objectInit ∈ wsQ := wq_1 (List.mem_of_getElem? (i := 49) rfl) rfl
def w_X2_init (cA : Nat → ClassId) (h0 : Nat) (q : Nat → Nat) : va_W := [(h0, .inr (2, [.ref (q 0), .ref (q 1), .ref (q 2), .ref (q 3), .ref (q 4), .int (qI 0), .int (qI 0)])), ((q 0), .inl (cA 2, 64, .inl (fun _ => qI 0))), ((q 1), .inl (cA 2, 64, .inl (fun _ => qI 0))), ((q 2), .inl (cA 2, 3, .inl (fun _ => qI 0))), ((q 3), .inl (cA 2, 3, .inl (fun _ => qI 0))), ((q 4), .inl (cA 5, 64, .inr (.inl (fun _ => qJ 0))))]
abbrev rm_X2_init : Room := { frames := 1, cells := 5, slots := 198, locals := 20 }
set_option maxRecDepth 20000 in
theorem k_X2_init (l : Launch) (b0 : Nat) (D : va_G) (cA : Nat → ClassId) (h0 : Nat) : k_Met l b0 D cA yX2_init cX2_init 1 rm_X2_init [.ref h0] [(h0, .inr (2, [.null, .null, .null, .null, .null, .int (qI 0), .int (qI 0)]))] (w_X2_init cA h0) 5 198 := by
  refine k_met (L0 := [(0, .ref h0)]) (by decide) (Nat.le_of_ble_eq_true rfl) rfl rfl ?_
  intro p e s m args below meth c C hr hlk hin
  refine k_aln C dX2_init_0 (k := 0) rfl ?_
  refine k_obj C (tmo_X2_init) ⟨Nat.le_of_ble_eq_true rfl, Nat.le_of_ble_eq_true rfl⟩ dX2_init_1 ?_
  refine k_aln C dX2_init_4 (k := 0) rfl ?_
  refine k_bi C dX2_init_5 (by decide) ?_
  refine k_nI C (by decide) (N' := 64) (by decide) (by decide) ⟨Nat.le_of_ble_eq_true rfl, Nat.le_of_ble_eq_true rfl⟩ dX2_init_7 (fun q7 => ?_)
  refine k_eq (ws1 := [(h0, .inr (2, [.null, .null, .null, .null, .null, .int (qI 0), .int (qI 0)])), (q7, .inl (cA 2, 64, .inl (fun _ => qI 0)))]) rfl ?_
  refine k_pF C 0 0 (v := .ref q7) (ty := (.array .int)) (ws1 := [(h0, .inr (2, [.ref q7, .null, .null, .null, .null, .int (qI 0), .int (qI 0)])), (q7, .inl (cA 2, 64, .inl (fun _ => qI 0)))]) hin rfl clX2 rfl rfl (by decide) (Nat.le_of_ble_eq_true rfl) (by decide +kernel) rfl rfl tf_RX2_9 rfl dX2_init_9 ?_
  refine k_aln C dX2_init_12 (k := 0) rfl ?_
  refine k_bi C dX2_init_13 (by decide) ?_
  refine k_nI C (by decide) (N' := 64) (by decide) (by decide) ⟨Nat.le_of_ble_eq_true rfl, Nat.le_of_ble_eq_true rfl⟩ dX2_init_15 (fun q15 => ?_)
  refine k_eq (ws1 := [(h0, .inr (2, [.ref q7, .null, .null, .null, .null, .int (qI 0), .int (qI 0)])), (q7, .inl (cA 2, 64, .inl (fun _ => qI 0))), (q15, .inl (cA 2, 64, .inl (fun _ => qI 0)))]) rfl ?_
  refine k_pF C 0 1 (v := .ref q15) (ty := (.array .int)) (ws1 := [(h0, .inr (2, [.ref q7, .ref q15, .null, .null, .null, .int (qI 0), .int (qI 0)])), (q7, .inl (cA 2, 64, .inl (fun _ => qI 0))), (q15, .inl (cA 2, 64, .inl (fun _ => qI 0)))]) hin rfl clX2 rfl rfl (by decide) (Nat.le_of_ble_eq_true rfl) (by decide +kernel) rfl rfl tf_RX2_15 rfl dX2_init_17 ?_
  refine k_aln C dX2_init_20 (k := 0) rfl ?_
  refine k_ic C dX2_init_21 ?_
  refine k_nI C (by decide) (N' := 3) (by decide) (by decide) ⟨Nat.le_of_ble_eq_true rfl, Nat.le_of_ble_eq_true rfl⟩ dX2_init_22 (fun q22 => ?_)
  refine k_eq (ws1 := [(h0, .inr (2, [.ref q7, .ref q15, .null, .null, .null, .int (qI 0), .int (qI 0)])), (q7, .inl (cA 2, 64, .inl (fun _ => qI 0))), (q15, .inl (cA 2, 64, .inl (fun _ => qI 0))), (q22, .inl (cA 2, 3, .inl (fun _ => qI 0)))]) rfl ?_
  refine k_pF C 0 2 (v := .ref q22) (ty := (.array .int)) (ws1 := [(h0, .inr (2, [.ref q7, .ref q15, .ref q22, .null, .null, .int (qI 0), .int (qI 0)])), (q7, .inl (cA 2, 64, .inl (fun _ => qI 0))), (q15, .inl (cA 2, 64, .inl (fun _ => qI 0))), (q22, .inl (cA 2, 3, .inl (fun _ => qI 0)))]) hin rfl clX2 rfl rfl (by decide) (Nat.le_of_ble_eq_true rfl) (by decide +kernel) rfl rfl tf_RX2_18 rfl dX2_init_24 ?_
  refine k_aln C dX2_init_27 (k := 0) rfl ?_
  refine k_ic C dX2_init_28 ?_
  refine k_nI C (by decide) (N' := 3) (by decide) (by decide) ⟨Nat.le_of_ble_eq_true rfl, Nat.le_of_ble_eq_true rfl⟩ dX2_init_29 (fun q29 => ?_)
  refine k_eq (ws1 := [(h0, .inr (2, [.ref q7, .ref q15, .ref q22, .null, .null, .int (qI 0), .int (qI 0)])), (q7, .inl (cA 2, 64, .inl (fun _ => qI 0))), (q15, .inl (cA 2, 64, .inl (fun _ => qI 0))), (q22, .inl (cA 2, 3, .inl (fun _ => qI 0))), (q29, .inl (cA 2, 3, .inl (fun _ => qI 0)))]) rfl ?_
  refine k_pF C 0 3 (v := .ref q29) (ty := (.array .int)) (ws1 := [(h0, .inr (2, [.ref q7, .ref q15, .ref q22, .ref q29, .null, .int (qI 0), .int (qI 0)])), (q7, .inl (cA 2, 64, .inl (fun _ => qI 0))), (q15, .inl (cA 2, 64, .inl (fun _ => qI 0))), (q22, .inl (cA 2, 3, .inl (fun _ => qI 0))), (q29, .inl (cA 2, 3, .inl (fun _ => qI 0)))]) hin rfl clX2 rfl rfl (by decide) (Nat.le_of_ble_eq_true rfl) (by decide +kernel) rfl rfl tf_RX2_21 rfl dX2_init_31 ?_
  refine k_aln C dX2_init_34 (k := 0) rfl ?_
  refine k_bi C dX2_init_35 (by decide) ?_
  refine k_nJ C (by decide) (N' := 64) (by decide) (by decide) ⟨Nat.le_of_ble_eq_true rfl, Nat.le_of_ble_eq_true rfl⟩ dX2_init_37 (fun q37 => ?_)
  refine k_eq (ws1 := [(h0, .inr (2, [.ref q7, .ref q15, .ref q22, .ref q29, .null, .int (qI 0), .int (qI 0)])), (q7, .inl (cA 2, 64, .inl (fun _ => qI 0))), (q15, .inl (cA 2, 64, .inl (fun _ => qI 0))), (q22, .inl (cA 2, 3, .inl (fun _ => qI 0))), (q29, .inl (cA 2, 3, .inl (fun _ => qI 0))), (q37, .inl (cA 5, 64, .inr (.inl (fun _ => qJ 0))))]) rfl ?_
  refine k_pF C 0 4 (v := .ref q37) (ty := (.array .long)) (ws1 := [(h0, .inr (2, [.ref q7, .ref q15, .ref q22, .ref q29, .ref q37, .int (qI 0), .int (qI 0)])), (q7, .inl (cA 2, 64, .inl (fun _ => qI 0))), (q15, .inl (cA 2, 64, .inl (fun _ => qI 0))), (q22, .inl (cA 2, 3, .inl (fun _ => qI 0))), (q29, .inl (cA 2, 3, .inl (fun _ => qI 0))), (q37, .inl (cA 5, 64, .inr (.inl (fun _ => qJ 0))))]) hin rfl clX2 rfl rfl (by decide) (Nat.le_of_ble_eq_true rfl) (by decide +kernel) rfl rfl tf_RX2_24 rfl dX2_init_39 ?_
  refine k_aln C dX2_init_42 (k := 0) rfl ?_
  refine k_ic C dX2_init_43 ?_
  refine k_pf C 0 5 (v := .int (qI 0)) (ty := .int) (ws1 := [(h0, .inr (2, [.ref q7, .ref q15, .ref q22, .ref q29, .ref q37, .int (qI 0), .int (qI 0)])), (q7, .inl (cA 2, 64, .inl (fun _ => qI 0))), (q15, .inl (cA 2, 64, .inl (fun _ => qI 0))), (q22, .inl (cA 2, 3, .inl (fun _ => qI 0))), (q29, .inl (cA 2, 3, .inl (fun _ => qI 0))), (q37, .inl (cA 5, 64, .inr (.inl (fun _ => qJ 0))))]) clX2 rfl rfl (by decide) (Nat.le_of_ble_eq_true rfl) (by decide +kernel) rfl rfl tf_RX2_28 rfl dX2_init_44 ?_
  refine k_aln C dX2_init_47 (k := 0) rfl ?_
  refine k_ic C dX2_init_48 ?_
  refine k_pf C 0 6 (v := .int (qI 0)) (ty := .int) (ws1 := [(h0, .inr (2, [.ref q7, .ref q15, .ref q22, .ref q29, .ref q37, .int (qI 0), .int (qI 0)])), (q7, .inl (cA 2, 64, .inl (fun _ => qI 0))), (q15, .inl (cA 2, 64, .inl (fun _ => qI 0))), (q22, .inl (cA 2, 3, .inl (fun _ => qI 0))), (q29, .inl (cA 2, 3, .inl (fun _ => qI 0))), (q37, .inl (cA 5, 64, .inr (.inl (fun _ => qJ 0))))]) clX2 rfl rfl (by decide) (Nat.le_of_ble_eq_true rfl) (by decide +kernel) rfl rfl tf_RX2_32 rfl dX2_init_49 ?_
  exact k_ret C hr hlk (fun i => [q7, q15, q22, q29, q37].getD i 0) [0, 1, 2, 3, 4, 5] (by decide) rfl rfl dX2_init_52
theorem tmo_X8_init : Cond.methodLink RX8 3 objectInit ∈ wsQ := wq_1 (List.mem_of_getElem? (i := 43) rfl) rfl
def w_X8_init (cA : Nat → ClassId) (h0 : Nat) (q : Nat → Nat) : va_W := [(h0, .inr (8, [.int (qI 0), .ref (q 0), .ref (q 1), .ref (q 2), .ref (q 3), .ref (q 4), .int (qI 0), .int (qI 0), .ref (q 5), .ref (q 6), .ref (q 7), .ref (q 8), .ref (q 9), .int (qI 2), .int (qI 0), .int (qI 0), .ref (q 10)])), ((q 0), .inl (cA 2, 8, .inl (fun _ => qI 0))), ((q 1), .inl (cA 2, 8, .inl (fun _ => qI 0))), ((q 2), .inl (cA 2, 8, .inl (fun _ => qI 0))), ((q 3), .inl (cA 2, 8, .inl (fun _ => qI 0))), ((q 4), .inl (cA 2, 8, .inl (fun _ => qI 0))), ((q 5), .inl (cA 2, 4, .inl (fun _ => qI 0))), ((q 6), .inl (cA 2, 4, .inl (fun _ => qI 0))), ((q 7), .inl (cA 2, 4, .inl (fun _ => qI 0))), ((q 8), .inl (cA 2, 4, .inl (fun _ => qI 0))), ((q 9), .inl (cA 2, 4, .inl (fun _ => qI 0))), ((q 10), .inr (2, [.ref (q 11), .ref (q 12), .ref (q 13), .ref (q 14), .ref (q 15), .int (qI 0), .int (qI 0)])), ((q 11), .inl (cA 2, 64, .inl (fun _ => qI 0))), ((q 12), .inl (cA 2, 64, .inl (fun _ => qI 0))), ((q 13), .inl (cA 2, 3, .inl (fun _ => qI 0))), ((q 14), .inl (cA 2, 3, .inl (fun _ => qI 0))), ((q 15), .inl (cA 5, 64, .inr (.inl (fun _ => qJ 0))))]
abbrev rm_X8_init : Room := { frames := 2, cells := 16, slots := 265, locals := 40 }
set_option maxRecDepth 20000 in
theorem k_X8_init (l : Launch) (b0 : Nat) (D : va_G) (cA : Nat → ClassId) (h0 : Nat) : k_Met l b0 D cA yX8_init cX8_init 1 rm_X8_init [.ref h0] [(h0, .inr (8, [.int (qI 0), .null, .null, .null, .null, .null, .int (qI 0), .int (qI 0), .null, .null, .null, .null, .null, .int (qI 0), .int (qI 0), .int (qI 0), .null]))] (w_X8_init cA h0) 16 265 := by
  refine k_met (L0 := [(0, .ref h0)]) (by decide) (Nat.le_of_ble_eq_true rfl) rfl rfl ?_
  intro p e s m args below meth c C hr hlk hin
  refine k_aln C dX8_init_0 (k := 0) rfl ?_
  refine k_obj C (tmo_X8_init) ⟨Nat.le_of_ble_eq_true rfl, Nat.le_of_ble_eq_true rfl⟩ dX8_init_1 ?_
  refine k_aln C dX8_init_4 (k := 0) rfl ?_
  refine k_ic C dX8_init_5 ?_
  refine k_pf C 0 0 (v := .int (qI 0)) (ty := .int) (ws1 := [(h0, .inr (8, [.int (qI 0), .null, .null, .null, .null, .null, .int (qI 0), .int (qI 0), .null, .null, .null, .null, .null, .int (qI 0), .int (qI 0), .int (qI 0), .null]))]) clX8 rfl rfl (by decide) (Nat.le_of_ble_eq_true rfl) (by decide +kernel) rfl rfl tf_RX8_9 rfl dX8_init_6 ?_
  refine k_aln C dX8_init_9 (k := 0) rfl ?_
  refine k_bi C dX8_init_10 (by decide) ?_
  refine k_nI C (by decide) (N' := 8) (by decide) (by decide) ⟨Nat.le_of_ble_eq_true rfl, Nat.le_of_ble_eq_true rfl⟩ dX8_init_12 (fun q12 => ?_)
  refine k_eq (ws1 := [(h0, .inr (8, [.int (qI 0), .null, .null, .null, .null, .null, .int (qI 0), .int (qI 0), .null, .null, .null, .null, .null, .int (qI 0), .int (qI 0), .int (qI 0), .null])), (q12, .inl (cA 2, 8, .inl (fun _ => qI 0)))]) rfl ?_
  refine k_pF C 0 1 (v := .ref q12) (ty := (.array .int)) (ws1 := [(h0, .inr (8, [.int (qI 0), .ref q12, .null, .null, .null, .null, .int (qI 0), .int (qI 0), .null, .null, .null, .null, .null, .int (qI 0), .int (qI 0), .int (qI 0), .null])), (q12, .inl (cA 2, 8, .inl (fun _ => qI 0)))]) hin rfl clX8 rfl rfl (by decide) (Nat.le_of_ble_eq_true rfl) (by decide +kernel) rfl rfl tf_RX8_15 rfl dX8_init_14 ?_
  refine k_aln C dX8_init_17 (k := 0) rfl ?_
  refine k_bi C dX8_init_18 (by decide) ?_
  refine k_nI C (by decide) (N' := 8) (by decide) (by decide) ⟨Nat.le_of_ble_eq_true rfl, Nat.le_of_ble_eq_true rfl⟩ dX8_init_20 (fun q20 => ?_)
  refine k_eq (ws1 := [(h0, .inr (8, [.int (qI 0), .ref q12, .null, .null, .null, .null, .int (qI 0), .int (qI 0), .null, .null, .null, .null, .null, .int (qI 0), .int (qI 0), .int (qI 0), .null])), (q12, .inl (cA 2, 8, .inl (fun _ => qI 0))), (q20, .inl (cA 2, 8, .inl (fun _ => qI 0)))]) rfl ?_
  refine k_pF C 0 2 (v := .ref q20) (ty := (.array .int)) (ws1 := [(h0, .inr (8, [.int (qI 0), .ref q12, .ref q20, .null, .null, .null, .int (qI 0), .int (qI 0), .null, .null, .null, .null, .null, .int (qI 0), .int (qI 0), .int (qI 0), .null])), (q12, .inl (cA 2, 8, .inl (fun _ => qI 0))), (q20, .inl (cA 2, 8, .inl (fun _ => qI 0)))]) hin rfl clX8 rfl rfl (by decide) (Nat.le_of_ble_eq_true rfl) (by decide +kernel) rfl rfl tf_RX8_19 rfl dX8_init_22 ?_
  refine k_aln C dX8_init_25 (k := 0) rfl ?_
  refine k_bi C dX8_init_26 (by decide) ?_
  refine k_nI C (by decide) (N' := 8) (by decide) (by decide) ⟨Nat.le_of_ble_eq_true rfl, Nat.le_of_ble_eq_true rfl⟩ dX8_init_28 (fun q28 => ?_)
  refine k_eq (ws1 := [(h0, .inr (8, [.int (qI 0), .ref q12, .ref q20, .null, .null, .null, .int (qI 0), .int (qI 0), .null, .null, .null, .null, .null, .int (qI 0), .int (qI 0), .int (qI 0), .null])), (q12, .inl (cA 2, 8, .inl (fun _ => qI 0))), (q20, .inl (cA 2, 8, .inl (fun _ => qI 0))), (q28, .inl (cA 2, 8, .inl (fun _ => qI 0)))]) rfl ?_
  refine k_pF C 0 3 (v := .ref q28) (ty := (.array .int)) (ws1 := [(h0, .inr (8, [.int (qI 0), .ref q12, .ref q20, .ref q28, .null, .null, .int (qI 0), .int (qI 0), .null, .null, .null, .null, .null, .int (qI 0), .int (qI 0), .int (qI 0), .null])), (q12, .inl (cA 2, 8, .inl (fun _ => qI 0))), (q20, .inl (cA 2, 8, .inl (fun _ => qI 0))), (q28, .inl (cA 2, 8, .inl (fun _ => qI 0)))]) hin rfl clX8 rfl rfl (by decide) (Nat.le_of_ble_eq_true rfl) (by decide +kernel) rfl rfl tf_RX8_22 rfl dX8_init_30 ?_
  refine k_aln C dX8_init_33 (k := 0) rfl ?_
  refine k_bi C dX8_init_34 (by decide) ?_
  refine k_nI C (by decide) (N' := 8) (by decide) (by decide) ⟨Nat.le_of_ble_eq_true rfl, Nat.le_of_ble_eq_true rfl⟩ dX8_init_36 (fun q36 => ?_)
  refine k_eq (ws1 := [(h0, .inr (8, [.int (qI 0), .ref q12, .ref q20, .ref q28, .null, .null, .int (qI 0), .int (qI 0), .null, .null, .null, .null, .null, .int (qI 0), .int (qI 0), .int (qI 0), .null])), (q12, .inl (cA 2, 8, .inl (fun _ => qI 0))), (q20, .inl (cA 2, 8, .inl (fun _ => qI 0))), (q28, .inl (cA 2, 8, .inl (fun _ => qI 0))), (q36, .inl (cA 2, 8, .inl (fun _ => qI 0)))]) rfl ?_
  refine k_pF C 0 4 (v := .ref q36) (ty := (.array .int)) (ws1 := [(h0, .inr (8, [.int (qI 0), .ref q12, .ref q20, .ref q28, .ref q36, .null, .int (qI 0), .int (qI 0), .null, .null, .null, .null, .null, .int (qI 0), .int (qI 0), .int (qI 0), .null])), (q12, .inl (cA 2, 8, .inl (fun _ => qI 0))), (q20, .inl (cA 2, 8, .inl (fun _ => qI 0))), (q28, .inl (cA 2, 8, .inl (fun _ => qI 0))), (q36, .inl (cA 2, 8, .inl (fun _ => qI 0)))]) hin rfl clX8 rfl rfl (by decide) (Nat.le_of_ble_eq_true rfl) (by decide +kernel) rfl rfl tf_RX8_25 rfl dX8_init_38 ?_
  refine k_aln C dX8_init_41 (k := 0) rfl ?_
  refine k_bi C dX8_init_42 (by decide) ?_
  refine k_nI C (by decide) (N' := 8) (by decide) (by decide) ⟨Nat.le_of_ble_eq_true rfl, Nat.le_of_ble_eq_true rfl⟩ dX8_init_44 (fun q44 => ?_)
  refine k_eq (ws1 := [(h0, .inr (8, [.int (qI 0), .ref q12, .ref q20, .ref q28, .ref q36, .null, .int (qI 0), .int (qI 0), .null, .null, .null, .null, .null, .int (qI 0), .int (qI 0), .int (qI 0), .null])), (q12, .inl (cA 2, 8, .inl (fun _ => qI 0))), (q20, .inl (cA 2, 8, .inl (fun _ => qI 0))), (q28, .inl (cA 2, 8, .inl (fun _ => qI 0))), (q36, .inl (cA 2, 8, .inl (fun _ => qI 0))), (q44, .inl (cA 2, 8, .inl (fun _ => qI 0)))]) rfl ?_
  refine k_pF C 0 5 (v := .ref q44) (ty := (.array .int)) (ws1 := [(h0, .inr (8, [.int (qI 0), .ref q12, .ref q20, .ref q28, .ref q36, .ref q44, .int (qI 0), .int (qI 0), .null, .null, .null, .null, .null, .int (qI 0), .int (qI 0), .int (qI 0), .null])), (q12, .inl (cA 2, 8, .inl (fun _ => qI 0))), (q20, .inl (cA 2, 8, .inl (fun _ => qI 0))), (q28, .inl (cA 2, 8, .inl (fun _ => qI 0))), (q36, .inl (cA 2, 8, .inl (fun _ => qI 0))), (q44, .inl (cA 2, 8, .inl (fun _ => qI 0)))]) hin rfl clX8 rfl rfl (by decide) (Nat.le_of_ble_eq_true rfl) (by decide +kernel) rfl rfl tf_RX8_28 rfl dX8_init_46 ?_
  refine k_aln C dX8_init_49 (k := 0) rfl ?_
  refine k_ic C dX8_init_50 ?_
  refine k_pf C 0 6 (v := .int (qI 0)) (ty := .int) (ws1 := [(h0, .inr (8, [.int (qI 0), .ref q12, .ref q20, .ref q28, .ref q36, .ref q44, .int (qI 0), .int (qI 0), .null, .null, .null, .null, .null, .int (qI 0), .int (qI 0), .int (qI 0), .null])), (q12, .inl (cA 2, 8, .inl (fun _ => qI 0))), (q20, .inl (cA 2, 8, .inl (fun _ => qI 0))), (q28, .inl (cA 2, 8, .inl (fun _ => qI 0))), (q36, .inl (cA 2, 8, .inl (fun _ => qI 0))), (q44, .inl (cA 2, 8, .inl (fun _ => qI 0)))]) clX8 rfl rfl (by decide) (Nat.le_of_ble_eq_true rfl) (by decide +kernel) rfl rfl tf_RX8_31 rfl dX8_init_51 ?_
  refine k_aln C dX8_init_54 (k := 0) rfl ?_
  refine k_ic C dX8_init_55 ?_
  refine k_pf C 0 7 (v := .int (qI 0)) (ty := .int) (ws1 := [(h0, .inr (8, [.int (qI 0), .ref q12, .ref q20, .ref q28, .ref q36, .ref q44, .int (qI 0), .int (qI 0), .null, .null, .null, .null, .null, .int (qI 0), .int (qI 0), .int (qI 0), .null])), (q12, .inl (cA 2, 8, .inl (fun _ => qI 0))), (q20, .inl (cA 2, 8, .inl (fun _ => qI 0))), (q28, .inl (cA 2, 8, .inl (fun _ => qI 0))), (q36, .inl (cA 2, 8, .inl (fun _ => qI 0))), (q44, .inl (cA 2, 8, .inl (fun _ => qI 0)))]) clX8 rfl rfl (by decide) (Nat.le_of_ble_eq_true rfl) (by decide +kernel) rfl rfl tf_RX8_34 rfl dX8_init_56 ?_
  refine k_aln C dX8_init_59 (k := 0) rfl ?_
  refine k_ic C dX8_init_60 ?_
  refine k_nI C (by decide) (N' := 4) (by decide) (by decide) ⟨Nat.le_of_ble_eq_true rfl, Nat.le_of_ble_eq_true rfl⟩ dX8_init_61 (fun q61 => ?_)
  refine k_eq (ws1 := [(h0, .inr (8, [.int (qI 0), .ref q12, .ref q20, .ref q28, .ref q36, .ref q44, .int (qI 0), .int (qI 0), .null, .null, .null, .null, .null, .int (qI 0), .int (qI 0), .int (qI 0), .null])), (q12, .inl (cA 2, 8, .inl (fun _ => qI 0))), (q20, .inl (cA 2, 8, .inl (fun _ => qI 0))), (q28, .inl (cA 2, 8, .inl (fun _ => qI 0))), (q36, .inl (cA 2, 8, .inl (fun _ => qI 0))), (q44, .inl (cA 2, 8, .inl (fun _ => qI 0))), (q61, .inl (cA 2, 4, .inl (fun _ => qI 0)))]) rfl ?_
  refine k_pF C 0 8 (v := .ref q61) (ty := (.array .int)) (ws1 := [(h0, .inr (8, [.int (qI 0), .ref q12, .ref q20, .ref q28, .ref q36, .ref q44, .int (qI 0), .int (qI 0), .ref q61, .null, .null, .null, .null, .int (qI 0), .int (qI 0), .int (qI 0), .null])), (q12, .inl (cA 2, 8, .inl (fun _ => qI 0))), (q20, .inl (cA 2, 8, .inl (fun _ => qI 0))), (q28, .inl (cA 2, 8, .inl (fun _ => qI 0))), (q36, .inl (cA 2, 8, .inl (fun _ => qI 0))), (q44, .inl (cA 2, 8, .inl (fun _ => qI 0))), (q61, .inl (cA 2, 4, .inl (fun _ => qI 0)))]) hin rfl clX8 rfl rfl (by decide) (Nat.le_of_ble_eq_true rfl) (by decide +kernel) rfl rfl tf_RX8_37 rfl dX8_init_63 ?_
  refine k_aln C dX8_init_66 (k := 0) rfl ?_
  refine k_ic C dX8_init_67 ?_
  refine k_nI C (by decide) (N' := 4) (by decide) (by decide) ⟨Nat.le_of_ble_eq_true rfl, Nat.le_of_ble_eq_true rfl⟩ dX8_init_68 (fun q68 => ?_)
  refine k_eq (ws1 := [(h0, .inr (8, [.int (qI 0), .ref q12, .ref q20, .ref q28, .ref q36, .ref q44, .int (qI 0), .int (qI 0), .ref q61, .null, .null, .null, .null, .int (qI 0), .int (qI 0), .int (qI 0), .null])), (q12, .inl (cA 2, 8, .inl (fun _ => qI 0))), (q20, .inl (cA 2, 8, .inl (fun _ => qI 0))), (q28, .inl (cA 2, 8, .inl (fun _ => qI 0))), (q36, .inl (cA 2, 8, .inl (fun _ => qI 0))), (q44, .inl (cA 2, 8, .inl (fun _ => qI 0))), (q61, .inl (cA 2, 4, .inl (fun _ => qI 0))), (q68, .inl (cA 2, 4, .inl (fun _ => qI 0)))]) rfl ?_
  refine k_pF C 0 9 (v := .ref q68) (ty := (.array .int)) (ws1 := [(h0, .inr (8, [.int (qI 0), .ref q12, .ref q20, .ref q28, .ref q36, .ref q44, .int (qI 0), .int (qI 0), .ref q61, .ref q68, .null, .null, .null, .int (qI 0), .int (qI 0), .int (qI 0), .null])), (q12, .inl (cA 2, 8, .inl (fun _ => qI 0))), (q20, .inl (cA 2, 8, .inl (fun _ => qI 0))), (q28, .inl (cA 2, 8, .inl (fun _ => qI 0))), (q36, .inl (cA 2, 8, .inl (fun _ => qI 0))), (q44, .inl (cA 2, 8, .inl (fun _ => qI 0))), (q61, .inl (cA 2, 4, .inl (fun _ => qI 0))), (q68, .inl (cA 2, 4, .inl (fun _ => qI 0)))]) hin rfl clX8 rfl rfl (by decide) (Nat.le_of_ble_eq_true rfl) (by decide +kernel) rfl rfl tf_RX8_40 rfl dX8_init_70 ?_
  refine k_aln C dX8_init_73 (k := 0) rfl ?_
  refine k_ic C dX8_init_74 ?_
  refine k_nI C (by decide) (N' := 4) (by decide) (by decide) ⟨Nat.le_of_ble_eq_true rfl, Nat.le_of_ble_eq_true rfl⟩ dX8_init_75 (fun q75 => ?_)
  refine k_eq (ws1 := [(h0, .inr (8, [.int (qI 0), .ref q12, .ref q20, .ref q28, .ref q36, .ref q44, .int (qI 0), .int (qI 0), .ref q61, .ref q68, .null, .null, .null, .int (qI 0), .int (qI 0), .int (qI 0), .null])), (q12, .inl (cA 2, 8, .inl (fun _ => qI 0))), (q20, .inl (cA 2, 8, .inl (fun _ => qI 0))), (q28, .inl (cA 2, 8, .inl (fun _ => qI 0))), (q36, .inl (cA 2, 8, .inl (fun _ => qI 0))), (q44, .inl (cA 2, 8, .inl (fun _ => qI 0))), (q61, .inl (cA 2, 4, .inl (fun _ => qI 0))), (q68, .inl (cA 2, 4, .inl (fun _ => qI 0))), (q75, .inl (cA 2, 4, .inl (fun _ => qI 0)))]) rfl ?_
  refine k_pF C 0 10 (v := .ref q75) (ty := (.array .int)) (ws1 := [(h0, .inr (8, [.int (qI 0), .ref q12, .ref q20, .ref q28, .ref q36, .ref q44, .int (qI 0), .int (qI 0), .ref q61, .ref q68, .ref q75, .null, .null, .int (qI 0), .int (qI 0), .int (qI 0), .null])), (q12, .inl (cA 2, 8, .inl (fun _ => qI 0))), (q20, .inl (cA 2, 8, .inl (fun _ => qI 0))), (q28, .inl (cA 2, 8, .inl (fun _ => qI 0))), (q36, .inl (cA 2, 8, .inl (fun _ => qI 0))), (q44, .inl (cA 2, 8, .inl (fun _ => qI 0))), (q61, .inl (cA 2, 4, .inl (fun _ => qI 0))), (q68, .inl (cA 2, 4, .inl (fun _ => qI 0))), (q75, .inl (cA 2, 4, .inl (fun _ => qI 0)))]) hin rfl clX8 rfl rfl (by decide) (Nat.le_of_ble_eq_true rfl) (by decide +kernel) rfl rfl tf_RX8_43 rfl dX8_init_77 ?_
  refine k_aln C dX8_init_80 (k := 0) rfl ?_
  refine k_ic C dX8_init_81 ?_
  refine k_nI C (by decide) (N' := 4) (by decide) (by decide) ⟨Nat.le_of_ble_eq_true rfl, Nat.le_of_ble_eq_true rfl⟩ dX8_init_82 (fun q82 => ?_)
  refine k_eq (ws1 := [(h0, .inr (8, [.int (qI 0), .ref q12, .ref q20, .ref q28, .ref q36, .ref q44, .int (qI 0), .int (qI 0), .ref q61, .ref q68, .ref q75, .null, .null, .int (qI 0), .int (qI 0), .int (qI 0), .null])), (q12, .inl (cA 2, 8, .inl (fun _ => qI 0))), (q20, .inl (cA 2, 8, .inl (fun _ => qI 0))), (q28, .inl (cA 2, 8, .inl (fun _ => qI 0))), (q36, .inl (cA 2, 8, .inl (fun _ => qI 0))), (q44, .inl (cA 2, 8, .inl (fun _ => qI 0))), (q61, .inl (cA 2, 4, .inl (fun _ => qI 0))), (q68, .inl (cA 2, 4, .inl (fun _ => qI 0))), (q75, .inl (cA 2, 4, .inl (fun _ => qI 0))), (q82, .inl (cA 2, 4, .inl (fun _ => qI 0)))]) rfl ?_
  refine k_pF C 0 11 (v := .ref q82) (ty := (.array .int)) (ws1 := [(h0, .inr (8, [.int (qI 0), .ref q12, .ref q20, .ref q28, .ref q36, .ref q44, .int (qI 0), .int (qI 0), .ref q61, .ref q68, .ref q75, .ref q82, .null, .int (qI 0), .int (qI 0), .int (qI 0), .null])), (q12, .inl (cA 2, 8, .inl (fun _ => qI 0))), (q20, .inl (cA 2, 8, .inl (fun _ => qI 0))), (q28, .inl (cA 2, 8, .inl (fun _ => qI 0))), (q36, .inl (cA 2, 8, .inl (fun _ => qI 0))), (q44, .inl (cA 2, 8, .inl (fun _ => qI 0))), (q61, .inl (cA 2, 4, .inl (fun _ => qI 0))), (q68, .inl (cA 2, 4, .inl (fun _ => qI 0))), (q75, .inl (cA 2, 4, .inl (fun _ => qI 0))), (q82, .inl (cA 2, 4, .inl (fun _ => qI 0)))]) hin rfl clX8 rfl rfl (by decide) (Nat.le_of_ble_eq_true rfl) (by decide +kernel) rfl rfl tf_RX8_46 rfl dX8_init_84 ?_
  refine k_aln C dX8_init_87 (k := 0) rfl ?_
  refine k_ic C dX8_init_88 ?_
  refine k_nI C (by decide) (N' := 4) (by decide) (by decide) ⟨Nat.le_of_ble_eq_true rfl, Nat.le_of_ble_eq_true rfl⟩ dX8_init_89 (fun q89 => ?_)
  refine k_eq (ws1 := [(h0, .inr (8, [.int (qI 0), .ref q12, .ref q20, .ref q28, .ref q36, .ref q44, .int (qI 0), .int (qI 0), .ref q61, .ref q68, .ref q75, .ref q82, .null, .int (qI 0), .int (qI 0), .int (qI 0), .null])), (q12, .inl (cA 2, 8, .inl (fun _ => qI 0))), (q20, .inl (cA 2, 8, .inl (fun _ => qI 0))), (q28, .inl (cA 2, 8, .inl (fun _ => qI 0))), (q36, .inl (cA 2, 8, .inl (fun _ => qI 0))), (q44, .inl (cA 2, 8, .inl (fun _ => qI 0))), (q61, .inl (cA 2, 4, .inl (fun _ => qI 0))), (q68, .inl (cA 2, 4, .inl (fun _ => qI 0))), (q75, .inl (cA 2, 4, .inl (fun _ => qI 0))), (q82, .inl (cA 2, 4, .inl (fun _ => qI 0))), (q89, .inl (cA 2, 4, .inl (fun _ => qI 0)))]) rfl ?_
  refine k_pF C 0 12 (v := .ref q89) (ty := (.array .int)) (ws1 := [(h0, .inr (8, [.int (qI 0), .ref q12, .ref q20, .ref q28, .ref q36, .ref q44, .int (qI 0), .int (qI 0), .ref q61, .ref q68, .ref q75, .ref q82, .ref q89, .int (qI 0), .int (qI 0), .int (qI 0), .null])), (q12, .inl (cA 2, 8, .inl (fun _ => qI 0))), (q20, .inl (cA 2, 8, .inl (fun _ => qI 0))), (q28, .inl (cA 2, 8, .inl (fun _ => qI 0))), (q36, .inl (cA 2, 8, .inl (fun _ => qI 0))), (q44, .inl (cA 2, 8, .inl (fun _ => qI 0))), (q61, .inl (cA 2, 4, .inl (fun _ => qI 0))), (q68, .inl (cA 2, 4, .inl (fun _ => qI 0))), (q75, .inl (cA 2, 4, .inl (fun _ => qI 0))), (q82, .inl (cA 2, 4, .inl (fun _ => qI 0))), (q89, .inl (cA 2, 4, .inl (fun _ => qI 0)))]) hin rfl clX8 rfl rfl (by decide) (Nat.le_of_ble_eq_true rfl) (by decide +kernel) rfl rfl tf_RX8_49 rfl dX8_init_91 ?_
  refine k_aln C dX8_init_94 (k := 0) rfl ?_
  refine k_ic C dX8_init_95 ?_
  refine k_pf C 0 13 (v := .int (qI 2)) (ty := .int) (ws1 := [(h0, .inr (8, [.int (qI 0), .ref q12, .ref q20, .ref q28, .ref q36, .ref q44, .int (qI 0), .int (qI 0), .ref q61, .ref q68, .ref q75, .ref q82, .ref q89, .int (qI 2), .int (qI 0), .int (qI 0), .null])), (q12, .inl (cA 2, 8, .inl (fun _ => qI 0))), (q20, .inl (cA 2, 8, .inl (fun _ => qI 0))), (q28, .inl (cA 2, 8, .inl (fun _ => qI 0))), (q36, .inl (cA 2, 8, .inl (fun _ => qI 0))), (q44, .inl (cA 2, 8, .inl (fun _ => qI 0))), (q61, .inl (cA 2, 4, .inl (fun _ => qI 0))), (q68, .inl (cA 2, 4, .inl (fun _ => qI 0))), (q75, .inl (cA 2, 4, .inl (fun _ => qI 0))), (q82, .inl (cA 2, 4, .inl (fun _ => qI 0))), (q89, .inl (cA 2, 4, .inl (fun _ => qI 0)))]) clX8 rfl rfl (by decide) (Nat.le_of_ble_eq_true rfl) (by decide +kernel) rfl rfl tf_RX8_52 rfl dX8_init_96 ?_
  refine k_aln C dX8_init_99 (k := 0) rfl ?_
  refine k_ic C dX8_init_100 ?_
  refine k_pf C 0 14 (v := .int (qI 0)) (ty := .int) (ws1 := [(h0, .inr (8, [.int (qI 0), .ref q12, .ref q20, .ref q28, .ref q36, .ref q44, .int (qI 0), .int (qI 0), .ref q61, .ref q68, .ref q75, .ref q82, .ref q89, .int (qI 2), .int (qI 0), .int (qI 0), .null])), (q12, .inl (cA 2, 8, .inl (fun _ => qI 0))), (q20, .inl (cA 2, 8, .inl (fun _ => qI 0))), (q28, .inl (cA 2, 8, .inl (fun _ => qI 0))), (q36, .inl (cA 2, 8, .inl (fun _ => qI 0))), (q44, .inl (cA 2, 8, .inl (fun _ => qI 0))), (q61, .inl (cA 2, 4, .inl (fun _ => qI 0))), (q68, .inl (cA 2, 4, .inl (fun _ => qI 0))), (q75, .inl (cA 2, 4, .inl (fun _ => qI 0))), (q82, .inl (cA 2, 4, .inl (fun _ => qI 0))), (q89, .inl (cA 2, 4, .inl (fun _ => qI 0)))]) clX8 rfl rfl (by decide) (Nat.le_of_ble_eq_true rfl) (by decide +kernel) rfl rfl tf_RX8_55 rfl dX8_init_101 ?_
  refine k_aln C dX8_init_104 (k := 0) rfl ?_
  refine k_ic C dX8_init_105 ?_
  refine k_pf C 0 15 (v := .int (qI 0)) (ty := .int) (ws1 := [(h0, .inr (8, [.int (qI 0), .ref q12, .ref q20, .ref q28, .ref q36, .ref q44, .int (qI 0), .int (qI 0), .ref q61, .ref q68, .ref q75, .ref q82, .ref q89, .int (qI 2), .int (qI 0), .int (qI 0), .null])), (q12, .inl (cA 2, 8, .inl (fun _ => qI 0))), (q20, .inl (cA 2, 8, .inl (fun _ => qI 0))), (q28, .inl (cA 2, 8, .inl (fun _ => qI 0))), (q36, .inl (cA 2, 8, .inl (fun _ => qI 0))), (q44, .inl (cA 2, 8, .inl (fun _ => qI 0))), (q61, .inl (cA 2, 4, .inl (fun _ => qI 0))), (q68, .inl (cA 2, 4, .inl (fun _ => qI 0))), (q75, .inl (cA 2, 4, .inl (fun _ => qI 0))), (q82, .inl (cA 2, 4, .inl (fun _ => qI 0))), (q89, .inl (cA 2, 4, .inl (fun _ => qI 0)))]) clX8 rfl rfl (by decide) (Nat.le_of_ble_eq_true rfl) (by decide +kernel) rfl rfl tf_RX8_58 rfl dX8_init_106 ?_
  refine k_aln C dX8_init_109 (k := 0) rfl ?_
  refine k_new C (fs := [.null, .null, .null, .null, .null, .int (qI 0), .int (qI 0)]) clX2 tyX2_ok (by decide +kernel) tk_RX8_61 tz_RX2 tn_RX2 ⟨Nat.le_of_ble_eq_true rfl, Nat.le_of_ble_eq_true rfl⟩ dX8_init_110 (fun q110 => ?_)
  refine k_eq (ws1 := [(h0, .inr (8, [.int (qI 0), .ref q12, .ref q20, .ref q28, .ref q36, .ref q44, .int (qI 0), .int (qI 0), .ref q61, .ref q68, .ref q75, .ref q82, .ref q89, .int (qI 2), .int (qI 0), .int (qI 0), .null])), (q12, .inl (cA 2, 8, .inl (fun _ => qI 0))), (q20, .inl (cA 2, 8, .inl (fun _ => qI 0))), (q28, .inl (cA 2, 8, .inl (fun _ => qI 0))), (q36, .inl (cA 2, 8, .inl (fun _ => qI 0))), (q44, .inl (cA 2, 8, .inl (fun _ => qI 0))), (q61, .inl (cA 2, 4, .inl (fun _ => qI 0))), (q68, .inl (cA 2, 4, .inl (fun _ => qI 0))), (q75, .inl (cA 2, 4, .inl (fun _ => qI 0))), (q82, .inl (cA 2, 4, .inl (fun _ => qI 0))), (q89, .inl (cA 2, 4, .inl (fun _ => qI 0))), (q110, .inr (2, [.null, .null, .null, .null, .null, .int (qI 0), .int (qI 0)]))]) rfl ?_
  refine k_dup C rfl dX8_init_113 ?_
  refine k_calN C (wr := [(h0, .inr (8, [.int (qI 0), .ref q12, .ref q20, .ref q28, .ref q36, .ref q44, .int (qI 0), .int (qI 0), .ref q61, .ref q68, .ref q75, .ref q82, .ref q89, .int (qI 2), .int (qI 0), .int (qI 0), .null])), (q12, .inl (cA 2, 8, .inl (fun _ => qI 0))), (q20, .inl (cA 2, 8, .inl (fun _ => qI 0))), (q28, .inl (cA 2, 8, .inl (fun _ => qI 0))), (q36, .inl (cA 2, 8, .inl (fun _ => qI 0))), (q44, .inl (cA 2, 8, .inl (fun _ => qI 0))), (q61, .inl (cA 2, 4, .inl (fun _ => qI 0))), (q68, .inl (cA 2, 4, .inl (fun _ => qI 0))), (q75, .inl (cA 2, 4, .inl (fun _ => qI 0))), (q82, .inl (cA 2, 4, .inl (fun _ => qI 0))), (q89, .inl (cA 2, 4, .inl (fun _ => qI 0)))]) (na := 0) (st := [.ref q110, .ref h0]) (k_X2_init l b0 D cA q110) (k_cwN C.1.2.2.2.2 (C.2.2.2.2.1 _ (by decide)) ti_X2_init tn_RX2 td_X2_init rfl rfl rfl (by decide +kernel) ⟨Nat.le_of_ble_eq_true rfl, Nat.le_of_ble_eq_true rfl⟩) [11] [0, 1, 2, 3, 4, 5, 6, 7, 8, 9, 10] rfl rfl rfl (by decide) (by decide) (by decide) ⟨Nat.le_of_ble_eq_true rfl, Nat.le_of_ble_eq_true rfl⟩ rfl rfl (Nat.le_of_ble_eq_true rfl) dX8_init_114 (fun q114 => ?_)
  refine k_eq (ws1 := [(h0, .inr (8, [.int (qI 0), .ref q12, .ref q20, .ref q28, .ref q36, .ref q44, .int (qI 0), .int (qI 0), .ref q61, .ref q68, .ref q75, .ref q82, .ref q89, .int (qI 2), .int (qI 0), .int (qI 0), .null])), (q12, .inl (cA 2, 8, .inl (fun _ => qI 0))), (q20, .inl (cA 2, 8, .inl (fun _ => qI 0))), (q28, .inl (cA 2, 8, .inl (fun _ => qI 0))), (q36, .inl (cA 2, 8, .inl (fun _ => qI 0))), (q44, .inl (cA 2, 8, .inl (fun _ => qI 0))), (q61, .inl (cA 2, 4, .inl (fun _ => qI 0))), (q68, .inl (cA 2, 4, .inl (fun _ => qI 0))), (q75, .inl (cA 2, 4, .inl (fun _ => qI 0))), (q82, .inl (cA 2, 4, .inl (fun _ => qI 0))), (q89, .inl (cA 2, 4, .inl (fun _ => qI 0))), (q110, .inr (2, [.ref (q114 0), .ref (q114 1), .ref (q114 2), .ref (q114 3), .ref (q114 4), .int (qI 0), .int (qI 0)])), (q114 0, .inl (cA 2, 64, .inl (fun _ => qI 0))), (q114 1, .inl (cA 2, 64, .inl (fun _ => qI 0))), (q114 2, .inl (cA 2, 3, .inl (fun _ => qI 0))), (q114 3, .inl (cA 2, 3, .inl (fun _ => qI 0))), (q114 4, .inl (cA 5, 64, .inr (.inl (fun _ => qJ 0))))]) rfl ?_
  refine k_pF C 0 16 (v := .ref q110) (ty := (.object "HeavenStop$Laws")) (ws1 := [(h0, .inr (8, [.int (qI 0), .ref q12, .ref q20, .ref q28, .ref q36, .ref q44, .int (qI 0), .int (qI 0), .ref q61, .ref q68, .ref q75, .ref q82, .ref q89, .int (qI 2), .int (qI 0), .int (qI 0), .ref q110])), (q12, .inl (cA 2, 8, .inl (fun _ => qI 0))), (q20, .inl (cA 2, 8, .inl (fun _ => qI 0))), (q28, .inl (cA 2, 8, .inl (fun _ => qI 0))), (q36, .inl (cA 2, 8, .inl (fun _ => qI 0))), (q44, .inl (cA 2, 8, .inl (fun _ => qI 0))), (q61, .inl (cA 2, 4, .inl (fun _ => qI 0))), (q68, .inl (cA 2, 4, .inl (fun _ => qI 0))), (q75, .inl (cA 2, 4, .inl (fun _ => qI 0))), (q82, .inl (cA 2, 4, .inl (fun _ => qI 0))), (q89, .inl (cA 2, 4, .inl (fun _ => qI 0))), (q110, .inr (2, [.ref (q114 0), .ref (q114 1), .ref (q114 2), .ref (q114 3), .ref (q114 4), .int (qI 0), .int (qI 0)])), (q114 0, .inl (cA 2, 64, .inl (fun _ => qI 0))), (q114 1, .inl (cA 2, 64, .inl (fun _ => qI 0))), (q114 2, .inl (cA 2, 3, .inl (fun _ => qI 0))), (q114 3, .inl (cA 2, 3, .inl (fun _ => qI 0))), (q114 4, .inl (cA 5, 64, .inr (.inl (fun _ => qJ 0))))]) hin rfl clX8 rfl rfl (by decide) (Nat.le_of_ble_eq_true rfl) (by decide +kernel) rfl rfl tf_RX8_64 rfl dX8_init_117 ?_
  exact k_ret C hr hlk (fun i => [q12, q20, q28, q36, q44, q61, q68, q75, q82, q89, q110, q114 0, q114 1, q114 2, q114 3, q114 4].getD i 0) [0, 1, 2, 3, 4, 5, 6, 7, 8, 9, 10, 11, 12, 13, 14, 15, 16] (by decide) rfl rfl dX8_init_120
theorem tmo_X1_init : Cond.methodLink RX1 3 objectInit ∈ wsQ := wq_2 (List.mem_of_getElem? (i := 20) rfl) rfl
def w_X1_init (cA : Nat → ClassId) (h0 : Nat) (p0 : Nat) (q : Nat → Nat) : va_W := [(h0, .inr (1, [.ref p0, .ref (q 0), .int (qI 0), .int (qI 0), .ref (q 1), .int (qI 1), .int (qI 1)])), ((q 0), .inl (cA 2, 72, .inl (fun _ => qI 0))), ((q 1), .inl (cA 4, 9, .inl (fun _ => qI 0)))]
abbrev rm_X1_init : Room := { frames := 1, cells := 2, slots := 81, locals := 20 }
set_option maxRecDepth 20000 in
theorem k_X1_init (l : Launch) (b0 : Nat) (D : va_G) (cA : Nat → ClassId) (h0 : Nat) (p0 : Nat) : k_Met l b0 D cA yX1_init cX1_init 2 rm_X1_init [.ref h0, .ref p0] [(h0, .inr (1, [.null, .null, .int (qI 0), .int (qI 0), .null, .int (qI 0), .int (qI 0)]))] (w_X1_init cA h0 p0) 2 81 := by
  refine k_met (L0 := [(0, .ref h0), (1, .ref p0)]) (by decide) (Nat.le_of_ble_eq_true rfl) rfl rfl ?_
  intro p e s m args below meth c C hr hlk hin
  refine k_aln C dX1_init_0 (k := 0) rfl ?_
  refine k_obj C (tmo_X1_init) ⟨Nat.le_of_ble_eq_true rfl, Nat.le_of_ble_eq_true rfl⟩ dX1_init_1 ?_
  refine k_aln C dX1_init_4 (k := 0) rfl ?_
  refine k_bi C dX1_init_5 (by decide) ?_
  refine k_nI C (by decide) (N' := 72) (by decide) (by decide) ⟨Nat.le_of_ble_eq_true rfl, Nat.le_of_ble_eq_true rfl⟩ dX1_init_7 (fun q7 => ?_)
  refine k_eq (ws1 := [(h0, .inr (1, [.null, .null, .int (qI 0), .int (qI 0), .null, .int (qI 0), .int (qI 0)])), (q7, .inl (cA 2, 72, .inl (fun _ => qI 0)))]) rfl ?_
  refine k_pF C 0 1 (v := .ref q7) (ty := (.array .int)) (ws1 := [(h0, .inr (1, [.null, .ref q7, .int (qI 0), .int (qI 0), .null, .int (qI 0), .int (qI 0)])), (q7, .inl (cA 2, 72, .inl (fun _ => qI 0)))]) hin rfl clX1 rfl rfl (by decide) (Nat.le_of_ble_eq_true rfl) (by decide +kernel) rfl rfl tf_RX1_9 rfl dX1_init_9 ?_
  refine k_aln C dX1_init_12 (k := 0) rfl ?_
  refine k_ic C dX1_init_13 ?_
  refine k_pf C 0 2 (v := .int (qI 0)) (ty := .int) (ws1 := [(h0, .inr (1, [.null, .ref q7, .int (qI 0), .int (qI 0), .null, .int (qI 0), .int (qI 0)])), (q7, .inl (cA 2, 72, .inl (fun _ => qI 0)))]) clX1 rfl rfl (by decide) (Nat.le_of_ble_eq_true rfl) (by decide +kernel) rfl rfl tf_RX1_15 rfl dX1_init_14 ?_
  refine k_aln C dX1_init_17 (k := 0) rfl ?_
  refine k_ic C dX1_init_18 ?_
  refine k_pf C 0 3 (v := .int (qI 0)) (ty := .int) (ws1 := [(h0, .inr (1, [.null, .ref q7, .int (qI 0), .int (qI 0), .null, .int (qI 0), .int (qI 0)])), (q7, .inl (cA 2, 72, .inl (fun _ => qI 0)))]) clX1 rfl rfl (by decide) (Nat.le_of_ble_eq_true rfl) (by decide +kernel) rfl rfl tf_RX1_19 rfl dX1_init_19 ?_
  refine k_aln C dX1_init_22 (k := 0) rfl ?_
  refine k_bi C dX1_init_23 (by decide) ?_
  refine k_nZ C (by decide) (N' := 9) (by decide) (by decide) ⟨Nat.le_of_ble_eq_true rfl, Nat.le_of_ble_eq_true rfl⟩ dX1_init_25 (fun q25 => ?_)
  refine k_eq (ws1 := [(h0, .inr (1, [.null, .ref q7, .int (qI 0), .int (qI 0), .null, .int (qI 0), .int (qI 0)])), (q7, .inl (cA 2, 72, .inl (fun _ => qI 0))), (q25, .inl (cA 4, 9, .inl (fun _ => qI 0)))]) rfl ?_
  refine k_pF C 0 4 (v := .ref q25) (ty := (.array .boolean)) (ws1 := [(h0, .inr (1, [.null, .ref q7, .int (qI 0), .int (qI 0), .ref q25, .int (qI 0), .int (qI 0)])), (q7, .inl (cA 2, 72, .inl (fun _ => qI 0))), (q25, .inl (cA 4, 9, .inl (fun _ => qI 0)))]) hin rfl clX1 rfl rfl (by decide) (Nat.le_of_ble_eq_true rfl) (by decide +kernel) rfl rfl tf_RX1_22 rfl dX1_init_27 ?_
  refine k_aln C dX1_init_30 (k := 0) rfl ?_
  refine k_ic C dX1_init_31 ?_
  refine k_pf C 0 5 (v := .int (qI 1)) (ty := .boolean) (ws1 := [(h0, .inr (1, [.null, .ref q7, .int (qI 0), .int (qI 0), .ref q25, .int (qI 1), .int (qI 0)])), (q7, .inl (cA 2, 72, .inl (fun _ => qI 0))), (q25, .inl (cA 4, 9, .inl (fun _ => qI 0)))]) clX1 rfl rfl (by decide) (Nat.le_of_ble_eq_true rfl) (by decide +kernel) (by decide) (by decide) tf_RX1_26 rfl dX1_init_32 ?_
  refine k_aln C dX1_init_35 (k := 0) rfl ?_
  refine k_ic C dX1_init_36 ?_
  refine k_pf C 0 6 (v := .int (qI 1)) (ty := .boolean) (ws1 := [(h0, .inr (1, [.null, .ref q7, .int (qI 0), .int (qI 0), .ref q25, .int (qI 1), .int (qI 1)])), (q7, .inl (cA 2, 72, .inl (fun _ => qI 0))), (q25, .inl (cA 4, 9, .inl (fun _ => qI 0)))]) clX1 rfl rfl (by decide) (Nat.le_of_ble_eq_true rfl) (by decide +kernel) (by decide) (by decide) tf_RX1_30 rfl dX1_init_37 ?_
  refine k_aln C dX1_init_40 (k := 0) rfl ?_
  refine k_aln C dX1_init_41 (k := 1) rfl ?_
  refine k_pF C 0 0 (v := .ref p0) (ty := (.object "HeavenStop$Tokens")) (ws1 := [(h0, .inr (1, [.ref p0, .ref q7, .int (qI 0), .int (qI 0), .ref q25, .int (qI 1), .int (qI 1)])), (q7, .inl (cA 2, 72, .inl (fun _ => qI 0))), (q25, .inl (cA 4, 9, .inl (fun _ => qI 0)))]) hin rfl clX1 rfl rfl (by decide) (Nat.le_of_ble_eq_true rfl) (by decide +kernel) rfl rfl tf_RX1_33 rfl dX1_init_42 ?_
  exact k_ret C hr hlk (fun i => [q7, q25].getD i 0) [0, 1, 2] (by decide) rfl rfl dX1_init_45
theorem tmo_X3_init : Cond.methodLink RX3 3 objectInit ∈ wsQ := wq_2 (List.mem_of_getElem? (i := 130) rfl) rfl
def w_X3_init (cA : Nat → ClassId) (h0 : Nat) (p0 : Nat) (p1 : Nat) (q : Nat → Nat) : va_W := [(h0, .inr (3, [.ref p0, .ref p1, .int (qI 0), .int (qI 0), .int (qI (-1)), .int (qI 1), .ref (q 0), .ref (q 1)])), ((q 0), .inl (cA 5, 7, .inr (.inl (fun _ => qJ 0)))), ((q 1), .inl (cA 2, 8, .inl (fun _ => qI 0)))]
abbrev rm_X3_init : Room := { frames := 1, cells := 2, slots := 15, locals := 20 }
set_option maxRecDepth 20000 in
theorem k_X3_init (l : Launch) (b0 : Nat) (D : va_G) (cA : Nat → ClassId) (h0 : Nat) (p0 : Nat) (p1 : Nat) : k_Met l b0 D cA yX3_init cX3_init 3 rm_X3_init [.ref h0, .ref p0, .ref p1] [(h0, .inr (3, [.null, .null, .int (qI 0), .int (qI 0), .int (qI 0), .int (qI 0), .null, .null]))] (w_X3_init cA h0 p0 p1) 2 15 := by
  refine k_met (L0 := [(0, .ref h0), (1, .ref p0), (2, .ref p1)]) (by decide) (Nat.le_of_ble_eq_true rfl) rfl rfl ?_
  intro p e s m args below meth c C hr hlk hin
  refine k_aln C dX3_init_0 (k := 0) rfl ?_
  refine k_obj C (tmo_X3_init) ⟨Nat.le_of_ble_eq_true rfl, Nat.le_of_ble_eq_true rfl⟩ dX3_init_1 ?_
  refine k_aln C dX3_init_4 (k := 0) rfl ?_
  refine k_ic C dX3_init_5 ?_
  refine k_pf C 0 2 (v := .int (qI 0)) (ty := .boolean) (ws1 := [(h0, .inr (3, [.null, .null, .int (qI 0), .int (qI 0), .int (qI 0), .int (qI 0), .null, .null]))]) clX3 rfl rfl (by decide) (Nat.le_of_ble_eq_true rfl) (by decide +kernel) (by decide) (by decide) tf_RX3_9 rfl dX3_init_6 ?_
  refine k_aln C dX3_init_9 (k := 0) rfl ?_
  refine k_ic C dX3_init_10 ?_
  refine k_pf C 0 3 (v := .int (qI 0)) (ty := .int) (ws1 := [(h0, .inr (3, [.null, .null, .int (qI 0), .int (qI 0), .int (qI 0), .int (qI 0), .null, .null]))]) clX3 rfl rfl (by decide) (Nat.le_of_ble_eq_true rfl) (by decide +kernel) rfl rfl tf_RX3_15 rfl dX3_init_11 ?_
  refine k_aln C dX3_init_14 (k := 0) rfl ?_
  refine k_ic C dX3_init_15 ?_
  refine k_pf C 0 4 (v := .int (qI (-1))) (ty := .int) (ws1 := [(h0, .inr (3, [.null, .null, .int (qI 0), .int (qI 0), .int (qI (-1)), .int (qI 0), .null, .null]))]) clX3 rfl rfl (by decide) (Nat.le_of_ble_eq_true rfl) (by decide +kernel) rfl rfl tf_RX3_19 rfl dX3_init_16 ?_
  refine k_aln C dX3_init_19 (k := 0) rfl ?_
  refine k_ic C dX3_init_20 ?_
  refine k_pf C 0 5 (v := .int (qI 1)) (ty := .int) (ws1 := [(h0, .inr (3, [.null, .null, .int (qI 0), .int (qI 0), .int (qI (-1)), .int (qI 1), .null, .null]))]) clX3 rfl rfl (by decide) (Nat.le_of_ble_eq_true rfl) (by decide +kernel) rfl rfl tf_RX3_22 rfl dX3_init_21 ?_
  refine k_aln C dX3_init_24 (k := 0) rfl ?_
  refine k_bi C dX3_init_25 (by decide) ?_
  refine k_nJ C (by decide) (N' := 7) (by decide) (by decide) ⟨Nat.le_of_ble_eq_true rfl, Nat.le_of_ble_eq_true rfl⟩ dX3_init_27 (fun q27 => ?_)
  refine k_eq (ws1 := [(h0, .inr (3, [.null, .null, .int (qI 0), .int (qI 0), .int (qI (-1)), .int (qI 1), .null, .null])), (q27, .inl (cA 5, 7, .inr (.inl (fun _ => qJ 0))))]) rfl ?_
  refine k_pF C 0 6 (v := .ref q27) (ty := (.array .long)) (ws1 := [(h0, .inr (3, [.null, .null, .int (qI 0), .int (qI 0), .int (qI (-1)), .int (qI 1), .ref q27, .null])), (q27, .inl (cA 5, 7, .inr (.inl (fun _ => qJ 0))))]) hin rfl clX3 rfl rfl (by decide) (Nat.le_of_ble_eq_true rfl) (by decide +kernel) rfl rfl tf_RX3_25 rfl dX3_init_29 ?_
  refine k_aln C dX3_init_32 (k := 0) rfl ?_
  refine k_bi C dX3_init_33 (by decide) ?_
  refine k_nI C (by decide) (N' := 8) (by decide) (by decide) ⟨Nat.le_of_ble_eq_true rfl, Nat.le_of_ble_eq_true rfl⟩ dX3_init_35 (fun q35 => ?_)
  refine k_eq (ws1 := [(h0, .inr (3, [.null, .null, .int (qI 0), .int (qI 0), .int (qI (-1)), .int (qI 1), .ref q27, .null])), (q27, .inl (cA 5, 7, .inr (.inl (fun _ => qJ 0)))), (q35, .inl (cA 2, 8, .inl (fun _ => qI 0)))]) rfl ?_
  refine k_pF C 0 7 (v := .ref q35) (ty := (.array .int)) (ws1 := [(h0, .inr (3, [.null, .null, .int (qI 0), .int (qI 0), .int (qI (-1)), .int (qI 1), .ref q27, .ref q35])), (q27, .inl (cA 5, 7, .inr (.inl (fun _ => qJ 0)))), (q35, .inl (cA 2, 8, .inl (fun _ => qI 0)))]) hin rfl clX3 rfl rfl (by decide) (Nat.le_of_ble_eq_true rfl) (by decide +kernel) rfl rfl tf_RX3_29 rfl dX3_init_37 ?_
  refine k_aln C dX3_init_40 (k := 0) rfl ?_
  refine k_aln C dX3_init_41 (k := 1) rfl ?_
  refine k_pf C 0 0 (v := .ref p0) (ty := (.object "HeavenStop$Told")) (ws1 := [(h0, .inr (3, [.ref p0, .null, .int (qI 0), .int (qI 0), .int (qI (-1)), .int (qI 1), .ref q27, .ref q35])), (q27, .inl (cA 5, 7, .inr (.inl (fun _ => qJ 0)))), (q35, .inl (cA 2, 8, .inl (fun _ => qI 0)))]) clX3 rfl rfl (by decide) (Nat.le_of_ble_eq_true rfl) (by decide +kernel) rfl rfl tf_RX3_33 rfl dX3_init_42 ?_
  refine k_aln C dX3_init_45 (k := 0) rfl ?_
  refine k_aln C dX3_init_46 (k := 2) rfl ?_
  refine k_pf C 0 1 (v := .ref p1) (ty := (.object "HeavenStop$Stand")) (ws1 := [(h0, .inr (3, [.ref p0, .ref p1, .int (qI 0), .int (qI 0), .int (qI (-1)), .int (qI 1), .ref q27, .ref q35])), (q27, .inl (cA 5, 7, .inr (.inl (fun _ => qJ 0)))), (q35, .inl (cA 2, 8, .inl (fun _ => qI 0)))]) clX3 rfl rfl (by decide) (Nat.le_of_ble_eq_true rfl) (by decide +kernel) rfl rfl tf_RX3_37 rfl dX3_init_47 ?_
  exact k_ret C hr hlk (fun i => [q27, q35].getD i 0) [0, 1, 2] (by decide) rfl rfl dX3_init_50
