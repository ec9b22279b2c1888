section P12a
variable {p : Program} {l : Launch} {e : Env} {s : State} {m : MethodId} {args : Array Value} {below : List Frame} {meth : Method} {c : Code} {D : va_G} {ad : Nat → Nat} {cA : Nat → ClassId} {r0 : Int} {M0 : Mem}
abbrev rm_X0_forgetOldest : Room := { frames := 0, cells := 0, slots := 0, locals := 0 }
theorem mw_X0_forgetOldest : q_mw RX0 yX0_forgetOldest cX0_forgetOldest 2 none 0 := ⟨⟨ti_X0_forgetOldest, tl_X0_forgetOldest, tn_RX0, td_X0_forgetOldest⟩, by decide +kernel⟩
def f_X0_forgetOldest_B8  (x1 : Int) (M : Mem) (g8 : Int → Mem → Res) : Res :=
  q_gf M 8 3 fun v1 =>
  if w32 v1 ≤ w32 x1 then (some (0, M))
  else (q_al M 288 20 (x1 + 1) fun v2 =>
  q_as M 288 20 x1 v2 fun M3 =>
  q_al M3 289 20 (x1 + 1) fun v4 =>
  q_as M3 289 20 x1 v4 fun M5 =>
  q_al M5 290 20 (x1 + 1) fun v6 =>
  q_as M5 290 20 x1 v6 fun M7 =>
  g8 (x1 + 1) M7)
def f_X0_forgetOldest_L8  (n : Nat) (x1 : Int) (M : Mem) : Res := qlm1 (fun x1 M g8 => f_X0_forgetOldest_B8  x1 M g8) n x1 M
theorem w_X0_forgetOldest_B8 (C : Cx syC p m c cX0_forgetOldest 2 s args RX0 D ad cA) (hr : meth.sig.returnType = none) (hlk : meth.locks = false)  (x1 : Int) (M : Mem) (g8 : Int → Mem → Res)  (ih8 : ∀ (ux1 : Int) (M : Mem), g8 ux1 M = some (r0, M0) → WM syC p l e rm_X0_forgetOldest s m args below meth c 2 D ad cA (MQ below (q_Post syC D ad cA none M0) args s 0 0 (q_A syC ad)) M 8 [(0, .ref (ad 8)), (1, .int (qI ux1))] []) (h : f_X0_forgetOldest_B8  x1 M g8 = some (r0, M0)) : WM syC p l e rm_X0_forgetOldest s m args below meth c 2 D ad cA (MQ below (q_Post syC D ad cA none M0) args s 0 0 (q_A syC ad)) M 8 [(0, .ref (ad 8)), (1, .int (qI x1))] [] := by
  unfold f_X0_forgetOldest_B8 at h
  refine r_iln C dX0_forgetOldest_8 (k := 1) rfl ?_
  refine r_aln C dX0_forgetOldest_9 (k := 0) rfl ?_
  refine r_gf C kc_8 clX0 (f := 3) (by decide) rfl rfl rfl tf_RX0_21 dX0_forgetOldest_10 h (fun v1 h => ?_)
  refine r_cge C (tgt := 64) dX0_forgetOldest_13 (by decide) h (fun h => ?_) (fun h => ?_)
  · exact r_vret C hr hlk dX0_forgetOldest_64 h
  · refine r_aln C dX0_forgetOldest_16 (k := 0) rfl ?_
    refine r_gs C kc_8 clX0 (f := 0) (by decide) rfl (t := 288) rfl tf_RX0_9 dX0_forgetOldest_17 ?_
    refine r_iln C dX0_forgetOldest_20 (k := 1) rfl ?_
    refine r_aln C dX0_forgetOldest_21 (k := 0) rfl ?_
    refine r_gs C kc_8 clX0 (f := 0) (by decide) rfl (t := 288) rfl tf_RX0_9 dX0_forgetOldest_22 ?_
    refine r_iln C dX0_forgetOldest_25 (k := 1) rfl ?_
    refine r_ic C dX0_forgetOldest_26 ?_
    refine r_iadd C dX0_forgetOldest_27 ?_
    refine r_iald C kc_288 dX0_forgetOldest_28 h (fun v2 h => ?_)
    refine r_iast C kc_288 dX0_forgetOldest_29 h (fun M3 h => ?_)
    refine r_aln C dX0_forgetOldest_30 (k := 0) rfl ?_
    refine r_gs C kc_8 clX0 (f := 1) (by decide) rfl (t := 289) rfl tf_RX0_15 dX0_forgetOldest_31 ?_
    refine r_iln C dX0_forgetOldest_34 (k := 1) rfl ?_
    refine r_aln C dX0_forgetOldest_35 (k := 0) rfl ?_
    refine r_gs C kc_8 clX0 (f := 1) (by decide) rfl (t := 289) rfl tf_RX0_15 dX0_forgetOldest_36 ?_
    refine r_iln C dX0_forgetOldest_39 (k := 1) rfl ?_
    refine r_ic C dX0_forgetOldest_40 ?_
    refine r_iadd C dX0_forgetOldest_41 ?_
    refine r_iald C kc_289 dX0_forgetOldest_42 h (fun v4 h => ?_)
    refine r_iast C kc_289 dX0_forgetOldest_43 h (fun M5 h => ?_)
    refine r_aln C dX0_forgetOldest_44 (k := 0) rfl ?_
    refine r_gs C kc_8 clX0 (f := 2) (by decide) rfl (t := 290) rfl tf_RX0_18 dX0_forgetOldest_45 ?_
    refine r_iln C dX0_forgetOldest_48 (k := 1) rfl ?_
    refine r_aln C dX0_forgetOldest_49 (k := 0) rfl ?_
    refine r_gs C kc_8 clX0 (f := 2) (by decide) rfl (t := 290) rfl tf_RX0_18 dX0_forgetOldest_50 ?_
    refine r_iln C dX0_forgetOldest_53 (k := 1) rfl ?_
    refine r_ic C dX0_forgetOldest_54 ?_
    refine r_iadd C dX0_forgetOldest_55 ?_
    refine r_iald C kc_290 dX0_forgetOldest_56 h (fun v6 h => ?_)
    refine r_iast C kc_290 dX0_forgetOldest_57 h (fun M7 h => ?_)
    refine r_inc C (L1 := [(1, .int (qI (x1 + 1))), (0, .ref (ad 8))]) dX0_forgetOldest_58 (k := 1) rfl (by decide) rfl ?_
    refine r_goto C (tgt := 8) dX0_forgetOldest_61 (by decide) ?_
    refine r_drop [1, 0] rfl ?_
    exact ih8 (x1 + 1) M7 h
theorem w_X0_forgetOldest_L8 (C : Cx syC p m c cX0_forgetOldest 2 s args RX0 D ad cA) (hr : meth.sig.returnType = none) (hlk : meth.locks = false)    (n : Nat) (x1 : Int) (M : Mem) (h : f_X0_forgetOldest_L8  n x1 M = some (r0, M0)) : WM syC p l e rm_X0_forgetOldest s m args below meth c 2 D ad cA (MQ below (q_Post syC D ad cA none M0) args s 0 0 (q_A syC ad)) M 8 [(0, .ref (ad 8)), (1, .int (qI x1))] [] :=
  qlm1_r (Wp := fun ux1 M => WM syC p l e rm_X0_forgetOldest s m args below meth c 2 D ad cA (MQ below (q_Post syC D ad cA none M0) args s 0 0 (q_A syC ad)) M 8 [(0, .ref (ad 8)), (1, .int (qI ux1))] []) (fun ux1 M g8 ih8 h => w_X0_forgetOldest_B8 C hr hlk  ux1 M g8  ih8 h) n x1 M h
def f_X0_forgetOldest  (M : Mem) : Res :=
  q_pf M 8 3 19 fun M1 =>
  f_X0_forgetOldest_L8  q_N 0 M1
theorem c_X0_forgetOldest {l : Launch} {D : va_G} {ad : Nat → Nat} {cA : Nat → ClassId} (hi : q_inj syC ad)  (M : Mem) (r0 : Int) (M0 : Mem) (h : f_X0_forgetOldest  M = some (r0, M0)) : q_Met l syC D ad cA yX0_forgetOldest cX0_forgetOldest 2 none rm_X0_forgetOldest [.ref (ad 8)] M none M0 := by
  refine q_met (L0 := [(0, .ref (ad 8))]) hi okC (by decide) (Nat.le_of_ble_eq_true rfl) rfl ?_
  intro p e s m args below meth c C hr hlk
  unfold f_X0_forgetOldest at h
  refine r_aln C dX0_forgetOldest_0 (k := 0) rfl ?_
  refine r_bi C dX0_forgetOldest_1 (by decide) ?_
  refine r_pf C kc_8 clX0 (f := 3) (by decide) rfl q_dI rfl rfl tf_RX0_21 dX0_forgetOldest_3 h (fun M1 h => ?_)
  refine r_ic C dX0_forgetOldest_6 ?_
  refine r_isn C (L1 := [(1, .int (qI 0)), (0, .ref (ad 8))]) dX0_forgetOldest_7 (by decide) rfl ?_
  refine r_drop [1, 0] rfl ?_
  exact w_X0_forgetOldest_L8 C hr hlk   q_N 0 M1 h
abbrev rm_X0_note : Room := { frames := 1, cells := 0, slots := 0, locals := 21 }
theorem mw_X0_note : q_mw RX0 yX0_note cX0_note 4 none 3 := ⟨⟨ti_X0_note, tl_X0_note, tn_RX0, td_X0_note⟩, by decide +kernel⟩
def f_X0_note_J13 (x1 : Int) (x2 : Int) (x3 : Int) (M : Mem) : Res :=
  q_gf M 8 3 fun v1 =>
  q_as M 288 20 v1 x1 fun M2 =>
  q_gf M2 8 3 fun v3 =>
  q_as M2 289 20 v3 x2 fun M4 =>
  q_gf M4 8 3 fun v5 =>
  q_as M4 290 20 v5 x3 fun M6 =>
  q_gf M6 8 3 fun v7 =>
  q_pf M6 8 3 (v7 + 1) fun M8 =>
  some (0, M8)
theorem w_X0_note_J13 (C : Cx syC p m c cX0_note 4 s args RX0 D ad cA) (hr : meth.sig.returnType = none) (hlk : meth.locks = false) (x1 : Int) (x2 : Int) (x3 : Int) (M : Mem)  (h : f_X0_note_J13 x1 x2 x3 M = some (r0, M0)) : WM syC p l e rm_X0_note s m args below meth c 4 D ad cA (MQ below (q_Post syC D ad cA none M0) args s 0 0 (q_A syC ad)) M 13 [(0, .ref (ad 8)), (1, .int (qI x1)), (2, .int (qI x2)), (3, .int (qI x3))] [] := by
  unfold f_X0_note_J13 at h
  refine r_aln C dX0_note_13 (k := 0) rfl ?_
  refine r_gs C kc_8 clX0 (f := 0) (by decide) rfl (t := 288) rfl tf_RX0_9 dX0_note_14 ?_
  refine r_aln C dX0_note_17 (k := 0) rfl ?_
  refine r_gf C kc_8 clX0 (f := 3) (by decide) rfl rfl rfl tf_RX0_21 dX0_note_18 h (fun v1 h => ?_)
  refine r_iln C dX0_note_21 (k := 1) rfl ?_
  refine r_iast C kc_288 dX0_note_22 h (fun M2 h => ?_)
  refine r_aln C dX0_note_23 (k := 0) rfl ?_
  refine r_gs C kc_8 clX0 (f := 1) (by decide) rfl (t := 289) rfl tf_RX0_15 dX0_note_24 ?_
  refine r_aln C dX0_note_27 (k := 0) rfl ?_
  refine r_gf C kc_8 clX0 (f := 3) (by decide) rfl rfl rfl tf_RX0_21 dX0_note_28 h (fun v3 h => ?_)
  refine r_iln C dX0_note_31 (k := 2) rfl ?_
  refine r_iast C kc_289 dX0_note_32 h (fun M4 h => ?_)
  refine r_aln C dX0_note_33 (k := 0) rfl ?_
  refine r_gs C kc_8 clX0 (f := 2) (by decide) rfl (t := 290) rfl tf_RX0_18 dX0_note_34 ?_
  refine r_aln C dX0_note_37 (k := 0) rfl ?_
  refine r_gf C kc_8 clX0 (f := 3) (by decide) rfl rfl rfl tf_RX0_21 dX0_note_38 h (fun v5 h => ?_)
  refine r_iln C dX0_note_41 (k := 3) rfl ?_
  refine r_iast C kc_290 dX0_note_42 h (fun M6 h => ?_)
  refine r_aln C dX0_note_43 (k := 0) rfl ?_
  refine r_dup C rfl dX0_note_44 ?_
  refine r_gf C kc_8 clX0 (f := 3) (by decide) rfl rfl rfl tf_RX0_21 dX0_note_45 h (fun v7 h => ?_)
  refine r_ic C dX0_note_48 ?_
  refine r_iadd C dX0_note_49 ?_
  refine r_pf C kc_8 clX0 (f := 3) (by decide) rfl q_dI rfl rfl tf_RX0_21 dX0_note_50 h (fun M8 h => ?_)
  exact r_vret C hr hlk dX0_note_53 h
def f_X0_note (a0 : Int) (a1 : Int) (a2 : Int) (M : Mem) : Res :=
  q_gf M 8 3 fun v1 =>
  if w32 v1 < w32 20 then (f_X0_note_J13 a0 a1 a2 M)
  else (q_call (f_X0_forgetOldest  M) fun r2 M3 =>
  f_X0_note_J13 a0 a1 a2 M3)
theorem c_X0_note {l : Launch} {D : va_G} {ad : Nat → Nat} {cA : Nat → ClassId} (hi : q_inj syC ad) (a0 : Int) (a1 : Int) (a2 : Int) (M : Mem) (r0 : Int) (M0 : Mem) (h : f_X0_note a0 a1 a2 M = some (r0, M0)) : q_Met l syC D ad cA yX0_note cX0_note 4 none rm_X0_note [.ref (ad 8), .int (qI a0), .int (qI a1), .int (qI a2)] M none M0 := by
  refine q_met (L0 := [(0, .ref (ad 8)), (1, .int (qI a0)), (2, .int (qI a1)), (3, .int (qI a2))]) hi okC (by decide) (Nat.le_of_ble_eq_true rfl) rfl ?_
  intro p e s m args below meth c C hr hlk
  unfold f_X0_note at h
  refine r_aln C dX0_note_0 (k := 0) rfl ?_
  refine r_gf C kc_8 clX0 (f := 3) (by decide) rfl rfl rfl tf_RX0_21 dX0_note_1 h (fun v1 h => ?_)
  refine r_bi C dX0_note_4 (by decide) ?_
  refine r_clt C (tgt := 13) dX0_note_6 (by decide) h (fun h => ?_) (fun h => ?_)
  · exact w_X0_note_J13 C hr hlk a0 a1 a2 M  h
  · refine r_aln C dX0_note_9 (k := 0) rfl ?_
    obtain ⟨r2, M3, hy, h⟩ := q_call_some h
    refine r_cvv C (st := []) (c_X0_forgetOldest C.2.2.1 M r2 M3 hy) tm_RX0_25 mw_X0_forgetOldest ⟨rfl, rfl⟩ ⟨Nat.le_of_ble_eq_true rfl, Nat.le_of_ble_eq_true rfl⟩ kc_8 clX0 rfl rfl (Nat.le_of_ble_eq_true rfl) dX0_note_10 ?_
    exact w_X0_note_J13 C hr hlk a0 a1 a2 M3  h
abbrev rm_X6_placeOf : Room := { frames := 0, cells := 0, slots := 0, locals := 0 }
theorem mw_X6_placeOf : q_mw RX6 yX6_placeOf cX6_placeOf 3 (some .int) 1 := ⟨⟨ti_X6_placeOf, tl_X6_placeOf, tn_RX6, td_X6_placeOf⟩, by decide +kernel⟩
def f_X6_placeOf_B2 (k : Nat) (x1 : Int) (M : Mem) (x2 : Int) (g2 : Int → Option Int) : Option Int :=
  q_gf M k 9 fun v1 =>
  if w32 v1 ≤ w32 x2 then (some (-2))
  else (if w32 8 ≤ w32 x2 then (some (-2))
  else (q_al M (32 * (k + 1) + 8) 8 x2 fun v2 =>
  if ¬ w32 v2 = w32 x1 then (g2 (x2 + 1))
  else (some x2)))
def f_X6_placeOf_L2 (k : Nat) (x1 : Int) (M : Mem) (n : Nat) (x2 : Int) : Option Int := qlp1 (fun x2 g2 => f_X6_placeOf_B2 k x1 M x2 g2) n x2
theorem w_X6_placeOf_B2 (C : Cx syC p m c cX6_placeOf 3 s args RX6 D ad cA) (hr : meth.sig.returnType = (some .int)) (hlk : meth.locks = false) (k : Nat) (hk : isS k) (x1 : Int) (x2 : Int) (M : Mem) (g2 : Int → Option Int)  (ih2 : ∀ (ux2 : Int) , g2 ux2  = some r0 → WM syC p l e rm_X6_placeOf s m args below meth c 3 D ad cA (MQ below (q_Post syC D ad cA (some (.int (qI r0))) M) args s 0 0 (q_A syC ad)) M 2 [(0, .ref (ad k)), (1, .int (qI x1)), (2, .int (qI ux2))] []) (h : f_X6_placeOf_B2 k x1 M x2 g2 = some r0) : WM syC p l e rm_X6_placeOf s m args below meth c 3 D ad cA (MQ below (q_Post syC D ad cA (some (.int (qI r0))) M) args s 0 0 (q_A syC ad)) M 2 [(0, .ref (ad k)), (1, .int (qI x1)), (2, .int (qI x2))] [] := by
  unfold f_X6_placeOf_B2 at h
  refine r_iln C dX6_placeOf_2 (k := 2) rfl ?_
  refine r_aln C dX6_placeOf_3 (k := 0) rfl ?_
  refine r_gf C (kS hk) clX6 (f := 9) (by decide) rfl rfl rfl tf_RX6_40 dX6_placeOf_4 h (fun v1 h => ?_)
  refine r_cge C (tgt := 34) dX6_placeOf_7 (by decide) h (fun h => ?_) (fun h => ?_)
  · refine r_bi C dX6_placeOf_34 (by decide) ?_
    exact r_iretp C hr hlk dX6_placeOf_36 h
  · refine r_iln C dX6_placeOf_10 (k := 2) rfl ?_
    refine r_bi C dX6_placeOf_11 (by decide) ?_
    refine r_cge C (tgt := 34) dX6_placeOf_13 (by decide) h (fun h => ?_) (fun h => ?_)
    · refine r_bi C dX6_placeOf_34 (by decide) ?_
      exact r_iretp C hr hlk dX6_placeOf_36 h
    · refine r_aln C dX6_placeOf_16 (k := 0) rfl ?_
      refine r_gs C (kS hk) clX6 (f := 8) (by decide) rfl (t := (32 * (k + 1) + 8)) rfl tf_RX6_37 dX6_placeOf_17 ?_
      refine r_iln C dX6_placeOf_20 (k := 2) rfl ?_
      refine r_iald C (kS_8 hk) dX6_placeOf_21 h (fun v2 h => ?_)
      refine r_iln C dX6_placeOf_22 (k := 1) rfl ?_
      refine r_cne C (tgt := 28) dX6_placeOf_23 (by decide) h (fun h => ?_) (fun h => ?_)
      · refine r_inc C (L1 := [(2, .int (qI (x2 + 1))), (0, .ref (ad k)), (1, .int (qI x1))]) dX6_placeOf_28 (k := 2) rfl (by decide) rfl ?_
        refine r_goto C (tgt := 2) dX6_placeOf_31 (by decide) ?_
        refine r_drop [1, 2, 0] rfl ?_
        exact ih2 (x2 + 1)  h
      · refine r_iln C dX6_placeOf_26 (k := 2) rfl ?_
        exact r_iretp C hr hlk dX6_placeOf_27 h
theorem w_X6_placeOf_L2 (C : Cx syC p m c cX6_placeOf 3 s args RX6 D ad cA) (hr : meth.sig.returnType = (some .int)) (hlk : meth.locks = false) (k : Nat) (hk : isS k) (x1 : Int) (M : Mem)  (n : Nat) (x2 : Int) (h : f_X6_placeOf_L2 k x1 M n x2 = some r0) : WM syC p l e rm_X6_placeOf s m args below meth c 3 D ad cA (MQ below (q_Post syC D ad cA (some (.int (qI r0))) M) args s 0 0 (q_A syC ad)) M 2 [(0, .ref (ad k)), (1, .int (qI x1)), (2, .int (qI x2))] [] :=
  qlp1_r (Wp := fun ux2 => WM syC p l e rm_X6_placeOf s m args below meth c 3 D ad cA (MQ below (q_Post syC D ad cA (some (.int (qI r0))) M) args s 0 0 (q_A syC ad)) M 2 [(0, .ref (ad k)), (1, .int (qI x1)), (2, .int (qI ux2))] []) (fun ux2 g2 ih2 h => w_X6_placeOf_B2 C hr hlk k hk x1 ux2 M g2  ih2 h) n x2 h
def f_X6_placeOf (k : Nat) (a0 : Int) (M : Mem) : Option Int :=
  f_X6_placeOf_L2 k a0 M q_N 0
theorem c_X6_placeOf {l : Launch} {D : va_G} {ad : Nat → Nat} {cA : Nat → ClassId} (hi : q_inj syC ad) (k : Nat) (hk : isS k) (a0 : Int) (M : Mem) (r0 : Int) (h : f_X6_placeOf k a0 M = some r0) : q_Met l syC D ad cA yX6_placeOf cX6_placeOf 3 (some .int) rm_X6_placeOf [.ref (ad k), .int (qI a0)] M (some (.int (qI r0))) M := by
  refine q_met (L0 := [(0, .ref (ad k)), (1, .int (qI a0))]) hi okC (by decide) (Nat.le_of_ble_eq_true rfl) rfl ?_
  intro p e s m args below meth c C hr hlk
  unfold f_X6_placeOf at h
  refine r_ic C dX6_placeOf_0 ?_
  refine r_isn C (L1 := [(2, .int (qI 0)), (0, .ref (ad k)), (1, .int (qI a0))]) dX6_placeOf_1 (by decide) rfl ?_
  refine r_drop [1, 2, 0] rfl ?_
  exact w_X6_placeOf_L2 C hr hlk k hk a0 M  q_N 0 h
abbrev rm_X6_takeOut : Room := { frames := 0, cells := 0, slots := 0, locals := 0 }
theorem mw_X6_takeOut : q_mw RX6 yX6_takeOut cX6_takeOut 3 none 1 := ⟨⟨ti_X6_takeOut, tl_X6_takeOut, tn_RX6, td_X6_takeOut⟩, by decide +kernel⟩
def f_X6_takeOut_B25 (k : Nat) (x2 : Int) (M : Mem) (g25 : Int → Mem → Res) : Res :=
  q_gf M k 9 fun v1 =>
  if w32 v1 ≤ w32 x2 then (some (0, M))
  else (if w32 7 ≤ w32 x2 then (some (0, M))
  else (q_al M (32 * (k + 1) + 8) 8 (x2 + 1) fun v2 =>
  q_as M (32 * (k + 1) + 8) 8 x2 v2 fun M3 =>
  g25 (x2 + 1) M3))
def f_X6_takeOut_L25 (k : Nat) (n : Nat) (x2 : Int) (M : Mem) : Res := qlm1 (fun x2 M g25 => f_X6_takeOut_B25 k x2 M g25) n x2 M
theorem w_X6_takeOut_B25 (C : Cx syC p m c cX6_takeOut 3 s args RX6 D ad cA) (hr : meth.sig.returnType = none) (hlk : meth.locks = false) (k : Nat) (hk : isS k) (x2 : Int) (M : Mem) (g25 : Int → Mem → Res)  (ih25 : ∀ (ux2 : Int) (M : Mem), g25 ux2 M = some (r0, M0) → WM syC p l e rm_X6_takeOut s m args below meth c 3 D ad cA (MQ below (q_Post syC D ad cA none M0) args s 0 0 (q_A syC ad)) M 25 [(0, .ref (ad k)), (2, .int (qI ux2))] []) (h : f_X6_takeOut_B25 k x2 M g25 = some (r0, M0)) : WM syC p l e rm_X6_takeOut s m args below meth c 3 D ad cA (MQ below (q_Post syC D ad cA none M0) args s 0 0 (q_A syC ad)) M 25 [(0, .ref (ad k)), (2, .int (qI x2))] [] := by
  unfold f_X6_takeOut_B25 at h
  refine r_iln C dX6_takeOut_25 (k := 1) rfl ?_
  refine r_aln C dX6_takeOut_26 (k := 0) rfl ?_
  refine r_gf C (kS hk) clX6 (f := 9) (by decide) rfl rfl rfl tf_RX6_40 dX6_takeOut_27 h (fun v1 h => ?_)
  refine r_cge C (tgt := 59) dX6_takeOut_30 (by decide) h (fun h => ?_) (fun h => ?_)
  · exact r_vret C hr hlk dX6_takeOut_59 h
  · refine r_iln C dX6_takeOut_33 (k := 1) rfl ?_
    refine r_bi C dX6_takeOut_34 (by decide) ?_
    refine r_cge C (tgt := 59) dX6_takeOut_36 (by decide) h (fun h => ?_) (fun h => ?_)
    · exact r_vret C hr hlk dX6_takeOut_59 h
    · refine r_aln C dX6_takeOut_39 (k := 0) rfl ?_
      refine r_gs C (kS hk) clX6 (f := 8) (by decide) rfl (t := (32 * (k + 1) + 8)) rfl tf_RX6_37 dX6_takeOut_40 ?_
      refine r_iln C dX6_takeOut_43 (k := 1) rfl ?_
      refine r_aln C dX6_takeOut_44 (k := 0) rfl ?_
      refine r_gs C (kS hk) clX6 (f := 8) (by decide) rfl (t := (32 * (k + 1) + 8)) rfl tf_RX6_37 dX6_takeOut_45 ?_
      refine r_iln C dX6_takeOut_48 (k := 1) rfl ?_
      refine r_ic C dX6_takeOut_49 ?_
      refine r_iadd C dX6_takeOut_50 ?_
      refine r_iald C (kS_8 hk) dX6_takeOut_51 h (fun v2 h => ?_)
      refine r_iast C (kS_8 hk) dX6_takeOut_52 h (fun M3 h => ?_)
      refine r_inc C (L1 := [(2, .int (qI (x2 + 1))), (0, .ref (ad k))]) dX6_takeOut_53 (k := 1) rfl (by decide) rfl ?_
      refine r_goto C (tgt := 25) dX6_takeOut_56 (by decide) ?_
      refine r_drop [1, 0] rfl ?_
      exact ih25 (x2 + 1) M3 h
theorem w_X6_takeOut_L25 (C : Cx syC p m c cX6_takeOut 3 s args RX6 D ad cA) (hr : meth.sig.returnType = none) (hlk : meth.locks = false) (k : Nat) (hk : isS k)   (n : Nat) (x2 : Int) (M : Mem) (h : f_X6_takeOut_L25 k n x2 M = some (r0, M0)) : WM syC p l e rm_X6_takeOut s m args below meth c 3 D ad cA (MQ below (q_Post syC D ad cA none M0) args s 0 0 (q_A syC ad)) M 25 [(0, .ref (ad k)), (2, .int (qI x2))] [] :=
  qlm1_r (Wp := fun ux2 M => WM syC p l e rm_X6_takeOut s m args below meth c 3 D ad cA (MQ below (q_Post syC D ad cA none M0) args s 0 0 (q_A syC ad)) M 25 [(0, .ref (ad k)), (2, .int (qI ux2))] []) (fun ux2 M g25 ih25 h => w_X6_takeOut_B25 C hr hlk k hk ux2 M g25  ih25 h) n x2 M h
def f_X6_takeOut (k : Nat) (a0 : Int) (M : Mem) : Res :=
  if w32 a0 < 0 then (some (0, M))
  else (q_gf M k 9 fun v1 =>
  if w32 a0 < w32 v1 then (q_gf M k 9 fun v2 =>
  q_pf M k 9 (v2 - 1) fun M3 =>
  f_X6_takeOut_L25 k q_N a0 M3)
  else (some (0, M)))
theorem c_X6_takeOut {l : Launch} {D : va_G} {ad : Nat → Nat} {cA : Nat → ClassId} (hi : q_inj syC ad) (k : Nat) (hk : isS k) (a0 : Int) (M : Mem) (r0 : Int) (M0 : Mem) (h : f_X6_takeOut k a0 M = some (r0, M0)) : q_Met l syC D ad cA yX6_takeOut cX6_takeOut 3 none rm_X6_takeOut [.ref (ad k), .int (qI a0)] M none M0 := by
  refine q_met (L0 := [(0, .ref (ad k)), (1, .int (qI a0))]) hi okC (by decide) (Nat.le_of_ble_eq_true rfl) rfl ?_
  intro p e s m args below meth c C hr hlk
  unfold f_X6_takeOut at h
  refine r_iln C dX6_takeOut_0 (k := 1) rfl ?_
  refine r_zlt C (tgt := 12) dX6_takeOut_1 (by decide) h (fun h => ?_) (fun h => ?_)
  · exact r_vret C hr hlk dX6_takeOut_12 h
  · refine r_iln C dX6_takeOut_4 (k := 1) rfl ?_
    refine r_aln C dX6_takeOut_5 (k := 0) rfl ?_
    refine r_gf C (kS hk) clX6 (f := 9) (by decide) rfl rfl rfl tf_RX6_40 dX6_takeOut_6 h (fun v1 h => ?_)
    refine r_clt C (tgt := 13) dX6_takeOut_9 (by decide) h (fun h => ?_) (fun h => ?_)
    · refine r_aln C dX6_takeOut_13 (k := 0) rfl ?_
      refine r_dup C rfl dX6_takeOut_14 ?_
      refine r_gf C (kS hk) clX6 (f := 9) (by decide) rfl rfl rfl tf_RX6_40 dX6_takeOut_15 h (fun v2 h => ?_)
      refine r_ic C dX6_takeOut_18 ?_
      refine r_isub C dX6_takeOut_19 ?_
      refine r_pf C (kS hk) clX6 (f := 9) (by decide) rfl q_dI rfl rfl tf_RX6_40 dX6_takeOut_20 h (fun M3 h => ?_)
      refine r_iln C dX6_takeOut_23 (k := 1) rfl ?_
      refine r_isn C (L1 := [(2, .int (qI a0)), (0, .ref (ad k)), (1, .int (qI a0))]) dX6_takeOut_24 (by decide) rfl ?_
      refine r_drop [1, 0] rfl ?_
      exact w_X6_takeOut_L25 C hr hlk k hk  q_N a0 M3 h
    · exact r_vret C hr hlk dX6_takeOut_12 h
abbrev rm_X6_putIn : Room := { frames := 0, cells := 0, slots := 0, locals := 0 }
theorem mw_X6_putIn : q_mw RX6 yX6_putIn cX6_putIn 4 none 2 := ⟨⟨ti_X6_putIn, tl_X6_putIn, tn_RX6, td_X6_putIn⟩, by decide +kernel⟩
def f_X6_putIn_B27 (k : Nat) (x1 : Int) (x2 : Int) (x3 : Int) (M : Mem) (g27 : Int → Mem → Res) : Res :=
  if w32 x3 ≤ w32 x2 then (q_as M (32 * (k + 1) + 8) 8 x2 x1 fun M1 =>
  q_as M1 (32 * (k + 1) + 2) 8 x1 1 fun M2 =>
  q_gf M2 k 9 fun v3 =>
  q_pf M2 k 9 (v3 + 1) fun M4 =>
  some (0, M4))
  else (q_al M (32 * (k + 1) + 8) 8 (x3 - 1) fun v5 =>
  q_as M (32 * (k + 1) + 8) 8 x3 v5 fun M6 =>
  g27 (x3 + (-1)) M6)
def f_X6_putIn_L27 (k : Nat) (x1 : Int) (x2 : Int) (n : Nat) (x3 : Int) (M : Mem) : Res := qlm1 (fun x3 M g27 => f_X6_putIn_B27 k x1 x2 x3 M g27) n x3 M
theorem w_X6_putIn_B27 (C : Cx syC p m c cX6_putIn 4 s args RX6 D ad cA) (hr : meth.sig.returnType = none) (hlk : meth.locks = false) (k : Nat) (hk : isS k) (x1 : Int) (x2 : Int) (x3 : Int) (M : Mem) (g27 : Int → Mem → Res)  (ih27 : ∀ (ux3 : Int) (M : Mem), g27 ux3 M = some (r0, M0) → WM syC p l e rm_X6_putIn s m args below meth c 4 D ad cA (MQ below (q_Post syC D ad cA none M0) args s 0 0 (q_A syC ad)) M 27 [(0, .ref (ad k)), (1, .int (qI x1)), (2, .int (qI x2)), (3, .int (qI ux3))] []) (h : f_X6_putIn_B27 k x1 x2 x3 M g27 = some (r0, M0)) : WM syC p l e rm_X6_putIn s m args below meth c 4 D ad cA (MQ below (q_Post syC D ad cA none M0) args s 0 0 (q_A syC ad)) M 27 [(0, .ref (ad k)), (1, .int (qI x1)), (2, .int (qI x2)), (3, .int (qI x3))] [] := by
  unfold f_X6_putIn_B27 at h
  refine r_iln C dX6_putIn_27 (k := 3) rfl ?_
  refine r_iln C dX6_putIn_28 (k := 2) rfl ?_
  refine r_cle C (tgt := 52) dX6_putIn_29 (by decide) h (fun h => ?_) (fun h => ?_)
  · refine r_aln C dX6_putIn_52 (k := 0) rfl ?_
    refine r_gs C (kS hk) clX6 (f := 8) (by decide) rfl (t := (32 * (k + 1) + 8)) rfl tf_RX6_37 dX6_putIn_53 ?_
    refine r_iln C dX6_putIn_56 (k := 2) rfl ?_
    refine r_iln C dX6_putIn_57 (k := 1) rfl ?_
    refine r_iast C (kS_8 hk) dX6_putIn_58 h (fun M1 h => ?_)
    refine r_aln C dX6_putIn_59 (k := 0) rfl ?_
    refine r_gs C (kS hk) clX6 (f := 2) (by decide) rfl (t := (32 * (k + 1) + 2)) rfl tf_RX6_18 dX6_putIn_60 ?_
    refine r_iln C dX6_putIn_63 (k := 1) rfl ?_
    refine r_ic C dX6_putIn_64 ?_
    refine r_iast C (kS_2 hk) dX6_putIn_65 h (fun M2 h => ?_)
    refine r_aln C dX6_putIn_66 (k := 0) rfl ?_
    refine r_dup C rfl dX6_putIn_67 ?_
    refine r_gf C (kS hk) clX6 (f := 9) (by decide) rfl rfl rfl tf_RX6_40 dX6_putIn_68 h (fun v3 h => ?_)
    refine r_ic C dX6_putIn_71 ?_
    refine r_iadd C dX6_putIn_72 ?_
    refine r_pf C (kS hk) clX6 (f := 9) (by decide) rfl q_dI rfl rfl tf_RX6_40 dX6_putIn_73 h (fun M4 h => ?_)
    exact r_vret C hr hlk dX6_putIn_76 h
  · refine r_aln C dX6_putIn_32 (k := 0) rfl ?_
    refine r_gs C (kS hk) clX6 (f := 8) (by decide) rfl (t := (32 * (k + 1) + 8)) rfl tf_RX6_37 dX6_putIn_33 ?_
    refine r_iln C dX6_putIn_36 (k := 3) rfl ?_
    refine r_aln C dX6_putIn_37 (k := 0) rfl ?_
    refine r_gs C (kS hk) clX6 (f := 8) (by decide) rfl (t := (32 * (k + 1) + 8)) rfl tf_RX6_37 dX6_putIn_38 ?_
    refine r_iln C dX6_putIn_41 (k := 3) rfl ?_
    refine r_ic C dX6_putIn_42 ?_
    refine r_isub C dX6_putIn_43 ?_
    refine r_iald C (kS_8 hk) dX6_putIn_44 h (fun v5 h => ?_)
    refine r_iast C (kS_8 hk) dX6_putIn_45 h (fun M6 h => ?_)
    refine r_inc C (L1 := [(3, .int (qI (x3 + (-1)))), (0, .ref (ad k)), (1, .int (qI x1)), (2, .int (qI x2))]) dX6_putIn_46 (k := 3) rfl (by decide) rfl ?_
    refine r_goto C (tgt := 27) dX6_putIn_49 (by decide) ?_
    refine r_drop [1, 2, 3, 0] rfl ?_
    exact ih27 (x3 + (-1)) M6 h
theorem w_X6_putIn_L27 (C : Cx syC p m c cX6_putIn 4 s args RX6 D ad cA) (hr : meth.sig.returnType = none) (hlk : meth.locks = false) (k : Nat) (hk : isS k) (x1 : Int) (x2 : Int)  (n : Nat) (x3 : Int) (M : Mem) (h : f_X6_putIn_L27 k x1 x2 n x3 M = some (r0, M0)) : WM syC p l e rm_X6_putIn s m args below meth c 4 D ad cA (MQ below (q_Post syC D ad cA none M0) args s 0 0 (q_A syC ad)) M 27 [(0, .ref (ad k)), (1, .int (qI x1)), (2, .int (qI x2)), (3, .int (qI x3))] [] :=
  qlm1_r (Wp := fun ux3 M => WM syC p l e rm_X6_putIn s m args below meth c 4 D ad cA (MQ below (q_Post syC D ad cA none M0) args s 0 0 (q_A syC ad)) M 27 [(0, .ref (ad k)), (1, .int (qI x1)), (2, .int (qI x2)), (3, .int (qI ux3))] []) (fun ux3 M g27 ih27 h => w_X6_putIn_B27 C hr hlk k hk x1 x2 ux3 M g27  ih27 h) n x3 M h
def f_X6_putIn (k : Nat) (a0 : Int) (a1 : Int) (M : Mem) : Res :=
  if w32 a1 < 0 then (some (0, M))
  else (q_gf M k 9 fun v1 =>
  if w32 v1 < w32 a1 then (some (0, M))
  else (q_gf M k 9 fun v2 =>
  if w32 v2 < w32 8 then (q_gf M k 9 fun v3 =>
  f_X6_putIn_L27 k a0 a1 q_N v3 M)
  else (some (0, M))))
theorem c_X6_putIn {l : Launch} {D : va_G} {ad : Nat → Nat} {cA : Nat → ClassId} (hi : q_inj syC ad) (k : Nat) (hk : isS k) (a0 : Int) (a1 : Int) (M : Mem) (r0 : Int) (M0 : Mem) (h : f_X6_putIn k a0 a1 M = some (r0, M0)) : q_Met l syC D ad cA yX6_putIn cX6_putIn 4 none rm_X6_putIn [.ref (ad k), .int (qI a0), .int (qI a1)] M none M0 := by
  refine q_met (L0 := [(0, .ref (ad k)), (1, .int (qI a0)), (2, .int (qI a1))]) hi okC (by decide) (Nat.le_of_ble_eq_true rfl) rfl ?_
  intro p e s m args below meth c C hr hlk
  unfold f_X6_putIn at h
  refine r_iln C dX6_putIn_0 (k := 2) rfl ?_
  refine r_zlt C (tgt := 21) dX6_putIn_1 (by decide) h (fun h => ?_) (fun h => ?_)
  · exact r_vret C hr hlk dX6_putIn_21 h
  · refine r_iln C dX6_putIn_4 (k := 2) rfl ?_
    refine r_aln C dX6_putIn_5 (k := 0) rfl ?_
    refine r_gf C (kS hk) clX6 (f := 9) (by decide) rfl rfl rfl tf_RX6_40 dX6_putIn_6 h (fun v1 h => ?_)
    refine r_cgt C (tgt := 21) dX6_putIn_9 (by decide) h (fun h => ?_) (fun h => ?_)
    · exact r_vret C hr hlk dX6_putIn_21 h
    · refine r_aln C dX6_putIn_12 (k := 0) rfl ?_
      refine r_gf C (kS hk) clX6 (f := 9) (by decide) rfl rfl rfl tf_RX6_40 dX6_putIn_13 h (fun v2 h => ?_)
      refine r_bi C dX6_putIn_16 (by decide) ?_
      refine r_clt C (tgt := 22) dX6_putIn_18 (by decide) h (fun h => ?_) (fun h => ?_)
      · refine r_aln C dX6_putIn_22 (k := 0) rfl ?_
        refine r_gf C (kS hk) clX6 (f := 9) (by decide) rfl rfl rfl tf_RX6_40 dX6_putIn_23 h (fun v3 h => ?_)
        refine r_isn C (L1 := [(3, .int (qI v3)), (0, .ref (ad k)), (1, .int (qI a0)), (2, .int (qI a1))]) dX6_putIn_26 (by decide) rfl ?_
        refine r_drop [1, 2, 3, 0] rfl ?_
        exact w_X6_putIn_L27 C hr hlk k hk a0 a1  q_N v3 M h
      · exact r_vret C hr hlk dX6_putIn_21 h
abbrev rm_X0_undoLast : Room := { frames := 1, cells := 0, slots := 0, locals := 23 }
theorem mw_X0_undoLast : q_mw RX0 yX0_undoLast cX0_undoLast 3 none 1 := ⟨⟨ti_X0_undoLast, tl_X0_undoLast, tn_RX0, td_X0_undoLast⟩, by decide +kernel⟩
def f_X0_undoLast (k0 : Nat) (M : Mem) : Res :=
  q_gf M 8 3 fun v1 =>
  if w32 1 ≤ w32 v1 then (q_gf M 8 3 fun v2 =>
  q_pf M 8 3 (v2 - 1) fun M3 =>
  q_gf M3 8 3 fun v4 =>
  q_al M3 289 20 v4 fun v5 =>
  q_gf M3 8 3 fun v6 =>
  q_al M3 288 20 v6 fun v7 =>
  if w32 v7 = 0 then (q_calp (f_X6_placeOf k0 v5 M3) fun r8 =>
  q_call (f_X6_takeOut k0 r8 M3) fun r9 M10 =>
  q_gf M10 8 3 fun v11 =>
  q_al M10 290 20 v11 fun v12 =>
  q_call (f_X6_putIn k0 v5 v12 M10) fun r13 M14 =>
  some (0, M14))
  else if w32 v7 = 1 then (q_gf M3 8 3 fun v15 =>
  q_al M3 290 20 v15 fun v16 =>
  q_as M3 (32 * (k0 + 1) + 3) 8 v5 v16 fun M17 =>
  some (0, M17))
  else (q_gf M3 8 3 fun v18 =>
  q_al M3 290 20 v18 fun v19 =>
  q_call (f_X6_putIn k0 v5 v19 M3) fun r20 M21 =>
  some (0, M21)))
  else (some (0, M))
theorem c_X0_undoLast {l : Launch} {D : va_G} {ad : Nat → Nat} {cA : Nat → ClassId} (hi : q_inj syC ad) (k0 : Nat) (hk0 : isS k0) (M : Mem) (r0 : Int) (M0 : Mem) (h : f_X0_undoLast k0 M = some (r0, M0)) : q_Met l syC D ad cA yX0_undoLast cX0_undoLast 3 none rm_X0_undoLast [.ref (ad 8), .ref (ad k0)] M none M0 := by
  refine q_met (L0 := [(0, .ref (ad 8)), (1, .ref (ad k0))]) hi okC (by decide) (Nat.le_of_ble_eq_true rfl) rfl ?_
  intro p e s m args below meth c C hr hlk
  unfold f_X0_undoLast at h
  refine r_aln C dX0_undoLast_0 (k := 0) rfl ?_
  refine r_gf C kc_8 clX0 (f := 3) (by decide) rfl rfl rfl tf_RX0_21 dX0_undoLast_1 h (fun v1 h => ?_)
  refine r_ic C dX0_undoLast_4 ?_
  refine r_cge C (tgt := 9) dX0_undoLast_5 (by decide) h (fun h => ?_) (fun h => ?_)
  · refine r_aln C dX0_undoLast_9 (k := 0) rfl ?_
    refine r_dup C rfl dX0_undoLast_10 ?_
    refine r_gf C kc_8 clX0 (f := 3) (by decide) rfl rfl rfl tf_RX0_21 dX0_undoLast_11 h (fun v2 h => ?_)
    refine r_ic C dX0_undoLast_14 ?_
    refine r_isub C dX0_undoLast_15 ?_
    refine r_pf C kc_8 clX0 (f := 3) (by decide) rfl q_dI rfl rfl tf_RX0_21 dX0_undoLast_16 h (fun M3 h => ?_)
    refine r_aln C dX0_undoLast_19 (k := 0) rfl ?_
    refine r_gs C kc_8 clX0 (f := 1) (by decide) rfl (t := 289) rfl tf_RX0_15 dX0_undoLast_20 ?_
    refine r_aln C dX0_undoLast_23 (k := 0) rfl ?_
    refine r_gf C kc_8 clX0 (f := 3) (by decide) rfl rfl rfl tf_RX0_21 dX0_undoLast_24 h (fun v4 h => ?_)
    refine r_iald C kc_289 dX0_undoLast_27 h (fun v5 h => ?_)
    refine r_isn C (L1 := [(2, .int (qI v5)), (0, .ref (ad 8)), (1, .ref (ad k0))]) dX0_undoLast_28 (by decide) rfl ?_
    refine r_aln C dX0_undoLast_29 (k := 1) rfl ?_
    refine r_gs C kc_8 clX0 (f := 0) (by decide) rfl (t := 288) rfl tf_RX0_9 dX0_undoLast_30 ?_
    refine r_aln C dX0_undoLast_33 (k := 1) rfl ?_
    refine r_gf C kc_8 clX0 (f := 3) (by decide) rfl rfl rfl tf_RX0_21 dX0_undoLast_34 h (fun v6 h => ?_)
    refine r_iald C kc_288 dX0_undoLast_37 h (fun v7 h => ?_)
    refine r_tc C h (fun e h => ?_) (fun ne0 h => ?_)
    · refine r_lk C (tgt := 82) dX0_undoLast_38 (by decide) e rfl (by decide) ?_
      refine r_aln C dX0_undoLast_82 (k := 2) rfl ?_
      refine r_aln C dX0_undoLast_83 (k := 2) rfl ?_
      refine r_iln C dX0_undoLast_84 (k := 0) rfl ?_
      obtain ⟨r8, hy, h⟩ := q_calp_some h
      refine r_cvi C (st := [.ref (ad k0)]) (c_X6_placeOf C.2.2.1 k0 hk0 v5 M3 r8 hy) tm_RX0_33 mw_X6_placeOf ⟨rfl, rfl⟩ ⟨Nat.le_of_ble_eq_true rfl, Nat.le_of_ble_eq_true rfl⟩ (kS hk0) clX6 rfl rfl (Nat.le_of_ble_eq_true rfl) dX0_undoLast_85 ?_
      obtain ⟨r9, M10, hy, h⟩ := q_call_some h
      refine r_cvv C (st := []) (c_X6_takeOut C.2.2.1 k0 hk0 r8 M3 r9 M10 hy) tm_RX0_37 mw_X6_takeOut ⟨rfl, rfl⟩ ⟨Nat.le_of_ble_eq_true rfl, Nat.le_of_ble_eq_true rfl⟩ (kS hk0) clX6 rfl rfl (Nat.le_of_ble_eq_true rfl) dX0_undoLast_88 ?_
      refine r_aln C dX0_undoLast_91 (k := 2) rfl ?_
      refine r_iln C dX0_undoLast_92 (k := 0) rfl ?_
      refine r_aln C dX0_undoLast_93 (k := 1) rfl ?_
      refine r_gs C kc_8 clX0 (f := 2) (by decide) rfl (t := 290) rfl tf_RX0_18 dX0_undoLast_94 ?_
      refine r_aln C dX0_undoLast_97 (k := 1) rfl ?_
      refine r_gf C kc_8 clX0 (f := 3) (by decide) rfl rfl rfl tf_RX0_21 dX0_undoLast_98 h (fun v11 h => ?_)
      refine r_iald C kc_290 dX0_undoLast_101 h (fun v12 h => ?_)
      obtain ⟨r13, M14, hy, h⟩ := q_call_some h
      refine r_cvv C (st := []) (c_X6_putIn C.2.2.1 k0 hk0 v5 v12 M10 r13 M14 hy) tm_RX0_41 mw_X6_putIn ⟨rfl, rfl⟩ ⟨Nat.le_of_ble_eq_true rfl, Nat.le_of_ble_eq_true rfl⟩ (kS hk0) clX6 rfl rfl (Nat.le_of_ble_eq_true rfl) dX0_undoLast_102 ?_
      refine r_goto C (tgt := 122) dX0_undoLast_105 (by decide) ?_
      exact r_vret C hr hlk dX0_undoLast_122 h
    refine r_tc C h (fun e h => ?_) (fun ne1 h => ?_)
    · refine r_lk C (tgt := 64) dX0_undoLast_38 (by decide) e rfl (by decide) ?_
      refine r_aln C dX0_undoLast_64 (k := 2) rfl ?_
      refine r_gs C (kS hk0) clX6 (f := 3) (by decide) rfl (t := (32 * (k0 + 1) + 3)) rfl tf_RX0_28 dX0_undoLast_65 ?_
      refine r_iln C dX0_undoLast_68 (k := 0) rfl ?_
      refine r_aln C dX0_undoLast_69 (k := 1) rfl ?_
      refine r_gs C kc_8 clX0 (f := 2) (by decide) rfl (t := 290) rfl tf_RX0_18 dX0_undoLast_70 ?_
      refine r_aln C dX0_undoLast_73 (k := 1) rfl ?_
      refine r_gf C kc_8 clX0 (f := 3) (by decide) rfl rfl rfl tf_RX0_21 dX0_undoLast_74 h (fun v15 h => ?_)
      refine r_iald C kc_290 dX0_undoLast_77 h (fun v16 h => ?_)
      refine r_iast C (kS_3 hk0) dX0_undoLast_78 h (fun M17 h => ?_)
      refine r_goto C (tgt := 122) dX0_undoLast_79 (by decide) ?_
      exact r_vret C hr hlk dX0_undoLast_122 h
    refine r_lk C (tgt := 108) (k := w32 v7) dX0_undoLast_38 (by decide) rfl (off := 70) (by simp only [Op.lookupswitch.offset]; rw [if_neg (fun q => ne0 q.symm)]; rw [if_neg (fun q => ne1 q.symm)]) (by decide) ?_
    refine r_aln C dX0_undoLast_108 (k := 2) rfl ?_
    refine r_iln C dX0_undoLast_109 (k := 0) rfl ?_
    refine r_aln C dX0_undoLast_110 (k := 1) rfl ?_
    refine r_gs C kc_8 clX0 (f := 2) (by decide) rfl (t := 290) rfl tf_RX0_18 dX0_undoLast_111 ?_
    refine r_aln C dX0_undoLast_114 (k := 1) rfl ?_
    refine r_gf C kc_8 clX0 (f := 3) (by decide) rfl rfl rfl tf_RX0_21 dX0_undoLast_115 h (fun v18 h => ?_)
    refine r_iald C kc_290 dX0_undoLast_118 h (fun v19 h => ?_)
    obtain ⟨r20, M21, hy, h⟩ := q_call_some h
    refine r_cvv C (st := []) (c_X6_putIn C.2.2.1 k0 hk0 v5 v19 M3 r20 M21 hy) tm_RX0_41 mw_X6_putIn ⟨rfl, rfl⟩ ⟨Nat.le_of_ble_eq_true rfl, Nat.le_of_ble_eq_true rfl⟩ (kS hk0) clX6 rfl rfl (Nat.le_of_ble_eq_true rfl) dX0_undoLast_119 ?_
    exact r_vret C hr hlk dX0_undoLast_122 h
  · exact r_vret C hr hlk dX0_undoLast_8 h
abbrev rm_X1_levelOf : Room := { frames := 0, cells := 0, slots := 0, locals := 0 }
theorem mw_X1_levelOf : q_ms yX1_levelOf cX1_levelOf 1 (some .int) 1 := ⟨⟨ts_X1_levelOf, tn_RX1, td_X1_levelOf⟩, by decide +kernel⟩
def f_X1_levelOf (a0 : Int) (M : Mem) : Option Int :=
  if w32 a0 = 10 then (some 1)
  else if w32 a0 = 11 then (some 2)
  else if w32 a0 = 12 then (some 3)
  else if w32 a0 = 13 then (some 0)
  else if w32 a0 = 14 then (some 0)
  else if w32 a0 = 15 then (some 0)
  else if w32 a0 = 16 then (some 0)
  else if w32 a0 = 17 then (some 0)
  else if w32 a0 = 18 then (some 0)
  else if w32 a0 = 19 then (some 0)
  else if w32 a0 = 20 then (some 0)
  else if w32 a0 = 21 then (some 0)
  else if w32 a0 = 22 then (some 0)
  else if w32 a0 = 23 then (some 0)
  else if w32 a0 = 24 then (some 0)
  else if w32 a0 = 25 then (some 5)
  else if w32 a0 = 26 then (some 5)
  else if w32 a0 = 27 then (some 6)
  else if w32 a0 = 28 then (some 6)
  else if w32 a0 = 29 then (some 4)
  else if w32 a0 = 30 then (some 4)
  else if w32 a0 = 31 then (some 4)
  else if w32 a0 = 32 then (some 4)
  else if w32 a0 = 33 then (some 4)
  else if w32 a0 = 34 then (some 4)
  else (some 0)
theorem c_X1_levelOf {l : Launch} {D : va_G} {ad : Nat → Nat} {cA : Nat → ClassId} (hi : q_inj syC ad) (a0 : Int) (M : Mem) (r0 : Int) (h : f_X1_levelOf a0 M = some r0) : q_Met l syC D ad cA yX1_levelOf cX1_levelOf 1 (some .int) rm_X1_levelOf [.int (qI a0)] M (some (.int (qI r0))) M := by
  refine q_met (L0 := [(0, .int (qI a0))]) hi okC (by decide) (Nat.le_of_ble_eq_true rfl) rfl ?_
  intro p e s m args below meth c C hr hlk
  unfold f_X1_levelOf at h
  refine r_iln C dX1_levelOf_0 (k := 0) rfl ?_
  refine r_tc C h (fun e h => ?_) (fun ne10 h => ?_)
  · refine r_tin C (tgt := 116) dX1_levelOf_1 e (by decide) rfl (by decide) ?_
    refine r_ic C dX1_levelOf_116 ?_
    exact r_iretp C hr hlk dX1_levelOf_117 h
  refine r_tc C h (fun e h => ?_) (fun ne11 h => ?_)
  · refine r_tin C (tgt := 118) dX1_levelOf_1 e (by decide) rfl (by decide) ?_
    refine r_ic C dX1_levelOf_118 ?_
    exact r_iretp C hr hlk dX1_levelOf_119 h
  refine r_tc C h (fun e h => ?_) (fun ne12 h => ?_)
  · refine r_tin C (tgt := 120) dX1_levelOf_1 e (by decide) rfl (by decide) ?_
    refine r_ic C dX1_levelOf_120 ?_
    exact r_iretp C hr hlk dX1_levelOf_121 h
  refine r_tc C h (fun e h => ?_) (fun ne13 h => ?_)
  · refine r_tin C (tgt := 129) dX1_levelOf_1 e (by decide) rfl (by decide) ?_
    refine r_ic C dX1_levelOf_129 ?_
    exact r_iretp C hr hlk dX1_levelOf_130 h
  refine r_tc C h (fun e h => ?_) (fun ne14 h => ?_)
  · refine r_tin C (tgt := 129) dX1_levelOf_1 e (by decide) rfl (by decide) ?_
    refine r_ic C dX1_levelOf_129 ?_
    exact r_iretp C hr hlk dX1_levelOf_130 h
  refine r_tc C h (fun e h => ?_) (fun ne15 h => ?_)
  · refine r_tin C (tgt := 129) dX1_levelOf_1 e (by decide) rfl (by decide) ?_
    refine r_ic C dX1_levelOf_129 ?_
    exact r_iretp C hr hlk dX1_levelOf_130 h
  refine r_tc C h (fun e h => ?_) (fun ne16 h => ?_)
  · refine r_tin C (tgt := 129) dX1_levelOf_1 e (by decide) rfl (by decide) ?_
    refine r_ic C dX1_levelOf_129 ?_
    exact r_iretp C hr hlk dX1_levelOf_130 h
  refine r_tc C h (fun e h => ?_) (fun ne17 h => ?_)
  · refine r_tin C (tgt := 129) dX1_levelOf_1 e (by decide) rfl (by decide) ?_
    refine r_ic C dX1_levelOf_129 ?_
    exact r_iretp C hr hlk dX1_levelOf_130 h
  refine r_tc C h (fun e h => ?_) (fun ne18 h => ?_)
  · refine r_tin C (tgt := 129) dX1_levelOf_1 e (by decide) rfl (by decide) ?_
    refine r_ic C dX1_levelOf_129 ?_
    exact r_iretp C hr hlk dX1_levelOf_130 h
  refine r_tc C h (fun e h => ?_) (fun ne19 h => ?_)
  · refine r_tin C (tgt := 129) dX1_levelOf_1 e (by decide) rfl (by decide) ?_
    refine r_ic C dX1_levelOf_129 ?_
    exact r_iretp C hr hlk dX1_levelOf_130 h
  refine r_tc C h (fun e h => ?_) (fun ne20 h => ?_)
  · refine r_tin C (tgt := 129) dX1_levelOf_1 e (by decide) rfl (by decide) ?_
    refine r_ic C dX1_levelOf_129 ?_
    exact r_iretp C hr hlk dX1_levelOf_130 h
  refine r_tc C h (fun e h => ?_) (fun ne21 h => ?_)
  · refine r_tin C (tgt := 129) dX1_levelOf_1 e (by decide) rfl (by decide) ?_
    refine r_ic C dX1_levelOf_129 ?_
    exact r_iretp C hr hlk dX1_levelOf_130 h
  refine r_tc C h (fun e h => ?_) (fun ne22 h => ?_)
  · refine r_tin C (tgt := 129) dX1_levelOf_1 e (by decide) rfl (by decide) ?_
    refine r_ic C dX1_levelOf_129 ?_
    exact r_iretp C hr hlk dX1_levelOf_130 h
  refine r_tc C h (fun e h => ?_) (fun ne23 h => ?_)
  · refine r_tin C (tgt := 129) dX1_levelOf_1 e (by decide) rfl (by decide) ?_
    refine r_ic C dX1_levelOf_129 ?_
    exact r_iretp C hr hlk dX1_levelOf_130 h
  refine r_tc C h (fun e h => ?_) (fun ne24 h => ?_)
  · refine r_tin C (tgt := 129) dX1_levelOf_1 e (by decide) rfl (by decide) ?_
    refine r_ic C dX1_levelOf_129 ?_
    exact r_iretp C hr hlk dX1_levelOf_130 h
  refine r_tc C h (fun e h => ?_) (fun ne25 h => ?_)
  · refine r_tin C (tgt := 124) dX1_levelOf_1 e (by decide) rfl (by decide) ?_
    refine r_ic C dX1_levelOf_124 ?_
    exact r_iretp C hr hlk dX1_levelOf_125 h
  refine r_tc C h (fun e h => ?_) (fun ne26 h => ?_)
  · refine r_tin C (tgt := 124) dX1_levelOf_1 e (by decide) rfl (by decide) ?_
    refine r_ic C dX1_levelOf_124 ?_
    exact r_iretp C hr hlk dX1_levelOf_125 h
  refine r_tc C h (fun e h => ?_) (fun ne27 h => ?_)
  · refine r_tin C (tgt := 126) dX1_levelOf_1 e (by decide) rfl (by decide) ?_
    refine r_bi C dX1_levelOf_126 (by decide) ?_
    exact r_iretp C hr hlk dX1_levelOf_128 h
  refine r_tc C h (fun e h => ?_) (fun ne28 h => ?_)
  · refine r_tin C (tgt := 126) dX1_levelOf_1 e (by decide) rfl (by decide) ?_
    refine r_bi C dX1_levelOf_126 (by decide) ?_
    exact r_iretp C hr hlk dX1_levelOf_128 h
  refine r_tc C h (fun e h => ?_) (fun ne29 h => ?_)
  · refine r_tin C (tgt := 122) dX1_levelOf_1 e (by decide) rfl (by decide) ?_
    refine r_ic C dX1_levelOf_122 ?_
    exact r_iretp C hr hlk dX1_levelOf_123 h
  refine r_tc C h (fun e h => ?_) (fun ne30 h => ?_)
  · refine r_tin C (tgt := 122) dX1_levelOf_1 e (by decide) rfl (by decide) ?_
    refine r_ic C dX1_levelOf_122 ?_
    exact r_iretp C hr hlk dX1_levelOf_123 h
  refine r_tc C h (fun e h => ?_) (fun ne31 h => ?_)
  · refine r_tin C (tgt := 122) dX1_levelOf_1 e (by decide) rfl (by decide) ?_
    refine r_ic C dX1_levelOf_122 ?_
    exact r_iretp C hr hlk dX1_levelOf_123 h
  refine r_tc C h (fun e h => ?_) (fun ne32 h => ?_)
  · refine r_tin C (tgt := 122) dX1_levelOf_1 e (by decide) rfl (by decide) ?_
    refine r_ic C dX1_levelOf_122 ?_
    exact r_iretp C hr hlk dX1_levelOf_123 h
  refine r_tc C h (fun e h => ?_) (fun ne33 h => ?_)
  · refine r_tin C (tgt := 122) dX1_levelOf_1 e (by decide) rfl (by decide) ?_
    refine r_ic C dX1_levelOf_122 ?_
    exact r_iretp C hr hlk dX1_levelOf_123 h
  refine r_tc C h (fun e h => ?_) (fun ne34 h => ?_)
  · refine r_tin C (tgt := 122) dX1_levelOf_1 e (by decide) rfl (by decide) ?_
    refine r_ic C dX1_levelOf_122 ?_
    exact r_iretp C hr hlk dX1_levelOf_123 h
  refine r_tout C (tgt := 129) dX1_levelOf_1 (by omega) (by decide) ?_
  refine r_ic C dX1_levelOf_129 ?_
  exact r_iretp C hr hlk dX1_levelOf_130 h
abbrev rm_X1_push : Room := { frames := 0, cells := 0, slots := 0, locals := 0 }
theorem mw_X1_push : q_mw RX1 yX1_push cX1_push 2 (some .int) 1 := ⟨⟨ti_X1_push, tl_X1_push, tn_RX1, td_X1_push⟩, by decide +kernel⟩
def f_X1_push (a0 : Int) (M : Mem) : Res :=
  q_gf M 11 2 fun v1 =>
  if w32 v1 < w32 ((72 : Nat) : Int) then (q_gf M 11 2 fun v2 =>
  q_as M 385 72 v2 a0 fun M3 =>
  q_gf M3 11 2 fun v4 =>
  q_pf M3 11 2 (v4 + 1) fun M5 =>
  some (0, M5))
  else (some (2, M))
theorem c_X1_push {l : Launch} {D : va_G} {ad : Nat → Nat} {cA : Nat → ClassId} (hi : q_inj syC ad) (a0 : Int) (M : Mem) (r0 : Int) (M0 : Mem) (h : f_X1_push a0 M = some (r0, M0)) : q_Met l syC D ad cA yX1_push cX1_push 2 (some .int) rm_X1_push [.ref (ad 11), .int (qI a0)] M (some (.int (qI r0))) M0 := by
  refine q_met (L0 := [(0, .ref (ad 11)), (1, .int (qI a0))]) hi okC (by decide) (Nat.le_of_ble_eq_true rfl) rfl ?_
  intro p e s m args below meth c C hr hlk
  unfold f_X1_push at h
  refine r_aln C dX1_push_0 (k := 0) rfl ?_
  refine r_gf C kc_11 clX1 (f := 2) (by decide) rfl rfl rfl tf_RX1_15 dX1_push_1 h (fun v1 h => ?_)
  refine r_aln C dX1_push_4 (k := 0) rfl ?_
  refine r_gs C kc_11 clX1 (f := 1) (by decide) rfl (t := 385) rfl tf_RX1_9 dX1_push_5 ?_
  refine r_alen C kc_385 (by decide) (by decide) (by decide) (t0 := 0) rfl dX1_push_8 ?_
  refine r_clt C (tgt := 14) dX1_push_9 (by decide) h (fun h => ?_) (fun h => ?_)
  · refine r_aln C dX1_push_14 (k := 0) rfl ?_
    refine r_gs C kc_11 clX1 (f := 1) (by decide) rfl (t := 385) rfl tf_RX1_9 dX1_push_15 ?_
    refine r_aln C dX1_push_18 (k := 0) rfl ?_
    refine r_gf C kc_11 clX1 (f := 2) (by decide) rfl rfl rfl tf_RX1_15 dX1_push_19 h (fun v2 h => ?_)
    refine r_iln C dX1_push_22 (k := 1) rfl ?_
    refine r_iast C kc_385 dX1_push_23 h (fun M3 h => ?_)
    refine r_aln C dX1_push_24 (k := 0) rfl ?_
    refine r_dup C rfl dX1_push_25 ?_
    refine r_gf C kc_11 clX1 (f := 2) (by decide) rfl rfl rfl tf_RX1_15 dX1_push_26 h (fun v4 h => ?_)
    refine r_ic C dX1_push_29 ?_
    refine r_iadd C dX1_push_30 ?_
    refine r_pf C kc_11 clX1 (f := 2) (by decide) rfl q_dI rfl rfl tf_RX1_15 dX1_push_31 h (fun M5 h => ?_)
    refine r_ic C dX1_push_34 ?_
    exact r_iret C hr hlk dX1_push_35 h
  · refine r_ic C dX1_push_12 ?_
    exact r_iret C hr hlk dX1_push_13 h
abbrev rm_X2_put : Room := { frames := 0, cells := 0, slots := 0, locals := 0 }
theorem mw_X2_put : q_mw RX2 yX2_put cX2_put 3 none 2 := ⟨⟨ti_X2_put, tl_X2_put, tn_RX2, td_X2_put⟩, by decide +kernel⟩
def f_X2_put (k : Nat) (a0 : Int) (a1 : Int) (M : Mem) : Res :=
  q_gf M k 5 fun v1 =>
  if w32 64 ≤ w32 v1 then (some (0, M))
  else (q_gf M k 5 fun v2 =>
  q_as M (32 * (k + 1) + 0) 64 v2 a0 fun M3 =>
  q_gf M3 k 5 fun v4 =>
  q_as M3 (32 * (k + 1) + 1) 64 v4 a1 fun M5 =>
  q_gf M5 k 5 fun v6 =>
  q_pf M5 k 5 (v6 + 1) fun M7 =>
  some (0, M7))
theorem c_X2_put {l : Launch} {D : va_G} {ad : Nat → Nat} {cA : Nat → ClassId} (hi : q_inj syC ad) (k : Nat) (hk : isL k) (a0 : Int) (a1 : Int) (M : Mem) (r0 : Int) (M0 : Mem) (h : f_X2_put k a0 a1 M = some (r0, M0)) : q_Met l syC D ad cA yX2_put cX2_put 3 none rm_X2_put [.ref (ad k), .int (qI a0), .int (qI a1)] M none M0 := by
  refine q_met (L0 := [(0, .ref (ad k)), (1, .int (qI a0)), (2, .int (qI a1))]) hi okC (by decide) (Nat.le_of_ble_eq_true rfl) rfl ?_
  intro p e s m args below meth c C hr hlk
  unfold f_X2_put at h
  refine r_aln C dX2_put_0 (k := 0) rfl ?_
  refine r_gf C (kL hk) clX2 (f := 5) (by decide) rfl rfl rfl tf_RX2_28 dX2_put_1 h (fun v1 h => ?_)
  refine r_bi C dX2_put_4 (by decide) ?_
  refine r_cge C (tgt := 39) dX2_put_6 (by decide) h (fun h => ?_) (fun h => ?_)
  · exact r_vret C hr hlk dX2_put_39 h
  · refine r_aln C dX2_put_9 (k := 0) rfl ?_
    refine r_gs C (kL hk) clX2 (f := 0) (by decide) rfl (t := (32 * (k + 1) + 0)) rfl tf_RX2_9 dX2_put_10 ?_
    refine r_aln C dX2_put_13 (k := 0) rfl ?_
    refine r_gf C (kL hk) clX2 (f := 5) (by decide) rfl rfl rfl tf_RX2_28 dX2_put_14 h (fun v2 h => ?_)
    refine r_iln C dX2_put_17 (k := 1) rfl ?_
    refine r_iast C (kL_0 hk) dX2_put_18 h (fun M3 h => ?_)
    refine r_aln C dX2_put_19 (k := 0) rfl ?_
    refine r_gs C (kL hk) clX2 (f := 1) (by decide) rfl (t := (32 * (k + 1) + 1)) rfl tf_RX2_15 dX2_put_20 ?_
    refine r_aln C dX2_put_23 (k := 0) rfl ?_
    refine r_gf C (kL hk) clX2 (f := 5) (by decide) rfl rfl rfl tf_RX2_28 dX2_put_24 h (fun v4 h => ?_)
    refine r_iln C dX2_put_27 (k := 2) rfl ?_
    refine r_iast C (kL_1 hk) dX2_put_28 h (fun M5 h => ?_)
    refine r_aln C dX2_put_29 (k := 0) rfl ?_
    refine r_dup C rfl dX2_put_30 ?_
    refine r_gf C (kL hk) clX2 (f := 5) (by decide) rfl rfl rfl tf_RX2_28 dX2_put_31 h (fun v6 h => ?_)
    refine r_ic C dX2_put_34 ?_
    refine r_iadd C dX2_put_35 ?_
    refine r_pf C (kL hk) clX2 (f := 5) (by decide) rfl q_dI rfl rfl tf_RX2_28 dX2_put_36 h (fun M7 h => ?_)
    exact r_vret C hr hlk dX2_put_39 h
abbrev rm_X1_putSigns : Room := { frames := 1, cells := 0, slots := 0, locals := 22 }
theorem mw_X1_putSigns : q_mw RX1 yX1_putSigns cX1_putSigns 3 none 2 := ⟨⟨ti_X1_putSigns, tl_X1_putSigns, tn_RX1, td_X1_putSigns⟩, by decide +kernel⟩
def f_X1_putSigns_B0 (k0 : Nat) (x2 : Int)  (M : Mem) (g0 : Mem → Res) : Res :=
  q_gf M 11 2 fun v1 =>
  if w32 v1 ≤ 0 then (some (0, M))
  else (q_gf M 11 2 fun v2 =>
  q_al M 385 72 (v2 - 1) fun v3 =>
  q_calp (f_X1_levelOf v3 M) fun r4 =>
  if w32 r4 < w32 x2 then (some (0, M))
  else (q_gf M 11 2 fun v5 =>
  q_pf M 11 2 (v5 - 1) fun M6 =>
  q_gf M6 11 2 fun v7 =>
  q_al M6 385 72 v7 fun v8 =>
  q_call (f_X2_put k0 v8 0 M6) fun r9 M10 =>
  g0  M10))
def f_X1_putSigns_L0 (k0 : Nat) (x2 : Int) (n : Nat)  (M : Mem) : Res := qlm0 (fun  M g0 => f_X1_putSigns_B0 k0 x2  M g0) n  M
theorem w_X1_putSigns_B0 (C : Cx syC p m c cX1_putSigns 3 s args RX1 D ad cA) (hr : meth.sig.returnType = none) (hlk : meth.locks = false) (k0 : Nat) (hk0 : isL k0) (x2 : Int) (M : Mem) (g0 : Mem → Res)  (ih0 : ∀  (M : Mem), g0  M = some (r0, M0) → WM syC p l e rm_X1_putSigns s m args below meth c 3 D ad cA (MQ below (q_Post syC D ad cA none M0) args s 0 0 (q_A syC ad)) M 0 [(0, .ref (ad 11)), (1, .ref (ad k0)), (2, .int (qI x2))] []) (h : f_X1_putSigns_B0 k0 x2  M g0 = some (r0, M0)) : WM syC p l e rm_X1_putSigns s m args below meth c 3 D ad cA (MQ below (q_Post syC D ad cA none M0) args s 0 0 (q_A syC ad)) M 0 [(0, .ref (ad 11)), (1, .ref (ad k0)), (2, .int (qI x2))] [] := by
  unfold f_X1_putSigns_B0 at h
  refine r_aln C dX1_putSigns_0 (k := 0) rfl ?_
  refine r_gf C kc_11 clX1 (f := 2) (by decide) rfl rfl rfl tf_RX1_15 dX1_putSigns_1 h (fun v1 h => ?_)
  refine r_zle C (tgt := 52) dX1_putSigns_4 (by decide) h (fun h => ?_) (fun h => ?_)
  · exact r_vret C hr hlk dX1_putSigns_52 h
  · refine r_aln C dX1_putSigns_7 (k := 0) rfl ?_
    refine r_gs C kc_11 clX1 (f := 1) (by decide) rfl (t := 385) rfl tf_RX1_9 dX1_putSigns_8 ?_
    refine r_aln C dX1_putSigns_11 (k := 0) rfl ?_
    refine r_gf C kc_11 clX1 (f := 2) (by decide) rfl rfl rfl tf_RX1_15 dX1_putSigns_12 h (fun v2 h => ?_)
    refine r_ic C dX1_putSigns_15 ?_
    refine r_isub C dX1_putSigns_16 ?_
    refine r_iald C kc_385 dX1_putSigns_17 h (fun v3 h => ?_)
    obtain ⟨r4, hy, h⟩ := q_calp_some h
    refine r_csi C (st := []) (c_X1_levelOf C.2.2.1 v3 M r4 hy) tm_RX1_77 mw_X1_levelOf ⟨rfl, rfl⟩ ⟨Nat.le_of_ble_eq_true rfl, Nat.le_of_ble_eq_true rfl⟩ rfl rfl (Nat.le_of_ble_eq_true rfl) dX1_putSigns_18 ?_
    refine r_iln C dX1_putSigns_21 (k := 2) rfl ?_
    refine r_clt C (tgt := 52) dX1_putSigns_22 (by decide) h (fun h => ?_) (fun h => ?_)
    · exact r_vret C hr hlk dX1_putSigns_52 h
    · refine r_aln C dX1_putSigns_25 (k := 0) rfl ?_
      refine r_dup C rfl dX1_putSigns_26 ?_
      refine r_gf C kc_11 clX1 (f := 2) (by decide) rfl rfl rfl tf_RX1_15 dX1_putSigns_27 h (fun v5 h => ?_)
      refine r_ic C dX1_putSigns_30 ?_
      refine r_isub C dX1_putSigns_31 ?_
      refine r_pf C kc_11 clX1 (f := 2) (by decide) rfl q_dI rfl rfl tf_RX1_15 dX1_putSigns_32 h (fun M6 h => ?_)
      refine r_aln C dX1_putSigns_35 (k := 1) rfl ?_
      refine r_aln C dX1_putSigns_36 (k := 0) rfl ?_
      refine r_gs C kc_11 clX1 (f := 1) (by decide) rfl (t := 385) rfl tf_RX1_9 dX1_putSigns_37 ?_
      refine r_aln C dX1_putSigns_40 (k := 0) rfl ?_
      refine r_gf C kc_11 clX1 (f := 2) (by decide) rfl rfl rfl tf_RX1_15 dX1_putSigns_41 h (fun v7 h => ?_)
      refine r_iald C kc_385 dX1_putSigns_44 h (fun v8 h => ?_)
      refine r_ic C dX1_putSigns_45 ?_
      obtain ⟨r9, M10, hy, h⟩ := q_call_some h
      refine r_cvv C (st := []) (c_X2_put C.2.2.1 k0 hk0 v8 0 M6 r9 M10 hy) tm_RX1_71 mw_X2_put ⟨rfl, rfl⟩ ⟨Nat.le_of_ble_eq_true rfl, Nat.le_of_ble_eq_true rfl⟩ (kL hk0) clX2 rfl rfl (Nat.le_of_ble_eq_true rfl) dX1_putSigns_46 ?_
      refine r_goto C (tgt := 0) dX1_putSigns_49 (by decide) ?_
      exact ih0  M10 h
theorem w_X1_putSigns_L0 (C : Cx syC p m c cX1_putSigns 3 s args RX1 D ad cA) (hr : meth.sig.returnType = none) (hlk : meth.locks = false) (k0 : Nat) (hk0 : isL k0) (x2 : Int)  (n : Nat)  (M : Mem) (h : f_X1_putSigns_L0 k0 x2 n  M = some (r0, M0)) : WM syC p l e rm_X1_putSigns s m args below meth c 3 D ad cA (MQ below (q_Post syC D ad cA none M0) args s 0 0 (q_A syC ad)) M 0 [(0, .ref (ad 11)), (1, .ref (ad k0)), (2, .int (qI x2))] [] :=
  qlm0_r (Wp := fun  M => WM syC p l e rm_X1_putSigns s m args below meth c 3 D ad cA (MQ below (q_Post syC D ad cA none M0) args s 0 0 (q_A syC ad)) M 0 [(0, .ref (ad 11)), (1, .ref (ad k0)), (2, .int (qI x2))] []) (fun  M g0 ih0 h => w_X1_putSigns_B0 C hr hlk k0 hk0 x2  M g0  ih0 h) n  M h
def f_X1_putSigns (k0 : Nat) (a1 : Int) (M : Mem) : Res :=
  f_X1_putSigns_L0 k0 a1 q_N  M
theorem c_X1_putSigns {l : Launch} {D : va_G} {ad : Nat → Nat} {cA : Nat → ClassId} (hi : q_inj syC ad) (k0 : Nat) (hk0 : isL k0) (a1 : Int) (M : Mem) (r0 : Int) (M0 : Mem) (h : f_X1_putSigns k0 a1 M = some (r0, M0)) : q_Met l syC D ad cA yX1_putSigns cX1_putSigns 3 none rm_X1_putSigns [.ref (ad 11), .ref (ad k0), .int (qI a1)] M none M0 := by
  refine q_met (L0 := [(0, .ref (ad 11)), (1, .ref (ad k0)), (2, .int (qI a1))]) hi okC (by decide) (Nat.le_of_ble_eq_true rfl) rfl ?_
  intro p e s m args below meth c C hr hlk
  unfold f_X1_putSigns at h
  exact w_X1_putSigns_L0 C hr hlk k0 hk0 a1  q_N  M h
abbrev rm_X1_takeOpen : Room := { frames := 1, cells := 0, slots := 0, locals := 21 }
theorem mw_X1_takeOpen : q_mw RX1 yX1_takeOpen cX1_takeOpen 1 (some .int) 0 := ⟨⟨ti_X1_takeOpen, tl_X1_takeOpen, tn_RX1, td_X1_takeOpen⟩, by decide +kernel⟩
def f_X1_takeOpen  (M : Mem) : Res :=
  q_gf M 11 3 fun v1 =>
  if w32 v1 < w32 8 then (q_gf M 11 3 fun v2 =>
  q_pf M 11 3 (v2 + 1) fun M3 =>
  q_gf M3 11 3 fun v4 =>
  if 0 = 0 ∨ 0 = 1 then (q_as M3 388 9 v4 0 fun M5 =>
  q_pz M5 11 6 1 fun M6 =>
  q_call (f_X1_push 23 M6) fun r7 M8 =>
  some (r7, M8)) else none)
  else (some (2, M))
theorem c_X1_takeOpen {l : Launch} {D : va_G} {ad : Nat → Nat} {cA : Nat → ClassId} (hi : q_inj syC ad)  (M : Mem) (r0 : Int) (M0 : Mem) (h : f_X1_takeOpen  M = some (r0, M0)) : q_Met l syC D ad cA yX1_takeOpen cX1_takeOpen 1 (some .int) rm_X1_takeOpen [.ref (ad 11)] M (some (.int (qI r0))) M0 := by
  refine q_met (L0 := [(0, .ref (ad 11))]) hi okC (by decide) (Nat.le_of_ble_eq_true rfl) rfl ?_
  intro p e s m args below meth c C hr hlk
  unfold f_X1_takeOpen at h
  refine r_aln C dX1_takeOpen_0 (k := 0) rfl ?_
  refine r_gf C kc_11 clX1 (f := 3) (by decide) rfl rfl rfl tf_RX1_19 dX1_takeOpen_1 h (fun v1 h => ?_)
  refine r_bi C dX1_takeOpen_4 (by decide) ?_
  refine r_clt C (tgt := 11) dX1_takeOpen_6 (by decide) h (fun h => ?_) (fun h => ?_)
  · refine r_aln C dX1_takeOpen_11 (k := 0) rfl ?_
    refine r_dup C rfl dX1_takeOpen_12 ?_
    refine r_gf C kc_11 clX1 (f := 3) (by decide) rfl rfl rfl tf_RX1_19 dX1_takeOpen_13 h (fun v2 h => ?_)
    refine r_ic C dX1_takeOpen_16 ?_
    refine r_iadd C dX1_takeOpen_17 ?_
    refine r_pf C kc_11 clX1 (f := 3) (by decide) rfl q_dI rfl rfl tf_RX1_19 dX1_takeOpen_18 h (fun M3 h => ?_)
    refine r_aln C dX1_takeOpen_21 (k := 0) rfl ?_
    refine r_gs C kc_11 clX1 (f := 4) (by decide) rfl (t := 388) rfl tf_RX1_22 dX1_takeOpen_22 ?_
    refine r_aln C dX1_takeOpen_25 (k := 0) rfl ?_
    refine r_gf C kc_11 clX1 (f := 3) (by decide) rfl rfl rfl tf_RX1_19 dX1_takeOpen_26 h (fun v4 h => ?_)
    refine r_ic C dX1_takeOpen_29 ?_
    refine r_zast C kc_388 dX1_takeOpen_30 h (fun M5 h => ?_)
    refine r_aln C dX1_takeOpen_31 (k := 0) rfl ?_
    refine r_ic C dX1_takeOpen_32 ?_
    refine r_pz C kc_11 clX1 (f := 6) (by decide) rfl q_dZ rfl rfl tf_RX1_30 dX1_takeOpen_33 h (fun M6 h => ?_)
    refine r_aln C dX1_takeOpen_36 (k := 0) rfl ?_
    refine r_bi C dX1_takeOpen_37 (by decide) ?_
    obtain ⟨r7, M8, hy, h⟩ := q_call_some h
    refine r_cvi C (st := []) (c_X1_push C.2.2.1 23 M6 r7 M8 hy) tm_RX1_64 mw_X1_push ⟨rfl, rfl⟩ ⟨Nat.le_of_ble_eq_true rfl, Nat.le_of_ble_eq_true rfl⟩ kc_11 clX1 rfl rfl (Nat.le_of_ble_eq_true rfl) dX1_takeOpen_39 ?_
    exact r_iret C hr hlk dX1_takeOpen_42 h
  · refine r_ic C dX1_takeOpen_9 ?_
    exact r_iret C hr hlk dX1_takeOpen_10 h
abbrev rm_X1_takeKnot : Room := { frames := 0, cells := 0, slots := 0, locals := 0 }
theorem mw_X1_takeKnot : q_ms yX1_takeKnot cX1_takeKnot 1 (some .boolean) 1 := ⟨⟨ts_X1_takeKnot, tn_RX1, td_X1_takeKnot⟩, by decide +kernel⟩
def f_X1_takeKnot (k0 : Nat) (M : Mem) : Res :=
  q_gf M k0 6 fun v1 =>
  if w32 v1 < w32 64 then (q_gf M k0 6 fun v2 =>
  q_pf M k0 6 (v2 + 1) fun M3 =>
  some (1, M3))
  else (some (0, M))
theorem c_X1_takeKnot {l : Launch} {D : va_G} {ad : Nat → Nat} {cA : Nat → ClassId} (hi : q_inj syC ad) (k0 : Nat) (hk0 : isL k0) (M : Mem) (r0 : Int) (M0 : Mem) (h : f_X1_takeKnot k0 M = some (r0, M0)) : q_Met l syC D ad cA yX1_takeKnot cX1_takeKnot 1 (some .boolean) rm_X1_takeKnot [.ref (ad k0)] M (some (.int (qI r0))) M0 := by
  refine q_met (L0 := [(0, .ref (ad k0))]) hi okC (by decide) (Nat.le_of_ble_eq_true rfl) rfl ?_
  intro p e s m args below meth c C hr hlk
  unfold f_X1_takeKnot at h
  refine r_aln C dX1_takeKnot_0 (k := 0) rfl ?_
  refine r_gf C (kL hk0) clX2 (f := 6) (by decide) rfl rfl rfl tf_RX1_80 dX1_takeKnot_1 h (fun v1 h => ?_)
  refine r_bi C dX1_takeKnot_4 (by decide) ?_
  refine r_clt C (tgt := 11) dX1_takeKnot_6 (by decide) h (fun h => ?_) (fun h => ?_)
  · refine r_aln C dX1_takeKnot_11 (k := 0) rfl ?_
    refine r_dup C rfl dX1_takeKnot_12 ?_
    refine r_gf C (kL hk0) clX2 (f := 6) (by decide) rfl rfl rfl tf_RX1_80 dX1_takeKnot_13 h (fun v2 h => ?_)
    refine r_ic C dX1_takeKnot_16 ?_
    refine r_iadd C dX1_takeKnot_17 ?_
    refine r_pf C (kL hk0) clX2 (f := 6) (by decide) rfl q_dI rfl rfl tf_RX1_80 dX1_takeKnot_18 h (fun M3 h => ?_)
    refine r_ic C dX1_takeKnot_21 ?_
    exact r_zret C (by decide) hr hlk dX1_takeKnot_22 h
  · refine r_ic C dX1_takeKnot_9 ?_
    exact r_zret C (by decide) hr hlk dX1_takeKnot_10 h
abbrev rm_X1_takeValue : Room := { frames := 2, cells := 0, slots := 0, locals := 41 }
theorem mw_X1_takeValue : q_mw RX1 yX1_takeValue cX1_takeValue 3 (some .int) 1 := ⟨⟨ti_X1_takeValue, tl_X1_takeValue, tn_RX1, td_X1_takeValue⟩, by decide +kernel⟩
def f_X1_takeValue_J117 (k0 : Nat) (y0 : Int) (y1 : Int) (M : Mem) : Res :=
  q_call (f_X2_put k0 y1 y0 M) fun r1 M2 =>
  q_pz M2 11 5 0 fun M3 =>
  some (0, M3)
theorem w_X1_takeValue_J117 (C : Cx syC p m c cX1_takeValue 3 s args RX1 D ad cA) (hr : meth.sig.returnType = (some .int)) (hlk : meth.locks = false) (k0 : Nat) (hk0 : isL k0) (y0 : Int) (y1 : Int) (M : Mem)  (h : f_X1_takeValue_J117 k0 y0 y1 M = some (r0, M0)) : WM syC p l e rm_X1_takeValue s m args below meth c 3 D ad cA (MQ below (q_Post syC D ad cA (some (.int (qI r0))) M0) args s 0 0 (q_A syC ad)) M 117 [(0, .ref (ad 11))] [.int (qI y0), .int (qI y1), .ref (ad k0)] := by
  unfold f_X1_takeValue_J117 at h
  obtain ⟨r1, M2, hy, h⟩ := q_call_some h
  refine r_cvv C (st := []) (c_X2_put C.2.2.1 k0 hk0 y1 y0 M r1 M2 hy) tm_RX1_71 mw_X2_put ⟨rfl, rfl⟩ ⟨Nat.le_of_ble_eq_true rfl, Nat.le_of_ble_eq_true rfl⟩ (kL hk0) clX2 rfl rfl (Nat.le_of_ble_eq_true rfl) dX1_takeValue_117 ?_
  refine r_aln C dX1_takeValue_120 (k := 0) rfl ?_
  refine r_ic C dX1_takeValue_121 ?_
  refine r_pz C kc_11 clX1 (f := 5) (by decide) rfl q_dZ rfl rfl tf_RX1_26 dX1_takeValue_122 h (fun M3 h => ?_)
  refine r_ic C dX1_takeValue_125 ?_
  exact r_iret C hr hlk dX1_takeValue_126 h
def f_X1_takeValue_J89 (k0 : Nat) (x2 : Int) (M : Mem) : Res :=
  q_call (f_X1_takeKnot k0 M) fun r1 M2 =>
  if ¬ w32 r1 = 0 then (if ¬ w32 x2 = w32 21 then (f_X1_takeValue_J117 k0 0 x2 M2)
  else (q_gf M2 10 6 fun v3 =>
  f_X1_takeValue_J117 k0 v3 x2 M2))
  else (some (2, M2))
theorem w_X1_takeValue_J89 (C : Cx syC p m c cX1_takeValue 3 s args RX1 D ad cA) (hr : meth.sig.returnType = (some .int)) (hlk : meth.locks = false) (k0 : Nat) (hk0 : isL k0) (x2 : Int) (M : Mem)  (h : f_X1_takeValue_J89 k0 x2 M = some (r0, M0)) : WM syC p l e rm_X1_takeValue s m args below meth c 3 D ad cA (MQ below (q_Post syC D ad cA (some (.int (qI r0))) M0) args s 0 0 (q_A syC ad)) M 89 [(0, .ref (ad 11)), (1, .ref (ad k0)), (2, .int (qI x2))] [] := by
  unfold f_X1_takeValue_J89 at h
  refine r_aln C dX1_takeValue_89 (k := 1) rfl ?_
  obtain ⟨r1, M2, hy, h⟩ := q_call_some h
  refine r_csi C (st := []) (c_X1_takeKnot C.2.2.1 k0 hk0 M r1 M2 hy) tm_RX1_60 mw_X1_takeKnot ⟨rfl, rfl⟩ ⟨Nat.le_of_ble_eq_true rfl, Nat.le_of_ble_eq_true rfl⟩ rfl rfl (Nat.le_of_ble_eq_true rfl) dX1_takeValue_90 ?_
  refine r_zne C (tgt := 98) dX1_takeValue_93 (by decide) h (fun h => ?_) (fun h => ?_)
  · refine r_aln C dX1_takeValue_98 (k := 1) rfl ?_
    refine r_iln C dX1_takeValue_99 (k := 2) rfl ?_
    refine r_iln C dX1_takeValue_100 (k := 2) rfl ?_
    refine r_bi C dX1_takeValue_101 (by decide) ?_
    refine r_cne C (tgt := 116) dX1_takeValue_103 (by decide) h (fun h => ?_) (fun h => ?_)
    · refine r_ic C dX1_takeValue_116 ?_
      refine r_drop [0] rfl ?_
      exact w_X1_takeValue_J117 C hr hlk k0 hk0 0 x2 M2  h
    · refine r_aln C dX1_takeValue_106 (k := 0) rfl ?_
      refine r_gs C kc_11 clX1 (f := 0) (by decide) rfl (t := 10) rfl tf_RX1_33 dX1_takeValue_107 ?_
      refine r_gf C kc_10 clX7 (f := 6) (by decide) rfl rfl rfl tf_RX1_68 dX1_takeValue_110 h (fun v3 h => ?_)
      refine r_goto C (tgt := 117) dX1_takeValue_113 (by decide) ?_
      refine r_drop [0] rfl ?_
      exact w_X1_takeValue_J117 C hr hlk k0 hk0 v3 x2 M2  h
  · refine r_ic C dX1_takeValue_96 ?_
    exact r_iret C hr hlk dX1_takeValue_97 h
def f_X1_takeValue_J70 (k0 : Nat) (x2 : Int) (M : Mem) : Res :=
  if ¬ w32 x2 = w32 21 then (f_X1_takeValue_J89 k0 x2 M)
  else (q_gf M 10 6 fun v1 =>
  if w32 9999 < w32 v1 then (some (2, M))
  else (f_X1_takeValue_J89 k0 x2 M))
theorem w_X1_takeValue_J70 (C : Cx syC p m c cX1_takeValue 3 s args RX1 D ad cA) (hr : meth.sig.returnType = (some .int)) (hlk : meth.locks = false) (k0 : Nat) (hk0 : isL k0) (x2 : Int) (M : Mem)  (h : f_X1_takeValue_J70 k0 x2 M = some (r0, M0)) : WM syC p l e rm_X1_takeValue s m args below meth c 3 D ad cA (MQ below (q_Post syC D ad cA (some (.int (qI r0))) M0) args s 0 0 (q_A syC ad)) M 70 [(0, .ref (ad 11)), (1, .ref (ad k0)), (2, .int (qI x2))] [] := by
  unfold f_X1_takeValue_J70 at h
  refine r_iln C dX1_takeValue_70 (k := 2) rfl ?_
  refine r_bi C dX1_takeValue_71 (by decide) ?_
  refine r_cne C (tgt := 89) dX1_takeValue_73 (by decide) h (fun h => ?_) (fun h => ?_)
  · exact w_X1_takeValue_J89 C hr hlk k0 hk0 x2 M  h
  · refine r_aln C dX1_takeValue_76 (k := 0) rfl ?_
    refine r_gs C kc_11 clX1 (f := 0) (by decide) rfl (t := 10) rfl tf_RX1_33 dX1_takeValue_77 ?_
    refine r_gf C kc_10 clX7 (f := 6) (by decide) rfl rfl rfl tf_RX1_68 dX1_takeValue_80 h (fun v1 h => ?_)
    refine r_si C dX1_takeValue_83 (by decide) ?_
    refine r_cgt C (tgt := 96) dX1_takeValue_86 (by decide) h (fun h => ?_) (fun h => ?_)
    · refine r_ic C dX1_takeValue_96 ?_
      exact r_iret C hr hlk dX1_takeValue_97 h
    · exact w_X1_takeValue_J89 C hr hlk k0 hk0 x2 M  h
def f_X1_takeValue_J50 (k0 : Nat) (x2 : Int) (M : Mem) : Res :=
  if w32 x2 = w32 21 then (f_X1_takeValue_J70 k0 x2 M)
  else (if w32 x2 < w32 13 then (some (1, M))
  else (if w32 x2 ≤ w32 19 then (f_X1_takeValue_J70 k0 x2 M)
  else (some (1, M))))
theorem w_X1_takeValue_J50 (C : Cx syC p m c cX1_takeValue 3 s args RX1 D ad cA) (hr : meth.sig.returnType = (some .int)) (hlk : meth.locks = false) (k0 : Nat) (hk0 : isL k0) (x2 : Int) (M : Mem)  (h : f_X1_takeValue_J50 k0 x2 M = some (r0, M0)) : WM syC p l e rm_X1_takeValue s m args below meth c 3 D ad cA (MQ below (q_Post syC D ad cA (some (.int (qI r0))) M0) args s 0 0 (q_A syC ad)) M 50 [(0, .ref (ad 11)), (1, .ref (ad k0)), (2, .int (qI x2))] [] := by
  unfold f_X1_takeValue_J50 at h
  refine r_iln C dX1_takeValue_50 (k := 2) rfl ?_
  refine r_bi C dX1_takeValue_51 (by decide) ?_
  refine r_ceq C (tgt := 70) dX1_takeValue_53 (by decide) h (fun h => ?_) (fun h => ?_)
  · exact w_X1_takeValue_J70 C hr hlk k0 hk0 x2 M  h
  · refine r_iln C dX1_takeValue_56 (k := 2) rfl ?_
    refine r_bi C dX1_takeValue_57 (by decide) ?_
    refine r_clt C (tgt := 68) dX1_takeValue_59 (by decide) h (fun h => ?_) (fun h => ?_)
    · refine r_ic C dX1_takeValue_68 ?_
      exact r_iret C hr hlk dX1_takeValue_69 h
    · refine r_iln C dX1_takeValue_62 (k := 2) rfl ?_
      refine r_bi C dX1_takeValue_63 (by decide) ?_
      refine r_cle C (tgt := 70) dX1_takeValue_65 (by decide) h (fun h => ?_) (fun h => ?_)
      · exact w_X1_takeValue_J70 C hr hlk k0 hk0 x2 M  h
      · refine r_ic C dX1_takeValue_68 ?_
        exact r_iret C hr hlk dX1_takeValue_69 h
def f_X1_takeValue (k0 : Nat) (M : Mem) : Res :=
  q_gf M 10 4 fun v1 =>
  if ¬ w32 v1 = w32 23 then (if ¬ w32 v1 = w32 12 then (f_X1_takeValue_J50 k0 v1 M)
  else (q_gf M 11 6 fun v2 =>
  if w32 v2 = 0 then (f_X1_takeValue_J50 k0 v1 M)
  else (q_call (f_X1_takeKnot k0 M) fun r3 M4 =>
  if w32 r3 = 0 then (some (2, M4))
  else (q_call (f_X1_push 12 M4) fun r5 M6 =>
  some (r5, M6)))))
  else (q_call (f_X1_takeOpen  M) fun r7 M8 =>
  some (r7, M8))
theorem c_X1_takeValue {l : Launch} {D : va_G} {ad : Nat → Nat} {cA : Nat → ClassId} (hi : q_inj syC ad) (k0 : Nat) (hk0 : isL k0) (M : Mem) (r0 : Int) (M0 : Mem) (h : f_X1_takeValue k0 M = some (r0, M0)) : q_Met l syC D ad cA yX1_takeValue cX1_takeValue 3 (some .int) rm_X1_takeValue [.ref (ad 11), .ref (ad k0)] M (some (.int (qI r0))) M0 := by
  refine q_met (L0 := [(0, .ref (ad 11)), (1, .ref (ad k0))]) hi okC (by decide) (Nat.le_of_ble_eq_true rfl) rfl ?_
  intro p e s m args below meth c C hr hlk
  unfold f_X1_takeValue at h
  refine r_aln C dX1_takeValue_0 (k := 0) rfl ?_
  refine r_gs C kc_11 clX1 (f := 0) (by decide) rfl (t := 10) rfl tf_RX1_33 dX1_takeValue_1 ?_
  refine r_gf C kc_10 clX7 (f := 4) (by decide) rfl rfl rfl tf_RX1_37 dX1_takeValue_4 h (fun v1 h => ?_)
  refine r_isn C (L1 := [(2, .int (qI v1)), (0, .ref (ad 11)), (1, .ref (ad k0))]) dX1_takeValue_7 (by decide) rfl ?_
  refine r_iln C dX1_takeValue_8 (k := 0) rfl ?_
  refine r_bi C dX1_takeValue_9 (by decide) ?_
  refine r_cne C (tgt := 19) dX1_takeValue_11 (by decide) h (fun h => ?_) (fun h => ?_)
  · refine r_iln C dX1_takeValue_19 (k := 0) rfl ?_
    refine r_bi C dX1_takeValue_20 (by decide) ?_
    refine r_cne C (tgt := 50) dX1_takeValue_22 (by decide) h (fun h => ?_) (fun h => ?_)
    · refine r_drop [1, 2, 0] rfl ?_
      exact w_X1_takeValue_J50 C hr hlk k0 hk0 v1 M  h
    · refine r_aln C dX1_takeValue_25 (k := 1) rfl ?_
      refine r_gf C kc_11 clX1 (f := 6) (by decide) rfl rfl rfl tf_RX1_30 dX1_takeValue_26 h (fun v2 h => ?_)
      refine r_zeq C (tgt := 50) dX1_takeValue_29 (by decide) h (fun h => ?_) (fun h => ?_)
      · refine r_drop [1, 2, 0] rfl ?_
        exact w_X1_takeValue_J50 C hr hlk k0 hk0 v1 M  h
      · refine r_aln C dX1_takeValue_32 (k := 2) rfl ?_
        obtain ⟨r3, M4, hy, h⟩ := q_call_some h
        refine r_csi C (st := []) (c_X1_takeKnot C.2.2.1 k0 hk0 M r3 M4 hy) tm_RX1_60 mw_X1_takeKnot ⟨rfl, rfl⟩ ⟨Nat.le_of_ble_eq_true rfl, Nat.le_of_ble_eq_true rfl⟩ rfl rfl (Nat.le_of_ble_eq_true rfl) dX1_takeValue_33 ?_
        refine r_zeq C (tgt := 48) dX1_takeValue_36 (by decide) h (fun h => ?_) (fun h => ?_)
        · refine r_ic C dX1_takeValue_48 ?_
          exact r_iret C hr hlk dX1_takeValue_49 h
        · refine r_aln C dX1_takeValue_39 (k := 1) rfl ?_
          refine r_bi C dX1_takeValue_40 (by decide) ?_
          obtain ⟨r5, M6, hy, h⟩ := q_call_some h
          refine r_cvi C (st := []) (c_X1_push C.2.2.1 12 M4 r5 M6 hy) tm_RX1_64 mw_X1_push ⟨rfl, rfl⟩ ⟨Nat.le_of_ble_eq_true rfl, Nat.le_of_ble_eq_true rfl⟩ kc_11 clX1 rfl rfl (Nat.le_of_ble_eq_true rfl) dX1_takeValue_42 ?_
          refine r_goto C (tgt := 49) dX1_takeValue_45 (by decide) ?_
          exact r_iret C hr hlk dX1_takeValue_49 h
  · refine r_aln C dX1_takeValue_14 (k := 1) rfl ?_
    obtain ⟨r7, M8, hy, h⟩ := q_call_some h
    refine r_cvi C (st := []) (c_X1_takeOpen C.2.2.1 M r7 M8 hy) tm_RX1_56 mw_X1_takeOpen ⟨rfl, rfl⟩ ⟨Nat.le_of_ble_eq_true rfl, Nat.le_of_ble_eq_true rfl⟩ kc_11 clX1 rfl rfl (Nat.le_of_ble_eq_true rfl) dX1_takeValue_15 ?_
    exact r_iret C hr hlk dX1_takeValue_18 h
abbrev rm_X1_takeSign : Room := { frames := 2, cells := 0, slots := 0, locals := 44 }
theorem mw_X1_takeSign : q_mw RX1 yX1_takeSign cX1_takeSign 5 (some .int) 1 := ⟨⟨ti_X1_takeSign, tl_X1_takeSign, tn_RX1, td_X1_takeSign⟩, by decide +kernel⟩
def f_X1_takeSign_J158 (k0 : Nat) (x2 : Int) (M : Mem) : Res :=
  q_pz M 11 5 1 fun M1 =>
  q_call (f_X1_push x2 M1) fun r2 M3 =>
  some (r2, M3)
theorem w_X1_takeSign_J158 (C : Cx syC p m c cX1_takeSign 5 s args RX1 D ad cA) (hr : meth.sig.returnType = (some .int)) (hlk : meth.locks = false) (k0 : Nat) (hk0 : isL k0) (x2 : Int) (M : Mem)  (h : f_X1_takeSign_J158 k0 x2 M = some (r0, M0)) : WM syC p l e rm_X1_takeSign s m args below meth c 5 D ad cA (MQ below (q_Post syC D ad cA (some (.int (qI r0))) M0) args s 0 0 (q_A syC ad)) M 158 [(0, .ref (ad 11)), (2, .int (qI x2))] [] := by
  unfold f_X1_takeSign_J158 at h
  refine r_aln C dX1_takeSign_158 (k := 0) rfl ?_
  refine r_ic C dX1_takeSign_159 ?_
  refine r_pz C kc_11 clX1 (f := 5) (by decide) rfl q_dZ rfl rfl tf_RX1_26 dX1_takeSign_160 h (fun M1 h => ?_)
  refine r_aln C dX1_takeSign_163 (k := 0) rfl ?_
  refine r_iln C dX1_takeSign_164 (k := 1) rfl ?_
  obtain ⟨r2, M3, hy, h⟩ := q_call_some h
  refine r_cvi C (st := []) (c_X1_push C.2.2.1 x2 M1 r2 M3 hy) tm_RX1_64 mw_X1_push ⟨rfl, rfl⟩ ⟨Nat.le_of_ble_eq_true rfl, Nat.le_of_ble_eq_true rfl⟩ kc_11 clX1 rfl rfl (Nat.le_of_ble_eq_true rfl) dX1_takeSign_165 ?_
  exact r_iret C hr hlk dX1_takeSign_168 h
def f_X1_takeSign_J147 (k0 : Nat) (x2 : Int) (x4 : Int) (M : Mem) : Res :=
  q_gf M 11 3 fun v1 =>
  if x4 = 0 ∨ x4 = 1 then (q_as M 388 9 v1 x4 fun M2 =>
  f_X1_takeSign_J158 k0 x2 M2) else none
theorem w_X1_takeSign_J147 (C : Cx syC p m c cX1_takeSign 5 s args RX1 D ad cA) (hr : meth.sig.returnType = (some .int)) (hlk : meth.locks = false) (k0 : Nat) (hk0 : isL k0) (x2 : Int) (x4 : Int) (M : Mem)  (h : f_X1_takeSign_J147 k0 x2 x4 M = some (r0, M0)) : WM syC p l e rm_X1_takeSign s m args below meth c 5 D ad cA (MQ below (q_Post syC D ad cA (some (.int (qI r0))) M0) args s 0 0 (q_A syC ad)) M 147 [(0, .ref (ad 11)), (2, .int (qI x2)), (4, .int (qI x4))] [] := by
  unfold f_X1_takeSign_J147 at h
  refine r_aln C dX1_takeSign_147 (k := 0) rfl ?_
  refine r_gs C kc_11 clX1 (f := 4) (by decide) rfl (t := 388) rfl tf_RX1_22 dX1_takeSign_148 ?_
  refine r_aln C dX1_takeSign_151 (k := 0) rfl ?_
  refine r_gf C kc_11 clX1 (f := 3) (by decide) rfl rfl rfl tf_RX1_19 dX1_takeSign_152 h (fun v1 h => ?_)
  refine r_il C dX1_takeSign_155 (k := 2) rfl ?_
  refine r_zast C kc_388 dX1_takeSign_157 h (fun M2 h => ?_)
  refine r_drop [0, 1] rfl ?_
  exact w_X1_takeSign_J158 C hr hlk k0 hk0 x2 M2  h
def f_X1_takeSign_J132 (k0 : Nat) (x2 : Int) (x4 : Int) (y0 : Int) (M : Mem) : Res :=
  q_pz M 11 6 y0 fun M1 =>
  if ¬ w32 x4 = 0 then (f_X1_takeSign_J147 k0 x2 x4 M1)
  else (q_gf M1 11 6 fun v2 =>
  if w32 v2 = 0 then (f_X1_takeSign_J158 k0 x2 M1)
  else (f_X1_takeSign_J147 k0 x2 x4 M1))
theorem w_X1_takeSign_J132 (C : Cx syC p m c cX1_takeSign 5 s args RX1 D ad cA) (hr : meth.sig.returnType = (some .int)) (hlk : meth.locks = false) (k0 : Nat) (hk0 : isL k0) (x2 : Int) (x4 : Int) (y0 : Int) (M : Mem)  (h : f_X1_takeSign_J132 k0 x2 x4 y0 M = some (r0, M0)) : WM syC p l e rm_X1_takeSign s m args below meth c 5 D ad cA (MQ below (q_Post syC D ad cA (some (.int (qI r0))) M0) args s 0 0 (q_A syC ad)) M 132 [(0, .ref (ad 11)), (2, .int (qI x2)), (4, .int (qI x4))] [.int (qI y0), .ref (ad 11)] := by
  unfold f_X1_takeSign_J132 at h
  refine r_pz C kc_11 clX1 (f := 6) (by decide) rfl q_dZ rfl rfl tf_RX1_30 dX1_takeSign_132 h (fun M1 h => ?_)
  refine r_il C dX1_takeSign_135 (k := 2) rfl ?_
  refine r_zne C (tgt := 147) dX1_takeSign_137 (by decide) h (fun h => ?_) (fun h => ?_)
  · exact w_X1_takeSign_J147 C hr hlk k0 hk0 x2 x4 M1  h
  · refine r_aln C dX1_takeSign_140 (k := 0) rfl ?_
    refine r_gf C kc_11 clX1 (f := 6) (by decide) rfl rfl rfl tf_RX1_30 dX1_takeSign_141 h (fun v2 h => ?_)
    refine r_zeq C (tgt := 158) dX1_takeSign_144 (by decide) h (fun h => ?_) (fun h => ?_)
    · refine r_drop [0, 1] rfl ?_
      exact w_X1_takeSign_J158 C hr hlk k0 hk0 x2 M1  h
    · exact w_X1_takeSign_J147 C hr hlk k0 hk0 x2 x4 M1  h
def f_X1_takeSign_J127 (k0 : Nat) (x2 : Int) (x4 : Int) (M : Mem) : Res :=
  f_X1_takeSign_J132 k0 x2 x4 1 M
theorem w_X1_takeSign_J127 (C : Cx syC p m c cX1_takeSign 5 s args RX1 D ad cA) (hr : meth.sig.returnType = (some .int)) (hlk : meth.locks = false) (k0 : Nat) (hk0 : isL k0) (x2 : Int) (x4 : Int) (M : Mem)  (h : f_X1_takeSign_J127 k0 x2 x4 M = some (r0, M0)) : WM syC p l e rm_X1_takeSign s m args below meth c 5 D ad cA (MQ below (q_Post syC D ad cA (some (.int (qI r0))) M0) args s 0 0 (q_A syC ad)) M 127 [(0, .ref (ad 11)), (2, .int (qI x2)), (4, .int (qI x4))] [.ref (ad 11)] := by
  unfold f_X1_takeSign_J127 at h
  refine r_ic C dX1_takeSign_127 ?_
  refine r_goto C (tgt := 132) dX1_takeSign_128 (by decide) ?_
  exact w_X1_takeSign_J132 C hr hlk k0 hk0 x2 x4 1 M  h
def f_X1_takeSign_J99 (k0 : Nat) (x2 : Int) (x3 : Int) (x4 : Int) (M : Mem) : Res :=
  q_call (f_X1_takeKnot k0 M) fun r1 M2 =>
  if ¬ w32 r1 = 0 then (q_call (f_X1_putSigns k0 x3 M2) fun r3 M4 =>
  if w32 x2 = w32 10 then (f_X1_takeSign_J127 k0 x2 x4 M4)
  else (if ¬ w32 x2 = w32 11 then (f_X1_takeSign_J132 k0 x2 x4 0 M4)
  else (f_X1_takeSign_J127 k0 x2 x4 M4)))
  else (some (2, M2))
theorem w_X1_takeSign_J99 (C : Cx syC p m c cX1_takeSign 5 s args RX1 D ad cA) (hr : meth.sig.returnType = (some .int)) (hlk : meth.locks = false) (k0 : Nat) (hk0 : isL k0) (x2 : Int) (x3 : Int) (x4 : Int) (M : Mem)  (h : f_X1_takeSign_J99 k0 x2 x3 x4 M = some (r0, M0)) : WM syC p l e rm_X1_takeSign s m args below meth c 5 D ad cA (MQ below (q_Post syC D ad cA (some (.int (qI r0))) M0) args s 0 0 (q_A syC ad)) M 99 [(0, .ref (ad 11)), (1, .ref (ad k0)), (2, .int (qI x2)), (3, .int (qI x3)), (4, .int (qI x4))] [] := by
  unfold f_X1_takeSign_J99 at h
  refine r_aln C dX1_takeSign_99 (k := 1) rfl ?_
  obtain ⟨r1, M2, hy, h⟩ := q_call_some h
  refine r_csi C (st := []) (c_X1_takeKnot C.2.2.1 k0 hk0 M r1 M2 hy) tm_RX1_60 mw_X1_takeKnot ⟨rfl, rfl⟩ ⟨Nat.le_of_ble_eq_true rfl, Nat.le_of_ble_eq_true rfl⟩ rfl rfl (Nat.le_of_ble_eq_true rfl) dX1_takeSign_100 ?_
  refine r_zne C (tgt := 108) dX1_takeSign_103 (by decide) h (fun h => ?_) (fun h => ?_)
  · refine r_aln C dX1_takeSign_108 (k := 0) rfl ?_
    refine r_aln C dX1_takeSign_109 (k := 1) rfl ?_
    refine r_iln C dX1_takeSign_110 (k := 3) rfl ?_
    obtain ⟨r3, M4, hy, h⟩ := q_call_some h
    refine r_cvv C (st := []) (c_X1_putSigns C.2.2.1 k0 hk0 x3 M2 r3 M4 hy) tm_RX1_42 mw_X1_putSigns ⟨rfl, rfl⟩ ⟨Nat.le_of_ble_eq_true rfl, Nat.le_of_ble_eq_true rfl⟩ kc_11 clX1 rfl rfl (Nat.le_of_ble_eq_true rfl) dX1_takeSign_111 ?_
    refine r_aln C dX1_takeSign_114 (k := 0) rfl ?_
    refine r_iln C dX1_takeSign_115 (k := 2) rfl ?_
    refine r_bi C dX1_takeSign_116 (by decide) ?_
    refine r_ceq C (tgt := 127) dX1_takeSign_118 (by decide) h (fun h => ?_) (fun h => ?_)
    · refine r_drop [0, 2, 4] rfl ?_
      exact w_X1_takeSign_J127 C hr hlk k0 hk0 x2 x4 M4  h
    · refine r_iln C dX1_takeSign_121 (k := 2) rfl ?_
      refine r_bi C dX1_takeSign_122 (by decide) ?_
      refine r_cne C (tgt := 131) dX1_takeSign_124 (by decide) h (fun h => ?_) (fun h => ?_)
      · refine r_ic C dX1_takeSign_131 ?_
        refine r_drop [0, 2, 4] rfl ?_
        exact w_X1_takeSign_J132 C hr hlk k0 hk0 x2 x4 0 M4  h
      · refine r_drop [0, 2, 4] rfl ?_
        exact w_X1_takeSign_J127 C hr hlk k0 hk0 x2 x4 M4  h
  · refine r_ic C dX1_takeSign_106 ?_
    exact r_iret C hr hlk dX1_takeSign_107 h
def f_X1_takeSign_J68 (k0 : Nat) (x2 : Int) (x3 : Int) (y0 : Int) (M : Mem) : Res :=
  if w32 x3 = 0 then (some (1, M))
  else (if w32 x2 = w32 12 then (some (1, M))
  else (if w32 y0 = 0 then (f_X1_takeSign_J99 k0 x2 x3 y0 M)
  else (q_gf M 11 3 fun v1 =>
  q_al M 388 9 v1 fun v2 =>
  if w32 v2 = 0 then (f_X1_takeSign_J99 k0 x2 x3 y0 M)
  else (some (1, M)))))
theorem w_X1_takeSign_J68 (C : Cx syC p m c cX1_takeSign 5 s args RX1 D ad cA) (hr : meth.sig.returnType = (some .int)) (hlk : meth.locks = false) (k0 : Nat) (hk0 : isL k0) (x2 : Int) (x3 : Int) (y0 : Int) (M : Mem)  (h : f_X1_takeSign_J68 k0 x2 x3 y0 M = some (r0, M0)) : WM syC p l e rm_X1_takeSign s m args below meth c 5 D ad cA (MQ below (q_Post syC D ad cA (some (.int (qI r0))) M0) args s 0 0 (q_A syC ad)) M 68 [(0, .ref (ad 11)), (1, .ref (ad k0)), (2, .int (qI x2)), (3, .int (qI x3))] [.int (qI y0)] := by
  unfold f_X1_takeSign_J68 at h
  refine r_is C (L1 := [(4, .int (qI y0)), (0, .ref (ad 11)), (1, .ref (ad k0)), (2, .int (qI x2)), (3, .int (qI x3))]) dX1_takeSign_68 (by decide) rfl ?_
  refine r_iln C dX1_takeSign_70 (k := 4) rfl ?_
  refine r_zeq C (tgt := 97) dX1_takeSign_71 (by decide) h (fun h => ?_) (fun h => ?_)
  · refine r_ic C dX1_takeSign_97 ?_
    exact r_iret C hr hlk dX1_takeSign_98 h
  · refine r_iln C dX1_takeSign_74 (k := 3) rfl ?_
    refine r_bi C dX1_takeSign_75 (by decide) ?_
    refine r_ceq C (tgt := 97) dX1_takeSign_77 (by decide) h (fun h => ?_) (fun h => ?_)
    · refine r_ic C dX1_takeSign_97 ?_
      exact r_iret C hr hlk dX1_takeSign_98 h
    · refine r_il C dX1_takeSign_80 (k := 0) rfl ?_
      refine r_zeq C (tgt := 99) dX1_takeSign_82 (by decide) h (fun h => ?_) (fun h => ?_)
      · refine r_drop [1, 2, 3, 4, 0] rfl ?_
        exact w_X1_takeSign_J99 C hr hlk k0 hk0 x2 x3 y0 M  h
      · refine r_aln C dX1_takeSign_85 (k := 1) rfl ?_
        refine r_gs C kc_11 clX1 (f := 4) (by decide) rfl (t := 388) rfl tf_RX1_22 dX1_takeSign_86 ?_
        refine r_aln C dX1_takeSign_89 (k := 1) rfl ?_
        refine r_gf C kc_11 clX1 (f := 3) (by decide) rfl rfl rfl tf_RX1_19 dX1_takeSign_90 h (fun v1 h => ?_)
        refine r_zald C kc_388 dX1_takeSign_93 h (fun v2 h => ?_)
        refine r_zeq C (tgt := 99) dX1_takeSign_94 (by decide) h (fun h => ?_) (fun h => ?_)
        · refine r_drop [1, 2, 3, 4, 0] rfl ?_
          exact w_X1_takeSign_J99 C hr hlk k0 hk0 x2 x3 y0 M  h
        · refine r_ic C dX1_takeSign_97 ?_
          exact r_iret C hr hlk dX1_takeSign_98 h
def f_X1_takeSign_J49 (k0 : Nat) (x2 : Int) (M : Mem) : Res :=
  q_calp (f_X1_levelOf x2 M) fun r1 =>
  q_calp (f_X1_levelOf 29 M) fun r2 =>
  if ¬ w32 r1 = w32 r2 then (f_X1_takeSign_J68 k0 x2 r1 0 M)
  else (f_X1_takeSign_J68 k0 x2 r1 1 M)
theorem w_X1_takeSign_J49 (C : Cx syC p m c cX1_takeSign 5 s args RX1 D ad cA) (hr : meth.sig.returnType = (some .int)) (hlk : meth.locks = false) (k0 : Nat) (hk0 : isL k0) (x2 : Int) (M : Mem)  (h : f_X1_takeSign_J49 k0 x2 M = some (r0, M0)) : WM syC p l e rm_X1_takeSign s m args below meth c 5 D ad cA (MQ below (q_Post syC D ad cA (some (.int (qI r0))) M0) args s 0 0 (q_A syC ad)) M 49 [(0, .ref (ad 11)), (1, .ref (ad k0)), (2, .int (qI x2))] [] := by
  unfold f_X1_takeSign_J49 at h
  refine r_iln C dX1_takeSign_49 (k := 2) rfl ?_
  obtain ⟨r1, hy, h⟩ := q_calp_some h
  refine r_csi C (st := []) (c_X1_levelOf C.2.2.1 x2 M r1 hy) tm_RX1_77 mw_X1_levelOf ⟨rfl, rfl⟩ ⟨Nat.le_of_ble_eq_true rfl, Nat.le_of_ble_eq_true rfl⟩ rfl rfl (Nat.le_of_ble_eq_true rfl) dX1_takeSign_50 ?_
  refine r_isn C (L1 := [(3, .int (qI r1)), (0, .ref (ad 11)), (1, .ref (ad k0)), (2, .int (qI x2))]) dX1_takeSign_53 (by decide) rfl ?_
  refine r_iln C dX1_takeSign_54 (k := 0) rfl ?_
  refine r_bi C dX1_takeSign_55 (by decide) ?_
  obtain ⟨r2, hy, h⟩ := q_calp_some h
  refine r_csi C (st := [.int (qI r1)]) (c_X1_levelOf C.2.2.1 29 M r2 hy) tm_RX1_77 mw_X1_levelOf ⟨rfl, rfl⟩ ⟨Nat.le_of_ble_eq_true rfl, Nat.le_of_ble_eq_true rfl⟩ rfl rfl (Nat.le_of_ble_eq_true rfl) dX1_takeSign_57 ?_
  refine r_cne C (tgt := 67) dX1_takeSign_60 (by decide) h (fun h => ?_) (fun h => ?_)
  · refine r_ic C dX1_takeSign_67 ?_
    refine r_drop [1, 2, 3, 0] rfl ?_
    exact w_X1_takeSign_J68 C hr hlk k0 hk0 x2 r1 0 M  h
  · refine r_ic C dX1_takeSign_63 ?_
    refine r_goto C (tgt := 68) dX1_takeSign_64 (by decide) ?_
    refine r_drop [1, 2, 3, 0] rfl ?_
    exact w_X1_takeSign_J68 C hr hlk k0 hk0 x2 r1 1 M  h
def f_X1_takeSign (k0 : Nat) (M : Mem) : Res :=
  q_gf M 10 4 fun v1 =>
  if ¬ w32 v1 = w32 24 then (f_X1_takeSign_J49 k0 v1 M)
  else (q_gf M 11 3 fun v2 =>
  if w32 v2 ≤ 0 then (f_X1_takeSign_J49 k0 v1 M)
  else (q_call (f_X1_putSigns k0 1 M) fun r3 M4 =>
  q_gf M4 11 2 fun v5 =>
  q_pf M4 11 2 (v5 - 1) fun M6 =>
  q_gf M6 11 3 fun v7 =>
  q_pf M6 11 3 (v7 - 1) fun M8 =>
  some (0, M8)))
theorem c_X1_takeSign {l : Launch} {D : va_G} {ad : Nat → Nat} {cA : Nat → ClassId} (hi : q_inj syC ad) (k0 : Nat) (hk0 : isL k0) (M : Mem) (r0 : Int) (M0 : Mem) (h : f_X1_takeSign k0 M = some (r0, M0)) : q_Met l syC D ad cA yX1_takeSign cX1_takeSign 5 (some .int) rm_X1_takeSign [.ref (ad 11), .ref (ad k0)] M (some (.int (qI r0))) M0 := by
  refine q_met (L0 := [(0, .ref (ad 11)), (1, .ref (ad k0))]) hi okC (by decide) (Nat.le_of_ble_eq_true rfl) rfl ?_
  intro p e s m args below meth c C hr hlk
  unfold f_X1_takeSign at h
  refine r_aln C dX1_takeSign_0 (k := 0) rfl ?_
  refine r_gs C kc_11 clX1 (f := 0) (by decide) rfl (t := 10) rfl tf_RX1_33 dX1_takeSign_1 ?_
  refine r_gf C kc_10 clX7 (f := 4) (by decide) rfl rfl rfl tf_RX1_37 dX1_takeSign_4 h (fun v1 h => ?_)
  refine r_isn C (L1 := [(2, .int (qI v1)), (0, .ref (ad 11)), (1, .ref (ad k0))]) dX1_takeSign_7 (by decide) rfl ?_
  refine r_iln C dX1_takeSign_8 (k := 0) rfl ?_
  refine r_bi C dX1_takeSign_9 (by decide) ?_
  refine r_cne C (tgt := 49) dX1_takeSign_11 (by decide) h (fun h => ?_) (fun h => ?_)
  · refine r_drop [1, 2, 0] rfl ?_
    exact w_X1_takeSign_J49 C hr hlk k0 hk0 v1 M  h
  · refine r_aln C dX1_takeSign_14 (k := 1) rfl ?_
    refine r_gf C kc_11 clX1 (f := 3) (by decide) rfl rfl rfl tf_RX1_19 dX1_takeSign_15 h (fun v2 h => ?_)
    refine r_zle C (tgt := 49) dX1_takeSign_18 (by decide) h (fun h => ?_) (fun h => ?_)
    · refine r_drop [1, 2, 0] rfl ?_
      exact w_X1_takeSign_J49 C hr hlk k0 hk0 v1 M  h
    · refine r_aln C dX1_takeSign_21 (k := 1) rfl ?_
      refine r_aln C dX1_takeSign_22 (k := 2) rfl ?_
      refine r_ic C dX1_takeSign_23 ?_
      obtain ⟨r3, M4, hy, h⟩ := q_call_some h
      refine r_cvv C (st := []) (c_X1_putSigns C.2.2.1 k0 hk0 1 M r3 M4 hy) tm_RX1_42 mw_X1_putSigns ⟨rfl, rfl⟩ ⟨Nat.le_of_ble_eq_true rfl, Nat.le_of_ble_eq_true rfl⟩ kc_11 clX1 rfl rfl (Nat.le_of_ble_eq_true rfl) dX1_takeSign_24 ?_
      refine r_aln C dX1_takeSign_27 (k := 1) rfl ?_
      refine r_dup C rfl dX1_takeSign_28 ?_
      refine r_gf C kc_11 clX1 (f := 2) (by decide) rfl rfl rfl tf_RX1_15 dX1_takeSign_29 h (fun v5 h => ?_)
      refine r_ic C dX1_takeSign_32 ?_
      refine r_isub C dX1_takeSign_33 ?_
      refine r_pf C kc_11 clX1 (f := 2) (by decide) rfl q_dI rfl rfl tf_RX1_15 dX1_takeSign_34 h (fun M6 h => ?_)
      refine r_aln C dX1_takeSign_37 (k := 1) rfl ?_
      refine r_dup C rfl dX1_takeSign_38 ?_
      refine r_gf C kc_11 clX1 (f := 3) (by decide) rfl rfl rfl tf_RX1_19 dX1_takeSign_39 h (fun v7 h => ?_)
      refine r_ic C dX1_takeSign_42 ?_
      refine r_isub C dX1_takeSign_43 ?_
      refine r_pf C kc_11 clX1 (f := 3) (by decide) rfl q_dI rfl rfl tf_RX1_19 dX1_takeSign_44 h (fun M8 h => ?_)
      refine r_ic C dX1_takeSign_47 ?_
      exact r_iret C hr hlk dX1_takeSign_48 h
abbrev rm_X9_find : Room := { frames := 0, cells := 0, slots := 0, locals := 0 }
theorem mw_X9_find : q_ms yX9_find cX9_find 4 (some .int) 3 := ⟨⟨ts_X9_find, tn_RX9, td_X9_find⟩, by decide +kernel⟩
def f_X9_find_B2 (n0 : Nat) (l0 : Nat) (x1 : Int) (x2 : Int) (M : Mem) (x3 : Int) (g2 : Int → Option Int) : Option Int :=
  if w32 x1 ≤ w32 x3 then (some (-1))
  else (if w32 ((l0 : Nat) : Int) ≤ w32 x3 then (some (-1))
  else (q_al M n0 l0 x3 fun v1 =>
  if ¬ w32 v1 = w32 x2 then (g2 (x3 + 1))
  else (some x3)))
def f_X9_find_L2 (n0 : Nat) (l0 : Nat) (x1 : Int) (x2 : Int) (M : Mem) (n : Nat) (x3 : Int) : Option Int := qlp1 (fun x3 g2 => f_X9_find_B2 n0 l0 x1 x2 M x3 g2) n x3
theorem w_X9_find_B2 (C : Cx syC p m c cX9_find 4 s args RX9 D ad cA) (hr : meth.sig.returnType = (some .int)) (hlk : meth.locks = false) (n0 : Nat) (l0 : Nat) (hn0 : syC.1 n0 = (2, l0)) (x1 : Int) (x2 : Int) (x3 : Int) (M : Mem) (g2 : Int → Option Int)  (ih2 : ∀ (ux3 : Int) , g2 ux3  = some r0 → WM syC p l e rm_X9_find s m args below meth c 4 D ad cA (MQ below (q_Post syC D ad cA (some (.int (qI r0))) M) args s 0 0 (q_A syC ad)) M 2 [(0, .ref (ad n0)), (1, .int (qI x1)), (2, .int (qI x2)), (3, .int (qI ux3))] []) (h : f_X9_find_B2 n0 l0 x1 x2 M x3 g2 = some r0) : WM syC p l e rm_X9_find s m args below meth c 4 D ad cA (MQ below (q_Post syC D ad cA (some (.int (qI r0))) M) args s 0 0 (q_A syC ad)) M 2 [(0, .ref (ad n0)), (1, .int (qI x1)), (2, .int (qI x2)), (3, .int (qI x3))] [] := by
  unfold f_X9_find_B2 at h
  refine r_iln C dX9_find_2 (k := 3) rfl ?_
  refine r_iln C dX9_find_3 (k := 1) rfl ?_
  refine r_cge C (tgt := 28) dX9_find_4 (by decide) h (fun h => ?_) (fun h => ?_)
  · refine r_ic C dX9_find_28 ?_
    exact r_iretp C hr hlk dX9_find_29 h
  · refine r_iln C dX9_find_7 (k := 3) rfl ?_
    refine r_aln C dX9_find_8 (k := 0) rfl ?_
    refine r_alen C hn0 (by decide) (by decide) (by decide) (t0 := 0) rfl dX9_find_9 ?_
    refine r_cge C (tgt := 28) dX9_find_10 (by decide) h (fun h => ?_) (fun h => ?_)
    · refine r_ic C dX9_find_28 ?_
      exact r_iretp C hr hlk dX9_find_29 h
    · refine r_aln C dX9_find_13 (k := 0) rfl ?_
      refine r_iln C dX9_find_14 (k := 3) rfl ?_
      refine r_iald C hn0 dX9_find_15 h (fun v1 h => ?_)
      refine r_iln C dX9_find_16 (k := 2) rfl ?_
      refine r_cne C (tgt := 22) dX9_find_17 (by decide) h (fun h => ?_) (fun h => ?_)
      · refine r_inc C (L1 := [(3, .int (qI (x3 + 1))), (0, .ref (ad n0)), (1, .int (qI x1)), (2, .int (qI x2))]) dX9_find_22 (k := 3) rfl (by decide) rfl ?_
        refine r_goto C (tgt := 2) dX9_find_25 (by decide) ?_
        refine r_drop [1, 2, 3, 0] rfl ?_
        exact ih2 (x3 + 1)  h
      · refine r_iln C dX9_find_20 (k := 3) rfl ?_
        exact r_iretp C hr hlk dX9_find_21 h
theorem w_X9_find_L2 (C : Cx syC p m c cX9_find 4 s args RX9 D ad cA) (hr : meth.sig.returnType = (some .int)) (hlk : meth.locks = false) (n0 : Nat) (l0 : Nat) (hn0 : syC.1 n0 = (2, l0)) (x1 : Int) (x2 : Int) (M : Mem)  (n : Nat) (x3 : Int) (h : f_X9_find_L2 n0 l0 x1 x2 M n x3 = some r0) : WM syC p l e rm_X9_find s m args below meth c 4 D ad cA (MQ below (q_Post syC D ad cA (some (.int (qI r0))) M) args s 0 0 (q_A syC ad)) M 2 [(0, .ref (ad n0)), (1, .int (qI x1)), (2, .int (qI x2)), (3, .int (qI x3))] [] :=
  qlp1_r (Wp := fun ux3 => WM syC p l e rm_X9_find s m args below meth c 4 D ad cA (MQ below (q_Post syC D ad cA (some (.int (qI r0))) M) args s 0 0 (q_A syC ad)) M 2 [(0, .ref (ad n0)), (1, .int (qI x1)), (2, .int (qI x2)), (3, .int (qI ux3))] []) (fun ux3 g2 ih2 h => w_X9_find_B2 C hr hlk n0 l0 hn0 x1 x2 ux3 M g2  ih2 h) n x3 h
def f_X9_find (n0 : Nat) (l0 : Nat) (a1 : Int) (a2 : Int) (M : Mem) : Option Int :=
  f_X9_find_L2 n0 l0 a1 a2 M q_N 0
theorem c_X9_find {l : Launch} {D : va_G} {ad : Nat → Nat} {cA : Nat → ClassId} (hi : q_inj syC ad) (n0 : Nat) (l0 : Nat) (hn0 : syC.1 n0 = (2, l0)) (a1 : Int) (a2 : Int) (M : Mem) (r0 : Int) (h : f_X9_find n0 l0 a1 a2 M = some r0) : q_Met l syC D ad cA yX9_find cX9_find 4 (some .int) rm_X9_find [.ref (ad n0), .int (qI a1), .int (qI a2)] M (some (.int (qI r0))) M := by
  refine q_met (L0 := [(0, .ref (ad n0)), (1, .int (qI a1)), (2, .int (qI a2))]) hi okC (by decide) (Nat.le_of_ble_eq_true rfl) rfl ?_
  intro p e s m args below meth c C hr hlk
  unfold f_X9_find at h
  refine r_ic C dX9_find_0 ?_
  refine r_isn C (L1 := [(3, .int (qI 0)), (0, .ref (ad n0)), (1, .int (qI a1)), (2, .int (qI a2))]) dX9_find_1 (by decide) rfl ?_
  refine r_drop [1, 2, 3, 0] rfl ?_
  exact w_X9_find_L2 C hr hlk n0 l0 hn0 a1 a2 M  q_N 0 h
abbrev rm_X7_readWord : Room := { frames := 1, cells := 0, slots := 0, locals := 23 }
theorem mw_X7_readWord : q_mw RX7 yX7_readWord cX7_readWord 3 none 0 := ⟨⟨ti_X7_readWord, tl_X7_readWord, tn_RX7, td_X7_readWord⟩, by decide +kernel⟩
def f_X7_readWord_J92 (x1 : Int) (M : Mem) : Res :=
  if w32 x1 ≤ w32 6 then (q_gf M 10 6 fun v1 =>
  q_calp (f_X9_find 352 20 20 v1 M) fun r2 =>
  if ¬ w32 r2 = w32 (-1) then (q_pf M 10 4 r2 fun M3 =>
  some (0, M3))
  else (q_pf M 10 4 20 fun M4 =>
  some (0, M4)))
  else (q_pf M 10 4 36 fun M5 =>
  some (0, M5))
theorem w_X7_readWord_J92 (C : Cx syC p m c cX7_readWord 3 s args RX7 D ad cA) (hr : meth.sig.returnType = none) (hlk : meth.locks = false) (x1 : Int) (M : Mem)  (h : f_X7_readWord_J92 x1 M = some (r0, M0)) : WM syC p l e rm_X7_readWord s m args below meth c 3 D ad cA (MQ below (q_Post syC D ad cA none M0) args s 0 0 (q_A syC ad)) M 92 [(0, .ref (ad 10)), (1, .int (qI x1))] [] := by
  unfold f_X7_readWord_J92 at h
  refine r_iln C dX7_readWord_92 (k := 1) rfl ?_
  refine r_bi C dX7_readWord_93 (by decide) ?_
  refine r_cle C (tgt := 105) dX7_readWord_95 (by decide) h (fun h => ?_) (fun h => ?_)
  · refine r_aln C dX7_readWord_105 (k := 0) rfl ?_
    refine r_gs C kc_10 clX7 (f := 0) (by decide) rfl (t := 352) rfl tf_RX7_9 dX7_readWord_106 ?_
    refine r_bi C dX7_readWord_109 (by decide) ?_
    refine r_aln C dX7_readWord_111 (k := 0) rfl ?_
    refine r_gf C kc_10 clX7 (f := 6) (by decide) rfl rfl rfl tf_RX7_28 dX7_readWord_112 h (fun v1 h => ?_)
    obtain ⟨r2, hy, h⟩ := q_calp_some h
    refine r_cni C (st := []) (host := RX9) (c_X9_find C.2.2.1 352 20 kc_352 20 v1 M r2 hy) (by first | exact Or.inl rfl | exact Or.inr rfl) mw_X9_find ⟨rfl, rfl⟩ ⟨Nat.le_of_ble_eq_true rfl, Nat.le_of_ble_eq_true rfl⟩ rfl rfl (Nat.le_of_ble_eq_true rfl) dX7_readWord_115 ?_
    refine r_isn C (L1 := [(2, .int (qI r2)), (0, .ref (ad 10)), (1, .int (qI x1))]) dX7_readWord_118 (by decide) rfl ?_
    refine r_aln C dX7_readWord_119 (k := 1) rfl ?_
    refine r_iln C dX7_readWord_120 (k := 0) rfl ?_
    refine r_ic C dX7_readWord_121 ?_
    refine r_cne C (tgt := 130) dX7_readWord_122 (by decide) h (fun h => ?_) (fun h => ?_)
    · refine r_iln C dX7_readWord_130 (k := 0) rfl ?_
      refine r_pf C kc_10 clX7 (f := 4) (by decide) rfl q_dI rfl rfl tf_RX7_22 dX7_readWord_131 h (fun M3 h => ?_)
      exact r_vret C hr hlk dX7_readWord_134 h
    · refine r_bi C dX7_readWord_125 (by decide) ?_
      refine r_goto C (tgt := 131) dX7_readWord_127 (by decide) ?_
      refine r_pf C kc_10 clX7 (f := 4) (by decide) rfl q_dI rfl rfl tf_RX7_22 dX7_readWord_131 h (fun M4 h => ?_)
      exact r_vret C hr hlk dX7_readWord_134 h
  · refine r_aln C dX7_readWord_98 (k := 0) rfl ?_
    refine r_bi C dX7_readWord_99 (by decide) ?_
    refine r_pf C kc_10 clX7 (f := 4) (by decide) rfl q_dI rfl rfl tf_RX7_22 dX7_readWord_101 h (fun M5 h => ?_)
    exact r_vret C hr hlk dX7_readWord_104 h
def f_X7_readWord_J76 (g2 : Int → Mem → Res) (x1 : Int) (M : Mem) : Res :=
  q_gf M 10 3 fun v1 =>
  q_pf M 10 3 (v1 + 1) fun M2 =>
  g2 (x1 + 1) M2
theorem w_X7_readWord_J76 (C : Cx syC p m c cX7_readWord 3 s args RX7 D ad cA) (hr : meth.sig.returnType = none) (hlk : meth.locks = false) (g2 : Int → Mem → Res) (x1 : Int) (M : Mem) (ih2 : ∀ (ux1 : Int) (M : Mem), g2 ux1 M = some (r0, M0) → WM syC p l e rm_X7_readWord s m args below meth c 3 D ad cA (MQ below (q_Post syC D ad cA none M0) args s 0 0 (q_A syC ad)) M 2 [(0, .ref (ad 10)), (1, .int (qI ux1))] []) (h : f_X7_readWord_J76 g2 x1 M = some (r0, M0)) : WM syC p l e rm_X7_readWord s m args below meth c 3 D ad cA (MQ below (q_Post syC D ad cA none M0) args s 0 0 (q_A syC ad)) M 76 [(0, .ref (ad 10)), (1, .int (qI x1))] [] := by
  unfold f_X7_readWord_J76 at h
  refine r_inc C (L1 := [(1, .int (qI (x1 + 1))), (0, .ref (ad 10))]) dX7_readWord_76 (k := 1) rfl (by decide) rfl ?_
  refine r_aln C dX7_readWord_79 (k := 1) rfl ?_
  refine r_dup C rfl dX7_readWord_80 ?_
  refine r_gf C kc_10 clX7 (f := 3) (by decide) rfl rfl rfl tf_RX7_19 dX7_readWord_81 h (fun v1 h => ?_)
  refine r_ic C dX7_readWord_84 ?_
  refine r_iadd C dX7_readWord_85 ?_
  refine r_pf C kc_10 clX7 (f := 3) (by decide) rfl q_dI rfl rfl tf_RX7_19 dX7_readWord_86 h (fun M2 h => ?_)
  refine r_goto C (tgt := 2) dX7_readWord_89 (by decide) ?_
  refine r_drop [1, 0] rfl ?_
  exact ih2 (x1 + 1) M2 h
def f_X7_readWord_B2  (x1 : Int) (M : Mem) (g2 : Int → Mem → Res) : Res :=
  q_gf M 10 3 fun v1 =>
  q_gf M 10 2 fun v2 =>
  if w32 v2 ≤ w32 v1 then (f_X7_readWord_J92 x1 M)
  else (q_gf M 10 3 fun v3 =>
  q_al M 32 700 v3 fun v4 =>
  if w32 v4 < w32 97 then (f_X7_readWord_J92 x1 M)
  else (q_gf M 10 3 fun v5 =>
  q_al M 32 700 v5 fun v6 =>
  if w32 122 < w32 v6 then (f_X7_readWord_J92 x1 M)
  else (if w32 6 ≤ w32 x1 then (f_X7_readWord_J76 g2 x1 M)
  else (q_gf M 10 6 fun v7 =>
  q_gf M 10 3 fun v8 =>
  q_al M 32 700 v8 fun v9 =>
  q_pf M 10 6 (q_or v7 (q_shl ((v9 - 97) + 1) (5 * (5 - x1)))) fun M10 =>
  f_X7_readWord_J76 g2 x1 M10))))
def f_X7_readWord_L2  (n : Nat) (x1 : Int) (M : Mem) : Res := qlm1 (fun x1 M g2 => f_X7_readWord_B2  x1 M g2) n x1 M
theorem w_X7_readWord_B2 (C : Cx syC p m c cX7_readWord 3 s args RX7 D ad cA) (hr : meth.sig.returnType = none) (hlk : meth.locks = false)  (x1 : Int) (M : Mem) (g2 : Int → Mem → Res)  (ih2 : ∀ (ux1 : Int) (M : Mem), g2 ux1 M = some (r0, M0) → WM syC p l e rm_X7_readWord s m args below meth c 3 D ad cA (MQ below (q_Post syC D ad cA none M0) args s 0 0 (q_A syC ad)) M 2 [(0, .ref (ad 10)), (1, .int (qI ux1))] []) (h : f_X7_readWord_B2  x1 M g2 = some (r0, M0)) : WM syC p l e rm_X7_readWord s m args below meth c 3 D ad cA (MQ below (q_Post syC D ad cA none M0) args s 0 0 (q_A syC ad)) M 2 [(0, .ref (ad 10)), (1, .int (qI x1))] [] := by
  unfold f_X7_readWord_B2 at h
  refine r_aln C dX7_readWord_2 (k := 0) rfl ?_
  refine r_gf C kc_10 clX7 (f := 3) (by decide) rfl rfl rfl tf_RX7_19 dX7_readWord_3 h (fun v1 h => ?_)
  refine r_aln C dX7_readWord_6 (k := 0) rfl ?_
  refine r_gf C kc_10 clX7 (f := 2) (by decide) rfl rfl rfl tf_RX7_15 dX7_readWord_7 h (fun v2 h => ?_)
  refine r_cge C (tgt := 92) dX7_readWord_10 (by decide) h (fun h => ?_) (fun h => ?_)
  · exact w_X7_readWord_J92 C hr hlk x1 M  h
  · refine r_aln C dX7_readWord_13 (k := 0) rfl ?_
    refine r_gs C kc_10 clX7 (f := 1) (by decide) rfl (t := 32) rfl tf_RX7_31 dX7_readWord_14 ?_
    refine r_aln C dX7_readWord_17 (k := 0) rfl ?_
    refine r_gf C kc_10 clX7 (f := 3) (by decide) rfl rfl rfl tf_RX7_19 dX7_readWord_18 h (fun v3 h => ?_)
    refine r_bald C kc_32 dX7_readWord_21 h (fun v4 h => ?_)
    refine r_bi C dX7_readWord_22 (by decide) ?_
    refine r_clt C (tgt := 92) dX7_readWord_24 (by decide) h (fun h => ?_) (fun h => ?_)
    · exact w_X7_readWord_J92 C hr hlk x1 M  h
    · refine r_aln C dX7_readWord_27 (k := 0) rfl ?_
      refine r_gs C kc_10 clX7 (f := 1) (by decide) rfl (t := 32) rfl tf_RX7_31 dX7_readWord_28 ?_
      refine r_aln C dX7_readWord_31 (k := 0) rfl ?_
      refine r_gf C kc_10 clX7 (f := 3) (by decide) rfl rfl rfl tf_RX7_19 dX7_readWord_32 h (fun v5 h => ?_)
      refine r_bald C kc_32 dX7_readWord_35 h (fun v6 h => ?_)
      refine r_bi C dX7_readWord_36 (by decide) ?_
      refine r_cgt C (tgt := 92) dX7_readWord_38 (by decide) h (fun h => ?_) (fun h => ?_)
      · exact w_X7_readWord_J92 C hr hlk x1 M  h
      · refine r_iln C dX7_readWord_41 (k := 1) rfl ?_
        refine r_bi C dX7_readWord_42 (by decide) ?_
        refine r_cge C (tgt := 76) dX7_readWord_44 (by decide) h (fun h => ?_) (fun h => ?_)
        · exact w_X7_readWord_J76 C hr hlk g2 x1 M ih2 h
        · refine r_aln C dX7_readWord_47 (k := 0) rfl ?_
          refine r_dup C rfl dX7_readWord_48 ?_
          refine r_gf C kc_10 clX7 (f := 6) (by decide) rfl rfl rfl tf_RX7_28 dX7_readWord_49 h (fun v7 h => ?_)
          refine r_aln C dX7_readWord_52 (k := 0) rfl ?_
          refine r_gs C kc_10 clX7 (f := 1) (by decide) rfl (t := 32) rfl tf_RX7_31 dX7_readWord_53 ?_
          refine r_aln C dX7_readWord_56 (k := 0) rfl ?_
          refine r_gf C kc_10 clX7 (f := 3) (by decide) rfl rfl rfl tf_RX7_19 dX7_readWord_57 h (fun v8 h => ?_)
          refine r_bald C kc_32 dX7_readWord_60 h (fun v9 h => ?_)
          refine r_bi C dX7_readWord_61 (by decide) ?_
          refine r_isub C dX7_readWord_63 ?_
          refine r_ic C dX7_readWord_64 ?_
          refine r_iadd C dX7_readWord_65 ?_
          refine r_ic C dX7_readWord_66 ?_
          refine r_ic C dX7_readWord_67 ?_
          refine r_iln C dX7_readWord_68 (k := 1) rfl ?_
          refine r_isub C dX7_readWord_69 ?_
          refine r_imul C dX7_readWord_70 ?_
          refine r_ishl C dX7_readWord_71 ?_
          refine r_ior C dX7_readWord_72 ?_
          refine r_pf C kc_10 clX7 (f := 6) (by decide) rfl q_dI rfl rfl tf_RX7_28 dX7_readWord_73 h (fun M10 h => ?_)
          exact w_X7_readWord_J76 C hr hlk g2 x1 M10 ih2 h
theorem w_X7_readWord_L2 (C : Cx syC p m c cX7_readWord 3 s args RX7 D ad cA) (hr : meth.sig.returnType = none) (hlk : meth.locks = false)    (n : Nat) (x1 : Int) (M : Mem) (h : f_X7_readWord_L2  n x1 M = some (r0, M0)) : WM syC p l e rm_X7_readWord s m args below meth c 3 D ad cA (MQ below (q_Post syC D ad cA none M0) args s 0 0 (q_A syC ad)) M 2 [(0, .ref (ad 10)), (1, .int (qI x1))] [] :=
  qlm1_r (Wp := fun ux1 M => WM syC p l e rm_X7_readWord s m args below meth c 3 D ad cA (MQ below (q_Post syC D ad cA none M0) args s 0 0 (q_A syC ad)) M 2 [(0, .ref (ad 10)), (1, .int (qI ux1))] []) (fun ux1 M g2 ih2 h => w_X7_readWord_B2 C hr hlk  ux1 M g2  ih2 h) n x1 M h
def f_X7_readWord  (M : Mem) : Res :=
  f_X7_readWord_L2  q_N 0 M
theorem c_X7_readWord {l : Launch} {D : va_G} {ad : Nat → Nat} {cA : Nat → ClassId} (hi : q_inj syC ad)  (M : Mem) (r0 : Int) (M0 : Mem) (h : f_X7_readWord  M = some (r0, M0)) : q_Met l syC D ad cA yX7_readWord cX7_readWord 3 none rm_X7_readWord [.ref (ad 10)] M none M0 := by
  refine q_met (L0 := [(0, .ref (ad 10))]) hi okC (by decide) (Nat.le_of_ble_eq_true rfl) rfl ?_
  intro p e s m args below meth c C hr hlk
  unfold f_X7_readWord at h
  refine r_ic C dX7_readWord_0 ?_
  refine r_isn C (L1 := [(1, .int (qI 0)), (0, .ref (ad 10))]) dX7_readWord_1 (by decide) rfl ?_
  refine r_drop [1, 0] rfl ?_
  exact w_X7_readWord_L2 C hr hlk   q_N 0 M h
abbrev rm_X7_readNumber : Room := { frames := 1, cells := 0, slots := 0, locals := 23 }
theorem mw_X7_readNumber : q_mw RX7 yX7_readNumber cX7_readNumber 1 none 0 := ⟨⟨ti_X7_readNumber, tl_X7_readNumber, tn_RX7, td_X7_readNumber⟩, by decide +kernel⟩
def f_X7_readNumber_B6   (M : Mem) (g6 : Mem → Res) : Res :=
  q_gf M 10 3 fun v1 =>
  q_gf M 10 2 fun v2 =>
  if w32 v2 ≤ w32 v1 then (some (0, M))
  else (q_gf M 10 3 fun v3 =>
  q_al M 32 700 v3 fun v4 =>
  if w32 v4 < w32 48 then (some (0, M))
  else (q_gf M 10 3 fun v5 =>
  q_al M 32 700 v5 fun v6 =>
  if w32 57 < w32 v6 then (some (0, M))
  else (q_gf M 10 6 fun v7 =>
  q_gf M 10 3 fun v8 =>
  q_al M 32 700 v8 fun v9 =>
  q_pf M 10 6 (q_min (((v7 * 10) + v9) - 48) 1000000) fun M10 =>
  q_gf M10 10 3 fun v11 =>
  q_pf M10 10 3 (v11 + 1) fun M12 =>
  g6  M12)))
def f_X7_readNumber_L6  (n : Nat)  (M : Mem) : Res := qlm0 (fun  M g6 => f_X7_readNumber_B6   M g6) n  M
theorem w_X7_readNumber_B6 (C : Cx syC p m c cX7_readNumber 1 s args RX7 D ad cA) (hr : meth.sig.returnType = none) (hlk : meth.locks = false)   (M : Mem) (g6 : Mem → Res)  (ih6 : ∀  (M : Mem), g6  M = some (r0, M0) → WM syC p l e rm_X7_readNumber s m args below meth c 1 D ad cA (MQ below (q_Post syC D ad cA none M0) args s 0 0 (q_A syC ad)) M 6 [(0, .ref (ad 10))] []) (h : f_X7_readNumber_B6   M g6 = some (r0, M0)) : WM syC p l e rm_X7_readNumber s m args below meth c 1 D ad cA (MQ below (q_Post syC D ad cA none M0) args s 0 0 (q_A syC ad)) M 6 [(0, .ref (ad 10))] [] := by
  unfold f_X7_readNumber_B6 at h
  refine r_aln C dX7_readNumber_6 (k := 0) rfl ?_
  refine r_gf C kc_10 clX7 (f := 3) (by decide) rfl rfl rfl tf_RX7_19 dX7_readNumber_7 h (fun v1 h => ?_)
  refine r_aln C dX7_readNumber_10 (k := 0) rfl ?_
  refine r_gf C kc_10 clX7 (f := 2) (by decide) rfl rfl rfl tf_RX7_15 dX7_readNumber_11 h (fun v2 h => ?_)
  refine r_cge C (tgt := 87) dX7_readNumber_14 (by decide) h (fun h => ?_) (fun h => ?_)
  · exact r_vret C hr hlk dX7_readNumber_87 h
  · refine r_aln C dX7_readNumber_17 (k := 0) rfl ?_
    refine r_gs C kc_10 clX7 (f := 1) (by decide) rfl (t := 32) rfl tf_RX7_31 dX7_readNumber_18 ?_
    refine r_aln C dX7_readNumber_21 (k := 0) rfl ?_
    refine r_gf C kc_10 clX7 (f := 3) (by decide) rfl rfl rfl tf_RX7_19 dX7_readNumber_22 h (fun v3 h => ?_)
    refine r_bald C kc_32 dX7_readNumber_25 h (fun v4 h => ?_)
    refine r_bi C dX7_readNumber_26 (by decide) ?_
    refine r_clt C (tgt := 87) dX7_readNumber_28 (by decide) h (fun h => ?_) (fun h => ?_)
    · exact r_vret C hr hlk dX7_readNumber_87 h
    · refine r_aln C dX7_readNumber_31 (k := 0) rfl ?_
      refine r_gs C kc_10 clX7 (f := 1) (by decide) rfl (t := 32) rfl tf_RX7_31 dX7_readNumber_32 ?_
      refine r_aln C dX7_readNumber_35 (k := 0) rfl ?_
      refine r_gf C kc_10 clX7 (f := 3) (by decide) rfl rfl rfl tf_RX7_19 dX7_readNumber_36 h (fun v5 h => ?_)
      refine r_bald C kc_32 dX7_readNumber_39 h (fun v6 h => ?_)
      refine r_bi C dX7_readNumber_40 (by decide) ?_
      refine r_cgt C (tgt := 87) dX7_readNumber_42 (by decide) h (fun h => ?_) (fun h => ?_)
      · exact r_vret C hr hlk dX7_readNumber_87 h
      · refine r_aln C dX7_readNumber_45 (k := 0) rfl ?_
        refine r_aln C dX7_readNumber_46 (k := 0) rfl ?_
        refine r_gf C kc_10 clX7 (f := 6) (by decide) rfl rfl rfl tf_RX7_28 dX7_readNumber_47 h (fun v7 h => ?_)
        refine r_bi C dX7_readNumber_50 (by decide) ?_
        refine r_imul C dX7_readNumber_52 ?_
        refine r_aln C dX7_readNumber_53 (k := 0) rfl ?_
        refine r_gs C kc_10 clX7 (f := 1) (by decide) rfl (t := 32) rfl tf_RX7_31 dX7_readNumber_54 ?_
        refine r_aln C dX7_readNumber_57 (k := 0) rfl ?_
        refine r_gf C kc_10 clX7 (f := 3) (by decide) rfl rfl rfl tf_RX7_19 dX7_readNumber_58 h (fun v8 h => ?_)
        refine r_bald C kc_32 dX7_readNumber_61 h (fun v9 h => ?_)
        refine r_iadd C dX7_readNumber_62 ?_
        refine r_bi C dX7_readNumber_63 (by decide) ?_
        refine r_isub C dX7_readNumber_65 ?_
        refine r_ldc C (x := 1000000) tc_RX7_68 (by decide) dX7_readNumber_66 ?_
        refine r_q_min C (st := [.ref (ad 10)]) tm_RX7_46 ⟨Nat.le_of_ble_eq_true rfl, Nat.le_of_ble_eq_true rfl⟩ dX7_readNumber_68 ?_
        refine r_pf C kc_10 clX7 (f := 6) (by decide) rfl q_dI rfl rfl tf_RX7_28 dX7_readNumber_71 h (fun M10 h => ?_)
        refine r_aln C dX7_readNumber_74 (k := 0) rfl ?_
        refine r_dup C rfl dX7_readNumber_75 ?_
        refine r_gf C kc_10 clX7 (f := 3) (by decide) rfl rfl rfl tf_RX7_19 dX7_readNumber_76 h (fun v11 h => ?_)
        refine r_ic C dX7_readNumber_79 ?_
        refine r_iadd C dX7_readNumber_80 ?_
        refine r_pf C kc_10 clX7 (f := 3) (by decide) rfl q_dI rfl rfl tf_RX7_19 dX7_readNumber_81 h (fun M12 h => ?_)
        refine r_goto C (tgt := 6) dX7_readNumber_84 (by decide) ?_
        exact ih6  M12 h
theorem w_X7_readNumber_L6 (C : Cx syC p m c cX7_readNumber 1 s args RX7 D ad cA) (hr : meth.sig.returnType = none) (hlk : meth.locks = false)    (n : Nat)  (M : Mem) (h : f_X7_readNumber_L6  n  M = some (r0, M0)) : WM syC p l e rm_X7_readNumber s m args below meth c 1 D ad cA (MQ below (q_Post syC D ad cA none M0) args s 0 0 (q_A syC ad)) M 6 [(0, .ref (ad 10))] [] :=
  qlm0_r (Wp := fun  M => WM syC p l e rm_X7_readNumber s m args below meth c 1 D ad cA (MQ below (q_Post syC D ad cA none M0) args s 0 0 (q_A syC ad)) M 6 [(0, .ref (ad 10))] []) (fun  M g6 ih6 h => w_X7_readNumber_B6 C hr hlk   M g6  ih6 h) n  M h
def f_X7_readNumber  (M : Mem) : Res :=
  q_pf M 10 4 21 fun M1 =>
  f_X7_readNumber_L6  q_N  M1
theorem c_X7_readNumber {l : Launch} {D : va_G} {ad : Nat → Nat} {cA : Nat → ClassId} (hi : q_inj syC ad)  (M : Mem) (r0 : Int) (M0 : Mem) (h : f_X7_readNumber  M = some (r0, M0)) : q_Met l syC D ad cA yX7_readNumber cX7_readNumber 1 none rm_X7_readNumber [.ref (ad 10)] M none M0 := by
  refine q_met (L0 := [(0, .ref (ad 10))]) hi okC (by decide) (Nat.le_of_ble_eq_true rfl) rfl ?_
  intro p e s m args below meth c C hr hlk
  unfold f_X7_readNumber at h
  refine r_aln C dX7_readNumber_0 (k := 0) rfl ?_
  refine r_bi C dX7_readNumber_1 (by decide) ?_
  refine r_pf C kc_10 clX7 (f := 4) (by decide) rfl q_dI rfl rfl tf_RX7_22 dX7_readNumber_3 h (fun M1 h => ?_)
  exact w_X7_readNumber_L6 C hr hlk   q_N  M1 h
abbrev rm_X7_readSign : Room := { frames := 0, cells := 0, slots := 0, locals := 0 }
theorem mw_X7_readSign : q_mw RX7 yX7_readSign cX7_readSign 3 none 0 := ⟨⟨ti_X7_readSign, tl_X7_readSign, tn_RX7, td_X7_readSign⟩, by decide +kernel⟩
def f_X7_readSign_J308  (M : Mem) : Res :=
  q_gf M 10 3 fun v1 =>
  q_pf M 10 3 (v1 + 1) fun M2 =>
  some (0, M2)
theorem w_X7_readSign_J308 (C : Cx syC p m c cX7_readSign 3 s args RX7 D ad cA) (hr : meth.sig.returnType = none) (hlk : meth.locks = false)  (M : Mem)  (h : f_X7_readSign_J308  M = some (r0, M0)) : WM syC p l e rm_X7_readSign s m args below meth c 3 D ad cA (MQ below (q_Post syC D ad cA none M0) args s 0 0 (q_A syC ad)) M 308 [(0, .ref (ad 10))] [] := by
  unfold f_X7_readSign_J308 at h
  refine r_aln C dX7_readSign_308 (k := 0) rfl ?_
  refine r_dup C rfl dX7_readSign_309 ?_
  refine r_gf C kc_10 clX7 (f := 3) (by decide) rfl rfl rfl tf_RX7_19 dX7_readSign_310 h (fun v1 h => ?_)
  refine r_ic C dX7_readSign_313 ?_
  refine r_iadd C dX7_readSign_314 ?_
  refine r_pf C kc_10 clX7 (f := 3) (by decide) rfl q_dI rfl rfl tf_RX7_19 dX7_readSign_315 h (fun M2 h => ?_)
  exact r_vret C hr hlk dX7_readSign_318 h
def f_X7_readSign_J281  (M : Mem) : Res :=
  q_gf M 10 4 fun v1 =>
  if w32 v1 = w32 30 then (f_X7_readSign_J308  M)
  else (q_gf M 10 4 fun v2 =>
  if w32 v2 = w32 32 then (f_X7_readSign_J308  M)
  else (q_gf M 10 4 fun v3 =>
  if ¬ w32 v3 = w32 33 then (some (0, M))
  else (f_X7_readSign_J308  M)))
theorem w_X7_readSign_J281 (C : Cx syC p m c cX7_readSign 3 s args RX7 D ad cA) (hr : meth.sig.returnType = none) (hlk : meth.locks = false)  (M : Mem)  (h : f_X7_readSign_J281  M = some (r0, M0)) : WM syC p l e rm_X7_readSign s m args below meth c 3 D ad cA (MQ below (q_Post syC D ad cA none M0) args s 0 0 (q_A syC ad)) M 281 [(0, .ref (ad 10))] [] := by
  unfold f_X7_readSign_J281 at h
  refine r_aln C dX7_readSign_281 (k := 0) rfl ?_
  refine r_gf C kc_10 clX7 (f := 4) (by decide) rfl rfl rfl tf_RX7_22 dX7_readSign_282 h (fun v1 h => ?_)
  refine r_bi C dX7_readSign_285 (by decide) ?_
  refine r_ceq C (tgt := 308) dX7_readSign_287 (by decide) h (fun h => ?_) (fun h => ?_)
  · exact w_X7_readSign_J308 C hr hlk  M  h
  · refine r_aln C dX7_readSign_290 (k := 0) rfl ?_
    refine r_gf C kc_10 clX7 (f := 4) (by decide) rfl rfl rfl tf_RX7_22 dX7_readSign_291 h (fun v2 h => ?_)
    refine r_bi C dX7_readSign_294 (by decide) ?_
    refine r_ceq C (tgt := 308) dX7_readSign_296 (by decide) h (fun h => ?_) (fun h => ?_)
    · exact w_X7_readSign_J308 C hr hlk  M  h
    · refine r_aln C dX7_readSign_299 (k := 0) rfl ?_
      refine r_gf C kc_10 clX7 (f := 4) (by decide) rfl rfl rfl tf_RX7_22 dX7_readSign_300 h (fun v3 h => ?_)
      refine r_bi C dX7_readSign_303 (by decide) ?_
      refine r_cne C (tgt := 318) dX7_readSign_305 (by decide) h (fun h => ?_) (fun h => ?_)
      · exact r_vret C hr hlk dX7_readSign_318 h
      · exact w_X7_readSign_J308 C hr hlk  M  h
def f_X7_readSign_J249 (y0 : Int) (M : Mem) : Res :=
  q_pf M 10 4 y0 fun M1 =>
  f_X7_readSign_J281  M1
theorem w_X7_readSign_J249 (C : Cx syC p m c cX7_readSign 3 s args RX7 D ad cA) (hr : meth.sig.returnType = none) (hlk : meth.locks = false) (y0 : Int) (M : Mem)  (h : f_X7_readSign_J249 y0 M = some (r0, M0)) : WM syC p l e rm_X7_readSign s m args below meth c 3 D ad cA (MQ below (q_Post syC D ad cA none M0) args s 0 0 (q_A syC ad)) M 249 [(0, .ref (ad 10))] [.int (qI y0), .ref (ad 10)] := by
  unfold f_X7_readSign_J249 at h
  refine r_pf C kc_10 clX7 (f := 4) (by decide) rfl q_dI rfl rfl tf_RX7_22 dX7_readSign_249 h (fun M1 h => ?_)
  refine r_goto C (tgt := 281) dX7_readSign_252 (by decide) ?_
  exact w_X7_readSign_J281 C hr hlk  M1  h
def f_X7_readSign_J269 (y0 : Int) (M : Mem) : Res :=
  q_pf M 10 4 y0 fun M1 =>
  f_X7_readSign_J281  M1
theorem w_X7_readSign_J269 (C : Cx syC p m c cX7_readSign 3 s args RX7 D ad cA) (hr : meth.sig.returnType = none) (hlk : meth.locks = false) (y0 : Int) (M : Mem)  (h : f_X7_readSign_J269 y0 M = some (r0, M0)) : WM syC p l e rm_X7_readSign s m args below meth c 3 D ad cA (MQ below (q_Post syC D ad cA none M0) args s 0 0 (q_A syC ad)) M 269 [(0, .ref (ad 10))] [.int (qI y0), .ref (ad 10)] := by
  unfold f_X7_readSign_J269 at h
  refine r_pf C kc_10 clX7 (f := 4) (by decide) rfl q_dI rfl rfl tf_RX7_22 dX7_readSign_269 h (fun M1 h => ?_)
  refine r_goto C (tgt := 281) dX7_readSign_272 (by decide) ?_
  exact w_X7_readSign_J281 C hr hlk  M1  h
def f_X7_readSign_J44 (x1 : Int) (y0 : Int) (M : Mem) : Res :=
  if w32 x1 = 40 then (q_pf M 10 4 23 fun M1 =>
  f_X7_readSign_J281  M1)
  else if w32 x1 = 41 then (q_pf M 10 4 24 fun M2 =>
  f_X7_readSign_J281  M2)
  else if w32 x1 = 42 then (q_pf M 10 4 27 fun M3 =>
  f_X7_readSign_J281  M3)
  else if w32 x1 = 43 then (q_pf M 10 4 25 fun M4 =>
  f_X7_readSign_J281  M4)
  else if w32 x1 = 44 then (q_pf M 10 4 36 fun M5 =>
  f_X7_readSign_J281  M5)
  else if w32 x1 = 45 then (q_pf M 10 4 26 fun M6 =>
  f_X7_readSign_J281  M6)
  else if w32 x1 = 46 then (q_pf M 10 4 36 fun M7 =>
  f_X7_readSign_J281  M7)
  else if w32 x1 = 47 then (q_pf M 10 4 28 fun M8 =>
  f_X7_readSign_J281  M8)
  else if w32 x1 = 48 then (q_pf M 10 4 36 fun M9 =>
  f_X7_readSign_J281  M9)
  else if w32 x1 = 49 then (q_pf M 10 4 36 fun M10 =>
  f_X7_readSign_J281  M10)
  else if w32 x1 = 50 then (q_pf M 10 4 36 fun M11 =>
  f_X7_readSign_J281  M11)
  else if w32 x1 = 51 then (q_pf M 10 4 36 fun M12 =>
  f_X7_readSign_J281  M12)
  else if w32 x1 = 52 then (q_pf M 10 4 36 fun M13 =>
  f_X7_readSign_J281  M13)
  else if w32 x1 = 53 then (q_pf M 10 4 36 fun M14 =>
  f_X7_readSign_J281  M14)
  else if w32 x1 = 54 then (q_pf M 10 4 36 fun M15 =>
  f_X7_readSign_J281  M15)
  else if w32 x1 = 55 then (q_pf M 10 4 36 fun M16 =>
  f_X7_readSign_J281  M16)
  else if w32 x1 = 56 then (q_pf M 10 4 36 fun M17 =>
  f_X7_readSign_J281  M17)
  else if w32 x1 = 57 then (q_pf M 10 4 36 fun M18 =>
  f_X7_readSign_J281  M18)
  else if w32 x1 = 58 then (q_pf M 10 4 36 fun M19 =>
  f_X7_readSign_J281  M19)
  else if w32 x1 = 59 then (q_pf M 10 4 22 fun M20 =>
  f_X7_readSign_J281  M20)
  else if w32 x1 = 60 then (if ¬ w32 y0 = w32 61 then (if ¬ w32 y0 = w32 62 then (f_X7_readSign_J249 29 M)
  else (f_X7_readSign_J249 32 M))
  else (f_X7_readSign_J249 30 M))
  else if w32 x1 = 61 then (q_pf M 10 4 31 fun M21 =>
  f_X7_readSign_J281  M21)
  else if w32 x1 = 62 then (if ¬ w32 y0 = w32 61 then (f_X7_readSign_J269 34 M)
  else (f_X7_readSign_J269 33 M))
  else (q_pf M 10 4 36 fun M22 =>
  f_X7_readSign_J281  M22)
theorem w_X7_readSign_J44 (C : Cx syC p m c cX7_readSign 3 s args RX7 D ad cA) (hr : meth.sig.returnType = none) (hlk : meth.locks = false) (x1 : Int) (y0 : Int) (M : Mem)  (h : f_X7_readSign_J44 x1 y0 M = some (r0, M0)) : WM syC p l e rm_X7_readSign s m args below meth c 3 D ad cA (MQ below (q_Post syC D ad cA none M0) args s 0 0 (q_A syC ad)) M 44 [(0, .ref (ad 10)), (1, .int (qI x1))] [.int (qI y0)] := by
  unfold f_X7_readSign_J44 at h
  refine r_isn C (L1 := [(2, .int (qI y0)), (0, .ref (ad 10)), (1, .int (qI x1))]) dX7_readSign_44 (by decide) rfl ?_
  refine r_iln C dX7_readSign_45 (k := 2) rfl ?_
  refine r_tc C h (fun e h => ?_) (fun ne40 h => ?_)
  · refine r_tin C (tgt := 161) dX7_readSign_46 e (by decide) rfl (by decide) ?_
    refine r_aln C dX7_readSign_161 (k := 1) rfl ?_
    refine r_bi C dX7_readSign_162 (by decide) ?_
    refine r_pf C kc_10 clX7 (f := 4) (by decide) rfl q_dI rfl rfl tf_RX7_22 dX7_readSign_164 h (fun M1 h => ?_)
    refine r_goto C (tgt := 281) dX7_readSign_167 (by decide) ?_
    refine r_drop [1] rfl ?_
    exact w_X7_readSign_J281 C hr hlk  M1  h
  refine r_tc C h (fun e h => ?_) (fun ne41 h => ?_)
  · refine r_tin C (tgt := 170) dX7_readSign_46 e (by decide) rfl (by decide) ?_
    refine r_aln C dX7_readSign_170 (k := 1) rfl ?_
    refine r_bi C dX7_readSign_171 (by decide) ?_
    refine r_pf C kc_10 clX7 (f := 4) (by decide) rfl q_dI rfl rfl tf_RX7_22 dX7_readSign_173 h (fun M2 h => ?_)
    refine r_goto C (tgt := 281) dX7_readSign_176 (by decide) ?_
    refine r_drop [1] rfl ?_
    exact w_X7_readSign_J281 C hr hlk  M2  h
  refine r_tc C h (fun e h => ?_) (fun ne42 h => ?_)
  · refine r_tin C (tgt := 197) dX7_readSign_46 e (by decide) rfl (by decide) ?_
    refine r_aln C dX7_readSign_197 (k := 1) rfl ?_
    refine r_bi C dX7_readSign_198 (by decide) ?_
    refine r_pf C kc_10 clX7 (f := 4) (by decide) rfl q_dI rfl rfl tf_RX7_22 dX7_readSign_200 h (fun M3 h => ?_)
    refine r_goto C (tgt := 281) dX7_readSign_203 (by decide) ?_
    refine r_drop [1] rfl ?_
    exact w_X7_readSign_J281 C hr hlk  M3  h
  refine r_tc C h (fun e h => ?_) (fun ne43 h => ?_)
  · refine r_tin C (tgt := 179) dX7_readSign_46 e (by decide) rfl (by decide) ?_
    refine r_aln C dX7_readSign_179 (k := 1) rfl ?_
    refine r_bi C dX7_readSign_180 (by decide) ?_
    refine r_pf C kc_10 clX7 (f := 4) (by decide) rfl q_dI rfl rfl tf_RX7_22 dX7_readSign_182 h (fun M4 h => ?_)
    refine r_goto C (tgt := 281) dX7_readSign_185 (by decide) ?_
    refine r_drop [1] rfl ?_
    exact w_X7_readSign_J281 C hr hlk  M4  h
  refine r_tc C h (fun e h => ?_) (fun ne44 h => ?_)
  · refine r_tin C (tgt := 275) dX7_readSign_46 e (by decide) rfl (by decide) ?_
    refine r_aln C dX7_readSign_275 (k := 1) rfl ?_
    refine r_bi C dX7_readSign_276 (by decide) ?_
    refine r_pf C kc_10 clX7 (f := 4) (by decide) rfl q_dI rfl rfl tf_RX7_22 dX7_readSign_278 h (fun M5 h => ?_)
    refine r_drop [1] rfl ?_
    exact w_X7_readSign_J281 C hr hlk  M5  h
  refine r_tc C h (fun e h => ?_) (fun ne45 h => ?_)
  · refine r_tin C (tgt := 188) dX7_readSign_46 e (by decide) rfl (by decide) ?_
    refine r_aln C dX7_readSign_188 (k := 1) rfl ?_
    refine r_bi C dX7_readSign_189 (by decide) ?_
    refine r_pf C kc_10 clX7 (f := 4) (by decide) rfl q_dI rfl rfl tf_RX7_22 dX7_readSign_191 h (fun M6 h => ?_)
    refine r_goto C (tgt := 281) dX7_readSign_194 (by decide) ?_
    refine r_drop [1] rfl ?_
    exact w_X7_readSign_J281 C hr hlk  M6  h
  refine r_tc C h (fun e h => ?_) (fun ne46 h => ?_)
  · refine r_tin C (tgt := 275) dX7_readSign_46 e (by decide) rfl (by decide) ?_
    refine r_aln C dX7_readSign_275 (k := 1) rfl ?_
    refine r_bi C dX7_readSign_276 (by decide) ?_
    refine r_pf C kc_10 clX7 (f := 4) (by decide) rfl q_dI rfl rfl tf_RX7_22 dX7_readSign_278 h (fun M7 h => ?_)
    refine r_drop [1] rfl ?_
    exact w_X7_readSign_J281 C hr hlk  M7  h
  refine r_tc C h (fun e h => ?_) (fun ne47 h => ?_)
  · refine r_tin C (tgt := 206) dX7_readSign_46 e (by decide) rfl (by decide) ?_
    refine r_aln C dX7_readSign_206 (k := 1) rfl ?_
    refine r_bi C dX7_readSign_207 (by decide) ?_
    refine r_pf C kc_10 clX7 (f := 4) (by decide) rfl q_dI rfl rfl tf_RX7_22 dX7_readSign_209 h (fun M8 h => ?_)
    refine r_goto C (tgt := 281) dX7_readSign_212 (by decide) ?_
    refine r_drop [1] rfl ?_
    exact w_X7_readSign_J281 C hr hlk  M8  h
  refine r_tc C h (fun e h => ?_) (fun ne48 h => ?_)
  · refine r_tin C (tgt := 275) dX7_readSign_46 e (by decide) rfl (by decide) ?_
    refine r_aln C dX7_readSign_275 (k := 1) rfl ?_
    refine r_bi C dX7_readSign_276 (by decide) ?_
    refine r_pf C kc_10 clX7 (f := 4) (by decide) rfl q_dI rfl rfl tf_RX7_22 dX7_readSign_278 h (fun M9 h => ?_)
    refine r_drop [1] rfl ?_
    exact w_X7_readSign_J281 C hr hlk  M9  h
  refine r_tc C h (fun e h => ?_) (fun ne49 h => ?_)
  · refine r_tin C (tgt := 275) dX7_readSign_46 e (by decide) rfl (by decide) ?_
    refine r_aln C dX7_readSign_275 (k := 1) rfl ?_
    refine r_bi C dX7_readSign_276 (by decide) ?_
    refine r_pf C kc_10 clX7 (f := 4) (by decide) rfl q_dI rfl rfl tf_RX7_22 dX7_readSign_278 h (fun M10 h => ?_)
    refine r_drop [1] rfl ?_
    exact w_X7_readSign_J281 C hr hlk  M10  h
  refine r_tc C h (fun e h => ?_) (fun ne50 h => ?_)
  · refine r_tin C (tgt := 275) dX7_readSign_46 e (by decide) rfl (by decide) ?_
    refine r_aln C dX7_readSign_275 (k := 1) rfl ?_
    refine r_bi C dX7_readSign_276 (by decide) ?_
    refine r_pf C kc_10 clX7 (f := 4) (by decide) rfl q_dI rfl rfl tf_RX7_22 dX7_readSign_278 h (fun M11 h => ?_)
    refine r_drop [1] rfl ?_
    exact w_X7_readSign_J281 C hr hlk  M11  h
  refine r_tc C h (fun e h => ?_) (fun ne51 h => ?_)
  · refine r_tin C (tgt := 275) dX7_readSign_46 e (by decide) rfl (by decide) ?_
    refine r_aln C dX7_readSign_275 (k := 1) rfl ?_
    refine r_bi C dX7_readSign_276 (by decide) ?_
    refine r_pf C kc_10 clX7 (f := 4) (by decide) rfl q_dI rfl rfl tf_RX7_22 dX7_readSign_278 h (fun M12 h => ?_)
    refine r_drop [1] rfl ?_
    exact w_X7_readSign_J281 C hr hlk  M12  h
  refine r_tc C h (fun e h => ?_) (fun ne52 h => ?_)
  · refine r_tin C (tgt := 275) dX7_readSign_46 e (by decide) rfl (by decide) ?_
    refine r_aln C dX7_readSign_275 (k := 1) rfl ?_
    refine r_bi C dX7_readSign_276 (by decide) ?_
    refine r_pf C kc_10 clX7 (f := 4) (by decide) rfl q_dI rfl rfl tf_RX7_22 dX7_readSign_278 h (fun M13 h => ?_)
    refine r_drop [1] rfl ?_
    exact w_X7_readSign_J281 C hr hlk  M13  h
  refine r_tc C h (fun e h => ?_) (fun ne53 h => ?_)
  · refine r_tin C (tgt := 275) dX7_readSign_46 e (by decide) rfl (by decide) ?_
    refine r_aln C dX7_readSign_275 (k := 1) rfl ?_
    refine r_bi C dX7_readSign_276 (by decide) ?_
    refine r_pf C kc_10 clX7 (f := 4) (by decide) rfl q_dI rfl rfl tf_RX7_22 dX7_readSign_278 h (fun M14 h => ?_)
    refine r_drop [1] rfl ?_
    exact w_X7_readSign_J281 C hr hlk  M14  h
  refine r_tc C h (fun e h => ?_) (fun ne54 h => ?_)
  · refine r_tin C (tgt := 275) dX7_readSign_46 e (by decide) rfl (by decide) ?_
    refine r_aln C dX7_readSign_275 (k := 1) rfl ?_
    refine r_bi C dX7_readSign_276 (by decide) ?_
    refine r_pf C kc_10 clX7 (f := 4) (by decide) rfl q_dI rfl rfl tf_RX7_22 dX7_readSign_278 h (fun M15 h => ?_)
    refine r_drop [1] rfl ?_
    exact w_X7_readSign_J281 C hr hlk  M15  h
  refine r_tc C h (fun e h => ?_) (fun ne55 h => ?_)
  · refine r_tin C (tgt := 275) dX7_readSign_46 e (by decide) rfl (by decide) ?_
    refine r_aln C dX7_readSign_275 (k := 1) rfl ?_
    refine r_bi C dX7_readSign_276 (by decide) ?_
    refine r_pf C kc_10 clX7 (f := 4) (by decide) rfl q_dI rfl rfl tf_RX7_22 dX7_readSign_278 h (fun M16 h => ?_)
    refine r_drop [1] rfl ?_
    exact w_X7_readSign_J281 C hr hlk  M16  h
  refine r_tc C h (fun e h => ?_) (fun ne56 h => ?_)
  · refine r_tin C (tgt := 275) dX7_readSign_46 e (by decide) rfl (by decide) ?_
    refine r_aln C dX7_readSign_275 (k := 1) rfl ?_
    refine r_bi C dX7_readSign_276 (by decide) ?_
    refine r_pf C kc_10 clX7 (f := 4) (by decide) rfl q_dI rfl rfl tf_RX7_22 dX7_readSign_278 h (fun M17 h => ?_)
    refine r_drop [1] rfl ?_
    exact w_X7_readSign_J281 C hr hlk  M17  h
  refine r_tc C h (fun e h => ?_) (fun ne57 h => ?_)
  · refine r_tin C (tgt := 275) dX7_readSign_46 e (by decide) rfl (by decide) ?_
    refine r_aln C dX7_readSign_275 (k := 1) rfl ?_
    refine r_bi C dX7_readSign_276 (by decide) ?_
    refine r_pf C kc_10 clX7 (f := 4) (by decide) rfl q_dI rfl rfl tf_RX7_22 dX7_readSign_278 h (fun M18 h => ?_)
    refine r_drop [1] rfl ?_
    exact w_X7_readSign_J281 C hr hlk  M18  h
  refine r_tc C h (fun e h => ?_) (fun ne58 h => ?_)
  · refine r_tin C (tgt := 275) dX7_readSign_46 e (by decide) rfl (by decide) ?_
    refine r_aln C dX7_readSign_275 (k := 1) rfl ?_
    refine r_bi C dX7_readSign_276 (by decide) ?_
    refine r_pf C kc_10 clX7 (f := 4) (by decide) rfl q_dI rfl rfl tf_RX7_22 dX7_readSign_278 h (fun M19 h => ?_)
    refine r_drop [1] rfl ?_
    exact w_X7_readSign_J281 C hr hlk  M19  h
  refine r_tc C h (fun e h => ?_) (fun ne59 h => ?_)
  · refine r_tin C (tgt := 152) dX7_readSign_46 e (by decide) rfl (by decide) ?_
    refine r_aln C dX7_readSign_152 (k := 1) rfl ?_
    refine r_bi C dX7_readSign_153 (by decide) ?_
    refine r_pf C kc_10 clX7 (f := 4) (by decide) rfl q_dI rfl rfl tf_RX7_22 dX7_readSign_155 h (fun M20 h => ?_)
    refine r_goto C (tgt := 281) dX7_readSign_158 (by decide) ?_
    refine r_drop [1] rfl ?_
    exact w_X7_readSign_J281 C hr hlk  M20  h
  refine r_tc C h (fun e h => ?_) (fun ne60 h => ?_)
  · refine r_tin C (tgt := 224) dX7_readSign_46 e (by decide) rfl (by decide) ?_
    refine r_aln C dX7_readSign_224 (k := 1) rfl ?_
    refine r_iln C dX7_readSign_225 (k := 0) rfl ?_
    refine r_bi C dX7_readSign_226 (by decide) ?_
    refine r_cne C (tgt := 236) dX7_readSign_228 (by decide) h (fun h => ?_) (fun h => ?_)
    · refine r_iln C dX7_readSign_236 (k := 0) rfl ?_
      refine r_bi C dX7_readSign_237 (by decide) ?_
      refine r_cne C (tgt := 247) dX7_readSign_239 (by decide) h (fun h => ?_) (fun h => ?_)
      · refine r_bi C dX7_readSign_247 (by decide) ?_
        refine r_drop [1] rfl ?_
        exact w_X7_readSign_J249 C hr hlk 29 M  h
      · refine r_bi C dX7_readSign_242 (by decide) ?_
        refine r_goto C (tgt := 249) dX7_readSign_244 (by decide) ?_
        refine r_drop [1] rfl ?_
        exact w_X7_readSign_J249 C hr hlk 32 M  h
    · refine r_bi C dX7_readSign_231 (by decide) ?_
      refine r_goto C (tgt := 249) dX7_readSign_233 (by decide) ?_
      refine r_drop [1] rfl ?_
      exact w_X7_readSign_J249 C hr hlk 30 M  h
  refine r_tc C h (fun e h => ?_) (fun ne61 h => ?_)
  · refine r_tin C (tgt := 215) dX7_readSign_46 e (by decide) rfl (by decide) ?_
    refine r_aln C dX7_readSign_215 (k := 1) rfl ?_
    refine r_bi C dX7_readSign_216 (by decide) ?_
    refine r_pf C kc_10 clX7 (f := 4) (by decide) rfl q_dI rfl rfl tf_RX7_22 dX7_readSign_218 h (fun M21 h => ?_)
    refine r_goto C (tgt := 281) dX7_readSign_221 (by decide) ?_
    refine r_drop [1] rfl ?_
    exact w_X7_readSign_J281 C hr hlk  M21  h
  refine r_tc C h (fun e h => ?_) (fun ne62 h => ?_)
  · refine r_tin C (tgt := 255) dX7_readSign_46 e (by decide) rfl (by decide) ?_
    refine r_aln C dX7_readSign_255 (k := 1) rfl ?_
    refine r_iln C dX7_readSign_256 (k := 0) rfl ?_
    refine r_bi C dX7_readSign_257 (by decide) ?_
    refine r_cne C (tgt := 267) dX7_readSign_259 (by decide) h (fun h => ?_) (fun h => ?_)
    · refine r_bi C dX7_readSign_267 (by decide) ?_
      refine r_drop [1] rfl ?_
      exact w_X7_readSign_J269 C hr hlk 34 M  h
    · refine r_bi C dX7_readSign_262 (by decide) ?_
      refine r_goto C (tgt := 269) dX7_readSign_264 (by decide) ?_
      refine r_drop [1] rfl ?_
      exact w_X7_readSign_J269 C hr hlk 33 M  h
  refine r_tout C (tgt := 275) dX7_readSign_46 (by omega) (by decide) ?_
  refine r_aln C dX7_readSign_275 (k := 1) rfl ?_
  refine r_bi C dX7_readSign_276 (by decide) ?_
  refine r_pf C kc_10 clX7 (f := 4) (by decide) rfl q_dI rfl rfl tf_RX7_22 dX7_readSign_278 h (fun M22 h => ?_)
  refine r_drop [1] rfl ?_
  exact w_X7_readSign_J281 C hr hlk  M22  h
def f_X7_readSign  (M : Mem) : Res :=
  q_gf M 10 3 fun v1 =>
  q_al M 32 700 v1 fun v2 =>
  q_gf M 10 3 fun v3 =>
  q_pf M 10 3 (v3 + 1) fun M4 =>
  q_gf M4 10 3 fun v5 =>
  q_gf M4 10 2 fun v6 =>
  if w32 v6 ≤ w32 v5 then (f_X7_readSign_J44 v2 0 M4)
  else (q_gf M4 10 3 fun v7 =>
  q_al M4 32 700 v7 fun v8 =>
  f_X7_readSign_J44 v2 v8 M4)
theorem c_X7_readSign {l : Launch} {D : va_G} {ad : Nat → Nat} {cA : Nat → ClassId} (hi : q_inj syC ad)  (M : Mem) (r0 : Int) (M0 : Mem) (h : f_X7_readSign  M = some (r0, M0)) : q_Met l syC D ad cA yX7_readSign cX7_readSign 3 none rm_X7_readSign [.ref (ad 10)] M none M0 := by
  refine q_met (L0 := [(0, .ref (ad 10))]) hi okC (by decide) (Nat.le_of_ble_eq_true rfl) rfl ?_
  intro p e s m args below meth c C hr hlk
  unfold f_X7_readSign at h
  refine r_aln C dX7_readSign_0 (k := 0) rfl ?_
  refine r_gs C kc_10 clX7 (f := 1) (by decide) rfl (t := 32) rfl tf_RX7_31 dX7_readSign_1 ?_
  refine r_aln C dX7_readSign_4 (k := 0) rfl ?_
  refine r_gf C kc_10 clX7 (f := 3) (by decide) rfl rfl rfl tf_RX7_19 dX7_readSign_5 h (fun v1 h => ?_)
  refine r_bald C kc_32 dX7_readSign_8 h (fun v2 h => ?_)
  refine r_isn C (L1 := [(1, .int (qI v2)), (0, .ref (ad 10))]) dX7_readSign_9 (by decide) rfl ?_
  refine r_aln C dX7_readSign_10 (k := 1) rfl ?_
  refine r_dup C rfl dX7_readSign_11 ?_
  refine r_gf C kc_10 clX7 (f := 3) (by decide) rfl rfl rfl tf_RX7_19 dX7_readSign_12 h (fun v3 h => ?_)
  refine r_ic C dX7_readSign_15 ?_
  refine r_iadd C dX7_readSign_16 ?_
  refine r_pf C kc_10 clX7 (f := 3) (by decide) rfl q_dI rfl rfl tf_RX7_19 dX7_readSign_17 h (fun M4 h => ?_)
  refine r_aln C dX7_readSign_20 (k := 1) rfl ?_
  refine r_gf C kc_10 clX7 (f := 3) (by decide) rfl rfl rfl tf_RX7_19 dX7_readSign_21 h (fun v5 h => ?_)
  refine r_aln C dX7_readSign_24 (k := 1) rfl ?_
  refine r_gf C kc_10 clX7 (f := 2) (by decide) rfl rfl rfl tf_RX7_15 dX7_readSign_25 h (fun v6 h => ?_)
  refine r_cge C (tgt := 43) dX7_readSign_28 (by decide) h (fun h => ?_) (fun h => ?_)
  · refine r_ic C dX7_readSign_43 ?_
    refine r_drop [1, 0] rfl ?_
    exact w_X7_readSign_J44 C hr hlk v2 0 M4  h
  · refine r_aln C dX7_readSign_31 (k := 1) rfl ?_
    refine r_gs C kc_10 clX7 (f := 1) (by decide) rfl (t := 32) rfl tf_RX7_31 dX7_readSign_32 ?_
    refine r_aln C dX7_readSign_35 (k := 1) rfl ?_
    refine r_gf C kc_10 clX7 (f := 3) (by decide) rfl rfl rfl tf_RX7_19 dX7_readSign_36 h (fun v7 h => ?_)
    refine r_bald C kc_32 dX7_readSign_39 h (fun v8 h => ?_)
    refine r_goto C (tgt := 44) dX7_readSign_40 (by decide) ?_
    refine r_drop [1, 0] rfl ?_
    exact w_X7_readSign_J44 C hr hlk v2 v8 M4  h
abbrev rm_X7_advance : Room := { frames := 2, cells := 0, slots := 0, locals := 45 }
theorem mw_X7_advance : q_mw RX7 yX7_advance cX7_advance 1 none 0 := ⟨⟨ti_X7_advance, tl_X7_advance, tn_RX7, td_X7_advance⟩, by decide +kernel⟩
def f_X7_advance_J155  (M : Mem) : Res :=
  q_call (f_X7_readSign  M) fun r1 M2 =>
  some (0, M2)
theorem w_X7_advance_J155 (C : Cx syC p m c cX7_advance 1 s args RX7 D ad cA) (hr : meth.sig.returnType = none) (hlk : meth.locks = false)  (M : Mem)  (h : f_X7_advance_J155  M = some (r0, M0)) : WM syC p l e rm_X7_advance s m args below meth c 1 D ad cA (MQ below (q_Post syC D ad cA none M0) args s 0 0 (q_A syC ad)) M 155 [(0, .ref (ad 10))] [] := by
  unfold f_X7_advance_J155 at h
  refine r_aln C dX7_advance_155 (k := 0) rfl ?_
  obtain ⟨r1, M2, hy, h⟩ := q_call_some h
  refine r_cvv C (st := []) (c_X7_readSign C.2.2.1 M r1 M2 hy) tm_RX7_61 mw_X7_readSign ⟨rfl, rfl⟩ ⟨Nat.le_of_ble_eq_true rfl, Nat.le_of_ble_eq_true rfl⟩ kc_10 clX7 rfl rfl (Nat.le_of_ble_eq_true rfl) dX7_advance_156 ?_
  exact r_vret C hr hlk dX7_advance_159 h
def f_X7_advance_J120  (M : Mem) : Res :=
  q_gf M 10 3 fun v1 =>
  q_al M 32 700 v1 fun v2 =>
  if w32 v2 < w32 48 then (f_X7_advance_J155  M)
  else (q_gf M 10 3 fun v3 =>
  q_al M 32 700 v3 fun v4 =>
  if w32 57 < w32 v4 then (f_X7_advance_J155  M)
  else (q_call (f_X7_readNumber  M) fun r5 M6 =>
  some (0, M6)))
theorem w_X7_advance_J120 (C : Cx syC p m c cX7_advance 1 s args RX7 D ad cA) (hr : meth.sig.returnType = none) (hlk : meth.locks = false)  (M : Mem)  (h : f_X7_advance_J120  M = some (r0, M0)) : WM syC p l e rm_X7_advance s m args below meth c 1 D ad cA (MQ below (q_Post syC D ad cA none M0) args s 0 0 (q_A syC ad)) M 120 [(0, .ref (ad 10))] [] := by
  unfold f_X7_advance_J120 at h
  refine r_aln C dX7_advance_120 (k := 0) rfl ?_
  refine r_gs C kc_10 clX7 (f := 1) (by decide) rfl (t := 32) rfl tf_RX7_31 dX7_advance_121 ?_
  refine r_aln C dX7_advance_124 (k := 0) rfl ?_
  refine r_gf C kc_10 clX7 (f := 3) (by decide) rfl rfl rfl tf_RX7_19 dX7_advance_125 h (fun v1 h => ?_)
  refine r_bald C kc_32 dX7_advance_128 h (fun v2 h => ?_)
  refine r_bi C dX7_advance_129 (by decide) ?_
  refine r_clt C (tgt := 155) dX7_advance_131 (by decide) h (fun h => ?_) (fun h => ?_)
  · exact w_X7_advance_J155 C hr hlk  M  h
  · refine r_aln C dX7_advance_134 (k := 0) rfl ?_
    refine r_gs C kc_10 clX7 (f := 1) (by decide) rfl (t := 32) rfl tf_RX7_31 dX7_advance_135 ?_
    refine r_aln C dX7_advance_138 (k := 0) rfl ?_
    refine r_gf C kc_10 clX7 (f := 3) (by decide) rfl rfl rfl tf_RX7_19 dX7_advance_139 h (fun v3 h => ?_)
    refine r_bald C kc_32 dX7_advance_142 h (fun v4 h => ?_)
    refine r_bi C dX7_advance_143 (by decide) ?_
    refine r_cgt C (tgt := 155) dX7_advance_145 (by decide) h (fun h => ?_) (fun h => ?_)
    · exact w_X7_advance_J155 C hr hlk  M  h
    · refine r_aln C dX7_advance_148 (k := 0) rfl ?_
      obtain ⟨r5, M6, hy, h⟩ := q_call_some h
      refine r_cvv C (st := []) (c_X7_readNumber C.2.2.1 M r5 M6 hy) tm_RX7_58 mw_X7_readNumber ⟨rfl, rfl⟩ ⟨Nat.le_of_ble_eq_true rfl, Nat.le_of_ble_eq_true rfl⟩ kc_10 clX7 rfl rfl (Nat.le_of_ble_eq_true rfl) dX7_advance_149 ?_
      refine r_goto C (tgt := 159) dX7_advance_152 (by decide) ?_
      exact r_vret C hr hlk dX7_advance_159 h
def f_X7_advance_J52  (M : Mem) : Res :=
  q_gf M 10 3 fun v1 =>
  q_pf M 10 5 v1 fun M2 =>
  q_pf M2 10 6 0 fun M3 =>
  q_gf M3 10 3 fun v4 =>
  q_gf M3 10 2 fun v5 =>
  if w32 v4 < w32 v5 then (q_gf M3 10 3 fun v6 =>
  q_al M3 32 700 v6 fun v7 =>
  if w32 v7 < w32 97 then (f_X7_advance_J120  M3)
  else (q_gf M3 10 3 fun v8 =>
  q_al M3 32 700 v8 fun v9 =>
  if w32 122 < w32 v9 then (f_X7_advance_J120  M3)
  else (q_call (f_X7_readWord  M3) fun r10 M11 =>
  some (0, M11))))
  else (q_pf M3 10 4 35 fun M12 =>
  some (0, M12))
theorem w_X7_advance_J52 (C : Cx syC p m c cX7_advance 1 s args RX7 D ad cA) (hr : meth.sig.returnType = none) (hlk : meth.locks = false)  (M : Mem)  (h : f_X7_advance_J52  M = some (r0, M0)) : WM syC p l e rm_X7_advance s m args below meth c 1 D ad cA (MQ below (q_Post syC D ad cA none M0) args s 0 0 (q_A syC ad)) M 52 [(0, .ref (ad 10))] [] := by
  unfold f_X7_advance_J52 at h
  refine r_aln C dX7_advance_52 (k := 0) rfl ?_
  refine r_aln C dX7_advance_53 (k := 0) rfl ?_
  refine r_gf C kc_10 clX7 (f := 3) (by decide) rfl rfl rfl tf_RX7_19 dX7_advance_54 h (fun v1 h => ?_)
  refine r_pf C kc_10 clX7 (f := 5) (by decide) rfl q_dI rfl rfl tf_RX7_25 dX7_advance_57 h (fun M2 h => ?_)
  refine r_aln C dX7_advance_60 (k := 0) rfl ?_
  refine r_ic C dX7_advance_61 ?_
  refine r_pf C kc_10 clX7 (f := 6) (by decide) rfl q_dI rfl rfl tf_RX7_28 dX7_advance_62 h (fun M3 h => ?_)
  refine r_aln C dX7_advance_65 (k := 0) rfl ?_
  refine r_gf C kc_10 clX7 (f := 3) (by decide) rfl rfl rfl tf_RX7_19 dX7_advance_66 h (fun v4 h => ?_)
  refine r_aln C dX7_advance_69 (k := 0) rfl ?_
  refine r_gf C kc_10 clX7 (f := 2) (by decide) rfl rfl rfl tf_RX7_15 dX7_advance_70 h (fun v5 h => ?_)
  refine r_clt C (tgt := 85) dX7_advance_73 (by decide) h (fun h => ?_) (fun h => ?_)
  · refine r_aln C dX7_advance_85 (k := 0) rfl ?_
    refine r_gs C kc_10 clX7 (f := 1) (by decide) rfl (t := 32) rfl tf_RX7_31 dX7_advance_86 ?_
    refine r_aln C dX7_advance_89 (k := 0) rfl ?_
    refine r_gf C kc_10 clX7 (f := 3) (by decide) rfl rfl rfl tf_RX7_19 dX7_advance_90 h (fun v6 h => ?_)
    refine r_bald C kc_32 dX7_advance_93 h (fun v7 h => ?_)
    refine r_bi C dX7_advance_94 (by decide) ?_
    refine r_clt C (tgt := 120) dX7_advance_96 (by decide) h (fun h => ?_) (fun h => ?_)
    · exact w_X7_advance_J120 C hr hlk  M3  h
    · refine r_aln C dX7_advance_99 (k := 0) rfl ?_
      refine r_gs C kc_10 clX7 (f := 1) (by decide) rfl (t := 32) rfl tf_RX7_31 dX7_advance_100 ?_
      refine r_aln C dX7_advance_103 (k := 0) rfl ?_
      refine r_gf C kc_10 clX7 (f := 3) (by decide) rfl rfl rfl tf_RX7_19 dX7_advance_104 h (fun v8 h => ?_)
      refine r_bald C kc_32 dX7_advance_107 h (fun v9 h => ?_)
      refine r_bi C dX7_advance_108 (by decide) ?_
      refine r_cgt C (tgt := 120) dX7_advance_110 (by decide) h (fun h => ?_) (fun h => ?_)
      · exact w_X7_advance_J120 C hr hlk  M3  h
      · refine r_aln C dX7_advance_113 (k := 0) rfl ?_
        obtain ⟨r10, M11, hy, h⟩ := q_call_some h
        refine r_cvv C (st := []) (c_X7_readWord C.2.2.1 M3 r10 M11 hy) tm_RX7_55 mw_X7_readWord ⟨rfl, rfl⟩ ⟨Nat.le_of_ble_eq_true rfl, Nat.le_of_ble_eq_true rfl⟩ kc_10 clX7 rfl rfl (Nat.le_of_ble_eq_true rfl) dX7_advance_114 ?_
        refine r_goto C (tgt := 159) dX7_advance_117 (by decide) ?_
        exact r_vret C hr hlk dX7_advance_159 h
  · refine r_aln C dX7_advance_76 (k := 0) rfl ?_
    refine r_bi C dX7_advance_77 (by decide) ?_
    refine r_pf C kc_10 clX7 (f := 4) (by decide) rfl q_dI rfl rfl tf_RX7_22 dX7_advance_79 h (fun M12 h => ?_)
    refine r_goto C (tgt := 159) dX7_advance_82 (by decide) ?_
    exact r_vret C hr hlk dX7_advance_159 h
def f_X7_advance_J39 (g0 : Mem → Res) (M : Mem) : Res :=
  q_gf M 10 3 fun v1 =>
  q_pf M 10 3 (v1 + 1) fun M2 =>
  g0  M2
theorem w_X7_advance_J39 (C : Cx syC p m c cX7_advance 1 s args RX7 D ad cA) (hr : meth.sig.returnType = none) (hlk : meth.locks = false) (g0 : Mem → Res) (M : Mem) (ih0 : ∀  (M : Mem), g0  M = some (r0, M0) → WM syC p l e rm_X7_advance s m args below meth c 1 D ad cA (MQ below (q_Post syC D ad cA none M0) args s 0 0 (q_A syC ad)) M 0 [(0, .ref (ad 10))] []) (h : f_X7_advance_J39 g0 M = some (r0, M0)) : WM syC p l e rm_X7_advance s m args below meth c 1 D ad cA (MQ below (q_Post syC D ad cA none M0) args s 0 0 (q_A syC ad)) M 39 [(0, .ref (ad 10))] [] := by
  unfold f_X7_advance_J39 at h
  refine r_aln C dX7_advance_39 (k := 0) rfl ?_
  refine r_dup C rfl dX7_advance_40 ?_
  refine r_gf C kc_10 clX7 (f := 3) (by decide) rfl rfl rfl tf_RX7_19 dX7_advance_41 h (fun v1 h => ?_)
  refine r_ic C dX7_advance_44 ?_
  refine r_iadd C dX7_advance_45 ?_
  refine r_pf C kc_10 clX7 (f := 3) (by decide) rfl q_dI rfl rfl tf_RX7_19 dX7_advance_46 h (fun M2 h => ?_)
  refine r_goto C (tgt := 0) dX7_advance_49 (by decide) ?_
  exact ih0  M2 h
def f_X7_advance_B0   (M : Mem) (g0 : Mem → Res) : Res :=
  q_gf M 10 3 fun v1 =>
  q_gf M 10 2 fun v2 =>
  if w32 v2 ≤ w32 v1 then (f_X7_advance_J52  M)
  else (q_gf M 10 3 fun v3 =>
  q_al M 32 700 v3 fun v4 =>
  if w32 v4 = w32 32 then (f_X7_advance_J39 g0 M)
  else (q_gf M 10 3 fun v5 =>
  q_al M 32 700 v5 fun v6 =>
  if ¬ w32 v6 = w32 10 then (f_X7_advance_J52  M)
  else (f_X7_advance_J39 g0 M)))
def f_X7_advance_L0  (n : Nat)  (M : Mem) : Res := qlm0 (fun  M g0 => f_X7_advance_B0   M g0) n  M
theorem w_X7_advance_B0 (C : Cx syC p m c cX7_advance 1 s args RX7 D ad cA) (hr : meth.sig.returnType = none) (hlk : meth.locks = false)   (M : Mem) (g0 : Mem → Res)  (ih0 : ∀  (M : Mem), g0  M = some (r0, M0) → WM syC p l e rm_X7_advance s m args below meth c 1 D ad cA (MQ below (q_Post syC D ad cA none M0) args s 0 0 (q_A syC ad)) M 0 [(0, .ref (ad 10))] []) (h : f_X7_advance_B0   M g0 = some (r0, M0)) : WM syC p l e rm_X7_advance s m args below meth c 1 D ad cA (MQ below (q_Post syC D ad cA none M0) args s 0 0 (q_A syC ad)) M 0 [(0, .ref (ad 10))] [] := by
  unfold f_X7_advance_B0 at h
  refine r_aln C dX7_advance_0 (k := 0) rfl ?_
  refine r_gf C kc_10 clX7 (f := 3) (by decide) rfl rfl rfl tf_RX7_19 dX7_advance_1 h (fun v1 h => ?_)
  refine r_aln C dX7_advance_4 (k := 0) rfl ?_
  refine r_gf C kc_10 clX7 (f := 2) (by decide) rfl rfl rfl tf_RX7_15 dX7_advance_5 h (fun v2 h => ?_)
  refine r_cge C (tgt := 52) dX7_advance_8 (by decide) h (fun h => ?_) (fun h => ?_)
  · exact w_X7_advance_J52 C hr hlk  M  h
  · refine r_aln C dX7_advance_11 (k := 0) rfl ?_
    refine r_gs C kc_10 clX7 (f := 1) (by decide) rfl (t := 32) rfl tf_RX7_31 dX7_advance_12 ?_
    refine r_aln C dX7_advance_15 (k := 0) rfl ?_
    refine r_gf C kc_10 clX7 (f := 3) (by decide) rfl rfl rfl tf_RX7_19 dX7_advance_16 h (fun v3 h => ?_)
    refine r_bald C kc_32 dX7_advance_19 h (fun v4 h => ?_)
    refine r_bi C dX7_advance_20 (by decide) ?_
    refine r_ceq C (tgt := 39) dX7_advance_22 (by decide) h (fun h => ?_) (fun h => ?_)
    · exact w_X7_advance_J39 C hr hlk g0 M ih0 h
    · refine r_aln C dX7_advance_25 (k := 0) rfl ?_
      refine r_gs C kc_10 clX7 (f := 1) (by decide) rfl (t := 32) rfl tf_RX7_31 dX7_advance_26 ?_
      refine r_aln C dX7_advance_29 (k := 0) rfl ?_
      refine r_gf C kc_10 clX7 (f := 3) (by decide) rfl rfl rfl tf_RX7_19 dX7_advance_30 h (fun v5 h => ?_)
      refine r_bald C kc_32 dX7_advance_33 h (fun v6 h => ?_)
      refine r_bi C dX7_advance_34 (by decide) ?_
      refine r_cne C (tgt := 52) dX7_advance_36 (by decide) h (fun h => ?_) (fun h => ?_)
      · exact w_X7_advance_J52 C hr hlk  M  h
      · exact w_X7_advance_J39 C hr hlk g0 M ih0 h
theorem w_X7_advance_L0 (C : Cx syC p m c cX7_advance 1 s args RX7 D ad cA) (hr : meth.sig.returnType = none) (hlk : meth.locks = false)    (n : Nat)  (M : Mem) (h : f_X7_advance_L0  n  M = some (r0, M0)) : WM syC p l e rm_X7_advance s m args below meth c 1 D ad cA (MQ below (q_Post syC D ad cA none M0) args s 0 0 (q_A syC ad)) M 0 [(0, .ref (ad 10))] [] :=
  qlm0_r (Wp := fun  M => WM syC p l e rm_X7_advance s m args below meth c 1 D ad cA (MQ below (q_Post syC D ad cA none M0) args s 0 0 (q_A syC ad)) M 0 [(0, .ref (ad 10))] []) (fun  M g0 ih0 h => w_X7_advance_B0 C hr hlk   M g0  ih0 h) n  M h
def f_X7_advance  (M : Mem) : Res :=
  f_X7_advance_L0  q_N  M
theorem c_X7_advance {l : Launch} {D : va_G} {ad : Nat → Nat} {cA : Nat → ClassId} (hi : q_inj syC ad)  (M : Mem) (r0 : Int) (M0 : Mem) (h : f_X7_advance  M = some (r0, M0)) : q_Met l syC D ad cA yX7_advance cX7_advance 1 none rm_X7_advance [.ref (ad 10)] M none M0 := by
  refine q_met (L0 := [(0, .ref (ad 10))]) hi okC (by decide) (Nat.le_of_ble_eq_true rfl) rfl ?_
  intro p e s m args below meth c C hr hlk
  unfold f_X7_advance at h
  exact w_X7_advance_L0 C hr hlk   q_N  M h
end P12a
