section P11
variable {p : Program} {l : Launch} {e : Env} {s : State} {m : MethodId} {args : Array Value} {below : List Frame} {meth : Method} {c : Code} {D : va_G} {ad : Nat → Nat} {cA : Nat → ClassId} {r0 : Int} {M0 : Mem}
abbrev rm_X6_placeOf : Room := { frames := 0, cells := 0, slots := 0, locals := 0 }
theorem mw_X6_placeOf : q_mw RX6 yX6_placeOf cX6_placeOf 3 (some .int) 1 := ⟨⟨ti_X6_placeOf, tl_X6_placeOf, tn_RX6, td_X6_placeOf⟩, by decide +kernel⟩
def f_X6_placeOf_B2 (k : Nat) (x1 : Int) (M : Mem) (x2 : Int) (g2 : Int → Option Int) : Option Int :=
  q_gf M k 9 fun v1 =>
  if w32 v1 ≤ w32 x2 then (some (-2))
  else (if w32 8 ≤ w32 x2 then (some (-2))
  else (q_al M (32 * (k + 1) + 8) 8 x2 fun v2 =>
  if ¬ w32 v2 = w32 x1 then (g2 (x2 + 1))
  else (some x2)))
def f_X6_placeOf_L2 (k : Nat) (x1 : Int) (M : Mem) (n : Nat) (x2 : Int) : Option Int := qlp1 (fun x2 g2 => f_X6_placeOf_B2 k x1 M x2 g2) n x2
theorem w_X6_placeOf_B2 (C : Cx syC p m c cX6_placeOf 3 s args RX6 D ad cA) (hr : meth.sig.returnType = (some .int)) (hlk : meth.locks = false) (k : Nat) (hk : isS k) (x1 : Int) (x2 : Int) (M : Mem) (g2 : Int → Option Int)  (ih2 : ∀ (ux2 : Int) , g2 ux2  = some r0 → WM syC p l e rm_X6_placeOf s m args below meth c 3 D ad cA (MQ below (q_Post syC D ad cA (some (.int (qI r0))) M) args s 0 0 (q_A syC ad)) M 2 [(0, .ref (ad k)), (1, .int (qI x1)), (2, .int (qI ux2))] []) (h : f_X6_placeOf_B2 k x1 M x2 g2 = some r0) : WM syC p l e rm_X6_placeOf s m args below meth c 3 D ad cA (MQ below (q_Post syC D ad cA (some (.int (qI r0))) M) args s 0 0 (q_A syC ad)) M 2 [(0, .ref (ad k)), (1, .int (qI x1)), (2, .int (qI x2))] [] := by
  unfold f_X6_placeOf_B2 at h
  refine r_iln C dX6_placeOf_2 (k := 2) rfl ?_
  refine r_aln C dX6_placeOf_3 (k := 0) rfl ?_
  refine r_gf C (kS hk) clX6 (f := 9) (by decide) rfl rfl rfl tf_RX6_40 dX6_placeOf_4 h (fun v1 h => ?_)
  refine r_cge C (tgt := 34) dX6_placeOf_7 (by decide) h (fun h => ?_) (fun h => ?_)
  · refine r_bi C dX6_placeOf_34 (by decide) ?_
    exact r_iretp C hr hlk dX6_placeOf_36 h
  · refine r_iln C dX6_placeOf_10 (k := 2) rfl ?_
    refine r_bi C dX6_placeOf_11 (by decide) ?_
    refine r_cge C (tgt := 34) dX6_placeOf_13 (by decide) h (fun h => ?_) (fun h => ?_)
    · refine r_bi C dX6_placeOf_34 (by decide) ?_
      exact r_iretp C hr hlk dX6_placeOf_36 h
    · refine r_aln C dX6_placeOf_16 (k := 0) rfl ?_
      refine r_gs C (kS hk) clX6 (f := 8) (by decide) rfl (t := (32 * (k + 1) + 8)) rfl tf_RX6_37 dX6_placeOf_17 ?_
      refine r_iln C dX6_placeOf_20 (k := 2) rfl ?_
      refine r_iald C (kS_8 hk) dX6_placeOf_21 h (fun v2 h => ?_)
      refine r_iln C dX6_placeOf_22 (k := 1) rfl ?_
      refine r_cne C (tgt := 28) dX6_placeOf_23 (by decide) h (fun h => ?_) (fun h => ?_)
      · refine r_inc C (L1 := [(2, .int (qI (x2 + 1))), (0, .ref (ad k)), (1, .int (qI x1))]) dX6_placeOf_28 (k := 2) rfl (by decide) rfl ?_
        refine r_goto C (tgt := 2) dX6_placeOf_31 (by decide) ?_
        refine r_drop [1, 2, 0] rfl ?_
        exact ih2 (x2 + 1)  h
      · refine r_iln C dX6_placeOf_26 (k := 2) rfl ?_
        exact r_iretp C hr hlk dX6_placeOf_27 h
theorem w_X6_placeOf_L2 (C : Cx syC p m c cX6_placeOf 3 s args RX6 D ad cA) (hr : meth.sig.returnType = (some .int)) (hlk : meth.locks = false) (k : Nat) (hk : isS k) (x1 : Int) (M : Mem)  (n : Nat) (x2 : Int) (h : f_X6_placeOf_L2 k x1 M n x2 = some r0) : WM syC p l e rm_X6_placeOf s m args below meth c 3 D ad cA (MQ below (q_Post syC D ad cA (some (.int (qI r0))) M) args s 0 0 (q_A syC ad)) M 2 [(0, .ref (ad k)), (1, .int (qI x1)), (2, .int (qI x2))] [] :=
  qlp1_r (Wp := fun ux2 => WM syC p l e rm_X6_placeOf s m args below meth c 3 D ad cA (MQ below (q_Post syC D ad cA (some (.int (qI r0))) M) args s 0 0 (q_A syC ad)) M 2 [(0, .ref (ad k)), (1, .int (qI x1)), (2, .int (qI ux2))] []) (fun ux2 g2 ih2 h => w_X6_placeOf_B2 C hr hlk k hk x1 ux2 M g2  ih2 h) n x2 h
def f_X6_placeOf (k : Nat) (a0 : Int) (M : Mem) : Option Int :=
  f_X6_placeOf_L2 k a0 M q_N 0
theorem c_X6_placeOf {l : Launch} {D : va_G} {ad : Nat → Nat} {cA : Nat → ClassId} (hi : q_inj syC ad) (k : Nat) (hk : isS k) (a0 : Int) (M : Mem) (r0 : Int) (h : f_X6_placeOf k a0 M = some r0) : q_Met l syC D ad cA yX6_placeOf cX6_placeOf 3 (some .int) rm_X6_placeOf [.ref (ad k), .int (qI a0)] M (some (.int (qI r0))) M := by
  refine q_met (L0 := [(0, .ref (ad k)), (1, .int (qI a0))]) hi okC (by decide) (Nat.le_of_ble_eq_true rfl) rfl ?_
  intro p e s m args below meth c C hr hlk
  unfold f_X6_placeOf at h
  refine r_ic C dX6_placeOf_0 ?_
  refine r_isn C (L1 := [(2, .int (qI 0)), (0, .ref (ad k)), (1, .int (qI a0))]) dX6_placeOf_1 (by decide) rfl ?_
  refine r_drop [1, 2, 0] rfl ?_
  exact w_X6_placeOf_L2 C hr hlk k hk a0 M  q_N 0 h
abbrev rm_X6_takeOut : Room := { frames := 0, cells := 0, slots := 0, locals := 0 }
theorem mw_X6_takeOut : q_mw RX6 yX6_takeOut cX6_takeOut 3 none 1 := ⟨⟨ti_X6_takeOut, tl_X6_takeOut, tn_RX6, td_X6_takeOut⟩, by decide +kernel⟩
def f_X6_takeOut_B25 (k : Nat) (x2 : Int) (M : Mem) (g25 : Int → Mem → Res) : Res :=
  q_gf M k 9 fun v1 =>
  if w32 v1 ≤ w32 x2 then (some (0, M))
  else (if w32 7 ≤ w32 x2 then (some (0, M))
  else (q_al M (32 * (k + 1) + 8) 8 (x2 + 1) fun v2 =>
  q_as M (32 * (k + 1) + 8) 8 x2 v2 fun M3 =>
  g25 (x2 + 1) M3))
def f_X6_takeOut_L25 (k : Nat) (n : Nat) (x2 : Int) (M : Mem) : Res := qlm1 (fun x2 M g25 => f_X6_takeOut_B25 k x2 M g25) n x2 M
theorem w_X6_takeOut_B25 (C : Cx syC p m c cX6_takeOut 3 s args RX6 D ad cA) (hr : meth.sig.returnType = none) (hlk : meth.locks = false) (k : Nat) (hk : isS k) (x2 : Int) (M : Mem) (g25 : Int → Mem → Res)  (ih25 : ∀ (ux2 : Int) (M : Mem), g25 ux2 M = some (r0, M0) → WM syC p l e rm_X6_takeOut s m args below meth c 3 D ad cA (MQ below (q_Post syC D ad cA none M0) args s 0 0 (q_A syC ad)) M 25 [(0, .ref (ad k)), (2, .int (qI ux2))] []) (h : f_X6_takeOut_B25 k x2 M g25 = some (r0, M0)) : WM syC p l e rm_X6_takeOut s m args below meth c 3 D ad cA (MQ below (q_Post syC D ad cA none M0) args s 0 0 (q_A syC ad)) M 25 [(0, .ref (ad k)), (2, .int (qI x2))] [] := by
  unfold f_X6_takeOut_B25 at h
  refine r_iln C dX6_takeOut_25 (k := 1) rfl ?_
  refine r_aln C dX6_takeOut_26 (k := 0) rfl ?_
  refine r_gf C (kS hk) clX6 (f := 9) (by decide) rfl rfl rfl tf_RX6_40 dX6_takeOut_27 h (fun v1 h => ?_)
  refine r_cge C (tgt := 59) dX6_takeOut_30 (by decide) h (fun h => ?_) (fun h => ?_)
  · exact r_vret C hr hlk dX6_takeOut_59 h
  · refine r_iln C dX6_takeOut_33 (k := 1) rfl ?_
    refine r_bi C dX6_takeOut_34 (by decide) ?_
    refine r_cge C (tgt := 59) dX6_takeOut_36 (by decide) h (fun h => ?_) (fun h => ?_)
    · exact r_vret C hr hlk dX6_takeOut_59 h
    · refine r_aln C dX6_takeOut_39 (k := 0) rfl ?_
      refine r_gs C (kS hk) clX6 (f := 8) (by decide) rfl (t := (32 * (k + 1) + 8)) rfl tf_RX6_37 dX6_takeOut_40 ?_
      refine r_iln C dX6_takeOut_43 (k := 1) rfl ?_
      refine r_aln C dX6_takeOut_44 (k := 0) rfl ?_
      refine r_gs C (kS hk) clX6 (f := 8) (by decide) rfl (t := (32 * (k + 1) + 8)) rfl tf_RX6_37 dX6_takeOut_45 ?_
      refine r_iln C dX6_takeOut_48 (k := 1) rfl ?_
      refine r_ic C dX6_takeOut_49 ?_
      refine r_iadd C dX6_takeOut_50 ?_
      refine r_iald C (kS_8 hk) dX6_takeOut_51 h (fun v2 h => ?_)
      refine r_iast C (kS_8 hk) dX6_takeOut_52 h (fun M3 h => ?_)
      refine r_inc C (L1 := [(2, .int (qI (x2 + 1))), (0, .ref (ad k))]) dX6_takeOut_53 (k := 1) rfl (by decide) rfl ?_
      refine r_goto C (tgt := 25) dX6_takeOut_56 (by decide) ?_
      refine r_drop [1, 0] rfl ?_
      exact ih25 (x2 + 1) M3 h
theorem w_X6_takeOut_L25 (C : Cx syC p m c cX6_takeOut 3 s args RX6 D ad cA) (hr : meth.sig.returnType = none) (hlk : meth.locks = false) (k : Nat) (hk : isS k)   (n : Nat) (x2 : Int) (M : Mem) (h : f_X6_takeOut_L25 k n x2 M = some (r0, M0)) : WM syC p l e rm_X6_takeOut s m args below meth c 3 D ad cA (MQ below (q_Post syC D ad cA none M0) args s 0 0 (q_A syC ad)) M 25 [(0, .ref (ad k)), (2, .int (qI x2))] [] :=
  qlm1_r (Wp := fun ux2 M => WM syC p l e rm_X6_takeOut s m args below meth c 3 D ad cA (MQ below (q_Post syC D ad cA none M0) args s 0 0 (q_A syC ad)) M 25 [(0, .ref (ad k)), (2, .int (qI ux2))] []) (fun ux2 M g25 ih25 h => w_X6_takeOut_B25 C hr hlk k hk ux2 M g25  ih25 h) n x2 M h
def f_X6_takeOut (k : Nat) (a0 : Int) (M : Mem) : Res :=
  if w32 a0 < 0 then (some (0, M))
  else (q_gf M k 9 fun v1 =>
  if w32 a0 < w32 v1 then (q_gf M k 9 fun v2 =>
  q_pf M k 9 (v2 - 1) fun M3 =>
  f_X6_takeOut_L25 k q_N a0 M3)
  else (some (0, M)))
theorem c_X6_takeOut {l : Launch} {D : va_G} {ad : Nat → Nat} {cA : Nat → ClassId} (hi : q_inj syC ad) (k : Nat) (hk : isS k) (a0 : Int) (M : Mem) (r0 : Int) (M0 : Mem) (h : f_X6_takeOut k a0 M = some (r0, M0)) : q_Met l syC D ad cA yX6_takeOut cX6_takeOut 3 none rm_X6_takeOut [.ref (ad k), .int (qI a0)] M none M0 := by
  refine q_met (L0 := [(0, .ref (ad k)), (1, .int (qI a0))]) hi okC (by decide) (Nat.le_of_ble_eq_true rfl) rfl ?_
  intro p e s m args below meth c C hr hlk
  unfold f_X6_takeOut at h
  refine r_iln C dX6_takeOut_0 (k := 1) rfl ?_
  refine r_zlt C (tgt := 12) dX6_takeOut_1 (by decide) h (fun h => ?_) (fun h => ?_)
  · exact r_vret C hr hlk dX6_takeOut_12 h
  · refine r_iln C dX6_takeOut_4 (k := 1) rfl ?_
    refine r_aln C dX6_takeOut_5 (k := 0) rfl ?_
    refine r_gf C (kS hk) clX6 (f := 9) (by decide) rfl rfl rfl tf_RX6_40 dX6_takeOut_6 h (fun v1 h => ?_)
    refine r_clt C (tgt := 13) dX6_takeOut_9 (by decide) h (fun h => ?_) (fun h => ?_)
    · refine r_aln C dX6_takeOut_13 (k := 0) rfl ?_
      refine r_dup C rfl dX6_takeOut_14 ?_
      refine r_gf C (kS hk) clX6 (f := 9) (by decide) rfl rfl rfl tf_RX6_40 dX6_takeOut_15 h (fun v2 h => ?_)
      refine r_ic C dX6_takeOut_18 ?_
      refine r_isub C dX6_takeOut_19 ?_
      refine r_pf C (kS hk) clX6 (f := 9) (by decide) rfl q_dI rfl rfl tf_RX6_40 dX6_takeOut_20 h (fun M3 h => ?_)
      refine r_iln C dX6_takeOut_23 (k := 1) rfl ?_
      refine r_isn C (L1 := [(2, .int (qI a0)), (0, .ref (ad k)), (1, .int (qI a0))]) dX6_takeOut_24 (by decide) rfl ?_
      refine r_drop [1, 0] rfl ?_
      exact w_X6_takeOut_L25 C hr hlk k hk  q_N a0 M3 h
    · exact r_vret C hr hlk dX6_takeOut_12 h
abbrev rm_X6_putIn : Room := { frames := 0, cells := 0, slots := 0, locals := 0 }
theorem mw_X6_putIn : q_mw RX6 yX6_putIn cX6_putIn 4 none 2 := ⟨⟨ti_X6_putIn, tl_X6_putIn, tn_RX6, td_X6_putIn⟩, by decide +kernel⟩
def f_X6_putIn_B27 (k : Nat) (x1 : Int) (x2 : Int) (x3 : Int) (M : Mem) (g27 : Int → Mem → Res) : Res :=
  if w32 x3 ≤ w32 x2 then (q_as M (32 * (k + 1) + 8) 8 x2 x1 fun M1 =>
  q_as M1 (32 * (k + 1) + 2) 8 x1 1 fun M2 =>
  q_gf M2 k 9 fun v3 =>
  q_pf M2 k 9 (v3 + 1) fun M4 =>
  some (0, M4))
  else (q_al M (32 * (k + 1) + 8) 8 (x3 - 1) fun v5 =>
  q_as M (32 * (k + 1) + 8) 8 x3 v5 fun M6 =>
  g27 (x3 + (-1)) M6)
def f_X6_putIn_L27 (k : Nat) (x1 : Int) (x2 : Int) (n : Nat) (x3 : Int) (M : Mem) : Res := qlm1 (fun x3 M g27 => f_X6_putIn_B27 k x1 x2 x3 M g27) n x3 M
theorem w_X6_putIn_B27 (C : Cx syC p m c cX6_putIn 4 s args RX6 D ad cA) (hr : meth.sig.returnType = none) (hlk : meth.locks = false) (k : Nat) (hk : isS k) (x1 : Int) (x2 : Int) (x3 : Int) (M : Mem) (g27 : Int → Mem → Res)  (ih27 : ∀ (ux3 : Int) (M : Mem), g27 ux3 M = some (r0, M0) → WM syC p l e rm_X6_putIn s m args below meth c 4 D ad cA (MQ below (q_Post syC D ad cA none M0) args s 0 0 (q_A syC ad)) M 27 [(0, .ref (ad k)), (1, .int (qI x1)), (2, .int (qI x2)), (3, .int (qI ux3))] []) (h : f_X6_putIn_B27 k x1 x2 x3 M g27 = some (r0, M0)) : WM syC p l e rm_X6_putIn s m args below meth c 4 D ad cA (MQ below (q_Post syC D ad cA none M0) args s 0 0 (q_A syC ad)) M 27 [(0, .ref (ad k)), (1, .int (qI x1)), (2, .int (qI x2)), (3, .int (qI x3))] [] := by
  unfold f_X6_putIn_B27 at h
  refine r_iln C dX6_putIn_27 (k := 3) rfl ?_
  refine r_iln C dX6_putIn_28 (k := 2) rfl ?_
  refine r_cle C (tgt := 52) dX6_putIn_29 (by decide) h (fun h => ?_) (fun h => ?_)
  · refine r_aln C dX6_putIn_52 (k := 0) rfl ?_
    refine r_gs C (kS hk) clX6 (f := 8) (by decide) rfl (t := (32 * (k + 1) + 8)) rfl tf_RX6_37 dX6_putIn_53 ?_
    refine r_iln C dX6_putIn_56 (k := 2) rfl ?_
    refine r_iln C dX6_putIn_57 (k := 1) rfl ?_
    refine r_iast C (kS_8 hk) dX6_putIn_58 h (fun M1 h => ?_)
    refine r_aln C dX6_putIn_59 (k := 0) rfl ?_
    refine r_gs C (kS hk) clX6 (f := 2) (by decide) rfl (t := (32 * (k + 1) + 2)) rfl tf_RX6_18 dX6_putIn_60 ?_
    refine r_iln C dX6_putIn_63 (k := 1) rfl ?_
    refine r_ic C dX6_putIn_64 ?_
    refine r_iast C (kS_2 hk) dX6_putIn_65 h (fun M2 h => ?_)
    refine r_aln C dX6_putIn_66 (k := 0) rfl ?_
    refine r_dup C rfl dX6_putIn_67 ?_
    refine r_gf C (kS hk) clX6 (f := 9) (by decide) rfl rfl rfl tf_RX6_40 dX6_putIn_68 h (fun v3 h => ?_)
    refine r_ic C dX6_putIn_71 ?_
    refine r_iadd C dX6_putIn_72 ?_
    refine r_pf C (kS hk) clX6 (f := 9) (by decide) rfl q_dI rfl rfl tf_RX6_40 dX6_putIn_73 h (fun M4 h => ?_)
    exact r_vret C hr hlk dX6_putIn_76 h
  · refine r_aln C dX6_putIn_32 (k := 0) rfl ?_
    refine r_gs C (kS hk) clX6 (f := 8) (by decide) rfl (t := (32 * (k + 1) + 8)) rfl tf_RX6_37 dX6_putIn_33 ?_
    refine r_iln C dX6_putIn_36 (k := 3) rfl ?_
    refine r_aln C dX6_putIn_37 (k := 0) rfl ?_
    refine r_gs C (kS hk) clX6 (f := 8) (by decide) rfl (t := (32 * (k + 1) + 8)) rfl tf_RX6_37 dX6_putIn_38 ?_
    refine r_iln C dX6_putIn_41 (k := 3) rfl ?_
    refine r_ic C dX6_putIn_42 ?_
    refine r_isub C dX6_putIn_43 ?_
    refine r_iald C (kS_8 hk) dX6_putIn_44 h (fun v5 h => ?_)
    refine r_iast C (kS_8 hk) dX6_putIn_45 h (fun M6 h => ?_)
    refine r_inc C (L1 := [(3, .int (qI (x3 + (-1)))), (0, .ref (ad k)), (1, .int (qI x1)), (2, .int (qI x2))]) dX6_putIn_46 (k := 3) rfl (by decide) rfl ?_
    refine r_goto C (tgt := 27) dX6_putIn_49 (by decide) ?_
    refine r_drop [1, 2, 3, 0] rfl ?_
    exact ih27 (x3 + (-1)) M6 h
theorem w_X6_putIn_L27 (C : Cx syC p m c cX6_putIn 4 s args RX6 D ad cA) (hr : meth.sig.returnType = none) (hlk : meth.locks = false) (k : Nat) (hk : isS k) (x1 : Int) (x2 : Int)  (n : Nat) (x3 : Int) (M : Mem) (h : f_X6_putIn_L27 k x1 x2 n x3 M = some (r0, M0)) : WM syC p l e rm_X6_putIn s m args below meth c 4 D ad cA (MQ below (q_Post syC D ad cA none M0) args s 0 0 (q_A syC ad)) M 27 [(0, .ref (ad k)), (1, .int (qI x1)), (2, .int (qI x2)), (3, .int (qI x3))] [] :=
  qlm1_r (Wp := fun ux3 M => WM syC p l e rm_X6_putIn s m args below meth c 4 D ad cA (MQ below (q_Post syC D ad cA none M0) args s 0 0 (q_A syC ad)) M 27 [(0, .ref (ad k)), (1, .int (qI x1)), (2, .int (qI x2)), (3, .int (qI ux3))] []) (fun ux3 M g27 ih27 h => w_X6_putIn_B27 C hr hlk k hk x1 x2 ux3 M g27  ih27 h) n x3 M h
def f_X6_putIn (k : Nat) (a0 : Int) (a1 : Int) (M : Mem) : Res :=
  if w32 a1 < 0 then (some (0, M))
  else (q_gf M k 9 fun v1 =>
  if w32 v1 < w32 a1 then (some (0, M))
  else (q_gf M k 9 fun v2 =>
  if w32 v2 < w32 8 then (q_gf M k 9 fun v3 =>
  f_X6_putIn_L27 k a0 a1 q_N v3 M)
  else (some (0, M))))
theorem c_X6_putIn {l : Launch} {D : va_G} {ad : Nat → Nat} {cA : Nat → ClassId} (hi : q_inj syC ad) (k : Nat) (hk : isS k) (a0 : Int) (a1 : Int) (M : Mem) (r0 : Int) (M0 : Mem) (h : f_X6_putIn k a0 a1 M = some (r0, M0)) : q_Met l syC D ad cA yX6_putIn cX6_putIn 4 none rm_X6_putIn [.ref (ad k), .int (qI a0), .int (qI a1)] M none M0 := by
  refine q_met (L0 := [(0, .ref (ad k)), (1, .int (qI a0)), (2, .int (qI a1))]) hi okC (by decide) (Nat.le_of_ble_eq_true rfl) rfl ?_
  intro p e s m args below meth c C hr hlk
  unfold f_X6_putIn at h
  refine r_iln C dX6_putIn_0 (k := 2) rfl ?_
  refine r_zlt C (tgt := 21) dX6_putIn_1 (by decide) h (fun h => ?_) (fun h => ?_)
  · exact r_vret C hr hlk dX6_putIn_21 h
  · refine r_iln C dX6_putIn_4 (k := 2) rfl ?_
    refine r_aln C dX6_putIn_5 (k := 0) rfl ?_
    refine r_gf C (kS hk) clX6 (f := 9) (by decide) rfl rfl rfl tf_RX6_40 dX6_putIn_6 h (fun v1 h => ?_)
    refine r_cgt C (tgt := 21) dX6_putIn_9 (by decide) h (fun h => ?_) (fun h => ?_)
    · exact r_vret C hr hlk dX6_putIn_21 h
    · refine r_aln C dX6_putIn_12 (k := 0) rfl ?_
      refine r_gf C (kS hk) clX6 (f := 9) (by decide) rfl rfl rfl tf_RX6_40 dX6_putIn_13 h (fun v2 h => ?_)
      refine r_bi C dX6_putIn_16 (by decide) ?_
      refine r_clt C (tgt := 22) dX6_putIn_18 (by decide) h (fun h => ?_) (fun h => ?_)
      · refine r_aln C dX6_putIn_22 (k := 0) rfl ?_
        refine r_gf C (kS hk) clX6 (f := 9) (by decide) rfl rfl rfl tf_RX6_40 dX6_putIn_23 h (fun v3 h => ?_)
        refine r_isn C (L1 := [(3, .int (qI v3)), (0, .ref (ad k)), (1, .int (qI a0)), (2, .int (qI a1))]) dX6_putIn_26 (by decide) rfl ?_
        refine r_drop [1, 2, 3, 0] rfl ?_
        exact w_X6_putIn_L27 C hr hlk k hk a0 a1  q_N v3 M h
      · exact r_vret C hr hlk dX6_putIn_21 h
abbrev rm_X6_howMany : Room := { frames := 0, cells := 0, slots := 0, locals := 0 }
theorem mw_X6_howMany : q_mw RX6 yX6_howMany cX6_howMany 5 (some .int) 2 := ⟨⟨ti_X6_howMany, tl_X6_howMany, tn_RX6, td_X6_howMany⟩, by decide +kernel⟩
def f_X6_howMany_B5 (k : Nat) (x1 : Int) (x2 : Int) (M : Mem) (x3 : Int) (x4 : Int) (g5 : Int → Int → Option Int) : Option Int :=
  if w32 x2 ≤ w32 x4 then (some x3)
  else (if w32 8 ≤ w32 x4 then (some x3)
  else (q_al M (32 * (k + 1) + 2) 8 x4 fun v1 =>
  if ¬ w32 v1 = w32 x1 then (g5 x3 (x4 + 1))
  else (g5 (x3 + 1) (x4 + 1))))
def f_X6_howMany_L5 (k : Nat) (x1 : Int) (x2 : Int) (M : Mem) (n : Nat) (x3 : Int) (x4 : Int) : Option Int := qlp2 (fun x3 x4 g5 => f_X6_howMany_B5 k x1 x2 M x3 x4 g5) n x3 x4
theorem w_X6_howMany_B5 (C : Cx syC p m c cX6_howMany 5 s args RX6 D ad cA) (hr : meth.sig.returnType = (some .int)) (hlk : meth.locks = false) (k : Nat) (hk : isS k) (x1 : Int) (x2 : Int) (x3 : Int) (x4 : Int) (M : Mem) (g5 : Int → Int → Option Int)  (ih5 : ∀ (ux3 ux4 : Int) , g5 ux3 ux4  = some r0 → WM syC p l e rm_X6_howMany s m args below meth c 5 D ad cA (MQ below (q_Post syC D ad cA (some (.int (qI r0))) M) args s 0 0 (q_A syC ad)) M 5 [(0, .ref (ad k)), (1, .int (qI x1)), (2, .int (qI x2)), (3, .int (qI ux3)), (4, .int (qI ux4))] []) (h : f_X6_howMany_B5 k x1 x2 M x3 x4 g5 = some r0) : WM syC p l e rm_X6_howMany s m args below meth c 5 D ad cA (MQ below (q_Post syC D ad cA (some (.int (qI r0))) M) args s 0 0 (q_A syC ad)) M 5 [(0, .ref (ad k)), (1, .int (qI x1)), (2, .int (qI x2)), (3, .int (qI x3)), (4, .int (qI x4))] [] := by
  unfold f_X6_howMany_B5 at h
  refine r_il C dX6_howMany_5 (k := 4) rfl ?_
  refine r_iln C dX6_howMany_7 (k := 2) rfl ?_
  refine r_cge C (tgt := 38) dX6_howMany_8 (by decide) h (fun h => ?_) (fun h => ?_)
  · refine r_iln C dX6_howMany_38 (k := 3) rfl ?_
    exact r_iretp C hr hlk dX6_howMany_39 h
  · refine r_il C dX6_howMany_11 (k := 4) rfl ?_
    refine r_bi C dX6_howMany_13 (by decide) ?_
    refine r_cge C (tgt := 38) dX6_howMany_15 (by decide) h (fun h => ?_) (fun h => ?_)
    · refine r_iln C dX6_howMany_38 (k := 3) rfl ?_
      exact r_iretp C hr hlk dX6_howMany_39 h
    · refine r_aln C dX6_howMany_18 (k := 0) rfl ?_
      refine r_gs C (kS hk) clX6 (f := 2) (by decide) rfl (t := (32 * (k + 1) + 2)) rfl tf_RX6_18 dX6_howMany_19 ?_
      refine r_il C dX6_howMany_22 (k := 4) rfl ?_
      refine r_iald C (kS_2 hk) dX6_howMany_24 h (fun v1 h => ?_)
      refine r_iln C dX6_howMany_25 (k := 1) rfl ?_
      refine r_cne C (tgt := 32) dX6_howMany_26 (by decide) h (fun h => ?_) (fun h => ?_)
      · refine r_inc C (L1 := [(4, .int (qI (x4 + 1))), (0, .ref (ad k)), (1, .int (qI x1)), (2, .int (qI x2)), (3, .int (qI x3))]) dX6_howMany_32 (k := 4) rfl (by decide) rfl ?_
        refine r_goto C (tgt := 5) dX6_howMany_35 (by decide) ?_
        refine r_drop [1, 2, 3, 4, 0] rfl ?_
        exact ih5 x3 (x4 + 1)  h
      · refine r_inc C (L1 := [(3, .int (qI (x3 + 1))), (0, .ref (ad k)), (1, .int (qI x1)), (2, .int (qI x2)), (4, .int (qI x4))]) dX6_howMany_29 (k := 3) rfl (by decide) rfl ?_
        refine r_inc C (L1 := [(4, .int (qI (x4 + 1))), (3, .int (qI (x3 + 1))), (0, .ref (ad k)), (1, .int (qI x1)), (2, .int (qI x2))]) dX6_howMany_32 (k := 4) rfl (by decide) rfl ?_
        refine r_goto C (tgt := 5) dX6_howMany_35 (by decide) ?_
        refine r_drop [2, 3, 4, 1, 0] rfl ?_
        exact ih5 (x3 + 1) (x4 + 1)  h
theorem w_X6_howMany_L5 (C : Cx syC p m c cX6_howMany 5 s args RX6 D ad cA) (hr : meth.sig.returnType = (some .int)) (hlk : meth.locks = false) (k : Nat) (hk : isS k) (x1 : Int) (x2 : Int) (M : Mem)  (n : Nat) (x3 : Int) (x4 : Int) (h : f_X6_howMany_L5 k x1 x2 M n x3 x4 = some r0) : WM syC p l e rm_X6_howMany s m args below meth c 5 D ad cA (MQ below (q_Post syC D ad cA (some (.int (qI r0))) M) args s 0 0 (q_A syC ad)) M 5 [(0, .ref (ad k)), (1, .int (qI x1)), (2, .int (qI x2)), (3, .int (qI x3)), (4, .int (qI x4))] [] :=
  qlp2_r (Wp := fun ux3 ux4 => WM syC p l e rm_X6_howMany s m args below meth c 5 D ad cA (MQ below (q_Post syC D ad cA (some (.int (qI r0))) M) args s 0 0 (q_A syC ad)) M 5 [(0, .ref (ad k)), (1, .int (qI x1)), (2, .int (qI x2)), (3, .int (qI ux3)), (4, .int (qI ux4))] []) (fun ux3 ux4 g5 ih5 h => w_X6_howMany_B5 C hr hlk k hk x1 x2 ux3 ux4 M g5  ih5 h) n x3 x4 h
def f_X6_howMany (k : Nat) (a0 : Int) (a1 : Int) (M : Mem) : Option Int :=
  f_X6_howMany_L5 k a0 a1 M q_N 0 0
theorem c_X6_howMany {l : Launch} {D : va_G} {ad : Nat → Nat} {cA : Nat → ClassId} (hi : q_inj syC ad) (k : Nat) (hk : isS k) (a0 : Int) (a1 : Int) (M : Mem) (r0 : Int) (h : f_X6_howMany k a0 a1 M = some r0) : q_Met l syC D ad cA yX6_howMany cX6_howMany 5 (some .int) rm_X6_howMany [.ref (ad k), .int (qI a0), .int (qI a1)] M (some (.int (qI r0))) M := by
  refine q_met (L0 := [(0, .ref (ad k)), (1, .int (qI a0)), (2, .int (qI a1))]) hi okC (by decide) (Nat.le_of_ble_eq_true rfl) rfl ?_
  intro p e s m args below meth c C hr hlk
  unfold f_X6_howMany at h
  refine r_ic C dX6_howMany_0 ?_
  refine r_isn C (L1 := [(3, .int (qI 0)), (0, .ref (ad k)), (1, .int (qI a0)), (2, .int (qI a1))]) dX6_howMany_1 (by decide) rfl ?_
  refine r_ic C dX6_howMany_2 ?_
  refine r_is C (L1 := [(4, .int (qI 0)), (3, .int (qI 0)), (0, .ref (ad k)), (1, .int (qI a0)), (2, .int (qI a1))]) dX6_howMany_3 (by decide) rfl ?_
  refine r_drop [2, 3, 4, 1, 0] rfl ?_
  exact w_X6_howMany_L5 C hr hlk k hk a0 a1 M  q_N 0 0 h
abbrev rm_X6_copy : Room := { frames := 0, cells := 0, slots := 0, locals := 0 }
theorem mw_X6_copy : q_mw RX6 yX6_copy cX6_copy 3 none 1 := ⟨⟨ti_X6_copy, tl_X6_copy, tn_RX6, td_X6_copy⟩, by decide +kernel⟩
def f_X6_copy_B26 (k : Nat) (k0 : Nat) (x2 : Int) (M : Mem) (g26 : Int → Mem → Res) : Res :=
  if w32 8 ≤ w32 x2 then (some (0, M))
  else (q_al M (32 * (k0 + 1) + 2) 8 x2 fun v1 =>
  q_as M (32 * (k + 1) + 2) 8 x2 v1 fun M2 =>
  q_al M2 (32 * (k0 + 1) + 3) 8 x2 fun v3 =>
  q_as M2 (32 * (k + 1) + 3) 8 x2 v3 fun M4 =>
  q_al M4 (32 * (k0 + 1) + 4) 8 x2 fun v5 =>
  q_as M4 (32 * (k + 1) + 4) 8 x2 v5 fun M6 =>
  q_al M6 (32 * (k0 + 1) + 5) 8 x2 fun v7 =>
  q_as M6 (32 * (k + 1) + 5) 8 x2 v7 fun M8 =>
  q_al M8 (32 * (k0 + 1) + 6) 8 x2 fun v9 =>
  q_as M8 (32 * (k + 1) + 6) 8 x2 v9 fun M10 =>
  q_al M10 (32 * (k0 + 1) + 7) 8 x2 fun v11 =>
  q_as M10 (32 * (k + 1) + 7) 8 x2 v11 fun M12 =>
  q_al M12 (32 * (k0 + 1) + 8) 8 x2 fun v13 =>
  q_as M12 (32 * (k + 1) + 8) 8 x2 v13 fun M14 =>
  g26 (x2 + 1) M14)
def f_X6_copy_L26 (k : Nat) (k0 : Nat) (n : Nat) (x2 : Int) (M : Mem) : Res := qlm1 (fun x2 M g26 => f_X6_copy_B26 k k0 x2 M g26) n x2 M
theorem w_X6_copy_B26 (C : Cx syC p m c cX6_copy 3 s args RX6 D ad cA) (hr : meth.sig.returnType = none) (hlk : meth.locks = false) (k : Nat) (k0 : Nat) (hk : isS k) (hk0 : isS k0) (x2 : Int) (M : Mem) (g26 : Int → Mem → Res)  (ih26 : ∀ (ux2 : Int) (M : Mem), g26 ux2 M = some (r0, M0) → WM syC p l e rm_X6_copy s m args below meth c 3 D ad cA (MQ below (q_Post syC D ad cA none M0) args s 0 0 (q_A syC ad)) M 26 [(0, .ref (ad k)), (1, .ref (ad k0)), (2, .int (qI ux2))] []) (h : f_X6_copy_B26 k k0 x2 M g26 = some (r0, M0)) : WM syC p l e rm_X6_copy s m args below meth c 3 D ad cA (MQ below (q_Post syC D ad cA none M0) args s 0 0 (q_A syC ad)) M 26 [(0, .ref (ad k)), (1, .ref (ad k0)), (2, .int (qI x2))] [] := by
  unfold f_X6_copy_B26 at h
  refine r_iln C dX6_copy_26 (k := 2) rfl ?_
  refine r_bi C dX6_copy_27 (by decide) ?_
  refine r_cge C (tgt := 122) dX6_copy_29 (by decide) h (fun h => ?_) (fun h => ?_)
  · exact r_vret C hr hlk dX6_copy_122 h
  · refine r_aln C dX6_copy_32 (k := 0) rfl ?_
    refine r_gs C (kS hk) clX6 (f := 2) (by decide) rfl (t := (32 * (k + 1) + 2)) rfl tf_RX6_18 dX6_copy_33 ?_
    refine r_iln C dX6_copy_36 (k := 2) rfl ?_
    refine r_aln C dX6_copy_37 (k := 1) rfl ?_
    refine r_gs C (kS hk0) clX6 (f := 2) (by decide) rfl (t := (32 * (k0 + 1) + 2)) rfl tf_RX6_18 dX6_copy_38 ?_
    refine r_iln C dX6_copy_41 (k := 2) rfl ?_
    refine r_iald C (kS_2 hk0) dX6_copy_42 h (fun v1 h => ?_)
    refine r_iast C (kS_2 hk) dX6_copy_43 h (fun M2 h => ?_)
    refine r_aln C dX6_copy_44 (k := 0) rfl ?_
    refine r_gs C (kS hk) clX6 (f := 3) (by decide) rfl (t := (32 * (k + 1) + 3)) rfl tf_RX6_22 dX6_copy_45 ?_
    refine r_iln C dX6_copy_48 (k := 2) rfl ?_
    refine r_aln C dX6_copy_49 (k := 1) rfl ?_
    refine r_gs C (kS hk0) clX6 (f := 3) (by decide) rfl (t := (32 * (k0 + 1) + 3)) rfl tf_RX6_22 dX6_copy_50 ?_
    refine r_iln C dX6_copy_53 (k := 2) rfl ?_
    refine r_iald C (kS_3 hk0) dX6_copy_54 h (fun v3 h => ?_)
    refine r_iast C (kS_3 hk) dX6_copy_55 h (fun M4 h => ?_)
    refine r_aln C dX6_copy_56 (k := 0) rfl ?_
    refine r_gs C (kS hk) clX6 (f := 4) (by decide) rfl (t := (32 * (k + 1) + 4)) rfl tf_RX6_25 dX6_copy_57 ?_
    refine r_iln C dX6_copy_60 (k := 2) rfl ?_
    refine r_aln C dX6_copy_61 (k := 1) rfl ?_
    refine r_gs C (kS hk0) clX6 (f := 4) (by decide) rfl (t := (32 * (k0 + 1) + 4)) rfl tf_RX6_25 dX6_copy_62 ?_
    refine r_iln C dX6_copy_65 (k := 2) rfl ?_
    refine r_iald C (kS_4 hk0) dX6_copy_66 h (fun v5 h => ?_)
    refine r_iast C (kS_4 hk) dX6_copy_67 h (fun M6 h => ?_)
    refine r_aln C dX6_copy_68 (k := 0) rfl ?_
    refine r_gs C (kS hk) clX6 (f := 5) (by decide) rfl (t := (32 * (k + 1) + 5)) rfl tf_RX6_28 dX6_copy_69 ?_
    refine r_iln C dX6_copy_72 (k := 2) rfl ?_
    refine r_aln C dX6_copy_73 (k := 1) rfl ?_
    refine r_gs C (kS hk0) clX6 (f := 5) (by decide) rfl (t := (32 * (k0 + 1) + 5)) rfl tf_RX6_28 dX6_copy_74 ?_
    refine r_iln C dX6_copy_77 (k := 2) rfl ?_
    refine r_iald C (kS_5 hk0) dX6_copy_78 h (fun v7 h => ?_)
    refine r_iast C (kS_5 hk) dX6_copy_79 h (fun M8 h => ?_)
    refine r_aln C dX6_copy_80 (k := 0) rfl ?_
    refine r_gs C (kS hk) clX6 (f := 6) (by decide) rfl (t := (32 * (k + 1) + 6)) rfl tf_RX6_31 dX6_copy_81 ?_
    refine r_iln C dX6_copy_84 (k := 2) rfl ?_
    refine r_aln C dX6_copy_85 (k := 1) rfl ?_
    refine r_gs C (kS hk0) clX6 (f := 6) (by decide) rfl (t := (32 * (k0 + 1) + 6)) rfl tf_RX6_31 dX6_copy_86 ?_
    refine r_iln C dX6_copy_89 (k := 2) rfl ?_
    refine r_iald C (kS_6 hk0) dX6_copy_90 h (fun v9 h => ?_)
    refine r_iast C (kS_6 hk) dX6_copy_91 h (fun M10 h => ?_)
    refine r_aln C dX6_copy_92 (k := 0) rfl ?_
    refine r_gs C (kS hk) clX6 (f := 7) (by decide) rfl (t := (32 * (k + 1) + 7)) rfl tf_RX6_34 dX6_copy_93 ?_
    refine r_iln C dX6_copy_96 (k := 2) rfl ?_
    refine r_aln C dX6_copy_97 (k := 1) rfl ?_
    refine r_gs C (kS hk0) clX6 (f := 7) (by decide) rfl (t := (32 * (k0 + 1) + 7)) rfl tf_RX6_34 dX6_copy_98 ?_
    refine r_iln C dX6_copy_101 (k := 2) rfl ?_
    refine r_iald C (kS_7 hk0) dX6_copy_102 h (fun v11 h => ?_)
    refine r_iast C (kS_7 hk) dX6_copy_103 h (fun M12 h => ?_)
    refine r_aln C dX6_copy_104 (k := 0) rfl ?_
    refine r_gs C (kS hk) clX6 (f := 8) (by decide) rfl (t := (32 * (k + 1) + 8)) rfl tf_RX6_37 dX6_copy_105 ?_
    refine r_iln C dX6_copy_108 (k := 2) rfl ?_
    refine r_aln C dX6_copy_109 (k := 1) rfl ?_
    refine r_gs C (kS hk0) clX6 (f := 8) (by decide) rfl (t := (32 * (k0 + 1) + 8)) rfl tf_RX6_37 dX6_copy_110 ?_
    refine r_iln C dX6_copy_113 (k := 2) rfl ?_
    refine r_iald C (kS_8 hk0) dX6_copy_114 h (fun v13 h => ?_)
    refine r_iast C (kS_8 hk) dX6_copy_115 h (fun M14 h => ?_)
    refine r_inc C (L1 := [(2, .int (qI (x2 + 1))), (0, .ref (ad k)), (1, .ref (ad k0))]) dX6_copy_116 (k := 2) rfl (by decide) rfl ?_
    refine r_goto C (tgt := 26) dX6_copy_119 (by decide) ?_
    refine r_drop [1, 2, 0] rfl ?_
    exact ih26 (x2 + 1) M14 h
theorem w_X6_copy_L26 (C : Cx syC p m c cX6_copy 3 s args RX6 D ad cA) (hr : meth.sig.returnType = none) (hlk : meth.locks = false) (k : Nat) (k0 : Nat) (hk : isS k) (hk0 : isS k0)   (n : Nat) (x2 : Int) (M : Mem) (h : f_X6_copy_L26 k k0 n x2 M = some (r0, M0)) : WM syC p l e rm_X6_copy s m args below meth c 3 D ad cA (MQ below (q_Post syC D ad cA none M0) args s 0 0 (q_A syC ad)) M 26 [(0, .ref (ad k)), (1, .ref (ad k0)), (2, .int (qI x2))] [] :=
  qlm1_r (Wp := fun ux2 M => WM syC p l e rm_X6_copy s m args below meth c 3 D ad cA (MQ below (q_Post syC D ad cA none M0) args s 0 0 (q_A syC ad)) M 26 [(0, .ref (ad k)), (1, .ref (ad k0)), (2, .int (qI ux2))] []) (fun ux2 M g26 ih26 h => w_X6_copy_B26 C hr hlk k k0 hk hk0 ux2 M g26  ih26 h) n x2 M h
def f_X6_copy (k : Nat) (k0 : Nat) (M : Mem) : Res :=
  q_gf M k0 0 fun v1 =>
  q_pf M k 0 v1 fun M2 =>
  q_gf M2 k0 1 fun v3 =>
  q_pf M2 k 1 v3 fun M4 =>
  q_gf M4 k0 9 fun v5 =>
  q_pf M4 k 9 v5 fun M6 =>
  f_X6_copy_L26 k k0 q_N 0 M6
theorem c_X6_copy {l : Launch} {D : va_G} {ad : Nat → Nat} {cA : Nat → ClassId} (hi : q_inj syC ad) (k : Nat) (k0 : Nat) (hk : isS k) (hk0 : isS k0) (M : Mem) (r0 : Int) (M0 : Mem) (h : f_X6_copy k k0 M = some (r0, M0)) : q_Met l syC D ad cA yX6_copy cX6_copy 3 none rm_X6_copy [.ref (ad k), .ref (ad k0)] M none M0 := by
  refine q_met (L0 := [(0, .ref (ad k)), (1, .ref (ad k0))]) hi okC (by decide) (Nat.le_of_ble_eq_true rfl) rfl ?_
  intro p e s m args below meth c C hr hlk
  unfold f_X6_copy at h
  refine r_aln C dX6_copy_0 (k := 0) rfl ?_
  refine r_aln C dX6_copy_1 (k := 1) rfl ?_
  refine r_gf C (kS hk0) clX6 (f := 0) (by decide) rfl rfl rfl tf_RX6_9 dX6_copy_2 h (fun v1 h => ?_)
  refine r_pf C (kS hk) clX6 (f := 0) (by decide) rfl q_dI rfl rfl tf_RX6_9 dX6_copy_5 h (fun M2 h => ?_)
  refine r_aln C dX6_copy_8 (k := 0) rfl ?_
  refine r_aln C dX6_copy_9 (k := 1) rfl ?_
  refine r_gf C (kS hk0) clX6 (f := 1) (by decide) rfl rfl rfl tf_RX6_15 dX6_copy_10 h (fun v3 h => ?_)
  refine r_pf C (kS hk) clX6 (f := 1) (by decide) rfl q_dI rfl rfl tf_RX6_15 dX6_copy_13 h (fun M4 h => ?_)
  refine r_aln C dX6_copy_16 (k := 0) rfl ?_
  refine r_aln C dX6_copy_17 (k := 1) rfl ?_
  refine r_gf C (kS hk0) clX6 (f := 9) (by decide) rfl rfl rfl tf_RX6_40 dX6_copy_18 h (fun v5 h => ?_)
  refine r_pf C (kS hk) clX6 (f := 9) (by decide) rfl q_dI rfl rfl tf_RX6_40 dX6_copy_21 h (fun M6 h => ?_)
  refine r_ic C dX6_copy_24 ?_
  refine r_isn C (L1 := [(2, .int (qI 0)), (0, .ref (ad k)), (1, .ref (ad k0))]) dX6_copy_25 (by decide) rfl ?_
  refine r_drop [1, 2, 0] rfl ?_
  exact w_X6_copy_L26 C hr hlk k k0 hk hk0  q_N 0 M6 h
abbrev rm_X6_begin : Room := { frames := 0, cells := 0, slots := 0, locals := 0 }
theorem mw_X6_begin : q_mw RX6 yX6_begin cX6_begin 4 none 2 := ⟨⟨ti_X6_begin, tl_X6_begin, tn_RX6, td_X6_begin⟩, by decide +kernel⟩
def f_X6_begin_J48 (k : Nat) (n0 : Nat) (l0 : Nat) (g17 : Int → Mem → Res) (x3 : Int) (y0 : Int) (y1 : Int) (M : Mem) : Res :=
  q_as M (32 * (k + 1) + 3) 8 y1 y0 fun M1 =>
  q_as M1 (32 * (k + 1) + 4) 8 x3 0 fun M2 =>
  q_as M2 (32 * (k + 1) + 5) 8 x3 0 fun M3 =>
  q_as M3 (32 * (k + 1) + 6) 8 x3 (-2) fun M4 =>
  q_as M4 (32 * (k + 1) + 7) 8 x3 (-2) fun M5 =>
  g17 (x3 + 1) M5
theorem w_X6_begin_J48 (C : Cx syC p m c cX6_begin 4 s args RX6 D ad cA) (hr : meth.sig.returnType = none) (hlk : meth.locks = false) (k : Nat) (n0 : Nat) (l0 : Nat) (hk : isS k) (hn0 : syC.1 n0 = (2, l0)) (g17 : Int → Mem → Res) (x3 : Int) (y0 : Int) (y1 : Int) (M : Mem) (ih17 : ∀ (ux3 : Int) (M : Mem), g17 ux3 M = some (r0, M0) → WM syC p l e rm_X6_begin s m args below meth c 4 D ad cA (MQ below (q_Post syC D ad cA none M0) args s 0 0 (q_A syC ad)) M 17 [(0, .ref (ad k)), (1, .ref (ad n0)), (3, .int (qI ux3))] []) (h : f_X6_begin_J48 k n0 l0 g17 x3 y0 y1 M = some (r0, M0)) : WM syC p l e rm_X6_begin s m args below meth c 4 D ad cA (MQ below (q_Post syC D ad cA none M0) args s 0 0 (q_A syC ad)) M 48 [(0, .ref (ad k)), (1, .ref (ad n0)), (3, .int (qI x3))] [.int (qI y0), .int (qI y1), .ref (ad (32 * (k + 1) + 3))] := by
  unfold f_X6_begin_J48 at h
  refine r_iast C (kS_3 hk) dX6_begin_48 h (fun M1 h => ?_)
  refine r_aln C dX6_begin_49 (k := 0) rfl ?_
  refine r_gs C (kS hk) clX6 (f := 4) (by decide) rfl (t := (32 * (k + 1) + 4)) rfl tf_RX6_25 dX6_begin_50 ?_
  refine r_iln C dX6_begin_53 (k := 2) rfl ?_
  refine r_ic C dX6_begin_54 ?_
  refine r_iast C (kS_4 hk) dX6_begin_55 h (fun M2 h => ?_)
  refine r_aln C dX6_begin_56 (k := 0) rfl ?_
  refine r_gs C (kS hk) clX6 (f := 5) (by decide) rfl (t := (32 * (k + 1) + 5)) rfl tf_RX6_28 dX6_begin_57 ?_
  refine r_iln C dX6_begin_60 (k := 2) rfl ?_
  refine r_ic C dX6_begin_61 ?_
  refine r_iast C (kS_5 hk) dX6_begin_62 h (fun M3 h => ?_)
  refine r_aln C dX6_begin_63 (k := 0) rfl ?_
  refine r_gs C (kS hk) clX6 (f := 6) (by decide) rfl (t := (32 * (k + 1) + 6)) rfl tf_RX6_31 dX6_begin_64 ?_
  refine r_iln C dX6_begin_67 (k := 2) rfl ?_
  refine r_bi C dX6_begin_68 (by decide) ?_
  refine r_iast C (kS_6 hk) dX6_begin_70 h (fun M4 h => ?_)
  refine r_aln C dX6_begin_71 (k := 0) rfl ?_
  refine r_gs C (kS hk) clX6 (f := 7) (by decide) rfl (t := (32 * (k + 1) + 7)) rfl tf_RX6_34 dX6_begin_72 ?_
  refine r_iln C dX6_begin_75 (k := 2) rfl ?_
  refine r_bi C dX6_begin_76 (by decide) ?_
  refine r_iast C (kS_7 hk) dX6_begin_78 h (fun M5 h => ?_)
  refine r_inc C (L1 := [(3, .int (qI (x3 + 1))), (0, .ref (ad k)), (1, .ref (ad n0))]) dX6_begin_79 (k := 2) rfl (by decide) rfl ?_
  refine r_goto C (tgt := 17) dX6_begin_82 (by decide) ?_
  refine r_drop [1, 2, 0] rfl ?_
  exact ih17 (x3 + 1) M5 h
def f_X6_begin_B17 (k : Nat) (n0 : Nat) (l0 : Nat) (x3 : Int) (M : Mem) (g17 : Int → Mem → Res) : Res :=
  if w32 8 ≤ w32 x3 then (some (0, M))
  else (q_as M (32 * (k + 1) + 2) 8 x3 0 fun M1 =>
  if w32 ((l0 : Nat) : Int) ≤ w32 x3 then (f_X6_begin_J48 k n0 l0 g17 x3 0 x3 M1)
  else (q_al M1 n0 l0 x3 fun v2 =>
  f_X6_begin_J48 k n0 l0 g17 x3 v2 x3 M1))
def f_X6_begin_L17 (k : Nat) (n0 : Nat) (l0 : Nat) (n : Nat) (x3 : Int) (M : Mem) : Res := qlm1 (fun x3 M g17 => f_X6_begin_B17 k n0 l0 x3 M g17) n x3 M
theorem w_X6_begin_B17 (C : Cx syC p m c cX6_begin 4 s args RX6 D ad cA) (hr : meth.sig.returnType = none) (hlk : meth.locks = false) (k : Nat) (n0 : Nat) (l0 : Nat) (hk : isS k) (hn0 : syC.1 n0 = (2, l0)) (x3 : Int) (M : Mem) (g17 : Int → Mem → Res)  (ih17 : ∀ (ux3 : Int) (M : Mem), g17 ux3 M = some (r0, M0) → WM syC p l e rm_X6_begin s m args below meth c 4 D ad cA (MQ below (q_Post syC D ad cA none M0) args s 0 0 (q_A syC ad)) M 17 [(0, .ref (ad k)), (1, .ref (ad n0)), (3, .int (qI ux3))] []) (h : f_X6_begin_B17 k n0 l0 x3 M g17 = some (r0, M0)) : WM syC p l e rm_X6_begin s m args below meth c 4 D ad cA (MQ below (q_Post syC D ad cA none M0) args s 0 0 (q_A syC ad)) M 17 [(0, .ref (ad k)), (1, .ref (ad n0)), (3, .int (qI x3))] [] := by
  unfold f_X6_begin_B17 at h
  refine r_iln C dX6_begin_17 (k := 2) rfl ?_
  refine r_bi C dX6_begin_18 (by decide) ?_
  refine r_cge C (tgt := 85) dX6_begin_20 (by decide) h (fun h => ?_) (fun h => ?_)
  · exact r_vret C hr hlk dX6_begin_85 h
  · refine r_aln C dX6_begin_23 (k := 0) rfl ?_
    refine r_gs C (kS hk) clX6 (f := 2) (by decide) rfl (t := (32 * (k + 1) + 2)) rfl tf_RX6_18 dX6_begin_24 ?_
    refine r_iln C dX6_begin_27 (k := 2) rfl ?_
    refine r_ic C dX6_begin_28 ?_
    refine r_iast C (kS_2 hk) dX6_begin_29 h (fun M1 h => ?_)
    refine r_aln C dX6_begin_30 (k := 0) rfl ?_
    refine r_gs C (kS hk) clX6 (f := 3) (by decide) rfl (t := (32 * (k + 1) + 3)) rfl tf_RX6_22 dX6_begin_31 ?_
    refine r_iln C dX6_begin_34 (k := 2) rfl ?_
    refine r_iln C dX6_begin_35 (k := 2) rfl ?_
    refine r_aln C dX6_begin_36 (k := 1) rfl ?_
    refine r_alen C hn0 (by decide) (by decide) (by decide) (t0 := 0) rfl dX6_begin_37 ?_
    refine r_cge C (tgt := 47) dX6_begin_38 (by decide) h (fun h => ?_) (fun h => ?_)
    · refine r_ic C dX6_begin_47 ?_
      exact w_X6_begin_J48 C hr hlk k n0 l0 hk hn0 g17 x3 0 x3 M1 ih17 h
    · refine r_aln C dX6_begin_41 (k := 1) rfl ?_
      refine r_iln C dX6_begin_42 (k := 2) rfl ?_
      refine r_iald C hn0 dX6_begin_43 h (fun v2 h => ?_)
      refine r_goto C (tgt := 48) dX6_begin_44 (by decide) ?_
      exact w_X6_begin_J48 C hr hlk k n0 l0 hk hn0 g17 x3 v2 x3 M1 ih17 h
theorem w_X6_begin_L17 (C : Cx syC p m c cX6_begin 4 s args RX6 D ad cA) (hr : meth.sig.returnType = none) (hlk : meth.locks = false) (k : Nat) (n0 : Nat) (l0 : Nat) (hk : isS k) (hn0 : syC.1 n0 = (2, l0))   (n : Nat) (x3 : Int) (M : Mem) (h : f_X6_begin_L17 k n0 l0 n x3 M = some (r0, M0)) : WM syC p l e rm_X6_begin s m args below meth c 4 D ad cA (MQ below (q_Post syC D ad cA none M0) args s 0 0 (q_A syC ad)) M 17 [(0, .ref (ad k)), (1, .ref (ad n0)), (3, .int (qI x3))] [] :=
  qlm1_r (Wp := fun ux3 M => WM syC p l e rm_X6_begin s m args below meth c 4 D ad cA (MQ below (q_Post syC D ad cA none M0) args s 0 0 (q_A syC ad)) M 17 [(0, .ref (ad k)), (1, .ref (ad n0)), (3, .int (qI ux3))] []) (fun ux3 M g17 ih17 h => w_X6_begin_B17 C hr hlk k n0 l0 hk hn0 ux3 M g17  ih17 h) n x3 M h
def f_X6_begin (k : Nat) (n0 : Nat) (l0 : Nat) (a1 : Int) (M : Mem) : Res :=
  q_pf M k 0 0 fun M1 =>
  q_pf M1 k 1 a1 fun M2 =>
  q_pf M2 k 9 0 fun M3 =>
  f_X6_begin_L17 k n0 l0 q_N 0 M3
theorem c_X6_begin {l : Launch} {D : va_G} {ad : Nat → Nat} {cA : Nat → ClassId} (hi : q_inj syC ad) (k : Nat) (n0 : Nat) (l0 : Nat) (hk : isS k) (hn0 : syC.1 n0 = (2, l0)) (a1 : Int) (M : Mem) (r0 : Int) (M0 : Mem) (h : f_X6_begin k n0 l0 a1 M = some (r0, M0)) : q_Met l syC D ad cA yX6_begin cX6_begin 4 none rm_X6_begin [.ref (ad k), .ref (ad n0), .int (qI a1)] M none M0 := by
  refine q_met (L0 := [(0, .ref (ad k)), (1, .ref (ad n0)), (2, .int (qI a1))]) hi okC (by decide) (Nat.le_of_ble_eq_true rfl) rfl ?_
  intro p e s m args below meth c C hr hlk
  unfold f_X6_begin at h
  refine r_aln C dX6_begin_0 (k := 0) rfl ?_
  refine r_ic C dX6_begin_1 ?_
  refine r_pf C (kS hk) clX6 (f := 0) (by decide) rfl q_dI rfl rfl tf_RX6_9 dX6_begin_2 h (fun M1 h => ?_)
  refine r_aln C dX6_begin_5 (k := 0) rfl ?_
  refine r_iln C dX6_begin_6 (k := 2) rfl ?_
  refine r_pf C (kS hk) clX6 (f := 1) (by decide) rfl q_dI rfl rfl tf_RX6_15 dX6_begin_7 h (fun M2 h => ?_)
  refine r_aln C dX6_begin_10 (k := 0) rfl ?_
  refine r_ic C dX6_begin_11 ?_
  refine r_pf C (kS hk) clX6 (f := 9) (by decide) rfl q_dI rfl rfl tf_RX6_40 dX6_begin_12 h (fun M3 h => ?_)
  refine r_ic C dX6_begin_15 ?_
  refine r_isn C (L1 := [(3, .int (qI 0)), (0, .ref (ad k)), (1, .ref (ad n0)), (2, .int (qI a1))]) dX6_begin_16 (by decide) rfl ?_
  refine r_drop [1, 2, 0] rfl ?_
  exact w_X6_begin_L17 C hr hlk k n0 l0 hk hn0  q_N 0 M3 h
end P11
