section P13e
variable {p : Program} {l : Launch} {e : Env} {s : State} {m : MethodId} {args : Array Value} {below : List Frame} {meth : Method} {c : Code} {D : va_G} {ad : Nat → Nat} {cA : Nat → ClassId} {r0 : Int} {M0 : Mem}
abbrev rm_X10_trips : Room := { frames := 4, cells := 0, slots := 0, locals := 95 }
theorem mw_X10_trips : q_mw RX10 yX10_trips cX10_trips 4 (some .int) 1 := ⟨⟨ti_X10_trips, tl_X10_trips, tn_RX10, td_X10_trips⟩, by decide +kernel⟩
def f_X10_trips_B19 (x1 : Int) (x2 : Int) (x3 : Int) (M : Mem) (g19 : Int → Int → Mem → Res) : Res :=
  q_al M 69 23 0 fun v1 =>
  if w32 v1 ≤ w32 x3 then (q_al M 43 8 x1 fun v2 =>
  q_al M 43 8 x1 fun v3 =>
  q_nz v3 <| some ((w32 ((x2 + v2) - 1)).tdiv (w32 v3), M))
  else (q_al M 70 184 x3 fun v4 =>
  q_call (f_X10_mayRide 0 v4 x1 M) fun r5 M6 =>
  if w32 r5 = 0 then (g19 (x2 + 0) (x3 + 1) M6)
  else (g19 (x2 + 1) (x3 + 1) M6))
def f_X10_trips_L19 (x1 : Int) (n : Nat) (x2 : Int) (x3 : Int) (M : Mem) : Res := qlm2 (fun x2 x3 M g19 => f_X10_trips_B19 x1 x2 x3 M g19) n x2 x3 M
theorem w_X10_trips_B19 (C : Cx syM p m c cX10_trips 4 s args RX10 D ad cA) (hr : meth.sig.returnType = (some .int)) (hlk : meth.locks = false)  (x1 : Int) (x2 : Int) (x3 : Int) (M : Mem) (g19 : Int → Int → Mem → Res)  (ih19 : ∀ (ux2 ux3 : Int) (M : Mem), g19 ux2 ux3 M = some (r0, M0) → WM syM p l e rm_X10_trips s m args below meth c 4 D ad cA (MQ below (q_Post syM D ad cA (some (.int (qI r0))) M0) args s 0 0 (q_A syM ad)) M 19 [(0, .ref (ad 0)), (1, .int (qI x1)), (2, .int (qI ux2)), (3, .int (qI ux3))] []) (h : f_X10_trips_B19 x1 x2 x3 M g19 = some (r0, M0)) : WM syM p l e rm_X10_trips s m args below meth c 4 D ad cA (MQ below (q_Post syM D ad cA (some (.int (qI r0))) M0) args s 0 0 (q_A syM ad)) M 19 [(0, .ref (ad 0)), (1, .int (qI x1)), (2, .int (qI x2)), (3, .int (qI x3))] [] := by
  unfold f_X10_trips_B19 at h
  refine r_iln C dX10_trips_19 (k := 3) rfl ?_
  refine r_aln C dX10_trips_20 (k := 0) rfl ?_
  refine r_gs C km_0 clX10 (f := 37) (by decide) rfl (t := 69) rfl tf_RX10_78 dX10_trips_21 ?_
  refine r_ic C dX10_trips_24 ?_
  refine r_iald C km_69 dX10_trips_25 h (fun v1 h => ?_)
  refine r_cge C (tgt := 58) dX10_trips_26 (by decide) h (fun h => ?_) (fun h => ?_)
  · refine r_iln C dX10_trips_58 (k := 2) rfl ?_
    refine r_aln C dX10_trips_59 (k := 0) rfl ?_
    refine r_gs C km_0 clX10 (f := 11) (by decide) rfl (t := 43) rfl tf_RX10_37 dX10_trips_60 ?_
    refine r_iln C dX10_trips_63 (k := 1) rfl ?_
    refine r_iald C km_43 dX10_trips_64 h (fun v2 h => ?_)
    refine r_iadd C dX10_trips_65 ?_
    refine r_ic C dX10_trips_66 ?_
    refine r_isub C dX10_trips_67 ?_
    refine r_aln C dX10_trips_68 (k := 0) rfl ?_
    refine r_gs C km_0 clX10 (f := 11) (by decide) rfl (t := 43) rfl tf_RX10_37 dX10_trips_69 ?_
    refine r_iln C dX10_trips_72 (k := 1) rfl ?_
    refine r_iald C km_43 dX10_trips_73 h (fun v3 h => ?_)
    refine r_idiv C dX10_trips_74 h (fun h => ?_)
    exact r_iret C hr hlk dX10_trips_75 h
  · refine r_iln C dX10_trips_29 (k := 2) rfl ?_
    refine r_aln C dX10_trips_30 (k := 0) rfl ?_
    refine r_ic C dX10_trips_31 ?_
    refine r_aln C dX10_trips_32 (k := 0) rfl ?_
    refine r_gs C km_0 clX10 (f := 38) (by decide) rfl (t := 70) rfl tf_RX10_81 dX10_trips_33 ?_
    refine r_iln C dX10_trips_36 (k := 3) rfl ?_
    refine r_iald C km_70 dX10_trips_37 h (fun v4 h => ?_)
    refine r_iln C dX10_trips_38 (k := 1) rfl ?_
    obtain ⟨r5, M6, hy, h⟩ := q_call_some h
    refine r_cvi C (st := [.int (qI x2)]) (c_X10_mayRide C.2.2.1 0 v4 x1 M r5 M6 hy) tm_RX10_362 mw_X10_mayRide ⟨rfl, rfl⟩ ⟨Nat.le_of_ble_eq_true rfl, Nat.le_of_ble_eq_true rfl⟩ km_0 clX10 rfl rfl (Nat.le_of_ble_eq_true rfl) dX10_trips_39 ?_
    refine r_zeq C (tgt := 49) dX10_trips_42 (by decide) h (fun h => ?_) (fun h => ?_)
    · refine r_ic C dX10_trips_49 ?_
      refine r_iadd C dX10_trips_50 ?_
      refine r_isn C (L1 := [(2, .int (qI (x2 + 0))), (0, .ref (ad 0)), (1, .int (qI x1)), (3, .int (qI x3))]) dX10_trips_51 (by decide) rfl ?_
      refine r_inc C (L1 := [(3, .int (qI (x3 + 1))), (2, .int (qI (x2 + 0))), (0, .ref (ad 0)), (1, .int (qI x1))]) dX10_trips_52 (k := 3) rfl (by decide) rfl ?_
      refine r_goto C (tgt := 19) dX10_trips_55 (by decide) ?_
      refine r_drop [2, 3, 1, 0] rfl ?_
      exact ih19 (x2 + 0) (x3 + 1) M6 h
    · refine r_ic C dX10_trips_45 ?_
      refine r_goto C (tgt := 50) dX10_trips_46 (by decide) ?_
      refine r_iadd C dX10_trips_50 ?_
      refine r_isn C (L1 := [(2, .int (qI (x2 + 1))), (0, .ref (ad 0)), (1, .int (qI x1)), (3, .int (qI x3))]) dX10_trips_51 (by decide) rfl ?_
      refine r_inc C (L1 := [(3, .int (qI (x3 + 1))), (2, .int (qI (x2 + 1))), (0, .ref (ad 0)), (1, .int (qI x1))]) dX10_trips_52 (k := 3) rfl (by decide) rfl ?_
      refine r_goto C (tgt := 19) dX10_trips_55 (by decide) ?_
      refine r_drop [2, 3, 1, 0] rfl ?_
      exact ih19 (x2 + 1) (x3 + 1) M6 h
theorem w_X10_trips_L19 (C : Cx syM p m c cX10_trips 4 s args RX10 D ad cA) (hr : meth.sig.returnType = (some .int)) (hlk : meth.locks = false)  (x1 : Int)  (n : Nat) (x2 : Int) (x3 : Int) (M : Mem) (h : f_X10_trips_L19 x1 n x2 x3 M = some (r0, M0)) : WM syM p l e rm_X10_trips s m args below meth c 4 D ad cA (MQ below (q_Post syM D ad cA (some (.int (qI r0))) M0) args s 0 0 (q_A syM ad)) M 19 [(0, .ref (ad 0)), (1, .int (qI x1)), (2, .int (qI x2)), (3, .int (qI x3))] [] :=
  qlm2_r (Wp := fun ux2 ux3 M => WM syM p l e rm_X10_trips s m args below meth c 4 D ad cA (MQ below (q_Post syM D ad cA (some (.int (qI r0))) M0) args s 0 0 (q_A syM ad)) M 19 [(0, .ref (ad 0)), (1, .int (qI x1)), (2, .int (qI ux2)), (3, .int (qI ux3))] []) (fun ux2 ux3 M g19 ih19 h => w_X10_trips_B19 C hr hlk x1 ux2 ux3 M g19  ih19 h) n x2 x3 M h
def f_X10_trips (a0 : Int) (M : Mem) : Res :=
  q_pf M 0 0 0 fun M1 =>
  q_calp (f_X10_isBus a0 M1) fun r2 =>
  if ¬ w32 r2 = 0 then (f_X10_trips_L19 a0 q_N 0 0 M1)
  else (some ((-1), M1))
theorem c_X10_trips {l : Launch} {D : va_G} {ad : Nat → Nat} {cA : Nat → ClassId} (hi : q_inj syM ad) (a0 : Int) (M : Mem) (r0 : Int) (M0 : Mem) (h : f_X10_trips a0 M = some (r0, M0)) : q_Met l syM D ad cA yX10_trips cX10_trips 4 (some .int) rm_X10_trips [.ref (ad 0), .int (qI a0)] M (some (.int (qI r0))) M0 := by
  refine q_met (L0 := [(0, .ref (ad 0)), (1, .int (qI a0))]) hi okM (by decide) (Nat.le_of_ble_eq_true rfl) rfl ?_
  intro p e s m args below meth c C hr hlk
  unfold f_X10_trips at h
  refine r_aln C dX10_trips_0 (k := 0) rfl ?_
  refine r_ic C dX10_trips_1 ?_
  refine r_pf C km_0 clX10 (f := 0) (by decide) rfl q_dI rfl rfl tf_RX10_142 dX10_trips_2 h (fun M1 h => ?_)
  refine r_aln C dX10_trips_5 (k := 0) rfl ?_
  refine r_iln C dX10_trips_6 (k := 1) rfl ?_
  obtain ⟨r2, hy, h⟩ := q_calp_some h
  refine r_cvi C (st := []) (c_X10_isBus C.2.2.1 a0 M1 r2 hy) tm_RX10_420 mw_X10_isBus ⟨rfl, rfl⟩ ⟨Nat.le_of_ble_eq_true rfl, Nat.le_of_ble_eq_true rfl⟩ km_0 clX10 rfl rfl (Nat.le_of_ble_eq_true rfl) dX10_trips_7 ?_
  refine r_zne C (tgt := 15) dX10_trips_10 (by decide) h (fun h => ?_) (fun h => ?_)
  · refine r_ic C dX10_trips_15 ?_
    refine r_isn C (L1 := [(2, .int (qI 0)), (0, .ref (ad 0)), (1, .int (qI a0))]) dX10_trips_16 (by decide) rfl ?_
    refine r_ic C dX10_trips_17 ?_
    refine r_isn C (L1 := [(3, .int (qI 0)), (2, .int (qI 0)), (0, .ref (ad 0)), (1, .int (qI a0))]) dX10_trips_18 (by decide) rfl ?_
    refine r_drop [2, 3, 1, 0] rfl ?_
    exact w_X10_trips_L19 C hr hlk a0  q_N 0 0 M1 h
  · refine r_ic C dX10_trips_13 ?_
    exact r_iret C hr hlk dX10_trips_14 h
abbrev rm_X10_undo : Room := { frames := 1, cells := 0, slots := 0, locals := 25 }
theorem mw_X10_undo : q_mw RX10 yX10_undo cX10_undo 1 (some .int) 0 := ⟨⟨ti_X10_undo, tl_X10_undo, tn_RX10, td_X10_undo⟩, by decide +kernel⟩
def f_X10_undo  (M : Mem) : Res :=
  q_pf M 0 0 0 fun M1 =>
  q_gf M1 0 46 fun v2 =>
  if ¬ w32 v2 = 0 then (q_gf M1 0 46 fun v3 =>
  q_pf M1 0 46 (v3 - 1) fun M4 =>
  q_gf M4 0 46 fun v5 =>
  q_call (f_X10_copies 0 (3 + v5) M4) fun r6 M7 =>
  q_gf M7 0 46 fun v8 =>
  some (v8, M7))
  else (some ((-1), M1))
theorem c_X10_undo {l : Launch} {D : va_G} {ad : Nat → Nat} {cA : Nat → ClassId} (hi : q_inj syM ad)  (M : Mem) (r0 : Int) (M0 : Mem) (h : f_X10_undo  M = some (r0, M0)) : q_Met l syM D ad cA yX10_undo cX10_undo 1 (some .int) rm_X10_undo [.ref (ad 0)] M (some (.int (qI r0))) M0 := by
  refine q_met (L0 := [(0, .ref (ad 0))]) hi okM (by decide) (Nat.le_of_ble_eq_true rfl) rfl ?_
  intro p e s m args below meth c C hr hlk
  unfold f_X10_undo at h
  refine r_aln C dX10_undo_0 (k := 0) rfl ?_
  refine r_ic C dX10_undo_1 ?_
  refine r_pf C km_0 clX10 (f := 0) (by decide) rfl q_dI rfl rfl tf_RX10_142 dX10_undo_2 h (fun M1 h => ?_)
  refine r_aln C dX10_undo_5 (k := 0) rfl ?_
  refine r_gf C km_0 clX10 (f := 46) (by decide) rfl rfl rfl tf_RX10_302 dX10_undo_6 h (fun v2 h => ?_)
  refine r_zne C (tgt := 14) dX10_undo_9 (by decide) h (fun h => ?_) (fun h => ?_)
  · refine r_aln C dX10_undo_14 (k := 0) rfl ?_
    refine r_dup C rfl dX10_undo_15 ?_
    refine r_gf C km_0 clX10 (f := 46) (by decide) rfl rfl rfl tf_RX10_302 dX10_undo_16 h (fun v3 h => ?_)
    refine r_ic C dX10_undo_19 ?_
    refine r_isub C dX10_undo_20 ?_
    refine r_pf C km_0 clX10 (f := 46) (by decide) rfl q_dI rfl rfl tf_RX10_302 dX10_undo_21 h (fun M4 h => ?_)
    refine r_aln C dX10_undo_24 (k := 0) rfl ?_
    refine r_ic C dX10_undo_25 ?_
    refine r_ic C dX10_undo_26 ?_
    refine r_aln C dX10_undo_27 (k := 0) rfl ?_
    refine r_gf C km_0 clX10 (f := 46) (by decide) rfl rfl rfl tf_RX10_302 dX10_undo_28 h (fun v5 h => ?_)
    refine r_iadd C dX10_undo_31 ?_
    obtain ⟨r6, M7, hy, h⟩ := q_call_some h
    refine r_cvv C (st := []) (c_X10_copies C.2.2.1 0 (3 + v5) M4 r6 M7 hy) tm_RX10_405 mw_X10_copies ⟨rfl, rfl⟩ ⟨Nat.le_of_ble_eq_true rfl, Nat.le_of_ble_eq_true rfl⟩ km_0 clX10 rfl rfl (Nat.le_of_ble_eq_true rfl) dX10_undo_32 ?_
    refine r_aln C dX10_undo_35 (k := 0) rfl ?_
    refine r_gf C km_0 clX10 (f := 46) (by decide) rfl rfl rfl tf_RX10_302 dX10_undo_36 h (fun v8 h => ?_)
    exact r_iret C hr hlk dX10_undo_39 h
  · refine r_ic C dX10_undo_12 ?_
    exact r_iret C hr hlk dX10_undo_13 h
end P13e
