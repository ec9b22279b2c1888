section P12e
variable {p : Program} {l : Launch} {e : Env} {s : State} {m : MethodId} {args : Array Value} {below : List Frame} {meth : Method} {c : Code} {D : va_G} {ad : Nat → Nat} {cA : Nat → ClassId} {r0 : Int} {M0 : Mem}
abbrev rm_X9_bestOrder : Room := { frames := 6, cells := 0, slots := 0, locals := 150 }
theorem mw_X9_bestOrder : q_mw RX9 yX9_bestOrder cX9_bestOrder 6 (some .int) 1 := ⟨⟨ti_X9_bestOrder, tl_X9_bestOrder, tn_RX9, td_X9_bestOrder⟩, by decide +kernel⟩
def f_X9_bestOrder_B16 (x1 : Int) (x2 : Int) (x3 : Int) (x4 : Int) (M : Mem) (g16 : Int → Int → Mem → Res) : Res :=
  if w32 x2 ≤ w32 x4 then (some (x3, M))
  else (q_call (f_X9_pickRow x4 x1 M) fun r1 M2 =>
  if w32 r1 = 0 then (g16 x3 (x4 + 1) M2)
  else (q_call (f_X9_kindnessBehindRow x1 M2) fun r3 M4 =>
  if w32 r3 ≤ w32 x3 then (g16 x3 (x4 + 1) M4)
  else (q_cpy M4 44 0 45 0 4 4 4 fun M5 =>
  g16 r3 (x4 + 1) M5)))
def f_X9_bestOrder_L16 (x1 : Int) (x2 : Int) (n : Nat) (x3 : Int) (x4 : Int) (M : Mem) : Res := qlm2 (fun x3 x4 M g16 => f_X9_bestOrder_B16 x1 x2 x3 x4 M g16) n x3 x4 M
theorem w_X9_bestOrder_B16 (C : Cx syC p m c cX9_bestOrder 6 s args RX9 D ad cA) (hr : meth.sig.returnType = (some .int)) (hlk : meth.locks = false)  (x1 : Int) (x2 : Int) (x3 : Int) (x4 : Int) (M : Mem) (g16 : Int → Int → Mem → Res)  (ih16 : ∀ (ux3 ux4 : Int) (M : Mem), g16 ux3 ux4 M = some (r0, M0) → WM syC p l e rm_X9_bestOrder s m args below meth c 6 D ad cA (MQ below (q_Post syC D ad cA (some (.int (qI r0))) M0) args s 0 0 (q_A syC ad)) M 16 [(0, .ref (ad 0)), (1, .int (qI x1)), (2, .int (qI x2)), (3, .int (qI ux3)), (4, .int (qI ux4))] []) (h : f_X9_bestOrder_B16 x1 x2 x3 x4 M g16 = some (r0, M0)) : WM syC p l e rm_X9_bestOrder s m args below meth c 6 D ad cA (MQ below (q_Post syC D ad cA (some (.int (qI r0))) M0) args s 0 0 (q_A syC ad)) M 16 [(0, .ref (ad 0)), (1, .int (qI x1)), (2, .int (qI x2)), (3, .int (qI x3)), (4, .int (qI x4))] [] := by
  unfold f_X9_bestOrder_B16 at h
  refine r_il C dX9_bestOrder_16 (k := 4) rfl ?_
  refine r_iln C dX9_bestOrder_18 (k := 2) rfl ?_
  refine r_cge C (tgt := 68) dX9_bestOrder_19 (by decide) h (fun h => ?_) (fun h => ?_)
  · refine r_iln C dX9_bestOrder_68 (k := 3) rfl ?_
    exact r_iret C hr hlk dX9_bestOrder_69 h
  · refine r_aln C dX9_bestOrder_22 (k := 0) rfl ?_
    refine r_il C dX9_bestOrder_23 (k := 4) rfl ?_
    refine r_iln C dX9_bestOrder_25 (k := 1) rfl ?_
    obtain ⟨r1, M2, hy, h⟩ := q_call_some h
    refine r_cvi C (st := []) (c_X9_pickRow C.2.2.1 x4 x1 M r1 M2 hy) tm_RX9_294 mw_X9_pickRow ⟨rfl, rfl⟩ ⟨Nat.le_of_ble_eq_true rfl, Nat.le_of_ble_eq_true rfl⟩ kc_0 clX9 rfl rfl (Nat.le_of_ble_eq_true rfl) dX9_bestOrder_26 ?_
    refine r_zeq C (tgt := 62) dX9_bestOrder_29 (by decide) h (fun h => ?_) (fun h => ?_)
    · refine r_inc C (L1 := [(4, .int (qI (x4 + 1))), (0, .ref (ad 0)), (1, .int (qI x1)), (2, .int (qI x2)), (3, .int (qI x3))]) dX9_bestOrder_62 (k := 4) rfl (by decide) rfl ?_
      refine r_goto C (tgt := 16) dX9_bestOrder_65 (by decide) ?_
      refine r_drop [1, 2, 3, 4, 0] rfl ?_
      exact ih16 x3 (x4 + 1) M2 h
    · refine r_aln C dX9_bestOrder_32 (k := 0) rfl ?_
      refine r_iln C dX9_bestOrder_33 (k := 1) rfl ?_
      obtain ⟨r3, M4, hy, h⟩ := q_call_some h
      refine r_cvi C (st := []) (c_X9_kindnessBehindRow C.2.2.1 x1 M2 r3 M4 hy) tm_RX9_298 mw_X9_kindnessBehindRow ⟨rfl, rfl⟩ ⟨Nat.le_of_ble_eq_true rfl, Nat.le_of_ble_eq_true rfl⟩ kc_0 clX9 rfl rfl (Nat.le_of_ble_eq_true rfl) dX9_bestOrder_34 ?_
      refine r_is C (L1 := [(5, .int (qI r3)), (0, .ref (ad 0)), (1, .int (qI x1)), (2, .int (qI x2)), (3, .int (qI x3)), (4, .int (qI x4))]) dX9_bestOrder_37 (by decide) rfl ?_
      refine r_il C dX9_bestOrder_39 (k := 0) rfl ?_
      refine r_iln C dX9_bestOrder_41 (k := 4) rfl ?_
      refine r_cle C (tgt := 62) dX9_bestOrder_42 (by decide) h (fun h => ?_) (fun h => ?_)
      · refine r_inc C (L1 := [(4, .int (qI (x4 + 1))), (5, .int (qI r3)), (0, .ref (ad 0)), (1, .int (qI x1)), (2, .int (qI x2)), (3, .int (qI x3))]) dX9_bestOrder_62 (k := 5) rfl (by decide) rfl ?_
        refine r_goto C (tgt := 16) dX9_bestOrder_65 (by decide) ?_
        refine r_drop [2, 3, 4, 5, 0] rfl ?_
        exact ih16 x3 (x4 + 1) M4 h
      · refine r_il C dX9_bestOrder_45 (k := 0) rfl ?_
        refine r_isn C (L1 := [(3, .int (qI r3)), (5, .int (qI r3)), (0, .ref (ad 0)), (1, .int (qI x1)), (2, .int (qI x2)), (4, .int (qI x4))]) dX9_bestOrder_47 (by decide) rfl ?_
        refine r_aln C dX9_bestOrder_48 (k := 2) rfl ?_
        refine r_gs C kc_0 clX9 (f := 12) (by decide) rfl (t := 44) rfl tf_RX9_79 dX9_bestOrder_49 ?_
        refine r_ic C dX9_bestOrder_52 ?_
        refine r_aln C dX9_bestOrder_53 (k := 2) rfl ?_
        refine r_gs C kc_0 clX9 (f := 13) (by decide) rfl (t := 45) rfl tf_RX9_82 dX9_bestOrder_54 ?_
        refine r_ic C dX9_bestOrder_57 ?_
        refine r_ic C dX9_bestOrder_58 ?_
        refine r_cpy C kc_44 kc_45 (by decide) tm_RX9_301 dX9_bestOrder_59 ⟨Nat.le_of_ble_eq_true rfl, Nat.le_of_ble_eq_true rfl⟩ h (fun M5 h => ?_)
        refine r_inc C (L1 := [(4, .int (qI (x4 + 1))), (3, .int (qI r3)), (5, .int (qI r3)), (0, .ref (ad 0)), (1, .int (qI x1)), (2, .int (qI x2))]) dX9_bestOrder_62 (k := 5) rfl (by decide) rfl ?_
        refine r_goto C (tgt := 16) dX9_bestOrder_65 (by decide) ?_
        refine r_drop [3, 4, 5, 1, 0] rfl ?_
        exact ih16 r3 (x4 + 1) M5 h
theorem w_X9_bestOrder_L16 (C : Cx syC p m c cX9_bestOrder 6 s args RX9 D ad cA) (hr : meth.sig.returnType = (some .int)) (hlk : meth.locks = false)  (x1 : Int) (x2 : Int)  (n : Nat) (x3 : Int) (x4 : Int) (M : Mem) (h : f_X9_bestOrder_L16 x1 x2 n x3 x4 M = some (r0, M0)) : WM syC p l e rm_X9_bestOrder s m args below meth c 6 D ad cA (MQ below (q_Post syC D ad cA (some (.int (qI r0))) M0) args s 0 0 (q_A syC ad)) M 16 [(0, .ref (ad 0)), (1, .int (qI x1)), (2, .int (qI x2)), (3, .int (qI x3)), (4, .int (qI x4))] [] :=
  qlm2_r (Wp := fun ux3 ux4 M => WM syC p l e rm_X9_bestOrder s m args below meth c 6 D ad cA (MQ below (q_Post syC D ad cA (some (.int (qI r0))) M0) args s 0 0 (q_A syC ad)) M 16 [(0, .ref (ad 0)), (1, .int (qI x1)), (2, .int (qI x2)), (3, .int (qI ux3)), (4, .int (qI ux4))] []) (fun ux3 ux4 M g16 ih16 h => w_X9_bestOrder_B16 C hr hlk x1 x2 ux3 ux4 M g16  ih16 h) n x3 x4 M h
def f_X9_bestOrder (a0 : Int) (M : Mem) : Res :=
  q_call (f_X9_sortFirst a0 M) fun r1 M2 =>
  q_calp (f_X9_power a0 a0 M2) fun r3 =>
  f_X9_bestOrder_L16 a0 r3 q_N (-1) 0 M2
theorem c_X9_bestOrder {l : Launch} {D : va_G} {ad : Nat → Nat} {cA : Nat → ClassId} (hi : q_inj syC ad) (a0 : Int) (M : Mem) (r0 : Int) (M0 : Mem) (h : f_X9_bestOrder a0 M = some (r0, M0)) : q_Met l syC D ad cA yX9_bestOrder cX9_bestOrder 6 (some .int) rm_X9_bestOrder [.ref (ad 0), .int (qI a0)] M (some (.int (qI r0))) M0 := by
  refine q_met (L0 := [(0, .ref (ad 0)), (1, .int (qI a0))]) hi okC (by decide) (Nat.le_of_ble_eq_true rfl) rfl ?_
  intro p e s m args below meth c C hr hlk
  unfold f_X9_bestOrder at h
  refine r_aln C dX9_bestOrder_0 (k := 0) rfl ?_
  refine r_iln C dX9_bestOrder_1 (k := 1) rfl ?_
  obtain ⟨r1, M2, hy, h⟩ := q_call_some h
  refine r_cvv C (st := []) (c_X9_sortFirst C.2.2.1 a0 M r1 M2 hy) tm_RX9_288 mw_X9_sortFirst ⟨rfl, rfl⟩ ⟨Nat.le_of_ble_eq_true rfl, Nat.le_of_ble_eq_true rfl⟩ kc_0 clX9 rfl rfl (Nat.le_of_ble_eq_true rfl) dX9_bestOrder_2 ?_
  refine r_iln C dX9_bestOrder_5 (k := 1) rfl ?_
  refine r_iln C dX9_bestOrder_6 (k := 1) rfl ?_
  obtain ⟨r3, hy, h⟩ := q_calp_some h
  refine r_csi C (st := []) (c_X9_power C.2.2.1 a0 a0 M2 r3 hy) tm_RX9_291 mw_X9_power ⟨rfl, rfl⟩ ⟨Nat.le_of_ble_eq_true rfl, Nat.le_of_ble_eq_true rfl⟩ rfl rfl (Nat.le_of_ble_eq_true rfl) dX9_bestOrder_7 ?_
  refine r_isn C (L1 := [(2, .int (qI r3)), (0, .ref (ad 0)), (1, .int (qI a0))]) dX9_bestOrder_10 (by decide) rfl ?_
  refine r_ic C dX9_bestOrder_11 ?_
  refine r_isn C (L1 := [(3, .int (qI (-1))), (2, .int (qI r3)), (0, .ref (ad 0)), (1, .int (qI a0))]) dX9_bestOrder_12 (by decide) rfl ?_
  refine r_ic C dX9_bestOrder_13 ?_
  refine r_is C (L1 := [(4, .int (qI 0)), (3, .int (qI (-1))), (2, .int (qI r3)), (0, .ref (ad 0)), (1, .int (qI a0))]) dX9_bestOrder_14 (by decide) rfl ?_
  refine r_drop [3, 4, 2, 1, 0] rfl ?_
  exact w_X9_bestOrder_L16 C hr hlk a0 r3  q_N (-1) 0 M2 h
abbrev rm_X9_goneByBus : Room := { frames := 0, cells := 0, slots := 0, locals := 0 }
theorem mw_X9_goneByBus : q_mw RX9 yX9_goneByBus cX9_goneByBus 4 (some .int) 1 := ⟨⟨ti_X9_goneByBus, tl_X9_goneByBus, tn_RX9, td_X9_goneByBus⟩, by decide +kernel⟩
def f_X9_goneByBus_B4 (x1 : Int) (M : Mem) (x2 : Int) (x3 : Int) (g4 : Int → Int → Option Int) : Option Int :=
  q_gr M 0 3 fun t1 =>
  q_gf M t1 0 fun v2 =>
  if w32 v2 ≤ w32 x3 then (some x2)
  else (q_al M 162 8 x3 fun v3 =>
  if ¬ w32 v3 = w32 2 then (g4 x2 (x3 + 1))
  else (q_al M 166 8 x3 fun v4 =>
  if ¬ w32 v4 = w32 x1 then (g4 x2 (x3 + 1))
  else (g4 (x2 + 1) (x3 + 1))))
def f_X9_goneByBus_L4 (x1 : Int) (M : Mem) (n : Nat) (x2 : Int) (x3 : Int) : Option Int := qlp2 (fun x2 x3 g4 => f_X9_goneByBus_B4 x1 M x2 x3 g4) n x2 x3
theorem w_X9_goneByBus_B4 (C : Cx syC p m c cX9_goneByBus 4 s args RX9 D ad cA) (hr : meth.sig.returnType = (some .int)) (hlk : meth.locks = false)  (x1 : Int) (x2 : Int) (x3 : Int) (M : Mem) (g4 : Int → Int → Option Int)  (ih4 : ∀ (ux2 ux3 : Int) , g4 ux2 ux3  = some r0 → WM syC p l e rm_X9_goneByBus s m args below meth c 4 D ad cA (MQ below (q_Post syC D ad cA (some (.int (qI r0))) M) args s 0 0 (q_A syC ad)) M 4 [(0, .ref (ad 0)), (1, .int (qI x1)), (2, .int (qI ux2)), (3, .int (qI ux3))] []) (h : f_X9_goneByBus_B4 x1 M x2 x3 g4 = some r0) : WM syC p l e rm_X9_goneByBus s m args below meth c 4 D ad cA (MQ below (q_Post syC D ad cA (some (.int (qI r0))) M) args s 0 0 (q_A syC ad)) M 4 [(0, .ref (ad 0)), (1, .int (qI x1)), (2, .int (qI x2)), (3, .int (qI x3))] [] := by
  unfold f_X9_goneByBus_B4 at h
  refine r_iln C dX9_goneByBus_4 (k := 3) rfl ?_
  refine r_aln C dX9_goneByBus_5 (k := 0) rfl ?_
  refine r_gr C kc_0 clX9 (f := 3) (fz := 3) (Pp := isT) (by decide) rfl rfl (fun q => q.1) tf_RX9_31 dX9_goneByBus_6 h (fun t1 ht1 h => ?_)
  refine r_gf C (kT ht1) clX8 (f := 0) (by decide) rfl rfl rfl tf_RX9_125 dX9_goneByBus_9 h (fun v2 h => ?_)
  refine r_cge C (tgt := 50) dX9_goneByBus_12 (by decide) h (fun h => ?_) (fun h => ?_)
  · refine r_iln C dX9_goneByBus_50 (k := 2) rfl ?_
    exact r_iretp C hr hlk dX9_goneByBus_51 h
  · refine r_aln C dX9_goneByBus_15 (k := 0) rfl ?_
    refine r_gs C kc_0 clX9 (f := 4) (by decide) rfl (t := 4) rfl tf_RX9_38 dX9_goneByBus_16 ?_
    refine r_gs C kc_4 clX6 (f := 2) (by decide) rfl (t := 162) rfl tf_RX9_149 dX9_goneByBus_19 ?_
    refine r_iln C dX9_goneByBus_22 (k := 3) rfl ?_
    refine r_iald C kc_162 dX9_goneByBus_23 h (fun v3 h => ?_)
    refine r_ic C dX9_goneByBus_24 ?_
    refine r_cne C (tgt := 44) dX9_goneByBus_25 (by decide) h (fun h => ?_) (fun h => ?_)
    · refine r_inc C (L1 := [(3, .int (qI (x3 + 1))), (0, .ref (ad 0)), (1, .int (qI x1)), (2, .int (qI x2))]) dX9_goneByBus_44 (k := 3) rfl (by decide) rfl ?_
      refine r_goto C (tgt := 4) dX9_goneByBus_47 (by decide) ?_
      refine r_drop [1, 2, 3, 0] rfl ?_
      exact ih4 x2 (x3 + 1)  h
    · refine r_aln C dX9_goneByBus_28 (k := 0) rfl ?_
      refine r_gs C kc_0 clX9 (f := 4) (by decide) rfl (t := 4) rfl tf_RX9_38 dX9_goneByBus_29 ?_
      refine r_gs C kc_4 clX6 (f := 6) (by decide) rfl (t := 166) rfl tf_RX9_165 dX9_goneByBus_32 ?_
      refine r_iln C dX9_goneByBus_35 (k := 3) rfl ?_
      refine r_iald C kc_166 dX9_goneByBus_36 h (fun v4 h => ?_)
      refine r_iln C dX9_goneByBus_37 (k := 1) rfl ?_
      refine r_cne C (tgt := 44) dX9_goneByBus_38 (by decide) h (fun h => ?_) (fun h => ?_)
      · refine r_inc C (L1 := [(3, .int (qI (x3 + 1))), (0, .ref (ad 0)), (1, .int (qI x1)), (2, .int (qI x2))]) dX9_goneByBus_44 (k := 3) rfl (by decide) rfl ?_
        refine r_goto C (tgt := 4) dX9_goneByBus_47 (by decide) ?_
        refine r_drop [1, 2, 3, 0] rfl ?_
        exact ih4 x2 (x3 + 1)  h
      · refine r_inc C (L1 := [(2, .int (qI (x2 + 1))), (0, .ref (ad 0)), (1, .int (qI x1)), (3, .int (qI x3))]) dX9_goneByBus_41 (k := 2) rfl (by decide) rfl ?_
        refine r_inc C (L1 := [(3, .int (qI (x3 + 1))), (2, .int (qI (x2 + 1))), (0, .ref (ad 0)), (1, .int (qI x1))]) dX9_goneByBus_44 (k := 3) rfl (by decide) rfl ?_
        refine r_goto C (tgt := 4) dX9_goneByBus_47 (by decide) ?_
        refine r_drop [2, 3, 1, 0] rfl ?_
        exact ih4 (x2 + 1) (x3 + 1)  h
theorem w_X9_goneByBus_L4 (C : Cx syC p m c cX9_goneByBus 4 s args RX9 D ad cA) (hr : meth.sig.returnType = (some .int)) (hlk : meth.locks = false)  (x1 : Int) (M : Mem)  (n : Nat) (x2 : Int) (x3 : Int) (h : f_X9_goneByBus_L4 x1 M n x2 x3 = some r0) : WM syC p l e rm_X9_goneByBus s m args below meth c 4 D ad cA (MQ below (q_Post syC D ad cA (some (.int (qI r0))) M) args s 0 0 (q_A syC ad)) M 4 [(0, .ref (ad 0)), (1, .int (qI x1)), (2, .int (qI x2)), (3, .int (qI x3))] [] :=
  qlp2_r (Wp := fun ux2 ux3 => WM syC p l e rm_X9_goneByBus s m args below meth c 4 D ad cA (MQ below (q_Post syC D ad cA (some (.int (qI r0))) M) args s 0 0 (q_A syC ad)) M 4 [(0, .ref (ad 0)), (1, .int (qI x1)), (2, .int (qI ux2)), (3, .int (qI ux3))] []) (fun ux2 ux3 g4 ih4 h => w_X9_goneByBus_B4 C hr hlk x1 ux2 ux3 M g4  ih4 h) n x2 x3 h
def f_X9_goneByBus (a0 : Int) (M : Mem) : Option Int :=
  f_X9_goneByBus_L4 a0 M q_N 0 0
theorem c_X9_goneByBus {l : Launch} {D : va_G} {ad : Nat → Nat} {cA : Nat → ClassId} (hi : q_inj syC ad) (a0 : Int) (M : Mem) (r0 : Int) (h : f_X9_goneByBus a0 M = some r0) : q_Met l syC D ad cA yX9_goneByBus cX9_goneByBus 4 (some .int) rm_X9_goneByBus [.ref (ad 0), .int (qI a0)] M (some (.int (qI r0))) M := by
  refine q_met (L0 := [(0, .ref (ad 0)), (1, .int (qI a0))]) hi okC (by decide) (Nat.le_of_ble_eq_true rfl) rfl ?_
  intro p e s m args below meth c C hr hlk
  unfold f_X9_goneByBus at h
  refine r_ic C dX9_goneByBus_0 ?_
  refine r_isn C (L1 := [(2, .int (qI 0)), (0, .ref (ad 0)), (1, .int (qI a0))]) dX9_goneByBus_1 (by decide) rfl ?_
  refine r_ic C dX9_goneByBus_2 ?_
  refine r_isn C (L1 := [(3, .int (qI 0)), (2, .int (qI 0)), (0, .ref (ad 0)), (1, .int (qI a0))]) dX9_goneByBus_3 (by decide) rfl ?_
  refine r_drop [2, 3, 1, 0] rfl ?_
  exact w_X9_goneByBus_L4 C hr hlk a0 M  q_N 0 0 h
abbrev rm_X9_bus : Room := { frames := 1, cells := 0, slots := 0, locals := 23 }
theorem mw_X9_bus : q_mw RX9 yX9_bus cX9_bus 3 (some .int) 2 := ⟨⟨ti_X9_bus, tl_X9_bus, tn_RX9, td_X9_bus⟩, by decide +kernel⟩
def f_X9_bus (a0 : Int) (a1 : Int) (M : Mem) : Option Int :=
  q_calp (f_X9_isBus a0 M) fun r1 =>
  if ¬ w32 r1 = 0 then (if w32 a1 = 0 then (q_gr M 0 3 fun t2 =>
  q_al M (32 * (t2 + 1) + 9) 4 a0 fun v3 =>
  some v3)
  else if w32 a1 = 1 then (q_gr M 0 3 fun t4 =>
  q_al M (32 * (t4 + 1) + 10) 4 a0 fun v5 =>
  some v5)
  else if w32 a1 = 2 then (q_gr M 0 3 fun t6 =>
  q_al M (32 * (t6 + 1) + 11) 4 a0 fun v7 =>
  some v7)
  else if w32 a1 = 3 then (q_gr M 0 3 fun t8 =>
  q_al M (32 * (t8 + 1) + 12) 4 a0 fun v9 =>
  some v9)
  else if w32 a1 = 4 then (q_calp (f_X9_goneByBus a0 M) fun r10 =>
  some r10)
  else (some (-1)))
  else (some (-1))
theorem c_X9_bus {l : Launch} {D : va_G} {ad : Nat → Nat} {cA : Nat → ClassId} (hi : q_inj syC ad) (a0 : Int) (a1 : Int) (M : Mem) (r0 : Int) (h : f_X9_bus a0 a1 M = some r0) : q_Met l syC D ad cA yX9_bus cX9_bus 3 (some .int) rm_X9_bus [.ref (ad 0), .int (qI a0), .int (qI a1)] M (some (.int (qI r0))) M := by
  refine q_met (L0 := [(0, .ref (ad 0)), (1, .int (qI a0)), (2, .int (qI a1))]) hi okC (by decide) (Nat.le_of_ble_eq_true rfl) rfl ?_
  intro p e s m args below meth c C hr hlk
  unfold f_X9_bus at h
  refine r_aln C dX9_bus_0 (k := 0) rfl ?_
  refine r_iln C dX9_bus_1 (k := 1) rfl ?_
  obtain ⟨r1, hy, h⟩ := q_calp_some h
  refine r_cvi C (st := []) (c_X9_isBus C.2.2.1 a0 M r1 hy) tm_RX9_179 mw_X9_isBus ⟨rfl, rfl⟩ ⟨Nat.le_of_ble_eq_true rfl, Nat.le_of_ble_eq_true rfl⟩ kc_0 clX9 rfl rfl (Nat.le_of_ble_eq_true rfl) dX9_bus_2 ?_
  refine r_zne C (tgt := 10) dX9_bus_5 (by decide) h (fun h => ?_) (fun h => ?_)
  · refine r_iln C dX9_bus_10 (k := 2) rfl ?_
    refine r_tc C h (fun e h => ?_) (fun ne0 h => ?_)
    · refine r_tin C (tgt := 44) dX9_bus_11 e (by decide) rfl (by decide) ?_
      refine r_aln C dX9_bus_44 (k := 0) rfl ?_
      refine r_gr C kc_0 clX9 (f := 3) (fz := 3) (Pp := isT) (by decide) rfl rfl (fun q => q.1) tf_RX9_31 dX9_bus_45 h (fun t2 ht2 h => ?_)
      refine r_gs C (kT ht2) clX8 (f := 9) (by decide) rfl (t := (32 * (t2 + 1) + 9)) rfl tf_RX9_182 dX9_bus_48 ?_
      refine r_iln C dX9_bus_51 (k := 1) rfl ?_
      refine r_iald C (kT_9 ht2) dX9_bus_52 h (fun v3 h => ?_)
      exact r_iretp C hr hlk dX9_bus_53 h
    refine r_tc C h (fun e h => ?_) (fun ne1 h => ?_)
    · refine r_tin C (tgt := 54) dX9_bus_11 e (by decide) rfl (by decide) ?_
      refine r_aln C dX9_bus_54 (k := 0) rfl ?_
      refine r_gr C kc_0 clX9 (f := 3) (fz := 3) (Pp := isT) (by decide) rfl rfl (fun q => q.1) tf_RX9_31 dX9_bus_55 h (fun t4 ht4 h => ?_)
      refine r_gs C (kT ht4) clX8 (f := 10) (by decide) rfl (t := (32 * (t4 + 1) + 10)) rfl tf_RX9_185 dX9_bus_58 ?_
      refine r_iln C dX9_bus_61 (k := 1) rfl ?_
      refine r_iald C (kT_10 ht4) dX9_bus_62 h (fun v5 h => ?_)
      exact r_iretp C hr hlk dX9_bus_63 h
    refine r_tc C h (fun e h => ?_) (fun ne2 h => ?_)
    · refine r_tin C (tgt := 64) dX9_bus_11 e (by decide) rfl (by decide) ?_
      refine r_aln C dX9_bus_64 (k := 0) rfl ?_
      refine r_gr C kc_0 clX9 (f := 3) (fz := 3) (Pp := isT) (by decide) rfl rfl (fun q => q.1) tf_RX9_31 dX9_bus_65 h (fun t6 ht6 h => ?_)
      refine r_gs C (kT ht6) clX8 (f := 11) (by decide) rfl (t := (32 * (t6 + 1) + 11)) rfl tf_RX9_188 dX9_bus_68 ?_
      refine r_iln C dX9_bus_71 (k := 1) rfl ?_
      refine r_iald C (kT_11 ht6) dX9_bus_72 h (fun v7 h => ?_)
      exact r_iretp C hr hlk dX9_bus_73 h
    refine r_tc C h (fun e h => ?_) (fun ne3 h => ?_)
    · refine r_tin C (tgt := 74) dX9_bus_11 e (by decide) rfl (by decide) ?_
      refine r_aln C dX9_bus_74 (k := 0) rfl ?_
      refine r_gr C kc_0 clX9 (f := 3) (fz := 3) (Pp := isT) (by decide) rfl rfl (fun q => q.1) tf_RX9_31 dX9_bus_75 h (fun t8 ht8 h => ?_)
      refine r_gs C (kT ht8) clX8 (f := 12) (by decide) rfl (t := (32 * (t8 + 1) + 12)) rfl tf_RX9_191 dX9_bus_78 ?_
      refine r_iln C dX9_bus_81 (k := 1) rfl ?_
      refine r_iald C (kT_12 ht8) dX9_bus_82 h (fun v9 h => ?_)
      exact r_iretp C hr hlk dX9_bus_83 h
    refine r_tc C h (fun e h => ?_) (fun ne4 h => ?_)
    · refine r_tin C (tgt := 84) dX9_bus_11 e (by decide) rfl (by decide) ?_
      refine r_aln C dX9_bus_84 (k := 0) rfl ?_
      refine r_iln C dX9_bus_85 (k := 1) rfl ?_
      obtain ⟨r10, hy, h⟩ := q_calp_some h
      refine r_cvi C (st := []) (c_X9_goneByBus C.2.2.1 a0 M r10 hy) tm_RX9_194 mw_X9_goneByBus ⟨rfl, rfl⟩ ⟨Nat.le_of_ble_eq_true rfl, Nat.le_of_ble_eq_true rfl⟩ kc_0 clX9 rfl rfl (Nat.le_of_ble_eq_true rfl) dX9_bus_86 ?_
      exact r_iretp C hr hlk dX9_bus_89 h
    refine r_tout C (tgt := 90) dX9_bus_11 (by omega) (by decide) ?_
    refine r_ic C dX9_bus_90 ?_
    exact r_iretp C hr hlk dX9_bus_91 h
  · refine r_ic C dX9_bus_8 ?_
    exact r_iretp C hr hlk dX9_bus_9 h
abbrev rm_X9_chance : Room := { frames := 5, cells := 0, slots := 0, locals := 128 }
theorem mw_X9_chance : q_mw RX9 yX9_chance cX9_chance 8 (some .int) 4 := ⟨⟨ti_X9_chance, tl_X9_chance, tn_RX9, td_X9_chance⟩, by decide +kernel⟩
def f_X9_chance_B47 (x2 : Int) (x3 : Int) (x4 : Int) (x5 : Int) (x6 : Int) (x7 : Int) (M : Mem) (g47 : Int → Int → Int → Mem → Res) : Res :=
  if w32 10 ≤ w32 x7 then (some (x6, M))
  else (q_call (f_X9_tryFromNow  M) fun r1 M2 =>
  q_pz M2 7 2 1 fun M3 =>
  q_pf M3 5 1 x5 fun M4 =>
  q_call (f_X3_pass x2 M4) fun r5 M6 =>
  q_gf M6 5 1 fun v7 =>
  q_al M6 196 8 x3 fun v8 =>
  if w32 v8 < w32 x4 then (g47 v7 x6 (x7 + 1) M6)
  else (g47 v7 (x6 + 1) (x7 + 1) M6))
def f_X9_chance_L47 (x2 : Int) (x3 : Int) (x4 : Int) (n : Nat) (x5 : Int) (x6 : Int) (x7 : Int) (M : Mem) : Res := qlm3 (fun x5 x6 x7 M g47 => f_X9_chance_B47 x2 x3 x4 x5 x6 x7 M g47) n x5 x6 x7 M
theorem w_X9_chance_B47 (C : Cx syC p m c cX9_chance 8 s args RX9 D ad cA) (hr : meth.sig.returnType = (some .int)) (hlk : meth.locks = false)  (x2 : Int) (x3 : Int) (x4 : Int) (x5 : Int) (x6 : Int) (x7 : Int) (M : Mem) (g47 : Int → Int → Int → Mem → Res)  (ih47 : ∀ (ux5 ux6 ux7 : Int) (M : Mem), g47 ux5 ux6 ux7 M = some (r0, M0) → WM syC p l e rm_X9_chance s m args below meth c 8 D ad cA (MQ below (q_Post syC D ad cA (some (.int (qI r0))) M0) args s 0 0 (q_A syC ad)) M 47 [(0, .ref (ad 0)), (2, .int (qI x2)), (3, .int (qI x3)), (4, .int (qI x4)), (5, .int (qI ux5)), (6, .int (qI ux6)), (7, .int (qI ux7))] []) (h : f_X9_chance_B47 x2 x3 x4 x5 x6 x7 M g47 = some (r0, M0)) : WM syC p l e rm_X9_chance s m args below meth c 8 D ad cA (MQ below (q_Post syC D ad cA (some (.int (qI r0))) M0) args s 0 0 (q_A syC ad)) M 47 [(0, .ref (ad 0)), (2, .int (qI x2)), (3, .int (qI x3)), (4, .int (qI x4)), (5, .int (qI x5)), (6, .int (qI x6)), (7, .int (qI x7))] [] := by
  unfold f_X9_chance_B47 at h
  refine r_il C dX9_chance_47 (k := 6) rfl ?_
  refine r_bi C dX9_chance_49 (by decide) ?_
  refine r_cge C (tgt := 115) dX9_chance_51 (by decide) h (fun h => ?_) (fun h => ?_)
  · refine r_il C dX9_chance_115 (k := 5) rfl ?_
    exact r_iret C hr hlk dX9_chance_117 h
  · refine r_aln C dX9_chance_54 (k := 0) rfl ?_
    obtain ⟨r1, M2, hy, h⟩ := q_call_some h
    refine r_cvv C (st := []) (c_X9_tryFromNow C.2.2.1 M r1 M2 hy) tm_RX9_258 mw_X9_tryFromNow ⟨rfl, rfl⟩ ⟨Nat.le_of_ble_eq_true rfl, Nat.le_of_ble_eq_true rfl⟩ kc_0 clX9 rfl rfl (Nat.le_of_ble_eq_true rfl) dX9_chance_55 ?_
    refine r_aln C dX9_chance_58 (k := 0) rfl ?_
    refine r_gs C kc_0 clX9 (f := 8) (by decide) rfl (t := 7) rfl tf_RX9_57 dX9_chance_59 ?_
    refine r_ic C dX9_chance_62 ?_
    refine r_pz C kc_7 clX3 (f := 2) (by decide) rfl q_dZ rfl rfl tf_RX9_248 dX9_chance_63 h (fun M3 h => ?_)
    refine r_aln C dX9_chance_66 (k := 0) rfl ?_
    refine r_gs C kc_0 clX9 (f := 5) (by decide) rfl (t := 5) rfl tf_RX9_42 dX9_chance_67 ?_
    refine r_il C dX9_chance_70 (k := 4) rfl ?_
    refine r_pf C kc_5 clX6 (f := 1) (by decide) rfl q_dI rfl rfl tf_RX9_372 dX9_chance_72 h (fun M4 h => ?_)
    refine r_aln C dX9_chance_75 (k := 0) rfl ?_
    refine r_gs C kc_0 clX9 (f := 8) (by decide) rfl (t := 7) rfl tf_RX9_57 dX9_chance_76 ?_
    refine r_iln C dX9_chance_79 (k := 1) rfl ?_
    obtain ⟨r5, M6, hy, h⟩ := q_call_some h
    refine r_cvv C (st := []) (c_X3_pass C.2.2.1 x2 M4 r5 M6 hy) tm_RX9_251 mw_X3_pass ⟨rfl, rfl⟩ ⟨Nat.le_of_ble_eq_true rfl, Nat.le_of_ble_eq_true rfl⟩ kc_7 clX3 rfl rfl (Nat.le_of_ble_eq_true rfl) dX9_chance_80 ?_
    refine r_aln C dX9_chance_83 (k := 0) rfl ?_
    refine r_gs C kc_0 clX9 (f := 5) (by decide) rfl (t := 5) rfl tf_RX9_42 dX9_chance_84 ?_
    refine r_gf C kc_5 clX6 (f := 1) (by decide) rfl rfl rfl tf_RX9_372 dX9_chance_87 h (fun v7 h => ?_)
    refine r_is C (L1 := [(5, .int (qI v7)), (0, .ref (ad 0)), (2, .int (qI x2)), (3, .int (qI x3)), (4, .int (qI x4)), (6, .int (qI x6)), (7, .int (qI x7))]) dX9_chance_90 (by decide) rfl ?_
    refine r_aln C dX9_chance_92 (k := 1) rfl ?_
    refine r_gs C kc_0 clX9 (f := 5) (by decide) rfl (t := 5) rfl tf_RX9_42 dX9_chance_93 ?_
    refine r_gs C kc_5 clX6 (f := 4) (by decide) rfl (t := 196) rfl tf_RX9_156 dX9_chance_96 ?_
    refine r_iln C dX9_chance_99 (k := 3) rfl ?_
    refine r_iald C kc_196 dX9_chance_100 h (fun v8 h => ?_)
    refine r_il C dX9_chance_101 (k := 4) rfl ?_
    refine r_clt C (tgt := 109) dX9_chance_103 (by decide) h (fun h => ?_) (fun h => ?_)
    · refine r_inc C (L1 := [(7, .int (qI (x7 + 1))), (5, .int (qI v7)), (0, .ref (ad 0)), (2, .int (qI x2)), (3, .int (qI x3)), (4, .int (qI x4)), (6, .int (qI x6))]) dX9_chance_109 (k := 6) rfl (by decide) rfl ?_
      refine r_goto C (tgt := 47) dX9_chance_112 (by decide) ?_
      refine r_drop [2, 3, 4, 5, 1, 6, 0] rfl ?_
      exact ih47 v7 x6 (x7 + 1) M6 h
    · refine r_inc C (L1 := [(6, .int (qI (x6 + 1))), (5, .int (qI v7)), (0, .ref (ad 0)), (2, .int (qI x2)), (3, .int (qI x3)), (4, .int (qI x4)), (7, .int (qI x7))]) dX9_chance_106 (k := 5) rfl (by decide) rfl ?_
      refine r_inc C (L1 := [(7, .int (qI (x7 + 1))), (6, .int (qI (x6 + 1))), (5, .int (qI v7)), (0, .ref (ad 0)), (2, .int (qI x2)), (3, .int (qI x3)), (4, .int (qI x4))]) dX9_chance_109 (k := 6) rfl (by decide) rfl ?_
      refine r_goto C (tgt := 47) dX9_chance_112 (by decide) ?_
      refine r_drop [3, 4, 5, 6, 2, 1, 0] rfl ?_
      exact ih47 v7 (x6 + 1) (x7 + 1) M6 h
theorem w_X9_chance_L47 (C : Cx syC p m c cX9_chance 8 s args RX9 D ad cA) (hr : meth.sig.returnType = (some .int)) (hlk : meth.locks = false)  (x2 : Int) (x3 : Int) (x4 : Int)  (n : Nat) (x5 : Int) (x6 : Int) (x7 : Int) (M : Mem) (h : f_X9_chance_L47 x2 x3 x4 n x5 x6 x7 M = some (r0, M0)) : WM syC p l e rm_X9_chance s m args below meth c 8 D ad cA (MQ below (q_Post syC D ad cA (some (.int (qI r0))) M0) args s 0 0 (q_A syC ad)) M 47 [(0, .ref (ad 0)), (2, .int (qI x2)), (3, .int (qI x3)), (4, .int (qI x4)), (5, .int (qI x5)), (6, .int (qI x6)), (7, .int (qI x7))] [] :=
  qlm3_r (Wp := fun ux5 ux6 ux7 M => WM syC p l e rm_X9_chance s m args below meth c 8 D ad cA (MQ below (q_Post syC D ad cA (some (.int (qI r0))) M0) args s 0 0 (q_A syC ad)) M 47 [(0, .ref (ad 0)), (2, .int (qI x2)), (3, .int (qI x3)), (4, .int (qI x4)), (5, .int (qI ux5)), (6, .int (qI ux6)), (7, .int (qI ux7))] []) (fun ux5 ux6 ux7 M g47 ih47 h => w_X9_chance_B47 C hr hlk x2 x3 x4 ux5 ux6 ux7 M g47  ih47 h) n x5 x6 x7 M h
def f_X9_chance (a0 : Int) (a1 : Int) (a2 : Int) (a3 : Int) (M : Mem) : Res :=
  if w32 a0 < 0 then (some ((-1), M))
  else (if w32 a1 < w32 1 then (some ((-1), M))
  else (if w32 99 < w32 a1 then (some ((-1), M))
  else (q_calp (f_X9_isSoul a2 M) fun r1 =>
  if w32 r1 = 0 then (some ((-1), M))
  else (if w32 a3 < 0 then (some ((-1), M))
  else (if w32 a3 ≤ w32 999 then (f_X9_chance_L47 a1 a2 a3 q_N a0 0 0 M)
  else (some ((-1), M)))))))
theorem c_X9_chance {l : Launch} {D : va_G} {ad : Nat → Nat} {cA : Nat → ClassId} (hi : q_inj syC ad) (a0 : Int) (a1 : Int) (a2 : Int) (a3 : Int) (M : Mem) (r0 : Int) (M0 : Mem) (h : f_X9_chance a0 a1 a2 a3 M = some (r0, M0)) : q_Met l syC D ad cA yX9_chance cX9_chance 8 (some .int) rm_X9_chance [.ref (ad 0), .int (qI a0), .int (qI a1), .int (qI a2), .int (qI a3)] M (some (.int (qI r0))) M0 := by
  refine q_met (L0 := [(0, .ref (ad 0)), (1, .int (qI a0)), (2, .int (qI a1)), (3, .int (qI a2)), (4, .int (qI a3))]) hi okC (by decide) (Nat.le_of_ble_eq_true rfl) rfl ?_
  intro p e s m args below meth c C hr hlk
  unfold f_X9_chance at h
  refine r_iln C dX9_chance_0 (k := 1) rfl ?_
  refine r_zlt C (tgt := 36) dX9_chance_1 (by decide) h (fun h => ?_) (fun h => ?_)
  · refine r_ic C dX9_chance_36 ?_
    exact r_iret C hr hlk dX9_chance_37 h
  · refine r_iln C dX9_chance_4 (k := 2) rfl ?_
    refine r_ic C dX9_chance_5 ?_
    refine r_clt C (tgt := 36) dX9_chance_6 (by decide) h (fun h => ?_) (fun h => ?_)
    · refine r_ic C dX9_chance_36 ?_
      exact r_iret C hr hlk dX9_chance_37 h
    · refine r_iln C dX9_chance_9 (k := 2) rfl ?_
      refine r_bi C dX9_chance_10 (by decide) ?_
      refine r_cgt C (tgt := 36) dX9_chance_12 (by decide) h (fun h => ?_) (fun h => ?_)
      · refine r_ic C dX9_chance_36 ?_
        exact r_iret C hr hlk dX9_chance_37 h
      · refine r_aln C dX9_chance_15 (k := 0) rfl ?_
        refine r_iln C dX9_chance_16 (k := 3) rfl ?_
        obtain ⟨r1, hy, h⟩ := q_calp_some h
        refine r_cvi C (st := []) (c_X9_isSoul C.2.2.1 a2 M r1 hy) tm_RX9_138 mw_X9_isSoul ⟨rfl, rfl⟩ ⟨Nat.le_of_ble_eq_true rfl, Nat.le_of_ble_eq_true rfl⟩ kc_0 clX9 rfl rfl (Nat.le_of_ble_eq_true rfl) dX9_chance_17 ?_
        refine r_zeq C (tgt := 36) dX9_chance_20 (by decide) h (fun h => ?_) (fun h => ?_)
        · refine r_ic C dX9_chance_36 ?_
          exact r_iret C hr hlk dX9_chance_37 h
        · refine r_il C dX9_chance_23 (k := 4) rfl ?_
          refine r_zlt C (tgt := 36) dX9_chance_25 (by decide) h (fun h => ?_) (fun h => ?_)
          · refine r_ic C dX9_chance_36 ?_
            exact r_iret C hr hlk dX9_chance_37 h
          · refine r_il C dX9_chance_28 (k := 4) rfl ?_
            refine r_si C dX9_chance_30 (by decide) ?_
            refine r_cle C (tgt := 38) dX9_chance_33 (by decide) h (fun h => ?_) (fun h => ?_)
            · refine r_iln C dX9_chance_38 (k := 1) rfl ?_
              refine r_is C (L1 := [(5, .int (qI a0)), (0, .ref (ad 0)), (1, .int (qI a0)), (2, .int (qI a1)), (3, .int (qI a2)), (4, .int (qI a3))]) dX9_chance_39 (by decide) rfl ?_
              refine r_ic C dX9_chance_41 ?_
              refine r_is C (L1 := [(6, .int (qI 0)), (5, .int (qI a0)), (0, .ref (ad 0)), (1, .int (qI a0)), (2, .int (qI a1)), (3, .int (qI a2)), (4, .int (qI a3))]) dX9_chance_42 (by decide) rfl ?_
              refine r_ic C dX9_chance_44 ?_
              refine r_is C (L1 := [(7, .int (qI 0)), (6, .int (qI 0)), (5, .int (qI a0)), (0, .ref (ad 0)), (1, .int (qI a0)), (2, .int (qI a1)), (3, .int (qI a2)), (4, .int (qI a3))]) dX9_chance_45 (by decide) rfl ?_
              refine r_drop [3, 5, 6, 7, 2, 1, 0] rfl ?_
              exact w_X9_chance_L47 C hr hlk a1 a2 a3  q_N a0 0 0 M h
            · refine r_ic C dX9_chance_36 ?_
              exact r_iret C hr hlk dX9_chance_37 h
abbrev rm_X9_coins : Room := { frames := 6, cells := 0, slots := 0, locals := 151 }
theorem mw_X9_coins : q_mw RX9 yX9_coins cX9_coins 3 (some .int) 1 := ⟨⟨ti_X9_coins, tl_X9_coins, tn_RX9, td_X9_coins⟩, by decide +kernel⟩
def f_X9_coins_B12 (x1 : Int) (x2 : Int) (M : Mem) (g12 : Int → Mem → Res) : Res :=
  q_al M 163 8 x1 fun v1 =>
  if w32 99 < w32 (v1 + x2) then (some ((-2), M))
  else (q_call (f_X9_tryFromNow  M) fun r2 M3 =>
  q_al M3 195 8 x1 fun v4 =>
  q_as M3 195 8 x1 (v4 + x2) fun M5 =>
  q_call (f_X3_tillGone x1 60 M5) fun r6 M7 =>
  if w32 r6 = w32 (-2) then (g12 (x2 + 1) M7)
  else (some (x2, M7)))
def f_X9_coins_L12 (x1 : Int) (n : Nat) (x2 : Int) (M : Mem) : Res := qlm1 (fun x2 M g12 => f_X9_coins_B12 x1 x2 M g12) n x2 M
theorem w_X9_coins_B12 (C : Cx syC p m c cX9_coins 3 s args RX9 D ad cA) (hr : meth.sig.returnType = (some .int)) (hlk : meth.locks = false)  (x1 : Int) (x2 : Int) (M : Mem) (g12 : Int → Mem → Res)  (ih12 : ∀ (ux2 : Int) (M : Mem), g12 ux2 M = some (r0, M0) → WM syC p l e rm_X9_coins s m args below meth c 3 D ad cA (MQ below (q_Post syC D ad cA (some (.int (qI r0))) M0) args s 0 0 (q_A syC ad)) M 12 [(0, .ref (ad 0)), (1, .int (qI x1)), (2, .int (qI ux2))] []) (h : f_X9_coins_B12 x1 x2 M g12 = some (r0, M0)) : WM syC p l e rm_X9_coins s m args below meth c 3 D ad cA (MQ below (q_Post syC D ad cA (some (.int (qI r0))) M0) args s 0 0 (q_A syC ad)) M 12 [(0, .ref (ad 0)), (1, .int (qI x1)), (2, .int (qI x2))] [] := by
  unfold f_X9_coins_B12 at h
  refine r_aln C dX9_coins_12 (k := 0) rfl ?_
  refine r_gs C kc_0 clX9 (f := 4) (by decide) rfl (t := 4) rfl tf_RX9_38 dX9_coins_13 ?_
  refine r_gs C kc_4 clX6 (f := 3) (by decide) rfl (t := 163) rfl tf_RX9_155 dX9_coins_16 ?_
  refine r_iln C dX9_coins_19 (k := 1) rfl ?_
  refine r_iald C kc_163 dX9_coins_20 h (fun v1 h => ?_)
  refine r_iln C dX9_coins_21 (k := 2) rfl ?_
  refine r_iadd C dX9_coins_22 ?_
  refine r_bi C dX9_coins_23 (by decide) ?_
  refine r_cgt C (tgt := 68) dX9_coins_25 (by decide) h (fun h => ?_) (fun h => ?_)
  · refine r_bi C dX9_coins_68 (by decide) ?_
    exact r_iret C hr hlk dX9_coins_70 h
  · refine r_aln C dX9_coins_28 (k := 0) rfl ?_
    obtain ⟨r2, M3, hy, h⟩ := q_call_some h
    refine r_cvv C (st := []) (c_X9_tryFromNow C.2.2.1 M r2 M3 hy) tm_RX9_258 mw_X9_tryFromNow ⟨rfl, rfl⟩ ⟨Nat.le_of_ble_eq_true rfl, Nat.le_of_ble_eq_true rfl⟩ kc_0 clX9 rfl rfl (Nat.le_of_ble_eq_true rfl) dX9_coins_29 ?_
    refine r_aln C dX9_coins_32 (k := 0) rfl ?_
    refine r_gs C kc_0 clX9 (f := 5) (by decide) rfl (t := 5) rfl tf_RX9_42 dX9_coins_33 ?_
    refine r_gs C kc_5 clX6 (f := 3) (by decide) rfl (t := 195) rfl tf_RX9_155 dX9_coins_36 ?_
    refine r_iln C dX9_coins_39 (k := 1) rfl ?_
    refine r_dup2 C rfl rfl dX9_coins_40 ?_
    refine r_iald C kc_195 dX9_coins_41 h (fun v4 h => ?_)
    refine r_iln C dX9_coins_42 (k := 2) rfl ?_
    refine r_iadd C dX9_coins_43 ?_
    refine r_iast C kc_195 dX9_coins_44 h (fun M5 h => ?_)
    refine r_aln C dX9_coins_45 (k := 0) rfl ?_
    refine r_gs C kc_0 clX9 (f := 8) (by decide) rfl (t := 7) rfl tf_RX9_57 dX9_coins_46 ?_
    refine r_iln C dX9_coins_49 (k := 1) rfl ?_
    refine r_bi C dX9_coins_50 (by decide) ?_
    obtain ⟨r6, M7, hy, h⟩ := q_call_some h
    refine r_cvi C (st := []) (c_X3_tillGone C.2.2.1 x1 60 M5 r6 M7 hy) tm_RX9_278 mw_X3_tillGone ⟨rfl, rfl⟩ ⟨Nat.le_of_ble_eq_true rfl, Nat.le_of_ble_eq_true rfl⟩ kc_7 clX3 rfl rfl (Nat.le_of_ble_eq_true rfl) dX9_coins_52 ?_
    refine r_bi C dX9_coins_55 (by decide) ?_
    refine r_ceq C (tgt := 62) dX9_coins_57 (by decide) h (fun h => ?_) (fun h => ?_)
    · refine r_inc C (L1 := [(2, .int (qI (x2 + 1))), (0, .ref (ad 0)), (1, .int (qI x1))]) dX9_coins_62 (k := 2) rfl (by decide) rfl ?_
      refine r_goto C (tgt := 12) dX9_coins_65 (by decide) ?_
      refine r_drop [1, 2, 0] rfl ?_
      exact ih12 (x2 + 1) M7 h
    · refine r_iln C dX9_coins_60 (k := 2) rfl ?_
      exact r_iret C hr hlk dX9_coins_61 h
theorem w_X9_coins_L12 (C : Cx syC p m c cX9_coins 3 s args RX9 D ad cA) (hr : meth.sig.returnType = (some .int)) (hlk : meth.locks = false)  (x1 : Int)  (n : Nat) (x2 : Int) (M : Mem) (h : f_X9_coins_L12 x1 n x2 M = some (r0, M0)) : WM syC p l e rm_X9_coins s m args below meth c 3 D ad cA (MQ below (q_Post syC D ad cA (some (.int (qI r0))) M0) args s 0 0 (q_A syC ad)) M 12 [(0, .ref (ad 0)), (1, .int (qI x1)), (2, .int (qI x2))] [] :=
  qlm1_r (Wp := fun ux2 M => WM syC p l e rm_X9_coins s m args below meth c 3 D ad cA (MQ below (q_Post syC D ad cA (some (.int (qI r0))) M0) args s 0 0 (q_A syC ad)) M 12 [(0, .ref (ad 0)), (1, .int (qI x1)), (2, .int (qI ux2))] []) (fun ux2 M g12 ih12 h => w_X9_coins_B12 C hr hlk x1 ux2 M g12  ih12 h) n x2 M h
def f_X9_coins (a0 : Int) (M : Mem) : Res :=
  q_calp (f_X9_isSoul a0 M) fun r1 =>
  if ¬ w32 r1 = 0 then (f_X9_coins_L12 a0 q_N 0 M)
  else (some ((-1), M))
theorem c_X9_coins {l : Launch} {D : va_G} {ad : Nat → Nat} {cA : Nat → ClassId} (hi : q_inj syC ad) (a0 : Int) (M : Mem) (r0 : Int) (M0 : Mem) (h : f_X9_coins a0 M = some (r0, M0)) : q_Met l syC D ad cA yX9_coins cX9_coins 3 (some .int) rm_X9_coins [.ref (ad 0), .int (qI a0)] M (some (.int (qI r0))) M0 := by
  refine q_met (L0 := [(0, .ref (ad 0)), (1, .int (qI a0))]) hi okC (by decide) (Nat.le_of_ble_eq_true rfl) rfl ?_
  intro p e s m args below meth c C hr hlk
  unfold f_X9_coins at h
  refine r_aln C dX9_coins_0 (k := 0) rfl ?_
  refine r_iln C dX9_coins_1 (k := 1) rfl ?_
  obtain ⟨r1, hy, h⟩ := q_calp_some h
  refine r_cvi C (st := []) (c_X9_isSoul C.2.2.1 a0 M r1 hy) tm_RX9_138 mw_X9_isSoul ⟨rfl, rfl⟩ ⟨Nat.le_of_ble_eq_true rfl, Nat.le_of_ble_eq_true rfl⟩ kc_0 clX9 rfl rfl (Nat.le_of_ble_eq_true rfl) dX9_coins_2 ?_
  refine r_zne C (tgt := 10) dX9_coins_5 (by decide) h (fun h => ?_) (fun h => ?_)
  · refine r_ic C dX9_coins_10 ?_
    refine r_isn C (L1 := [(2, .int (qI 0)), (0, .ref (ad 0)), (1, .int (qI a0))]) dX9_coins_11 (by decide) rfl ?_
    refine r_drop [1, 2, 0] rfl ?_
    exact w_X9_coins_L12 C hr hlk a0  q_N 0 M h
  · refine r_ic C dX9_coins_8 ?_
    exact r_iret C hr hlk dX9_coins_9 h
abbrev rm_X9_commonDivisor : Room := { frames := 0, cells := 0, slots := 0, locals := 0 }
theorem mw_X9_commonDivisor : q_ms yX9_commonDivisor cX9_commonDivisor 6 (some .int) 2 := ⟨⟨ts_X9_commonDivisor, tn_RX9, td_X9_commonDivisor⟩, by decide +kernel⟩
def f_X9_commonDivisor_B7  (M : Mem) (x2 : Int) (x3 : Int) (x4 : Int) (g7 : Int → Int → Int → Option Int) : Option Int :=
  if w32 100 ≤ w32 x4 then (some x2)
  else (if w32 x3 = 0 then (some x2)
  else (q_nz x3 <| g7 x3 ((w32 x2).tmod (w32 x3)) (x4 + 1)))
def f_X9_commonDivisor_L7  (M : Mem) (n : Nat) (x2 : Int) (x3 : Int) (x4 : Int) : Option Int := qlp3 (fun x2 x3 x4 g7 => f_X9_commonDivisor_B7  M x2 x3 x4 g7) n x2 x3 x4
theorem w_X9_commonDivisor_B7 (C : Cx syC p m c cX9_commonDivisor 6 s args RX9 D ad cA) (hr : meth.sig.returnType = (some .int)) (hlk : meth.locks = false)  (x2 : Int) (x3 : Int) (x4 : Int) (M : Mem) (g7 : Int → Int → Int → Option Int)  (ih7 : ∀ (ux2 ux3 ux4 : Int) , g7 ux2 ux3 ux4  = some r0 → WM syC p l e rm_X9_commonDivisor s m args below meth c 6 D ad cA (MQ below (q_Post syC D ad cA (some (.int (qI r0))) M) args s 0 0 (q_A syC ad)) M 7 [(2, .int (qI ux2)), (3, .int (qI ux3)), (4, .int (qI ux4))] []) (h : f_X9_commonDivisor_B7  M x2 x3 x4 g7 = some r0) : WM syC p l e rm_X9_commonDivisor s m args below meth c 6 D ad cA (MQ below (q_Post syC D ad cA (some (.int (qI r0))) M) args s 0 0 (q_A syC ad)) M 7 [(2, .int (qI x2)), (3, .int (qI x3)), (4, .int (qI x4))] [] := by
  unfold f_X9_commonDivisor_B7 at h
  refine r_il C dX9_commonDivisor_7 (k := 2) rfl ?_
  refine r_bi C dX9_commonDivisor_9 (by decide) ?_
  refine r_cge C (tgt := 34) dX9_commonDivisor_11 (by decide) h (fun h => ?_) (fun h => ?_)
  · refine r_iln C dX9_commonDivisor_34 (k := 0) rfl ?_
    exact r_iretp C hr hlk dX9_commonDivisor_35 h
  · refine r_iln C dX9_commonDivisor_14 (k := 1) rfl ?_
    refine r_zeq C (tgt := 34) dX9_commonDivisor_15 (by decide) h (fun h => ?_) (fun h => ?_)
    · refine r_iln C dX9_commonDivisor_34 (k := 0) rfl ?_
      exact r_iretp C hr hlk dX9_commonDivisor_35 h
    · refine r_iln C dX9_commonDivisor_18 (k := 0) rfl ?_
      refine r_iln C dX9_commonDivisor_19 (k := 1) rfl ?_
      refine r_irem C dX9_commonDivisor_20 h (fun h => ?_)
      refine r_is C (L1 := [(5, .int (qI ((w32 x2).tmod (w32 x3)))), (2, .int (qI x2)), (3, .int (qI x3)), (4, .int (qI x4))]) dX9_commonDivisor_21 (by decide) rfl ?_
      refine r_iln C dX9_commonDivisor_23 (k := 2) rfl ?_
      refine r_isn C (L1 := [(2, .int (qI x3)), (5, .int (qI ((w32 x2).tmod (w32 x3)))), (3, .int (qI x3)), (4, .int (qI x4))]) dX9_commonDivisor_24 (by decide) rfl ?_
      refine r_il C dX9_commonDivisor_25 (k := 1) rfl ?_
      refine r_isn C (L1 := [(3, .int (qI ((w32 x2).tmod (w32 x3)))), (2, .int (qI x3)), (5, .int (qI ((w32 x2).tmod (w32 x3)))), (4, .int (qI x4))]) dX9_commonDivisor_27 (by decide) rfl ?_
      refine r_inc C (L1 := [(4, .int (qI (x4 + 1))), (3, .int (qI ((w32 x2).tmod (w32 x3)))), (2, .int (qI x3)), (5, .int (qI ((w32 x2).tmod (w32 x3))))]) dX9_commonDivisor_28 (k := 3) rfl (by decide) rfl ?_
      refine r_goto C (tgt := 7) dX9_commonDivisor_31 (by decide) ?_
      refine r_drop [2, 1, 0] rfl ?_
      exact ih7 x3 ((w32 x2).tmod (w32 x3)) (x4 + 1)  h
theorem w_X9_commonDivisor_L7 (C : Cx syC p m c cX9_commonDivisor 6 s args RX9 D ad cA) (hr : meth.sig.returnType = (some .int)) (hlk : meth.locks = false)   (M : Mem)  (n : Nat) (x2 : Int) (x3 : Int) (x4 : Int) (h : f_X9_commonDivisor_L7  M n x2 x3 x4 = some r0) : WM syC p l e rm_X9_commonDivisor s m args below meth c 6 D ad cA (MQ below (q_Post syC D ad cA (some (.int (qI r0))) M) args s 0 0 (q_A syC ad)) M 7 [(2, .int (qI x2)), (3, .int (qI x3)), (4, .int (qI x4))] [] :=
  qlp3_r (Wp := fun ux2 ux3 ux4 => WM syC p l e rm_X9_commonDivisor s m args below meth c 6 D ad cA (MQ below (q_Post syC D ad cA (some (.int (qI r0))) M) args s 0 0 (q_A syC ad)) M 7 [(2, .int (qI ux2)), (3, .int (qI ux3)), (4, .int (qI ux4))] []) (fun ux2 ux3 ux4 g7 ih7 h => w_X9_commonDivisor_B7 C hr hlk  ux2 ux3 ux4 M g7  ih7 h) n x2 x3 x4 h
def f_X9_commonDivisor (a0 : Int) (a1 : Int) (M : Mem) : Option Int :=
  f_X9_commonDivisor_L7  M q_N a1 a0 0
theorem c_X9_commonDivisor {l : Launch} {D : va_G} {ad : Nat → Nat} {cA : Nat → ClassId} (hi : q_inj syC ad) (a0 : Int) (a1 : Int) (M : Mem) (r0 : Int) (h : f_X9_commonDivisor a0 a1 M = some r0) : q_Met l syC D ad cA yX9_commonDivisor cX9_commonDivisor 6 (some .int) rm_X9_commonDivisor [.int (qI a0), .int (qI a1)] M (some (.int (qI r0))) M := by
  refine q_met (L0 := [(0, .int (qI a0)), (1, .int (qI a1))]) hi okC (by decide) (Nat.le_of_ble_eq_true rfl) rfl ?_
  intro p e s m args below meth c C hr hlk
  unfold f_X9_commonDivisor at h
  refine r_iln C dX9_commonDivisor_0 (k := 1) rfl ?_
  refine r_isn C (L1 := [(2, .int (qI a1)), (0, .int (qI a0)), (1, .int (qI a1))]) dX9_commonDivisor_1 (by decide) rfl ?_
  refine r_iln C dX9_commonDivisor_2 (k := 1) rfl ?_
  refine r_isn C (L1 := [(3, .int (qI a0)), (2, .int (qI a1)), (0, .int (qI a0)), (1, .int (qI a1))]) dX9_commonDivisor_3 (by decide) rfl ?_
  refine r_ic C dX9_commonDivisor_4 ?_
  refine r_is C (L1 := [(4, .int (qI 0)), (3, .int (qI a0)), (2, .int (qI a1)), (0, .int (qI a0)), (1, .int (qI a1))]) dX9_commonDivisor_5 (by decide) rfl ?_
  refine r_drop [2, 1, 0] rfl ?_
  exact w_X9_commonDivisor_L7 C hr hlk  M  q_N a1 a0 0 h
abbrev rm_X9_count : Room := { frames := 1, cells := 0, slots := 0, locals := 24 }
theorem mw_X9_count : q_mw RX9 yX9_count cX9_count 2 (some .int) 1 := ⟨⟨ti_X9_count, tl_X9_count, tn_RX9, td_X9_count⟩, by decide +kernel⟩
def f_X9_count (a0 : Int) (M : Mem) : Option Int :=
  if w32 a0 = 0 then (q_gr M 0 3 fun t1 =>
  q_gf M t1 0 fun v2 =>
  some v2)
  else if w32 a0 = 1 then (q_gr M 0 3 fun t3 =>
  q_gf M t3 7 fun v4 =>
  some v4)
  else if w32 a0 = 2 then (q_gr M 0 3 fun t5 =>
  q_gf M t5 13 fun v6 =>
  some v6)
  else if w32 a0 = 3 then (q_gr M 0 3 fun t7 =>
  q_gf M (t7 + 10) 6 fun v8 =>
  some v8)
  else if w32 a0 = 4 then (q_gf M 4 0 fun v9 =>
  some v9)
  else if w32 a0 = 5 then (q_gf M 4 9 fun v10 =>
  some v10)
  else if w32 a0 = 6 then (q_gr M 0 3 fun t11 =>
  q_gf M t11 0 fun v12 =>
  q_calp (f_X6_howMany 4 2 v12 M) fun r13 =>
  some r13)
  else if w32 a0 = 7 then (q_gr M 0 3 fun t14 =>
  q_gf M t14 0 fun v15 =>
  q_calp (f_X6_howMany 4 3 v15 M) fun r16 =>
  some r16)
  else if w32 a0 = 8 then (q_calp (f_X9_kindnessGone 4 M) fun r17 =>
  some r17)
  else if w32 a0 = 9 then (q_calp (f_X9_sum 164 8 M) fun r18 =>
  some r18)
  else if w32 a0 = 10 then (q_calp (f_X9_sum 165 8 M) fun r19 =>
  some r19)
  else if w32 a0 = 11 then (q_gf M 9 3 fun v20 =>
  some v20)
  else if w32 a0 = 12 then (q_calp (f_X5_knownMany  M) fun r21 =>
  some r21)
  else if w32 a0 = 13 then (q_gf M 8 3 fun v22 =>
  some v22)
  else (some (-1))
theorem c_X9_count {l : Launch} {D : va_G} {ad : Nat → Nat} {cA : Nat → ClassId} (hi : q_inj syC ad) (a0 : Int) (M : Mem) (r0 : Int) (h : f_X9_count a0 M = some r0) : q_Met l syC D ad cA yX9_count cX9_count 2 (some .int) rm_X9_count [.ref (ad 0), .int (qI a0)] M (some (.int (qI r0))) M := by
  refine q_met (L0 := [(0, .ref (ad 0)), (1, .int (qI a0))]) hi okC (by decide) (Nat.le_of_ble_eq_true rfl) rfl ?_
  intro p e s m args below meth c C hr hlk
  unfold f_X9_count at h
  refine r_iln C dX9_count_0 (k := 1) rfl ?_
  refine r_tc C h (fun e h => ?_) (fun ne0 h => ?_)
  · refine r_tin C (tgt := 72) dX9_count_1 e (by decide) rfl (by decide) ?_
    refine r_aln C dX9_count_72 (k := 0) rfl ?_
    refine r_gr C kc_0 clX9 (f := 3) (fz := 3) (Pp := isT) (by decide) rfl rfl (fun q => q.1) tf_RX9_31 dX9_count_73 h (fun t1 ht1 h => ?_)
    refine r_gf C (kT ht1) clX8 (f := 0) (by decide) rfl rfl rfl tf_RX9_125 dX9_count_76 h (fun v2 h => ?_)
    exact r_iretp C hr hlk dX9_count_79 h
  refine r_tc C h (fun e h => ?_) (fun ne1 h => ?_)
  · refine r_tin C (tgt := 80) dX9_count_1 e (by decide) rfl (by decide) ?_
    refine r_aln C dX9_count_80 (k := 0) rfl ?_
    refine r_gr C kc_0 clX9 (f := 3) (fz := 3) (Pp := isT) (by decide) rfl rfl (fun q => q.1) tf_RX9_31 dX9_count_81 h (fun t3 ht3 h => ?_)
    refine r_gf C (kT ht3) clX8 (f := 7) (by decide) rfl rfl rfl tf_RX9_135 dX9_count_84 h (fun v4 h => ?_)
    exact r_iretp C hr hlk dX9_count_87 h
  refine r_tc C h (fun e h => ?_) (fun ne2 h => ?_)
  · refine r_tin C (tgt := 88) dX9_count_1 e (by decide) rfl (by decide) ?_
    refine r_aln C dX9_count_88 (k := 0) rfl ?_
    refine r_gr C kc_0 clX9 (f := 3) (fz := 3) (Pp := isT) (by decide) rfl rfl (fun q => q.1) tf_RX9_31 dX9_count_89 h (fun t5 ht5 h => ?_)
    refine r_gf C (kT ht5) clX8 (f := 13) (by decide) rfl rfl rfl tf_RX9_384 dX9_count_92 h (fun v6 h => ?_)
    exact r_iretp C hr hlk dX9_count_95 h
  refine r_tc C h (fun e h => ?_) (fun ne3 h => ?_)
  · refine r_tin C (tgt := 96) dX9_count_1 e (by decide) rfl (by decide) ?_
    refine r_aln C dX9_count_96 (k := 0) rfl ?_
    refine r_gr C kc_0 clX9 (f := 3) (fz := 3) (Pp := isT) (by decide) rfl rfl (fun q => q.1) tf_RX9_31 dX9_count_97 h (fun t7 ht7 h => ?_)
    refine r_gs C (kT ht7) clX8 (f := 16) (by decide) rfl (t := (t7 + 10)) rfl tf_RX9_215 dX9_count_100 ?_
    refine r_gf C (kL (kTL ht7)) clX2 (f := 6) (by decide) rfl rfl rfl tf_RX9_387 dX9_count_103 h (fun v8 h => ?_)
    exact r_iretp C hr hlk dX9_count_106 h
  refine r_tc C h (fun e h => ?_) (fun ne4 h => ?_)
  · refine r_tin C (tgt := 107) dX9_count_1 e (by decide) rfl (by decide) ?_
    refine r_aln C dX9_count_107 (k := 0) rfl ?_
    refine r_gs C kc_0 clX9 (f := 4) (by decide) rfl (t := 4) rfl tf_RX9_38 dX9_count_108 ?_
    refine r_gf C kc_4 clX6 (f := 0) (by decide) rfl rfl rfl tf_RX9_245 dX9_count_111 h (fun v9 h => ?_)
    exact r_iretp C hr hlk dX9_count_114 h
  refine r_tc C h (fun e h => ?_) (fun ne5 h => ?_)
  · refine r_tin C (tgt := 115) dX9_count_1 e (by decide) rfl (by decide) ?_
    refine r_aln C dX9_count_115 (k := 0) rfl ?_
    refine r_gs C kc_0 clX9 (f := 4) (by decide) rfl (t := 4) rfl tf_RX9_38 dX9_count_116 ?_
    refine r_gf C kc_4 clX6 (f := 9) (by decide) rfl rfl rfl tf_RX9_197 dX9_count_119 h (fun v10 h => ?_)
    exact r_iretp C hr hlk dX9_count_122 h
  refine r_tc C h (fun e h => ?_) (fun ne6 h => ?_)
  · refine r_tin C (tgt := 123) dX9_count_1 e (by decide) rfl (by decide) ?_
    refine r_aln C dX9_count_123 (k := 0) rfl ?_
    refine r_gs C kc_0 clX9 (f := 4) (by decide) rfl (t := 4) rfl tf_RX9_38 dX9_count_124 ?_
    refine r_ic C dX9_count_127 ?_
    refine r_aln C dX9_count_128 (k := 0) rfl ?_
    refine r_gr C kc_0 clX9 (f := 3) (fz := 3) (Pp := isT) (by decide) rfl rfl (fun q => q.1) tf_RX9_31 dX9_count_129 h (fun t11 ht11 h => ?_)
    refine r_gf C (kT ht11) clX8 (f := 0) (by decide) rfl rfl rfl tf_RX9_125 dX9_count_132 h (fun v12 h => ?_)
    obtain ⟨r13, hy, h⟩ := q_calp_some h
    refine r_cvi C (st := []) (c_X6_howMany C.2.2.1 4 (by unfold isS; omega) 2 v12 M r13 hy) tm_RX9_261 mw_X6_howMany ⟨rfl, rfl⟩ ⟨Nat.le_of_ble_eq_true rfl, Nat.le_of_ble_eq_true rfl⟩ kc_4 clX6 rfl rfl (Nat.le_of_ble_eq_true rfl) dX9_count_135 ?_
    exact r_iretp C hr hlk dX9_count_138 h
  refine r_tc C h (fun e h => ?_) (fun ne7 h => ?_)
  · refine r_tin C (tgt := 139) dX9_count_1 e (by decide) rfl (by decide) ?_
    refine r_aln C dX9_count_139 (k := 0) rfl ?_
    refine r_gs C kc_0 clX9 (f := 4) (by decide) rfl (t := 4) rfl tf_RX9_38 dX9_count_140 ?_
    refine r_ic C dX9_count_143 ?_
    refine r_aln C dX9_count_144 (k := 0) rfl ?_
    refine r_gr C kc_0 clX9 (f := 3) (fz := 3) (Pp := isT) (by decide) rfl rfl (fun q => q.1) tf_RX9_31 dX9_count_145 h (fun t14 ht14 h => ?_)
    refine r_gf C (kT ht14) clX8 (f := 0) (by decide) rfl rfl rfl tf_RX9_125 dX9_count_148 h (fun v15 h => ?_)
    obtain ⟨r16, hy, h⟩ := q_calp_some h
    refine r_cvi C (st := []) (c_X6_howMany C.2.2.1 4 (by unfold isS; omega) 3 v15 M r16 hy) tm_RX9_261 mw_X6_howMany ⟨rfl, rfl⟩ ⟨Nat.le_of_ble_eq_true rfl, Nat.le_of_ble_eq_true rfl⟩ kc_4 clX6 rfl rfl (Nat.le_of_ble_eq_true rfl) dX9_count_151 ?_
    exact r_iretp C hr hlk dX9_count_154 h
  refine r_tc C h (fun e h => ?_) (fun ne8 h => ?_)
  · refine r_tin C (tgt := 155) dX9_count_1 e (by decide) rfl (by decide) ?_
    refine r_aln C dX9_count_155 (k := 0) rfl ?_
    refine r_aln C dX9_count_156 (k := 0) rfl ?_
    refine r_gs C kc_0 clX9 (f := 4) (by decide) rfl (t := 4) rfl tf_RX9_38 dX9_count_157 ?_
    obtain ⟨r17, hy, h⟩ := q_calp_some h
    refine r_cvi C (st := []) (c_X9_kindnessGone C.2.2.1 4 (by unfold isS; omega) M r17 hy) tm_RX9_264 mw_X9_kindnessGone ⟨rfl, rfl⟩ ⟨Nat.le_of_ble_eq_true rfl, Nat.le_of_ble_eq_true rfl⟩ kc_0 clX9 rfl rfl (Nat.le_of_ble_eq_true rfl) dX9_count_160 ?_
    exact r_iretp C hr hlk dX9_count_163 h
  refine r_tc C h (fun e h => ?_) (fun ne9 h => ?_)
  · refine r_tin C (tgt := 164) dX9_count_1 e (by decide) rfl (by decide) ?_
    refine r_aln C dX9_count_164 (k := 0) rfl ?_
    refine r_aln C dX9_count_165 (k := 0) rfl ?_
    refine r_gs C kc_0 clX9 (f := 4) (by decide) rfl (t := 4) rfl tf_RX9_38 dX9_count_166 ?_
    refine r_gs C kc_4 clX6 (f := 4) (by decide) rfl (t := 164) rfl tf_RX9_156 dX9_count_169 ?_
    obtain ⟨r18, hy, h⟩ := q_calp_some h
    refine r_cvi C (st := []) (c_X9_sum C.2.2.1 164 8 kc_164 M r18 hy) tm_RX9_268 mw_X9_sum ⟨rfl, rfl⟩ ⟨Nat.le_of_ble_eq_true rfl, Nat.le_of_ble_eq_true rfl⟩ kc_0 clX9 rfl rfl (Nat.le_of_ble_eq_true rfl) dX9_count_172 ?_
    exact r_iretp C hr hlk dX9_count_175 h
  refine r_tc C h (fun e h => ?_) (fun ne10 h => ?_)
  · refine r_tin C (tgt := 176) dX9_count_1 e (by decide) rfl (by decide) ?_
    refine r_aln C dX9_count_176 (k := 0) rfl ?_
    refine r_aln C dX9_count_177 (k := 0) rfl ?_
    refine r_gs C kc_0 clX9 (f := 4) (by decide) rfl (t := 4) rfl tf_RX9_38 dX9_count_178 ?_
    refine r_gs C kc_4 clX6 (f := 5) (by decide) rfl (t := 165) rfl tf_RX9_162 dX9_count_181 ?_
    obtain ⟨r19, hy, h⟩ := q_calp_some h
    refine r_cvi C (st := []) (c_X9_sum C.2.2.1 165 8 kc_165 M r19 hy) tm_RX9_268 mw_X9_sum ⟨rfl, rfl⟩ ⟨Nat.le_of_ble_eq_true rfl, Nat.le_of_ble_eq_true rfl⟩ kc_0 clX9 rfl rfl (Nat.le_of_ble_eq_true rfl) dX9_count_184 ?_
    exact r_iretp C hr hlk dX9_count_187 h
  refine r_tc C h (fun e h => ?_) (fun ne11 h => ?_)
  · refine r_tin C (tgt := 188) dX9_count_1 e (by decide) rfl (by decide) ?_
    refine r_aln C dX9_count_188 (k := 0) rfl ?_
    refine r_gs C kc_0 clX9 (f := 10) (by decide) rfl (t := 9) rfl tf_RX9_71 dX9_count_189 ?_
    refine r_gf C kc_9 clX5 (f := 3) (by decide) rfl rfl rfl tf_RX9_342 dX9_count_192 h (fun v20 h => ?_)
    exact r_iretp C hr hlk dX9_count_195 h
  refine r_tc C h (fun e h => ?_) (fun ne12 h => ?_)
  · refine r_tin C (tgt := 196) dX9_count_1 e (by decide) rfl (by decide) ?_
    refine r_aln C dX9_count_196 (k := 0) rfl ?_
    refine r_gs C kc_0 clX9 (f := 10) (by decide) rfl (t := 9) rfl tf_RX9_71 dX9_count_197 ?_
    obtain ⟨r21, hy, h⟩ := q_calp_some h
    refine r_cvi C (st := []) (c_X5_knownMany C.2.2.1 M r21 hy) tm_RX9_390 mw_X5_knownMany ⟨rfl, rfl⟩ ⟨Nat.le_of_ble_eq_true rfl, Nat.le_of_ble_eq_true rfl⟩ kc_9 clX5 rfl rfl (Nat.le_of_ble_eq_true rfl) dX9_count_200 ?_
    exact r_iretp C hr hlk dX9_count_203 h
  refine r_tc C h (fun e h => ?_) (fun ne13 h => ?_)
  · refine r_tin C (tgt := 204) dX9_count_1 e (by decide) rfl (by decide) ?_
    refine r_aln C dX9_count_204 (k := 0) rfl ?_
    refine r_gs C kc_0 clX9 (f := 9) (by decide) rfl (t := 8) rfl tf_RX9_64 dX9_count_205 ?_
    refine r_gf C kc_8 clX0 (f := 3) (by decide) rfl rfl rfl tf_RX9_110 dX9_count_208 h (fun v22 h => ?_)
    exact r_iretp C hr hlk dX9_count_211 h
  refine r_tout C (tgt := 212) dX9_count_1 (by omega) (by decide) ?_
  refine r_ic C dX9_count_212 ?_
  exact r_iretp C hr hlk dX9_count_213 h
abbrev rm_X9_dry : Room := { frames := 1, cells := 0, slots := 0, locals := 25 }
theorem mw_X9_dry : q_mw RX9 yX9_dry cX9_dry 8 (some .long) 2 := ⟨⟨ti_X9_dry, tl_X9_dry, tn_RX9, td_X9_dry⟩, by decide +kernel⟩
def f_X9_dry_B77 (x1 : Int) (x4 : Int) (M : Mem) (x5 : Int) (x7 : Int) (g77 : Int → Int → Option Int) : Option Int :=
  if w32 x1 ≤ w32 x7 then (some x5)
  else (g77 (x5 * (w32 x4)) (x7 + 1))
def f_X9_dry_L77 (x1 : Int) (x4 : Int) (M : Mem) (n : Nat) (x5 : Int) (x7 : Int) : Option Int := qlp2 (fun x5 x7 g77 => f_X9_dry_B77 x1 x4 M x5 x7 g77) n x5 x7
theorem w_X9_dry_B77 (C : Cx syC p m c cX9_dry 8 s args RX9 D ad cA) (hr : meth.sig.returnType = (some .long)) (hlk : meth.locks = false)  (x1 : Int) (x4 : Int) (x5 : Int) (x7 : Int) (M : Mem) (g77 : Int → Int → Option Int)  (ih77 : ∀ (ux5 ux7 : Int) , g77 ux5 ux7  = some r0 → WM syC p l e rm_X9_dry s m args below meth c 8 D ad cA (MQ below (q_Post syC D ad cA (some (.long (qJ r0))) M) args s 0 0 (q_A syC ad)) M 77 [(1, .int (qI x1)), (4, .int (qI x4)), (5, .long (qJ ux5)), (7, .int (qI ux7))] []) (h : f_X9_dry_B77 x1 x4 M x5 x7 g77 = some r0) : WM syC p l e rm_X9_dry s m args below meth c 8 D ad cA (MQ below (q_Post syC D ad cA (some (.long (qJ r0))) M) args s 0 0 (q_A syC ad)) M 77 [(1, .int (qI x1)), (4, .int (qI x4)), (5, .long (qJ x5)), (7, .int (qI x7))] [] := by
  unfold f_X9_dry_B77 at h
  refine r_il C dX9_dry_77 (k := 3) rfl ?_
  refine r_iln C dX9_dry_79 (k := 0) rfl ?_
  refine r_cge C (tgt := 97) dX9_dry_80 (by decide) h (fun h => ?_) (fun h => ?_)
  · refine r_ll C dX9_dry_97 (k := 2) rfl ?_
    exact r_lretp C hr hlk dX9_dry_99 h
  · refine r_ll C dX9_dry_83 (k := 2) rfl ?_
    refine r_il C dX9_dry_85 (k := 1) rfl ?_
    refine r_i2l C dX9_dry_87 ?_
    refine r_lmul C dX9_dry_88 ?_
    refine r_ls C (L1 := [(5, .long (qJ (x5 * (w32 x4)))), (1, .int (qI x1)), (4, .int (qI x4)), (7, .int (qI x7))]) dX9_dry_89 (by decide) rfl ?_
    refine r_inc C (L1 := [(7, .int (qI (x7 + 1))), (5, .long (qJ (x5 * (w32 x4)))), (1, .int (qI x1)), (4, .int (qI x4))]) dX9_dry_91 (k := 3) rfl (by decide) rfl ?_
    refine r_goto C (tgt := 77) dX9_dry_94 (by decide) ?_
    refine r_drop [2, 3, 1, 0] rfl ?_
    exact ih77 (x5 * (w32 x4)) (x7 + 1)  h
theorem w_X9_dry_L77 (C : Cx syC p m c cX9_dry 8 s args RX9 D ad cA) (hr : meth.sig.returnType = (some .long)) (hlk : meth.locks = false)  (x1 : Int) (x4 : Int) (M : Mem)  (n : Nat) (x5 : Int) (x7 : Int) (h : f_X9_dry_L77 x1 x4 M n x5 x7 = some r0) : WM syC p l e rm_X9_dry s m args below meth c 8 D ad cA (MQ below (q_Post syC D ad cA (some (.long (qJ r0))) M) args s 0 0 (q_A syC ad)) M 77 [(1, .int (qI x1)), (4, .int (qI x4)), (5, .long (qJ x5)), (7, .int (qI x7))] [] :=
  qlp2_r (Wp := fun ux5 ux7 => WM syC p l e rm_X9_dry s m args below meth c 8 D ad cA (MQ below (q_Post syC D ad cA (some (.long (qJ r0))) M) args s 0 0 (q_A syC ad)) M 77 [(1, .int (qI x1)), (4, .int (qI x4)), (5, .long (qJ ux5)), (7, .int (qI ux7))] []) (fun ux5 ux7 g77 ih77 h => w_X9_dry_B77 C hr hlk x1 x4 ux5 ux7 M g77  ih77 h) n x5 x7 h
def f_X9_dry_J67 (x1 : Int) (x3 : Int) (y0 : Int) (M : Mem) : Option Int :=
  q_nz x3 <| f_X9_dry_L77 x1 ((w32 y0).tdiv (w32 x3)) M q_N 1 0
theorem w_X9_dry_J67 (C : Cx syC p m c cX9_dry 8 s args RX9 D ad cA) (hr : meth.sig.returnType = (some .long)) (hlk : meth.locks = false) (x1 : Int) (x3 : Int) (y0 : Int) (M : Mem)  (h : f_X9_dry_J67 x1 x3 y0 M = some r0) : WM syC p l e rm_X9_dry s m args below meth c 8 D ad cA (MQ below (q_Post syC D ad cA (some (.long (qJ r0))) M) args s 0 0 (q_A syC ad)) M 67 [(1, .int (qI x1)), (3, .int (qI x3))] [.int (qI y0)] := by
  unfold f_X9_dry_J67 at h
  refine r_iln C dX9_dry_67 (k := 1) rfl ?_
  refine r_idiv C dX9_dry_68 h (fun h => ?_)
  refine r_is C (L1 := [(4, .int (qI ((w32 y0).tdiv (w32 x3)))), (1, .int (qI x1)), (3, .int (qI x3))]) dX9_dry_69 (by decide) rfl ?_
  refine r_lc C (x := 1) dX9_dry_71 (by decide) ?_
  refine r_ls C (L1 := [(5, .long (qJ 1)), (4, .int (qI ((w32 y0).tdiv (w32 x3)))), (1, .int (qI x1)), (3, .int (qI x3))]) dX9_dry_72 (by decide) rfl ?_
  refine r_ic C dX9_dry_74 ?_
  refine r_is C (L1 := [(7, .int (qI 0)), (5, .long (qJ 1)), (4, .int (qI ((w32 y0).tdiv (w32 x3)))), (1, .int (qI x1)), (3, .int (qI x3))]) dX9_dry_75 (by decide) rfl ?_
  refine r_drop [3, 2, 1, 0] rfl ?_
  exact w_X9_dry_L77 C hr hlk x1 ((w32 y0).tdiv (w32 x3)) M  q_N 1 0 h
def f_X9_dry (a0 : Int) (a1 : Int) (M : Mem) : Option Int :=
  if w32 a0 < 0 then (some (-1))
  else (if w32 6 < w32 a0 then (some (-1))
  else (if w32 a1 < 0 then (some (-1))
  else (if w32 a1 ≤ w32 1 then (q_gr M 0 3 fun t1 =>
  q_gf M t1 14 fun v2 =>
  q_calp (f_X9_commonDivisor (100 - v2) 100 M) fun r3 =>
  if w32 1 ≤ w32 r3 then (if ¬ w32 a1 = 0 then (f_X9_dry_J67 a0 r3 100 M)
  else (q_gr M 0 3 fun t4 =>
  q_gf M t4 14 fun v5 =>
  f_X9_dry_J67 a0 r3 (100 - v5) M))
  else (some (-1)))
  else (some (-1)))))
theorem c_X9_dry {l : Launch} {D : va_G} {ad : Nat → Nat} {cA : Nat → ClassId} (hi : q_inj syC ad) (a0 : Int) (a1 : Int) (M : Mem) (r0 : Int) (h : f_X9_dry a0 a1 M = some r0) : q_Met l syC D ad cA yX9_dry cX9_dry 8 (some .long) rm_X9_dry [.ref (ad 0), .int (qI a0), .int (qI a1)] M (some (.long (qJ r0))) M := by
  refine q_met (L0 := [(0, .ref (ad 0)), (1, .int (qI a0)), (2, .int (qI a1))]) hi okC (by decide) (Nat.le_of_ble_eq_true rfl) rfl ?_
  intro p e s m args below meth c C hr hlk
  unfold f_X9_dry at h
  refine r_iln C dX9_dry_0 (k := 1) rfl ?_
  refine r_zlt C (tgt := 19) dX9_dry_1 (by decide) h (fun h => ?_) (fun h => ?_)
  · refine r_ldc2 C (x := (-1)) tc_RX9_330 (by decide) dX9_dry_19 ?_
    exact r_lretp C hr hlk dX9_dry_22 h
  · refine r_iln C dX9_dry_4 (k := 1) rfl ?_
    refine r_bi C dX9_dry_5 (by decide) ?_
    refine r_cgt C (tgt := 19) dX9_dry_7 (by decide) h (fun h => ?_) (fun h => ?_)
    · refine r_ldc2 C (x := (-1)) tc_RX9_330 (by decide) dX9_dry_19 ?_
      exact r_lretp C hr hlk dX9_dry_22 h
    · refine r_iln C dX9_dry_10 (k := 2) rfl ?_
      refine r_zlt C (tgt := 19) dX9_dry_11 (by decide) h (fun h => ?_) (fun h => ?_)
      · refine r_ldc2 C (x := (-1)) tc_RX9_330 (by decide) dX9_dry_19 ?_
        exact r_lretp C hr hlk dX9_dry_22 h
      · refine r_iln C dX9_dry_14 (k := 2) rfl ?_
        refine r_ic C dX9_dry_15 ?_
        refine r_cle C (tgt := 23) dX9_dry_16 (by decide) h (fun h => ?_) (fun h => ?_)
        · refine r_bi C dX9_dry_23 (by decide) ?_
          refine r_aln C dX9_dry_25 (k := 0) rfl ?_
          refine r_gr C kc_0 clX9 (f := 3) (fz := 3) (Pp := isT) (by decide) rfl rfl (fun q => q.1) tf_RX9_31 dX9_dry_26 h (fun t1 ht1 h => ?_)
          refine r_gf C (kT ht1) clX8 (f := 14) (by decide) rfl rfl rfl tf_RX9_332 dX9_dry_29 h (fun v2 h => ?_)
          refine r_isub C dX9_dry_32 ?_
          refine r_bi C dX9_dry_33 (by decide) ?_
          obtain ⟨r3, hy, h⟩ := q_calp_some h
          refine r_csi C (st := []) (c_X9_commonDivisor C.2.2.1 (100 - v2) 100 M r3 hy) tm_RX9_335 mw_X9_commonDivisor ⟨rfl, rfl⟩ ⟨Nat.le_of_ble_eq_true rfl, Nat.le_of_ble_eq_true rfl⟩ rfl rfl (Nat.le_of_ble_eq_true rfl) dX9_dry_35 ?_
          refine r_isn C (L1 := [(3, .int (qI r3)), (0, .ref (ad 0)), (1, .int (qI a0)), (2, .int (qI a1))]) dX9_dry_38 (by decide) rfl ?_
          refine r_iln C dX9_dry_39 (k := 0) rfl ?_
          refine r_ic C dX9_dry_40 ?_
          refine r_cge C (tgt := 48) dX9_dry_41 (by decide) h (fun h => ?_) (fun h => ?_)
          · refine r_iln C dX9_dry_48 (k := 3) rfl ?_
            refine r_zne C (tgt := 65) dX9_dry_49 (by decide) h (fun h => ?_) (fun h => ?_)
            · refine r_bi C dX9_dry_65 (by decide) ?_
              refine r_drop [2, 0] rfl ?_
              exact w_X9_dry_J67 C hr hlk a0 r3 100 M  h
            · refine r_bi C dX9_dry_52 (by decide) ?_
              refine r_aln C dX9_dry_54 (k := 1) rfl ?_
              refine r_gr C kc_0 clX9 (f := 3) (fz := 3) (Pp := isT) (by decide) rfl rfl (fun q => q.1) tf_RX9_31 dX9_dry_55 h (fun t4 ht4 h => ?_)
              refine r_gf C (kT ht4) clX8 (f := 14) (by decide) rfl rfl rfl tf_RX9_332 dX9_dry_58 h (fun v5 h => ?_)
              refine r_isub C dX9_dry_61 ?_
              refine r_goto C (tgt := 67) dX9_dry_62 (by decide) ?_
              refine r_drop [2, 0] rfl ?_
              exact w_X9_dry_J67 C hr hlk a0 r3 (100 - v5) M  h
          · refine r_ldc2 C (x := (-1)) tc_RX9_330 (by decide) dX9_dry_44 ?_
            exact r_lretp C hr hlk dX9_dry_47 h
        · refine r_ldc2 C (x := (-1)) tc_RX9_330 (by decide) dX9_dry_19 ?_
          exact r_lretp C hr hlk dX9_dry_22 h
abbrev rm_X9_isEmpty : Room := { frames := 1, cells := 0, slots := 0, locals := 24 }
theorem mw_X9_isEmpty : q_mw RX9 yX9_isEmpty cX9_isEmpty 2 (some .boolean) 1 := ⟨⟨ti_X9_isEmpty, tl_X9_isEmpty, tn_RX9, td_X9_isEmpty⟩, by decide +kernel⟩
def f_X9_isEmpty (k0 : Nat) (M : Mem) : Option Int :=
  q_gf M k0 9 fun v1 =>
  if ¬ w32 v1 = 0 then (some 0)
  else (q_gr M 0 3 fun t2 =>
  q_gf M t2 0 fun v3 =>
  q_calp (f_X6_howMany k0 0 v3 M) fun r4 =>
  if ¬ w32 r4 = 0 then (some 0)
  else (some 1))
theorem c_X9_isEmpty {l : Launch} {D : va_G} {ad : Nat → Nat} {cA : Nat → ClassId} (hi : q_inj syC ad) (k0 : Nat) (hk0 : isS k0) (M : Mem) (r0 : Int) (h : f_X9_isEmpty k0 M = some r0) : q_Met l syC D ad cA yX9_isEmpty cX9_isEmpty 2 (some .boolean) rm_X9_isEmpty [.ref (ad 0), .ref (ad k0)] M (some (.int (qI r0))) M := by
  refine q_met (L0 := [(0, .ref (ad 0)), (1, .ref (ad k0))]) hi okC (by decide) (Nat.le_of_ble_eq_true rfl) rfl ?_
  intro p e s m args below meth c C hr hlk
  unfold f_X9_isEmpty at h
  refine r_aln C dX9_isEmpty_0 (k := 1) rfl ?_
  refine r_gf C (kS hk0) clX6 (f := 9) (by decide) rfl rfl rfl tf_RX9_197 dX9_isEmpty_1 h (fun v1 h => ?_)
  refine r_zne C (tgt := 26) dX9_isEmpty_4 (by decide) h (fun h => ?_) (fun h => ?_)
  · refine r_ic C dX9_isEmpty_26 ?_
    exact r_zretp C (by decide) hr hlk dX9_isEmpty_27 h
  · refine r_aln C dX9_isEmpty_7 (k := 1) rfl ?_
    refine r_ic C dX9_isEmpty_8 ?_
    refine r_aln C dX9_isEmpty_9 (k := 0) rfl ?_
    refine r_gr C kc_0 clX9 (f := 3) (fz := 3) (Pp := isT) (by decide) rfl rfl (fun q => q.1) tf_RX9_31 dX9_isEmpty_10 h (fun t2 ht2 h => ?_)
    refine r_gf C (kT ht2) clX8 (f := 0) (by decide) rfl rfl rfl tf_RX9_125 dX9_isEmpty_13 h (fun v3 h => ?_)
    obtain ⟨r4, hy, h⟩ := q_calp_some h
    refine r_cvi C (st := []) (c_X6_howMany C.2.2.1 k0 hk0 0 v3 M r4 hy) tm_RX9_261 mw_X6_howMany ⟨rfl, rfl⟩ ⟨Nat.le_of_ble_eq_true rfl, Nat.le_of_ble_eq_true rfl⟩ (kS hk0) clX6 rfl rfl (Nat.le_of_ble_eq_true rfl) dX9_isEmpty_16 ?_
    refine r_zne C (tgt := 26) dX9_isEmpty_19 (by decide) h (fun h => ?_) (fun h => ?_)
    · refine r_ic C dX9_isEmpty_26 ?_
      exact r_zretp C (by decide) hr hlk dX9_isEmpty_27 h
    · refine r_ic C dX9_isEmpty_22 ?_
      refine r_goto C (tgt := 27) dX9_isEmpty_23 (by decide) ?_
      exact r_zretp C (by decide) hr hlk dX9_isEmpty_27 h
abbrev rm_X9_empty : Room := { frames := 5, cells := 0, slots := 0, locals := 128 }
theorem mw_X9_empty : q_mw RX9 yX9_empty cX9_empty 2 (some .int) 0 := ⟨⟨ti_X9_empty, tl_X9_empty, tn_RX9, td_X9_empty⟩, by decide +kernel⟩
def f_X9_empty_B6  (x1 : Int) (M : Mem) (g6 : Int → Mem → Res) : Res :=
  if w32 199 ≤ w32 x1 then (q_calp (f_X9_isEmpty 5 M) fun r1 =>
  if w32 r1 = 0 then (some ((-2), M))
  else (some (199, M)))
  else (q_calp (f_X9_isEmpty 5 M) fun r2 =>
  if w32 r2 = 0 then (q_call (f_X3_pass 1 M) fun r3 M4 =>
  g6 (x1 + 1) M4)
  else (some (x1, M)))
def f_X9_empty_L6  (n : Nat) (x1 : Int) (M : Mem) : Res := qlm1 (fun x1 M g6 => f_X9_empty_B6  x1 M g6) n x1 M
theorem w_X9_empty_B6 (C : Cx syC p m c cX9_empty 2 s args RX9 D ad cA) (hr : meth.sig.returnType = (some .int)) (hlk : meth.locks = false)  (x1 : Int) (M : Mem) (g6 : Int → Mem → Res)  (ih6 : ∀ (ux1 : Int) (M : Mem), g6 ux1 M = some (r0, M0) → WM syC p l e rm_X9_empty s m args below meth c 2 D ad cA (MQ below (q_Post syC D ad cA (some (.int (qI r0))) M0) args s 0 0 (q_A syC ad)) M 6 [(0, .ref (ad 0)), (1, .int (qI ux1))] []) (h : f_X9_empty_B6  x1 M g6 = some (r0, M0)) : WM syC p l e rm_X9_empty s m args below meth c 2 D ad cA (MQ below (q_Post syC D ad cA (some (.int (qI r0))) M0) args s 0 0 (q_A syC ad)) M 6 [(0, .ref (ad 0)), (1, .int (qI x1))] [] := by
  unfold f_X9_empty_B6 at h
  refine r_iln C dX9_empty_6 (k := 1) rfl ?_
  refine r_si C dX9_empty_7 (by decide) ?_
  refine r_cge C (tgt := 40) dX9_empty_10 (by decide) h (fun h => ?_) (fun h => ?_)
  · refine r_aln C dX9_empty_40 (k := 0) rfl ?_
    refine r_aln C dX9_empty_41 (k := 0) rfl ?_
    refine r_gs C kc_0 clX9 (f := 5) (by decide) rfl (t := 5) rfl tf_RX9_42 dX9_empty_42 ?_
    obtain ⟨r1, hy, h⟩ := q_calp_some h
    refine r_cvi C (st := []) (c_X9_isEmpty C.2.2.1 5 (by unfold isS; omega) M r1 hy) tm_RX9_281 mw_X9_isEmpty ⟨rfl, rfl⟩ ⟨Nat.le_of_ble_eq_true rfl, Nat.le_of_ble_eq_true rfl⟩ kc_0 clX9 rfl rfl (Nat.le_of_ble_eq_true rfl) dX9_empty_45 ?_
    refine r_zeq C (tgt := 57) dX9_empty_48 (by decide) h (fun h => ?_) (fun h => ?_)
    · refine r_bi C dX9_empty_57 (by decide) ?_
      exact r_iret C hr hlk dX9_empty_59 h
    · refine r_si C dX9_empty_51 (by decide) ?_
      refine r_goto C (tgt := 59) dX9_empty_54 (by decide) ?_
      exact r_iret C hr hlk dX9_empty_59 h
  · refine r_aln C dX9_empty_13 (k := 0) rfl ?_
    refine r_aln C dX9_empty_14 (k := 0) rfl ?_
    refine r_gs C kc_0 clX9 (f := 5) (by decide) rfl (t := 5) rfl tf_RX9_42 dX9_empty_15 ?_
    obtain ⟨r2, hy, h⟩ := q_calp_some h
    refine r_cvi C (st := []) (c_X9_isEmpty C.2.2.1 5 (by unfold isS; omega) M r2 hy) tm_RX9_281 mw_X9_isEmpty ⟨rfl, rfl⟩ ⟨Nat.le_of_ble_eq_true rfl, Nat.le_of_ble_eq_true rfl⟩ kc_0 clX9 rfl rfl (Nat.le_of_ble_eq_true rfl) dX9_empty_18 ?_
    refine r_zeq C (tgt := 26) dX9_empty_21 (by decide) h (fun h => ?_) (fun h => ?_)
    · refine r_aln C dX9_empty_26 (k := 0) rfl ?_
      refine r_gs C kc_0 clX9 (f := 8) (by decide) rfl (t := 7) rfl tf_RX9_57 dX9_empty_27 ?_
      refine r_ic C dX9_empty_30 ?_
      obtain ⟨r3, M4, hy, h⟩ := q_call_some h
      refine r_cvv C (st := []) (c_X3_pass C.2.2.1 1 M r3 M4 hy) tm_RX9_251 mw_X3_pass ⟨rfl, rfl⟩ ⟨Nat.le_of_ble_eq_true rfl, Nat.le_of_ble_eq_true rfl⟩ kc_7 clX3 rfl rfl (Nat.le_of_ble_eq_true rfl) dX9_empty_31 ?_
      refine r_inc C (L1 := [(1, .int (qI (x1 + 1))), (0, .ref (ad 0))]) dX9_empty_34 (k := 1) rfl (by decide) rfl ?_
      refine r_goto C (tgt := 6) dX9_empty_37 (by decide) ?_
      refine r_drop [1, 0] rfl ?_
      exact ih6 (x1 + 1) M4 h
    · refine r_iln C dX9_empty_24 (k := 1) rfl ?_
      exact r_iret C hr hlk dX9_empty_25 h
theorem w_X9_empty_L6 (C : Cx syC p m c cX9_empty 2 s args RX9 D ad cA) (hr : meth.sig.returnType = (some .int)) (hlk : meth.locks = false)    (n : Nat) (x1 : Int) (M : Mem) (h : f_X9_empty_L6  n x1 M = some (r0, M0)) : WM syC p l e rm_X9_empty s m args below meth c 2 D ad cA (MQ below (q_Post syC D ad cA (some (.int (qI r0))) M0) args s 0 0 (q_A syC ad)) M 6 [(0, .ref (ad 0)), (1, .int (qI x1))] [] :=
  qlm1_r (Wp := fun ux1 M => WM syC p l e rm_X9_empty s m args below meth c 2 D ad cA (MQ below (q_Post syC D ad cA (some (.int (qI r0))) M0) args s 0 0 (q_A syC ad)) M 6 [(0, .ref (ad 0)), (1, .int (qI ux1))] []) (fun ux1 M g6 ih6 h => w_X9_empty_B6 C hr hlk  ux1 M g6  ih6 h) n x1 M h
def f_X9_empty  (M : Mem) : Res :=
  q_call (f_X9_tryFromNow  M) fun r1 M2 =>
  f_X9_empty_L6  q_N 0 M2
theorem c_X9_empty {l : Launch} {D : va_G} {ad : Nat → Nat} {cA : Nat → ClassId} (hi : q_inj syC ad)  (M : Mem) (r0 : Int) (M0 : Mem) (h : f_X9_empty  M = some (r0, M0)) : q_Met l syC D ad cA yX9_empty cX9_empty 2 (some .int) rm_X9_empty [.ref (ad 0)] M (some (.int (qI r0))) M0 := by
  refine q_met (L0 := [(0, .ref (ad 0))]) hi okC (by decide) (Nat.le_of_ble_eq_true rfl) rfl ?_
  intro p e s m args below meth c C hr hlk
  unfold f_X9_empty at h
  refine r_aln C dX9_empty_0 (k := 0) rfl ?_
  obtain ⟨r1, M2, hy, h⟩ := q_call_some h
  refine r_cvv C (st := []) (c_X9_tryFromNow C.2.2.1 M r1 M2 hy) tm_RX9_258 mw_X9_tryFromNow ⟨rfl, rfl⟩ ⟨Nat.le_of_ble_eq_true rfl, Nat.le_of_ble_eq_true rfl⟩ kc_0 clX9 rfl rfl (Nat.le_of_ble_eq_true rfl) dX9_empty_1 ?_
  refine r_ic C dX9_empty_4 ?_
  refine r_isn C (L1 := [(1, .int (qI 0)), (0, .ref (ad 0))]) dX9_empty_5 (by decide) rfl ?_
  refine r_drop [1, 0] rfl ?_
  exact w_X9_empty_L6 C hr hlk   q_N 0 M2 h
abbrev rm_X9_fault : Room := { frames := 0, cells := 0, slots := 0, locals := 0 }
theorem mw_X9_fault : q_mw RX9 yX9_fault cX9_fault 2 (some .int) 1 := ⟨⟨ti_X9_fault, tl_X9_fault, tn_RX9, td_X9_fault⟩, by decide +kernel⟩
def f_X9_fault (a0 : Int) (M : Mem) : Option Int :=
  if w32 a0 = 0 then (q_gf M 1 4 fun v1 =>
  some v1)
  else if w32 a0 = 1 then (q_gf M 1 5 fun v2 =>
  some v2)
  else (some (-1))
theorem c_X9_fault {l : Launch} {D : va_G} {ad : Nat → Nat} {cA : Nat → ClassId} (hi : q_inj syC ad) (a0 : Int) (M : Mem) (r0 : Int) (h : f_X9_fault a0 M = some r0) : q_Met l syC D ad cA yX9_fault cX9_fault 2 (some .int) rm_X9_fault [.ref (ad 0), .int (qI a0)] M (some (.int (qI r0))) M := by
  refine q_met (L0 := [(0, .ref (ad 0)), (1, .int (qI a0))]) hi okC (by decide) (Nat.le_of_ble_eq_true rfl) rfl ?_
  intro p e s m args below meth c C hr hlk
  unfold f_X9_fault at h
  refine r_iln C dX9_fault_0 (k := 1) rfl ?_
  refine r_tc C h (fun e h => ?_) (fun ne0 h => ?_)
  · refine r_lk C (tgt := 28) dX9_fault_1 (by decide) e rfl (by decide) ?_
    refine r_aln C dX9_fault_28 (k := 0) rfl ?_
    refine r_gs C kc_0 clX9 (f := 2) (by decide) rfl (t := 1) rfl tf_RX9_24 dX9_fault_29 ?_
    refine r_gf C kc_1 clX4 (f := 4) (by decide) rfl rfl rfl tf_RX9_116 dX9_fault_32 h (fun v1 h => ?_)
    exact r_iretp C hr hlk dX9_fault_35 h
  refine r_tc C h (fun e h => ?_) (fun ne1 h => ?_)
  · refine r_lk C (tgt := 36) dX9_fault_1 (by decide) e rfl (by decide) ?_
    refine r_aln C dX9_fault_36 (k := 0) rfl ?_
    refine r_gs C kc_0 clX9 (f := 2) (by decide) rfl (t := 1) rfl tf_RX9_24 dX9_fault_37 ?_
    refine r_gf C kc_1 clX4 (f := 5) (by decide) rfl rfl rfl tf_RX9_119 dX9_fault_40 h (fun v2 h => ?_)
    exact r_iretp C hr hlk dX9_fault_43 h
  refine r_lk C (tgt := 44) (k := w32 a0) dX9_fault_1 (by decide) rfl (off := 43) (by simp only [Op.lookupswitch.offset]; rw [if_neg (fun q => ne0 q.symm)]; rw [if_neg (fun q => ne1 q.symm)]) (by decide) ?_
  refine r_ic C dX9_fault_44 ?_
  exact r_iretp C hr hlk dX9_fault_45 h
abbrev rm_X9_putNumber : Room := { frames := 0, cells := 0, slots := 0, locals := 0 }
theorem mw_X9_putNumber : q_mw RX9 yX9_putNumber cX9_putNumber 3 none 1 := ⟨⟨ti_X9_putNumber, tl_X9_putNumber, tn_RX9, td_X9_putNumber⟩, by decide +kernel⟩
def f_X9_putNumber_B3 (x1 : Int) (x2 : Int) (M : Mem) (g3 : Int → Mem → Res) : Res :=
  if w32 x2 < 0 then (some (0, M))
  else (q_gf M 0 1 fun v1 =>
  if w32 700 ≤ w32 v1 then (some (0, M))
  else (q_gf M 0 1 fun v2 =>
  if q_i2b (q_i2b (q_shr x1 x2)) = q_i2b (q_shr x1 x2) then (q_as M 32 700 v2 (q_i2b (q_shr x1 x2)) fun M3 =>
  q_gf M3 0 1 fun v4 =>
  q_pf M3 0 1 (v4 + 1) fun M5 =>
  g3 (x2 + (-8)) M5) else none))
def f_X9_putNumber_L3 (x1 : Int) (n : Nat) (x2 : Int) (M : Mem) : Res := qlm1 (fun x2 M g3 => f_X9_putNumber_B3 x1 x2 M g3) n x2 M
theorem w_X9_putNumber_B3 (C : Cx syC p m c cX9_putNumber 3 s args RX9 D ad cA) (hr : meth.sig.returnType = none) (hlk : meth.locks = false)  (x1 : Int) (x2 : Int) (M : Mem) (g3 : Int → Mem → Res)  (ih3 : ∀ (ux2 : Int) (M : Mem), g3 ux2 M = some (r0, M0) → WM syC p l e rm_X9_putNumber s m args below meth c 3 D ad cA (MQ below (q_Post syC D ad cA none M0) args s 0 0 (q_A syC ad)) M 3 [(0, .ref (ad 0)), (1, .int (qI x1)), (2, .int (qI ux2))] []) (h : f_X9_putNumber_B3 x1 x2 M g3 = some (r0, M0)) : WM syC p l e rm_X9_putNumber s m args below meth c 3 D ad cA (MQ below (q_Post syC D ad cA none M0) args s 0 0 (q_A syC ad)) M 3 [(0, .ref (ad 0)), (1, .int (qI x1)), (2, .int (qI x2))] [] := by
  unfold f_X9_putNumber_B3 at h
  refine r_iln C dX9_putNumber_3 (k := 2) rfl ?_
  refine r_zlt C (tgt := 46) dX9_putNumber_4 (by decide) h (fun h => ?_) (fun h => ?_)
  · exact r_vret C hr hlk dX9_putNumber_46 h
  · refine r_aln C dX9_putNumber_7 (k := 0) rfl ?_
    refine r_gf C kc_0 clX9 (f := 1) (by decide) rfl rfl rfl tf_RX9_15 dX9_putNumber_8 h (fun v1 h => ?_)
    refine r_si C dX9_putNumber_11 (by decide) ?_
    refine r_cge C (tgt := 46) dX9_putNumber_14 (by decide) h (fun h => ?_) (fun h => ?_)
    · exact r_vret C hr hlk dX9_putNumber_46 h
    · refine r_aln C dX9_putNumber_17 (k := 0) rfl ?_
      refine r_gs C kc_0 clX9 (f := 0) (by decide) rfl (t := 32) rfl tf_RX9_11 dX9_putNumber_18 ?_
      refine r_aln C dX9_putNumber_21 (k := 0) rfl ?_
      refine r_gf C kc_0 clX9 (f := 1) (by decide) rfl rfl rfl tf_RX9_15 dX9_putNumber_22 h (fun v2 h => ?_)
      refine r_iln C dX9_putNumber_25 (k := 1) rfl ?_
      refine r_iln C dX9_putNumber_26 (k := 2) rfl ?_
      refine r_ishr C dX9_putNumber_27 ?_
      refine r_i2b C dX9_putNumber_28 ?_
      refine r_bast C kc_32 dX9_putNumber_29 h (fun M3 h => ?_)
      refine r_aln C dX9_putNumber_30 (k := 0) rfl ?_
      refine r_dup C rfl dX9_putNumber_31 ?_
      refine r_gf C kc_0 clX9 (f := 1) (by decide) rfl rfl rfl tf_RX9_15 dX9_putNumber_32 h (fun v4 h => ?_)
      refine r_ic C dX9_putNumber_35 ?_
      refine r_iadd C dX9_putNumber_36 ?_
      refine r_pf C kc_0 clX9 (f := 1) (by decide) rfl q_dI rfl rfl tf_RX9_15 dX9_putNumber_37 h (fun M5 h => ?_)
      refine r_inc C (L1 := [(2, .int (qI (x2 + (-8)))), (0, .ref (ad 0)), (1, .int (qI x1))]) dX9_putNumber_40 (k := 2) rfl (by decide) rfl ?_
      refine r_goto C (tgt := 3) dX9_putNumber_43 (by decide) ?_
      refine r_drop [1, 2, 0] rfl ?_
      exact ih3 (x2 + (-8)) M5 h
theorem w_X9_putNumber_L3 (C : Cx syC p m c cX9_putNumber 3 s args RX9 D ad cA) (hr : meth.sig.returnType = none) (hlk : meth.locks = false)  (x1 : Int)  (n : Nat) (x2 : Int) (M : Mem) (h : f_X9_putNumber_L3 x1 n x2 M = some (r0, M0)) : WM syC p l e rm_X9_putNumber s m args below meth c 3 D ad cA (MQ below (q_Post syC D ad cA none M0) args s 0 0 (q_A syC ad)) M 3 [(0, .ref (ad 0)), (1, .int (qI x1)), (2, .int (qI x2))] [] :=
  qlm1_r (Wp := fun ux2 M => WM syC p l e rm_X9_putNumber s m args below meth c 3 D ad cA (MQ below (q_Post syC D ad cA none M0) args s 0 0 (q_A syC ad)) M 3 [(0, .ref (ad 0)), (1, .int (qI x1)), (2, .int (qI ux2))] []) (fun ux2 M g3 ih3 h => w_X9_putNumber_B3 C hr hlk x1 ux2 M g3  ih3 h) n x2 M h
def f_X9_putNumber (a0 : Int) (M : Mem) : Res :=
  f_X9_putNumber_L3 a0 q_N 24 M
theorem c_X9_putNumber {l : Launch} {D : va_G} {ad : Nat → Nat} {cA : Nat → ClassId} (hi : q_inj syC ad) (a0 : Int) (M : Mem) (r0 : Int) (M0 : Mem) (h : f_X9_putNumber a0 M = some (r0, M0)) : q_Met l syC D ad cA yX9_putNumber cX9_putNumber 3 none rm_X9_putNumber [.ref (ad 0), .int (qI a0)] M none M0 := by
  refine q_met (L0 := [(0, .ref (ad 0)), (1, .int (qI a0))]) hi okC (by decide) (Nat.le_of_ble_eq_true rfl) rfl ?_
  intro p e s m args below meth c C hr hlk
  unfold f_X9_putNumber at h
  refine r_bi C dX9_putNumber_0 (by decide) ?_
  refine r_isn C (L1 := [(2, .int (qI 24)), (0, .ref (ad 0)), (1, .int (qI a0))]) dX9_putNumber_2 (by decide) rfl ?_
  refine r_drop [1, 2, 0] rfl ?_
  exact w_X9_putNumber_L3 C hr hlk a0  q_N 24 M h
abbrev rm_X9_feed : Room := { frames := 1, cells := 0, slots := 0, locals := 22 }
theorem mw_X9_feed : q_mw RX9 yX9_feed cX9_feed 6 (some .int) 5 := ⟨⟨ti_X9_feed, tl_X9_feed, tn_RX9, td_X9_feed⟩, by decide +kernel⟩
def f_X9_feed (a0 : Int) (a1 : Int) (a2 : Int) (a3 : Int) (a4 : Int) (M : Mem) : Res :=
  q_gf M 0 1 fun v1 =>
  if w32 (v1 + 20) ≤ w32 700 then (q_call (f_X9_putNumber a0 M) fun r2 M3 =>
  q_call (f_X9_putNumber a1 M3) fun r4 M5 =>
  q_call (f_X9_putNumber a2 M5) fun r6 M7 =>
  q_call (f_X9_putNumber a3 M7) fun r8 M9 =>
  q_call (f_X9_putNumber a4 M9) fun r10 M11 =>
  q_gf M11 0 1 fun v12 =>
  some (v12, M11))
  else (some ((-1), M))
theorem c_X9_feed {l : Launch} {D : va_G} {ad : Nat → Nat} {cA : Nat → ClassId} (hi : q_inj syC ad) (a0 : Int) (a1 : Int) (a2 : Int) (a3 : Int) (a4 : Int) (M : Mem) (r0 : Int) (M0 : Mem) (h : f_X9_feed a0 a1 a2 a3 a4 M = some (r0, M0)) : q_Met l syC D ad cA yX9_feed cX9_feed 6 (some .int) rm_X9_feed [.ref (ad 0), .int (qI a0), .int (qI a1), .int (qI a2), .int (qI a3), .int (qI a4)] M (some (.int (qI r0))) M0 := by
  refine q_met (L0 := [(0, .ref (ad 0)), (1, .int (qI a0)), (2, .int (qI a1)), (3, .int (qI a2)), (4, .int (qI a3)), (5, .int (qI a4))]) hi okC (by decide) (Nat.le_of_ble_eq_true rfl) rfl ?_
  intro p e s m args below meth c C hr hlk
  unfold f_X9_feed at h
  refine r_aln C dX9_feed_0 (k := 0) rfl ?_
  refine r_gf C kc_0 clX9 (f := 1) (by decide) rfl rfl rfl tf_RX9_15 dX9_feed_1 h (fun v1 h => ?_)
  refine r_bi C dX9_feed_4 (by decide) ?_
  refine r_iadd C dX9_feed_6 ?_
  refine r_si C dX9_feed_7 (by decide) ?_
  refine r_cle C (tgt := 15) dX9_feed_10 (by decide) h (fun h => ?_) (fun h => ?_)
  · refine r_aln C dX9_feed_15 (k := 0) rfl ?_
    refine r_iln C dX9_feed_16 (k := 1) rfl ?_
    obtain ⟨r2, M3, hy, h⟩ := q_call_some h
    refine r_cvv C (st := []) (c_X9_putNumber C.2.2.1 a0 M r2 M3 hy) tm_RX9_98 mw_X9_putNumber ⟨rfl, rfl⟩ ⟨Nat.le_of_ble_eq_true rfl, Nat.le_of_ble_eq_true rfl⟩ kc_0 clX9 rfl rfl (Nat.le_of_ble_eq_true rfl) dX9_feed_17 ?_
    refine r_aln C dX9_feed_20 (k := 0) rfl ?_
    refine r_iln C dX9_feed_21 (k := 2) rfl ?_
    obtain ⟨r4, M5, hy, h⟩ := q_call_some h
    refine r_cvv C (st := []) (c_X9_putNumber C.2.2.1 a1 M3 r4 M5 hy) tm_RX9_98 mw_X9_putNumber ⟨rfl, rfl⟩ ⟨Nat.le_of_ble_eq_true rfl, Nat.le_of_ble_eq_true rfl⟩ kc_0 clX9 rfl rfl (Nat.le_of_ble_eq_true rfl) dX9_feed_22 ?_
    refine r_aln C dX9_feed_25 (k := 0) rfl ?_
    refine r_iln C dX9_feed_26 (k := 3) rfl ?_
    obtain ⟨r6, M7, hy, h⟩ := q_call_some h
    refine r_cvv C (st := []) (c_X9_putNumber C.2.2.1 a2 M5 r6 M7 hy) tm_RX9_98 mw_X9_putNumber ⟨rfl, rfl⟩ ⟨Nat.le_of_ble_eq_true rfl, Nat.le_of_ble_eq_true rfl⟩ kc_0 clX9 rfl rfl (Nat.le_of_ble_eq_true rfl) dX9_feed_27 ?_
    refine r_aln C dX9_feed_30 (k := 0) rfl ?_
    refine r_il C dX9_feed_31 (k := 4) rfl ?_
    obtain ⟨r8, M9, hy, h⟩ := q_call_some h
    refine r_cvv C (st := []) (c_X9_putNumber C.2.2.1 a3 M7 r8 M9 hy) tm_RX9_98 mw_X9_putNumber ⟨rfl, rfl⟩ ⟨Nat.le_of_ble_eq_true rfl, Nat.le_of_ble_eq_true rfl⟩ kc_0 clX9 rfl rfl (Nat.le_of_ble_eq_true rfl) dX9_feed_33 ?_
    refine r_aln C dX9_feed_36 (k := 0) rfl ?_
    refine r_il C dX9_feed_37 (k := 5) rfl ?_
    obtain ⟨r10, M11, hy, h⟩ := q_call_some h
    refine r_cvv C (st := []) (c_X9_putNumber C.2.2.1 a4 M9 r10 M11 hy) tm_RX9_98 mw_X9_putNumber ⟨rfl, rfl⟩ ⟨Nat.le_of_ble_eq_true rfl, Nat.le_of_ble_eq_true rfl⟩ kc_0 clX9 rfl rfl (Nat.le_of_ble_eq_true rfl) dX9_feed_39 ?_
    refine r_aln C dX9_feed_42 (k := 0) rfl ?_
    refine r_gf C kc_0 clX9 (f := 1) (by decide) rfl rfl rfl tf_RX9_15 dX9_feed_43 h (fun v12 h => ?_)
    exact r_iret C hr hlk dX9_feed_46 h
  · refine r_ic C dX9_feed_13 ?_
    exact r_iret C hr hlk dX9_feed_14 h
abbrev rm_X9_firstFrom : Room := { frames := 0, cells := 0, slots := 0, locals := 0 }
theorem mw_X9_firstFrom : q_mw RX9 yX9_firstFrom cX9_firstFrom 5 (some .int) 2 := ⟨⟨ti_X9_firstFrom, tl_X9_firstFrom, tn_RX9, td_X9_firstFrom⟩, by decide +kernel⟩
def f_X9_firstFrom_J28 (x2 : Int) (M : Mem) : Option Int :=
  q_gr M 0 3 fun t1 =>
  q_al M (32 * (t1 + 1) + 9) 4 x2 fun v2 =>
  some v2
theorem w_X9_firstFrom_J28 (C : Cx syC p m c cX9_firstFrom 5 s args RX9 D ad cA) (hr : meth.sig.returnType = (some .int)) (hlk : meth.locks = false) (x2 : Int) (M : Mem)  (h : f_X9_firstFrom_J28 x2 M = some r0) : WM syC p l e rm_X9_firstFrom s m args below meth c 5 D ad cA (MQ below (q_Post syC D ad cA (some (.int (qI r0))) M) args s 0 0 (q_A syC ad)) M 28 [(0, .ref (ad 0)), (2, .int (qI x2))] [] := by
  unfold f_X9_firstFrom_J28 at h
  refine r_aln C dX9_firstFrom_28 (k := 0) rfl ?_
  refine r_gr C kc_0 clX9 (f := 3) (fz := 3) (Pp := isT) (by decide) rfl rfl (fun q => q.1) tf_RX9_31 dX9_firstFrom_29 h (fun t1 ht1 h => ?_)
  refine r_gs C (kT ht1) clX8 (f := 9) (by decide) rfl (t := (32 * (t1 + 1) + 9)) rfl tf_RX9_182 dX9_firstFrom_32 ?_
  refine r_iln C dX9_firstFrom_35 (k := 1) rfl ?_
  refine r_iald C (kT_9 ht1) dX9_firstFrom_36 h (fun v2 h => ?_)
  exact r_iretp C hr hlk dX9_firstFrom_37 h
def f_X9_firstFrom (a0 : Int) (a1 : Int) (M : Mem) : Option Int :=
  q_gr M 0 3 fun t1 =>
  q_al M (32 * (t1 + 1) + 10) 4 a1 fun v2 =>
  q_gr M 0 3 fun t3 =>
  q_al M (32 * (t3 + 1) + 9) 4 a1 fun v4 =>
  if w32 a0 ≤ w32 v4 then (f_X9_firstFrom_J28 a1 M)
  else (if w32 1 ≤ w32 v2 then (q_gr M 0 3 fun t5 =>
  q_al M (32 * (t5 + 1) + 9) 4 a1 fun v6 =>
  q_nz v2 <| if ¬ w32 ((w32 (a0 - v6)).tmod (w32 v2)) = 0 then (some ((a0 + v2) - ((w32 (a0 - v6)).tmod (w32 v2))))
  else (some a0))
  else (f_X9_firstFrom_J28 a1 M))
theorem c_X9_firstFrom {l : Launch} {D : va_G} {ad : Nat → Nat} {cA : Nat → ClassId} (hi : q_inj syC ad) (a0 : Int) (a1 : Int) (M : Mem) (r0 : Int) (h : f_X9_firstFrom a0 a1 M = some r0) : q_Met l syC D ad cA yX9_firstFrom cX9_firstFrom 5 (some .int) rm_X9_firstFrom [.ref (ad 0), .int (qI a0), .int (qI a1)] M (some (.int (qI r0))) M := by
  refine q_met (L0 := [(0, .ref (ad 0)), (1, .int (qI a0)), (2, .int (qI a1))]) hi okC (by decide) (Nat.le_of_ble_eq_true rfl) rfl ?_
  intro p e s m args below meth c C hr hlk
  unfold f_X9_firstFrom at h
  refine r_aln C dX9_firstFrom_0 (k := 0) rfl ?_
  refine r_gr C kc_0 clX9 (f := 3) (fz := 3) (Pp := isT) (by decide) rfl rfl (fun q => q.1) tf_RX9_31 dX9_firstFrom_1 h (fun t1 ht1 h => ?_)
  refine r_gs C (kT ht1) clX8 (f := 10) (by decide) rfl (t := (32 * (t1 + 1) + 10)) rfl tf_RX9_185 dX9_firstFrom_4 ?_
  refine r_iln C dX9_firstFrom_7 (k := 2) rfl ?_
  refine r_iald C (kT_10 ht1) dX9_firstFrom_8 h (fun v2 h => ?_)
  refine r_isn C (L1 := [(3, .int (qI v2)), (0, .ref (ad 0)), (1, .int (qI a0)), (2, .int (qI a1))]) dX9_firstFrom_9 (by decide) rfl ?_
  refine r_iln C dX9_firstFrom_10 (k := 2) rfl ?_
  refine r_aln C dX9_firstFrom_11 (k := 1) rfl ?_
  refine r_gr C kc_0 clX9 (f := 3) (fz := 3) (Pp := isT) (by decide) rfl rfl (fun q => q.1) tf_RX9_31 dX9_firstFrom_12 h (fun t3 ht3 h => ?_)
  refine r_gs C (kT ht3) clX8 (f := 9) (by decide) rfl (t := (32 * (t3 + 1) + 9)) rfl tf_RX9_182 dX9_firstFrom_15 ?_
  refine r_iln C dX9_firstFrom_18 (k := 3) rfl ?_
  refine r_iald C (kT_9 ht3) dX9_firstFrom_19 h (fun v4 h => ?_)
  refine r_cle C (tgt := 28) dX9_firstFrom_20 (by decide) h (fun h => ?_) (fun h => ?_)
  · refine r_drop [1, 3] rfl ?_
    exact w_X9_firstFrom_J28 C hr hlk a1 M  h
  · refine r_iln C dX9_firstFrom_23 (k := 0) rfl ?_
    refine r_ic C dX9_firstFrom_24 ?_
    refine r_cge C (tgt := 38) dX9_firstFrom_25 (by decide) h (fun h => ?_) (fun h => ?_)
    · refine r_iln C dX9_firstFrom_38 (k := 2) rfl ?_
      refine r_aln C dX9_firstFrom_39 (k := 1) rfl ?_
      refine r_gr C kc_0 clX9 (f := 3) (fz := 3) (Pp := isT) (by decide) rfl rfl (fun q => q.1) tf_RX9_31 dX9_firstFrom_40 h (fun t5 ht5 h => ?_)
      refine r_gs C (kT ht5) clX8 (f := 9) (by decide) rfl (t := (32 * (t5 + 1) + 9)) rfl tf_RX9_182 dX9_firstFrom_43 ?_
      refine r_iln C dX9_firstFrom_46 (k := 3) rfl ?_
      refine r_iald C (kT_9 ht5) dX9_firstFrom_47 h (fun v6 h => ?_)
      refine r_isub C dX9_firstFrom_48 ?_
      refine r_iln C dX9_firstFrom_49 (k := 0) rfl ?_
      refine r_irem C dX9_firstFrom_50 h (fun h => ?_)
      refine r_is C (L1 := [(4, .int (qI ((w32 (a0 - v6)).tmod (w32 v2)))), (3, .int (qI v2)), (0, .ref (ad 0)), (1, .int (qI a0)), (2, .int (qI a1))]) dX9_firstFrom_51 (by decide) rfl ?_
      refine r_il C dX9_firstFrom_53 (k := 0) rfl ?_
      refine r_zne C (tgt := 62) dX9_firstFrom_55 (by decide) h (fun h => ?_) (fun h => ?_)
      · refine r_iln C dX9_firstFrom_62 (k := 3) rfl ?_
        refine r_iln C dX9_firstFrom_63 (k := 1) rfl ?_
        refine r_iadd C dX9_firstFrom_64 ?_
        refine r_il C dX9_firstFrom_65 (k := 0) rfl ?_
        refine r_isub C dX9_firstFrom_67 ?_
        exact r_iretp C hr hlk dX9_firstFrom_68 h
      · refine r_iln C dX9_firstFrom_58 (k := 3) rfl ?_
        refine r_goto C (tgt := 68) dX9_firstFrom_59 (by decide) ?_
        exact r_iretp C hr hlk dX9_firstFrom_68 h
    · refine r_drop [1, 3] rfl ?_
      exact w_X9_firstFrom_J28 C hr hlk a1 M  h
abbrev rm_X9_give : Room := { frames := 2, cells := 0, slots := 0, locals := 44 }
theorem mw_X9_give : q_mw RX9 yX9_give cX9_give 3 (some .int) 2 := ⟨⟨ti_X9_give, tl_X9_give, tn_RX9, td_X9_give⟩, by decide +kernel⟩
def f_X9_give (a0 : Int) (a1 : Int) (M : Mem) : Res :=
  q_calp (f_X9_isSoul a0 M) fun r1 =>
  if w32 r1 = 0 then (some ((-1), M))
  else (if w32 a1 < w32 1 then (some ((-1), M))
  else (if w32 a1 ≤ w32 99 then (q_al M 162 8 a0 fun v2 =>
  if w32 v2 = w32 2 then (some ((-1), M))
  else (q_al M 162 8 a0 fun v3 =>
  if ¬ w32 v3 = w32 3 then (q_al M 163 8 a0 fun v4 =>
  q_call (f_X0_note 1 a0 v4 M) fun r5 M6 =>
  q_al M6 163 8 a0 fun v7 =>
  q_as M6 163 8 a0 (q_min (v7 + a1) 99) fun M8 =>
  q_al M8 163 8 a0 fun v9 =>
  some (v9, M8))
  else (some ((-1), M))))
  else (some ((-1), M))))
theorem c_X9_give {l : Launch} {D : va_G} {ad : Nat → Nat} {cA : Nat → ClassId} (hi : q_inj syC ad) (a0 : Int) (a1 : Int) (M : Mem) (r0 : Int) (M0 : Mem) (h : f_X9_give a0 a1 M = some (r0, M0)) : q_Met l syC D ad cA yX9_give cX9_give 3 (some .int) rm_X9_give [.ref (ad 0), .int (qI a0), .int (qI a1)] M (some (.int (qI r0))) M0 := by
  refine q_met (L0 := [(0, .ref (ad 0)), (1, .int (qI a0)), (2, .int (qI a1))]) hi okC (by decide) (Nat.le_of_ble_eq_true rfl) rfl ?_
  intro p e s m args below meth c C hr hlk
  unfold f_X9_give at h
  refine r_aln C dX9_give_0 (k := 0) rfl ?_
  refine r_iln C dX9_give_1 (k := 1) rfl ?_
  obtain ⟨r1, hy, h⟩ := q_calp_some h
  refine r_cvi C (st := []) (c_X9_isSoul C.2.2.1 a0 M r1 hy) tm_RX9_138 mw_X9_isSoul ⟨rfl, rfl⟩ ⟨Nat.le_of_ble_eq_true rfl, Nat.le_of_ble_eq_true rfl⟩ kc_0 clX9 rfl rfl (Nat.le_of_ble_eq_true rfl) dX9_give_2 ?_
  refine r_zeq C (tgt := 19) dX9_give_5 (by decide) h (fun h => ?_) (fun h => ?_)
  · refine r_ic C dX9_give_19 ?_
    exact r_iret C hr hlk dX9_give_20 h
  · refine r_iln C dX9_give_8 (k := 2) rfl ?_
    refine r_ic C dX9_give_9 ?_
    refine r_clt C (tgt := 19) dX9_give_10 (by decide) h (fun h => ?_) (fun h => ?_)
    · refine r_ic C dX9_give_19 ?_
      exact r_iret C hr hlk dX9_give_20 h
    · refine r_iln C dX9_give_13 (k := 2) rfl ?_
      refine r_bi C dX9_give_14 (by decide) ?_
      refine r_cle C (tgt := 21) dX9_give_16 (by decide) h (fun h => ?_) (fun h => ?_)
      · refine r_aln C dX9_give_21 (k := 0) rfl ?_
        refine r_gs C kc_0 clX9 (f := 4) (by decide) rfl (t := 4) rfl tf_RX9_38 dX9_give_22 ?_
        refine r_gs C kc_4 clX6 (f := 2) (by decide) rfl (t := 162) rfl tf_RX9_149 dX9_give_25 ?_
        refine r_iln C dX9_give_28 (k := 1) rfl ?_
        refine r_iald C kc_162 dX9_give_29 h (fun v2 h => ?_)
        refine r_ic C dX9_give_30 ?_
        refine r_ceq C (tgt := 47) dX9_give_31 (by decide) h (fun h => ?_) (fun h => ?_)
        · refine r_ic C dX9_give_47 ?_
          exact r_iret C hr hlk dX9_give_48 h
        · refine r_aln C dX9_give_34 (k := 0) rfl ?_
          refine r_gs C kc_0 clX9 (f := 4) (by decide) rfl (t := 4) rfl tf_RX9_38 dX9_give_35 ?_
          refine r_gs C kc_4 clX6 (f := 2) (by decide) rfl (t := 162) rfl tf_RX9_149 dX9_give_38 ?_
          refine r_iln C dX9_give_41 (k := 1) rfl ?_
          refine r_iald C kc_162 dX9_give_42 h (fun v3 h => ?_)
          refine r_ic C dX9_give_43 ?_
          refine r_cne C (tgt := 49) dX9_give_44 (by decide) h (fun h => ?_) (fun h => ?_)
          · refine r_aln C dX9_give_49 (k := 0) rfl ?_
            refine r_gs C kc_0 clX9 (f := 9) (by decide) rfl (t := 8) rfl tf_RX9_64 dX9_give_50 ?_
            refine r_ic C dX9_give_53 ?_
            refine r_iln C dX9_give_54 (k := 1) rfl ?_
            refine r_aln C dX9_give_55 (k := 0) rfl ?_
            refine r_gs C kc_0 clX9 (f := 4) (by decide) rfl (t := 4) rfl tf_RX9_38 dX9_give_56 ?_
            refine r_gs C kc_4 clX6 (f := 3) (by decide) rfl (t := 163) rfl tf_RX9_155 dX9_give_59 ?_
            refine r_iln C dX9_give_62 (k := 1) rfl ?_
            refine r_iald C kc_163 dX9_give_63 h (fun v4 h => ?_)
            obtain ⟨r5, M6, hy, h⟩ := q_call_some h
            refine r_cvv C (st := []) (c_X0_note C.2.2.1 1 a0 v4 M r5 M6 hy) tm_RX9_236 mw_X0_note ⟨rfl, rfl⟩ ⟨Nat.le_of_ble_eq_true rfl, Nat.le_of_ble_eq_true rfl⟩ kc_8 clX0 rfl rfl (Nat.le_of_ble_eq_true rfl) dX9_give_64 ?_
            refine r_aln C dX9_give_67 (k := 0) rfl ?_
            refine r_gs C kc_0 clX9 (f := 4) (by decide) rfl (t := 4) rfl tf_RX9_38 dX9_give_68 ?_
            refine r_gs C kc_4 clX6 (f := 3) (by decide) rfl (t := 163) rfl tf_RX9_155 dX9_give_71 ?_
            refine r_iln C dX9_give_74 (k := 1) rfl ?_
            refine r_aln C dX9_give_75 (k := 0) rfl ?_
            refine r_gs C kc_0 clX9 (f := 4) (by decide) rfl (t := 4) rfl tf_RX9_38 dX9_give_76 ?_
            refine r_gs C kc_4 clX6 (f := 3) (by decide) rfl (t := 163) rfl tf_RX9_155 dX9_give_79 ?_
            refine r_iln C dX9_give_82 (k := 1) rfl ?_
            refine r_iald C kc_163 dX9_give_83 h (fun v7 h => ?_)
            refine r_iln C dX9_give_84 (k := 2) rfl ?_
            refine r_iadd C dX9_give_85 ?_
            refine r_bi C dX9_give_86 (by decide) ?_
            refine r_q_min C (st := [.int (qI a0), .ref (ad 163)]) tm_RX9_239 ⟨Nat.le_of_ble_eq_true rfl, Nat.le_of_ble_eq_true rfl⟩ dX9_give_88 ?_
            refine r_iast C kc_163 dX9_give_91 h (fun M8 h => ?_)
            refine r_aln C dX9_give_92 (k := 0) rfl ?_
            refine r_gs C kc_0 clX9 (f := 4) (by decide) rfl (t := 4) rfl tf_RX9_38 dX9_give_93 ?_
            refine r_gs C kc_4 clX6 (f := 3) (by decide) rfl (t := 163) rfl tf_RX9_155 dX9_give_96 ?_
            refine r_iln C dX9_give_99 (k := 1) rfl ?_
            refine r_iald C kc_163 dX9_give_100 h (fun v9 h => ?_)
            exact r_iret C hr hlk dX9_give_101 h
          · refine r_ic C dX9_give_47 ?_
            exact r_iret C hr hlk dX9_give_48 h
      · refine r_ic C dX9_give_19 ?_
        exact r_iret C hr hlk dX9_give_20 h
abbrev rm_X9_go : Room := { frames := 5, cells := 0, slots := 0, locals := 128 }
theorem mw_X9_go : q_mw RX9 yX9_go cX9_go 2 (some .int) 1 := ⟨⟨ti_X9_go, tl_X9_go, tn_RX9, td_X9_go⟩, by decide +kernel⟩
def f_X9_go (a0 : Int) (M : Mem) : Res :=
  if w32 a0 < 0 then (some ((-1), M))
  else (if w32 200 < w32 a0 then (some ((-1), M))
  else (q_gf M 4 0 fun v1 =>
  if w32 (v1 + a0) ≤ w32 9800 then (q_gr M 0 3 fun t2 =>
  q_call (f_X3_ready t2 4 M) fun r3 M4 =>
  q_pz M4 7 2 1 fun M5 =>
  q_call (f_X3_pass a0 M5) fun r6 M7 =>
  if w32 a0 ≤ 0 then (q_gf M7 4 0 fun v8 =>
  some (v8, M7))
  else (q_pf M7 8 3 0 fun M9 =>
  q_gf M9 4 0 fun v10 =>
  some (v10, M9)))
  else (some ((-1), M))))
theorem c_X9_go {l : Launch} {D : va_G} {ad : Nat → Nat} {cA : Nat → ClassId} (hi : q_inj syC ad) (a0 : Int) (M : Mem) (r0 : Int) (M0 : Mem) (h : f_X9_go a0 M = some (r0, M0)) : q_Met l syC D ad cA yX9_go cX9_go 2 (some .int) rm_X9_go [.ref (ad 0), .int (qI a0)] M (some (.int (qI r0))) M0 := by
  refine q_met (L0 := [(0, .ref (ad 0)), (1, .int (qI a0))]) hi okC (by decide) (Nat.le_of_ble_eq_true rfl) rfl ?_
  intro p e s m args below meth c C hr hlk
  unfold f_X9_go at h
  refine r_iln C dX9_go_0 (k := 1) rfl ?_
  refine r_zlt C (tgt := 26) dX9_go_1 (by decide) h (fun h => ?_) (fun h => ?_)
  · refine r_ic C dX9_go_26 ?_
    exact r_iret C hr hlk dX9_go_27 h
  · refine r_iln C dX9_go_4 (k := 1) rfl ?_
    refine r_si C dX9_go_5 (by decide) ?_
    refine r_cgt C (tgt := 26) dX9_go_8 (by decide) h (fun h => ?_) (fun h => ?_)
    · refine r_ic C dX9_go_26 ?_
      exact r_iret C hr hlk dX9_go_27 h
    · refine r_aln C dX9_go_11 (k := 0) rfl ?_
      refine r_gs C kc_0 clX9 (f := 4) (by decide) rfl (t := 4) rfl tf_RX9_38 dX9_go_12 ?_
      refine r_gf C kc_4 clX6 (f := 0) (by decide) rfl rfl rfl tf_RX9_245 dX9_go_15 h (fun v1 h => ?_)
      refine r_iln C dX9_go_18 (k := 1) rfl ?_
      refine r_iadd C dX9_go_19 ?_
      refine r_si C dX9_go_20 (by decide) ?_
      refine r_cle C (tgt := 28) dX9_go_23 (by decide) h (fun h => ?_) (fun h => ?_)
      · refine r_aln C dX9_go_28 (k := 0) rfl ?_
        refine r_gs C kc_0 clX9 (f := 8) (by decide) rfl (t := 7) rfl tf_RX9_57 dX9_go_29 ?_
        refine r_aln C dX9_go_32 (k := 0) rfl ?_
        refine r_gr C kc_0 clX9 (f := 3) (fz := 3) (Pp := isT) (by decide) rfl rfl (fun q => q.1) tf_RX9_31 dX9_go_33 h (fun t2 ht2 h => ?_)
        refine r_aln C dX9_go_36 (k := 0) rfl ?_
        refine r_gs C kc_0 clX9 (f := 4) (by decide) rfl (t := 4) rfl tf_RX9_38 dX9_go_37 ?_
        obtain ⟨r3, M4, hy, h⟩ := q_call_some h
        refine r_cvv C (st := []) (c_X3_ready C.2.2.1 t2 4 ht2 (by unfold isS; omega) M r3 M4 hy) tm_RX9_208 mw_X3_ready ⟨rfl, rfl⟩ ⟨Nat.le_of_ble_eq_true rfl, Nat.le_of_ble_eq_true rfl⟩ kc_7 clX3 rfl rfl (Nat.le_of_ble_eq_true rfl) dX9_go_40 ?_
        refine r_aln C dX9_go_43 (k := 0) rfl ?_
        refine r_gs C kc_0 clX9 (f := 8) (by decide) rfl (t := 7) rfl tf_RX9_57 dX9_go_44 ?_
        refine r_ic C dX9_go_47 ?_
        refine r_pz C kc_7 clX3 (f := 2) (by decide) rfl q_dZ rfl rfl tf_RX9_248 dX9_go_48 h (fun M5 h => ?_)
        refine r_aln C dX9_go_51 (k := 0) rfl ?_
        refine r_gs C kc_0 clX9 (f := 8) (by decide) rfl (t := 7) rfl tf_RX9_57 dX9_go_52 ?_
        refine r_iln C dX9_go_55 (k := 1) rfl ?_
        obtain ⟨r6, M7, hy, h⟩ := q_call_some h
        refine r_cvv C (st := []) (c_X3_pass C.2.2.1 a0 M5 r6 M7 hy) tm_RX9_251 mw_X3_pass ⟨rfl, rfl⟩ ⟨Nat.le_of_ble_eq_true rfl, Nat.le_of_ble_eq_true rfl⟩ kc_7 clX3 rfl rfl (Nat.le_of_ble_eq_true rfl) dX9_go_56 ?_
        refine r_iln C dX9_go_59 (k := 1) rfl ?_
        refine r_zle C (tgt := 71) dX9_go_60 (by decide) h (fun h => ?_) (fun h => ?_)
        · refine r_aln C dX9_go_71 (k := 0) rfl ?_
          refine r_gs C kc_0 clX9 (f := 4) (by decide) rfl (t := 4) rfl tf_RX9_38 dX9_go_72 ?_
          refine r_gf C kc_4 clX6 (f := 0) (by decide) rfl rfl rfl tf_RX9_245 dX9_go_75 h (fun v8 h => ?_)
          exact r_iret C hr hlk dX9_go_78 h
        · refine r_aln C dX9_go_63 (k := 0) rfl ?_
          refine r_gs C kc_0 clX9 (f := 9) (by decide) rfl (t := 8) rfl tf_RX9_64 dX9_go_64 ?_
          refine r_ic C dX9_go_67 ?_
          refine r_pf C kc_8 clX0 (f := 3) (by decide) rfl q_dI rfl rfl tf_RX9_110 dX9_go_68 h (fun M9 h => ?_)
          refine r_aln C dX9_go_71 (k := 0) rfl ?_
          refine r_gs C kc_0 clX9 (f := 4) (by decide) rfl (t := 4) rfl tf_RX9_38 dX9_go_72 ?_
          refine r_gf C kc_4 clX6 (f := 0) (by decide) rfl rfl rfl tf_RX9_245 dX9_go_75 h (fun v10 h => ?_)
          exact r_iret C hr hlk dX9_go_78 h
      · refine r_ic C dX9_go_26 ?_
        exact r_iret C hr hlk dX9_go_27 h
abbrev rm_X9_goes : Room := { frames := 6, cells := 0, slots := 0, locals := 151 }
theorem mw_X9_goes : q_mw RX9 yX9_goes cX9_goes 2 (some .int) 1 := ⟨⟨ti_X9_goes, tl_X9_goes, tn_RX9, td_X9_goes⟩, by decide +kernel⟩
def f_X9_goes (a0 : Int) (M : Mem) : Res :=
  q_calp (f_X9_isSoul a0 M) fun r1 =>
  if ¬ w32 r1 = 0 then (q_call (f_X9_tryFromNow  M) fun r2 M3 =>
  q_call (f_X3_tillGone a0 199 M3) fun r4 M5 =>
  some (r4, M5))
  else (some ((-1), M))
theorem c_X9_goes {l : Launch} {D : va_G} {ad : Nat → Nat} {cA : Nat → ClassId} (hi : q_inj syC ad) (a0 : Int) (M : Mem) (r0 : Int) (M0 : Mem) (h : f_X9_goes a0 M = some (r0, M0)) : q_Met l syC D ad cA yX9_goes cX9_goes 2 (some .int) rm_X9_goes [.ref (ad 0), .int (qI a0)] M (some (.int (qI r0))) M0 := by
  refine q_met (L0 := [(0, .ref (ad 0)), (1, .int (qI a0))]) hi okC (by decide) (Nat.le_of_ble_eq_true rfl) rfl ?_
  intro p e s m args below meth c C hr hlk
  unfold f_X9_goes at h
  refine r_aln C dX9_goes_0 (k := 0) rfl ?_
  refine r_iln C dX9_goes_1 (k := 1) rfl ?_
  obtain ⟨r1, hy, h⟩ := q_calp_some h
  refine r_cvi C (st := []) (c_X9_isSoul C.2.2.1 a0 M r1 hy) tm_RX9_138 mw_X9_isSoul ⟨rfl, rfl⟩ ⟨Nat.le_of_ble_eq_true rfl, Nat.le_of_ble_eq_true rfl⟩ kc_0 clX9 rfl rfl (Nat.le_of_ble_eq_true rfl) dX9_goes_2 ?_
  refine r_zne C (tgt := 10) dX9_goes_5 (by decide) h (fun h => ?_) (fun h => ?_)
  · refine r_aln C dX9_goes_10 (k := 0) rfl ?_
    obtain ⟨r2, M3, hy, h⟩ := q_call_some h
    refine r_cvv C (st := []) (c_X9_tryFromNow C.2.2.1 M r2 M3 hy) tm_RX9_258 mw_X9_tryFromNow ⟨rfl, rfl⟩ ⟨Nat.le_of_ble_eq_true rfl, Nat.le_of_ble_eq_true rfl⟩ kc_0 clX9 rfl rfl (Nat.le_of_ble_eq_true rfl) dX9_goes_11 ?_
    refine r_aln C dX9_goes_14 (k := 0) rfl ?_
    refine r_gs C kc_0 clX9 (f := 8) (by decide) rfl (t := 7) rfl tf_RX9_57 dX9_goes_15 ?_
    refine r_iln C dX9_goes_18 (k := 1) rfl ?_
    refine r_si C dX9_goes_19 (by decide) ?_
    obtain ⟨r4, M5, hy, h⟩ := q_call_some h
    refine r_cvi C (st := []) (c_X3_tillGone C.2.2.1 a0 199 M3 r4 M5 hy) tm_RX9_278 mw_X3_tillGone ⟨rfl, rfl⟩ ⟨Nat.le_of_ble_eq_true rfl, Nat.le_of_ble_eq_true rfl⟩ kc_7 clX3 rfl rfl (Nat.le_of_ble_eq_true rfl) dX9_goes_22 ?_
    exact r_iret C hr hlk dX9_goes_25 h
  · refine r_ic C dX9_goes_8 ?_
    exact r_iret C hr hlk dX9_goes_9 h
abbrev rm_X9_goneWith : Room := { frames := 0, cells := 0, slots := 0, locals := 0 }
theorem mw_X9_goneWith : q_mw RX9 yX9_goneWith cX9_goneWith 4 (some .int) 1 := ⟨⟨ti_X9_goneWith, tl_X9_goneWith, tn_RX9, td_X9_goneWith⟩, by decide +kernel⟩
def f_X9_goneWith_B19 (x1 : Int) (M : Mem) (x2 : Int) (x3 : Int) (g19 : Int → Int → Option Int) : Option Int :=
  q_gr M 0 3 fun t1 =>
  q_gf M t1 0 fun v2 =>
  if w32 v2 ≤ w32 x3 then (some x2)
  else (q_al M 162 8 x3 fun v3 =>
  if ¬ w32 v3 = w32 2 then (g19 x2 (x3 + 1))
  else (q_al M 166 8 x3 fun v4 =>
  q_al M 166 8 x1 fun v5 =>
  if ¬ w32 v4 = w32 v5 then (g19 x2 (x3 + 1))
  else (q_al M 167 8 x3 fun v6 =>
  q_al M 167 8 x1 fun v7 =>
  if ¬ w32 v6 = w32 v7 then (g19 x2 (x3 + 1))
  else (g19 (q_or x2 (q_shl 1 x3)) (x3 + 1)))))
def f_X9_goneWith_L19 (x1 : Int) (M : Mem) (n : Nat) (x2 : Int) (x3 : Int) : Option Int := qlp2 (fun x2 x3 g19 => f_X9_goneWith_B19 x1 M x2 x3 g19) n x2 x3
theorem w_X9_goneWith_B19 (C : Cx syC p m c cX9_goneWith 4 s args RX9 D ad cA) (hr : meth.sig.returnType = (some .int)) (hlk : meth.locks = false)  (x1 : Int) (x2 : Int) (x3 : Int) (M : Mem) (g19 : Int → Int → Option Int)  (ih19 : ∀ (ux2 ux3 : Int) , g19 ux2 ux3  = some r0 → WM syC p l e rm_X9_goneWith s m args below meth c 4 D ad cA (MQ below (q_Post syC D ad cA (some (.int (qI r0))) M) args s 0 0 (q_A syC ad)) M 19 [(0, .ref (ad 0)), (1, .int (qI x1)), (2, .int (qI ux2)), (3, .int (qI ux3))] []) (h : f_X9_goneWith_B19 x1 M x2 x3 g19 = some r0) : WM syC p l e rm_X9_goneWith s m args below meth c 4 D ad cA (MQ below (q_Post syC D ad cA (some (.int (qI r0))) M) args s 0 0 (q_A syC ad)) M 19 [(0, .ref (ad 0)), (1, .int (qI x1)), (2, .int (qI x2)), (3, .int (qI x3))] [] := by
  unfold f_X9_goneWith_B19 at h
  refine r_iln C dX9_goneWith_19 (k := 3) rfl ?_
  refine r_aln C dX9_goneWith_20 (k := 0) rfl ?_
  refine r_gr C kc_0 clX9 (f := 3) (fz := 3) (Pp := isT) (by decide) rfl rfl (fun q => q.1) tf_RX9_31 dX9_goneWith_21 h (fun t1 ht1 h => ?_)
  refine r_gf C (kT ht1) clX8 (f := 0) (by decide) rfl rfl rfl tf_RX9_125 dX9_goneWith_24 h (fun v2 h => ?_)
  refine r_cge C (tgt := 97) dX9_goneWith_27 (by decide) h (fun h => ?_) (fun h => ?_)
  · refine r_iln C dX9_goneWith_97 (k := 2) rfl ?_
    exact r_iretp C hr hlk dX9_goneWith_98 h
  · refine r_aln C dX9_goneWith_30 (k := 0) rfl ?_
    refine r_gs C kc_0 clX9 (f := 4) (by decide) rfl (t := 4) rfl tf_RX9_38 dX9_goneWith_31 ?_
    refine r_gs C kc_4 clX6 (f := 2) (by decide) rfl (t := 162) rfl tf_RX9_149 dX9_goneWith_34 ?_
    refine r_iln C dX9_goneWith_37 (k := 3) rfl ?_
    refine r_iald C kc_162 dX9_goneWith_38 h (fun v3 h => ?_)
    refine r_ic C dX9_goneWith_39 ?_
    refine r_cne C (tgt := 91) dX9_goneWith_40 (by decide) h (fun h => ?_) (fun h => ?_)
    · refine r_inc C (L1 := [(3, .int (qI (x3 + 1))), (0, .ref (ad 0)), (1, .int (qI x1)), (2, .int (qI x2))]) dX9_goneWith_91 (k := 3) rfl (by decide) rfl ?_
      refine r_goto C (tgt := 19) dX9_goneWith_94 (by decide) ?_
      refine r_drop [1, 2, 3, 0] rfl ?_
      exact ih19 x2 (x3 + 1)  h
    · refine r_aln C dX9_goneWith_43 (k := 0) rfl ?_
      refine r_gs C kc_0 clX9 (f := 4) (by decide) rfl (t := 4) rfl tf_RX9_38 dX9_goneWith_44 ?_
      refine r_gs C kc_4 clX6 (f := 6) (by decide) rfl (t := 166) rfl tf_RX9_165 dX9_goneWith_47 ?_
      refine r_iln C dX9_goneWith_50 (k := 3) rfl ?_
      refine r_iald C kc_166 dX9_goneWith_51 h (fun v4 h => ?_)
      refine r_aln C dX9_goneWith_52 (k := 0) rfl ?_
      refine r_gs C kc_0 clX9 (f := 4) (by decide) rfl (t := 4) rfl tf_RX9_38 dX9_goneWith_53 ?_
      refine r_gs C kc_4 clX6 (f := 6) (by decide) rfl (t := 166) rfl tf_RX9_165 dX9_goneWith_56 ?_
      refine r_iln C dX9_goneWith_59 (k := 1) rfl ?_
      refine r_iald C kc_166 dX9_goneWith_60 h (fun v5 h => ?_)
      refine r_cne C (tgt := 91) dX9_goneWith_61 (by decide) h (fun h => ?_) (fun h => ?_)
      · refine r_inc C (L1 := [(3, .int (qI (x3 + 1))), (0, .ref (ad 0)), (1, .int (qI x1)), (2, .int (qI x2))]) dX9_goneWith_91 (k := 3) rfl (by decide) rfl ?_
        refine r_goto C (tgt := 19) dX9_goneWith_94 (by decide) ?_
        refine r_drop [1, 2, 3, 0] rfl ?_
        exact ih19 x2 (x3 + 1)  h
      · refine r_aln C dX9_goneWith_64 (k := 0) rfl ?_
        refine r_gs C kc_0 clX9 (f := 4) (by decide) rfl (t := 4) rfl tf_RX9_38 dX9_goneWith_65 ?_
        refine r_gs C kc_4 clX6 (f := 7) (by decide) rfl (t := 167) rfl tf_RX9_176 dX9_goneWith_68 ?_
        refine r_iln C dX9_goneWith_71 (k := 3) rfl ?_
        refine r_iald C kc_167 dX9_goneWith_72 h (fun v6 h => ?_)
        refine r_aln C dX9_goneWith_73 (k := 0) rfl ?_
        refine r_gs C kc_0 clX9 (f := 4) (by decide) rfl (t := 4) rfl tf_RX9_38 dX9_goneWith_74 ?_
        refine r_gs C kc_4 clX6 (f := 7) (by decide) rfl (t := 167) rfl tf_RX9_176 dX9_goneWith_77 ?_
        refine r_iln C dX9_goneWith_80 (k := 1) rfl ?_
        refine r_iald C kc_167 dX9_goneWith_81 h (fun v7 h => ?_)
        refine r_cne C (tgt := 91) dX9_goneWith_82 (by decide) h (fun h => ?_) (fun h => ?_)
        · refine r_inc C (L1 := [(3, .int (qI (x3 + 1))), (0, .ref (ad 0)), (1, .int (qI x1)), (2, .int (qI x2))]) dX9_goneWith_91 (k := 3) rfl (by decide) rfl ?_
          refine r_goto C (tgt := 19) dX9_goneWith_94 (by decide) ?_
          refine r_drop [1, 2, 3, 0] rfl ?_
          exact ih19 x2 (x3 + 1)  h
        · refine r_iln C dX9_goneWith_85 (k := 2) rfl ?_
          refine r_ic C dX9_goneWith_86 ?_
          refine r_iln C dX9_goneWith_87 (k := 3) rfl ?_
          refine r_ishl C dX9_goneWith_88 ?_
          refine r_ior C dX9_goneWith_89 ?_
          refine r_isn C (L1 := [(2, .int (qI (q_or x2 (q_shl 1 x3)))), (0, .ref (ad 0)), (1, .int (qI x1)), (3, .int (qI x3))]) dX9_goneWith_90 (by decide) rfl ?_
          refine r_inc C (L1 := [(3, .int (qI (x3 + 1))), (2, .int (qI (q_or x2 (q_shl 1 x3)))), (0, .ref (ad 0)), (1, .int (qI x1))]) dX9_goneWith_91 (k := 3) rfl (by decide) rfl ?_
          refine r_goto C (tgt := 19) dX9_goneWith_94 (by decide) ?_
          refine r_drop [2, 3, 1, 0] rfl ?_
          exact ih19 (q_or x2 (q_shl 1 x3)) (x3 + 1)  h
theorem w_X9_goneWith_L19 (C : Cx syC p m c cX9_goneWith 4 s args RX9 D ad cA) (hr : meth.sig.returnType = (some .int)) (hlk : meth.locks = false)  (x1 : Int) (M : Mem)  (n : Nat) (x2 : Int) (x3 : Int) (h : f_X9_goneWith_L19 x1 M n x2 x3 = some r0) : WM syC p l e rm_X9_goneWith s m args below meth c 4 D ad cA (MQ below (q_Post syC D ad cA (some (.int (qI r0))) M) args s 0 0 (q_A syC ad)) M 19 [(0, .ref (ad 0)), (1, .int (qI x1)), (2, .int (qI x2)), (3, .int (qI x3))] [] :=
  qlp2_r (Wp := fun ux2 ux3 => WM syC p l e rm_X9_goneWith s m args below meth c 4 D ad cA (MQ below (q_Post syC D ad cA (some (.int (qI r0))) M) args s 0 0 (q_A syC ad)) M 19 [(0, .ref (ad 0)), (1, .int (qI x1)), (2, .int (qI ux2)), (3, .int (qI ux3))] []) (fun ux2 ux3 g19 ih19 h => w_X9_goneWith_B19 C hr hlk x1 ux2 ux3 M g19  ih19 h) n x2 x3 h
def f_X9_goneWith (a0 : Int) (M : Mem) : Option Int :=
  q_al M 162 8 a0 fun v1 =>
  if w32 v1 = w32 2 then (f_X9_goneWith_L19 a0 M q_N 0 0)
  else (some 0)
theorem c_X9_goneWith {l : Launch} {D : va_G} {ad : Nat → Nat} {cA : Nat → ClassId} (hi : q_inj syC ad) (a0 : Int) (M : Mem) (r0 : Int) (h : f_X9_goneWith a0 M = some r0) : q_Met l syC D ad cA yX9_goneWith cX9_goneWith 4 (some .int) rm_X9_goneWith [.ref (ad 0), .int (qI a0)] M (some (.int (qI r0))) M := by
  refine q_met (L0 := [(0, .ref (ad 0)), (1, .int (qI a0))]) hi okC (by decide) (Nat.le_of_ble_eq_true rfl) rfl ?_
  intro p e s m args below meth c C hr hlk
  unfold f_X9_goneWith at h
  refine r_ic C dX9_goneWith_0 ?_
  refine r_isn C (L1 := [(2, .int (qI 0)), (0, .ref (ad 0)), (1, .int (qI a0))]) dX9_goneWith_1 (by decide) rfl ?_
  refine r_aln C dX9_goneWith_2 (k := 1) rfl ?_
  refine r_gs C kc_0 clX9 (f := 4) (by decide) rfl (t := 4) rfl tf_RX9_38 dX9_goneWith_3 ?_
  refine r_gs C kc_4 clX6 (f := 2) (by decide) rfl (t := 162) rfl tf_RX9_149 dX9_goneWith_6 ?_
  refine r_iln C dX9_goneWith_9 (k := 2) rfl ?_
  refine r_iald C kc_162 dX9_goneWith_10 h (fun v1 h => ?_)
  refine r_ic C dX9_goneWith_11 ?_
  refine r_ceq C (tgt := 17) dX9_goneWith_12 (by decide) h (fun h => ?_) (fun h => ?_)
  · refine r_ic C dX9_goneWith_17 ?_
    refine r_isn C (L1 := [(3, .int (qI 0)), (2, .int (qI 0)), (0, .ref (ad 0)), (1, .int (qI a0))]) dX9_goneWith_18 (by decide) rfl ?_
    refine r_drop [2, 3, 1, 0] rfl ?_
    exact w_X9_goneWith_L19 C hr hlk a0 M  q_N 0 0 h
  · refine r_iln C dX9_goneWith_15 (k := 0) rfl ?_
    exact r_iretp C hr hlk dX9_goneWith_16 h
abbrev rm_X9_windowFor : Room := { frames := 0, cells := 0, slots := 0, locals := 0 }
theorem mw_X9_windowFor : q_mw RX9 yX9_windowFor cX9_windowFor 5 (some .int) 4 := ⟨⟨ti_X9_windowFor, tl_X9_windowFor, tn_RX9, td_X9_windowFor⟩, by decide +kernel⟩
def f_X9_windowFor (a0 : Int) (a1 : Int) (a2 : Int) (a3 : Int) (M : Mem) : Option Int :=
  if ¬ w32 a2 = 0 then (if ¬ w32 a3 = 0 then (q_al M 163 8 a0 fun v1 =>
  q_gr M 0 3 fun t2 =>
  q_al M (32 * (t2 + 1) + 3) 8 a1 fun v3 =>
  some (v1 - v3))
  else (q_gr M 0 3 fun t4 =>
  q_al M (32 * (t4 + 1) + 3) 8 a0 fun v5 =>
  q_al M 163 8 a0 fun v6 =>
  some (v5 + v6)))
  else (if ¬ w32 a3 = 0 then (q_gr M 0 3 fun t7 =>
  q_al M (32 * (t7 + 1) + 3) 8 a0 fun v8 =>
  some v8)
  else (q_gr M 0 3 fun t9 =>
  q_al M (32 * (t9 + 1) + 3) 8 a0 fun v10 =>
  q_nz 2 <| some ((w32 v10).tdiv (w32 2))))
theorem c_X9_windowFor {l : Launch} {D : va_G} {ad : Nat → Nat} {cA : Nat → ClassId} (hi : q_inj syC ad) (a0 : Int) (a1 : Int) (a2 : Int) (a3 : Int) (M : Mem) (r0 : Int) (h : f_X9_windowFor a0 a1 a2 a3 M = some r0) : q_Met l syC D ad cA yX9_windowFor cX9_windowFor 5 (some .int) rm_X9_windowFor [.ref (ad 0), .int (qI a0), .int (qI a1), .int (qI a2), .int (qI a3)] M (some (.int (qI r0))) M := by
  refine q_met (L0 := [(0, .ref (ad 0)), (1, .int (qI a0)), (2, .int (qI a1)), (3, .int (qI a2)), (4, .int (qI a3))]) hi okC (by decide) (Nat.le_of_ble_eq_true rfl) rfl ?_
  intro p e s m args below meth c C hr hlk
  unfold f_X9_windowFor at h
  refine r_iln C dX9_windowFor_0 (k := 3) rfl ?_
  refine r_zne C (tgt := 33) dX9_windowFor_1 (by decide) h (fun h => ?_) (fun h => ?_)
  · refine r_il C dX9_windowFor_33 (k := 4) rfl ?_
    refine r_zne C (tgt := 60) dX9_windowFor_35 (by decide) h (fun h => ?_) (fun h => ?_)
    · refine r_aln C dX9_windowFor_60 (k := 0) rfl ?_
      refine r_gs C kc_0 clX9 (f := 4) (by decide) rfl (t := 4) rfl tf_RX9_38 dX9_windowFor_61 ?_
      refine r_gs C kc_4 clX6 (f := 3) (by decide) rfl (t := 163) rfl tf_RX9_155 dX9_windowFor_64 ?_
      refine r_iln C dX9_windowFor_67 (k := 1) rfl ?_
      refine r_iald C kc_163 dX9_windowFor_68 h (fun v1 h => ?_)
      refine r_aln C dX9_windowFor_69 (k := 0) rfl ?_
      refine r_gr C kc_0 clX9 (f := 3) (fz := 3) (Pp := isT) (by decide) rfl rfl (fun q => q.1) tf_RX9_31 dX9_windowFor_70 h (fun t2 ht2 h => ?_)
      refine r_gs C (kT ht2) clX8 (f := 3) (by decide) rfl (t := (32 * (t2 + 1) + 3)) rfl tf_RX9_152 dX9_windowFor_73 ?_
      refine r_iln C dX9_windowFor_76 (k := 2) rfl ?_
      refine r_iald C (kT_3 ht2) dX9_windowFor_77 h (fun v3 h => ?_)
      refine r_isub C dX9_windowFor_78 ?_
      exact r_iretp C hr hlk dX9_windowFor_79 h
    · refine r_aln C dX9_windowFor_38 (k := 0) rfl ?_
      refine r_gr C kc_0 clX9 (f := 3) (fz := 3) (Pp := isT) (by decide) rfl rfl (fun q => q.1) tf_RX9_31 dX9_windowFor_39 h (fun t4 ht4 h => ?_)
      refine r_gs C (kT ht4) clX8 (f := 3) (by decide) rfl (t := (32 * (t4 + 1) + 3)) rfl tf_RX9_152 dX9_windowFor_42 ?_
      refine r_iln C dX9_windowFor_45 (k := 1) rfl ?_
      refine r_iald C (kT_3 ht4) dX9_windowFor_46 h (fun v5 h => ?_)
      refine r_aln C dX9_windowFor_47 (k := 0) rfl ?_
      refine r_gs C kc_0 clX9 (f := 4) (by decide) rfl (t := 4) rfl tf_RX9_38 dX9_windowFor_48 ?_
      refine r_gs C kc_4 clX6 (f := 3) (by decide) rfl (t := 163) rfl tf_RX9_155 dX9_windowFor_51 ?_
      refine r_iln C dX9_windowFor_54 (k := 1) rfl ?_
      refine r_iald C kc_163 dX9_windowFor_55 h (fun v6 h => ?_)
      refine r_iadd C dX9_windowFor_56 ?_
      refine r_goto C (tgt := 79) dX9_windowFor_57 (by decide) ?_
      exact r_iretp C hr hlk dX9_windowFor_79 h
  · refine r_il C dX9_windowFor_4 (k := 4) rfl ?_
    refine r_zne C (tgt := 23) dX9_windowFor_6 (by decide) h (fun h => ?_) (fun h => ?_)
    · refine r_aln C dX9_windowFor_23 (k := 0) rfl ?_
      refine r_gr C kc_0 clX9 (f := 3) (fz := 3) (Pp := isT) (by decide) rfl rfl (fun q => q.1) tf_RX9_31 dX9_windowFor_24 h (fun t7 ht7 h => ?_)
      refine r_gs C (kT ht7) clX8 (f := 3) (by decide) rfl (t := (32 * (t7 + 1) + 3)) rfl tf_RX9_152 dX9_windowFor_27 ?_
      refine r_iln C dX9_windowFor_30 (k := 1) rfl ?_
      refine r_iald C (kT_3 ht7) dX9_windowFor_31 h (fun v8 h => ?_)
      exact r_iretp C hr hlk dX9_windowFor_32 h
    · refine r_aln C dX9_windowFor_9 (k := 0) rfl ?_
      refine r_gr C kc_0 clX9 (f := 3) (fz := 3) (Pp := isT) (by decide) rfl rfl (fun q => q.1) tf_RX9_31 dX9_windowFor_10 h (fun t9 ht9 h => ?_)
      refine r_gs C (kT ht9) clX8 (f := 3) (by decide) rfl (t := (32 * (t9 + 1) + 3)) rfl tf_RX9_152 dX9_windowFor_13 ?_
      refine r_iln C dX9_windowFor_16 (k := 1) rfl ?_
      refine r_iald C (kT_3 ht9) dX9_windowFor_17 h (fun v10 h => ?_)
      refine r_ic C dX9_windowFor_18 ?_
      refine r_idiv C dX9_windowFor_19 h (fun h => ?_)
      refine r_goto C (tgt := 32) dX9_windowFor_20 (by decide) ?_
      exact r_iretp C hr hlk dX9_windowFor_32 h
abbrev rm_X9_isRest : Room := { frames := 1, cells := 0, slots := 0, locals := 24 }
theorem mw_X9_isRest : q_mw RX9 yX9_isRest cX9_isRest 5 (some .boolean) 4 := ⟨⟨ti_X9_isRest, tl_X9_isRest, tn_RX9, td_X9_isRest⟩, by decide +kernel⟩
def f_X9_isRest (a0 : Int) (a1 : Int) (a2 : Int) (a3 : Int) (M : Mem) : Option Int :=
  q_calp (f_X9_windowFor a0 a1 a2 a3 M) fun r1 =>
  q_calp (f_X9_windowFor a0 a1 (1 - a2) a3 M) fun r2 =>
  if w32 r1 < w32 r2 then (some 0)
  else (q_calp (f_X9_windowFor a1 a0 a3 a2 M) fun r3 =>
  q_calp (f_X9_windowFor a1 a0 (1 - a3) a2 M) fun r4 =>
  if w32 r3 < w32 r4 then (some 0)
  else (some 1))
theorem c_X9_isRest {l : Launch} {D : va_G} {ad : Nat → Nat} {cA : Nat → ClassId} (hi : q_inj syC ad) (a0 : Int) (a1 : Int) (a2 : Int) (a3 : Int) (M : Mem) (r0 : Int) (h : f_X9_isRest a0 a1 a2 a3 M = some r0) : q_Met l syC D ad cA yX9_isRest cX9_isRest 5 (some .boolean) rm_X9_isRest [.ref (ad 0), .int (qI a0), .int (qI a1), .int (qI a2), .int (qI a3)] M (some (.int (qI r0))) M := by
  refine q_met (L0 := [(0, .ref (ad 0)), (1, .int (qI a0)), (2, .int (qI a1)), (3, .int (qI a2)), (4, .int (qI a3))]) hi okC (by decide) (Nat.le_of_ble_eq_true rfl) rfl ?_
  intro p e s m args below meth c C hr hlk
  unfold f_X9_isRest at h
  refine r_aln C dX9_isRest_0 (k := 0) rfl ?_
  refine r_iln C dX9_isRest_1 (k := 1) rfl ?_
  refine r_iln C dX9_isRest_2 (k := 2) rfl ?_
  refine r_iln C dX9_isRest_3 (k := 3) rfl ?_
  refine r_il C dX9_isRest_4 (k := 4) rfl ?_
  obtain ⟨r1, hy, h⟩ := q_calp_some h
  refine r_cvi C (st := []) (c_X9_windowFor C.2.2.1 a0 a1 a2 a3 M r1 hy) tm_RX9_326 mw_X9_windowFor ⟨rfl, rfl⟩ ⟨Nat.le_of_ble_eq_true rfl, Nat.le_of_ble_eq_true rfl⟩ kc_0 clX9 rfl rfl (Nat.le_of_ble_eq_true rfl) dX9_isRest_6 ?_
  refine r_aln C dX9_isRest_9 (k := 0) rfl ?_
  refine r_iln C dX9_isRest_10 (k := 1) rfl ?_
  refine r_iln C dX9_isRest_11 (k := 2) rfl ?_
  refine r_ic C dX9_isRest_12 ?_
  refine r_iln C dX9_isRest_13 (k := 3) rfl ?_
  refine r_isub C dX9_isRest_14 ?_
  refine r_il C dX9_isRest_15 (k := 4) rfl ?_
  obtain ⟨r2, hy, h⟩ := q_calp_some h
  refine r_cvi C (st := [.int (qI r1)]) (c_X9_windowFor C.2.2.1 a0 a1 (1 - a2) a3 M r2 hy) tm_RX9_326 mw_X9_windowFor ⟨rfl, rfl⟩ ⟨Nat.le_of_ble_eq_true rfl, Nat.le_of_ble_eq_true rfl⟩ kc_0 clX9 rfl rfl (Nat.le_of_ble_eq_true rfl) dX9_isRest_17 ?_
  refine r_clt C (tgt := 50) dX9_isRest_20 (by decide) h (fun h => ?_) (fun h => ?_)
  · refine r_ic C dX9_isRest_50 ?_
    exact r_zretp C (by decide) hr hlk dX9_isRest_51 h
  · refine r_aln C dX9_isRest_23 (k := 0) rfl ?_
    refine r_iln C dX9_isRest_24 (k := 2) rfl ?_
    refine r_iln C dX9_isRest_25 (k := 1) rfl ?_
    refine r_il C dX9_isRest_26 (k := 4) rfl ?_
    refine r_iln C dX9_isRest_28 (k := 3) rfl ?_
    obtain ⟨r3, hy, h⟩ := q_calp_some h
    refine r_cvi C (st := []) (c_X9_windowFor C.2.2.1 a1 a0 a3 a2 M r3 hy) tm_RX9_326 mw_X9_windowFor ⟨rfl, rfl⟩ ⟨Nat.le_of_ble_eq_true rfl, Nat.le_of_ble_eq_true rfl⟩ kc_0 clX9 rfl rfl (Nat.le_of_ble_eq_true rfl) dX9_isRest_29 ?_
    refine r_aln C dX9_isRest_32 (k := 0) rfl ?_
    refine r_iln C dX9_isRest_33 (k := 2) rfl ?_
    refine r_iln C dX9_isRest_34 (k := 1) rfl ?_
    refine r_ic C dX9_isRest_35 ?_
    refine r_il C dX9_isRest_36 (k := 4) rfl ?_
    refine r_isub C dX9_isRest_38 ?_
    refine r_iln C dX9_isRest_39 (k := 3) rfl ?_
    obtain ⟨r4, hy, h⟩ := q_calp_some h
    refine r_cvi C (st := [.int (qI r3)]) (c_X9_windowFor C.2.2.1 a1 a0 (1 - a3) a2 M r4 hy) tm_RX9_326 mw_X9_windowFor ⟨rfl, rfl⟩ ⟨Nat.le_of_ble_eq_true rfl, Nat.le_of_ble_eq_true rfl⟩ kc_0 clX9 rfl rfl (Nat.le_of_ble_eq_true rfl) dX9_isRest_40 ?_
    refine r_clt C (tgt := 50) dX9_isRest_43 (by decide) h (fun h => ?_) (fun h => ?_)
    · refine r_ic C dX9_isRest_50 ?_
      exact r_zretp C (by decide) hr hlk dX9_isRest_51 h
    · refine r_ic C dX9_isRest_46 ?_
      refine r_goto C (tgt := 51) dX9_isRest_47 (by decide) ?_
      exact r_zretp C (by decide) hr hlk dX9_isRest_51 h
abbrev rm_X9_keep : Room := { frames := 1, cells := 0, slots := 0, locals := 22 }
theorem mw_X9_keep : q_mw RX9 yX9_keep cX9_keep 1 (some .int) 0 := ⟨⟨ti_X9_keep, tl_X9_keep, tn_RX9, td_X9_keep⟩, by decide +kernel⟩
def f_X9_keep  (M : Mem) : Res :=
  q_call (f_X6_copy 6 4 M) fun r1 M2 =>
  q_pz M2 0 7 1 fun M3 =>
  q_gf M3 4 0 fun v4 =>
  some (v4, M3)
theorem c_X9_keep {l : Launch} {D : va_G} {ad : Nat → Nat} {cA : Nat → ClassId} (hi : q_inj syC ad)  (M : Mem) (r0 : Int) (M0 : Mem) (h : f_X9_keep  M = some (r0, M0)) : q_Met l syC D ad cA yX9_keep cX9_keep 1 (some .int) rm_X9_keep [.ref (ad 0)] M (some (.int (qI r0))) M0 := by
  refine q_met (L0 := [(0, .ref (ad 0))]) hi okC (by decide) (Nat.le_of_ble_eq_true rfl) rfl ?_
  intro p e s m args below meth c C hr hlk
  unfold f_X9_keep at h
  refine r_aln C dX9_keep_0 (k := 0) rfl ?_
  refine r_gs C kc_0 clX9 (f := 6) (by decide) rfl (t := 6) rfl tf_RX9_45 dX9_keep_1 ?_
  refine r_aln C dX9_keep_4 (k := 0) rfl ?_
  refine r_gs C kc_0 clX9 (f := 4) (by decide) rfl (t := 4) rfl tf_RX9_38 dX9_keep_5 ?_
  obtain ⟨r1, M2, hy, h⟩ := q_call_some h
  refine r_cvv C (st := []) (c_X6_copy C.2.2.1 6 4 (by unfold isS; omega) (by unfold isS; omega) M r1 M2 hy) tm_RX9_254 mw_X6_copy ⟨rfl, rfl⟩ ⟨Nat.le_of_ble_eq_true rfl, Nat.le_of_ble_eq_true rfl⟩ kc_6 clX6 rfl rfl (Nat.le_of_ble_eq_true rfl) dX9_keep_8 ?_
  refine r_aln C dX9_keep_11 (k := 0) rfl ?_
  refine r_ic C dX9_keep_12 ?_
  refine r_pz C kc_0 clX9 (f := 7) (by decide) rfl q_dZ rfl rfl tf_RX9_48 dX9_keep_13 h (fun M3 h => ?_)
  refine r_aln C dX9_keep_16 (k := 0) rfl ?_
  refine r_gs C kc_0 clX9 (f := 4) (by decide) rfl (t := 4) rfl tf_RX9_38 dX9_keep_17 ?_
  refine r_gf C kc_4 clX6 (f := 0) (by decide) rfl rfl rfl tf_RX9_245 dX9_keep_20 h (fun v4 h => ?_)
  exact r_iret C hr hlk dX9_keep_23 h
abbrev rm_X9_known : Room := { frames := 0, cells := 0, slots := 0, locals := 0 }
theorem mw_X9_known : q_mw RX9 yX9_known cX9_known 2 (some .boolean) 1 := ⟨⟨ti_X9_known, tl_X9_known, tn_RX9, td_X9_known⟩, by decide +kernel⟩
def f_X9_known (a0 : Int) (M : Mem) : Res :=
  if w32 a0 < w32 (-1) then (some (0, M))
  else (q_gf M 9 3 fun v1 =>
  if w32 a0 ≤ w32 v1 then (q_pf M 9 4 a0 fun M2 =>
  some (1, M2))
  else (some (0, M)))
theorem c_X9_known {l : Launch} {D : va_G} {ad : Nat → Nat} {cA : Nat → ClassId} (hi : q_inj syC ad) (a0 : Int) (M : Mem) (r0 : Int) (M0 : Mem) (h : f_X9_known a0 M = some (r0, M0)) : q_Met l syC D ad cA yX9_known cX9_known 2 (some .boolean) rm_X9_known [.ref (ad 0), .int (qI a0)] M (some (.int (qI r0))) M0 := by
  refine q_met (L0 := [(0, .ref (ad 0)), (1, .int (qI a0))]) hi okC (by decide) (Nat.le_of_ble_eq_true rfl) rfl ?_
  intro p e s m args below meth c C hr hlk
  unfold f_X9_known at h
  refine r_iln C dX9_known_0 (k := 1) rfl ?_
  refine r_ic C dX9_known_1 ?_
  refine r_clt C (tgt := 16) dX9_known_2 (by decide) h (fun h => ?_) (fun h => ?_)
  · refine r_ic C dX9_known_16 ?_
    exact r_zret C (by decide) hr hlk dX9_known_17 h
  · refine r_iln C dX9_known_5 (k := 1) rfl ?_
    refine r_aln C dX9_known_6 (k := 0) rfl ?_
    refine r_gs C kc_0 clX9 (f := 10) (by decide) rfl (t := 9) rfl tf_RX9_71 dX9_known_7 ?_
    refine r_gf C kc_9 clX5 (f := 3) (by decide) rfl rfl rfl tf_RX9_342 dX9_known_10 h (fun v1 h => ?_)
    refine r_cle C (tgt := 18) dX9_known_13 (by decide) h (fun h => ?_) (fun h => ?_)
    · refine r_aln C dX9_known_18 (k := 0) rfl ?_
      refine r_gs C kc_0 clX9 (f := 10) (by decide) rfl (t := 9) rfl tf_RX9_71 dX9_known_19 ?_
      refine r_iln C dX9_known_22 (k := 1) rfl ?_
      refine r_pf C kc_9 clX5 (f := 4) (by decide) rfl q_dI rfl rfl tf_RX9_343 dX9_known_23 h (fun M2 h => ?_)
      refine r_ic C dX9_known_26 ?_
      exact r_zret C (by decide) hr hlk dX9_known_27 h
    · refine r_ic C dX9_known_16 ?_
      exact r_zret C (by decide) hr hlk dX9_known_17 h
abbrev rm_X9_law : Room := { frames := 2, cells := 0, slots := 0, locals := 53 }
theorem mw_X9_law : q_mw RX9 yX9_law cX9_law 5 (some .long) 3 := ⟨⟨ti_X9_law, tl_X9_law, tn_RX9, td_X9_law⟩, by decide +kernel⟩
def f_X9_law_J98 (x1 : Int) (y0 : Int) (y1 : Int) (y2 : Int) (M : Mem) : Res :=
  q_call (f_X3_look y2 y1 y0 M) fun r1 M2 =>
  q_gr M2 0 3 fun t3 =>
  q_call (f_X2_worth (t3 + 10) 262 7 x1 M2) fun r4 M5 =>
  some (r4, M5)
theorem w_X9_law_J98 (C : Cx syC p m c cX9_law 5 s args RX9 D ad cA) (hr : meth.sig.returnType = (some .long)) (hlk : meth.locks = false) (x1 : Int) (y0 : Int) (y1 : Int) (y2 : Int) (M : Mem)  (h : f_X9_law_J98 x1 y0 y1 y2 M = some (r0, M0)) : WM syC p l e rm_X9_law s m args below meth c 5 D ad cA (MQ below (q_Post syC D ad cA (some (.long (qJ r0))) M0) args s 0 0 (q_A syC ad)) M 98 [(0, .ref (ad 0)), (1, .int (qI x1))] [.int (qI y0), .int (qI y1), .int (qI y2), .ref (ad 7)] := by
  unfold f_X9_law_J98 at h
  obtain ⟨r1, M2, hy, h⟩ := q_call_some h
  refine r_cvv C (st := []) (c_X3_look C.2.2.1 y2 y1 y0 M r1 M2 hy) tm_RX9_211 mw_X3_look ⟨rfl, rfl⟩ ⟨Nat.le_of_ble_eq_true rfl, Nat.le_of_ble_eq_true rfl⟩ kc_7 clX3 rfl rfl (Nat.le_of_ble_eq_true rfl) dX9_law_98 ?_
  refine r_aln C dX9_law_101 (k := 0) rfl ?_
  refine r_gr C kc_0 clX9 (f := 3) (fz := 3) (Pp := isT) (by decide) rfl rfl (fun q => q.1) tf_RX9_31 dX9_law_102 h (fun t3 ht3 h => ?_)
  refine r_gs C (kT ht3) clX8 (f := 16) (by decide) rfl (t := (t3 + 10)) rfl tf_RX9_215 dX9_law_105 ?_
  refine r_iln C dX9_law_108 (k := 1) rfl ?_
  refine r_aln C dX9_law_109 (k := 0) rfl ?_
  refine r_gs C kc_0 clX9 (f := 8) (by decide) rfl (t := 7) rfl tf_RX9_57 dX9_law_110 ?_
  refine r_gs C kc_7 clX3 (f := 6) (by decide) rfl (t := 262) rfl tf_RX9_219 dX9_law_113 ?_
  obtain ⟨r4, M5, hy, h⟩ := q_call_some h
  refine r_cvl C (st := []) (c_X2_worth C.2.2.1 (t3 + 10) 262 7 (kTL ht3) kc_262 x1 M2 r4 M5 hy) tm_RX9_223 mw_X2_worth ⟨rfl, rfl⟩ ⟨Nat.le_of_ble_eq_true rfl, Nat.le_of_ble_eq_true rfl⟩ (kL (kTL ht3)) clX2 rfl rfl (Nat.le_of_ble_eq_true rfl) dX9_law_116 ?_
  exact r_lret C hr hlk dX9_law_119 h
def f_X9_law_J80 (x1 : Int) (x3 : Int) (y0 : Int) (y1 : Int) (M : Mem) : Res :=
  if ¬ w32 x1 = w32 2 then (q_gr M 0 3 fun t1 =>
  q_al M (32 * (t1 + 1) + 12) 4 x3 fun v2 =>
  f_X9_law_J98 x1 v2 y0 y1 M)
  else (f_X9_law_J98 x1 0 y0 y1 M)
theorem w_X9_law_J80 (C : Cx syC p m c cX9_law 5 s args RX9 D ad cA) (hr : meth.sig.returnType = (some .long)) (hlk : meth.locks = false) (x1 : Int) (x3 : Int) (y0 : Int) (y1 : Int) (M : Mem)  (h : f_X9_law_J80 x1 x3 y0 y1 M = some (r0, M0)) : WM syC p l e rm_X9_law s m args below meth c 5 D ad cA (MQ below (q_Post syC D ad cA (some (.long (qJ r0))) M0) args s 0 0 (q_A syC ad)) M 80 [(0, .ref (ad 0)), (1, .int (qI x1)), (3, .int (qI x3))] [.int (qI y0), .int (qI y1), .ref (ad 7)] := by
  unfold f_X9_law_J80 at h
  refine r_iln C dX9_law_80 (k := 1) rfl ?_
  refine r_ic C dX9_law_81 ?_
  refine r_cne C (tgt := 89) dX9_law_82 (by decide) h (fun h => ?_) (fun h => ?_)
  · refine r_aln C dX9_law_89 (k := 0) rfl ?_
    refine r_gr C kc_0 clX9 (f := 3) (fz := 3) (Pp := isT) (by decide) rfl rfl (fun q => q.1) tf_RX9_31 dX9_law_90 h (fun t1 ht1 h => ?_)
    refine r_gs C (kT ht1) clX8 (f := 12) (by decide) rfl (t := (32 * (t1 + 1) + 12)) rfl tf_RX9_191 dX9_law_93 ?_
    refine r_iln C dX9_law_96 (k := 2) rfl ?_
    refine r_iald C (kT_12 ht1) dX9_law_97 h (fun v2 h => ?_)
    refine r_drop [0, 1] rfl ?_
    exact w_X9_law_J98 C hr hlk x1 v2 y0 y1 M  h
  · refine r_ic C dX9_law_85 ?_
    refine r_goto C (tgt := 98) dX9_law_86 (by decide) ?_
    refine r_drop [0, 1] rfl ?_
    exact w_X9_law_J98 C hr hlk x1 0 y0 y1 M  h
def f_X9_law_J38 (x1 : Int) (x2 : Int) (x3 : Int) (M : Mem) : Res :=
  q_calp (f_X6_placeOf 4 x2 M) fun r1 =>
  q_gr M 0 3 fun t2 =>
  q_call (f_X3_ready t2 4 M) fun r3 M4 =>
  if 0 ≤ w32 r1 then (f_X9_law_J80 x1 x3 r1 x2 M4)
  else (f_X9_law_J80 x1 x3 9 x2 M4)
theorem w_X9_law_J38 (C : Cx syC p m c cX9_law 5 s args RX9 D ad cA) (hr : meth.sig.returnType = (some .long)) (hlk : meth.locks = false) (x1 : Int) (x2 : Int) (x3 : Int) (M : Mem)  (h : f_X9_law_J38 x1 x2 x3 M = some (r0, M0)) : WM syC p l e rm_X9_law s m args below meth c 5 D ad cA (MQ below (q_Post syC D ad cA (some (.long (qJ r0))) M0) args s 0 0 (q_A syC ad)) M 38 [(0, .ref (ad 0)), (1, .int (qI x1)), (2, .int (qI x2)), (3, .int (qI x3))] [] := by
  unfold f_X9_law_J38 at h
  refine r_aln C dX9_law_38 (k := 0) rfl ?_
  refine r_gs C kc_0 clX9 (f := 4) (by decide) rfl (t := 4) rfl tf_RX9_38 dX9_law_39 ?_
  refine r_iln C dX9_law_42 (k := 2) rfl ?_
  obtain ⟨r1, hy, h⟩ := q_calp_some h
  refine r_cvi C (st := []) (c_X6_placeOf C.2.2.1 4 (by unfold isS; omega) x2 M r1 hy) tm_RX9_159 mw_X6_placeOf ⟨rfl, rfl⟩ ⟨Nat.le_of_ble_eq_true rfl, Nat.le_of_ble_eq_true rfl⟩ kc_4 clX6 rfl rfl (Nat.le_of_ble_eq_true rfl) dX9_law_43 ?_
  refine r_is C (L1 := [(4, .int (qI r1)), (0, .ref (ad 0)), (1, .int (qI x1)), (2, .int (qI x2)), (3, .int (qI x3))]) dX9_law_46 (by decide) rfl ?_
  refine r_aln C dX9_law_48 (k := 1) rfl ?_
  refine r_gs C kc_0 clX9 (f := 8) (by decide) rfl (t := 7) rfl tf_RX9_57 dX9_law_49 ?_
  refine r_aln C dX9_law_52 (k := 1) rfl ?_
  refine r_gr C kc_0 clX9 (f := 3) (fz := 3) (Pp := isT) (by decide) rfl rfl (fun q => q.1) tf_RX9_31 dX9_law_53 h (fun t2 ht2 h => ?_)
  refine r_aln C dX9_law_56 (k := 1) rfl ?_
  refine r_gs C kc_0 clX9 (f := 4) (by decide) rfl (t := 4) rfl tf_RX9_38 dX9_law_57 ?_
  obtain ⟨r3, M4, hy, h⟩ := q_call_some h
  refine r_cvv C (st := []) (c_X3_ready C.2.2.1 t2 4 ht2 (by unfold isS; omega) M r3 M4 hy) tm_RX9_208 mw_X3_ready ⟨rfl, rfl⟩ ⟨Nat.le_of_ble_eq_true rfl, Nat.le_of_ble_eq_true rfl⟩ kc_7 clX3 rfl rfl (Nat.le_of_ble_eq_true rfl) dX9_law_60 ?_
  refine r_aln C dX9_law_63 (k := 1) rfl ?_
  refine r_gs C kc_0 clX9 (f := 8) (by decide) rfl (t := 7) rfl tf_RX9_57 dX9_law_64 ?_
  refine r_iln C dX9_law_67 (k := 3) rfl ?_
  refine r_il C dX9_law_68 (k := 0) rfl ?_
  refine r_zge C (tgt := 78) dX9_law_70 (by decide) h (fun h => ?_) (fun h => ?_)
  · refine r_il C dX9_law_78 (k := 0) rfl ?_
    refine r_drop [1, 2, 4] rfl ?_
    exact w_X9_law_J80 C hr hlk x1 x3 r1 x2 M4  h
  · refine r_bi C dX9_law_73 (by decide) ?_
    refine r_goto C (tgt := 80) dX9_law_75 (by decide) ?_
    refine r_drop [1, 2, 4] rfl ?_
    exact w_X9_law_J80 C hr hlk x1 x3 9 x2 M4  h
def f_X9_law (a0 : Int) (a1 : Int) (a2 : Int) (M : Mem) : Res :=
  if w32 a0 < 0 then (some ((-9223372036854775808), M))
  else (if w32 3 ≤ w32 a0 then (some ((-9223372036854775808), M))
  else (q_calp (f_X9_isSoul a1 M) fun r1 =>
  if ¬ w32 r1 = 0 then (if w32 a0 = w32 2 then (f_X9_law_J38 a0 a1 a2 M)
  else (q_calp (f_X9_isBus a2 M) fun r2 =>
  if ¬ w32 r2 = 0 then (f_X9_law_J38 a0 a1 a2 M)
  else (some ((-9223372036854775808), M))))
  else (some ((-9223372036854775808), M))))
theorem c_X9_law {l : Launch} {D : va_G} {ad : Nat → Nat} {cA : Nat → ClassId} (hi : q_inj syC ad) (a0 : Int) (a1 : Int) (a2 : Int) (M : Mem) (r0 : Int) (M0 : Mem) (h : f_X9_law a0 a1 a2 M = some (r0, M0)) : q_Met l syC D ad cA yX9_law cX9_law 5 (some .long) rm_X9_law [.ref (ad 0), .int (qI a0), .int (qI a1), .int (qI a2)] M (some (.long (qJ r0))) M0 := by
  refine q_met (L0 := [(0, .ref (ad 0)), (1, .int (qI a0)), (2, .int (qI a1)), (3, .int (qI a2))]) hi okC (by decide) (Nat.le_of_ble_eq_true rfl) rfl ?_
  intro p e s m args below meth c C hr hlk
  unfold f_X9_law at h
  refine r_iln C dX9_law_0 (k := 1) rfl ?_
  refine r_zlt C (tgt := 17) dX9_law_1 (by decide) h (fun h => ?_) (fun h => ?_)
  · refine r_ldc2 C (x := (-9223372036854775808)) tc_RX9_206 (by decide) dX9_law_17 ?_
    exact r_lret C hr hlk dX9_law_20 h
  · refine r_iln C dX9_law_4 (k := 1) rfl ?_
    refine r_ic C dX9_law_5 ?_
    refine r_cge C (tgt := 17) dX9_law_6 (by decide) h (fun h => ?_) (fun h => ?_)
    · refine r_ldc2 C (x := (-9223372036854775808)) tc_RX9_206 (by decide) dX9_law_17 ?_
      exact r_lret C hr hlk dX9_law_20 h
    · refine r_aln C dX9_law_9 (k := 0) rfl ?_
      refine r_iln C dX9_law_10 (k := 2) rfl ?_
      obtain ⟨r1, hy, h⟩ := q_calp_some h
      refine r_cvi C (st := []) (c_X9_isSoul C.2.2.1 a1 M r1 hy) tm_RX9_138 mw_X9_isSoul ⟨rfl, rfl⟩ ⟨Nat.le_of_ble_eq_true rfl, Nat.le_of_ble_eq_true rfl⟩ kc_0 clX9 rfl rfl (Nat.le_of_ble_eq_true rfl) dX9_law_11 ?_
      refine r_zne C (tgt := 21) dX9_law_14 (by decide) h (fun h => ?_) (fun h => ?_)
      · refine r_iln C dX9_law_21 (k := 1) rfl ?_
        refine r_ic C dX9_law_22 ?_
        refine r_ceq C (tgt := 38) dX9_law_23 (by decide) h (fun h => ?_) (fun h => ?_)
        · exact w_X9_law_J38 C hr hlk a0 a1 a2 M  h
        · refine r_aln C dX9_law_26 (k := 0) rfl ?_
          refine r_iln C dX9_law_27 (k := 3) rfl ?_
          obtain ⟨r2, hy, h⟩ := q_calp_some h
          refine r_cvi C (st := []) (c_X9_isBus C.2.2.1 a2 M r2 hy) tm_RX9_179 mw_X9_isBus ⟨rfl, rfl⟩ ⟨Nat.le_of_ble_eq_true rfl, Nat.le_of_ble_eq_true rfl⟩ kc_0 clX9 rfl rfl (Nat.le_of_ble_eq_true rfl) dX9_law_28 ?_
          refine r_zne C (tgt := 38) dX9_law_31 (by decide) h (fun h => ?_) (fun h => ?_)
          · exact w_X9_law_J38 C hr hlk a0 a1 a2 M  h
          · refine r_ldc2 C (x := (-9223372036854775808)) tc_RX9_206 (by decide) dX9_law_34 ?_
            exact r_lret C hr hlk dX9_law_37 h
      · refine r_ldc2 C (x := (-9223372036854775808)) tc_RX9_206 (by decide) dX9_law_17 ?_
        exact r_lret C hr hlk dX9_law_20 h
abbrev rm_X9_lets : Room := { frames := 1, cells := 0, slots := 0, locals := 21 }
theorem mw_X9_lets : q_mw RX9 yX9_lets cX9_lets 2 (some .int) 1 := ⟨⟨ti_X9_lets, tl_X9_lets, tn_RX9, td_X9_lets⟩, by decide +kernel⟩
def f_X9_lets (a0 : Int) (M : Mem) : Option Int :=
  q_calp (f_X9_isSoul a0 M) fun r1 =>
  if w32 r1 = 0 then (some (-1))
  else (q_gr M 0 3 fun t2 =>
  q_al M (32 * (t2 + 1) + 5) 8 a0 fun v3 =>
  some v3)
theorem c_X9_lets {l : Launch} {D : va_G} {ad : Nat → Nat} {cA : Nat → ClassId} (hi : q_inj syC ad) (a0 : Int) (M : Mem) (r0 : Int) (h : f_X9_lets a0 M = some r0) : q_Met l syC D ad cA yX9_lets cX9_lets 2 (some .int) rm_X9_lets [.ref (ad 0), .int (qI a0)] M (some (.int (qI r0))) M := by
  refine q_met (L0 := [(0, .ref (ad 0)), (1, .int (qI a0))]) hi okC (by decide) (Nat.le_of_ble_eq_true rfl) rfl ?_
  intro p e s m args below meth c C hr hlk
  unfold f_X9_lets at h
  refine r_aln C dX9_lets_0 (k := 0) rfl ?_
  refine r_iln C dX9_lets_1 (k := 1) rfl ?_
  obtain ⟨r1, hy, h⟩ := q_calp_some h
  refine r_cvi C (st := []) (c_X9_isSoul C.2.2.1 a0 M r1 hy) tm_RX9_138 mw_X9_isSoul ⟨rfl, rfl⟩ ⟨Nat.le_of_ble_eq_true rfl, Nat.le_of_ble_eq_true rfl⟩ kc_0 clX9 rfl rfl (Nat.le_of_ble_eq_true rfl) dX9_lets_2 ?_
  refine r_zeq C (tgt := 20) dX9_lets_5 (by decide) h (fun h => ?_) (fun h => ?_)
  · refine r_ic C dX9_lets_20 ?_
    exact r_iretp C hr hlk dX9_lets_21 h
  · refine r_aln C dX9_lets_8 (k := 0) rfl ?_
    refine r_gr C kc_0 clX9 (f := 3) (fz := 3) (Pp := isT) (by decide) rfl rfl (fun q => q.1) tf_RX9_31 dX9_lets_9 h (fun t2 ht2 h => ?_)
    refine r_gs C (kT ht2) clX8 (f := 5) (by decide) rfl (t := (32 * (t2 + 1) + 5)) rfl tf_RX9_203 dX9_lets_12 ?_
    refine r_iln C dX9_lets_15 (k := 1) rfl ?_
    refine r_iald C (kT_5 ht2) dX9_lets_16 h (fun v3 h => ?_)
    refine r_goto C (tgt := 21) dX9_lets_17 (by decide) ?_
    exact r_iretp C hr hlk dX9_lets_21 h
abbrev rm_X9_match : Room := { frames := 4, cells := 0, slots := 0, locals := 104 }
theorem mw_X9_match : q_mw RX9 yX9_match cX9_match 3 (some .int) 1 := ⟨⟨ti_X9_match, tl_X9_match, tn_RX9, td_X9_match⟩, by decide +kernel⟩
def f_X9_match (a0 : Int) (M : Mem) : Res :=
  if w32 a0 < 0 then (some ((-1), M))
  else (if w32 a0 ≤ w32 4 then (q_call (f_X9_bestMatch  M) fun r1 M2 =>
  if ¬ w32 a0 = w32 4 then (q_gr M2 0 3 fun t3 =>
  q_gf M2 t3 7 fun v4 =>
  if w32 v4 ≤ w32 a0 then (some ((-2), M2))
  else (q_al M2 45 4 a0 fun v5 =>
  if w32 8 ≤ w32 v5 then (some ((-2), M2))
  else (q_al M2 45 4 a0 fun v6 =>
  some (v6, M2))))
  else (some (r1, M2)))
  else (some ((-1), M)))
theorem c_X9_match {l : Launch} {D : va_G} {ad : Nat → Nat} {cA : Nat → ClassId} (hi : q_inj syC ad) (a0 : Int) (M : Mem) (r0 : Int) (M0 : Mem) (h : f_X9_match a0 M = some (r0, M0)) : q_Met l syC D ad cA yX9_match cX9_match 3 (some .int) rm_X9_match [.ref (ad 0), .int (qI a0)] M (some (.int (qI r0))) M0 := by
  refine q_met (L0 := [(0, .ref (ad 0)), (1, .int (qI a0))]) hi okC (by decide) (Nat.le_of_ble_eq_true rfl) rfl ?_
  intro p e s m args below meth c C hr hlk
  unfold f_X9_match at h
  refine r_iln C dX9_match_0 (k := 1) rfl ?_
  refine r_zlt C (tgt := 9) dX9_match_1 (by decide) h (fun h => ?_) (fun h => ?_)
  · refine r_ic C dX9_match_9 ?_
    exact r_iret C hr hlk dX9_match_10 h
  · refine r_iln C dX9_match_4 (k := 1) rfl ?_
    refine r_ic C dX9_match_5 ?_
    refine r_cle C (tgt := 11) dX9_match_6 (by decide) h (fun h => ?_) (fun h => ?_)
    · refine r_aln C dX9_match_11 (k := 0) rfl ?_
      obtain ⟨r1, M2, hy, h⟩ := q_call_some h
      refine r_cvi C (st := []) (c_X9_bestMatch C.2.2.1 M r1 M2 hy) tm_RX9_315 mw_X9_bestMatch ⟨rfl, rfl⟩ ⟨Nat.le_of_ble_eq_true rfl, Nat.le_of_ble_eq_true rfl⟩ kc_0 clX9 rfl rfl (Nat.le_of_ble_eq_true rfl) dX9_match_12 ?_
      refine r_isn C (L1 := [(2, .int (qI r1)), (0, .ref (ad 0)), (1, .int (qI a0))]) dX9_match_15 (by decide) rfl ?_
      refine r_iln C dX9_match_16 (k := 2) rfl ?_
      refine r_ic C dX9_match_17 ?_
      refine r_cne C (tgt := 23) dX9_match_18 (by decide) h (fun h => ?_) (fun h => ?_)
      · refine r_iln C dX9_match_23 (k := 2) rfl ?_
        refine r_aln C dX9_match_24 (k := 1) rfl ?_
        refine r_gr C kc_0 clX9 (f := 3) (fz := 3) (Pp := isT) (by decide) rfl rfl (fun q => q.1) tf_RX9_31 dX9_match_25 h (fun t3 ht3 h => ?_)
        refine r_gf C (kT ht3) clX8 (f := 7) (by decide) rfl rfl rfl tf_RX9_135 dX9_match_28 h (fun v4 h => ?_)
        refine r_cge C (tgt := 54) dX9_match_31 (by decide) h (fun h => ?_) (fun h => ?_)
        · refine r_bi C dX9_match_54 (by decide) ?_
          exact r_iret C hr hlk dX9_match_56 h
        · refine r_aln C dX9_match_34 (k := 1) rfl ?_
          refine r_gs C kc_0 clX9 (f := 13) (by decide) rfl (t := 45) rfl tf_RX9_82 dX9_match_35 ?_
          refine r_iln C dX9_match_38 (k := 2) rfl ?_
          refine r_iald C kc_45 dX9_match_39 h (fun v5 h => ?_)
          refine r_bi C dX9_match_40 (by decide) ?_
          refine r_cge C (tgt := 54) dX9_match_42 (by decide) h (fun h => ?_) (fun h => ?_)
          · refine r_bi C dX9_match_54 (by decide) ?_
            exact r_iret C hr hlk dX9_match_56 h
          · refine r_aln C dX9_match_45 (k := 1) rfl ?_
            refine r_gs C kc_0 clX9 (f := 13) (by decide) rfl (t := 45) rfl tf_RX9_82 dX9_match_46 ?_
            refine r_iln C dX9_match_49 (k := 2) rfl ?_
            refine r_iald C kc_45 dX9_match_50 h (fun v6 h => ?_)
            refine r_goto C (tgt := 56) dX9_match_51 (by decide) ?_
            exact r_iret C hr hlk dX9_match_56 h
      · refine r_iln C dX9_match_21 (k := 0) rfl ?_
        exact r_iret C hr hlk dX9_match_22 h
    · refine r_ic C dX9_match_9 ?_
      exact r_iret C hr hlk dX9_match_10 h
end P12e
