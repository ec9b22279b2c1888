section P13c
variable {p : Program} {l : Launch} {e : Env} {s : State} {m : MethodId} {args : Array Value} {below : List Frame} {meth : Method} {c : Code} {D : va_G} {ad : Nat → Nat} {cA : Nat → ClassId} {r0 : Int} {M0 : Mem}
abbrev rm_X10_begins : Room := { frames := 1, cells := 0, slots := 0, locals := 23 }
theorem mw_X10_begins : q_mw RX10 yX10_begins cX10_begins 1 none 0 := ⟨⟨ti_X10_begins, tl_X10_begins, tn_RX10, td_X10_begins⟩, by decide +kernel⟩
def f_X10_begins  (M : Mem) : Res :=
  q_call (f_X10_starts 0 M) fun r1 M2 =>
  some (0, M2)
theorem c_X10_begins {l : Launch} {D : va_G} {ad : Nat → Nat} {cA : Nat → ClassId} (hi : q_inj syM ad)  (M : Mem) (r0 : Int) (M0 : Mem) (h : f_X10_begins  M = some (r0, M0)) : q_Met l syM D ad cA yX10_begins cX10_begins 1 none rm_X10_begins [.ref (ad 0)] M none M0 := by
  refine q_met (L0 := [(0, .ref (ad 0))]) hi okM (by decide) (Nat.le_of_ble_eq_true rfl) rfl ?_
  intro p e s m args below meth c C hr hlk
  unfold f_X10_begins at h
  refine r_aln C dX10_begins_0 (k := 0) rfl ?_
  refine r_ic C dX10_begins_1 ?_
  obtain ⟨r1, M2, hy, h⟩ := q_call_some h
  refine r_cvv C (st := []) (c_X10_starts C.2.2.1 0 M r1 M2 hy) tm_RX10_325 mw_X10_starts ⟨rfl, rfl⟩ ⟨Nat.le_of_ble_eq_true rfl, Nat.le_of_ble_eq_true rfl⟩ km_0 clX10 rfl rfl (Nat.le_of_ble_eq_true rfl) dX10_begins_2 ?_
  exact r_vret C hr hlk dX10_begins_5 h
abbrev rm_X10_goneWith : Room := { frames := 0, cells := 0, slots := 0, locals := 0 }
theorem mw_X10_goneWith : q_mw RX10 yX10_goneWith cX10_goneWith 4 (some .int) 1 := ⟨⟨ti_X10_goneWith, tl_X10_goneWith, tn_RX10, td_X10_goneWith⟩, by decide +kernel⟩
def f_X10_goneWith_B4 (x1 : Int) (M : Mem) (x2 : Int) (x3 : Int) (g4 : Int → Int → Option Int) : Option Int :=
  q_al M 35 14 0 fun v1 =>
  if w32 v1 ≤ w32 x3 then (some x2)
  else (q_al M 75 184 x3 fun v2 =>
  if ¬ w32 v2 = w32 x1 then (g4 (x2 + 0) (x3 + 1))
  else (g4 (x2 + 1) (x3 + 1)))
def f_X10_goneWith_L4 (x1 : Int) (M : Mem) (n : Nat) (x2 : Int) (x3 : Int) : Option Int := qlp2 (fun x2 x3 g4 => f_X10_goneWith_B4 x1 M x2 x3 g4) n x2 x3
theorem w_X10_goneWith_B4 (C : Cx syM p m c cX10_goneWith 4 s args RX10 D ad cA) (hr : meth.sig.returnType = (some .int)) (hlk : meth.locks = false)  (x1 : Int) (x2 : Int) (x3 : Int) (M : Mem) (g4 : Int → Int → Option Int)  (ih4 : ∀ (ux2 ux3 : Int) , g4 ux2 ux3  = some r0 → WM syM p l e rm_X10_goneWith s m args below meth c 4 D ad cA (MQ below (q_Post syM D ad cA (some (.int (qI r0))) M) args s 0 0 (q_A syM ad)) M 4 [(0, .ref (ad 0)), (1, .int (qI x1)), (2, .int (qI ux2)), (3, .int (qI ux3))] []) (h : f_X10_goneWith_B4 x1 M x2 x3 g4 = some r0) : WM syM p l e rm_X10_goneWith s m args below meth c 4 D ad cA (MQ below (q_Post syM D ad cA (some (.int (qI r0))) M) args s 0 0 (q_A syM ad)) M 4 [(0, .ref (ad 0)), (1, .int (qI x1)), (2, .int (qI x2)), (3, .int (qI x3))] [] := by
  unfold f_X10_goneWith_B4 at h
  refine r_iln C dX10_goneWith_4 (k := 3) rfl ?_
  refine r_aln C dX10_goneWith_5 (k := 0) rfl ?_
  refine r_gs C km_0 clX10 (f := 3) (by decide) rfl (t := 35) rfl tf_RX10_13 dX10_goneWith_6 ?_
  refine r_ic C dX10_goneWith_9 ?_
  refine r_iald C km_35 dX10_goneWith_10 h (fun v1 h => ?_)
  refine r_cge C (tgt := 38) dX10_goneWith_11 (by decide) h (fun h => ?_) (fun h => ?_)
  · refine r_iln C dX10_goneWith_38 (k := 2) rfl ?_
    exact r_iretp C hr hlk dX10_goneWith_39 h
  · refine r_iln C dX10_goneWith_14 (k := 2) rfl ?_
    refine r_aln C dX10_goneWith_15 (k := 0) rfl ?_
    refine r_gs C km_0 clX10 (f := 43) (by decide) rfl (t := 75) rfl tf_RX10_96 dX10_goneWith_16 ?_
    refine r_iln C dX10_goneWith_19 (k := 3) rfl ?_
    refine r_iald C km_75 dX10_goneWith_20 h (fun v2 h => ?_)
    refine r_iln C dX10_goneWith_21 (k := 1) rfl ?_
    refine r_cne C (tgt := 29) dX10_goneWith_22 (by decide) h (fun h => ?_) (fun h => ?_)
    · refine r_ic C dX10_goneWith_29 ?_
      refine r_iadd C dX10_goneWith_30 ?_
      refine r_isn C (L1 := [(2, .int (qI (x2 + 0))), (0, .ref (ad 0)), (1, .int (qI x1)), (3, .int (qI x3))]) dX10_goneWith_31 (by decide) rfl ?_
      refine r_inc C (L1 := [(3, .int (qI (x3 + 1))), (2, .int (qI (x2 + 0))), (0, .ref (ad 0)), (1, .int (qI x1))]) dX10_goneWith_32 (k := 3) rfl (by decide) rfl ?_
      refine r_goto C (tgt := 4) dX10_goneWith_35 (by decide) ?_
      refine r_drop [2, 3, 1, 0] rfl ?_
      exact ih4 (x2 + 0) (x3 + 1)  h
    · refine r_ic C dX10_goneWith_25 ?_
      refine r_goto C (tgt := 30) dX10_goneWith_26 (by decide) ?_
      refine r_iadd C dX10_goneWith_30 ?_
      refine r_isn C (L1 := [(2, .int (qI (x2 + 1))), (0, .ref (ad 0)), (1, .int (qI x1)), (3, .int (qI x3))]) dX10_goneWith_31 (by decide) rfl ?_
      refine r_inc C (L1 := [(3, .int (qI (x3 + 1))), (2, .int (qI (x2 + 1))), (0, .ref (ad 0)), (1, .int (qI x1))]) dX10_goneWith_32 (k := 3) rfl (by decide) rfl ?_
      refine r_goto C (tgt := 4) dX10_goneWith_35 (by decide) ?_
      refine r_drop [2, 3, 1, 0] rfl ?_
      exact ih4 (x2 + 1) (x3 + 1)  h
theorem w_X10_goneWith_L4 (C : Cx syM p m c cX10_goneWith 4 s args RX10 D ad cA) (hr : meth.sig.returnType = (some .int)) (hlk : meth.locks = false)  (x1 : Int) (M : Mem)  (n : Nat) (x2 : Int) (x3 : Int) (h : f_X10_goneWith_L4 x1 M n x2 x3 = some r0) : WM syM p l e rm_X10_goneWith s m args below meth c 4 D ad cA (MQ below (q_Post syM D ad cA (some (.int (qI r0))) M) args s 0 0 (q_A syM ad)) M 4 [(0, .ref (ad 0)), (1, .int (qI x1)), (2, .int (qI x2)), (3, .int (qI x3))] [] :=
  qlp2_r (Wp := fun ux2 ux3 => WM syM p l e rm_X10_goneWith s m args below meth c 4 D ad cA (MQ below (q_Post syM D ad cA (some (.int (qI r0))) M) args s 0 0 (q_A syM ad)) M 4 [(0, .ref (ad 0)), (1, .int (qI x1)), (2, .int (qI ux2)), (3, .int (qI ux3))] []) (fun ux2 ux3 g4 ih4 h => w_X10_goneWith_B4 C hr hlk x1 ux2 ux3 M g4  ih4 h) n x2 x3 h
def f_X10_goneWith (a0 : Int) (M : Mem) : Option Int :=
  f_X10_goneWith_L4 a0 M q_N 0 0
theorem c_X10_goneWith {l : Launch} {D : va_G} {ad : Nat → Nat} {cA : Nat → ClassId} (hi : q_inj syM ad) (a0 : Int) (M : Mem) (r0 : Int) (h : f_X10_goneWith a0 M = some r0) : q_Met l syM D ad cA yX10_goneWith cX10_goneWith 4 (some .int) rm_X10_goneWith [.ref (ad 0), .int (qI a0)] M (some (.int (qI r0))) M := by
  refine q_met (L0 := [(0, .ref (ad 0)), (1, .int (qI a0))]) hi okM (by decide) (Nat.le_of_ble_eq_true rfl) rfl ?_
  intro p e s m args below meth c C hr hlk
  unfold f_X10_goneWith at h
  refine r_ic C dX10_goneWith_0 ?_
  refine r_isn C (L1 := [(2, .int (qI 0)), (0, .ref (ad 0)), (1, .int (qI a0))]) dX10_goneWith_1 (by decide) rfl ?_
  refine r_ic C dX10_goneWith_2 ?_
  refine r_isn C (L1 := [(3, .int (qI 0)), (2, .int (qI 0)), (0, .ref (ad 0)), (1, .int (qI a0))]) dX10_goneWith_3 (by decide) rfl ?_
  refine r_drop [2, 3, 1, 0] rfl ?_
  exact w_X10_goneWith_L4 C hr hlk a0 M  q_N 0 0 h
abbrev rm_X10_bus : Room := { frames := 1, cells := 0, slots := 0, locals := 23 }
theorem mw_X10_bus : q_mw RX10 yX10_bus cX10_bus 3 (some .int) 2 := ⟨⟨ti_X10_bus, tl_X10_bus, tn_RX10, td_X10_bus⟩, by decide +kernel⟩
def f_X10_bus (a0 : Int) (a1 : Int) (M : Mem) : Res :=
  q_pf M 0 0 0 fun M1 =>
  q_calp (f_X10_isBus a0 M1) fun r2 =>
  if ¬ w32 r2 = 0 then (if w32 a1 = 0 then (q_al M1 41 8 a0 fun v3 =>
  some (v3, M1))
  else if w32 a1 = 1 then (q_al M1 42 8 a0 fun v4 =>
  some (v4, M1))
  else if w32 a1 = 2 then (q_al M1 43 8 a0 fun v5 =>
  some (v5, M1))
  else if w32 a1 = 3 then (q_al M1 44 8 a0 fun v6 =>
  some (v6, M1))
  else if w32 a1 = 4 then (q_calp (f_X10_goneWith a0 M1) fun r7 =>
  some (r7, M1))
  else (some ((-1), M1)))
  else (some ((-1), M1))
theorem c_X10_bus {l : Launch} {D : va_G} {ad : Nat → Nat} {cA : Nat → ClassId} (hi : q_inj syM ad) (a0 : Int) (a1 : Int) (M : Mem) (r0 : Int) (M0 : Mem) (h : f_X10_bus a0 a1 M = some (r0, M0)) : q_Met l syM D ad cA yX10_bus cX10_bus 3 (some .int) rm_X10_bus [.ref (ad 0), .int (qI a0), .int (qI a1)] M (some (.int (qI r0))) M0 := by
  refine q_met (L0 := [(0, .ref (ad 0)), (1, .int (qI a0)), (2, .int (qI a1))]) hi okM (by decide) (Nat.le_of_ble_eq_true rfl) rfl ?_
  intro p e s m args below meth c C hr hlk
  unfold f_X10_bus at h
  refine r_aln C dX10_bus_0 (k := 0) rfl ?_
  refine r_ic C dX10_bus_1 ?_
  refine r_pf C km_0 clX10 (f := 0) (by decide) rfl q_dI rfl rfl tf_RX10_142 dX10_bus_2 h (fun M1 h => ?_)
  refine r_aln C dX10_bus_5 (k := 0) rfl ?_
  refine r_iln C dX10_bus_6 (k := 1) rfl ?_
  obtain ⟨r2, hy, h⟩ := q_calp_some h
  refine r_cvi C (st := []) (c_X10_isBus C.2.2.1 a0 M1 r2 hy) tm_RX10_420 mw_X10_isBus ⟨rfl, rfl⟩ ⟨Nat.le_of_ble_eq_true rfl, Nat.le_of_ble_eq_true rfl⟩ km_0 clX10 rfl rfl (Nat.le_of_ble_eq_true rfl) dX10_bus_7 ?_
  refine r_zne C (tgt := 15) dX10_bus_10 (by decide) h (fun h => ?_) (fun h => ?_)
  · refine r_iln C dX10_bus_15 (k := 2) rfl ?_
    refine r_tc C h (fun e h => ?_) (fun ne0 h => ?_)
    · refine r_tin C (tgt := 52) dX10_bus_16 e (by decide) rfl (by decide) ?_
      refine r_aln C dX10_bus_52 (k := 0) rfl ?_
      refine r_gs C km_0 clX10 (f := 9) (by decide) rfl (t := 41) rfl tf_RX10_31 dX10_bus_53 ?_
      refine r_iln C dX10_bus_56 (k := 1) rfl ?_
      refine r_iald C km_41 dX10_bus_57 h (fun v3 h => ?_)
      exact r_iret C hr hlk dX10_bus_58 h
    refine r_tc C h (fun e h => ?_) (fun ne1 h => ?_)
    · refine r_tin C (tgt := 59) dX10_bus_16 e (by decide) rfl (by decide) ?_
      refine r_aln C dX10_bus_59 (k := 0) rfl ?_
      refine r_gs C km_0 clX10 (f := 10) (by decide) rfl (t := 42) rfl tf_RX10_34 dX10_bus_60 ?_
      refine r_iln C dX10_bus_63 (k := 1) rfl ?_
      refine r_iald C km_42 dX10_bus_64 h (fun v4 h => ?_)
      exact r_iret C hr hlk dX10_bus_65 h
    refine r_tc C h (fun e h => ?_) (fun ne2 h => ?_)
    · refine r_tin C (tgt := 66) dX10_bus_16 e (by decide) rfl (by decide) ?_
      refine r_aln C dX10_bus_66 (k := 0) rfl ?_
      refine r_gs C km_0 clX10 (f := 11) (by decide) rfl (t := 43) rfl tf_RX10_37 dX10_bus_67 ?_
      refine r_iln C dX10_bus_70 (k := 1) rfl ?_
      refine r_iald C km_43 dX10_bus_71 h (fun v5 h => ?_)
      exact r_iret C hr hlk dX10_bus_72 h
    refine r_tc C h (fun e h => ?_) (fun ne3 h => ?_)
    · refine r_tin C (tgt := 73) dX10_bus_16 e (by decide) rfl (by decide) ?_
      refine r_aln C dX10_bus_73 (k := 0) rfl ?_
      refine r_gs C km_0 clX10 (f := 12) (by decide) rfl (t := 44) rfl tf_RX10_40 dX10_bus_74 ?_
      refine r_iln C dX10_bus_77 (k := 1) rfl ?_
      refine r_iald C km_44 dX10_bus_78 h (fun v6 h => ?_)
      exact r_iret C hr hlk dX10_bus_79 h
    refine r_tc C h (fun e h => ?_) (fun ne4 h => ?_)
    · refine r_tin C (tgt := 80) dX10_bus_16 e (by decide) rfl (by decide) ?_
      refine r_aln C dX10_bus_80 (k := 0) rfl ?_
      refine r_iln C dX10_bus_81 (k := 1) rfl ?_
      obtain ⟨r7, hy, h⟩ := q_calp_some h
      refine r_cvi C (st := []) (c_X10_goneWith C.2.2.1 a0 M1 r7 hy) tm_RX10_423 mw_X10_goneWith ⟨rfl, rfl⟩ ⟨Nat.le_of_ble_eq_true rfl, Nat.le_of_ble_eq_true rfl⟩ km_0 clX10 rfl rfl (Nat.le_of_ble_eq_true rfl) dX10_bus_82 ?_
      exact r_iret C hr hlk dX10_bus_85 h
    refine r_tout C (tgt := 86) dX10_bus_16 (by omega) (by decide) ?_
    refine r_ic C dX10_bus_86 ?_
    exact r_iret C hr hlk dX10_bus_87 h
  · refine r_ic C dX10_bus_13 ?_
    exact r_iret C hr hlk dX10_bus_14 h
abbrev rm_X10_chance : Room := { frames := 6, cells := 0, slots := 0, locals := 145 }
theorem mw_X10_chance : q_mw RX10 yX10_chance cX10_chance 9 (some .int) 4 := ⟨⟨ti_X10_chance, tl_X10_chance, tn_RX10, td_X10_chance⟩, by decide +kernel⟩
def f_X10_chance_B76 (g52 : Int → Int → Int → Mem → Res) (x2 : Int) (x3 : Int) (x4 : Int) (x6 : Int) (x7 : Int) (x8 : Int) (M : Mem) (g76 : Int → Mem → Res) : Res :=
  if w32 x2 ≤ w32 x8 then (q_al M 68 23 1 fun v1 =>
  q_al M 73 184 (8 + x3) fun v2 =>
  if w32 v2 < w32 x4 then (g52 v1 (x6 + 0) (x7 + 1) M)
  else (g52 v1 (x6 + 1) (x7 + 1) M))
  else (q_call (f_X10_passes 1 1 M) fun r3 M4 =>
  g76 (x8 + 1) M4)
def f_X10_chance_L76 (g52 : Int → Int → Int → Mem → Res) (x2 : Int) (x3 : Int) (x4 : Int) (x6 : Int) (x7 : Int) (n : Nat) (x8 : Int) (M : Mem) : Res := qlm1 (fun x8 M g76 => f_X10_chance_B76 g52 x2 x3 x4 x6 x7 x8 M g76) n x8 M
theorem w_X10_chance_B76 (C : Cx syM p m c cX10_chance 9 s args RX10 D ad cA) (hr : meth.sig.returnType = (some .int)) (hlk : meth.locks = false) (g52 : Int → Int → Int → Mem → Res) (x2 : Int) (x3 : Int) (x4 : Int) (x6 : Int) (x7 : Int) (x8 : Int) (M : Mem) (g76 : Int → Mem → Res) (ih52 : ∀ (ux5 ux6 ux7 : Int) (M : Mem), g52 ux5 ux6 ux7 M = some (r0, M0) → WM syM p l e rm_X10_chance s m args below meth c 9 D ad cA (MQ below (q_Post syM D ad cA (some (.int (qI r0))) M0) args s 0 0 (q_A syM ad)) M 52 [(0, .ref (ad 0)), (2, .int (qI x2)), (3, .int (qI x3)), (4, .int (qI x4)), (5, .int (qI ux5)), (6, .int (qI ux6)), (7, .int (qI ux7))] []) (ih76 : ∀ (ux8 : Int) (M : Mem), g76 ux8 M = some (r0, M0) → WM syM p l e rm_X10_chance s m args below meth c 9 D ad cA (MQ below (q_Post syM D ad cA (some (.int (qI r0))) M0) args s 0 0 (q_A syM ad)) M 76 [(0, .ref (ad 0)), (2, .int (qI x2)), (3, .int (qI x3)), (4, .int (qI x4)), (6, .int (qI x6)), (7, .int (qI x7)), (8, .int (qI ux8))] []) (h : f_X10_chance_B76 g52 x2 x3 x4 x6 x7 x8 M g76 = some (r0, M0)) : WM syM p l e rm_X10_chance s m args below meth c 9 D ad cA (MQ below (q_Post syM D ad cA (some (.int (qI r0))) M0) args s 0 0 (q_A syM ad)) M 76 [(0, .ref (ad 0)), (2, .int (qI x2)), (3, .int (qI x3)), (4, .int (qI x4)), (6, .int (qI x6)), (7, .int (qI x7)), (8, .int (qI x8))] [] := by
  unfold f_X10_chance_B76 at h
  refine r_il C dX10_chance_76 (k := 6) rfl ?_
  refine r_iln C dX10_chance_78 (k := 1) rfl ?_
  refine r_cge C (tgt := 94) dX10_chance_79 (by decide) h (fun h => ?_) (fun h => ?_)
  · refine r_aln C dX10_chance_94 (k := 0) rfl ?_
    refine r_gs C km_0 clX10 (f := 36) (by decide) rfl (t := 68) rfl tf_RX10_75 dX10_chance_95 ?_
    refine r_ic C dX10_chance_98 ?_
    refine r_iald C km_68 dX10_chance_99 h (fun v1 h => ?_)
    refine r_is C (L1 := [(5, .int (qI v1)), (0, .ref (ad 0)), (2, .int (qI x2)), (3, .int (qI x3)), (4, .int (qI x4)), (6, .int (qI x6)), (7, .int (qI x7)), (8, .int (qI x8))]) dX10_chance_100 (by decide) rfl ?_
    refine r_il C dX10_chance_102 (k := 5) rfl ?_
    refine r_aln C dX10_chance_104 (k := 1) rfl ?_
    refine r_gs C km_0 clX10 (f := 41) (by decide) rfl (t := 73) rfl tf_RX10_90 dX10_chance_105 ?_
    refine r_bi C dX10_chance_108 (by decide) ?_
    refine r_iln C dX10_chance_110 (k := 3) rfl ?_
    refine r_iadd C dX10_chance_111 ?_
    refine r_iald C km_73 dX10_chance_112 h (fun v2 h => ?_)
    refine r_il C dX10_chance_113 (k := 4) rfl ?_
    refine r_clt C (tgt := 122) dX10_chance_115 (by decide) h (fun h => ?_) (fun h => ?_)
    · refine r_ic C dX10_chance_122 ?_
      refine r_iadd C dX10_chance_123 ?_
      refine r_is C (L1 := [(6, .int (qI (x6 + 0))), (5, .int (qI v1)), (0, .ref (ad 0)), (2, .int (qI x2)), (3, .int (qI x3)), (4, .int (qI x4)), (7, .int (qI x7)), (8, .int (qI x8))]) dX10_chance_124 (by decide) rfl ?_
      refine r_inc C (L1 := [(7, .int (qI (x7 + 1))), (6, .int (qI (x6 + 0))), (5, .int (qI v1)), (0, .ref (ad 0)), (2, .int (qI x2)), (3, .int (qI x3)), (4, .int (qI x4)), (8, .int (qI x8))]) dX10_chance_126 (k := 6) rfl (by decide) rfl ?_
      refine r_goto C (tgt := 52) dX10_chance_129 (by decide) ?_
      refine r_drop [3, 4, 5, 6, 2, 1, 0] rfl ?_
      exact ih52 v1 (x6 + 0) (x7 + 1) M h
    · refine r_ic C dX10_chance_118 ?_
      refine r_goto C (tgt := 123) dX10_chance_119 (by decide) ?_
      refine r_iadd C dX10_chance_123 ?_
      refine r_is C (L1 := [(6, .int (qI (x6 + 1))), (5, .int (qI v1)), (0, .ref (ad 0)), (2, .int (qI x2)), (3, .int (qI x3)), (4, .int (qI x4)), (7, .int (qI x7)), (8, .int (qI x8))]) dX10_chance_124 (by decide) rfl ?_
      refine r_inc C (L1 := [(7, .int (qI (x7 + 1))), (6, .int (qI (x6 + 1))), (5, .int (qI v1)), (0, .ref (ad 0)), (2, .int (qI x2)), (3, .int (qI x3)), (4, .int (qI x4)), (8, .int (qI x8))]) dX10_chance_126 (k := 6) rfl (by decide) rfl ?_
      refine r_goto C (tgt := 52) dX10_chance_129 (by decide) ?_
      refine r_drop [3, 4, 5, 6, 2, 1, 0] rfl ?_
      exact ih52 v1 (x6 + 1) (x7 + 1) M h
  · refine r_aln C dX10_chance_82 (k := 0) rfl ?_
    refine r_ic C dX10_chance_83 ?_
    refine r_ic C dX10_chance_84 ?_
    obtain ⟨r3, M4, hy, h⟩ := q_call_some h
    refine r_cvv C (st := []) (c_X10_passes C.2.2.1 1 1 M r3 M4 hy) tm_RX10_401 mw_X10_passes ⟨rfl, rfl⟩ ⟨Nat.le_of_ble_eq_true rfl, Nat.le_of_ble_eq_true rfl⟩ km_0 clX10 rfl rfl (Nat.le_of_ble_eq_true rfl) dX10_chance_85 ?_
    refine r_inc C (L1 := [(8, .int (qI (x8 + 1))), (0, .ref (ad 0)), (2, .int (qI x2)), (3, .int (qI x3)), (4, .int (qI x4)), (6, .int (qI x6)), (7, .int (qI x7))]) dX10_chance_88 (k := 6) rfl (by decide) rfl ?_
    refine r_goto C (tgt := 76) dX10_chance_91 (by decide) ?_
    refine r_drop [1, 2, 3, 4, 5, 6, 0] rfl ?_
    exact ih76 (x8 + 1) M4 h
theorem w_X10_chance_L76 (C : Cx syM p m c cX10_chance 9 s args RX10 D ad cA) (hr : meth.sig.returnType = (some .int)) (hlk : meth.locks = false) (g52 : Int → Int → Int → Mem → Res) (x2 : Int) (x3 : Int) (x4 : Int) (x6 : Int) (x7 : Int) (ih52 : ∀ (ux5 ux6 ux7 : Int) (M : Mem), g52 ux5 ux6 ux7 M = some (r0, M0) → WM syM p l e rm_X10_chance s m args below meth c 9 D ad cA (MQ below (q_Post syM D ad cA (some (.int (qI r0))) M0) args s 0 0 (q_A syM ad)) M 52 [(0, .ref (ad 0)), (2, .int (qI x2)), (3, .int (qI x3)), (4, .int (qI x4)), (5, .int (qI ux5)), (6, .int (qI ux6)), (7, .int (qI ux7))] []) (n : Nat) (x8 : Int) (M : Mem) (h : f_X10_chance_L76 g52 x2 x3 x4 x6 x7 n x8 M = some (r0, M0)) : WM syM p l e rm_X10_chance s m args below meth c 9 D ad cA (MQ below (q_Post syM D ad cA (some (.int (qI r0))) M0) args s 0 0 (q_A syM ad)) M 76 [(0, .ref (ad 0)), (2, .int (qI x2)), (3, .int (qI x3)), (4, .int (qI x4)), (6, .int (qI x6)), (7, .int (qI x7)), (8, .int (qI x8))] [] :=
  qlm1_r (Wp := fun ux8 M => WM syM p l e rm_X10_chance s m args below meth c 9 D ad cA (MQ below (q_Post syM D ad cA (some (.int (qI r0))) M0) args s 0 0 (q_A syM ad)) M 76 [(0, .ref (ad 0)), (2, .int (qI x2)), (3, .int (qI x3)), (4, .int (qI x4)), (6, .int (qI x6)), (7, .int (qI x7)), (8, .int (qI ux8))] []) (fun ux8 M g76 ih76 h => w_X10_chance_B76 C hr hlk g52 x2 x3 x4 x6 x7 ux8 M g76 ih52 ih76 h) n x8 M h
def f_X10_chance_B52 (x2 : Int) (x3 : Int) (x4 : Int) (x5 : Int) (x6 : Int) (x7 : Int) (M : Mem) (g52 : Int → Int → Int → Mem → Res) : Res :=
  if w32 10 ≤ w32 x7 then (some (x6, M))
  else (q_call (f_X10_copies 1 0 M) fun r1 M2 =>
  q_as M2 68 23 1 x5 fun M3 =>
  f_X10_chance_L76 g52 x2 x3 x4 x6 x7 q_N 0 M3)
def f_X10_chance_L52 (x2 : Int) (x3 : Int) (x4 : Int) (n : Nat) (x5 : Int) (x6 : Int) (x7 : Int) (M : Mem) : Res := qlm3 (fun x5 x6 x7 M g52 => f_X10_chance_B52 x2 x3 x4 x5 x6 x7 M g52) n x5 x6 x7 M
theorem w_X10_chance_B52 (C : Cx syM p m c cX10_chance 9 s args RX10 D ad cA) (hr : meth.sig.returnType = (some .int)) (hlk : meth.locks = false)  (x2 : Int) (x3 : Int) (x4 : Int) (x5 : Int) (x6 : Int) (x7 : Int) (M : Mem) (g52 : Int → Int → Int → Mem → Res)  (ih52 : ∀ (ux5 ux6 ux7 : Int) (M : Mem), g52 ux5 ux6 ux7 M = some (r0, M0) → WM syM p l e rm_X10_chance s m args below meth c 9 D ad cA (MQ below (q_Post syM D ad cA (some (.int (qI r0))) M0) args s 0 0 (q_A syM ad)) M 52 [(0, .ref (ad 0)), (2, .int (qI x2)), (3, .int (qI x3)), (4, .int (qI x4)), (5, .int (qI ux5)), (6, .int (qI ux6)), (7, .int (qI ux7))] []) (h : f_X10_chance_B52 x2 x3 x4 x5 x6 x7 M g52 = some (r0, M0)) : WM syM p l e rm_X10_chance s m args below meth c 9 D ad cA (MQ below (q_Post syM D ad cA (some (.int (qI r0))) M0) args s 0 0 (q_A syM ad)) M 52 [(0, .ref (ad 0)), (2, .int (qI x2)), (3, .int (qI x3)), (4, .int (qI x4)), (5, .int (qI x5)), (6, .int (qI x6)), (7, .int (qI x7))] [] := by
  unfold f_X10_chance_B52 at h
  refine r_il C dX10_chance_52 (k := 6) rfl ?_
  refine r_bi C dX10_chance_54 (by decide) ?_
  refine r_cge C (tgt := 132) dX10_chance_56 (by decide) h (fun h => ?_) (fun h => ?_)
  · refine r_il C dX10_chance_132 (k := 5) rfl ?_
    exact r_iret C hr hlk dX10_chance_134 h
  · refine r_aln C dX10_chance_59 (k := 0) rfl ?_
    refine r_ic C dX10_chance_60 ?_
    refine r_ic C dX10_chance_61 ?_
    obtain ⟨r1, M2, hy, h⟩ := q_call_some h
    refine r_cvv C (st := []) (c_X10_copies C.2.2.1 1 0 M r1 M2 hy) tm_RX10_405 mw_X10_copies ⟨rfl, rfl⟩ ⟨Nat.le_of_ble_eq_true rfl, Nat.le_of_ble_eq_true rfl⟩ km_0 clX10 rfl rfl (Nat.le_of_ble_eq_true rfl) dX10_chance_62 ?_
    refine r_aln C dX10_chance_65 (k := 0) rfl ?_
    refine r_gs C km_0 clX10 (f := 36) (by decide) rfl (t := 68) rfl tf_RX10_75 dX10_chance_66 ?_
    refine r_ic C dX10_chance_69 ?_
    refine r_il C dX10_chance_70 (k := 4) rfl ?_
    refine r_iast C km_68 dX10_chance_72 h (fun M3 h => ?_)
    refine r_ic C dX10_chance_73 ?_
    refine r_is C (L1 := [(8, .int (qI 0)), (0, .ref (ad 0)), (2, .int (qI x2)), (3, .int (qI x3)), (4, .int (qI x4)), (5, .int (qI x5)), (6, .int (qI x6)), (7, .int (qI x7))]) dX10_chance_74 (by decide) rfl ?_
    refine r_drop [1, 2, 3, 4, 6, 7, 0] rfl ?_
    exact w_X10_chance_L76 C hr hlk g52 x2 x3 x4 x6 x7 ih52 q_N 0 M3 h
theorem w_X10_chance_L52 (C : Cx syM p m c cX10_chance 9 s args RX10 D ad cA) (hr : meth.sig.returnType = (some .int)) (hlk : meth.locks = false)  (x2 : Int) (x3 : Int) (x4 : Int)  (n : Nat) (x5 : Int) (x6 : Int) (x7 : Int) (M : Mem) (h : f_X10_chance_L52 x2 x3 x4 n x5 x6 x7 M = some (r0, M0)) : WM syM p l e rm_X10_chance s m args below meth c 9 D ad cA (MQ below (q_Post syM D ad cA (some (.int (qI r0))) M0) args s 0 0 (q_A syM ad)) M 52 [(0, .ref (ad 0)), (2, .int (qI x2)), (3, .int (qI x3)), (4, .int (qI x4)), (5, .int (qI x5)), (6, .int (qI x6)), (7, .int (qI x7))] [] :=
  qlm3_r (Wp := fun ux5 ux6 ux7 M => WM syM p l e rm_X10_chance s m args below meth c 9 D ad cA (MQ below (q_Post syM D ad cA (some (.int (qI r0))) M0) args s 0 0 (q_A syM ad)) M 52 [(0, .ref (ad 0)), (2, .int (qI x2)), (3, .int (qI x3)), (4, .int (qI x4)), (5, .int (qI ux5)), (6, .int (qI ux6)), (7, .int (qI ux7))] []) (fun ux5 ux6 ux7 M g52 ih52 h => w_X10_chance_B52 C hr hlk x2 x3 x4 ux5 ux6 ux7 M g52  ih52 h) n x5 x6 x7 M h
def f_X10_chance (a0 : Int) (a1 : Int) (a2 : Int) (a3 : Int) (M : Mem) : Res :=
  q_pf M 0 0 0 fun M1 =>
  if w32 a0 < 0 then (some ((-1), M1))
  else (if w32 a1 < w32 1 then (some ((-1), M1))
  else (if w32 99 < w32 a1 then (some ((-1), M1))
  else (q_calp (f_X10_isSoul a2 M1) fun r2 =>
  if w32 r2 = 0 then (some ((-1), M1))
  else (if w32 a3 < 0 then (some ((-1), M1))
  else (if w32 a3 ≤ w32 999 then (f_X10_chance_L52 a1 a2 a3 q_N a0 0 0 M1)
  else (some ((-1), M1)))))))
theorem c_X10_chance {l : Launch} {D : va_G} {ad : Nat → Nat} {cA : Nat → ClassId} (hi : q_inj syM ad) (a0 : Int) (a1 : Int) (a2 : Int) (a3 : Int) (M : Mem) (r0 : Int) (M0 : Mem) (h : f_X10_chance a0 a1 a2 a3 M = some (r0, M0)) : q_Met l syM D ad cA yX10_chance cX10_chance 9 (some .int) rm_X10_chance [.ref (ad 0), .int (qI a0), .int (qI a1), .int (qI a2), .int (qI a3)] M (some (.int (qI r0))) M0 := by
  refine q_met (L0 := [(0, .ref (ad 0)), (1, .int (qI a0)), (2, .int (qI a1)), (3, .int (qI a2)), (4, .int (qI a3))]) hi okM (by decide) (Nat.le_of_ble_eq_true rfl) rfl ?_
  intro p e s m args below meth c C hr hlk
  unfold f_X10_chance at h
  refine r_aln C dX10_chance_0 (k := 0) rfl ?_
  refine r_ic C dX10_chance_1 ?_
  refine r_pf C km_0 clX10 (f := 0) (by decide) rfl q_dI rfl rfl tf_RX10_142 dX10_chance_2 h (fun M1 h => ?_)
  refine r_iln C dX10_chance_5 (k := 1) rfl ?_
  refine r_zlt C (tgt := 41) dX10_chance_6 (by decide) h (fun h => ?_) (fun h => ?_)
  · refine r_ic C dX10_chance_41 ?_
    exact r_iret C hr hlk dX10_chance_42 h
  · refine r_iln C dX10_chance_9 (k := 2) rfl ?_
    refine r_ic C dX10_chance_10 ?_
    refine r_clt C (tgt := 41) dX10_chance_11 (by decide) h (fun h => ?_) (fun h => ?_)
    · refine r_ic C dX10_chance_41 ?_
      exact r_iret C hr hlk dX10_chance_42 h
    · refine r_iln C dX10_chance_14 (k := 2) rfl ?_
      refine r_bi C dX10_chance_15 (by decide) ?_
      refine r_cgt C (tgt := 41) dX10_chance_17 (by decide) h (fun h => ?_) (fun h => ?_)
      · refine r_ic C dX10_chance_41 ?_
        exact r_iret C hr hlk dX10_chance_42 h
      · refine r_aln C dX10_chance_20 (k := 0) rfl ?_
        refine r_iln C dX10_chance_21 (k := 3) rfl ?_
        obtain ⟨r2, hy, h⟩ := q_calp_some h
        refine r_cvi C (st := []) (c_X10_isSoul C.2.2.1 a2 M1 r2 hy) tm_RX10_411 mw_X10_isSoul ⟨rfl, rfl⟩ ⟨Nat.le_of_ble_eq_true rfl, Nat.le_of_ble_eq_true rfl⟩ km_0 clX10 rfl rfl (Nat.le_of_ble_eq_true rfl) dX10_chance_22 ?_
        refine r_zeq C (tgt := 41) dX10_chance_25 (by decide) h (fun h => ?_) (fun h => ?_)
        · refine r_ic C dX10_chance_41 ?_
          exact r_iret C hr hlk dX10_chance_42 h
        · refine r_il C dX10_chance_28 (k := 4) rfl ?_
          refine r_zlt C (tgt := 41) dX10_chance_30 (by decide) h (fun h => ?_) (fun h => ?_)
          · refine r_ic C dX10_chance_41 ?_
            exact r_iret C hr hlk dX10_chance_42 h
          · refine r_il C dX10_chance_33 (k := 4) rfl ?_
            refine r_si C dX10_chance_35 (by decide) ?_
            refine r_cle C (tgt := 43) dX10_chance_38 (by decide) h (fun h => ?_) (fun h => ?_)
            · refine r_iln C dX10_chance_43 (k := 1) rfl ?_
              refine r_is C (L1 := [(5, .int (qI a0)), (0, .ref (ad 0)), (1, .int (qI a0)), (2, .int (qI a1)), (3, .int (qI a2)), (4, .int (qI a3))]) dX10_chance_44 (by decide) rfl ?_
              refine r_ic C dX10_chance_46 ?_
              refine r_is C (L1 := [(6, .int (qI 0)), (5, .int (qI a0)), (0, .ref (ad 0)), (1, .int (qI a0)), (2, .int (qI a1)), (3, .int (qI a2)), (4, .int (qI a3))]) dX10_chance_47 (by decide) rfl ?_
              refine r_ic C dX10_chance_49 ?_
              refine r_is C (L1 := [(7, .int (qI 0)), (6, .int (qI 0)), (5, .int (qI a0)), (0, .ref (ad 0)), (1, .int (qI a0)), (2, .int (qI a1)), (3, .int (qI a2)), (4, .int (qI a3))]) dX10_chance_50 (by decide) rfl ?_
              refine r_drop [3, 5, 6, 7, 2, 1, 0] rfl ?_
              exact w_X10_chance_L52 C hr hlk a1 a2 a3  q_N a0 0 0 M1 h
            · refine r_ic C dX10_chance_41 ?_
              exact r_iret C hr hlk dX10_chance_42 h
abbrev rm_X10_isGoneBy : Room := { frames := 7, cells := 0, slots := 0, locals := 167 }
theorem mw_X10_isGoneBy : q_mw RX10 yX10_isGoneBy cX10_isGoneBy 3 (some .boolean) 2 := ⟨⟨ti_X10_isGoneBy, tl_X10_isGoneBy, tn_RX10, td_X10_isGoneBy⟩, by decide +kernel⟩
def f_X10_isGoneBy (a0 : Int) (a1 : Int) (M : Mem) : Res :=
  q_call (f_X10_copies 1 0 M) fun r1 M2 =>
  q_al M2 72 184 (8 + a0) fun v3 =>
  q_as M2 72 184 (8 + a0) (q_min 99 (v3 + a1)) fun M4 =>
  q_call (f_X10_goesOn 60 M4) fun r5 M6 =>
  q_al M6 71 184 (8 + a0) fun v7 =>
  if ¬ w32 v7 = w32 2 then (some (0, M6))
  else (some (1, M6))
theorem c_X10_isGoneBy {l : Launch} {D : va_G} {ad : Nat → Nat} {cA : Nat → ClassId} (hi : q_inj syM ad) (a0 : Int) (a1 : Int) (M : Mem) (r0 : Int) (M0 : Mem) (h : f_X10_isGoneBy a0 a1 M = some (r0, M0)) : q_Met l syM D ad cA yX10_isGoneBy cX10_isGoneBy 3 (some .boolean) rm_X10_isGoneBy [.ref (ad 0), .int (qI a0), .int (qI a1)] M (some (.int (qI r0))) M0 := by
  refine q_met (L0 := [(0, .ref (ad 0)), (1, .int (qI a0)), (2, .int (qI a1))]) hi okM (by decide) (Nat.le_of_ble_eq_true rfl) rfl ?_
  intro p e s m args below meth c C hr hlk
  unfold f_X10_isGoneBy at h
  refine r_aln C dX10_isGoneBy_0 (k := 0) rfl ?_
  refine r_ic C dX10_isGoneBy_1 ?_
  refine r_ic C dX10_isGoneBy_2 ?_
  obtain ⟨r1, M2, hy, h⟩ := q_call_some h
  refine r_cvv C (st := []) (c_X10_copies C.2.2.1 1 0 M r1 M2 hy) tm_RX10_405 mw_X10_copies ⟨rfl, rfl⟩ ⟨Nat.le_of_ble_eq_true rfl, Nat.le_of_ble_eq_true rfl⟩ km_0 clX10 rfl rfl (Nat.le_of_ble_eq_true rfl) dX10_isGoneBy_3 ?_
  refine r_aln C dX10_isGoneBy_6 (k := 0) rfl ?_
  refine r_gs C km_0 clX10 (f := 40) (by decide) rfl (t := 72) rfl tf_RX10_87 dX10_isGoneBy_7 ?_
  refine r_bi C dX10_isGoneBy_10 (by decide) ?_
  refine r_iln C dX10_isGoneBy_12 (k := 1) rfl ?_
  refine r_iadd C dX10_isGoneBy_13 ?_
  refine r_bi C dX10_isGoneBy_14 (by decide) ?_
  refine r_aln C dX10_isGoneBy_16 (k := 0) rfl ?_
  refine r_gs C km_0 clX10 (f := 40) (by decide) rfl (t := 72) rfl tf_RX10_87 dX10_isGoneBy_17 ?_
  refine r_bi C dX10_isGoneBy_20 (by decide) ?_
  refine r_iln C dX10_isGoneBy_22 (k := 1) rfl ?_
  refine r_iadd C dX10_isGoneBy_23 ?_
  refine r_iald C km_72 dX10_isGoneBy_24 h (fun v3 h => ?_)
  refine r_iln C dX10_isGoneBy_25 (k := 2) rfl ?_
  refine r_iadd C dX10_isGoneBy_26 ?_
  refine r_q_min C (st := [.int (qI (8 + a0)), .ref (ad 72)]) tm_RX10_399 ⟨Nat.le_of_ble_eq_true rfl, Nat.le_of_ble_eq_true rfl⟩ dX10_isGoneBy_27 ?_
  refine r_iast C km_72 dX10_isGoneBy_30 h (fun M4 h => ?_)
  refine r_aln C dX10_isGoneBy_31 (k := 0) rfl ?_
  refine r_bi C dX10_isGoneBy_32 (by decide) ?_
  obtain ⟨r5, M6, hy, h⟩ := q_call_some h
  refine r_cvv C (st := []) (c_X10_goesOn C.2.2.1 60 M4 r5 M6 hy) tm_RX10_408 mw_X10_goesOn ⟨rfl, rfl⟩ ⟨Nat.le_of_ble_eq_true rfl, Nat.le_of_ble_eq_true rfl⟩ km_0 clX10 rfl rfl (Nat.le_of_ble_eq_true rfl) dX10_isGoneBy_34 ?_
  refine r_aln C dX10_isGoneBy_37 (k := 0) rfl ?_
  refine r_gs C km_0 clX10 (f := 39) (by decide) rfl (t := 71) rfl tf_RX10_84 dX10_isGoneBy_38 ?_
  refine r_bi C dX10_isGoneBy_41 (by decide) ?_
  refine r_iln C dX10_isGoneBy_43 (k := 1) rfl ?_
  refine r_iadd C dX10_isGoneBy_44 ?_
  refine r_iald C km_71 dX10_isGoneBy_45 h (fun v7 h => ?_)
  refine r_ic C dX10_isGoneBy_46 ?_
  refine r_cne C (tgt := 54) dX10_isGoneBy_47 (by decide) h (fun h => ?_) (fun h => ?_)
  · refine r_ic C dX10_isGoneBy_54 ?_
    exact r_zret C (by decide) hr hlk dX10_isGoneBy_55 h
  · refine r_ic C dX10_isGoneBy_50 ?_
    refine r_goto C (tgt := 55) dX10_isGoneBy_51 (by decide) ?_
    exact r_zret C (by decide) hr hlk dX10_isGoneBy_55 h
abbrev rm_X10_coins : Room := { frames := 8, cells := 0, slots := 0, locals := 189 }
theorem mw_X10_coins : q_mw RX10 yX10_coins cX10_coins 3 (some .int) 1 := ⟨⟨ti_X10_coins, tl_X10_coins, tn_RX10, td_X10_coins⟩, by decide +kernel⟩
def f_X10_coins_B17 (x1 : Int) (x2 : Int) (M : Mem) (g17 : Int → Mem → Res) : Res :=
  if w32 99 < w32 x2 then (some ((-2), M))
  else (q_call (f_X10_isGoneBy x1 x2 M) fun r1 M2 =>
  if w32 r1 = 0 then (g17 (x2 + 1) M2)
  else (some (x2, M2)))
def f_X10_coins_L17 (x1 : Int) (n : Nat) (x2 : Int) (M : Mem) : Res := qlm1 (fun x2 M g17 => f_X10_coins_B17 x1 x2 M g17) n x2 M
theorem w_X10_coins_B17 (C : Cx syM p m c cX10_coins 3 s args RX10 D ad cA) (hr : meth.sig.returnType = (some .int)) (hlk : meth.locks = false)  (x1 : Int) (x2 : Int) (M : Mem) (g17 : Int → Mem → Res)  (ih17 : ∀ (ux2 : Int) (M : Mem), g17 ux2 M = some (r0, M0) → WM syM p l e rm_X10_coins s m args below meth c 3 D ad cA (MQ below (q_Post syM D ad cA (some (.int (qI r0))) M0) args s 0 0 (q_A syM ad)) M 17 [(0, .ref (ad 0)), (1, .int (qI x1)), (2, .int (qI ux2))] []) (h : f_X10_coins_B17 x1 x2 M g17 = some (r0, M0)) : WM syM p l e rm_X10_coins s m args below meth c 3 D ad cA (MQ below (q_Post syM D ad cA (some (.int (qI r0))) M0) args s 0 0 (q_A syM ad)) M 17 [(0, .ref (ad 0)), (1, .int (qI x1)), (2, .int (qI x2))] [] := by
  unfold f_X10_coins_B17 at h
  refine r_iln C dX10_coins_17 (k := 2) rfl ?_
  refine r_bi C dX10_coins_18 (by decide) ?_
  refine r_cgt C (tgt := 40) dX10_coins_20 (by decide) h (fun h => ?_) (fun h => ?_)
  · refine r_bi C dX10_coins_40 (by decide) ?_
    exact r_iret C hr hlk dX10_coins_42 h
  · refine r_aln C dX10_coins_23 (k := 0) rfl ?_
    refine r_iln C dX10_coins_24 (k := 1) rfl ?_
    refine r_iln C dX10_coins_25 (k := 2) rfl ?_
    obtain ⟨r1, M2, hy, h⟩ := q_call_some h
    refine r_cvi C (st := []) (c_X10_isGoneBy C.2.2.1 x1 x2 M r1 M2 hy) tm_RX10_458 mw_X10_isGoneBy ⟨rfl, rfl⟩ ⟨Nat.le_of_ble_eq_true rfl, Nat.le_of_ble_eq_true rfl⟩ km_0 clX10 rfl rfl (Nat.le_of_ble_eq_true rfl) dX10_coins_26 ?_
    refine r_zeq C (tgt := 34) dX10_coins_29 (by decide) h (fun h => ?_) (fun h => ?_)
    · refine r_inc C (L1 := [(2, .int (qI (x2 + 1))), (0, .ref (ad 0)), (1, .int (qI x1))]) dX10_coins_34 (k := 2) rfl (by decide) rfl ?_
      refine r_goto C (tgt := 17) dX10_coins_37 (by decide) ?_
      refine r_drop [1, 2, 0] rfl ?_
      exact ih17 (x2 + 1) M2 h
    · refine r_iln C dX10_coins_32 (k := 2) rfl ?_
      exact r_iret C hr hlk dX10_coins_33 h
theorem w_X10_coins_L17 (C : Cx syM p m c cX10_coins 3 s args RX10 D ad cA) (hr : meth.sig.returnType = (some .int)) (hlk : meth.locks = false)  (x1 : Int)  (n : Nat) (x2 : Int) (M : Mem) (h : f_X10_coins_L17 x1 n x2 M = some (r0, M0)) : WM syM p l e rm_X10_coins s m args below meth c 3 D ad cA (MQ below (q_Post syM D ad cA (some (.int (qI r0))) M0) args s 0 0 (q_A syM ad)) M 17 [(0, .ref (ad 0)), (1, .int (qI x1)), (2, .int (qI x2))] [] :=
  qlm1_r (Wp := fun ux2 M => WM syM p l e rm_X10_coins s m args below meth c 3 D ad cA (MQ below (q_Post syM D ad cA (some (.int (qI r0))) M0) args s 0 0 (q_A syM ad)) M 17 [(0, .ref (ad 0)), (1, .int (qI x1)), (2, .int (qI ux2))] []) (fun ux2 M g17 ih17 h => w_X10_coins_B17 C hr hlk x1 ux2 M g17  ih17 h) n x2 M h
def f_X10_coins (a0 : Int) (M : Mem) : Res :=
  q_pf M 0 0 0 fun M1 =>
  q_calp (f_X10_isSoul a0 M1) fun r2 =>
  if ¬ w32 r2 = 0 then (f_X10_coins_L17 a0 q_N 0 M1)
  else (some ((-1), M1))
theorem c_X10_coins {l : Launch} {D : va_G} {ad : Nat → Nat} {cA : Nat → ClassId} (hi : q_inj syM ad) (a0 : Int) (M : Mem) (r0 : Int) (M0 : Mem) (h : f_X10_coins a0 M = some (r0, M0)) : q_Met l syM D ad cA yX10_coins cX10_coins 3 (some .int) rm_X10_coins [.ref (ad 0), .int (qI a0)] M (some (.int (qI r0))) M0 := by
  refine q_met (L0 := [(0, .ref (ad 0)), (1, .int (qI a0))]) hi okM (by decide) (Nat.le_of_ble_eq_true rfl) rfl ?_
  intro p e s m args below meth c C hr hlk
  unfold f_X10_coins at h
  refine r_aln C dX10_coins_0 (k := 0) rfl ?_
  refine r_ic C dX10_coins_1 ?_
  refine r_pf C km_0 clX10 (f := 0) (by decide) rfl q_dI rfl rfl tf_RX10_142 dX10_coins_2 h (fun M1 h => ?_)
  refine r_aln C dX10_coins_5 (k := 0) rfl ?_
  refine r_iln C dX10_coins_6 (k := 1) rfl ?_
  obtain ⟨r2, hy, h⟩ := q_calp_some h
  refine r_cvi C (st := []) (c_X10_isSoul C.2.2.1 a0 M1 r2 hy) tm_RX10_411 mw_X10_isSoul ⟨rfl, rfl⟩ ⟨Nat.le_of_ble_eq_true rfl, Nat.le_of_ble_eq_true rfl⟩ km_0 clX10 rfl rfl (Nat.le_of_ble_eq_true rfl) dX10_coins_7 ?_
  refine r_zne C (tgt := 15) dX10_coins_10 (by decide) h (fun h => ?_) (fun h => ?_)
  · refine r_ic C dX10_coins_15 ?_
    refine r_isn C (L1 := [(2, .int (qI 0)), (0, .ref (ad 0)), (1, .int (qI a0))]) dX10_coins_16 (by decide) rfl ?_
    refine r_drop [1, 2, 0] rfl ?_
    exact w_X10_coins_L17 C hr hlk a0  q_N 0 M1 h
  · refine r_ic C dX10_coins_13 ?_
    exact r_iret C hr hlk dX10_coins_14 h
abbrev rm_X10_common : Room := { frames := 0, cells := 0, slots := 0, locals := 0 }
theorem mw_X10_common : q_ms yX10_common cX10_common 10 (some .long) 2 := ⟨⟨ts_X10_common, tn_RX10, td_X10_common⟩, by decide +kernel⟩
def f_X10_common_B6  (M : Mem) (x4 : Int) (x6 : Int) (g6 : Int → Int → Option Int) : Option Int :=
  if w32 (q_cmp x6 0) = 0 then (some x4)
  else (q_nzl x6 <| g6 x6 ((w64 x4).tmod (w64 x6)))
def f_X10_common_L6  (M : Mem) (n : Nat) (x4 : Int) (x6 : Int) : Option Int := qlp2 (fun x4 x6 g6 => f_X10_common_B6  M x4 x6 g6) n x4 x6
theorem w_X10_common_B6 (C : Cx syM p m c cX10_common 10 s args RX10 D ad cA) (hr : meth.sig.returnType = (some .long)) (hlk : meth.locks = false)  (x4 : Int) (x6 : Int) (M : Mem) (g6 : Int → Int → Option Int)  (ih6 : ∀ (ux4 ux6 : Int) , g6 ux4 ux6  = some r0 → WM syM p l e rm_X10_common s m args below meth c 10 D ad cA (MQ below (q_Post syM D ad cA (some (.long (qJ r0))) M) args s 0 0 (q_A syM ad)) M 6 [(4, .long (qJ ux4)), (6, .long (qJ ux6))] []) (h : f_X10_common_B6  M x4 x6 g6 = some r0) : WM syM p l e rm_X10_common s m args below meth c 10 D ad cA (MQ below (q_Post syM D ad cA (some (.long (qJ r0))) M) args s 0 0 (q_A syM ad)) M 6 [(4, .long (qJ x4)), (6, .long (qJ x6))] [] := by
  unfold f_X10_common_B6 at h
  refine r_ll C dX10_common_6 (k := 1) rfl ?_
  refine r_lc C (x := 0) dX10_common_8 (by decide) ?_
  refine r_lcmp C dX10_common_9 ?_
  refine r_zeq C (tgt := 31) dX10_common_10 (by decide) h (fun h => ?_) (fun h => ?_)
  · refine r_ll C dX10_common_31 (k := 0) rfl ?_
    exact r_lretp C hr hlk dX10_common_33 h
  · refine r_ll C dX10_common_13 (k := 0) rfl ?_
    refine r_ll C dX10_common_15 (k := 1) rfl ?_
    refine r_lrem C dX10_common_17 h (fun h => ?_)
    refine r_ls C (L1 := [(8, .long (qJ ((w64 x4).tmod (w64 x6)))), (4, .long (qJ x4)), (6, .long (qJ x6))]) dX10_common_18 (by decide) rfl ?_
    refine r_ll C dX10_common_20 (k := 2) rfl ?_
    refine r_ls C (L1 := [(4, .long (qJ x6)), (8, .long (qJ ((w64 x4).tmod (w64 x6)))), (6, .long (qJ x6))]) dX10_common_22 (by decide) rfl ?_
    refine r_ll C dX10_common_24 (k := 1) rfl ?_
    refine r_ls C (L1 := [(6, .long (qJ ((w64 x4).tmod (w64 x6)))), (4, .long (qJ x6)), (8, .long (qJ ((w64 x4).tmod (w64 x6))))]) dX10_common_26 (by decide) rfl ?_
    refine r_goto C (tgt := 6) dX10_common_28 (by decide) ?_
    refine r_drop [1, 0] rfl ?_
    exact ih6 x6 ((w64 x4).tmod (w64 x6))  h
theorem w_X10_common_L6 (C : Cx syM p m c cX10_common 10 s args RX10 D ad cA) (hr : meth.sig.returnType = (some .long)) (hlk : meth.locks = false)   (M : Mem)  (n : Nat) (x4 : Int) (x6 : Int) (h : f_X10_common_L6  M n x4 x6 = some r0) : WM syM p l e rm_X10_common s m args below meth c 10 D ad cA (MQ below (q_Post syM D ad cA (some (.long (qJ r0))) M) args s 0 0 (q_A syM ad)) M 6 [(4, .long (qJ x4)), (6, .long (qJ x6))] [] :=
  qlp2_r (Wp := fun ux4 ux6 => WM syM p l e rm_X10_common s m args below meth c 10 D ad cA (MQ below (q_Post syM D ad cA (some (.long (qJ r0))) M) args s 0 0 (q_A syM ad)) M 6 [(4, .long (qJ ux4)), (6, .long (qJ ux6))] []) (fun ux4 ux6 g6 ih6 h => w_X10_common_B6 C hr hlk  ux4 ux6 M g6  ih6 h) n x4 x6 h
def f_X10_common (a0 : Int) (a1 : Int) (M : Mem) : Option Int :=
  f_X10_common_L6  M q_N a0 a1
theorem c_X10_common {l : Launch} {D : va_G} {ad : Nat → Nat} {cA : Nat → ClassId} (hi : q_inj syM ad) (a0 : Int) (a1 : Int) (M : Mem) (r0 : Int) (h : f_X10_common a0 a1 M = some r0) : q_Met l syM D ad cA yX10_common cX10_common 10 (some .long) rm_X10_common [.long (qJ a0), .long (qJ a1)] M (some (.long (qJ r0))) M := by
  refine q_met (L0 := [(0, .long (qJ a0)), (2, .long (qJ a1))]) hi okM (by decide) (Nat.le_of_ble_eq_true rfl) rfl ?_
  intro p e s m args below meth c C hr hlk
  unfold f_X10_common at h
  refine r_lln C dX10_common_0 (k := 0) rfl ?_
  refine r_ls C (L1 := [(4, .long (qJ a0)), (0, .long (qJ a0)), (2, .long (qJ a1))]) dX10_common_1 (by decide) rfl ?_
  refine r_lln C dX10_common_3 (k := 2) rfl ?_
  refine r_ls C (L1 := [(6, .long (qJ a1)), (4, .long (qJ a0)), (0, .long (qJ a0)), (2, .long (qJ a1))]) dX10_common_4 (by decide) rfl ?_
  refine r_drop [1, 0] rfl ?_
  exact w_X10_common_L6 C hr hlk  M  q_N a0 a1 h
abbrev rm_X10_count : Room := { frames := 1, cells := 0, slots := 0, locals := 24 }
theorem mw_X10_count : q_mw RX10 yX10_count cX10_count 2 (some .int) 1 := ⟨⟨ti_X10_count, tl_X10_count, tn_RX10, td_X10_count⟩, by decide +kernel⟩
def f_X10_count (a0 : Int) (M : Mem) : Res :=
  q_pf M 0 0 0 fun M1 =>
  if w32 a0 = 0 then (q_al M1 35 14 0 fun v2 =>
  some (v2, M1))
  else if w32 a0 = 1 then (q_al M1 35 14 1 fun v3 =>
  some (v3, M1))
  else if w32 a0 = 2 then (q_al M1 35 14 3 fun v4 =>
  some (v4, M1))
  else if w32 a0 = 3 then (q_al M1 35 14 6 fun v5 =>
  some (v5, M1))
  else if w32 a0 = 4 then (q_al M1 67 23 0 fun v6 =>
  some (v6, M1))
  else if w32 a0 = 5 then (q_al M1 69 23 0 fun v7 =>
  some (v7, M1))
  else if w32 a0 = 6 then (q_calp (f_X10_soulsOf 0 2 M1) fun r8 =>
  some (r8, M1))
  else if w32 a0 = 7 then (q_calp (f_X10_soulsOf 0 3 M1) fun r9 =>
  some (r9, M1))
  else if w32 a0 = 8 then (q_calp (f_X10_kindness 0 M1) fun r10 =>
  some (r10, M1))
  else if w32 a0 = 9 then (q_calp (f_X10_allOf 73 184 0 M1) fun r11 =>
  some (r11, M1))
  else if w32 a0 = 10 then (q_calp (f_X10_allOf 74 184 0 M1) fun r12 =>
  some (r12, M1))
  else if w32 a0 = 11 then (q_gf M1 0 58 fun v13 =>
  some (v13, M1))
  else if w32 a0 = 12 then (q_calp (f_X10_knownMany  M1) fun r14 =>
  some (r14, M1))
  else if w32 a0 = 13 then (q_gf M1 0 46 fun v15 =>
  some (v15, M1))
  else (some ((-1), M1))
theorem c_X10_count {l : Launch} {D : va_G} {ad : Nat → Nat} {cA : Nat → ClassId} (hi : q_inj syM ad) (a0 : Int) (M : Mem) (r0 : Int) (M0 : Mem) (h : f_X10_count a0 M = some (r0, M0)) : q_Met l syM D ad cA yX10_count cX10_count 2 (some .int) rm_X10_count [.ref (ad 0), .int (qI a0)] M (some (.int (qI r0))) M0 := by
  refine q_met (L0 := [(0, .ref (ad 0)), (1, .int (qI a0))]) hi okM (by decide) (Nat.le_of_ble_eq_true rfl) rfl ?_
  intro p e s m args below meth c C hr hlk
  unfold f_X10_count at h
  refine r_aln C dX10_count_0 (k := 0) rfl ?_
  refine r_ic C dX10_count_1 ?_
  refine r_pf C km_0 clX10 (f := 0) (by decide) rfl q_dI rfl rfl tf_RX10_142 dX10_count_2 h (fun M1 h => ?_)
  refine r_iln C dX10_count_5 (k := 1) rfl ?_
  refine r_tc C h (fun e h => ?_) (fun ne0 h => ?_)
  · refine r_tin C (tgt := 76) dX10_count_6 e (by decide) rfl (by decide) ?_
    refine r_aln C dX10_count_76 (k := 0) rfl ?_
    refine r_gs C km_0 clX10 (f := 3) (by decide) rfl (t := 35) rfl tf_RX10_13 dX10_count_77 ?_
    refine r_ic C dX10_count_80 ?_
    refine r_iald C km_35 dX10_count_81 h (fun v2 h => ?_)
    exact r_iret C hr hlk dX10_count_82 h
  refine r_tc C h (fun e h => ?_) (fun ne1 h => ?_)
  · refine r_tin C (tgt := 83) dX10_count_6 e (by decide) rfl (by decide) ?_
    refine r_aln C dX10_count_83 (k := 0) rfl ?_
    refine r_gs C km_0 clX10 (f := 3) (by decide) rfl (t := 35) rfl tf_RX10_13 dX10_count_84 ?_
    refine r_ic C dX10_count_87 ?_
    refine r_iald C km_35 dX10_count_88 h (fun v3 h => ?_)
    exact r_iret C hr hlk dX10_count_89 h
  refine r_tc C h (fun e h => ?_) (fun ne2 h => ?_)
  · refine r_tin C (tgt := 90) dX10_count_6 e (by decide) rfl (by decide) ?_
    refine r_aln C dX10_count_90 (k := 0) rfl ?_
    refine r_gs C km_0 clX10 (f := 3) (by decide) rfl (t := 35) rfl tf_RX10_13 dX10_count_91 ?_
    refine r_ic C dX10_count_94 ?_
    refine r_iald C km_35 dX10_count_95 h (fun v4 h => ?_)
    exact r_iret C hr hlk dX10_count_96 h
  refine r_tc C h (fun e h => ?_) (fun ne3 h => ?_)
  · refine r_tin C (tgt := 97) dX10_count_6 e (by decide) rfl (by decide) ?_
    refine r_aln C dX10_count_97 (k := 0) rfl ?_
    refine r_gs C km_0 clX10 (f := 3) (by decide) rfl (t := 35) rfl tf_RX10_13 dX10_count_98 ?_
    refine r_bi C dX10_count_101 (by decide) ?_
    refine r_iald C km_35 dX10_count_103 h (fun v5 h => ?_)
    exact r_iret C hr hlk dX10_count_104 h
  refine r_tc C h (fun e h => ?_) (fun ne4 h => ?_)
  · refine r_tin C (tgt := 105) dX10_count_6 e (by decide) rfl (by decide) ?_
    refine r_aln C dX10_count_105 (k := 0) rfl ?_
    refine r_gs C km_0 clX10 (f := 35) (by decide) rfl (t := 67) rfl tf_RX10_72 dX10_count_106 ?_
    refine r_ic C dX10_count_109 ?_
    refine r_iald C km_67 dX10_count_110 h (fun v6 h => ?_)
    exact r_iret C hr hlk dX10_count_111 h
  refine r_tc C h (fun e h => ?_) (fun ne5 h => ?_)
  · refine r_tin C (tgt := 112) dX10_count_6 e (by decide) rfl (by decide) ?_
    refine r_aln C dX10_count_112 (k := 0) rfl ?_
    refine r_gs C km_0 clX10 (f := 37) (by decide) rfl (t := 69) rfl tf_RX10_78 dX10_count_113 ?_
    refine r_ic C dX10_count_116 ?_
    refine r_iald C km_69 dX10_count_117 h (fun v7 h => ?_)
    exact r_iret C hr hlk dX10_count_118 h
  refine r_tc C h (fun e h => ?_) (fun ne6 h => ?_)
  · refine r_tin C (tgt := 119) dX10_count_6 e (by decide) rfl (by decide) ?_
    refine r_aln C dX10_count_119 (k := 0) rfl ?_
    refine r_ic C dX10_count_120 ?_
    refine r_ic C dX10_count_121 ?_
    obtain ⟨r8, hy, h⟩ := q_calp_some h
    refine r_cvi C (st := []) (c_X10_soulsOf C.2.2.1 0 2 M1 r8 hy) tm_RX10_436 mw_X10_soulsOf ⟨rfl, rfl⟩ ⟨Nat.le_of_ble_eq_true rfl, Nat.le_of_ble_eq_true rfl⟩ km_0 clX10 rfl rfl (Nat.le_of_ble_eq_true rfl) dX10_count_122 ?_
    exact r_iret C hr hlk dX10_count_125 h
  refine r_tc C h (fun e h => ?_) (fun ne7 h => ?_)
  · refine r_tin C (tgt := 126) dX10_count_6 e (by decide) rfl (by decide) ?_
    refine r_aln C dX10_count_126 (k := 0) rfl ?_
    refine r_ic C dX10_count_127 ?_
    refine r_ic C dX10_count_128 ?_
    obtain ⟨r9, hy, h⟩ := q_calp_some h
    refine r_cvi C (st := []) (c_X10_soulsOf C.2.2.1 0 3 M1 r9 hy) tm_RX10_436 mw_X10_soulsOf ⟨rfl, rfl⟩ ⟨Nat.le_of_ble_eq_true rfl, Nat.le_of_ble_eq_true rfl⟩ km_0 clX10 rfl rfl (Nat.le_of_ble_eq_true rfl) dX10_count_129 ?_
    exact r_iret C hr hlk dX10_count_132 h
  refine r_tc C h (fun e h => ?_) (fun ne8 h => ?_)
  · refine r_tin C (tgt := 133) dX10_count_6 e (by decide) rfl (by decide) ?_
    refine r_aln C dX10_count_133 (k := 0) rfl ?_
    refine r_ic C dX10_count_134 ?_
    obtain ⟨r10, hy, h⟩ := q_calp_some h
    refine r_cvi C (st := []) (c_X10_kindness C.2.2.1 0 M1 r10 hy) tm_RX10_439 mw_X10_kindness ⟨rfl, rfl⟩ ⟨Nat.le_of_ble_eq_true rfl, Nat.le_of_ble_eq_true rfl⟩ km_0 clX10 rfl rfl (Nat.le_of_ble_eq_true rfl) dX10_count_135 ?_
    exact r_iret C hr hlk dX10_count_138 h
  refine r_tc C h (fun e h => ?_) (fun ne9 h => ?_)
  · refine r_tin C (tgt := 139) dX10_count_6 e (by decide) rfl (by decide) ?_
    refine r_aln C dX10_count_139 (k := 0) rfl ?_
    refine r_aln C dX10_count_140 (k := 0) rfl ?_
    refine r_gs C km_0 clX10 (f := 41) (by decide) rfl (t := 73) rfl tf_RX10_90 dX10_count_141 ?_
    refine r_ic C dX10_count_144 ?_
    obtain ⟨r11, hy, h⟩ := q_calp_some h
    refine r_cvi C (st := []) (c_X10_allOf C.2.2.1 73 184 km_73 0 M1 r11 hy) tm_RX10_442 mw_X10_allOf ⟨rfl, rfl⟩ ⟨Nat.le_of_ble_eq_true rfl, Nat.le_of_ble_eq_true rfl⟩ km_0 clX10 rfl rfl (Nat.le_of_ble_eq_true rfl) dX10_count_145 ?_
    exact r_iret C hr hlk dX10_count_148 h
  refine r_tc C h (fun e h => ?_) (fun ne10 h => ?_)
  · refine r_tin C (tgt := 149) dX10_count_6 e (by decide) rfl (by decide) ?_
    refine r_aln C dX10_count_149 (k := 0) rfl ?_
    refine r_aln C dX10_count_150 (k := 0) rfl ?_
    refine r_gs C km_0 clX10 (f := 42) (by decide) rfl (t := 74) rfl tf_RX10_93 dX10_count_151 ?_
    refine r_ic C dX10_count_154 ?_
    obtain ⟨r12, hy, h⟩ := q_calp_some h
    refine r_cvi C (st := []) (c_X10_allOf C.2.2.1 74 184 km_74 0 M1 r12 hy) tm_RX10_442 mw_X10_allOf ⟨rfl, rfl⟩ ⟨Nat.le_of_ble_eq_true rfl, Nat.le_of_ble_eq_true rfl⟩ km_0 clX10 rfl rfl (Nat.le_of_ble_eq_true rfl) dX10_count_155 ?_
    exact r_iret C hr hlk dX10_count_158 h
  refine r_tc C h (fun e h => ?_) (fun ne11 h => ?_)
  · refine r_tin C (tgt := 159) dX10_count_6 e (by decide) rfl (by decide) ?_
    refine r_aln C dX10_count_159 (k := 0) rfl ?_
    refine r_gf C km_0 clX10 (f := 58) (by decide) rfl rfl rfl tf_RX10_295 dX10_count_160 h (fun v13 h => ?_)
    exact r_iret C hr hlk dX10_count_163 h
  refine r_tc C h (fun e h => ?_) (fun ne12 h => ?_)
  · refine r_tin C (tgt := 164) dX10_count_6 e (by decide) rfl (by decide) ?_
    refine r_aln C dX10_count_164 (k := 0) rfl ?_
    obtain ⟨r14, hy, h⟩ := q_calp_some h
    refine r_cvi C (st := []) (c_X10_knownMany C.2.2.1 M1 r14 hy) tm_RX10_481 mw_X10_knownMany ⟨rfl, rfl⟩ ⟨Nat.le_of_ble_eq_true rfl, Nat.le_of_ble_eq_true rfl⟩ km_0 clX10 rfl rfl (Nat.le_of_ble_eq_true rfl) dX10_count_165 ?_
    exact r_iret C hr hlk dX10_count_168 h
  refine r_tc C h (fun e h => ?_) (fun ne13 h => ?_)
  · refine r_tin C (tgt := 169) dX10_count_6 e (by decide) rfl (by decide) ?_
    refine r_aln C dX10_count_169 (k := 0) rfl ?_
    refine r_gf C km_0 clX10 (f := 46) (by decide) rfl rfl rfl tf_RX10_302 dX10_count_170 h (fun v15 h => ?_)
    exact r_iret C hr hlk dX10_count_173 h
  refine r_tout C (tgt := 174) dX10_count_6 (by omega) (by decide) ?_
  refine r_ic C dX10_count_174 ?_
  exact r_iret C hr hlk dX10_count_175 h
abbrev rm_X10_dry : Room := { frames := 1, cells := 0, slots := 0, locals := 29 }
theorem mw_X10_dry : q_mw RX10 yX10_dry cX10_dry 9 (some .long) 2 := ⟨⟨ti_X10_dry, tl_X10_dry, tn_RX10, td_X10_dry⟩, by decide +kernel⟩
def f_X10_dry_B36 (x1 : Int) (x2 : Int) (M : Mem) (x3 : Int) (x5 : Int) (x7 : Int) (g36 : Int → Int → Int → Res) : Res :=
  if w32 x1 ≤ w32 x7 then (q_calp (f_X10_common x3 x5 M) fun r1 =>
  if ¬ w32 x2 = 0 then (q_nzl r1 <| some ((w64 x5).tdiv (w64 r1), M))
  else (q_nzl r1 <| some ((w64 x3).tdiv (w64 r1), M)))
  else (q_al M 35 14 4 fun v2 =>
  g36 (x3 * (100 - (w32 v2))) (x5 * 100) (x7 + 1))
def f_X10_dry_L36 (x1 : Int) (x2 : Int) (M : Mem) (n : Nat) (x3 : Int) (x5 : Int) (x7 : Int) : Res := qlp3 (fun x3 x5 x7 g36 => f_X10_dry_B36 x1 x2 M x3 x5 x7 g36) n x3 x5 x7
theorem w_X10_dry_B36 (C : Cx syM p m c cX10_dry 9 s args RX10 D ad cA) (hr : meth.sig.returnType = (some .long)) (hlk : meth.locks = false)  (x1 : Int) (x2 : Int) (x3 : Int) (x5 : Int) (x7 : Int) (M : Mem) (g36 : Int → Int → Int → Res)  (ih36 : ∀ (ux3 ux5 ux7 : Int) , g36 ux3 ux5 ux7  = some (r0, M0) → WM syM p l e rm_X10_dry s m args below meth c 9 D ad cA (MQ below (q_Post syM D ad cA (some (.long (qJ r0))) M0) args s 0 0 (q_A syM ad)) M 36 [(0, .ref (ad 0)), (1, .int (qI x1)), (2, .int (qI x2)), (3, .long (qJ ux3)), (5, .long (qJ ux5)), (7, .int (qI ux7))] []) (h : f_X10_dry_B36 x1 x2 M x3 x5 x7 g36 = some (r0, M0)) : WM syM p l e rm_X10_dry s m args below meth c 9 D ad cA (MQ below (q_Post syM D ad cA (some (.long (qJ r0))) M0) args s 0 0 (q_A syM ad)) M 36 [(0, .ref (ad 0)), (1, .int (qI x1)), (2, .int (qI x2)), (3, .long (qJ x3)), (5, .long (qJ x5)), (7, .int (qI x7))] [] := by
  unfold f_X10_dry_B36 at h
  refine r_il C dX10_dry_36 (k := 5) rfl ?_
  refine r_iln C dX10_dry_38 (k := 1) rfl ?_
  refine r_cge C (tgt := 70) dX10_dry_39 (by decide) h (fun h => ?_) (fun h => ?_)
  · refine r_lln C dX10_dry_70 (k := 3) rfl ?_
    refine r_ll C dX10_dry_71 (k := 4) rfl ?_
    obtain ⟨r1, hy, h⟩ := q_calp_some h
    refine r_csl C (st := []) (c_X10_common C.2.2.1 x3 x5 M r1 hy) tm_RX10_478 mw_X10_common ⟨rfl, rfl⟩ ⟨Nat.le_of_ble_eq_true rfl, Nat.le_of_ble_eq_true rfl⟩ rfl rfl (Nat.le_of_ble_eq_true rfl) dX10_dry_73 ?_
    refine r_ls C (L1 := [(7, .long (qJ r1)), (0, .ref (ad 0)), (1, .int (qI x1)), (2, .int (qI x2)), (3, .long (qJ x3)), (5, .long (qJ x5))]) dX10_dry_76 (by decide) rfl ?_
    refine r_iln C dX10_dry_78 (k := 3) rfl ?_
    refine r_zne C (tgt := 89) dX10_dry_79 (by decide) h (fun h => ?_) (fun h => ?_)
    · refine r_ll C dX10_dry_89 (k := 5) rfl ?_
      refine r_ll C dX10_dry_91 (k := 0) rfl ?_
      refine r_ldiv C dX10_dry_93 h (fun h => ?_)
      exact r_lret C hr hlk dX10_dry_94 h
    · refine r_lln C dX10_dry_82 (k := 4) rfl ?_
      refine r_ll C dX10_dry_83 (k := 0) rfl ?_
      refine r_ldiv C dX10_dry_85 h (fun h => ?_)
      refine r_goto C (tgt := 94) dX10_dry_86 (by decide) ?_
      exact r_lret C hr hlk dX10_dry_94 h
  · refine r_lln C dX10_dry_42 (k := 3) rfl ?_
    refine r_ldc2 C (x := 100) tc_RX10_476 (by decide) dX10_dry_43 ?_
    refine r_aln C dX10_dry_46 (k := 0) rfl ?_
    refine r_gs C km_0 clX10 (f := 3) (by decide) rfl (t := 35) rfl tf_RX10_13 dX10_dry_47 ?_
    refine r_ic C dX10_dry_50 ?_
    refine r_iald C km_35 dX10_dry_51 h (fun v2 h => ?_)
    refine r_i2l C dX10_dry_52 ?_
    refine r_lsub C dX10_dry_53 ?_
    refine r_lmul C dX10_dry_54 ?_
    refine r_lsn C (L1 := [(3, .long (qJ (x3 * (100 - (w32 v2))))), (0, .ref (ad 0)), (1, .int (qI x1)), (2, .int (qI x2)), (5, .long (qJ x5)), (7, .int (qI x7))]) dX10_dry_55 (by decide) rfl ?_
    refine r_ll C dX10_dry_56 (k := 4) rfl ?_
    refine r_ldc2 C (x := 100) tc_RX10_476 (by decide) dX10_dry_58 ?_
    refine r_lmul C dX10_dry_61 ?_
    refine r_ls C (L1 := [(5, .long (qJ (x5 * 100))), (3, .long (qJ (x3 * (100 - (w32 v2))))), (0, .ref (ad 0)), (1, .int (qI x1)), (2, .int (qI x2)), (7, .int (qI x7))]) dX10_dry_62 (by decide) rfl ?_
    refine r_inc C (L1 := [(7, .int (qI (x7 + 1))), (5, .long (qJ (x5 * 100))), (3, .long (qJ (x3 * (100 - (w32 v2))))), (0, .ref (ad 0)), (1, .int (qI x1)), (2, .int (qI x2))]) dX10_dry_64 (k := 5) rfl (by decide) rfl ?_
    refine r_goto C (tgt := 36) dX10_dry_67 (by decide) ?_
    refine r_drop [3, 4, 5, 2, 1, 0] rfl ?_
    exact ih36 (x3 * (100 - (w32 v2))) (x5 * 100) (x7 + 1)  h
theorem w_X10_dry_L36 (C : Cx syM p m c cX10_dry 9 s args RX10 D ad cA) (hr : meth.sig.returnType = (some .long)) (hlk : meth.locks = false)  (x1 : Int) (x2 : Int) (M : Mem)  (n : Nat) (x3 : Int) (x5 : Int) (x7 : Int) (h : f_X10_dry_L36 x1 x2 M n x3 x5 x7 = some (r0, M0)) : WM syM p l e rm_X10_dry s m args below meth c 9 D ad cA (MQ below (q_Post syM D ad cA (some (.long (qJ r0))) M0) args s 0 0 (q_A syM ad)) M 36 [(0, .ref (ad 0)), (1, .int (qI x1)), (2, .int (qI x2)), (3, .long (qJ x3)), (5, .long (qJ x5)), (7, .int (qI x7))] [] :=
  qlp3_r (Wp := fun ux3 ux5 ux7 => WM syM p l e rm_X10_dry s m args below meth c 9 D ad cA (MQ below (q_Post syM D ad cA (some (.long (qJ r0))) M0) args s 0 0 (q_A syM ad)) M 36 [(0, .ref (ad 0)), (1, .int (qI x1)), (2, .int (qI x2)), (3, .long (qJ ux3)), (5, .long (qJ ux5)), (7, .int (qI ux7))] []) (fun ux3 ux5 ux7 g36 ih36 h => w_X10_dry_B36 C hr hlk x1 x2 ux3 ux5 ux7 M g36  ih36 h) n x3 x5 x7 h
def f_X10_dry (a0 : Int) (a1 : Int) (M : Mem) : Res :=
  q_pf M 0 0 0 fun M1 =>
  if w32 a0 < 0 then (some ((-1), M1))
  else (if w32 6 < w32 a0 then (some ((-1), M1))
  else (if w32 a1 < 0 then (some ((-1), M1))
  else (if w32 a1 ≤ w32 1 then (f_X10_dry_L36 a0 a1 M1 q_N 1 1 0)
  else (some ((-1), M1)))))
theorem c_X10_dry {l : Launch} {D : va_G} {ad : Nat → Nat} {cA : Nat → ClassId} (hi : q_inj syM ad) (a0 : Int) (a1 : Int) (M : Mem) (r0 : Int) (M0 : Mem) (h : f_X10_dry a0 a1 M = some (r0, M0)) : q_Met l syM D ad cA yX10_dry cX10_dry 9 (some .long) rm_X10_dry [.ref (ad 0), .int (qI a0), .int (qI a1)] M (some (.long (qJ r0))) M0 := by
  refine q_met (L0 := [(0, .ref (ad 0)), (1, .int (qI a0)), (2, .int (qI a1))]) hi okM (by decide) (Nat.le_of_ble_eq_true rfl) rfl ?_
  intro p e s m args below meth c C hr hlk
  unfold f_X10_dry at h
  refine r_aln C dX10_dry_0 (k := 0) rfl ?_
  refine r_ic C dX10_dry_1 ?_
  refine r_pf C km_0 clX10 (f := 0) (by decide) rfl q_dI rfl rfl tf_RX10_142 dX10_dry_2 h (fun M1 h => ?_)
  refine r_iln C dX10_dry_5 (k := 1) rfl ?_
  refine r_zlt C (tgt := 24) dX10_dry_6 (by decide) h (fun h => ?_) (fun h => ?_)
  · refine r_ldc2 C (x := (-1)) tc_RX10_474 (by decide) dX10_dry_24 ?_
    exact r_lret C hr hlk dX10_dry_27 h
  · refine r_iln C dX10_dry_9 (k := 1) rfl ?_
    refine r_bi C dX10_dry_10 (by decide) ?_
    refine r_cgt C (tgt := 24) dX10_dry_12 (by decide) h (fun h => ?_) (fun h => ?_)
    · refine r_ldc2 C (x := (-1)) tc_RX10_474 (by decide) dX10_dry_24 ?_
      exact r_lret C hr hlk dX10_dry_27 h
    · refine r_iln C dX10_dry_15 (k := 2) rfl ?_
      refine r_zlt C (tgt := 24) dX10_dry_16 (by decide) h (fun h => ?_) (fun h => ?_)
      · refine r_ldc2 C (x := (-1)) tc_RX10_474 (by decide) dX10_dry_24 ?_
        exact r_lret C hr hlk dX10_dry_27 h
      · refine r_iln C dX10_dry_19 (k := 2) rfl ?_
        refine r_ic C dX10_dry_20 ?_
        refine r_cle C (tgt := 28) dX10_dry_21 (by decide) h (fun h => ?_) (fun h => ?_)
        · refine r_lc C (x := 1) dX10_dry_28 (by decide) ?_
          refine r_lsn C (L1 := [(3, .long (qJ 1)), (0, .ref (ad 0)), (1, .int (qI a0)), (2, .int (qI a1))]) dX10_dry_29 (by decide) rfl ?_
          refine r_lc C (x := 1) dX10_dry_30 (by decide) ?_
          refine r_ls C (L1 := [(5, .long (qJ 1)), (3, .long (qJ 1)), (0, .ref (ad 0)), (1, .int (qI a0)), (2, .int (qI a1))]) dX10_dry_31 (by decide) rfl ?_
          refine r_ic C dX10_dry_33 ?_
          refine r_is C (L1 := [(7, .int (qI 0)), (5, .long (qJ 1)), (3, .long (qJ 1)), (0, .ref (ad 0)), (1, .int (qI a0)), (2, .int (qI a1))]) dX10_dry_34 (by decide) rfl ?_
          refine r_drop [3, 4, 5, 2, 1, 0] rfl ?_
          exact w_X10_dry_L36 C hr hlk a0 a1 M1  q_N 1 1 0 h
        · refine r_ldc2 C (x := (-1)) tc_RX10_474 (by decide) dX10_dry_24 ?_
          exact r_lret C hr hlk dX10_dry_27 h
abbrev rm_X10_empty : Room := { frames := 6, cells := 0, slots := 0, locals := 145 }
theorem mw_X10_empty : q_mw RX10 yX10_empty cX10_empty 2 (some .int) 0 := ⟨⟨ti_X10_empty, tl_X10_empty, tn_RX10, td_X10_empty⟩, by decide +kernel⟩
def f_X10_empty_J40 (g13 : Int → Mem → Res) (x1 : Int) (M : Mem) : Res :=
  q_call (f_X10_passes 1 0 M) fun r1 M2 =>
  g13 (x1 + 1) M2
theorem w_X10_empty_J40 (C : Cx syM p m c cX10_empty 2 s args RX10 D ad cA) (hr : meth.sig.returnType = (some .int)) (hlk : meth.locks = false) (g13 : Int → Mem → Res) (x1 : Int) (M : Mem) (ih13 : ∀ (ux1 : Int) (M : Mem), g13 ux1 M = some (r0, M0) → WM syM p l e rm_X10_empty s m args below meth c 2 D ad cA (MQ below (q_Post syM D ad cA (some (.int (qI r0))) M0) args s 0 0 (q_A syM ad)) M 13 [(0, .ref (ad 0)), (1, .int (qI ux1))] []) (h : f_X10_empty_J40 g13 x1 M = some (r0, M0)) : WM syM p l e rm_X10_empty s m args below meth c 2 D ad cA (MQ below (q_Post syM D ad cA (some (.int (qI r0))) M0) args s 0 0 (q_A syM ad)) M 40 [(0, .ref (ad 0)), (1, .int (qI x1))] [] := by
  unfold f_X10_empty_J40 at h
  refine r_aln C dX10_empty_40 (k := 0) rfl ?_
  refine r_ic C dX10_empty_41 ?_
  refine r_ic C dX10_empty_42 ?_
  obtain ⟨r1, M2, hy, h⟩ := q_call_some h
  refine r_cvv C (st := []) (c_X10_passes C.2.2.1 1 0 M r1 M2 hy) tm_RX10_401 mw_X10_passes ⟨rfl, rfl⟩ ⟨Nat.le_of_ble_eq_true rfl, Nat.le_of_ble_eq_true rfl⟩ km_0 clX10 rfl rfl (Nat.le_of_ble_eq_true rfl) dX10_empty_43 ?_
  refine r_inc C (L1 := [(1, .int (qI (x1 + 1))), (0, .ref (ad 0))]) dX10_empty_46 (k := 1) rfl (by decide) rfl ?_
  refine r_goto C (tgt := 13) dX10_empty_49 (by decide) ?_
  refine r_drop [1, 0] rfl ?_
  exact ih13 (x1 + 1) M2 h
def f_X10_empty_B13  (x1 : Int) (M : Mem) (g13 : Int → Mem → Res) : Res :=
  if w32 199 < w32 x1 then (some ((-2), M))
  else (q_al M 69 23 1 fun v1 =>
  if ¬ w32 v1 = 0 then (f_X10_empty_J40 g13 x1 M)
  else (q_calp (f_X10_soulsOf 1 0 M) fun r2 =>
  if ¬ w32 r2 = 0 then (f_X10_empty_J40 g13 x1 M)
  else (some (x1, M))))
def f_X10_empty_L13  (n : Nat) (x1 : Int) (M : Mem) : Res := qlm1 (fun x1 M g13 => f_X10_empty_B13  x1 M g13) n x1 M
theorem w_X10_empty_B13 (C : Cx syM p m c cX10_empty 2 s args RX10 D ad cA) (hr : meth.sig.returnType = (some .int)) (hlk : meth.locks = false)  (x1 : Int) (M : Mem) (g13 : Int → Mem → Res)  (ih13 : ∀ (ux1 : Int) (M : Mem), g13 ux1 M = some (r0, M0) → WM syM p l e rm_X10_empty s m args below meth c 2 D ad cA (MQ below (q_Post syM D ad cA (some (.int (qI r0))) M0) args s 0 0 (q_A syM ad)) M 13 [(0, .ref (ad 0)), (1, .int (qI ux1))] []) (h : f_X10_empty_B13  x1 M g13 = some (r0, M0)) : WM syM p l e rm_X10_empty s m args below meth c 2 D ad cA (MQ below (q_Post syM D ad cA (some (.int (qI r0))) M0) args s 0 0 (q_A syM ad)) M 13 [(0, .ref (ad 0)), (1, .int (qI x1))] [] := by
  unfold f_X10_empty_B13 at h
  refine r_iln C dX10_empty_13 (k := 1) rfl ?_
  refine r_si C dX10_empty_14 (by decide) ?_
  refine r_cgt C (tgt := 52) dX10_empty_17 (by decide) h (fun h => ?_) (fun h => ?_)
  · refine r_bi C dX10_empty_52 (by decide) ?_
    exact r_iret C hr hlk dX10_empty_54 h
  · refine r_aln C dX10_empty_20 (k := 0) rfl ?_
    refine r_gs C km_0 clX10 (f := 37) (by decide) rfl (t := 69) rfl tf_RX10_78 dX10_empty_21 ?_
    refine r_ic C dX10_empty_24 ?_
    refine r_iald C km_69 dX10_empty_25 h (fun v1 h => ?_)
    refine r_zne C (tgt := 40) dX10_empty_26 (by decide) h (fun h => ?_) (fun h => ?_)
    · exact w_X10_empty_J40 C hr hlk g13 x1 M ih13 h
    · refine r_aln C dX10_empty_29 (k := 0) rfl ?_
      refine r_ic C dX10_empty_30 ?_
      refine r_ic C dX10_empty_31 ?_
      obtain ⟨r2, hy, h⟩ := q_calp_some h
      refine r_cvi C (st := []) (c_X10_soulsOf C.2.2.1 1 0 M r2 hy) tm_RX10_436 mw_X10_soulsOf ⟨rfl, rfl⟩ ⟨Nat.le_of_ble_eq_true rfl, Nat.le_of_ble_eq_true rfl⟩ km_0 clX10 rfl rfl (Nat.le_of_ble_eq_true rfl) dX10_empty_32 ?_
      refine r_zne C (tgt := 40) dX10_empty_35 (by decide) h (fun h => ?_) (fun h => ?_)
      · exact w_X10_empty_J40 C hr hlk g13 x1 M ih13 h
      · refine r_iln C dX10_empty_38 (k := 1) rfl ?_
        exact r_iret C hr hlk dX10_empty_39 h
theorem w_X10_empty_L13 (C : Cx syM p m c cX10_empty 2 s args RX10 D ad cA) (hr : meth.sig.returnType = (some .int)) (hlk : meth.locks = false)    (n : Nat) (x1 : Int) (M : Mem) (h : f_X10_empty_L13  n x1 M = some (r0, M0)) : WM syM p l e rm_X10_empty s m args below meth c 2 D ad cA (MQ below (q_Post syM D ad cA (some (.int (qI r0))) M0) args s 0 0 (q_A syM ad)) M 13 [(0, .ref (ad 0)), (1, .int (qI x1))] [] :=
  qlm1_r (Wp := fun ux1 M => WM syM p l e rm_X10_empty s m args below meth c 2 D ad cA (MQ below (q_Post syM D ad cA (some (.int (qI r0))) M0) args s 0 0 (q_A syM ad)) M 13 [(0, .ref (ad 0)), (1, .int (qI ux1))] []) (fun ux1 M g13 ih13 h => w_X10_empty_B13 C hr hlk  ux1 M g13  ih13 h) n x1 M h
def f_X10_empty  (M : Mem) : Res :=
  q_pf M 0 0 0 fun M1 =>
  q_call (f_X10_copies 1 0 M1) fun r2 M3 =>
  f_X10_empty_L13  q_N 0 M3
theorem c_X10_empty {l : Launch} {D : va_G} {ad : Nat → Nat} {cA : Nat → ClassId} (hi : q_inj syM ad)  (M : Mem) (r0 : Int) (M0 : Mem) (h : f_X10_empty  M = some (r0, M0)) : q_Met l syM D ad cA yX10_empty cX10_empty 2 (some .int) rm_X10_empty [.ref (ad 0)] M (some (.int (qI r0))) M0 := by
  refine q_met (L0 := [(0, .ref (ad 0))]) hi okM (by decide) (Nat.le_of_ble_eq_true rfl) rfl ?_
  intro p e s m args below meth c C hr hlk
  unfold f_X10_empty at h
  refine r_aln C dX10_empty_0 (k := 0) rfl ?_
  refine r_ic C dX10_empty_1 ?_
  refine r_pf C km_0 clX10 (f := 0) (by decide) rfl q_dI rfl rfl tf_RX10_142 dX10_empty_2 h (fun M1 h => ?_)
  refine r_aln C dX10_empty_5 (k := 0) rfl ?_
  refine r_ic C dX10_empty_6 ?_
  refine r_ic C dX10_empty_7 ?_
  obtain ⟨r2, M3, hy, h⟩ := q_call_some h
  refine r_cvv C (st := []) (c_X10_copies C.2.2.1 1 0 M1 r2 M3 hy) tm_RX10_405 mw_X10_copies ⟨rfl, rfl⟩ ⟨Nat.le_of_ble_eq_true rfl, Nat.le_of_ble_eq_true rfl⟩ km_0 clX10 rfl rfl (Nat.le_of_ble_eq_true rfl) dX10_empty_8 ?_
  refine r_ic C dX10_empty_11 ?_
  refine r_isn C (L1 := [(1, .int (qI 0)), (0, .ref (ad 0))]) dX10_empty_12 (by decide) rfl ?_
  refine r_drop [1, 0] rfl ?_
  exact w_X10_empty_L13 C hr hlk   q_N 0 M3 h
abbrev rm_X10_everies : Room := { frames := 8, cells := 0, slots := 0, locals := 191 }
theorem mw_X10_everies : q_mw RX10 yX10_everies cX10_everies 2 (some .int) 1 := ⟨⟨ti_X10_everies, tl_X10_everies, tn_RX10, td_X10_everies⟩, by decide +kernel⟩
def f_X10_everies (a0 : Int) (M : Mem) : Res :=
  q_pf M 0 0 0 fun M1 =>
  q_calp (f_X10_isBus a0 M1) fun r2 =>
  if w32 r2 = 0 then (some ((-1), M1))
  else (q_call (f_X10_everiesOf a0 M1) fun r3 M4 =>
  some (r3, M4))
theorem c_X10_everies {l : Launch} {D : va_G} {ad : Nat → Nat} {cA : Nat → ClassId} (hi : q_inj syM ad) (a0 : Int) (M : Mem) (r0 : Int) (M0 : Mem) (h : f_X10_everies a0 M = some (r0, M0)) : q_Met l syM D ad cA yX10_everies cX10_everies 2 (some .int) rm_X10_everies [.ref (ad 0), .int (qI a0)] M (some (.int (qI r0))) M0 := by
  refine q_met (L0 := [(0, .ref (ad 0)), (1, .int (qI a0))]) hi okM (by decide) (Nat.le_of_ble_eq_true rfl) rfl ?_
  intro p e s m args below meth c C hr hlk
  unfold f_X10_everies at h
  refine r_aln C dX10_everies_0 (k := 0) rfl ?_
  refine r_ic C dX10_everies_1 ?_
  refine r_pf C km_0 clX10 (f := 0) (by decide) rfl q_dI rfl rfl tf_RX10_142 dX10_everies_2 h (fun M1 h => ?_)
  refine r_aln C dX10_everies_5 (k := 0) rfl ?_
  refine r_iln C dX10_everies_6 (k := 1) rfl ?_
  obtain ⟨r2, hy, h⟩ := q_calp_some h
  refine r_cvi C (st := []) (c_X10_isBus C.2.2.1 a0 M1 r2 hy) tm_RX10_420 mw_X10_isBus ⟨rfl, rfl⟩ ⟨Nat.le_of_ble_eq_true rfl, Nat.le_of_ble_eq_true rfl⟩ km_0 clX10 rfl rfl (Nat.le_of_ble_eq_true rfl) dX10_everies_7 ?_
  refine r_zeq C (tgt := 21) dX10_everies_10 (by decide) h (fun h => ?_) (fun h => ?_)
  · refine r_ic C dX10_everies_21 ?_
    exact r_iret C hr hlk dX10_everies_22 h
  · refine r_aln C dX10_everies_13 (k := 0) rfl ?_
    refine r_iln C dX10_everies_14 (k := 1) rfl ?_
    obtain ⟨r3, M4, hy, h⟩ := q_call_some h
    refine r_cvi C (st := []) (c_X10_everiesOf C.2.2.1 a0 M1 r3 M4 hy) tm_RX10_490 mw_X10_everiesOf ⟨rfl, rfl⟩ ⟨Nat.le_of_ble_eq_true rfl, Nat.le_of_ble_eq_true rfl⟩ km_0 clX10 rfl rfl (Nat.le_of_ble_eq_true rfl) dX10_everies_15 ?_
    refine r_goto C (tgt := 22) dX10_everies_18 (by decide) ?_
    exact r_iret C hr hlk dX10_everies_22 h
abbrev rm_X10_fault : Room := { frames := 0, cells := 0, slots := 0, locals := 0 }
theorem mw_X10_fault : q_mw RX10 yX10_fault cX10_fault 2 (some .int) 1 := ⟨⟨ti_X10_fault, tl_X10_fault, tn_RX10, td_X10_fault⟩, by decide +kernel⟩
def f_X10_fault (a0 : Int) (M : Mem) : Res :=
  q_pf M 0 0 0 fun M1 =>
  if ¬ w32 a0 = 0 then (if ¬ w32 a0 = w32 1 then (some ((-1), M1))
  else (q_gf M1 0 29 fun v2 =>
  some (v2, M1)))
  else (q_gf M1 0 28 fun v3 =>
  some (v3, M1))
theorem c_X10_fault {l : Launch} {D : va_G} {ad : Nat → Nat} {cA : Nat → ClassId} (hi : q_inj syM ad) (a0 : Int) (M : Mem) (r0 : Int) (M0 : Mem) (h : f_X10_fault a0 M = some (r0, M0)) : q_Met l syM D ad cA yX10_fault cX10_fault 2 (some .int) rm_X10_fault [.ref (ad 0), .int (qI a0)] M (some (.int (qI r0))) M0 := by
  refine q_met (L0 := [(0, .ref (ad 0)), (1, .int (qI a0))]) hi okM (by decide) (Nat.le_of_ble_eq_true rfl) rfl ?_
  intro p e s m args below meth c C hr hlk
  unfold f_X10_fault at h
  refine r_aln C dX10_fault_0 (k := 0) rfl ?_
  refine r_ic C dX10_fault_1 ?_
  refine r_pf C km_0 clX10 (f := 0) (by decide) rfl q_dI rfl rfl tf_RX10_142 dX10_fault_2 h (fun M1 h => ?_)
  refine r_iln C dX10_fault_5 (k := 1) rfl ?_
  refine r_zne C (tgt := 16) dX10_fault_6 (by decide) h (fun h => ?_) (fun h => ?_)
  · refine r_iln C dX10_fault_16 (k := 1) rfl ?_
    refine r_ic C dX10_fault_17 ?_
    refine r_cne C (tgt := 28) dX10_fault_18 (by decide) h (fun h => ?_) (fun h => ?_)
    · refine r_ic C dX10_fault_28 ?_
      exact r_iret C hr hlk dX10_fault_29 h
    · refine r_aln C dX10_fault_21 (k := 0) rfl ?_
      refine r_gf C km_0 clX10 (f := 29) (by decide) rfl rfl rfl tf_RX10_61 dX10_fault_22 h (fun v2 h => ?_)
      refine r_goto C (tgt := 29) dX10_fault_25 (by decide) ?_
      exact r_iret C hr hlk dX10_fault_29 h
  · refine r_aln C dX10_fault_9 (k := 0) rfl ?_
    refine r_gf C km_0 clX10 (f := 28) (by decide) rfl rfl rfl tf_RX10_288 dX10_fault_10 h (fun v3 h => ?_)
    refine r_goto C (tgt := 29) dX10_fault_13 (by decide) ?_
    exact r_iret C hr hlk dX10_fault_29 h
abbrev rm_X10_feed : Room := { frames := 0, cells := 0, slots := 0, locals := 0 }
theorem mw_X10_feed : q_mw RX10 yX10_feed cX10_feed 8 (some .int) 5 := ⟨⟨ti_X10_feed, tl_X10_feed, tn_RX10, td_X10_feed⟩, by decide +kernel⟩
def f_X10_feed_J73 (g20 : Int → Mem → Res) (x1 : Int) (x2 : Int) (x3 : Int) (x4 : Int) (x5 : Int) (x6 : Int) (y0 : Int) (M : Mem) : Res :=
  q_gf M 0 2 fun v1 =>
  q_nz 4 <| q_as M 33 700 (v1 + x6) (q_and (q_shr y0 (24 - (8 * ((w32 x6).tmod (w32 4))))) 255) fun M2 =>
  g20 (x6 + 1) M2
theorem w_X10_feed_J73 (C : Cx syM p m c cX10_feed 8 s args RX10 D ad cA) (hr : meth.sig.returnType = (some .int)) (hlk : meth.locks = false) (g20 : Int → Mem → Res) (x1 : Int) (x2 : Int) (x3 : Int) (x4 : Int) (x5 : Int) (x6 : Int) (y0 : Int) (M : Mem) (ih20 : ∀ (ux6 : Int) (M : Mem), g20 ux6 M = some (r0, M0) → WM syM p l e rm_X10_feed s m args below meth c 8 D ad cA (MQ below (q_Post syM D ad cA (some (.int (qI r0))) M0) args s 0 0 (q_A syM ad)) M 20 [(0, .ref (ad 0)), (1, .int (qI x1)), (2, .int (qI x2)), (3, .int (qI x3)), (4, .int (qI x4)), (5, .int (qI x5)), (6, .int (qI ux6))] []) (h : f_X10_feed_J73 g20 x1 x2 x3 x4 x5 x6 y0 M = some (r0, M0)) : WM syM p l e rm_X10_feed s m args below meth c 8 D ad cA (MQ below (q_Post syM D ad cA (some (.int (qI r0))) M0) args s 0 0 (q_A syM ad)) M 73 [(0, .ref (ad 0)), (1, .int (qI x1)), (2, .int (qI x2)), (3, .int (qI x3)), (4, .int (qI x4)), (5, .int (qI x5)), (6, .int (qI x6))] [.int (qI y0)] := by
  unfold f_X10_feed_J73 at h
  refine r_is C (L1 := [(7, .int (qI y0)), (0, .ref (ad 0)), (1, .int (qI x1)), (2, .int (qI x2)), (3, .int (qI x3)), (4, .int (qI x4)), (5, .int (qI x5)), (6, .int (qI x6))]) dX10_feed_73 (by decide) rfl ?_
  refine r_aln C dX10_feed_75 (k := 1) rfl ?_
  refine r_gs C km_0 clX10 (f := 1) (by decide) rfl (t := 33) rfl tf_RX10_7 dX10_feed_76 ?_
  refine r_aln C dX10_feed_79 (k := 1) rfl ?_
  refine r_gf C km_0 clX10 (f := 2) (by decide) rfl rfl rfl tf_RX10_145 dX10_feed_80 h (fun v1 h => ?_)
  refine r_il C dX10_feed_83 (k := 7) rfl ?_
  refine r_iadd C dX10_feed_85 ?_
  refine r_il C dX10_feed_86 (k := 0) rfl ?_
  refine r_bi C dX10_feed_88 (by decide) ?_
  refine r_bi C dX10_feed_90 (by decide) ?_
  refine r_il C dX10_feed_92 (k := 7) rfl ?_
  refine r_ic C dX10_feed_94 ?_
  refine r_irem C dX10_feed_95 h (fun h => ?_)
  refine r_imul C dX10_feed_96 ?_
  refine r_isub C dX10_feed_97 ?_
  refine r_ishr C dX10_feed_98 ?_
  refine r_si C dX10_feed_99 (by decide) ?_
  refine r_iand C dX10_feed_102 ?_
  refine r_iast C km_33 dX10_feed_103 h (fun M2 h => ?_)
  refine r_inc C (L1 := [(6, .int (qI (x6 + 1))), (7, .int (qI y0)), (0, .ref (ad 0)), (1, .int (qI x1)), (2, .int (qI x2)), (3, .int (qI x3)), (4, .int (qI x4)), (5, .int (qI x5))]) dX10_feed_104 (k := 7) rfl (by decide) rfl ?_
  refine r_goto C (tgt := 20) dX10_feed_107 (by decide) ?_
  refine r_drop [2, 3, 4, 5, 6, 7, 0] rfl ?_
  exact ih20 (x6 + 1) M2 h
def f_X10_feed_B20 (x1 : Int) (x2 : Int) (x3 : Int) (x4 : Int) (x5 : Int) (x6 : Int) (M : Mem) (g20 : Int → Mem → Res) : Res :=
  if w32 20 ≤ w32 x6 then (q_gf M 0 2 fun v1 =>
  q_pf M 0 2 (v1 + 20) fun M2 =>
  q_gf M2 0 2 fun v3 =>
  some (v3, M2))
  else (if w32 4 ≤ w32 x6 then (if w32 8 ≤ w32 x6 then (if w32 12 ≤ w32 x6 then (if w32 16 ≤ w32 x6 then (f_X10_feed_J73 g20 x1 x2 x3 x4 x5 x6 x5 M)
  else (f_X10_feed_J73 g20 x1 x2 x3 x4 x5 x6 x4 M))
  else (f_X10_feed_J73 g20 x1 x2 x3 x4 x5 x6 x3 M))
  else (f_X10_feed_J73 g20 x1 x2 x3 x4 x5 x6 x2 M))
  else (f_X10_feed_J73 g20 x1 x2 x3 x4 x5 x6 x1 M))
def f_X10_feed_L20 (x1 : Int) (x2 : Int) (x3 : Int) (x4 : Int) (x5 : Int) (n : Nat) (x6 : Int) (M : Mem) : Res := qlm1 (fun x6 M g20 => f_X10_feed_B20 x1 x2 x3 x4 x5 x6 M g20) n x6 M
theorem w_X10_feed_B20 (C : Cx syM p m c cX10_feed 8 s args RX10 D ad cA) (hr : meth.sig.returnType = (some .int)) (hlk : meth.locks = false)  (x1 : Int) (x2 : Int) (x3 : Int) (x4 : Int) (x5 : Int) (x6 : Int) (M : Mem) (g20 : Int → Mem → Res)  (ih20 : ∀ (ux6 : Int) (M : Mem), g20 ux6 M = some (r0, M0) → WM syM p l e rm_X10_feed s m args below meth c 8 D ad cA (MQ below (q_Post syM D ad cA (some (.int (qI r0))) M0) args s 0 0 (q_A syM ad)) M 20 [(0, .ref (ad 0)), (1, .int (qI x1)), (2, .int (qI x2)), (3, .int (qI x3)), (4, .int (qI x4)), (5, .int (qI x5)), (6, .int (qI ux6))] []) (h : f_X10_feed_B20 x1 x2 x3 x4 x5 x6 M g20 = some (r0, M0)) : WM syM p l e rm_X10_feed s m args below meth c 8 D ad cA (MQ below (q_Post syM D ad cA (some (.int (qI r0))) M0) args s 0 0 (q_A syM ad)) M 20 [(0, .ref (ad 0)), (1, .int (qI x1)), (2, .int (qI x2)), (3, .int (qI x3)), (4, .int (qI x4)), (5, .int (qI x5)), (6, .int (qI x6))] [] := by
  unfold f_X10_feed_B20 at h
  refine r_il C dX10_feed_20 (k := 6) rfl ?_
  refine r_bi C dX10_feed_22 (by decide) ?_
  refine r_cge C (tgt := 110) dX10_feed_24 (by decide) h (fun h => ?_) (fun h => ?_)
  · refine r_aln C dX10_feed_110 (k := 0) rfl ?_
    refine r_dup C rfl dX10_feed_111 ?_
    refine r_gf C km_0 clX10 (f := 2) (by decide) rfl rfl rfl tf_RX10_145 dX10_feed_112 h (fun v1 h => ?_)
    refine r_bi C dX10_feed_115 (by decide) ?_
    refine r_iadd C dX10_feed_117 ?_
    refine r_pf C km_0 clX10 (f := 2) (by decide) rfl q_dI rfl rfl tf_RX10_145 dX10_feed_118 h (fun M2 h => ?_)
    refine r_aln C dX10_feed_121 (k := 0) rfl ?_
    refine r_gf C km_0 clX10 (f := 2) (by decide) rfl rfl rfl tf_RX10_145 dX10_feed_122 h (fun v3 h => ?_)
    exact r_iret C hr hlk dX10_feed_125 h
  · refine r_il C dX10_feed_27 (k := 6) rfl ?_
    refine r_ic C dX10_feed_29 ?_
    refine r_cge C (tgt := 37) dX10_feed_30 (by decide) h (fun h => ?_) (fun h => ?_)
    · refine r_il C dX10_feed_37 (k := 6) rfl ?_
      refine r_bi C dX10_feed_39 (by decide) ?_
      refine r_cge C (tgt := 48) dX10_feed_41 (by decide) h (fun h => ?_) (fun h => ?_)
      · refine r_il C dX10_feed_48 (k := 6) rfl ?_
        refine r_bi C dX10_feed_50 (by decide) ?_
        refine r_cge C (tgt := 59) dX10_feed_52 (by decide) h (fun h => ?_) (fun h => ?_)
        · refine r_il C dX10_feed_59 (k := 6) rfl ?_
          refine r_bi C dX10_feed_61 (by decide) ?_
          refine r_cge C (tgt := 71) dX10_feed_63 (by decide) h (fun h => ?_) (fun h => ?_)
          · refine r_il C dX10_feed_71 (k := 5) rfl ?_
            exact w_X10_feed_J73 C hr hlk g20 x1 x2 x3 x4 x5 x6 x5 M ih20 h
          · refine r_il C dX10_feed_66 (k := 4) rfl ?_
            refine r_goto C (tgt := 73) dX10_feed_68 (by decide) ?_
            exact w_X10_feed_J73 C hr hlk g20 x1 x2 x3 x4 x5 x6 x4 M ih20 h
        · refine r_iln C dX10_feed_55 (k := 3) rfl ?_
          refine r_goto C (tgt := 73) dX10_feed_56 (by decide) ?_
          exact w_X10_feed_J73 C hr hlk g20 x1 x2 x3 x4 x5 x6 x3 M ih20 h
      · refine r_iln C dX10_feed_44 (k := 2) rfl ?_
        refine r_goto C (tgt := 73) dX10_feed_45 (by decide) ?_
        exact w_X10_feed_J73 C hr hlk g20 x1 x2 x3 x4 x5 x6 x2 M ih20 h
    · refine r_iln C dX10_feed_33 (k := 1) rfl ?_
      refine r_goto C (tgt := 73) dX10_feed_34 (by decide) ?_
      exact w_X10_feed_J73 C hr hlk g20 x1 x2 x3 x4 x5 x6 x1 M ih20 h
theorem w_X10_feed_L20 (C : Cx syM p m c cX10_feed 8 s args RX10 D ad cA) (hr : meth.sig.returnType = (some .int)) (hlk : meth.locks = false)  (x1 : Int) (x2 : Int) (x3 : Int) (x4 : Int) (x5 : Int)  (n : Nat) (x6 : Int) (M : Mem) (h : f_X10_feed_L20 x1 x2 x3 x4 x5 n x6 M = some (r0, M0)) : WM syM p l e rm_X10_feed s m args below meth c 8 D ad cA (MQ below (q_Post syM D ad cA (some (.int (qI r0))) M0) args s 0 0 (q_A syM ad)) M 20 [(0, .ref (ad 0)), (1, .int (qI x1)), (2, .int (qI x2)), (3, .int (qI x3)), (4, .int (qI x4)), (5, .int (qI x5)), (6, .int (qI x6))] [] :=
  qlm1_r (Wp := fun ux6 M => WM syM p l e rm_X10_feed s m args below meth c 8 D ad cA (MQ below (q_Post syM D ad cA (some (.int (qI r0))) M0) args s 0 0 (q_A syM ad)) M 20 [(0, .ref (ad 0)), (1, .int (qI x1)), (2, .int (qI x2)), (3, .int (qI x3)), (4, .int (qI x4)), (5, .int (qI x5)), (6, .int (qI ux6))] []) (fun ux6 M g20 ih20 h => w_X10_feed_B20 C hr hlk x1 x2 x3 x4 x5 ux6 M g20  ih20 h) n x6 M h
def f_X10_feed (a0 : Int) (a1 : Int) (a2 : Int) (a3 : Int) (a4 : Int) (M : Mem) : Res :=
  q_pf M 0 0 0 fun M1 =>
  q_gf M1 0 2 fun v2 =>
  if w32 v2 ≤ w32 680 then (f_X10_feed_L20 a0 a1 a2 a3 a4 q_N 0 M1)
  else (some ((-1), M1))
theorem c_X10_feed {l : Launch} {D : va_G} {ad : Nat → Nat} {cA : Nat → ClassId} (hi : q_inj syM ad) (a0 : Int) (a1 : Int) (a2 : Int) (a3 : Int) (a4 : Int) (M : Mem) (r0 : Int) (M0 : Mem) (h : f_X10_feed a0 a1 a2 a3 a4 M = some (r0, M0)) : q_Met l syM D ad cA yX10_feed cX10_feed 8 (some .int) rm_X10_feed [.ref (ad 0), .int (qI a0), .int (qI a1), .int (qI a2), .int (qI a3), .int (qI a4)] M (some (.int (qI r0))) M0 := by
  refine q_met (L0 := [(0, .ref (ad 0)), (1, .int (qI a0)), (2, .int (qI a1)), (3, .int (qI a2)), (4, .int (qI a3)), (5, .int (qI a4))]) hi okM (by decide) (Nat.le_of_ble_eq_true rfl) rfl ?_
  intro p e s m args below meth c C hr hlk
  unfold f_X10_feed at h
  refine r_aln C dX10_feed_0 (k := 0) rfl ?_
  refine r_ic C dX10_feed_1 ?_
  refine r_pf C km_0 clX10 (f := 0) (by decide) rfl q_dI rfl rfl tf_RX10_142 dX10_feed_2 h (fun M1 h => ?_)
  refine r_aln C dX10_feed_5 (k := 0) rfl ?_
  refine r_gf C km_0 clX10 (f := 2) (by decide) rfl rfl rfl tf_RX10_145 dX10_feed_6 h (fun v2 h => ?_)
  refine r_si C dX10_feed_9 (by decide) ?_
  refine r_cle C (tgt := 17) dX10_feed_12 (by decide) h (fun h => ?_) (fun h => ?_)
  · refine r_ic C dX10_feed_17 ?_
    refine r_is C (L1 := [(6, .int (qI 0)), (0, .ref (ad 0)), (1, .int (qI a0)), (2, .int (qI a1)), (3, .int (qI a2)), (4, .int (qI a3)), (5, .int (qI a4))]) dX10_feed_18 (by decide) rfl ?_
    refine r_drop [1, 2, 3, 4, 5, 6, 0] rfl ?_
    exact w_X10_feed_L20 C hr hlk a0 a1 a2 a3 a4  q_N 0 M1 h
  · refine r_ic C dX10_feed_15 ?_
    exact r_iret C hr hlk dX10_feed_16 h
abbrev rm_X10_found : Room := { frames := 0, cells := 0, slots := 0, locals := 0 }
theorem mw_X10_found : q_ms yX10_found cX10_found 5 (some .int) 4 := ⟨⟨ts_X10_found, tn_RX10, td_X10_found⟩, by decide +kernel⟩
def f_X10_found_B3 (n0 : Nat) (l0 : Nat) (x1 : Int) (x2 : Int) (x3 : Int) (M : Mem) (x4 : Int) (g3 : Int → Option Int) : Option Int :=
  if w32 x2 ≤ w32 x4 then (some (-1))
  else (q_al M n0 l0 (x1 + x4) fun v1 =>
  if ¬ w32 v1 = w32 x3 then (g3 (x4 + 1))
  else (some x4))
def f_X10_found_L3 (n0 : Nat) (l0 : Nat) (x1 : Int) (x2 : Int) (x3 : Int) (M : Mem) (n : Nat) (x4 : Int) : Option Int := qlp1 (fun x4 g3 => f_X10_found_B3 n0 l0 x1 x2 x3 M x4 g3) n x4
theorem w_X10_found_B3 (C : Cx syM p m c cX10_found 5 s args RX10 D ad cA) (hr : meth.sig.returnType = (some .int)) (hlk : meth.locks = false) (n0 : Nat) (l0 : Nat) (hn0 : syM.1 n0 = (2, l0)) (x1 : Int) (x2 : Int) (x3 : Int) (x4 : Int) (M : Mem) (g3 : Int → Option Int)  (ih3 : ∀ (ux4 : Int) , g3 ux4  = some r0 → WM syM p l e rm_X10_found s m args below meth c 5 D ad cA (MQ below (q_Post syM D ad cA (some (.int (qI r0))) M) args s 0 0 (q_A syM ad)) M 3 [(0, .ref (ad n0)), (1, .int (qI x1)), (2, .int (qI x2)), (3, .int (qI x3)), (4, .int (qI ux4))] []) (h : f_X10_found_B3 n0 l0 x1 x2 x3 M x4 g3 = some r0) : WM syM p l e rm_X10_found s m args below meth c 5 D ad cA (MQ below (q_Post syM D ad cA (some (.int (qI r0))) M) args s 0 0 (q_A syM ad)) M 3 [(0, .ref (ad n0)), (1, .int (qI x1)), (2, .int (qI x2)), (3, .int (qI x3)), (4, .int (qI x4))] [] := by
  unfold f_X10_found_B3 at h
  refine r_il C dX10_found_3 (k := 4) rfl ?_
  refine r_iln C dX10_found_5 (k := 2) rfl ?_
  refine r_cge C (tgt := 28) dX10_found_6 (by decide) h (fun h => ?_) (fun h => ?_)
  · refine r_ic C dX10_found_28 ?_
    exact r_iretp C hr hlk dX10_found_29 h
  · refine r_aln C dX10_found_9 (k := 0) rfl ?_
    refine r_iln C dX10_found_10 (k := 1) rfl ?_
    refine r_il C dX10_found_11 (k := 4) rfl ?_
    refine r_iadd C dX10_found_13 ?_
    refine r_iald C hn0 dX10_found_14 h (fun v1 h => ?_)
    refine r_iln C dX10_found_15 (k := 3) rfl ?_
    refine r_cne C (tgt := 22) dX10_found_16 (by decide) h (fun h => ?_) (fun h => ?_)
    · refine r_inc C (L1 := [(4, .int (qI (x4 + 1))), (0, .ref (ad n0)), (1, .int (qI x1)), (2, .int (qI x2)), (3, .int (qI x3))]) dX10_found_22 (k := 4) rfl (by decide) rfl ?_
      refine r_goto C (tgt := 3) dX10_found_25 (by decide) ?_
      refine r_drop [1, 2, 3, 4, 0] rfl ?_
      exact ih3 (x4 + 1)  h
    · refine r_il C dX10_found_19 (k := 4) rfl ?_
      exact r_iretp C hr hlk dX10_found_21 h
theorem w_X10_found_L3 (C : Cx syM p m c cX10_found 5 s args RX10 D ad cA) (hr : meth.sig.returnType = (some .int)) (hlk : meth.locks = false) (n0 : Nat) (l0 : Nat) (hn0 : syM.1 n0 = (2, l0)) (x1 : Int) (x2 : Int) (x3 : Int) (M : Mem)  (n : Nat) (x4 : Int) (h : f_X10_found_L3 n0 l0 x1 x2 x3 M n x4 = some r0) : WM syM p l e rm_X10_found s m args below meth c 5 D ad cA (MQ below (q_Post syM D ad cA (some (.int (qI r0))) M) args s 0 0 (q_A syM ad)) M 3 [(0, .ref (ad n0)), (1, .int (qI x1)), (2, .int (qI x2)), (3, .int (qI x3)), (4, .int (qI x4))] [] :=
  qlp1_r (Wp := fun ux4 => WM syM p l e rm_X10_found s m args below meth c 5 D ad cA (MQ below (q_Post syM D ad cA (some (.int (qI r0))) M) args s 0 0 (q_A syM ad)) M 3 [(0, .ref (ad n0)), (1, .int (qI x1)), (2, .int (qI x2)), (3, .int (qI x3)), (4, .int (qI ux4))] []) (fun ux4 g3 ih3 h => w_X10_found_B3 C hr hlk n0 l0 hn0 x1 x2 x3 ux4 M g3  ih3 h) n x4 h
def f_X10_found (n0 : Nat) (l0 : Nat) (a1 : Int) (a2 : Int) (a3 : Int) (M : Mem) : Option Int :=
  f_X10_found_L3 n0 l0 a1 a2 a3 M q_N 0
theorem c_X10_found {l : Launch} {D : va_G} {ad : Nat → Nat} {cA : Nat → ClassId} (hi : q_inj syM ad) (n0 : Nat) (l0 : Nat) (hn0 : syM.1 n0 = (2, l0)) (a1 : Int) (a2 : Int) (a3 : Int) (M : Mem) (r0 : Int) (h : f_X10_found n0 l0 a1 a2 a3 M = some r0) : q_Met l syM D ad cA yX10_found cX10_found 5 (some .int) rm_X10_found [.ref (ad n0), .int (qI a1), .int (qI a2), .int (qI a3)] M (some (.int (qI r0))) M := by
  refine q_met (L0 := [(0, .ref (ad n0)), (1, .int (qI a1)), (2, .int (qI a2)), (3, .int (qI a3))]) hi okM (by decide) (Nat.le_of_ble_eq_true rfl) rfl ?_
  intro p e s m args below meth c C hr hlk
  unfold f_X10_found at h
  refine r_ic C dX10_found_0 ?_
  refine r_is C (L1 := [(4, .int (qI 0)), (0, .ref (ad n0)), (1, .int (qI a1)), (2, .int (qI a2)), (3, .int (qI a3))]) dX10_found_1 (by decide) rfl ?_
  refine r_drop [1, 2, 3, 4, 0] rfl ?_
  exact w_X10_found_L3 C hr hlk n0 l0 hn0 a1 a2 a3 M  q_N 0 h
abbrev rm_X10_fresher : Room := { frames := 0, cells := 0, slots := 0, locals := 0 }
theorem mw_X10_fresher : q_mw RX10 yX10_fresher cX10_fresher 2 (some .int) 1 := ⟨⟨ti_X10_fresher, tl_X10_fresher, tn_RX10, td_X10_fresher⟩, by decide +kernel⟩
def f_X10_fresher (a0 : Int) (M : Mem) : Option Int :=
  q_al M 35 14 (7 + a0) fun v1 =>
  some v1
theorem c_X10_fresher {l : Launch} {D : va_G} {ad : Nat → Nat} {cA : Nat → ClassId} (hi : q_inj syM ad) (a0 : Int) (M : Mem) (r0 : Int) (h : f_X10_fresher a0 M = some r0) : q_Met l syM D ad cA yX10_fresher cX10_fresher 2 (some .int) rm_X10_fresher [.ref (ad 0), .int (qI a0)] M (some (.int (qI r0))) M := by
  refine q_met (L0 := [(0, .ref (ad 0)), (1, .int (qI a0))]) hi okM (by decide) (Nat.le_of_ble_eq_true rfl) rfl ?_
  intro p e s m args below meth c C hr hlk
  unfold f_X10_fresher at h
  refine r_aln C dX10_fresher_0 (k := 0) rfl ?_
  refine r_gs C km_0 clX10 (f := 3) (by decide) rfl (t := 35) rfl tf_RX10_13 dX10_fresher_1 ?_
  refine r_bi C dX10_fresher_4 (by decide) ?_
  refine r_iln C dX10_fresher_6 (k := 1) rfl ?_
  refine r_iadd C dX10_fresher_7 ?_
  refine r_iald C km_35 dX10_fresher_8 h (fun v1 h => ?_)
  exact r_iretp C hr hlk dX10_fresher_9 h
abbrev rm_X10_keepNow : Room := { frames := 1, cells := 0, slots := 0, locals := 25 }
theorem mw_X10_keepNow : q_mw RX10 yX10_keepNow cX10_keepNow 2 none 0 := ⟨⟨ti_X10_keepNow, tl_X10_keepNow, tn_RX10, td_X10_keepNow⟩, by decide +kernel⟩
def f_X10_keepNow_J45  (M : Mem) : Res :=
  q_gf M 0 46 fun v1 =>
  q_call (f_X10_copies (3 + v1) 0 M) fun r2 M3 =>
  q_gf M3 0 46 fun v4 =>
  q_pf M3 0 46 (v4 + 1) fun M5 =>
  some (0, M5)
theorem w_X10_keepNow_J45 (C : Cx syM p m c cX10_keepNow 2 s args RX10 D ad cA) (hr : meth.sig.returnType = none) (hlk : meth.locks = false)  (M : Mem)  (h : f_X10_keepNow_J45  M = some (r0, M0)) : WM syM p l e rm_X10_keepNow s m args below meth c 2 D ad cA (MQ below (q_Post syM D ad cA none M0) args s 0 0 (q_A syM ad)) M 45 [(0, .ref (ad 0))] [] := by
  unfold f_X10_keepNow_J45 at h
  refine r_aln C dX10_keepNow_45 (k := 0) rfl ?_
  refine r_ic C dX10_keepNow_46 ?_
  refine r_aln C dX10_keepNow_47 (k := 0) rfl ?_
  refine r_gf C km_0 clX10 (f := 46) (by decide) rfl rfl rfl tf_RX10_302 dX10_keepNow_48 h (fun v1 h => ?_)
  refine r_iadd C dX10_keepNow_51 ?_
  refine r_ic C dX10_keepNow_52 ?_
  obtain ⟨r2, M3, hy, h⟩ := q_call_some h
  refine r_cvv C (st := []) (c_X10_copies C.2.2.1 (3 + v1) 0 M r2 M3 hy) tm_RX10_405 mw_X10_copies ⟨rfl, rfl⟩ ⟨Nat.le_of_ble_eq_true rfl, Nat.le_of_ble_eq_true rfl⟩ km_0 clX10 rfl rfl (Nat.le_of_ble_eq_true rfl) dX10_keepNow_53 ?_
  refine r_aln C dX10_keepNow_56 (k := 0) rfl ?_
  refine r_dup C rfl dX10_keepNow_57 ?_
  refine r_gf C km_0 clX10 (f := 46) (by decide) rfl rfl rfl tf_RX10_302 dX10_keepNow_58 h (fun v4 h => ?_)
  refine r_ic C dX10_keepNow_61 ?_
  refine r_iadd C dX10_keepNow_62 ?_
  refine r_pf C km_0 clX10 (f := 46) (by decide) rfl q_dI rfl rfl tf_RX10_302 dX10_keepNow_63 h (fun M5 h => ?_)
  exact r_vret C hr hlk dX10_keepNow_66 h
def f_X10_keepNow_B11  (x1 : Int) (M : Mem) (g11 : Int → Mem → Res) : Res :=
  if w32 20 ≤ w32 x1 then (q_gf M 0 46 fun v1 =>
  q_pf M 0 46 (v1 - 1) fun M2 =>
  f_X10_keepNow_J45  M2)
  else (q_call (f_X10_copies ((3 + x1) - 1) (3 + x1) M) fun r3 M4 =>
  g11 (x1 + 1) M4)
def f_X10_keepNow_L11  (n : Nat) (x1 : Int) (M : Mem) : Res := qlm1 (fun x1 M g11 => f_X10_keepNow_B11  x1 M g11) n x1 M
theorem w_X10_keepNow_B11 (C : Cx syM p m c cX10_keepNow 2 s args RX10 D ad cA) (hr : meth.sig.returnType = none) (hlk : meth.locks = false)  (x1 : Int) (M : Mem) (g11 : Int → Mem → Res)  (ih11 : ∀ (ux1 : Int) (M : Mem), g11 ux1 M = some (r0, M0) → WM syM p l e rm_X10_keepNow s m args below meth c 2 D ad cA (MQ below (q_Post syM D ad cA none M0) args s 0 0 (q_A syM ad)) M 11 [(0, .ref (ad 0)), (1, .int (qI ux1))] []) (h : f_X10_keepNow_B11  x1 M g11 = some (r0, M0)) : WM syM p l e rm_X10_keepNow s m args below meth c 2 D ad cA (MQ below (q_Post syM D ad cA none M0) args s 0 0 (q_A syM ad)) M 11 [(0, .ref (ad 0)), (1, .int (qI x1))] [] := by
  unfold f_X10_keepNow_B11 at h
  refine r_iln C dX10_keepNow_11 (k := 1) rfl ?_
  refine r_bi C dX10_keepNow_12 (by decide) ?_
  refine r_cge C (tgt := 35) dX10_keepNow_14 (by decide) h (fun h => ?_) (fun h => ?_)
  · refine r_aln C dX10_keepNow_35 (k := 0) rfl ?_
    refine r_dup C rfl dX10_keepNow_36 ?_
    refine r_gf C km_0 clX10 (f := 46) (by decide) rfl rfl rfl tf_RX10_302 dX10_keepNow_37 h (fun v1 h => ?_)
    refine r_ic C dX10_keepNow_40 ?_
    refine r_isub C dX10_keepNow_41 ?_
    refine r_pf C km_0 clX10 (f := 46) (by decide) rfl q_dI rfl rfl tf_RX10_302 dX10_keepNow_42 h (fun M2 h => ?_)
    refine r_drop [0] rfl ?_
    exact w_X10_keepNow_J45 C hr hlk  M2  h
  · refine r_aln C dX10_keepNow_17 (k := 0) rfl ?_
    refine r_ic C dX10_keepNow_18 ?_
    refine r_iln C dX10_keepNow_19 (k := 1) rfl ?_
    refine r_iadd C dX10_keepNow_20 ?_
    refine r_ic C dX10_keepNow_21 ?_
    refine r_isub C dX10_keepNow_22 ?_
    refine r_ic C dX10_keepNow_23 ?_
    refine r_iln C dX10_keepNow_24 (k := 1) rfl ?_
    refine r_iadd C dX10_keepNow_25 ?_
    obtain ⟨r3, M4, hy, h⟩ := q_call_some h
    refine r_cvv C (st := []) (c_X10_copies C.2.2.1 ((3 + x1) - 1) (3 + x1) M r3 M4 hy) tm_RX10_405 mw_X10_copies ⟨rfl, rfl⟩ ⟨Nat.le_of_ble_eq_true rfl, Nat.le_of_ble_eq_true rfl⟩ km_0 clX10 rfl rfl (Nat.le_of_ble_eq_true rfl) dX10_keepNow_26 ?_
    refine r_inc C (L1 := [(1, .int (qI (x1 + 1))), (0, .ref (ad 0))]) dX10_keepNow_29 (k := 1) rfl (by decide) rfl ?_
    refine r_goto C (tgt := 11) dX10_keepNow_32 (by decide) ?_
    refine r_drop [1, 0] rfl ?_
    exact ih11 (x1 + 1) M4 h
theorem w_X10_keepNow_L11 (C : Cx syM p m c cX10_keepNow 2 s args RX10 D ad cA) (hr : meth.sig.returnType = none) (hlk : meth.locks = false)    (n : Nat) (x1 : Int) (M : Mem) (h : f_X10_keepNow_L11  n x1 M = some (r0, M0)) : WM syM p l e rm_X10_keepNow s m args below meth c 2 D ad cA (MQ below (q_Post syM D ad cA none M0) args s 0 0 (q_A syM ad)) M 11 [(0, .ref (ad 0)), (1, .int (qI x1))] [] :=
  qlm1_r (Wp := fun ux1 M => WM syM p l e rm_X10_keepNow s m args below meth c 2 D ad cA (MQ below (q_Post syM D ad cA none M0) args s 0 0 (q_A syM ad)) M 11 [(0, .ref (ad 0)), (1, .int (qI ux1))] []) (fun ux1 M g11 ih11 h => w_X10_keepNow_B11 C hr hlk  ux1 M g11  ih11 h) n x1 M h
def f_X10_keepNow  (M : Mem) : Res :=
  q_gf M 0 46 fun v1 =>
  if ¬ w32 v1 = w32 20 then (f_X10_keepNow_J45  M)
  else (f_X10_keepNow_L11  q_N 1 M)
theorem c_X10_keepNow {l : Launch} {D : va_G} {ad : Nat → Nat} {cA : Nat → ClassId} (hi : q_inj syM ad)  (M : Mem) (r0 : Int) (M0 : Mem) (h : f_X10_keepNow  M = some (r0, M0)) : q_Met l syM D ad cA yX10_keepNow cX10_keepNow 2 none rm_X10_keepNow [.ref (ad 0)] M none M0 := by
  refine q_met (L0 := [(0, .ref (ad 0))]) hi okM (by decide) (Nat.le_of_ble_eq_true rfl) rfl ?_
  intro p e s m args below meth c C hr hlk
  unfold f_X10_keepNow at h
  refine r_aln C dX10_keepNow_0 (k := 0) rfl ?_
  refine r_gf C km_0 clX10 (f := 46) (by decide) rfl rfl rfl tf_RX10_302 dX10_keepNow_1 h (fun v1 h => ?_)
  refine r_bi C dX10_keepNow_4 (by decide) ?_
  refine r_cne C (tgt := 45) dX10_keepNow_6 (by decide) h (fun h => ?_) (fun h => ?_)
  · exact w_X10_keepNow_J45 C hr hlk  M  h
  · refine r_ic C dX10_keepNow_9 ?_
    refine r_isn C (L1 := [(1, .int (qI 1)), (0, .ref (ad 0))]) dX10_keepNow_10 (by decide) rfl ?_
    refine r_drop [1, 0] rfl ?_
    exact w_X10_keepNow_L11 C hr hlk   q_N 1 M h
abbrev rm_X10_give : Room := { frames := 2, cells := 0, slots := 0, locals := 46 }
theorem mw_X10_give : q_mw RX10 yX10_give cX10_give 3 (some .int) 2 := ⟨⟨ti_X10_give, tl_X10_give, tn_RX10, td_X10_give⟩, by decide +kernel⟩
def f_X10_give (a0 : Int) (a1 : Int) (M : Mem) : Res :=
  q_pf M 0 0 0 fun M1 =>
  q_calp (f_X10_isSoul a0 M1) fun r2 =>
  if w32 r2 = 0 then (some ((-1), M1))
  else (if w32 a1 < w32 1 then (some ((-1), M1))
  else (if w32 99 < w32 a1 then (some ((-1), M1))
  else (q_al M1 71 184 a0 fun v3 =>
  if w32 v3 ≤ w32 1 then (q_call (f_X10_keepNow  M1) fun r4 M5 =>
  q_al M5 72 184 a0 fun v6 =>
  q_as M5 72 184 a0 (q_min 99 (v6 + a1)) fun M7 =>
  q_al M7 72 184 a0 fun v8 =>
  some (v8, M7))
  else (some ((-1), M1)))))
theorem c_X10_give {l : Launch} {D : va_G} {ad : Nat → Nat} {cA : Nat → ClassId} (hi : q_inj syM ad) (a0 : Int) (a1 : Int) (M : Mem) (r0 : Int) (M0 : Mem) (h : f_X10_give a0 a1 M = some (r0, M0)) : q_Met l syM D ad cA yX10_give cX10_give 3 (some .int) rm_X10_give [.ref (ad 0), .int (qI a0), .int (qI a1)] M (some (.int (qI r0))) M0 := by
  refine q_met (L0 := [(0, .ref (ad 0)), (1, .int (qI a0)), (2, .int (qI a1))]) hi okM (by decide) (Nat.le_of_ble_eq_true rfl) rfl ?_
  intro p e s m args below meth c C hr hlk
  unfold f_X10_give at h
  refine r_aln C dX10_give_0 (k := 0) rfl ?_
  refine r_ic C dX10_give_1 ?_
  refine r_pf C km_0 clX10 (f := 0) (by decide) rfl q_dI rfl rfl tf_RX10_142 dX10_give_2 h (fun M1 h => ?_)
  refine r_aln C dX10_give_5 (k := 0) rfl ?_
  refine r_iln C dX10_give_6 (k := 1) rfl ?_
  obtain ⟨r2, hy, h⟩ := q_calp_some h
  refine r_cvi C (st := []) (c_X10_isSoul C.2.2.1 a0 M1 r2 hy) tm_RX10_411 mw_X10_isSoul ⟨rfl, rfl⟩ ⟨Nat.le_of_ble_eq_true rfl, Nat.le_of_ble_eq_true rfl⟩ km_0 clX10 rfl rfl (Nat.le_of_ble_eq_true rfl) dX10_give_7 ?_
  refine r_zeq C (tgt := 34) dX10_give_10 (by decide) h (fun h => ?_) (fun h => ?_)
  · refine r_ic C dX10_give_34 ?_
    exact r_iret C hr hlk dX10_give_35 h
  · refine r_iln C dX10_give_13 (k := 2) rfl ?_
    refine r_ic C dX10_give_14 ?_
    refine r_clt C (tgt := 34) dX10_give_15 (by decide) h (fun h => ?_) (fun h => ?_)
    · refine r_ic C dX10_give_34 ?_
      exact r_iret C hr hlk dX10_give_35 h
    · refine r_iln C dX10_give_18 (k := 2) rfl ?_
      refine r_bi C dX10_give_19 (by decide) ?_
      refine r_cgt C (tgt := 34) dX10_give_21 (by decide) h (fun h => ?_) (fun h => ?_)
      · refine r_ic C dX10_give_34 ?_
        exact r_iret C hr hlk dX10_give_35 h
      · refine r_aln C dX10_give_24 (k := 0) rfl ?_
        refine r_gs C km_0 clX10 (f := 39) (by decide) rfl (t := 71) rfl tf_RX10_84 dX10_give_25 ?_
        refine r_iln C dX10_give_28 (k := 1) rfl ?_
        refine r_iald C km_71 dX10_give_29 h (fun v3 h => ?_)
        refine r_ic C dX10_give_30 ?_
        refine r_cle C (tgt := 36) dX10_give_31 (by decide) h (fun h => ?_) (fun h => ?_)
        · refine r_aln C dX10_give_36 (k := 0) rfl ?_
          obtain ⟨r4, M5, hy, h⟩ := q_call_some h
          refine r_cvv C (st := []) (c_X10_keepNow C.2.2.1 M1 r4 M5 hy) tm_RX10_430 mw_X10_keepNow ⟨rfl, rfl⟩ ⟨Nat.le_of_ble_eq_true rfl, Nat.le_of_ble_eq_true rfl⟩ km_0 clX10 rfl rfl (Nat.le_of_ble_eq_true rfl) dX10_give_37 ?_
          refine r_aln C dX10_give_40 (k := 0) rfl ?_
          refine r_gs C km_0 clX10 (f := 40) (by decide) rfl (t := 72) rfl tf_RX10_87 dX10_give_41 ?_
          refine r_iln C dX10_give_44 (k := 1) rfl ?_
          refine r_bi C dX10_give_45 (by decide) ?_
          refine r_aln C dX10_give_47 (k := 0) rfl ?_
          refine r_gs C km_0 clX10 (f := 40) (by decide) rfl (t := 72) rfl tf_RX10_87 dX10_give_48 ?_
          refine r_iln C dX10_give_51 (k := 1) rfl ?_
          refine r_iald C km_72 dX10_give_52 h (fun v6 h => ?_)
          refine r_iln C dX10_give_53 (k := 2) rfl ?_
          refine r_iadd C dX10_give_54 ?_
          refine r_q_min C (st := [.int (qI a0), .ref (ad 72)]) tm_RX10_399 ⟨Nat.le_of_ble_eq_true rfl, Nat.le_of_ble_eq_true rfl⟩ dX10_give_55 ?_
          refine r_iast C km_72 dX10_give_58 h (fun M7 h => ?_)
          refine r_aln C dX10_give_59 (k := 0) rfl ?_
          refine r_gs C km_0 clX10 (f := 40) (by decide) rfl (t := 72) rfl tf_RX10_87 dX10_give_60 ?_
          refine r_iln C dX10_give_63 (k := 1) rfl ?_
          refine r_iald C km_72 dX10_give_64 h (fun v8 h => ?_)
          exact r_iret C hr hlk dX10_give_65 h
        · refine r_ic C dX10_give_34 ?_
          exact r_iret C hr hlk dX10_give_35 h
abbrev rm_X10_go : Room := { frames := 6, cells := 0, slots := 0, locals := 145 }
theorem mw_X10_go : q_mw RX10 yX10_go cX10_go 3 (some .int) 1 := ⟨⟨ti_X10_go, tl_X10_go, tn_RX10, td_X10_go⟩, by decide +kernel⟩
def f_X10_go_B43 (x1 : Int) (x2 : Int) (M : Mem) (g43 : Int → Mem → Res) : Res :=
  if w32 x1 ≤ w32 x2 then (q_al M 67 23 0 fun v1 =>
  some (v1, M))
  else (q_call (f_X10_passes 0 1 M) fun r2 M3 =>
  g43 (x2 + 1) M3)
def f_X10_go_L43 (x1 : Int) (n : Nat) (x2 : Int) (M : Mem) : Res := qlm1 (fun x2 M g43 => f_X10_go_B43 x1 x2 M g43) n x2 M
theorem w_X10_go_B43 (C : Cx syM p m c cX10_go 3 s args RX10 D ad cA) (hr : meth.sig.returnType = (some .int)) (hlk : meth.locks = false)  (x1 : Int) (x2 : Int) (M : Mem) (g43 : Int → Mem → Res)  (ih43 : ∀ (ux2 : Int) (M : Mem), g43 ux2 M = some (r0, M0) → WM syM p l e rm_X10_go s m args below meth c 3 D ad cA (MQ below (q_Post syM D ad cA (some (.int (qI r0))) M0) args s 0 0 (q_A syM ad)) M 43 [(0, .ref (ad 0)), (1, .int (qI x1)), (2, .int (qI ux2))] []) (h : f_X10_go_B43 x1 x2 M g43 = some (r0, M0)) : WM syM p l e rm_X10_go s m args below meth c 3 D ad cA (MQ below (q_Post syM D ad cA (some (.int (qI r0))) M0) args s 0 0 (q_A syM ad)) M 43 [(0, .ref (ad 0)), (1, .int (qI x1)), (2, .int (qI x2))] [] := by
  unfold f_X10_go_B43 at h
  refine r_iln C dX10_go_43 (k := 2) rfl ?_
  refine r_iln C dX10_go_44 (k := 1) rfl ?_
  refine r_cge C (tgt := 60) dX10_go_45 (by decide) h (fun h => ?_) (fun h => ?_)
  · refine r_aln C dX10_go_60 (k := 0) rfl ?_
    refine r_gs C km_0 clX10 (f := 35) (by decide) rfl (t := 67) rfl tf_RX10_72 dX10_go_61 ?_
    refine r_ic C dX10_go_64 ?_
    refine r_iald C km_67 dX10_go_65 h (fun v1 h => ?_)
    exact r_iret C hr hlk dX10_go_66 h
  · refine r_aln C dX10_go_48 (k := 0) rfl ?_
    refine r_ic C dX10_go_49 ?_
    refine r_ic C dX10_go_50 ?_
    obtain ⟨r2, M3, hy, h⟩ := q_call_some h
    refine r_cvv C (st := []) (c_X10_passes C.2.2.1 0 1 M r2 M3 hy) tm_RX10_401 mw_X10_passes ⟨rfl, rfl⟩ ⟨Nat.le_of_ble_eq_true rfl, Nat.le_of_ble_eq_true rfl⟩ km_0 clX10 rfl rfl (Nat.le_of_ble_eq_true rfl) dX10_go_51 ?_
    refine r_inc C (L1 := [(2, .int (qI (x2 + 1))), (0, .ref (ad 0)), (1, .int (qI x1))]) dX10_go_54 (k := 2) rfl (by decide) rfl ?_
    refine r_goto C (tgt := 43) dX10_go_57 (by decide) ?_
    refine r_drop [1, 2, 0] rfl ?_
    exact ih43 (x2 + 1) M3 h
theorem w_X10_go_L43 (C : Cx syM p m c cX10_go 3 s args RX10 D ad cA) (hr : meth.sig.returnType = (some .int)) (hlk : meth.locks = false)  (x1 : Int)  (n : Nat) (x2 : Int) (M : Mem) (h : f_X10_go_L43 x1 n x2 M = some (r0, M0)) : WM syM p l e rm_X10_go s m args below meth c 3 D ad cA (MQ below (q_Post syM D ad cA (some (.int (qI r0))) M0) args s 0 0 (q_A syM ad)) M 43 [(0, .ref (ad 0)), (1, .int (qI x1)), (2, .int (qI x2))] [] :=
  qlm1_r (Wp := fun ux2 M => WM syM p l e rm_X10_go s m args below meth c 3 D ad cA (MQ below (q_Post syM D ad cA (some (.int (qI r0))) M0) args s 0 0 (q_A syM ad)) M 43 [(0, .ref (ad 0)), (1, .int (qI x1)), (2, .int (qI ux2))] []) (fun ux2 M g43 ih43 h => w_X10_go_B43 C hr hlk x1 ux2 M g43  ih43 h) n x2 M h
def f_X10_go_J41 (x1 : Int) (M : Mem) : Res :=
  f_X10_go_L43 x1 q_N 0 M
theorem w_X10_go_J41 (C : Cx syM p m c cX10_go 3 s args RX10 D ad cA) (hr : meth.sig.returnType = (some .int)) (hlk : meth.locks = false) (x1 : Int) (M : Mem)  (h : f_X10_go_J41 x1 M = some (r0, M0)) : WM syM p l e rm_X10_go s m args below meth c 3 D ad cA (MQ below (q_Post syM D ad cA (some (.int (qI r0))) M0) args s 0 0 (q_A syM ad)) M 41 [(0, .ref (ad 0)), (1, .int (qI x1))] [] := by
  unfold f_X10_go_J41 at h
  refine r_ic C dX10_go_41 ?_
  refine r_isn C (L1 := [(2, .int (qI 0)), (0, .ref (ad 0)), (1, .int (qI x1))]) dX10_go_42 (by decide) rfl ?_
  refine r_drop [1, 2, 0] rfl ?_
  exact w_X10_go_L43 C hr hlk x1  q_N 0 M h
def f_X10_go (a0 : Int) (M : Mem) : Res :=
  q_pf M 0 0 0 fun M1 =>
  if w32 a0 < 0 then (some ((-1), M1))
  else (if w32 200 < w32 a0 then (some ((-1), M1))
  else (q_al M1 67 23 0 fun v2 =>
  if w32 (v2 + a0) ≤ w32 9800 then (if w32 a0 ≤ 0 then (f_X10_go_J41 a0 M1)
  else (q_pf M1 0 46 0 fun M3 =>
  f_X10_go_J41 a0 M3))
  else (some ((-1), M1))))
theorem c_X10_go {l : Launch} {D : va_G} {ad : Nat → Nat} {cA : Nat → ClassId} (hi : q_inj syM ad) (a0 : Int) (M : Mem) (r0 : Int) (M0 : Mem) (h : f_X10_go a0 M = some (r0, M0)) : q_Met l syM D ad cA yX10_go cX10_go 3 (some .int) rm_X10_go [.ref (ad 0), .int (qI a0)] M (some (.int (qI r0))) M0 := by
  refine q_met (L0 := [(0, .ref (ad 0)), (1, .int (qI a0))]) hi okM (by decide) (Nat.le_of_ble_eq_true rfl) rfl ?_
  intro p e s m args below meth c C hr hlk
  unfold f_X10_go at h
  refine r_aln C dX10_go_0 (k := 0) rfl ?_
  refine r_ic C dX10_go_1 ?_
  refine r_pf C km_0 clX10 (f := 0) (by decide) rfl q_dI rfl rfl tf_RX10_142 dX10_go_2 h (fun M1 h => ?_)
  refine r_iln C dX10_go_5 (k := 1) rfl ?_
  refine r_zlt C (tgt := 30) dX10_go_6 (by decide) h (fun h => ?_) (fun h => ?_)
  · refine r_ic C dX10_go_30 ?_
    exact r_iret C hr hlk dX10_go_31 h
  · refine r_iln C dX10_go_9 (k := 1) rfl ?_
    refine r_si C dX10_go_10 (by decide) ?_
    refine r_cgt C (tgt := 30) dX10_go_13 (by decide) h (fun h => ?_) (fun h => ?_)
    · refine r_ic C dX10_go_30 ?_
      exact r_iret C hr hlk dX10_go_31 h
    · refine r_aln C dX10_go_16 (k := 0) rfl ?_
      refine r_gs C km_0 clX10 (f := 35) (by decide) rfl (t := 67) rfl tf_RX10_72 dX10_go_17 ?_
      refine r_ic C dX10_go_20 ?_
      refine r_iald C km_67 dX10_go_21 h (fun v2 h => ?_)
      refine r_iln C dX10_go_22 (k := 1) rfl ?_
      refine r_iadd C dX10_go_23 ?_
      refine r_si C dX10_go_24 (by decide) ?_
      refine r_cle C (tgt := 32) dX10_go_27 (by decide) h (fun h => ?_) (fun h => ?_)
      · refine r_iln C dX10_go_32 (k := 1) rfl ?_
        refine r_zle C (tgt := 41) dX10_go_33 (by decide) h (fun h => ?_) (fun h => ?_)
        · exact w_X10_go_J41 C hr hlk a0 M1  h
        · refine r_aln C dX10_go_36 (k := 0) rfl ?_
          refine r_ic C dX10_go_37 ?_
          refine r_pf C km_0 clX10 (f := 46) (by decide) rfl q_dI rfl rfl tf_RX10_302 dX10_go_38 h (fun M3 h => ?_)
          exact w_X10_go_J41 C hr hlk a0 M3  h
      · refine r_ic C dX10_go_30 ?_
        exact r_iret C hr hlk dX10_go_31 h
abbrev rm_X10_goes : Room := { frames := 6, cells := 0, slots := 0, locals := 145 }
theorem mw_X10_goes : q_mw RX10 yX10_goes cX10_goes 3 (some .int) 1 := ⟨⟨ti_X10_goes, tl_X10_goes, tn_RX10, td_X10_goes⟩, by decide +kernel⟩
def f_X10_goes_B23 (x1 : Int) (x2 : Int) (M : Mem) (g23 : Int → Mem → Res) : Res :=
  if w32 199 < w32 x2 then (some ((-2), M))
  else (q_al M 71 184 (8 + x1) fun v1 =>
  if ¬ w32 v1 = w32 2 then (q_call (f_X10_passes 1 0 M) fun r2 M3 =>
  g23 (x2 + 1) M3)
  else (some (x2, M)))
def f_X10_goes_L23 (x1 : Int) (n : Nat) (x2 : Int) (M : Mem) : Res := qlm1 (fun x2 M g23 => f_X10_goes_B23 x1 x2 M g23) n x2 M
theorem w_X10_goes_B23 (C : Cx syM p m c cX10_goes 3 s args RX10 D ad cA) (hr : meth.sig.returnType = (some .int)) (hlk : meth.locks = false)  (x1 : Int) (x2 : Int) (M : Mem) (g23 : Int → Mem → Res)  (ih23 : ∀ (ux2 : Int) (M : Mem), g23 ux2 M = some (r0, M0) → WM syM p l e rm_X10_goes s m args below meth c 3 D ad cA (MQ below (q_Post syM D ad cA (some (.int (qI r0))) M0) args s 0 0 (q_A syM ad)) M 23 [(0, .ref (ad 0)), (1, .int (qI x1)), (2, .int (qI ux2))] []) (h : f_X10_goes_B23 x1 x2 M g23 = some (r0, M0)) : WM syM p l e rm_X10_goes s m args below meth c 3 D ad cA (MQ below (q_Post syM D ad cA (some (.int (qI r0))) M0) args s 0 0 (q_A syM ad)) M 23 [(0, .ref (ad 0)), (1, .int (qI x1)), (2, .int (qI x2))] [] := by
  unfold f_X10_goes_B23 at h
  refine r_iln C dX10_goes_23 (k := 2) rfl ?_
  refine r_si C dX10_goes_24 (by decide) ?_
  refine r_cgt C (tgt := 57) dX10_goes_27 (by decide) h (fun h => ?_) (fun h => ?_)
  · refine r_bi C dX10_goes_57 (by decide) ?_
    exact r_iret C hr hlk dX10_goes_59 h
  · refine r_aln C dX10_goes_30 (k := 0) rfl ?_
    refine r_gs C km_0 clX10 (f := 39) (by decide) rfl (t := 71) rfl tf_RX10_84 dX10_goes_31 ?_
    refine r_bi C dX10_goes_34 (by decide) ?_
    refine r_iln C dX10_goes_36 (k := 1) rfl ?_
    refine r_iadd C dX10_goes_37 ?_
    refine r_iald C km_71 dX10_goes_38 h (fun v1 h => ?_)
    refine r_ic C dX10_goes_39 ?_
    refine r_cne C (tgt := 45) dX10_goes_40 (by decide) h (fun h => ?_) (fun h => ?_)
    · refine r_aln C dX10_goes_45 (k := 0) rfl ?_
      refine r_ic C dX10_goes_46 ?_
      refine r_ic C dX10_goes_47 ?_
      obtain ⟨r2, M3, hy, h⟩ := q_call_some h
      refine r_cvv C (st := []) (c_X10_passes C.2.2.1 1 0 M r2 M3 hy) tm_RX10_401 mw_X10_passes ⟨rfl, rfl⟩ ⟨Nat.le_of_ble_eq_true rfl, Nat.le_of_ble_eq_true rfl⟩ km_0 clX10 rfl rfl (Nat.le_of_ble_eq_true rfl) dX10_goes_48 ?_
      refine r_inc C (L1 := [(2, .int (qI (x2 + 1))), (0, .ref (ad 0)), (1, .int (qI x1))]) dX10_goes_51 (k := 2) rfl (by decide) rfl ?_
      refine r_goto C (tgt := 23) dX10_goes_54 (by decide) ?_
      refine r_drop [1, 2, 0] rfl ?_
      exact ih23 (x2 + 1) M3 h
    · refine r_iln C dX10_goes_43 (k := 2) rfl ?_
      exact r_iret C hr hlk dX10_goes_44 h
theorem w_X10_goes_L23 (C : Cx syM p m c cX10_goes 3 s args RX10 D ad cA) (hr : meth.sig.returnType = (some .int)) (hlk : meth.locks = false)  (x1 : Int)  (n : Nat) (x2 : Int) (M : Mem) (h : f_X10_goes_L23 x1 n x2 M = some (r0, M0)) : WM syM p l e rm_X10_goes s m args below meth c 3 D ad cA (MQ below (q_Post syM D ad cA (some (.int (qI r0))) M0) args s 0 0 (q_A syM ad)) M 23 [(0, .ref (ad 0)), (1, .int (qI x1)), (2, .int (qI x2))] [] :=
  qlm1_r (Wp := fun ux2 M => WM syM p l e rm_X10_goes s m args below meth c 3 D ad cA (MQ below (q_Post syM D ad cA (some (.int (qI r0))) M0) args s 0 0 (q_A syM ad)) M 23 [(0, .ref (ad 0)), (1, .int (qI x1)), (2, .int (qI ux2))] []) (fun ux2 M g23 ih23 h => w_X10_goes_B23 C hr hlk x1 ux2 M g23  ih23 h) n x2 M h
def f_X10_goes (a0 : Int) (M : Mem) : Res :=
  q_pf M 0 0 0 fun M1 =>
  q_calp (f_X10_isSoul a0 M1) fun r2 =>
  if ¬ w32 r2 = 0 then (q_call (f_X10_copies 1 0 M1) fun r3 M4 =>
  f_X10_goes_L23 a0 q_N 0 M4)
  else (some ((-1), M1))
theorem c_X10_goes {l : Launch} {D : va_G} {ad : Nat → Nat} {cA : Nat → ClassId} (hi : q_inj syM ad) (a0 : Int) (M : Mem) (r0 : Int) (M0 : Mem) (h : f_X10_goes a0 M = some (r0, M0)) : q_Met l syM D ad cA yX10_goes cX10_goes 3 (some .int) rm_X10_goes [.ref (ad 0), .int (qI a0)] M (some (.int (qI r0))) M0 := by
  refine q_met (L0 := [(0, .ref (ad 0)), (1, .int (qI a0))]) hi okM (by decide) (Nat.le_of_ble_eq_true rfl) rfl ?_
  intro p e s m args below meth c C hr hlk
  unfold f_X10_goes at h
  refine r_aln C dX10_goes_0 (k := 0) rfl ?_
  refine r_ic C dX10_goes_1 ?_
  refine r_pf C km_0 clX10 (f := 0) (by decide) rfl q_dI rfl rfl tf_RX10_142 dX10_goes_2 h (fun M1 h => ?_)
  refine r_aln C dX10_goes_5 (k := 0) rfl ?_
  refine r_iln C dX10_goes_6 (k := 1) rfl ?_
  obtain ⟨r2, hy, h⟩ := q_calp_some h
  refine r_cvi C (st := []) (c_X10_isSoul C.2.2.1 a0 M1 r2 hy) tm_RX10_411 mw_X10_isSoul ⟨rfl, rfl⟩ ⟨Nat.le_of_ble_eq_true rfl, Nat.le_of_ble_eq_true rfl⟩ km_0 clX10 rfl rfl (Nat.le_of_ble_eq_true rfl) dX10_goes_7 ?_
  refine r_zne C (tgt := 15) dX10_goes_10 (by decide) h (fun h => ?_) (fun h => ?_)
  · refine r_aln C dX10_goes_15 (k := 0) rfl ?_
    refine r_ic C dX10_goes_16 ?_
    refine r_ic C dX10_goes_17 ?_
    obtain ⟨r3, M4, hy, h⟩ := q_call_some h
    refine r_cvv C (st := []) (c_X10_copies C.2.2.1 1 0 M1 r3 M4 hy) tm_RX10_405 mw_X10_copies ⟨rfl, rfl⟩ ⟨Nat.le_of_ble_eq_true rfl, Nat.le_of_ble_eq_true rfl⟩ km_0 clX10 rfl rfl (Nat.le_of_ble_eq_true rfl) dX10_goes_18 ?_
    refine r_ic C dX10_goes_21 ?_
    refine r_isn C (L1 := [(2, .int (qI 0)), (0, .ref (ad 0)), (1, .int (qI a0))]) dX10_goes_22 (by decide) rfl ?_
    refine r_drop [1, 2, 0] rfl ?_
    exact w_X10_goes_L23 C hr hlk a0  q_N 0 M4 h
  · refine r_ic C dX10_goes_13 ?_
    exact r_iret C hr hlk dX10_goes_14 h
abbrev rm_X10_half : Room := { frames := 0, cells := 0, slots := 0, locals := 0 }
theorem mw_X10_half : q_ms yX10_half cX10_half 3 none 1 := ⟨⟨ts_X10_half, tn_RX10, td_X10_half⟩, by decide +kernel⟩
def f_X10_half_B7 (n0 : Nat) (l0 : Nat) (x1 : Int) (x2 : Int) (M : Mem) (g7 : Int → Mem → Res) : Res :=
  if w32 x1 ≤ w32 x2 then (some (0, M))
  else (q_al M n0 l0 (x1 + x2) fun v1 =>
  q_as M n0 l0 x2 v1 fun M2 =>
  g7 (x2 + 1) M2)
def f_X10_half_L7 (n0 : Nat) (l0 : Nat) (x1 : Int) (n : Nat) (x2 : Int) (M : Mem) : Res := qlm1 (fun x2 M g7 => f_X10_half_B7 n0 l0 x1 x2 M g7) n x2 M
theorem w_X10_half_B7 (C : Cx syM p m c cX10_half 3 s args RX10 D ad cA) (hr : meth.sig.returnType = none) (hlk : meth.locks = false) (n0 : Nat) (l0 : Nat) (hn0 : syM.1 n0 = (2, l0)) (x1 : Int) (x2 : Int) (M : Mem) (g7 : Int → Mem → Res)  (ih7 : ∀ (ux2 : Int) (M : Mem), g7 ux2 M = some (r0, M0) → WM syM p l e rm_X10_half s m args below meth c 3 D ad cA (MQ below (q_Post syM D ad cA none M0) args s 0 0 (q_A syM ad)) M 7 [(0, .ref (ad n0)), (1, .int (qI x1)), (2, .int (qI ux2))] []) (h : f_X10_half_B7 n0 l0 x1 x2 M g7 = some (r0, M0)) : WM syM p l e rm_X10_half s m args below meth c 3 D ad cA (MQ below (q_Post syM D ad cA none M0) args s 0 0 (q_A syM ad)) M 7 [(0, .ref (ad n0)), (1, .int (qI x1)), (2, .int (qI x2))] [] := by
  unfold f_X10_half_B7 at h
  refine r_iln C dX10_half_7 (k := 2) rfl ?_
  refine r_iln C dX10_half_8 (k := 1) rfl ?_
  refine r_cge C (tgt := 26) dX10_half_9 (by decide) h (fun h => ?_) (fun h => ?_)
  · exact r_vret C hr hlk dX10_half_26 h
  · refine r_aln C dX10_half_12 (k := 0) rfl ?_
    refine r_iln C dX10_half_13 (k := 2) rfl ?_
    refine r_aln C dX10_half_14 (k := 0) rfl ?_
    refine r_iln C dX10_half_15 (k := 1) rfl ?_
    refine r_iln C dX10_half_16 (k := 2) rfl ?_
    refine r_iadd C dX10_half_17 ?_
    refine r_iald C hn0 dX10_half_18 h (fun v1 h => ?_)
    refine r_iast C hn0 dX10_half_19 h (fun M2 h => ?_)
    refine r_inc C (L1 := [(2, .int (qI (x2 + 1))), (0, .ref (ad n0)), (1, .int (qI x1))]) dX10_half_20 (k := 2) rfl (by decide) rfl ?_
    refine r_goto C (tgt := 7) dX10_half_23 (by decide) ?_
    refine r_drop [1, 2, 0] rfl ?_
    exact ih7 (x2 + 1) M2 h
theorem w_X10_half_L7 (C : Cx syM p m c cX10_half 3 s args RX10 D ad cA) (hr : meth.sig.returnType = none) (hlk : meth.locks = false) (n0 : Nat) (l0 : Nat) (hn0 : syM.1 n0 = (2, l0)) (x1 : Int)  (n : Nat) (x2 : Int) (M : Mem) (h : f_X10_half_L7 n0 l0 x1 n x2 M = some (r0, M0)) : WM syM p l e rm_X10_half s m args below meth c 3 D ad cA (MQ below (q_Post syM D ad cA none M0) args s 0 0 (q_A syM ad)) M 7 [(0, .ref (ad n0)), (1, .int (qI x1)), (2, .int (qI x2))] [] :=
  qlm1_r (Wp := fun ux2 M => WM syM p l e rm_X10_half s m args below meth c 3 D ad cA (MQ below (q_Post syM D ad cA none M0) args s 0 0 (q_A syM ad)) M 7 [(0, .ref (ad n0)), (1, .int (qI x1)), (2, .int (qI ux2))] []) (fun ux2 M g7 ih7 h => w_X10_half_B7 C hr hlk n0 l0 hn0 x1 ux2 M g7  ih7 h) n x2 M h
def f_X10_half (n0 : Nat) (l0 : Nat) (M : Mem) : Res :=
  q_nz 2 <| f_X10_half_L7 n0 l0 ((w32 ((l0 : Nat) : Int)).tdiv (w32 2)) q_N 0 M
theorem c_X10_half {l : Launch} {D : va_G} {ad : Nat → Nat} {cA : Nat → ClassId} (hi : q_inj syM ad) (n0 : Nat) (l0 : Nat) (hn0 : syM.1 n0 = (2, l0)) (M : Mem) (r0 : Int) (M0 : Mem) (h : f_X10_half n0 l0 M = some (r0, M0)) : q_Met l syM D ad cA yX10_half cX10_half 3 none rm_X10_half [.ref (ad n0)] M none M0 := by
  refine q_met (L0 := [(0, .ref (ad n0))]) hi okM (by decide) (Nat.le_of_ble_eq_true rfl) rfl ?_
  intro p e s m args below meth c C hr hlk
  unfold f_X10_half at h
  refine r_aln C dX10_half_0 (k := 0) rfl ?_
  refine r_alen C hn0 (by decide) (by decide) (by decide) (t0 := 0) rfl dX10_half_1 ?_
  refine r_ic C dX10_half_2 ?_
  refine r_idiv C dX10_half_3 h (fun h => ?_)
  refine r_isn C (L1 := [(1, .int (qI ((w32 ((l0 : Nat) : Int)).tdiv (w32 2)))), (0, .ref (ad n0))]) dX10_half_4 (by decide) rfl ?_
  refine r_ic C dX10_half_5 ?_
  refine r_isn C (L1 := [(2, .int (qI 0)), (1, .int (qI ((w32 ((l0 : Nat) : Int)).tdiv (w32 2)))), (0, .ref (ad n0))]) dX10_half_6 (by decide) rfl ?_
  refine r_drop [2, 1, 0] rfl ?_
  exact w_X10_half_L7 C hr hlk n0 l0 hn0 ((w32 ((l0 : Nat) : Int)).tdiv (w32 2))  q_N 0 M h
abbrev rm_X10_hasOf : Room := { frames := 0, cells := 0, slots := 0, locals := 0 }
theorem mw_X10_hasOf : q_mw RX10 yX10_hasOf cX10_hasOf 5 (some .int) 4 := ⟨⟨ti_X10_hasOf, tl_X10_hasOf, tn_RX10, td_X10_hasOf⟩, by decide +kernel⟩
def f_X10_hasOf (a0 : Int) (a1 : Int) (a2 : Int) (a3 : Int) (M : Mem) : Option Int :=
  if ¬ w32 a2 = 0 then (if ¬ w32 a3 = 0 then (q_al M 72 184 a0 fun v1 =>
  q_al M 38 16 a1 fun v2 =>
  some (v1 - v2))
  else (q_al M 38 16 a0 fun v3 =>
  q_al M 72 184 a0 fun v4 =>
  some (v3 + v4)))
  else (if ¬ w32 a3 = 0 then (q_al M 38 16 a0 fun v5 =>
  some v5)
  else (q_al M 38 16 a0 fun v6 =>
  q_nz 2 <| some ((w32 v6).tdiv (w32 2))))
theorem c_X10_hasOf {l : Launch} {D : va_G} {ad : Nat → Nat} {cA : Nat → ClassId} (hi : q_inj syM ad) (a0 : Int) (a1 : Int) (a2 : Int) (a3 : Int) (M : Mem) (r0 : Int) (h : f_X10_hasOf a0 a1 a2 a3 M = some r0) : q_Met l syM D ad cA yX10_hasOf cX10_hasOf 5 (some .int) rm_X10_hasOf [.ref (ad 0), .int (qI a0), .int (qI a1), .int (qI a2), .int (qI a3)] M (some (.int (qI r0))) M := by
  refine q_met (L0 := [(0, .ref (ad 0)), (1, .int (qI a0)), (2, .int (qI a1)), (3, .int (qI a2)), (4, .int (qI a3))]) hi okM (by decide) (Nat.le_of_ble_eq_true rfl) rfl ?_
  intro p e s m args below meth c C hr hlk
  unfold f_X10_hasOf at h
  refine r_iln C dX10_hasOf_0 (k := 3) rfl ?_
  refine r_zne C (tgt := 27) dX10_hasOf_1 (by decide) h (fun h => ?_) (fun h => ?_)
  · refine r_il C dX10_hasOf_27 (k := 4) rfl ?_
    refine r_zne C (tgt := 48) dX10_hasOf_29 (by decide) h (fun h => ?_) (fun h => ?_)
    · refine r_aln C dX10_hasOf_48 (k := 0) rfl ?_
      refine r_gs C km_0 clX10 (f := 40) (by decide) rfl (t := 72) rfl tf_RX10_87 dX10_hasOf_49 ?_
      refine r_iln C dX10_hasOf_52 (k := 1) rfl ?_
      refine r_iald C km_72 dX10_hasOf_53 h (fun v1 h => ?_)
      refine r_aln C dX10_hasOf_54 (k := 0) rfl ?_
      refine r_gs C km_0 clX10 (f := 6) (by decide) rfl (t := 38) rfl tf_RX10_22 dX10_hasOf_55 ?_
      refine r_iln C dX10_hasOf_58 (k := 2) rfl ?_
      refine r_iald C km_38 dX10_hasOf_59 h (fun v2 h => ?_)
      refine r_isub C dX10_hasOf_60 ?_
      exact r_iretp C hr hlk dX10_hasOf_61 h
    · refine r_aln C dX10_hasOf_32 (k := 0) rfl ?_
      refine r_gs C km_0 clX10 (f := 6) (by decide) rfl (t := 38) rfl tf_RX10_22 dX10_hasOf_33 ?_
      refine r_iln C dX10_hasOf_36 (k := 1) rfl ?_
      refine r_iald C km_38 dX10_hasOf_37 h (fun v3 h => ?_)
      refine r_aln C dX10_hasOf_38 (k := 0) rfl ?_
      refine r_gs C km_0 clX10 (f := 40) (by decide) rfl (t := 72) rfl tf_RX10_87 dX10_hasOf_39 ?_
      refine r_iln C dX10_hasOf_42 (k := 1) rfl ?_
      refine r_iald C km_72 dX10_hasOf_43 h (fun v4 h => ?_)
      refine r_iadd C dX10_hasOf_44 ?_
      refine r_goto C (tgt := 61) dX10_hasOf_45 (by decide) ?_
      exact r_iretp C hr hlk dX10_hasOf_61 h
  · refine r_il C dX10_hasOf_4 (k := 4) rfl ?_
    refine r_zne C (tgt := 20) dX10_hasOf_6 (by decide) h (fun h => ?_) (fun h => ?_)
    · refine r_aln C dX10_hasOf_20 (k := 0) rfl ?_
      refine r_gs C km_0 clX10 (f := 6) (by decide) rfl (t := 38) rfl tf_RX10_22 dX10_hasOf_21 ?_
      refine r_iln C dX10_hasOf_24 (k := 1) rfl ?_
      refine r_iald C km_38 dX10_hasOf_25 h (fun v5 h => ?_)
      exact r_iretp C hr hlk dX10_hasOf_26 h
    · refine r_aln C dX10_hasOf_9 (k := 0) rfl ?_
      refine r_gs C km_0 clX10 (f := 6) (by decide) rfl (t := 38) rfl tf_RX10_22 dX10_hasOf_10 ?_
      refine r_iln C dX10_hasOf_13 (k := 1) rfl ?_
      refine r_iald C km_38 dX10_hasOf_14 h (fun v6 h => ?_)
      refine r_ic C dX10_hasOf_15 ?_
      refine r_idiv C dX10_hasOf_16 h (fun h => ?_)
      refine r_goto C (tgt := 26) dX10_hasOf_17 (by decide) ?_
      exact r_iretp C hr hlk dX10_hasOf_26 h
abbrev rm_X10_here : Room := { frames := 0, cells := 0, slots := 0, locals := 0 }
theorem mw_X10_here : q_mw RX10 yX10_here cX10_here 1 (some .int) 0 := ⟨⟨ti_X10_here, tl_X10_here, tn_RX10, td_X10_here⟩, by decide +kernel⟩
def f_X10_here  (M : Mem) : Option Int :=
  q_gf M 0 22 fun v1 =>
  q_gf M 0 21 fun v2 =>
  if w32 v2 ≤ w32 v1 then (some (-1))
  else (q_gf M 0 22 fun v3 =>
  q_al M 33 700 v3 fun v4 =>
  some v4)
theorem c_X10_here {l : Launch} {D : va_G} {ad : Nat → Nat} {cA : Nat → ClassId} (hi : q_inj syM ad)  (M : Mem) (r0 : Int) (h : f_X10_here  M = some r0) : q_Met l syM D ad cA yX10_here cX10_here 1 (some .int) rm_X10_here [.ref (ad 0)] M (some (.int (qI r0))) M := by
  refine q_met (L0 := [(0, .ref (ad 0))]) hi okM (by decide) (Nat.le_of_ble_eq_true rfl) rfl ?_
  intro p e s m args below meth c C hr hlk
  unfold f_X10_here at h
  refine r_aln C dX10_here_0 (k := 0) rfl ?_
  refine r_gf C km_0 clX10 (f := 22) (by decide) rfl rfl rfl tf_RX10_148 dX10_here_1 h (fun v1 h => ?_)
  refine r_aln C dX10_here_4 (k := 0) rfl ?_
  refine r_gf C km_0 clX10 (f := 21) (by decide) rfl rfl rfl tf_RX10_151 dX10_here_5 h (fun v2 h => ?_)
  refine r_cge C (tgt := 23) dX10_here_8 (by decide) h (fun h => ?_) (fun h => ?_)
  · refine r_ic C dX10_here_23 ?_
    exact r_iretp C hr hlk dX10_here_24 h
  · refine r_aln C dX10_here_11 (k := 0) rfl ?_
    refine r_gs C km_0 clX10 (f := 1) (by decide) rfl (t := 33) rfl tf_RX10_7 dX10_here_12 ?_
    refine r_aln C dX10_here_15 (k := 0) rfl ?_
    refine r_gf C km_0 clX10 (f := 22) (by decide) rfl rfl rfl tf_RX10_148 dX10_here_16 h (fun v3 h => ?_)
    refine r_iald C km_33 dX10_here_19 h (fun v4 h => ?_)
    refine r_goto C (tgt := 24) dX10_here_20 (by decide) ?_
    exact r_iretp C hr hlk dX10_here_24 h
abbrev rm_X10_isDigit : Room := { frames := 0, cells := 0, slots := 0, locals := 0 }
theorem mw_X10_isDigit : q_ms yX10_isDigit cX10_isDigit 1 (some .boolean) 1 := ⟨⟨ts_X10_isDigit, tn_RX10, td_X10_isDigit⟩, by decide +kernel⟩
def f_X10_isDigit (a0 : Int) (M : Mem) : Option Int :=
  if w32 a0 < w32 48 then (some 0)
  else (if w32 57 < w32 a0 then (some 0)
  else (some 1))
theorem c_X10_isDigit {l : Launch} {D : va_G} {ad : Nat → Nat} {cA : Nat → ClassId} (hi : q_inj syM ad) (a0 : Int) (M : Mem) (r0 : Int) (h : f_X10_isDigit a0 M = some r0) : q_Met l syM D ad cA yX10_isDigit cX10_isDigit 1 (some .boolean) rm_X10_isDigit [.int (qI a0)] M (some (.int (qI r0))) M := by
  refine q_met (L0 := [(0, .int (qI a0))]) hi okM (by decide) (Nat.le_of_ble_eq_true rfl) rfl ?_
  intro p e s m args below meth c C hr hlk
  unfold f_X10_isDigit at h
  refine r_iln C dX10_isDigit_0 (k := 0) rfl ?_
  refine r_bi C dX10_isDigit_1 (by decide) ?_
  refine r_clt C (tgt := 16) dX10_isDigit_3 (by decide) h (fun h => ?_) (fun h => ?_)
  · refine r_ic C dX10_isDigit_16 ?_
    exact r_zretp C (by decide) hr hlk dX10_isDigit_17 h
  · refine r_iln C dX10_isDigit_6 (k := 0) rfl ?_
    refine r_bi C dX10_isDigit_7 (by decide) ?_
    refine r_cgt C (tgt := 16) dX10_isDigit_9 (by decide) h (fun h => ?_) (fun h => ?_)
    · refine r_ic C dX10_isDigit_16 ?_
      exact r_zretp C (by decide) hr hlk dX10_isDigit_17 h
    · refine r_ic C dX10_isDigit_12 ?_
      refine r_goto C (tgt := 17) dX10_isDigit_13 (by decide) ?_
      exact r_zretp C (by decide) hr hlk dX10_isDigit_17 h
abbrev rm_X10_isFull : Room := { frames := 1, cells := 0, slots := 0, locals := 21 }
theorem mw_X10_isFull : q_mw RX10 yX10_isFull cX10_isFull 2 (some .boolean) 1 := ⟨⟨ti_X10_isFull, tl_X10_isFull, tn_RX10, td_X10_isFull⟩, by decide +kernel⟩
def f_X10_isFull_J28 (x1 : Int) (M : Mem) : Option Int :=
  if ¬ w32 x1 = w32 2 then (some 0)
  else (q_calp (f_X10_fresher 2 M) fun r1 =>
  if ¬ w32 r1 = w32 8 then (some 0)
  else (some 1))
theorem w_X10_isFull_J28 (C : Cx syM p m c cX10_isFull 2 s args RX10 D ad cA) (hr : meth.sig.returnType = (some .boolean)) (hlk : meth.locks = false) (x1 : Int) (M : Mem)  (h : f_X10_isFull_J28 x1 M = some r0) : WM syM p l e rm_X10_isFull s m args below meth c 2 D ad cA (MQ below (q_Post syM D ad cA (some (.int (qI r0))) M) args s 0 0 (q_A syM ad)) M 28 [(0, .ref (ad 0)), (1, .int (qI x1))] [] := by
  unfold f_X10_isFull_J28 at h
  refine r_iln C dX10_isFull_28 (k := 1) rfl ?_
  refine r_ic C dX10_isFull_29 ?_
  refine r_cne C (tgt := 47) dX10_isFull_30 (by decide) h (fun h => ?_) (fun h => ?_)
  · refine r_ic C dX10_isFull_47 ?_
    exact r_zretp C (by decide) hr hlk dX10_isFull_48 h
  · refine r_aln C dX10_isFull_33 (k := 0) rfl ?_
    refine r_ic C dX10_isFull_34 ?_
    obtain ⟨r1, hy, h⟩ := q_calp_some h
    refine r_cvi C (st := []) (c_X10_fresher C.2.2.1 2 M r1 hy) tm_RX10_212 mw_X10_fresher ⟨rfl, rfl⟩ ⟨Nat.le_of_ble_eq_true rfl, Nat.le_of_ble_eq_true rfl⟩ km_0 clX10 rfl rfl (Nat.le_of_ble_eq_true rfl) dX10_isFull_35 ?_
    refine r_bi C dX10_isFull_38 (by decide) ?_
    refine r_cne C (tgt := 47) dX10_isFull_40 (by decide) h (fun h => ?_) (fun h => ?_)
    · refine r_ic C dX10_isFull_47 ?_
      exact r_zretp C (by decide) hr hlk dX10_isFull_48 h
    · refine r_ic C dX10_isFull_43 ?_
      refine r_goto C (tgt := 48) dX10_isFull_44 (by decide) ?_
      exact r_zretp C (by decide) hr hlk dX10_isFull_48 h
def f_X10_isFull_J14 (x1 : Int) (M : Mem) : Option Int :=
  if ¬ w32 x1 = w32 1 then (f_X10_isFull_J28 x1 M)
  else (q_calp (f_X10_fresher 1 M) fun r1 =>
  if w32 r1 = w32 4 then (some 1)
  else (f_X10_isFull_J28 x1 M))
theorem w_X10_isFull_J14 (C : Cx syM p m c cX10_isFull 2 s args RX10 D ad cA) (hr : meth.sig.returnType = (some .boolean)) (hlk : meth.locks = false) (x1 : Int) (M : Mem)  (h : f_X10_isFull_J14 x1 M = some r0) : WM syM p l e rm_X10_isFull s m args below meth c 2 D ad cA (MQ below (q_Post syM D ad cA (some (.int (qI r0))) M) args s 0 0 (q_A syM ad)) M 14 [(0, .ref (ad 0)), (1, .int (qI x1))] [] := by
  unfold f_X10_isFull_J14 at h
  refine r_iln C dX10_isFull_14 (k := 1) rfl ?_
  refine r_ic C dX10_isFull_15 ?_
  refine r_cne C (tgt := 28) dX10_isFull_16 (by decide) h (fun h => ?_) (fun h => ?_)
  · exact w_X10_isFull_J28 C hr hlk x1 M  h
  · refine r_aln C dX10_isFull_19 (k := 0) rfl ?_
    refine r_ic C dX10_isFull_20 ?_
    obtain ⟨r1, hy, h⟩ := q_calp_some h
    refine r_cvi C (st := []) (c_X10_fresher C.2.2.1 1 M r1 hy) tm_RX10_212 mw_X10_fresher ⟨rfl, rfl⟩ ⟨Nat.le_of_ble_eq_true rfl, Nat.le_of_ble_eq_true rfl⟩ km_0 clX10 rfl rfl (Nat.le_of_ble_eq_true rfl) dX10_isFull_21 ?_
    refine r_ic C dX10_isFull_24 ?_
    refine r_ceq C (tgt := 43) dX10_isFull_25 (by decide) h (fun h => ?_) (fun h => ?_)
    · refine r_ic C dX10_isFull_43 ?_
      refine r_goto C (tgt := 48) dX10_isFull_44 (by decide) ?_
      exact r_zretp C (by decide) hr hlk dX10_isFull_48 h
    · exact w_X10_isFull_J28 C hr hlk x1 M  h
def f_X10_isFull (a0 : Int) (M : Mem) : Option Int :=
  if ¬ w32 a0 = 0 then (f_X10_isFull_J14 a0 M)
  else (q_calp (f_X10_fresher 0 M) fun r1 =>
  if w32 r1 = w32 8 then (some 1)
  else (f_X10_isFull_J14 a0 M))
theorem c_X10_isFull {l : Launch} {D : va_G} {ad : Nat → Nat} {cA : Nat → ClassId} (hi : q_inj syM ad) (a0 : Int) (M : Mem) (r0 : Int) (h : f_X10_isFull a0 M = some r0) : q_Met l syM D ad cA yX10_isFull cX10_isFull 2 (some .boolean) rm_X10_isFull [.ref (ad 0), .int (qI a0)] M (some (.int (qI r0))) M := by
  refine q_met (L0 := [(0, .ref (ad 0)), (1, .int (qI a0))]) hi okM (by decide) (Nat.le_of_ble_eq_true rfl) rfl ?_
  intro p e s m args below meth c C hr hlk
  unfold f_X10_isFull at h
  refine r_iln C dX10_isFull_0 (k := 1) rfl ?_
  refine r_zne C (tgt := 14) dX10_isFull_1 (by decide) h (fun h => ?_) (fun h => ?_)
  · exact w_X10_isFull_J14 C hr hlk a0 M  h
  · refine r_aln C dX10_isFull_4 (k := 0) rfl ?_
    refine r_ic C dX10_isFull_5 ?_
    obtain ⟨r1, hy, h⟩ := q_calp_some h
    refine r_cvi C (st := []) (c_X10_fresher C.2.2.1 0 M r1 hy) tm_RX10_212 mw_X10_fresher ⟨rfl, rfl⟩ ⟨Nat.le_of_ble_eq_true rfl, Nat.le_of_ble_eq_true rfl⟩ km_0 clX10 rfl rfl (Nat.le_of_ble_eq_true rfl) dX10_isFull_6 ?_
    refine r_bi C dX10_isFull_9 (by decide) ?_
    refine r_ceq C (tgt := 43) dX10_isFull_11 (by decide) h (fun h => ?_) (fun h => ?_)
    · refine r_ic C dX10_isFull_43 ?_
      refine r_goto C (tgt := 48) dX10_isFull_44 (by decide) ?_
      exact r_zretp C (by decide) hr hlk dX10_isFull_48 h
    · exact w_X10_isFull_J14 C hr hlk a0 M  h
abbrev rm_X10_isRest : Room := { frames := 1, cells := 0, slots := 0, locals := 24 }
theorem mw_X10_isRest : q_mw RX10 yX10_isRest cX10_isRest 6 (some .boolean) 3 := ⟨⟨ti_X10_isRest, tl_X10_isRest, tn_RX10, td_X10_isRest⟩, by decide +kernel⟩
def f_X10_isRest (a0 : Int) (a1 : Int) (a2 : Int) (M : Mem) : Option Int :=
  q_nz 2 <| q_nz 2 <| q_calp (f_X10_hasOf a0 a1 (1 - ((w32 a2).tdiv (w32 2))) ((w32 a2).tmod (w32 2)) M) fun r1 =>
  q_calp (f_X10_hasOf a0 a1 ((w32 a2).tdiv (w32 2)) ((w32 a2).tmod (w32 2)) M) fun r2 =>
  if w32 r2 < w32 r1 then (some 0)
  else (q_calp (f_X10_hasOf a1 a0 (1 - ((w32 a2).tmod (w32 2))) ((w32 a2).tdiv (w32 2)) M) fun r3 =>
  q_calp (f_X10_hasOf a1 a0 ((w32 a2).tmod (w32 2)) ((w32 a2).tdiv (w32 2)) M) fun r4 =>
  if w32 r4 < w32 r3 then (some 0)
  else (some 1))
theorem c_X10_isRest {l : Launch} {D : va_G} {ad : Nat → Nat} {cA : Nat → ClassId} (hi : q_inj syM ad) (a0 : Int) (a1 : Int) (a2 : Int) (M : Mem) (r0 : Int) (h : f_X10_isRest a0 a1 a2 M = some r0) : q_Met l syM D ad cA yX10_isRest cX10_isRest 6 (some .boolean) rm_X10_isRest [.ref (ad 0), .int (qI a0), .int (qI a1), .int (qI a2)] M (some (.int (qI r0))) M := by
  refine q_met (L0 := [(0, .ref (ad 0)), (1, .int (qI a0)), (2, .int (qI a1)), (3, .int (qI a2))]) hi okM (by decide) (Nat.le_of_ble_eq_true rfl) rfl ?_
  intro p e s m args below meth c C hr hlk
  unfold f_X10_isRest at h
  refine r_iln C dX10_isRest_0 (k := 3) rfl ?_
  refine r_ic C dX10_isRest_1 ?_
  refine r_idiv C dX10_isRest_2 h (fun h => ?_)
  refine r_is C (L1 := [(4, .int (qI ((w32 a2).tdiv (w32 2)))), (0, .ref (ad 0)), (1, .int (qI a0)), (2, .int (qI a1)), (3, .int (qI a2))]) dX10_isRest_3 (by decide) rfl ?_
  refine r_iln C dX10_isRest_5 (k := 4) rfl ?_
  refine r_ic C dX10_isRest_6 ?_
  refine r_irem C dX10_isRest_7 h (fun h => ?_)
  refine r_is C (L1 := [(5, .int (qI ((w32 a2).tmod (w32 2)))), (4, .int (qI ((w32 a2).tdiv (w32 2)))), (0, .ref (ad 0)), (1, .int (qI a0)), (2, .int (qI a1)), (3, .int (qI a2))]) dX10_isRest_8 (by decide) rfl ?_
  refine r_aln C dX10_isRest_10 (k := 2) rfl ?_
  refine r_iln C dX10_isRest_11 (k := 3) rfl ?_
  refine r_iln C dX10_isRest_12 (k := 4) rfl ?_
  refine r_ic C dX10_isRest_13 ?_
  refine r_il C dX10_isRest_14 (k := 1) rfl ?_
  refine r_isub C dX10_isRest_16 ?_
  refine r_il C dX10_isRest_17 (k := 0) rfl ?_
  obtain ⟨r1, hy, h⟩ := q_calp_some h
  refine r_cvi C (st := []) (c_X10_hasOf C.2.2.1 a0 a1 (1 - ((w32 a2).tdiv (w32 2))) ((w32 a2).tmod (w32 2)) M r1 hy) tm_RX10_461 mw_X10_hasOf ⟨rfl, rfl⟩ ⟨Nat.le_of_ble_eq_true rfl, Nat.le_of_ble_eq_true rfl⟩ km_0 clX10 rfl rfl (Nat.le_of_ble_eq_true rfl) dX10_isRest_19 ?_
  refine r_aln C dX10_isRest_22 (k := 2) rfl ?_
  refine r_iln C dX10_isRest_23 (k := 3) rfl ?_
  refine r_iln C dX10_isRest_24 (k := 4) rfl ?_
  refine r_il C dX10_isRest_25 (k := 1) rfl ?_
  refine r_il C dX10_isRest_27 (k := 0) rfl ?_
  obtain ⟨r2, hy, h⟩ := q_calp_some h
  refine r_cvi C (st := [.int (qI r1)]) (c_X10_hasOf C.2.2.1 a0 a1 ((w32 a2).tdiv (w32 2)) ((w32 a2).tmod (w32 2)) M r2 hy) tm_RX10_461 mw_X10_hasOf ⟨rfl, rfl⟩ ⟨Nat.le_of_ble_eq_true rfl, Nat.le_of_ble_eq_true rfl⟩ km_0 clX10 rfl rfl (Nat.le_of_ble_eq_true rfl) dX10_isRest_29 ?_
  refine r_cgt C (tgt := 64) dX10_isRest_32 (by decide) h (fun h => ?_) (fun h => ?_)
  · refine r_ic C dX10_isRest_64 ?_
    exact r_zretp C (by decide) hr hlk dX10_isRest_65 h
  · refine r_aln C dX10_isRest_35 (k := 2) rfl ?_
    refine r_iln C dX10_isRest_36 (k := 4) rfl ?_
    refine r_iln C dX10_isRest_37 (k := 3) rfl ?_
    refine r_ic C dX10_isRest_38 ?_
    refine r_il C dX10_isRest_39 (k := 0) rfl ?_
    refine r_isub C dX10_isRest_41 ?_
    refine r_il C dX10_isRest_42 (k := 1) rfl ?_
    obtain ⟨r3, hy, h⟩ := q_calp_some h
    refine r_cvi C (st := []) (c_X10_hasOf C.2.2.1 a1 a0 (1 - ((w32 a2).tmod (w32 2))) ((w32 a2).tdiv (w32 2)) M r3 hy) tm_RX10_461 mw_X10_hasOf ⟨rfl, rfl⟩ ⟨Nat.le_of_ble_eq_true rfl, Nat.le_of_ble_eq_true rfl⟩ km_0 clX10 rfl rfl (Nat.le_of_ble_eq_true rfl) dX10_isRest_44 ?_
    refine r_aln C dX10_isRest_47 (k := 2) rfl ?_
    refine r_iln C dX10_isRest_48 (k := 4) rfl ?_
    refine r_iln C dX10_isRest_49 (k := 3) rfl ?_
    refine r_il C dX10_isRest_50 (k := 0) rfl ?_
    refine r_il C dX10_isRest_52 (k := 1) rfl ?_
    obtain ⟨r4, hy, h⟩ := q_calp_some h
    refine r_cvi C (st := [.int (qI r3)]) (c_X10_hasOf C.2.2.1 a1 a0 ((w32 a2).tmod (w32 2)) ((w32 a2).tdiv (w32 2)) M r4 hy) tm_RX10_461 mw_X10_hasOf ⟨rfl, rfl⟩ ⟨Nat.le_of_ble_eq_true rfl, Nat.le_of_ble_eq_true rfl⟩ km_0 clX10 rfl rfl (Nat.le_of_ble_eq_true rfl) dX10_isRest_54 ?_
    refine r_cgt C (tgt := 64) dX10_isRest_57 (by decide) h (fun h => ?_) (fun h => ?_)
    · refine r_ic C dX10_isRest_64 ?_
      exact r_zretp C (by decide) hr hlk dX10_isRest_65 h
    · refine r_ic C dX10_isRest_60 ?_
      refine r_goto C (tgt := 65) dX10_isRest_61 (by decide) ?_
      exact r_zretp C (by decide) hr hlk dX10_isRest_65 h
abbrev rm_X10_isSign : Room := { frames := 0, cells := 0, slots := 0, locals := 0 }
theorem mw_X10_isSign : q_mw RX10 yX10_isSign cX10_isSign 2 (some .boolean) 1 := ⟨⟨ti_X10_isSign, tl_X10_isSign, tn_RX10, td_X10_isSign⟩, by decide +kernel⟩
def f_X10_isSign (a0 : Int) (M : Mem) : Option Int :=
  q_gf M 0 26 fun v1 =>
  if ¬ w32 v1 = 0 then (some 0)
  else (q_gf M 0 24 fun v2 =>
  if ¬ w32 v2 = w32 3 then (some 0)
  else (q_gf M 0 25 fun v3 =>
  if ¬ w32 v3 = w32 a0 then (some 0)
  else (some 1)))
theorem c_X10_isSign {l : Launch} {D : va_G} {ad : Nat → Nat} {cA : Nat → ClassId} (hi : q_inj syM ad) (a0 : Int) (M : Mem) (r0 : Int) (h : f_X10_isSign a0 M = some r0) : q_Met l syM D ad cA yX10_isSign cX10_isSign 2 (some .boolean) rm_X10_isSign [.ref (ad 0), .int (qI a0)] M (some (.int (qI r0))) M := by
  refine q_met (L0 := [(0, .ref (ad 0)), (1, .int (qI a0))]) hi okM (by decide) (Nat.le_of_ble_eq_true rfl) rfl ?_
  intro p e s m args below meth c C hr hlk
  unfold f_X10_isSign at h
  refine r_aln C dX10_isSign_0 (k := 0) rfl ?_
  refine r_gf C km_0 clX10 (f := 26) (by decide) rfl rfl rfl tf_RX10_196 dX10_isSign_1 h (fun v1 h => ?_)
  refine r_zne C (tgt := 27) dX10_isSign_4 (by decide) h (fun h => ?_) (fun h => ?_)
  · refine r_ic C dX10_isSign_27 ?_
    exact r_zretp C (by decide) hr hlk dX10_isSign_28 h
  · refine r_aln C dX10_isSign_7 (k := 0) rfl ?_
    refine r_gf C km_0 clX10 (f := 24) (by decide) rfl rfl rfl tf_RX10_161 dX10_isSign_8 h (fun v2 h => ?_)
    refine r_ic C dX10_isSign_11 ?_
    refine r_cne C (tgt := 27) dX10_isSign_12 (by decide) h (fun h => ?_) (fun h => ?_)
    · refine r_ic C dX10_isSign_27 ?_
      exact r_zretp C (by decide) hr hlk dX10_isSign_28 h
    · refine r_aln C dX10_isSign_15 (k := 0) rfl ?_
      refine r_gf C km_0 clX10 (f := 25) (by decide) rfl rfl rfl tf_RX10_171 dX10_isSign_16 h (fun v3 h => ?_)
      refine r_iln C dX10_isSign_19 (k := 1) rfl ?_
      refine r_cne C (tgt := 27) dX10_isSign_20 (by decide) h (fun h => ?_) (fun h => ?_)
      · refine r_ic C dX10_isSign_27 ?_
        exact r_zretp C (by decide) hr hlk dX10_isSign_28 h
      · refine r_ic C dX10_isSign_23 ?_
        refine r_goto C (tgt := 28) dX10_isSign_24 (by decide) ?_
        exact r_zretp C (by decide) hr hlk dX10_isSign_28 h
abbrev rm_X10_isSmall : Room := { frames := 0, cells := 0, slots := 0, locals := 0 }
theorem mw_X10_isSmall : q_ms yX10_isSmall cX10_isSmall 1 (some .boolean) 1 := ⟨⟨ts_X10_isSmall, tn_RX10, td_X10_isSmall⟩, by decide +kernel⟩
def f_X10_isSmall (a0 : Int) (M : Mem) : Option Int :=
  if w32 a0 < w32 97 then (some 0)
  else (if w32 122 < w32 a0 then (some 0)
  else (some 1))
theorem c_X10_isSmall {l : Launch} {D : va_G} {ad : Nat → Nat} {cA : Nat → ClassId} (hi : q_inj syM ad) (a0 : Int) (M : Mem) (r0 : Int) (h : f_X10_isSmall a0 M = some r0) : q_Met l syM D ad cA yX10_isSmall cX10_isSmall 1 (some .boolean) rm_X10_isSmall [.int (qI a0)] M (some (.int (qI r0))) M := by
  refine q_met (L0 := [(0, .int (qI a0))]) hi okM (by decide) (Nat.le_of_ble_eq_true rfl) rfl ?_
  intro p e s m args below meth c C hr hlk
  unfold f_X10_isSmall at h
  refine r_iln C dX10_isSmall_0 (k := 0) rfl ?_
  refine r_bi C dX10_isSmall_1 (by decide) ?_
  refine r_clt C (tgt := 16) dX10_isSmall_3 (by decide) h (fun h => ?_) (fun h => ?_)
  · refine r_ic C dX10_isSmall_16 ?_
    exact r_zretp C (by decide) hr hlk dX10_isSmall_17 h
  · refine r_iln C dX10_isSmall_6 (k := 0) rfl ?_
    refine r_bi C dX10_isSmall_7 (by decide) ?_
    refine r_cgt C (tgt := 16) dX10_isSmall_9 (by decide) h (fun h => ?_) (fun h => ?_)
    · refine r_ic C dX10_isSmall_16 ?_
      exact r_zretp C (by decide) hr hlk dX10_isSmall_17 h
    · refine r_ic C dX10_isSmall_12 ?_
      refine r_goto C (tgt := 17) dX10_isSmall_13 (by decide) ?_
      exact r_zretp C (by decide) hr hlk dX10_isSmall_17 h
abbrev rm_X10_isWord : Room := { frames := 0, cells := 0, slots := 0, locals := 0 }
theorem mw_X10_isWord : q_mw RX10 yX10_isWord cX10_isWord 2 (some .boolean) 1 := ⟨⟨ti_X10_isWord, tl_X10_isWord, tn_RX10, td_X10_isWord⟩, by decide +kernel⟩
def f_X10_isWord (a0 : Int) (M : Mem) : Option Int :=
  q_gf M 0 26 fun v1 =>
  if ¬ w32 v1 = 0 then (some 0)
  else (q_gf M 0 24 fun v2 =>
  if ¬ w32 v2 = 0 then (some 0)
  else (q_gf M 0 25 fun v3 =>
  if ¬ w32 v3 = w32 a0 then (some 0)
  else (some 1)))
theorem c_X10_isWord {l : Launch} {D : va_G} {ad : Nat → Nat} {cA : Nat → ClassId} (hi : q_inj syM ad) (a0 : Int) (M : Mem) (r0 : Int) (h : f_X10_isWord a0 M = some r0) : q_Met l syM D ad cA yX10_isWord cX10_isWord 2 (some .boolean) rm_X10_isWord [.ref (ad 0), .int (qI a0)] M (some (.int (qI r0))) M := by
  refine q_met (L0 := [(0, .ref (ad 0)), (1, .int (qI a0))]) hi okM (by decide) (Nat.le_of_ble_eq_true rfl) rfl ?_
  intro p e s m args below meth c C hr hlk
  unfold f_X10_isWord at h
  refine r_aln C dX10_isWord_0 (k := 0) rfl ?_
  refine r_gf C km_0 clX10 (f := 26) (by decide) rfl rfl rfl tf_RX10_196 dX10_isWord_1 h (fun v1 h => ?_)
  refine r_zne C (tgt := 26) dX10_isWord_4 (by decide) h (fun h => ?_) (fun h => ?_)
  · refine r_ic C dX10_isWord_26 ?_
    exact r_zretp C (by decide) hr hlk dX10_isWord_27 h
  · refine r_aln C dX10_isWord_7 (k := 0) rfl ?_
    refine r_gf C km_0 clX10 (f := 24) (by decide) rfl rfl rfl tf_RX10_161 dX10_isWord_8 h (fun v2 h => ?_)
    refine r_zne C (tgt := 26) dX10_isWord_11 (by decide) h (fun h => ?_) (fun h => ?_)
    · refine r_ic C dX10_isWord_26 ?_
      exact r_zretp C (by decide) hr hlk dX10_isWord_27 h
    · refine r_aln C dX10_isWord_14 (k := 0) rfl ?_
      refine r_gf C km_0 clX10 (f := 25) (by decide) rfl rfl rfl tf_RX10_171 dX10_isWord_15 h (fun v3 h => ?_)
      refine r_iln C dX10_isWord_18 (k := 1) rfl ?_
      refine r_cne C (tgt := 26) dX10_isWord_19 (by decide) h (fun h => ?_) (fun h => ?_)
      · refine r_ic C dX10_isWord_26 ?_
        exact r_zretp C (by decide) hr hlk dX10_isWord_27 h
      · refine r_ic C dX10_isWord_22 ?_
        refine r_goto C (tgt := 27) dX10_isWord_23 (by decide) ?_
        exact r_zretp C (by decide) hr hlk dX10_isWord_27 h
abbrev rm_X10_keep : Room := { frames := 1, cells := 0, slots := 0, locals := 25 }
theorem mw_X10_keep : q_mw RX10 yX10_keep cX10_keep 1 (some .int) 0 := ⟨⟨ti_X10_keep, tl_X10_keep, tn_RX10, td_X10_keep⟩, by decide +kernel⟩
def f_X10_keep  (M : Mem) : Res :=
  q_pf M 0 0 0 fun M1 =>
  q_call (f_X10_copies 2 0 M1) fun r2 M3 =>
  q_pz M3 0 45 1 fun M4 =>
  q_al M4 67 23 0 fun v5 =>
  some (v5, M4)
theorem c_X10_keep {l : Launch} {D : va_G} {ad : Nat → Nat} {cA : Nat → ClassId} (hi : q_inj syM ad)  (M : Mem) (r0 : Int) (M0 : Mem) (h : f_X10_keep  M = some (r0, M0)) : q_Met l syM D ad cA yX10_keep cX10_keep 1 (some .int) rm_X10_keep [.ref (ad 0)] M (some (.int (qI r0))) M0 := by
  refine q_met (L0 := [(0, .ref (ad 0))]) hi okM (by decide) (Nat.le_of_ble_eq_true rfl) rfl ?_
  intro p e s m args below meth c C hr hlk
  unfold f_X10_keep at h
  refine r_aln C dX10_keep_0 (k := 0) rfl ?_
  refine r_ic C dX10_keep_1 ?_
  refine r_pf C km_0 clX10 (f := 0) (by decide) rfl q_dI rfl rfl tf_RX10_142 dX10_keep_2 h (fun M1 h => ?_)
  refine r_aln C dX10_keep_5 (k := 0) rfl ?_
  refine r_ic C dX10_keep_6 ?_
  refine r_ic C dX10_keep_7 ?_
  obtain ⟨r2, M3, hy, h⟩ := q_call_some h
  refine r_cvv C (st := []) (c_X10_copies C.2.2.1 2 0 M1 r2 M3 hy) tm_RX10_405 mw_X10_copies ⟨rfl, rfl⟩ ⟨Nat.le_of_ble_eq_true rfl, Nat.le_of_ble_eq_true rfl⟩ km_0 clX10 rfl rfl (Nat.le_of_ble_eq_true rfl) dX10_keep_8 ?_
  refine r_aln C dX10_keep_11 (k := 0) rfl ?_
  refine r_ic C dX10_keep_12 ?_
  refine r_pz C km_0 clX10 (f := 45) (by decide) rfl q_dZ rfl rfl tf_RX10_298 dX10_keep_13 h (fun M4 h => ?_)
  refine r_aln C dX10_keep_16 (k := 0) rfl ?_
  refine r_gs C km_0 clX10 (f := 35) (by decide) rfl (t := 67) rfl tf_RX10_72 dX10_keep_17 ?_
  refine r_ic C dX10_keep_20 ?_
  refine r_iald C km_67 dX10_keep_21 h (fun v5 h => ?_)
  exact r_iret C hr hlk dX10_keep_22 h
abbrev rm_X10_wrong : Room := { frames := 0, cells := 0, slots := 0, locals := 0 }
theorem mw_X10_wrong : q_mw RX10 yX10_wrong cX10_wrong 2 none 1 := ⟨⟨ti_X10_wrong, tl_X10_wrong, tn_RX10, td_X10_wrong⟩, by decide +kernel⟩
def f_X10_wrong (a0 : Int) (M : Mem) : Res :=
  q_gf M 0 26 fun v1 =>
  if w32 v1 = 0 then (q_pf M 0 26 a0 fun M2 =>
  q_gf M2 0 23 fun v3 =>
  q_pf M2 0 27 v3 fun M4 =>
  some (0, M4))
  else (some (0, M))
theorem c_X10_wrong {l : Launch} {D : va_G} {ad : Nat → Nat} {cA : Nat → ClassId} (hi : q_inj syM ad) (a0 : Int) (M : Mem) (r0 : Int) (M0 : Mem) (h : f_X10_wrong a0 M = some (r0, M0)) : q_Met l syM D ad cA yX10_wrong cX10_wrong 2 none rm_X10_wrong [.ref (ad 0), .int (qI a0)] M none M0 := by
  refine q_met (L0 := [(0, .ref (ad 0)), (1, .int (qI a0))]) hi okM (by decide) (Nat.le_of_ble_eq_true rfl) rfl ?_
  intro p e s m args below meth c C hr hlk
  unfold f_X10_wrong at h
  refine r_aln C dX10_wrong_0 (k := 0) rfl ?_
  refine r_gf C km_0 clX10 (f := 26) (by decide) rfl rfl rfl tf_RX10_196 dX10_wrong_1 h (fun v1 h => ?_)
  refine r_zeq C (tgt := 8) dX10_wrong_4 (by decide) h (fun h => ?_) (fun h => ?_)
  · refine r_aln C dX10_wrong_8 (k := 0) rfl ?_
    refine r_iln C dX10_wrong_9 (k := 1) rfl ?_
    refine r_pf C km_0 clX10 (f := 26) (by decide) rfl q_dI rfl rfl tf_RX10_196 dX10_wrong_10 h (fun M2 h => ?_)
    refine r_aln C dX10_wrong_13 (k := 0) rfl ?_
    refine r_aln C dX10_wrong_14 (k := 0) rfl ?_
    refine r_gf C km_0 clX10 (f := 23) (by decide) rfl rfl rfl tf_RX10_158 dX10_wrong_15 h (fun v3 h => ?_)
    refine r_pf C km_0 clX10 (f := 27) (by decide) rfl q_dI rfl rfl tf_RX10_199 dX10_wrong_18 h (fun M4 h => ?_)
    exact r_vret C hr hlk dX10_wrong_21 h
  · exact r_vret C hr hlk dX10_wrong_7 h
abbrev rm_X10_knot : Room := { frames := 1, cells := 0, slots := 0, locals := 21 }
theorem mw_X10_knot : q_mw RX10 yX10_knot cX10_knot 1 none 0 := ⟨⟨ti_X10_knot, tl_X10_knot, tn_RX10, td_X10_knot⟩, by decide +kernel⟩
def f_X10_knot  (M : Mem) : Res :=
  q_gf M 0 26 fun v1 =>
  if w32 v1 = 0 then (q_gf M 0 31 fun v2 =>
  if ¬ w32 v2 = w32 64 then (q_gf M 0 31 fun v3 =>
  q_pf M 0 31 (v3 + 1) fun M4 =>
  some (0, M4))
  else (q_call (f_X10_wrong 2 M) fun r5 M6 =>
  some (0, M6)))
  else (some (0, M))
theorem c_X10_knot {l : Launch} {D : va_G} {ad : Nat → Nat} {cA : Nat → ClassId} (hi : q_inj syM ad)  (M : Mem) (r0 : Int) (M0 : Mem) (h : f_X10_knot  M = some (r0, M0)) : q_Met l syM D ad cA yX10_knot cX10_knot 1 none rm_X10_knot [.ref (ad 0)] M none M0 := by
  refine q_met (L0 := [(0, .ref (ad 0))]) hi okM (by decide) (Nat.le_of_ble_eq_true rfl) rfl ?_
  intro p e s m args below meth c C hr hlk
  unfold f_X10_knot at h
  refine r_aln C dX10_knot_0 (k := 0) rfl ?_
  refine r_gf C km_0 clX10 (f := 26) (by decide) rfl rfl rfl tf_RX10_196 dX10_knot_1 h (fun v1 h => ?_)
  refine r_zeq C (tgt := 8) dX10_knot_4 (by decide) h (fun h => ?_) (fun h => ?_)
  · refine r_aln C dX10_knot_8 (k := 0) rfl ?_
    refine r_gf C km_0 clX10 (f := 31) (by decide) rfl rfl rfl tf_RX10_255 dX10_knot_9 h (fun v2 h => ?_)
    refine r_bi C dX10_knot_12 (by decide) ?_
    refine r_cne C (tgt := 25) dX10_knot_14 (by decide) h (fun h => ?_) (fun h => ?_)
    · refine r_aln C dX10_knot_25 (k := 0) rfl ?_
      refine r_dup C rfl dX10_knot_26 ?_
      refine r_gf C km_0 clX10 (f := 31) (by decide) rfl rfl rfl tf_RX10_255 dX10_knot_27 h (fun v3 h => ?_)
      refine r_ic C dX10_knot_30 ?_
      refine r_iadd C dX10_knot_31 ?_
      refine r_pf C km_0 clX10 (f := 31) (by decide) rfl q_dI rfl rfl tf_RX10_255 dX10_knot_32 h (fun M4 h => ?_)
      exact r_vret C hr hlk dX10_knot_35 h
    · refine r_aln C dX10_knot_17 (k := 0) rfl ?_
      refine r_ic C dX10_knot_18 ?_
      obtain ⟨r5, M6, hy, h⟩ := q_call_some h
      refine r_cvv C (st := []) (c_X10_wrong C.2.2.1 2 M r5 M6 hy) tm_RX10_205 mw_X10_wrong ⟨rfl, rfl⟩ ⟨Nat.le_of_ble_eq_true rfl, Nat.le_of_ble_eq_true rfl⟩ km_0 clX10 rfl rfl (Nat.le_of_ble_eq_true rfl) dX10_knot_19 ?_
      refine r_goto C (tgt := 35) dX10_knot_22 (by decide) ?_
      exact r_vret C hr hlk dX10_knot_35 h
  · exact r_vret C hr hlk dX10_knot_7 h
end P13c
