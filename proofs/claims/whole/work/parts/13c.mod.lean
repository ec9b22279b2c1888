section P13c
variable {p : Program} {l : Launch} {e : Env} {s : State} {m : MethodId} {args : Array Value} {below : List Frame} {meth : Method} {c : Code} {D : va_G} {ad : Nat → Nat} {cA : Nat → ClassId} {r0 : Int} {M0 : Mem}
abbrev rm_X10_begins : Room := { frames := 1, cells := 0, slots := 0, locals := 23 }
theorem mw_X10_begins : q_mw RX10 yX10_begins cX10_begins 1 none 0 := ⟨⟨ti_X10_begins, tl_X10_begins, tn_RX10, td_X10_begins⟩, by decide +kernel⟩
def f_X10_begins  (M : Mem) : Res :=
  q_call (f_X10_starts 0 M) fun r1 M2 =>
  some (0, M2)
theorem c_X10_begins {l : Launch} {D : va_G} {ad : Nat → Nat} {cA : Nat → ClassId} (hi : q_inj syM ad)  (M : Mem) (r0 : Int) (M0 : Mem) (h : f_X10_begins  M = some (r0, M0)) : q_Met l syM D ad cA yX10_begins cX10_begins 1 none rm_X10_begins [.ref (ad 0)] M none M0 := by
  refine q_met (L0 := [(0, .ref (ad 0))]) hi okM (by decide) (Nat.le_of_ble_eq_true rfl) rfl ?_
  intro p e s m args below meth c C hr hlk
  unfold f_X10_begins at h
  refine r_aln C dX10_begins_0 (k := 0) rfl ?_
  refine r_ic C dX10_begins_1 ?_
  obtain ⟨r1, M2, hy, h⟩ := q_call_some h
  refine r_cvv C (st := []) (c_X10_starts C.2.2.1 0 M r1 M2 hy) tm_RX10_325 mw_X10_starts ⟨rfl, rfl⟩ ⟨Nat.le_of_ble_eq_true rfl, Nat.le_of_ble_eq_true rfl⟩ km_0 clX10 rfl rfl (Nat.le_of_ble_eq_true rfl) dX10_begins_2 ?_
  exact r_vret C hr hlk dX10_begins_5 h
abbrev rm_X10_goneWith : Room := { frames := 0, cells := 0, slots := 0, locals := 0 }
theorem mw_X10_goneWith : q_mw RX10 yX10_goneWith cX10_goneWith 4 (some .int) 1 := ⟨⟨ti_X10_goneWith, tl_X10_goneWith, tn_RX10, td_X10_goneWith⟩, by decide +kernel⟩
def f_X10_goneWith_B4 (x1 : Int) (M : Mem) (x2 : Int) (x3 : Int) (g4 : Int → Int → Option Int) : Option Int :=
  q_al M 35 14 0 fun v1 =>
  if w32 v1 ≤ w32 x3 then (some x2)
  else (q_al M 75 184 x3 fun v2 =>
  if ¬ w32 v2 = w32 x1 then (g4 (x2 + 0) (x3 + 1))
  else (g4 (x2 + 1) (x3 + 1)))
def f_X10_goneWith_L4 (x1 : Int) (M : Mem) (n : Nat) (x2 : Int) (x3 : Int) : Option Int := qlp2 (fun x2 x3 g4 => f_X10_goneWith_B4 x1 M x2 x3 g4) n x2 x3
theorem w_X10_goneWith_B4 (C : Cx syM p m c cX10_goneWith 4 s args RX10 D ad cA) (hr : meth.sig.returnType = (some .int)) (hlk : meth.locks = false)  (x1 : Int) (x2 : Int) (x3 : Int) (M : Mem) (g4 : Int → Int → Option Int)  (ih4 : ∀ (ux2 ux3 : Int) , g4 ux2 ux3  = some r0 → WM syM p l e rm_X10_goneWith s m args below meth c 4 D ad cA (MQ below (q_Post syM D ad cA (some (.int (qI r0))) M) args s 0 0 (q_A syM ad)) M 4 [(0, .ref (ad 0)), (1, .int (qI x1)), (2, .int (qI ux2)), (3, .int (qI ux3))] []) (h : f_X10_goneWith_B4 x1 M x2 x3 g4 = some r0) : WM syM p l e rm_X10_goneWith s m args below meth c 4 D ad cA (MQ below (q_Post syM D ad cA (some (.int (qI r0))) M) args s 0 0 (q_A syM ad)) M 4 [(0, .ref (ad 0)), (1, .int (qI x1)), (2, .int (qI x2)), (3, .int (qI x3))] [] := by
  unfold f_X10_goneWith_B4 at h
  refine r_iln C dX10_goneWith_4 (k := 3) rfl ?_
  refine r_aln C dX10_goneWith_5 (k := 0) rfl ?_
  refine r_gs C km_0 clX10 (f := 3) (by decide) rfl (t := 35) rfl tf_RX10_13 dX10_goneWith_6 ?_
  refine r_ic C dX10_goneWith_9 ?_
  refine r_iald C km_35 dX10_goneWith_10 h (fun v1 h => ?_)
  refine r_cge C (tgt := 38) dX10_goneWith_11 (by decide) h (fun h => ?_) (fun h => ?_)
  · refine r_iln C dX10_goneWith_38 (k := 2) rfl ?_
    exact r_iretp C hr hlk dX10_goneWith_39 h
  · refine r_iln C dX10_goneWith_14 (k := 2) rfl ?_
    refine r_aln C dX10_goneWith_15 (k := 0) rfl ?_
    refine r_gs C km_0 clX10 (f := 43) (by decide) rfl (t := 75) rfl tf_RX10_96 dX10_goneWith_16 ?_
    refine r_iln C dX10_goneWith_19 (k := 3) rfl ?_
    refine r_iald C km_75 dX10_goneWith_20 h (fun v2 h => ?_)
    refine r_iln C dX10_goneWith_21 (k := 1) rfl ?_
    refine r_cne C (tgt := 29) dX10_goneWith_22 (by decide) h (fun h => ?_) (fun h => ?_)
    · refine r_ic C dX10_goneWith_29 ?_
      refine r_iadd C dX10_goneWith_30 ?_
      refine r_isn C (L1 := [(2, .int (qI (x2 + 0))), (0, .ref (ad 0)), (1, .int (qI x1)), (3, .int (qI x3))]) dX10_goneWith_31 (by decide) rfl ?_
      refine r_inc C (L1 := [(3, .int (qI (x3 + 1))), (2, .int (qI (x2 + 0))), (0, .ref (ad 0)), (1, .int (qI x1))]) dX10_goneWith_32 (k := 3) rfl (by decide) rfl ?_
      refine r_goto C (tgt := 4) dX10_goneWith_35 (by decide) ?_
      refine r_drop [2, 3, 1, 0] rfl ?_
      exact ih4 (x2 + 0) (x3 + 1)  h
    · refine r_ic C dX10_goneWith_25 ?_
      refine r_goto C (tgt := 30) dX10_goneWith_26 (by decide) ?_
      refine r_iadd C dX10_goneWith_30 ?_
      refine r_isn C (L1 := [(2, .int (qI (x2 + 1))), (0, .ref (ad 0)), (1, .int (qI x1)), (3, .int (qI x3))]) dX10_goneWith_31 (by decide) rfl ?_
      refine r_inc C (L1 := [(3, .int (qI (x3 + 1))), (2, .int (qI (x2 + 1))), (0, .ref (ad 0)), (1, .int (qI x1))]) dX10_goneWith_32 (k := 3) rfl (by decide) rfl ?_
      refine r_goto C (tgt := 4) dX10_goneWith_35 (by decide) ?_
      refine r_drop [2, 3, 1, 0] rfl ?_
      exact ih4 (x2 + 1) (x3 + 1)  h
theorem w_X10_goneWith_L4 (C : Cx syM p m c cX10_goneWith 4 s args RX10 D ad cA) (hr : meth.sig.returnType = (some .int)) (hlk : meth.locks = false)  (x1 : Int) (M : Mem)  (n : Nat) (x2 : Int) (x3 : Int) (h : f_X10_goneWith_L4 x1 M n x2 x3 = some r0) : WM syM p l e rm_X10_goneWith s m args below meth c 4 D ad cA (MQ below (q_Post syM D ad cA (some (.int (qI r0))) M) args s 0 0 (q_A syM ad)) M 4 [(0, .ref (ad 0)), (1, .int (qI x1)), (2, .int (qI x2)), (3, .int (qI x3))] [] :=
  qlp2_r (Wp := fun ux2 ux3 => WM syM p l e rm_X10_goneWith s m args below meth c 4 D ad cA (MQ below (q_Post syM D ad cA (some (.int (qI r0))) M) args s 0 0 (q_A syM ad)) M 4 [(0, .ref (ad 0)), (1, .int (qI x1)), (2, .int (qI ux2)), (3, .int (qI ux3))] []) (fun ux2 ux3 g4 ih4 h => w_X10_goneWith_B4 C hr hlk x1 ux2 ux3 M g4  ih4 h) n x2 x3 h
def f_X10_goneWith (a0 : Int) (M : Mem) : Option Int :=
  f_X10_goneWith_L4 a0 M q_N 0 0
theorem c_X10_goneWith {l : Launch} {D : va_G} {ad : Nat → Nat} {cA : Nat → ClassId} (hi : q_inj syM ad) (a0 : Int) (M : Mem) (r0 : Int) (h : f_X10_goneWith a0 M = some r0) : q_Met l syM D ad cA yX10_goneWith cX10_goneWith 4 (some .int) rm_X10_goneWith [.ref (ad 0), .int (qI a0)] M (some (.int (qI r0))) M := by
  refine q_met (L0 := [(0, .ref (ad 0)), (1, .int (qI a0))]) hi okM (by decide) (Nat.le_of_ble_eq_true rfl) rfl ?_
  intro p e s m args below meth c C hr hlk
  unfold f_X10_goneWith at h
  refine r_ic C dX10_goneWith_0 ?_
  refine r_isn C (L1 := [(2, .int (qI 0)), (0, .ref (ad 0)), (1, .int (qI a0))]) dX10_goneWith_1 (by decide) rfl ?_
  refine r_ic C dX10_goneWith_2 ?_
  refine r_isn C (L1 := [(3, .int (qI 0)), (2, .int (qI 0)), (0, .ref (ad 0)), (1, .int (qI a0))]) dX10_goneWith_3 (by decide) rfl ?_
  refine r_drop [2, 3, 1, 0] rfl ?_
  exact w_X10_goneWith_L4 C hr hlk a0 M  q_N 0 0 h
abbrev rm_X10_bus : Room := { frames := 1, cells := 0, slots := 0, locals := 23 }
theorem mw_X10_bus : q_mw RX10 yX10_bus cX10_bus 3 (some .int) 2 := ⟨⟨ti_X10_bus, tl_X10_bus, tn_RX10, td_X10_bus⟩, by decide +kernel⟩
def f_X10_bus (a0 : Int) (a1 : Int) (M : Mem) : Res :=
  q_pf M 0 0 0 fun M1 =>
  q_calp (f_X10_isBus a0 M1) fun r2 =>
  if ¬ w32 r2 = 0 then (if w32 a1 = 0 then (q_al M1 41 8 a0 fun v3 =>
  some (v3, M1))
  else if w32 a1 = 1 then (q_al M1 42 8 a0 fun v4 =>
  some (v4, M1))
  else if w32 a1 = 2 then (q_al M1 43 8 a0 fun v5 =>
  some (v5, M1))
  else if w32 a1 = 3 then (q_al M1 44 8 a0 fun v6 =>
  some (v6, M1))
  else if w32 a1 = 4 then (q_calp (f_X10_goneWith a0 M1) fun r7 =>
  some (r7, M1))
  else (some ((-1), M1)))
  else (some ((-1), M1))
theorem c_X10_bus {l : Launch} {D : va_G} {ad : Nat → Nat} {cA : Nat → ClassId} (hi : q_inj syM ad) (a0 : Int) (a1 : Int) (M : Mem) (r0 : Int) (M0 : Mem) (h : f_X10_bus a0 a1 M = some (r0, M0)) : q_Met l syM D ad cA yX10_bus cX10_bus 3 (some .int) rm_X10_bus [.ref (ad 0), .int (qI a0), .int (qI a1)] M (some (.int (qI r0))) M0 := by
  refine q_met (L0 := [(0, .ref (ad 0)), (1, .int (qI a0)), (2, .int (qI a1))]) hi okM (by decide) (Nat.le_of_ble_eq_true rfl) rfl ?_
  intro p e s m args below meth c C hr hlk
  unfold f_X10_bus at h
  refine r_aln C dX10_bus_0 (k := 0) rfl ?_
  refine r_ic C dX10_bus_1 ?_
  refine r_pf C km_0 clX10 (f := 0) (by decide) rfl q_dI rfl rfl tf_RX10_142 dX10_bus_2 h (fun M1 h => ?_)
  refine r_aln C dX10_bus_5 (k := 0) rfl ?_
  refine r_iln C dX10_bus_6 (k := 1) rfl ?_
  obtain ⟨r2, hy, h⟩ := q_calp_some h
  refine r_cvi C (st := []) (c_X10_isBus C.2.2.1 a0 M1 r2 hy) tm_RX10_420 mw_X10_isBus ⟨rfl, rfl⟩ ⟨Nat.le_of_ble_eq_true rfl, Nat.le_of_ble_eq_true rfl⟩ km_0 clX10 rfl rfl (Nat.le_of_ble_eq_true rfl) dX10_bus_7 ?_
  refine r_zne C (tgt := 15) dX10_bus_10 (by decide) h (fun h => ?_) (fun h => ?_)
  · refine r_iln C dX10_bus_15 (k := 2) rfl ?_
    refine r_tc C h (fun e h => ?_) (fun ne0 h => ?_)
    · refine r_tin C (tgt := 52) dX10_bus_16 e (by decide) rfl (by decide) ?_
      refine r_aln C dX10_bus_52 (k := 0) rfl ?_
      refine r_gs C km_0 clX10 (f := 9) (by decide) rfl (t := 41) rfl tf_RX10_31 dX10_bus_53 ?_
      refine r_iln C dX10_bus_56 (k := 1) rfl ?_
      refine r_iald C km_41 dX10_bus_57 h (fun v3 h => ?_)
      exact r_iret C hr hlk dX10_bus_58 h
    refine r_tc C h (fun e h => ?_) (fun ne1 h => ?_)
    · refine r_tin C (tgt := 59) dX10_bus_16 e (by decide) rfl (by decide) ?_
      refine r_aln C dX10_bus_59 (k := 0) rfl ?_
      refine r_gs C km_0 clX10 (f := 10) (by decide) rfl (t := 42) rfl tf_RX10_34 dX10_bus_60 ?_
      refine r_iln C dX10_bus_63 (k := 1) rfl ?_
      refine r_iald C km_42 dX10_bus_64 h (fun v4 h => ?_)
      exact r_iret C hr hlk dX10_bus_65 h
    refine r_tc C h (fun e h => ?_) (fun ne2 h => ?_)
    · refine r_tin C (tgt := 66) dX10_bus_16 e (by decide) rfl (by decide) ?_
      refine r_aln C dX10_bus_66 (k := 0) rfl ?_
      refine r_gs C km_0 clX10 (f := 11) (by decide) rfl (t := 43) rfl tf_RX10_37 dX10_bus_67 ?_
      refine r_iln C dX10_bus_70 (k := 1) rfl ?_
      refine r_iald C km_43 dX10_bus_71 h (fun v5 h => ?_)
      exact r_iret C hr hlk dX10_bus_72 h
    refine r_tc C h (fun e h => ?_) (fun ne3 h => ?_)
    · refine r_tin C (tgt := 73) dX10_bus_16 e (by decide) rfl (by decide) ?_
      refine r_aln C dX10_bus_73 (k := 0) rfl ?_
      refine r_gs C km_0 clX10 (f := 12) (by decide) rfl (t := 44) rfl tf_RX10_40 dX10_bus_74 ?_
      refine r_iln C dX10_bus_77 (k := 1) rfl ?_
      refine r_iald C km_44 dX10_bus_78 h (fun v6 h => ?_)
      exact r_iret C hr hlk dX10_bus_79 h
    refine r_tc C h (fun e h => ?_) (fun ne4 h => ?_)
    · refine r_tin C (tgt := 80) dX10_bus_16 e (by decide) rfl (by decide) ?_
      refine r_aln C dX10_bus_80 (k := 0) rfl ?_
      refine r_iln C dX10_bus_81 (k := 1) rfl ?_
      obtain ⟨r7, hy, h⟩ := q_calp_some h
      refine r_cvi C (st := []) (c_X10_goneWith C.2.2.1 a0 M1 r7 hy) tm_RX10_423 mw_X10_goneWith ⟨rfl, rfl⟩ ⟨Nat.le_of_ble_eq_true rfl, Nat.le_of_ble_eq_true rfl⟩ km_0 clX10 rfl rfl (Nat.le_of_ble_eq_true rfl) dX10_bus_82 ?_
      exact r_iret C hr hlk dX10_bus_85 h
    refine r_tout C (tgt := 86) dX10_bus_16 (by omega) (by decide) ?_
    refine r_ic C dX10_bus_86 ?_
    exact r_iret C hr hlk dX10_bus_87 h
  · refine r_ic C dX10_bus_13 ?_
    exact r_iret C hr hlk dX10_bus_14 h
abbrev rm_X10_chance : Room := { frames := 6, cells := 0, slots := 0, locals := 145 }
theorem mw_X10_chance : q_mw RX10 yX10_chance cX10_chance 9 (some .int) 4 := ⟨⟨ti_X10_chance, tl_X10_chance, tn_RX10, td_X10_chance⟩, by decide +kernel⟩
def f_X10_chance_B76 (g52 : Int → Int → Int → Mem → Res) (x2 : Int) (x3 : Int) (x4 : Int) (x6 : Int) (x7 : Int) (x8 : Int) (M : Mem) (g76 : Int → Mem → Res) : Res :=
  if w32 x2 ≤ w32 x8 then (q_al M 68 23 1 fun v1 =>
  q_al M 73 184 (8 + x3) fun v2 =>
  if w32 v2 < w32 x4 then (g52 v1 (x6 + 0) (x7 + 1) M)
  else (g52 v1 (x6 + 1) (x7 + 1) M))
  else (q_call (f_X10_passes 1 1 M) fun r3 M4 =>
  g76 (x8 + 1) M4)
def f_X10_chance_L76 (g52 : Int → Int → Int → Mem → Res) (x2 : Int) (x3 : Int) (x4 : Int) (x6 : Int) (x7 : Int) (n : Nat) (x8 : Int) (M : Mem) : Res := qlm1 (fun x8 M g76 => f_X10_chance_B76 g52 x2 x3 x4 x6 x7 x8 M g76) n x8 M
theorem w_X10_chance_B76 (C : Cx syM p m c cX10_chance 9 s args RX10 D ad cA) (hr : meth.sig.returnType = (some .int)) (hlk : meth.locks = false) (g52 : Int → Int → Int → Mem → Res) (x2 : Int) (x3 : Int) (x4 : Int) (x6 : Int) (x7 : Int) (x8 : Int) (M : Mem) (g76 : Int → Mem → Res) (ih52 : ∀ (ux5 ux6 ux7 : Int) (M : Mem), g52 ux5 ux6 ux7 M = some (r0, M0) → WM syM p l e rm_X10_chance s m args below meth c 9 D ad cA (MQ below (q_Post syM D ad cA (some (.int (qI r0))) M0) args s 0 0 (q_A syM ad)) M 52 [(0, .ref (ad 0)), (2, .int (qI x2)), (3, .int (qI x3)), (4, .int (qI x4)), (5, .int (qI ux5)), (6, .int (qI ux6)), (7, .int (qI ux7))] []) (ih76 : ∀ (ux8 : Int) (M : Mem), g76 ux8 M = some (r0, M0) → WM syM p l e rm_X10_chance s m args below meth c 9 D ad cA (MQ below (q_Post syM D ad cA (some (.int (qI r0))) M0) args s 0 0 (q_A syM ad)) M 76 [(0, .ref (ad 0)), (2, .int (qI x2)), (3, .int (qI x3)), (4, .int (qI x4)), (6, .int (qI x6)), (7, .int (qI x7)), (8, .int (qI ux8))] []) (h : f_X10_chance_B76 g52 x2 x3 x4 x6 x7 x8 M g76 = some (r0, M0)) : WM syM p l e rm_X10_chance s m args below meth c 9 D ad cA (MQ below (q_Post syM D ad cA (some (.int (qI r0))) M0) args s 0 0 (q_A syM ad)) M 76 [(0, .ref (ad 0)), (2, .int (qI x2)), (3, .int (qI x3)), (4, .int (qI x4)), (6, .int (qI x6)), (7, .int (qI x7)), (8, .int (qI x8))] [] := by
  unfold f_X10_chance_B76 at h
  refine r_il C dX10_chance_76 (k := 6) rfl ?_
  refine r_iln C dX10_chance_78 (k := 1) rfl ?_
  refine r_cge C (tgt := 94) dX10_chance_79 (by decide) h (fun h => ?_) (fun h => ?_)
  · refine r_aln C dX10_chance_94 (k := 0) rfl ?_
    refine r_gs C km_0 clX10 (f := 36) (by decide) rfl (t := 68) rfl tf_RX10_75 dX10_chance_95 ?_
    refine r_ic C dX10_chance_98 ?_
    refine r_iald C km_68 dX10_chance_99 h (fun v1 h => ?_)
    refine r_is C (L1 := [(5, .int (qI v1)), (0, .ref (ad 0)), (2, .int (qI x2)), (3, .int (qI x3)), (4, .int (qI x4)), (6, .int (qI x6)), (7, .int (qI x7)), (8, .int (qI x8))]) dX10_chance_100 (by decide) rfl ?_
    refine r_il C dX10_chance_102 (k := 5) rfl ?_
    refine r_aln C dX10_chance_104 (k := 1) rfl ?_
    refine r_gs C km_0 clX10 (f := 41) (by decide) rfl (t := 73) rfl tf_RX10_90 dX10_chance_105 ?_
    refine r_bi C dX10_chance_108 (by decide) ?_
    refine r_iln C dX10_chance_110 (k := 3) rfl ?_
    refine r_iadd C dX10_chance_111 ?_
    refine r_iald C km_73 dX10_chance_112 h (fun v2 h => ?_)
    refine r_il C dX10_chance_113 (k := 4) rfl ?_
    refine r_clt C (tgt := 122) dX10_chance_115 (by decide) h (fun h => ?_) (fun h => ?_)
    · refine r_ic C dX10_chance_122 ?_
      refine r_iadd C dX10_chance_123 ?_
      refine r_is C (L1 := [(6, .int (qI (x6 + 0))), (5, .int (qI v1)), (0, .ref (ad 0)), (2, .int (qI x2)), (3, .int (qI x3)), (4, .int (qI x4)), (7, .int (qI x7)), (8, .int (qI x8))]) dX10_chance_124 (by decide) rfl ?_
      refine r_inc C (L1 := [(7, .int (qI (x7 + 1))), (6, .int (qI (x6 + 0))), (5, .int (qI v1)), (0, .ref (ad 0)), (2, .int (qI x2)), (3, .int (qI x3)), (4, .int (qI x4)), (8, .int (qI x8))]) dX10_chance_126 (k := 6) rfl (by decide) rfl ?_
      refine r_goto C (tgt := 52) dX10_chance_129 (by decide) ?_
      refine r_drop [3, 4, 5, 6, 2, 1, 0] rfl ?_
      exact ih52 v1 (x6 + 0) (x7 + 1) M h
    · refine r_ic C dX10_chance_118 ?_
      refine r_goto C (tgt := 123) dX10_chance_119 (by decide) ?_
      refine r_iadd C dX10_chance_123 ?_
      refine r_is C (L1 := [(6, .int (qI (x6 + 1))), (5, .int (qI v1)), (0, .ref (ad 0)), (2, .int (qI x2)), (3, .int (qI x3)), (4, .int (qI x4)), (7, .int (qI x7)), (8, .int (qI x8))]) dX10_chance_124 (by decide) rfl ?_
      refine r_inc C (L1 := [(7, .int (qI (x7 + 1))), (6, .int (qI (x6 + 1))), (5, .int (qI v1)), (0, .ref (ad 0)), (2, .int (qI x2)), (3, .int (qI x3)), (4, .int (qI x4)), (8, .int (qI x8))]) dX10_chance_126 (k := 6) rfl (by decide) rfl ?_
      refine r_goto C (tgt := 52) dX10_chance_129 (by decide) ?_
      refine r_drop [3, 4, 5, 6, 2, 1, 0] rfl ?_
      exact ih52 v1 (x6 + 1) (x7 + 1) M h
  · refine r_aln C dX10_chance_82 (k := 0) rfl ?_
    refine r_ic C dX10_chance_83 ?_
    refine r_ic C dX10_chance_84 ?_
    obtain ⟨r3, M4, hy, h⟩ := q_call_some h
    refine r_cvv C (st := []) (c_X10_passes C.2.2.1 1 1 M r3 M4 hy) tm_RX10_401 mw_X10_passes ⟨rfl, rfl⟩ ⟨Nat.le_of_ble_eq_true rfl, Nat.le_of_ble_eq_true rfl⟩ km_0 clX10 rfl rfl (Nat.le_of_ble_eq_true rfl) dX10_chance_85 ?_
    refine r_inc C (L1 := [(8, .int (qI (x8 + 1))), (0, .ref (ad 0)), (2, .int (qI x2)), (3, .int (qI x3)), (4, .int (qI x4)), (6, .int (qI x6)), (7, .int (qI x7))]) dX10_chance_88 (k := 6) rfl (by decide) rfl ?_
    refine r_goto C (tgt := 76) dX10_chance_91 (by decide) ?_
    refine r_drop [1, 2, 3, 4, 5, 6, 0] rfl ?_
    exact ih76 (x8 + 1) M4 h
theorem w_X10_chance_L76 (C : Cx syM p m c cX10_chance 9 s args RX10 D ad cA) (hr : meth.sig.returnType = (some .int)) (hlk : meth.locks = false) (g52 : Int → Int → Int → Mem → Res) (x2 : Int) (x3 : Int) (x4 : Int) (x6 : Int) (x7 : Int) (ih52 : ∀ (ux5 ux6 ux7 : Int) (M : Mem), g52 ux5 ux6 ux7 M = some (r0, M0) → WM syM p l e rm_X10_chance s m args below meth c 9 D ad cA (MQ below (q_Post syM D ad cA (some (.int (qI r0))) M0) args s 0 0 (q_A syM ad)) M 52 [(0, .ref (ad 0)), (2, .int (qI x2)), (3, .int (qI x3)), (4, .int (qI x4)), (5, .int (qI ux5)), (6, .int (qI ux6)), (7, .int (qI ux7))] []) (n : Nat) (x8 : Int) (M : Mem) (h : f_X10_chance_L76 g52 x2 x3 x4 x6 x7 n x8 M = some (r0, M0)) : WM syM p l e rm_X10_chance s m args below meth c 9 D ad cA (MQ below (q_Post syM D ad cA (some (.int (qI r0))) M0) args s 0 0 (q_A syM ad)) M 76 [(0, .ref (ad 0)), (2, .int (qI x2)), (3, .int (qI x3)), (4, .int (qI x4)), (6, .int (qI x6)), (7, .int (qI x7)), (8, .int (qI x8))] [] :=
  qlm1_r (Wp := fun ux8 M => WM syM p l e rm_X10_chance s m args below meth c 9 D ad cA (MQ below (q_Post syM D ad cA (some (.int (qI r0))) M0) args s 0 0 (q_A syM ad)) M 76 [(0, .ref (ad 0)), (2, .int (qI x2)), (3, .int (qI x3)), (4, .int (qI x4)), (6, .int (qI x6)), (7, .int (qI x7)), (8, .int (qI ux8))] []) (fun ux8 M g76 ih76 h => w_X10_chance_B76 C hr hlk g52 x2 x3 x4 x6 x7 ux8 M g76 ih52 ih76 h) n x8 M h
def f_X10_chance_B52 (x2 : Int) (x3 : Int) (x4 : Int) (x5 : Int) (x6 : Int) (x7 : Int) (M : Mem) (g52 : Int → Int → Int → Mem → Res) : Res :=
  if w32 10 ≤ w32 x7 then (some (x6, M))
  else (q_call (f_X10_copies 1 0 M) fun r1 M2 =>
  q_as M2 68 23 1 x5 fun M3 =>
  f_X10_chance_L76 g52 x2 x3 x4 x6 x7 q_N 0 M3)
def f_X10_chance_L52 (x2 : Int) (x3 : Int) (x4 : Int) (n : Nat) (x5 : Int) (x6 : Int) (x7 : Int) (M : Mem) : Res := qlm3 (fun x5 x6 x7 M g52 => f_X10_chance_B52 x2 x3 x4 x5 x6 x7 M g52) n x5 x6 x7 M
theorem w_X10_chance_B52 (C : Cx syM p m c cX10_chance 9 s args RX10 D ad cA) (hr : meth.sig.returnType = (some .int)) (hlk : meth.locks = false)  (x2 : Int) (x3 : Int) (x4 : Int) (x5 : Int) (x6 : Int) (x7 : Int) (M : Mem) (g52 : Int → Int → Int → Mem → Res)  (ih52 : ∀ (ux5 ux6 ux7 : Int) (M : Mem), g52 ux5 ux6 ux7 M = some (r0, M0) → WM syM p l e rm_X10_chance s m args below meth c 9 D ad cA (MQ below (q_Post syM D ad cA (some (.int (qI r0))) M0) args s 0 0 (q_A syM ad)) M 52 [(0, .ref (ad 0)), (2, .int (qI x2)), (3, .int (qI x3)), (4, .int (qI x4)), (5, .int (qI ux5)), (6, .int (qI ux6)), (7, .int (qI ux7))] []) (h : f_X10_chance_B52 x2 x3 x4 x5 x6 x7 M g52 = some (r0, M0)) : WM syM p l e rm_X10_chance s m args below meth c 9 D ad cA (MQ below (q_Post syM D ad cA (some (.int (qI r0))) M0) args s 0 0 (q_A syM ad)) M 52 [(0, .ref (ad 0)), (2, .int (qI x2)), (3, .int (qI x3)), (4, .int (qI x4)), (5, .int (qI x5)), (6, .int (qI x6)), (7, .int (qI x7))] [] := by
  unfold f_X10_chance_B52 at h
  refine r_il C dX10_chance_52 (k := 6) rfl ?_
  refine r_bi C dX10_chance_54 (by decide) ?_
  refine r_cge C (tgt := 132) dX10_chance_56 (by decide) h (fun h => ?_) (fun h => ?_)
  · refine r_il C dX10_chance_132 (k := 5) rfl ?_
    exact r_iret C hr hlk dX10_chance_134 h
  · refine r_aln C dX10_chance_59 (k := 0) rfl ?_
    refine r_ic C dX10_chance_60 ?_
    refine r_ic C dX10_chance_61 ?_
    obtain ⟨r1, M2, hy, h⟩ := q_call_some h
    refine r_cvv C (st := []) (c_X10_copies C.2.2.1 1 0 M r1 M2 hy) tm_RX10_405 mw_X10_copies ⟨rfl, rfl⟩ ⟨Nat.le_of_ble_eq_true rfl, Nat.le_of_ble_eq_true rfl⟩ km_0 clX10 rfl rfl (Nat.le_of_ble_eq_true rfl) dX10_chance_62 ?_
    refine r_aln C dX10_chance_65 (k := 0) rfl ?_
    refine r_gs C km_0 clX10 (f := 36) (by decide) rfl (t := 68) rfl tf_RX10_75 dX10_chance_66 ?_
    refine r_ic C dX10_chance_69 ?_
    refine r_il C dX10_chance_70 (k := 4) rfl ?_
    refine r_iast C km_68 dX10_chance_72 h (fun M3 h => ?_)
    refine r_ic C dX10_chance_73 ?_
    refine r_is C (L1 := [(8, .int (qI 0)), (0, .ref (ad 0)), (2, .int (qI x2)), (3, .int (qI x3)), (4, .int (qI x4)), (5, .int (qI x5)), (6, .int (qI x6)), (7, .int (qI x7))]) dX10_chance_74 (by decide) rfl ?_
    refine r_drop [1, 2, 3, 4, 6, 7, 0] rfl ?_
    exact w_X10_chance_L76 C hr hlk g52 x2 x3 x4 x6 x7 ih52 q_N 0 M3 h
theorem w_X10_chance_L52 (C : Cx syM p m c cX10_chance 9 s args RX10 D ad cA) (hr : meth.sig.returnType = (some .int)) (hlk : meth.locks = false)  (x2 : Int) (x3 : Int) (x4 : Int)  (n : Nat) (x5 : Int) (x6 : Int) (x7 : Int) (M : Mem) (h : f_X10_chance_L52 x2 x3 x4 n x5 x6 x7 M = some (r0, M0)) : WM syM p l e rm_X10_chance s m args below meth c 9 D ad cA (MQ below (q_Post syM D ad cA (some (.int (qI r0))) M0) args s 0 0 (q_A syM ad)) M 52 [(0, .ref (ad 0)), (2, .int (qI x2)), (3, .int (qI x3)), (4, .int (qI x4)), (5, .int (qI x5)), (6, .int (qI x6)), (7, .int (qI x7))] [] :=
  qlm3_r (Wp := fun ux5 ux6 ux7 M => WM syM p l e rm_X10_chance s m args below meth c 9 D ad cA (MQ below (q_Post syM D ad cA (some (.int (qI r0))) M0) args s 0 0 (q_A syM ad)) M 52 [(0, .ref (ad 0)), (2, .int (qI x2)), (3, .int (qI x3)), (4, .int (qI x4)), (5, .int (qI ux5)), (6, .int (qI ux6)), (7, .int (qI ux7))] []) (fun ux5 ux6 ux7 M g52 ih52 h => w_X10_chance_B52 C hr hlk x2 x3 x4 ux5 ux6 ux7 M g52  ih52 h) n x5 x6 x7 M h
def f_X10_chance (a0 : Int) (a1 : Int) (a2 : Int) (a3 : Int) (M : Mem) : Res :=
  q_pf M 0 0 0 fun M1 =>
  if w32 a0 < 0 then (some ((-1), M1))
  else (if w32 a1 < w32 1 then (some ((-1), M1))
  else (if w32 99 < w32 a1 then (some ((-1), M1))
  else (q_calp (f_X10_isSoul a2 M1) fun r2 =>
  if w32 r2 = 0 then (some ((-1), M1))
  else (if w32 a3 < 0 then (some ((-1), M1))
  else (if w32 a3 ≤ w32 999 then (f_X10_chance_L52 a1 a2 a3 q_N a0 0 0 M1)
  else (some ((-1), M1)))))))
theorem c_X10_chance {l : Launch} {D : va_G} {ad : Nat → Nat} {cA : Nat → ClassId} (hi : q_inj syM ad) (a0 : Int) (a1 : Int) (a2 : Int) (a3 : Int) (M : Mem) (r0 : Int) (M0 : Mem) (h : f_X10_chance a0 a1 a2 a3 M = some (r0, M0)) : q_Met l syM D ad cA yX10_chance cX10_chance 9 (some .int) rm_X10_chance [.ref (ad 0), .int (qI a0), .int (qI a1), .int (qI a2), .int (qI a3)] M (some (.int (qI r0))) M0 := by
  refine q_met (L0 := [(0, .ref (ad 0)), (1, .int (qI a0)), (2, .int (qI a1)), (3, .int (qI a2)), (4, .int (qI a3))]) hi okM (by decide) (Nat.le_of_ble_eq_true rfl) rfl ?_
  intro p e s m args below meth c C hr hlk
  unfold f_X10_chance at h
  refine r_aln C dX10_chance_0 (k := 0) rfl ?_
  refine r_ic C dX10_chance_1 ?_
  refine r_pf C km_0 clX10 (f := 0) (by decide) rfl q_dI rfl rfl tf_RX10_142 dX10_chance_2 h (fun M1 h => ?_)
  refine r_iln C dX10_chance_5 (k := 1) rfl ?_
  refine r_zlt C (tgt := 41) dX10_chance_6 (by decide) h (fun h => ?_) (fun h => ?_)
  · refine r_ic C dX10_chance_41 ?_
    exact r_iret C hr hlk dX10_chance_42 h
  · refine r_iln C dX10_chance_9 (k := 2) rfl ?_
    refine r_ic C dX10_chance_10 ?_
    refine r_clt C (tgt := 41) dX10_chance_11 (by decide) h (fun h => ?_) (fun h => ?_)
    · refine r_ic C dX10_chance_41 ?_
      exact r_iret C hr hlk dX10_chance_42 h
    · refine r_iln C dX10_chance_14 (k := 2) rfl ?_
      refine r_bi C dX10_chance_15 (by decide) ?_
      refine r_cgt C (tgt := 41) dX10_chance_17 (by decide) h (fun h => ?_) (fun h => ?_)
      · refine r_ic C dX10_chance_41 ?_
        exact r_iret C hr hlk dX10_chance_42 h
      · refine r_aln C dX10_chance_20 (k := 0) rfl ?_
        refine r_iln C dX10_chance_21 (k := 3) rfl ?_
        obtain ⟨r2, hy, h⟩ := q_calp_some h
        refine r_cvi C (st := []) (c_X10_isSoul C.2.2.1 a2 M1 r2 hy) tm_RX10_411 mw_X10_isSoul ⟨rfl, rfl⟩ ⟨Nat.le_of_ble_eq_true rfl, Nat.le_of_ble_eq_true rfl⟩ km_0 clX10 rfl rfl (Nat.le_of_ble_eq_true rfl) dX10_chance_22 ?_
        refine r_zeq C (tgt := 41) dX10_chance_25 (by decide) h (fun h => ?_) (fun h => ?_)
        · refine r_ic C dX10_chance_41 ?_
          exact r_iret C hr hlk dX10_chance_42 h
        · refine r_il C dX10_chance_28 (k := 4) rfl ?_
          refine r_zlt C (tgt := 41) dX10_chance_30 (by decide) h (fun h => ?_) (fun h => ?_)
          · refine r_ic C dX10_chance_41 ?_
            exact r_iret C hr hlk dX10_chance_42 h
          · refine r_il C dX10_chance_33 (k := 4) rfl ?_
            refine r_si C dX10_chance_35 (by decide) ?_
            refine r_cle C (tgt := 43) dX10_chance_38 (by decide) h (fun h => ?_) (fun h => ?_)
            · refine r_iln C dX10_chance_43 (k := 1) rfl ?_
              refine r_is C (L1 := [(5, .int (qI a0)), (0, .ref (ad 0)), (1, .int (qI a0)), (2, .int (qI a1)), (3, .int (qI a2)), (4, .int (qI a3))]) dX10_chance_44 (by decide) rfl ?_
              refine r_ic C dX10_chance_46 ?_
              refine r_is C (L1 := [(6, .int (qI 0)), (5, .int (qI a0)), (0, .ref (ad 0)), (1, .int (qI a0)), (2, .int (qI a1)), (3, .int (qI a2)), (4, .int (qI a3))]) dX10_chance_47 (by decide) rfl ?_
              refine r_ic C dX10_chance_49 ?_
              refine r_is C (L1 := [(7, .int (qI 0)), (6, .int (qI 0)), (5, .int (qI a0)), (0, .ref (ad 0)), (1, .int (qI a0)), (2, .int (qI a1)), (3, .int (qI a2)), (4, .int (qI a3))]) dX10_chance_50 (by decide) rfl ?_
              refine r_drop [3, 5, 6, 7, 2, 1, 0] rfl ?_
              exact w_X10_chance_L52 C hr hlk a1 a2 a3  q_N a0 0 0 M1 h
            · refine r_ic C dX10_chance_41 ?_
              exact r_iret C hr hlk dX10_chance_42 h
abbrev rm_X10_isGoneBy : Room := { frames := 7, cells := 0, slots := 0, locals := 167 }
theorem mw_X10_isGoneBy : q_mw RX10 yX10_isGoneBy cX10_isGoneBy 3 (some .boolean) 2 := ⟨⟨ti_X10_isGoneBy, tl_X10_isGoneBy, tn_RX10, td_X10_isGoneBy⟩, by decide +kernel⟩
def f_X10_isGoneBy (a0 : Int) (a1 : Int) (M : Mem) : Res :=
  q_call (f_X10_copies 1 0 M) fun r1 M2 =>
  q_al M2 72 184 (8 + a0) fun v3 =>
  q_as M2 72 184 (8 + a0) (q_min 99 (v3 + a1)) fun M4 =>
  q_call (f_X10_goesOn 60 M4) fun r5 M6 =>
  q_al M6 71 184 (8 + a0) fun v7 =>
  if ¬ w32 v7 = w32 2 then (some (0, M6))
  else (some (1, M6))
theorem c_X10_isGoneBy {l : Launch} {D : va_G} {ad : Nat → Nat} {cA : Nat → ClassId} (hi : q_inj syM ad) (a0 : Int) (a1 : Int) (M : Mem) (r0 : Int) (M0 : Mem) (h : f_X10_isGoneBy a0 a1 M = some (r0, M0)) : q_Met l syM D ad cA yX10_isGoneBy cX10_isGoneBy 3 (some .boolean) rm_X10_isGoneBy [.ref (ad 0), .int (qI a0), .int (qI a1)] M (some (.int (qI r0))) M0 := by
  refine q_met (L0 := [(0, .ref (ad 0)), (1, .int (qI a0)), (2, .int (qI a1))]) hi okM (by decide) (Nat.le_of_ble_eq_true rfl) rfl ?_
  intro p e s m args below meth c C hr hlk
  unfold f_X10_isGoneBy at h
  refine r_aln C dX10_isGoneBy_0 (k := 0) rfl ?_
  refine r_ic C dX10_isGoneBy_1 ?_
  refine r_ic C dX10_isGoneBy_2 ?_
  obtain ⟨r1, M2, hy, h⟩ := q_call_some h
  refine r_cvv C (st := []) (c_X10_copies C.2.2.1 1 0 M r1 M2 hy) tm_RX10_405 mw_X10_copies ⟨rfl, rfl⟩ ⟨Nat.le_of_ble_eq_true rfl, Nat.le_of_ble_eq_true rfl⟩ km_0 clX10 rfl rfl (Nat.le_of_ble_eq_true rfl) dX10_isGoneBy_3 ?_
  refine r_aln C dX10_isGoneBy_6 (k := 0) rfl ?_
  refine r_gs C km_0 clX10 (f := 40) (by decide) rfl (t := 72) rfl tf_RX10_87 dX10_isGoneBy_7 ?_
  refine r_bi C dX10_isGoneBy_10 (by decide) ?_
  refine r_iln C dX10_isGoneBy_12 (k := 1) rfl ?_
  refine r_iadd C dX10_isGoneBy_13 ?_
  refine r_bi C dX10_isGoneBy_14 (by decide) ?_
  refine r_aln C dX10_isGoneBy_16 (k := 0) rfl ?_
  refine r_gs C km_0 clX10 (f := 40) (by decide) rfl (t := 72) rfl tf_RX10_87 dX10_isGoneBy_17 ?_
  refine r_bi C dX10_isGoneBy_20 (by decide) ?_
  refine r_iln C dX10_isGoneBy_22 (k := 1) rfl ?_
  refine r_iadd C dX10_isGoneBy_23 ?_
  refine r_iald C km_72 dX10_isGoneBy_24 h (fun v3 h => ?_)
  refine r_iln C dX10_isGoneBy_25 (k := 2) rfl ?_
  refine r_iadd C dX10_isGoneBy_26 ?_
  refine r_q_min C (st := [.int (qI (8 + a0)), .ref (ad 72)]) tm_RX10_399 ⟨Nat.le_of_ble_eq_true rfl, Nat.le_of_ble_eq_true rfl⟩ dX10_isGoneBy_27 ?_
  refine r_iast C km_72 dX10_isGoneBy_30 h (fun M4 h => ?_)
  refine r_aln C dX10_isGoneBy_31 (k := 0) rfl ?_
  refine r_bi C dX10_isGoneBy_32 (by decide) ?_
  obtain ⟨r5, M6, hy, h⟩ := q_call_some h
  refine r_cvv C (st := []) (c_X10_goesOn C.2.2.1 60 M4 r5 M6 hy) tm_RX10_408 mw_X10_goesOn ⟨rfl, rfl⟩ ⟨Nat.le_of_ble_eq_true rfl, Nat.le_of_ble_eq_true rfl⟩ km_0 clX10 rfl rfl (Nat.le_of_ble_eq_true rfl) dX10_isGoneBy_34 ?_
  refine r_aln C dX10_isGoneBy_37 (k := 0) rfl ?_
  refine r_gs C km_0 clX10 (f := 39) (by decide) rfl (t := 71) rfl tf_RX10_84 dX10_isGoneBy_38 ?_
  refine r_bi C dX10_isGoneBy_41 (by decide) ?_
  refine r_iln C dX10_isGoneBy_43 (k := 1) rfl ?_
  refine r_iadd C dX10_isGoneBy_44 ?_
  refine r_iald C km_71 dX10_isGoneBy_45 h (fun v7 h => ?_)
  refine r_ic C dX10_isGoneBy_46 ?_
  refine r_cne C (tgt := 54) dX10_isGoneBy_47 (by decide) h (fun h => ?_) (fun h => ?_)
  · refine r_ic C dX10_isGoneBy_54 ?_
    exact r_zret C (by decide) hr hlk dX10_isGoneBy_55 h
  · refine r_ic C dX10_isGoneBy_50 ?_
    refine r_goto C (tgt := 55) dX10_isGoneBy_51 (by decide) ?_
    exact r_zret C (by decide) hr hlk dX10_isGoneBy_55 h
abbrev rm_X10_coins : Room := { frames := 8, cells := 0, slots := 0, locals := 189 }
theorem mw_X10_coins : q_mw RX10 yX10_coins cX10_coins 3 (some .int) 1 := ⟨⟨ti_X10_coins, tl_X10_coins, tn_RX10, td_X10_coins⟩, by decide +kernel⟩
def f_X10_coins_B17 (x1 : Int) (x2 : Int) (M : Mem) (g17 : Int → Mem → Res) : Res :=
  if w32 99 < w32 x2 then (some ((-2), M))
  else (q_call (f_X10_isGoneBy x1 x2 M) fun r1 M2 =>
  if w32 r1 = 0 then (g17 (x2 + 1) M2)
  else (some (x2, M2)))
def f_X10_coins_L17 (x1 : Int) (n : Nat) (x2 : Int) (M : Mem) : Res := qlm1 (fun x2 M g17 => f_X10_coins_B17 x1 x2 M g17) n x2 M
theorem w_X10_coins_B17 (C : Cx syM p m c cX10_coins 3 s args RX10 D ad cA) (hr : meth.sig.returnType = (some .int)) (hlk : meth.locks = false)  (x1 : Int) (x2 : Int) (M : Mem) (g17 : Int → Mem → Res)  (ih17 : ∀ (ux2 : Int) (M : Mem), g17 ux2 M = some (r0, M0) → WM syM p l e rm_X10_coins s m args below meth c 3 D ad cA (MQ below (q_Post syM D ad cA (some (.int (qI r0))) M0) args s 0 0 (q_A syM ad)) M 17 [(0, .ref (ad 0)), (1, .int (qI x1)), (2, .int (qI ux2))] []) (h : f_X10_coins_B17 x1 x2 M g17 = some (r0, M0)) : WM syM p l e rm_X10_coins s m args below meth c 3 D ad cA (MQ below (q_Post syM D ad cA (some (.int (qI r0))) M0) args s 0 0 (q_A syM ad)) M 17 [(0, .ref (ad 0)), (1, .int (qI x1)), (2, .int (qI x2))] [] := by
  unfold f_X10_coins_B17 at h
  refine r_iln C dX10_coins_17 (k := 2) rfl ?_
  refine r_bi C dX10_coins_18 (by decide) ?_
  refine r_cgt C (tgt := 40) dX10_coins_20 (by decide) h (fun h => ?_) (fun h => ?_)
  · refine r_bi C dX10_coins_40 (by decide) ?_
    exact r_iret C hr hlk dX10_coins_42 h
  · refine r_aln C dX10_coins_23 (k := 0) rfl ?_
    refine r_iln C dX10_coins_24 (k := 1) rfl ?_
    refine r_iln C dX10_coins_25 (k := 2) rfl ?_
    obtain ⟨r1, M2, hy, h⟩ := q_call_some h
    refine r_cvi C (st := []) (c_X10_isGoneBy C.2.2.1 x1 x2 M r1 M2 hy) tm_RX10_458 mw_X10_isGoneBy ⟨rfl, rfl⟩ ⟨Nat.le_of_ble_eq_true rfl, Nat.le_of_ble_eq_true rfl⟩ km_0 clX10 rfl rfl (Nat.le_of_ble_eq_true rfl) dX10_coins_26 ?_
    refine r_zeq C (tgt := 34) dX10_coins_29 (by decide) h (fun h => ?_) (fun h => ?_)
    · refine r_inc C (L1 := [(2, .int (qI (x2 + 1))), (0, .ref (ad 0)), (1, .int (qI x1))]) dX10_coins_34 (k := 2) rfl (by decide) rfl ?_
      refine r_goto C (tgt := 17) dX10_coins_37 (by decide) ?_
      refine r_drop [1, 2, 0] rfl ?_
      exact ih17 (x2 + 1) M2 h
    · refine r_iln C dX10_coins_32 (k := 2) rfl ?_
      exact r_iret C hr hlk dX10_coins_33 h
theorem w_X10_coins_L17 (C : Cx syM p m c cX10_coins 3 s args RX10 D ad cA) (hr : meth.sig.returnType = (some .int)) (hlk : meth.locks = false)  (x1 : Int)  (n : Nat) (x2 : Int) (M : Mem) (h : f_X10_coins_L17 x1 n x2 M = some (r0, M0)) : WM syM p l e rm_X10_coins s m args below meth c 3 D ad cA (MQ below (q_Post syM D ad cA (some (.int (qI r0))) M0) args s 0 0 (q_A syM ad)) M 17 [(0, .ref (ad 0)), (1, .int (qI x1)), (2, .int (qI x2))] [] :=
  qlm1_r (Wp := fun ux2 M => WM syM p l e rm_X10_coins s m args below meth c 3 D ad cA (MQ below (q_Post syM D ad cA (some (.int (qI r0))) M0) args s 0 0 (q_A syM ad)) M 17 [(0, .ref (ad 0)), (1, .int (qI x1)), (2, .int (qI ux2))] []) (fun ux2 M g17 ih17 h => w_X10_coins_B17 C hr hlk x1 ux2 M g17  ih17 h) n x2 M h
def f_X10_coins (a0 : Int) (M : Mem) : Res :=
  q_pf M 0 0 0 fun M1 =>
  q_calp (f_X10_isSoul a0 M1) fun r2 =>
  if ¬ w32 r2 = 0 then (f_X10_coins_L17 a0 q_N 0 M1)
  else (some ((-1), M1))
theorem c_X10_coins {l : Launch} {D : va_G} {ad : Nat → Nat} {cA : Nat → ClassId} (hi : q_inj syM ad) (a0 : Int) (M : Mem) (r0 : Int) (M0 : Mem) (h : f_X10_coins a0 M = some (r0, M0)) : q_Met l syM D ad cA yX10_coins cX10_coins 3 (some .int) rm_X10_coins [.ref (ad 0), .int (qI a0)] M (some (.int (qI r0))) M0 := by
  refine q_met (L0 := [(0, .ref (ad 0)), (1, .int (qI a0))]) hi okM (by decide) (Nat.le_of_ble_eq_true rfl) rfl ?_
  intro p e s m args below meth c C hr hlk
  unfold f_X10_coins at h
  refine r_aln C dX10_coins_0 (k := 0) rfl ?_
  refine r_ic C dX10_coins_1 ?_
  refine r_pf C km_0 clX10 (f := 0) (by decide) rfl q_dI rfl rfl tf_RX10_142 dX10_coins_2 h (fun M1 h => ?_)
  refine r_aln C dX10_coins_5 (k := 0) rfl ?_
  refine r_iln C dX10_coins_6 (k := 1) rfl ?_
  obtain ⟨r2, hy, h⟩ := q_calp_some h
  refine r_cvi C (st := []) (c_X10_isSoul C.2.2.1 a0 M1 r2 hy) tm_RX10_411 mw_X10_isSoul ⟨rfl, rfl⟩ ⟨Nat.le_of_ble_eq_true rfl, Nat.le_of_ble_eq_true rfl⟩ km_0 clX10 rfl rfl (Nat.le_of_ble_eq_true rfl) dX10_coins_7 ?_
  refine r_zne C (tgt := 15) dX10_coins_10 (by decide) h (fun h => ?_) (fun h => ?_)
  · refine r_ic C dX10_coins_15 ?_
    refine r_isn C (L1 := [(2, .int (qI 0)), (0, .ref (ad 0)), (1, .int (qI a0))]) dX10_coins_16 (by decide) rfl ?_
    refine r_drop [1, 2, 0] rfl ?_
    exact w_X10_coins_L17 C hr hlk a0  q_N 0 M1 h
  · refine r_ic C dX10_coins_13 ?_
    exact r_iret C hr hlk dX10_coins_14 h
abbrev rm_X10_common : Room := { frames := 0, cells := 0, slots := 0, locals := 0 }
theorem mw_X10_common : q_ms yX10_common cX10_common 10 (some .long) 2 := ⟨⟨ts_X10_common, tn_RX10, td_X10_common⟩, by decide +kernel⟩
def f_X10_common_B6  (M : Mem) (x4 : Int) (x6 : Int) (g6 : Int → Int → Option Int) : Option Int :=
  if w32 (q_cmp x6 0) = 0 then (some x4)
  else (q_nzl x6 <| g6 x6 ((w64 x4).tmod (w64 x6)))
def f_X10_common_L6  (M : Mem) (n : Nat) (x4 : Int) (x6 : Int) : Option Int := qlp2 (fun x4 x6 g6 => f_X10_common_B6  M x4 x6 g6) n x4 x6
theorem w_X10_common_B6 (C : Cx syM p m c cX10_common 10 s args RX10 D ad cA) (hr : meth.sig.returnType = (some .long)) (hlk : meth.locks = false)  (x4 : Int) (x6 : Int) (M : Mem) (g6 : Int → Int → Option Int)  (ih6 : ∀ (ux4 ux6 : Int) , g6 ux4 ux6  = some r0 → WM syM p l e rm_X10_common s m args below meth c 10 D ad cA (MQ below (q_Post syM D ad cA (some (.long (qJ r0))) M) args s 0 0 (q_A syM ad)) M 6 [(4, .long (qJ ux4)), (6, .long (qJ ux6))] []) (h : f_X10_common_B6  M x4 x6 g6 = some r0) : WM syM p l e rm_X10_common s m args below meth c 10 D ad cA (MQ below (q_Post syM D ad cA (some (.long (qJ r0))) M) args s 0 0 (q_A syM ad)) M 6 [(4, .long (qJ x4)), (6, .long (qJ x6))] [] := by
  unfold f_X10_common_B6 at h
  refine r_ll C dX10_common_6 (k := 1) rfl ?_
  refine r_lc C (x := 0) dX10_common_8 (by decide) ?_
  refine r_lcmp C dX10_common_9 ?_
  refine r_zeq C (tgt := 31) dX10_common_10 (by decide) h (fun h => ?_) (fun h => ?_)
  · refine r_ll C dX10_common_31 (k := 0) rfl ?_
    exact r_lretp C hr hlk dX10_common_33 h
  · refine r_ll C dX10_common_13 (k := 0) rfl ?_
    refine r_ll C dX10_common_15 (k := 1) rfl ?_
    refine r_lrem C dX10_common_17 h (fun h => ?_)
    refine r_ls C (L1 := [(8, .long (qJ ((w64 x4).tmod (w64 x6)))), (4, .long (qJ x4)), (6, .long (qJ x6))]) dX10_common_18 (by decide) rfl ?_
    refine r_ll C dX10_common_20 (k := 2) rfl ?_
    refine r_ls C (L1 := [(4, .long (qJ x6)), (8, .long (qJ ((w64 x4).tmod (w64 x6)))), (6, .long (qJ x6))]) dX10_common_22 (by decide) rfl ?_
    refine r_ll C dX10_common_24 (k := 1) rfl ?_
    refine r_ls C (L1 := [(6, .long (qJ ((w64 x4).tmod (w64 x6)))), (4, .long (qJ x6)), (8, .long (qJ ((w64 x4).tmod (w64 x6))))]) dX10_common_26 (by decide) rfl ?_
    refine r_goto C (tgt := 6) dX10_common_28 (by decide) ?_
    refine r_drop [1, 0] rfl ?_
    exact ih6 x6 ((w64 x4).tmod (w64 x6))  h
theorem w_X10_common_L6 (C : Cx syM p m c cX10_common 10 s args RX10 D ad cA) (hr : meth.sig.returnType = (some .long)) (hlk : meth.locks = false)   (M : Mem)  (n : Nat) (x4 : Int) (x6 : Int) (h : f_X10_common_L6  M n x4 x6 = some r0) : WM syM p l e rm_X10_common s m args below meth c 10 D ad cA (MQ below (q_Post syM D ad cA (some (.long (qJ r0))) M) args s 0 0 (q_A syM ad)) M 6 [(4, .long (qJ x4)), (6, .long (qJ x6))] [] :=
  qlp2_r (Wp := fun ux4 ux6 => WM syM p l e rm_X10_common s m args below meth c 10 D ad cA (MQ below (q_Post syM D ad cA (some (.long (qJ r0))) M) args s 0 0 (q_A syM ad)) M 6 [(4, .long (qJ ux4)), (6, .long (qJ ux6))] []) (fun ux4 ux6 g6 ih6 h => w_X10_common_B6 C hr hlk  ux4 ux6 M g6  ih6 h) n x4 x6 h
def f_X10_common (a0 : Int) (a1 : Int) (M : Mem) : Option Int :=
  f_X10_common_L6  M q_N a0 a1
theorem c_X10_common {l : Launch} {D : va_G} {ad : Nat → Nat} {cA : Nat → ClassId} (hi : q_inj syM ad) (a0 : Int) (a1 : Int) (M : Mem) (r0 : Int) (h : f_X10_common a0 a1 M = some r0) : q_Met l syM D ad cA yX10_common cX10_common 10 (some .long) rm_X10_common [.long (qJ a0), .long (qJ a1)] M (some (.long (qJ r0))) M := by
  refine q_met (L0 := [(0, .long (qJ a0)), (2, .long (qJ a1))]) hi okM (by decide) (Nat.le_of_ble_eq_true rfl) rfl ?_
  intro p e s m args below meth c C hr hlk
  unfold f_X10_common at h
  refine r_lln C dX10_common_0 (k := 0) rfl ?_
  refine r_ls C (L1 := [(4, .long (qJ a0)), (0, .long (qJ a0)), (2, .long (qJ a1))]) dX10_common_1 (by decide) rfl ?_
  refine r_lln C dX10_common_3 (k := 2) rfl ?_
  refine r_ls C (L1 := [(6, .long (qJ a1)), (4, .long (qJ a0)), (0, .long (qJ a0)), (2, .long (qJ a1))]) dX10_common_4 (by decide) rfl ?_
  refine r_drop [1, 0] rfl ?_
  exact w_X10_common_L6 C hr hlk  M  q_N a0 a1 h
abbrev rm_X10_isWord : Room := { frames := 0, cells := 0, slots := 0, locals := 0 }
theorem mw_X10_isWord : q_mw RX10 yX10_isWord cX10_isWord 2 (some .boolean) 1 := ⟨⟨ti_X10_isWord, tl_X10_isWord, tn_RX10, td_X10_isWord⟩, by decide +kernel⟩
def f_X10_isWord (a0 : Int) (M : Mem) : Option Int :=
  q_gf M 0 26 fun v1 =>
  if ¬ w32 v1 = 0 then (some 0)
  else (q_gf M 0 24 fun v2 =>
  if ¬ w32 v2 = 0 then (some 0)
  else (q_gf M 0 25 fun v3 =>
  if ¬ w32 v3 = w32 a0 then (some 0)
  else (some 1)))
theorem c_X10_isWord {l : Launch} {D : va_G} {ad : Nat → Nat} {cA : Nat → ClassId} (hi : q_inj syM ad) (a0 : Int) (M : Mem) (r0 : Int) (h : f_X10_isWord a0 M = some r0) : q_Met l syM D ad cA yX10_isWord cX10_isWord 2 (some .boolean) rm_X10_isWord [.ref (ad 0), .int (qI a0)] M (some (.int (qI r0))) M := by
  refine q_met (L0 := [(0, .ref (ad 0)), (1, .int (qI a0))]) hi okM (by decide) (Nat.le_of_ble_eq_true rfl) rfl ?_
  intro p e s m args below meth c C hr hlk
  unfold f_X10_isWord at h
  refine r_aln C dX10_isWord_0 (k := 0) rfl ?_
  refine r_gf C km_0 clX10 (f := 26) (by decide) rfl rfl rfl tf_RX10_196 dX10_isWord_1 h (fun v1 h => ?_)
  refine r_zne C (tgt := 26) dX10_isWord_4 (by decide) h (fun h => ?_) (fun h => ?_)
  · refine r_ic C dX10_isWord_26 ?_
    exact r_zretp C (by decide) hr hlk dX10_isWord_27 h
  · refine r_aln C dX10_isWord_7 (k := 0) rfl ?_
    refine r_gf C km_0 clX10 (f := 24) (by decide) rfl rfl rfl tf_RX10_161 dX10_isWord_8 h (fun v2 h => ?_)
    refine r_zne C (tgt := 26) dX10_isWord_11 (by decide) h (fun h => ?_) (fun h => ?_)
    · refine r_ic C dX10_isWord_26 ?_
      exact r_zretp C (by decide) hr hlk dX10_isWord_27 h
    · refine r_aln C dX10_isWord_14 (k := 0) rfl ?_
      refine r_gf C km_0 clX10 (f := 25) (by decide) rfl rfl rfl tf_RX10_171 dX10_isWord_15 h (fun v3 h => ?_)
      refine r_iln C dX10_isWord_18 (k := 1) rfl ?_
      refine r_cne C (tgt := 26) dX10_isWord_19 (by decide) h (fun h => ?_) (fun h => ?_)
      · refine r_ic C dX10_isWord_26 ?_
        exact r_zretp C (by decide) hr hlk dX10_isWord_27 h
      · refine r_ic C dX10_isWord_22 ?_
        refine r_goto C (tgt := 27) dX10_isWord_23 (by decide) ?_
        exact r_zretp C (by decide) hr hlk dX10_isWord_27 h
abbrev rm_X10_wrong : Room := { frames := 0, cells := 0, slots := 0, locals := 0 }
theorem mw_X10_wrong : q_mw RX10 yX10_wrong cX10_wrong 2 none 1 := ⟨⟨ti_X10_wrong, tl_X10_wrong, tn_RX10, td_X10_wrong⟩, by decide +kernel⟩
def f_X10_wrong (a0 : Int) (M : Mem) : Res :=
  q_gf M 0 26 fun v1 =>
  if w32 v1 = 0 then (q_pf M 0 26 a0 fun M2 =>
  q_gf M2 0 23 fun v3 =>
  q_pf M2 0 27 v3 fun M4 =>
  some (0, M4))
  else (some (0, M))
theorem c_X10_wrong {l : Launch} {D : va_G} {ad : Nat → Nat} {cA : Nat → ClassId} (hi : q_inj syM ad) (a0 : Int) (M : Mem) (r0 : Int) (M0 : Mem) (h : f_X10_wrong a0 M = some (r0, M0)) : q_Met l syM D ad cA yX10_wrong cX10_wrong 2 none rm_X10_wrong [.ref (ad 0), .int (qI a0)] M none M0 := by
  refine q_met (L0 := [(0, .ref (ad 0)), (1, .int (qI a0))]) hi okM (by decide) (Nat.le_of_ble_eq_true rfl) rfl ?_
  intro p e s m args below meth c C hr hlk
  unfold f_X10_wrong at h
  refine r_aln C dX10_wrong_0 (k := 0) rfl ?_
  refine r_gf C km_0 clX10 (f := 26) (by decide) rfl rfl rfl tf_RX10_196 dX10_wrong_1 h (fun v1 h => ?_)
  refine r_zeq C (tgt := 8) dX10_wrong_4 (by decide) h (fun h => ?_) (fun h => ?_)
  · refine r_aln C dX10_wrong_8 (k := 0) rfl ?_
    refine r_iln C dX10_wrong_9 (k := 1) rfl ?_
    refine r_pf C km_0 clX10 (f := 26) (by decide) rfl q_dI rfl rfl tf_RX10_196 dX10_wrong_10 h (fun M2 h => ?_)
    refine r_aln C dX10_wrong_13 (k := 0) rfl ?_
    refine r_aln C dX10_wrong_14 (k := 0) rfl ?_
    refine r_gf C km_0 clX10 (f := 23) (by decide) rfl rfl rfl tf_RX10_158 dX10_wrong_15 h (fun v3 h => ?_)
    refine r_pf C km_0 clX10 (f := 27) (by decide) rfl q_dI rfl rfl tf_RX10_199 dX10_wrong_18 h (fun M4 h => ?_)
    exact r_vret C hr hlk dX10_wrong_21 h
  · exact r_vret C hr hlk dX10_wrong_7 h
abbrev rm_X10_knot : Room := { frames := 1, cells := 0, slots := 0, locals := 21 }
theorem mw_X10_knot : q_mw RX10 yX10_knot cX10_knot 1 none 0 := ⟨⟨ti_X10_knot, tl_X10_knot, tn_RX10, td_X10_knot⟩, by decide +kernel⟩
def f_X10_knot  (M : Mem) : Res :=
  q_gf M 0 26 fun v1 =>
  if w32 v1 = 0 then (q_gf M 0 31 fun v2 =>
  if ¬ w32 v2 = w32 64 then (q_gf M 0 31 fun v3 =>
  q_pf M 0 31 (v3 + 1) fun M4 =>
  some (0, M4))
  else (q_call (f_X10_wrong 2 M) fun r5 M6 =>
  some (0, M6)))
  else (some (0, M))
theorem c_X10_knot {l : Launch} {D : va_G} {ad : Nat → Nat} {cA : Nat → ClassId} (hi : q_inj syM ad)  (M : Mem) (r0 : Int) (M0 : Mem) (h : f_X10_knot  M = some (r0, M0)) : q_Met l syM D ad cA yX10_knot cX10_knot 1 none rm_X10_knot [.ref (ad 0)] M none M0 := by
  refine q_met (L0 := [(0, .ref (ad 0))]) hi okM (by decide) (Nat.le_of_ble_eq_true rfl) rfl ?_
  intro p e s m args below meth c C hr hlk
  unfold f_X10_knot at h
  refine r_aln C dX10_knot_0 (k := 0) rfl ?_
  refine r_gf C km_0 clX10 (f := 26) (by decide) rfl rfl rfl tf_RX10_196 dX10_knot_1 h (fun v1 h => ?_)
  refine r_zeq C (tgt := 8) dX10_knot_4 (by decide) h (fun h => ?_) (fun h => ?_)
  · refine r_aln C dX10_knot_8 (k := 0) rfl ?_
    refine r_gf C km_0 clX10 (f := 31) (by decide) rfl rfl rfl tf_RX10_255 dX10_knot_9 h (fun v2 h => ?_)
    refine r_bi C dX10_knot_12 (by decide) ?_
    refine r_cne C (tgt := 25) dX10_knot_14 (by decide) h (fun h => ?_) (fun h => ?_)
    · refine r_aln C dX10_knot_25 (k := 0) rfl ?_
      refine r_dup C rfl dX10_knot_26 ?_
      refine r_gf C km_0 clX10 (f := 31) (by decide) rfl rfl rfl tf_RX10_255 dX10_knot_27 h (fun v3 h => ?_)
      refine r_ic C dX10_knot_30 ?_
      refine r_iadd C dX10_knot_31 ?_
      refine r_pf C km_0 clX10 (f := 31) (by decide) rfl q_dI rfl rfl tf_RX10_255 dX10_knot_32 h (fun M4 h => ?_)
      exact r_vret C hr hlk dX10_knot_35 h
    · refine r_aln C dX10_knot_17 (k := 0) rfl ?_
      refine r_ic C dX10_knot_18 ?_
      obtain ⟨r5, M6, hy, h⟩ := q_call_some h
      refine r_cvv C (st := []) (c_X10_wrong C.2.2.1 2 M r5 M6 hy) tm_RX10_205 mw_X10_wrong ⟨rfl, rfl⟩ ⟨Nat.le_of_ble_eq_true rfl, Nat.le_of_ble_eq_true rfl⟩ km_0 clX10 rfl rfl (Nat.le_of_ble_eq_true rfl) dX10_knot_19 ?_
      refine r_goto C (tgt := 35) dX10_knot_22 (by decide) ?_
      exact r_vret C hr hlk dX10_knot_35 h
  · exact r_vret C hr hlk dX10_knot_7 h
abbrev rm_X10_here : Room := { frames := 0, cells := 0, slots := 0, locals := 0 }
theorem mw_X10_here : q_mw RX10 yX10_here cX10_here 1 (some .int) 0 := ⟨⟨ti_X10_here, tl_X10_here, tn_RX10, td_X10_here⟩, by decide +kernel⟩
def f_X10_here  (M : Mem) : Option Int :=
  q_gf M 0 22 fun v1 =>
  q_gf M 0 21 fun v2 =>
  if w32 v2 ≤ w32 v1 then (some (-1))
  else (q_gf M 0 22 fun v3 =>
  q_al M 33 700 v3 fun v4 =>
  some v4)
theorem c_X10_here {l : Launch} {D : va_G} {ad : Nat → Nat} {cA : Nat → ClassId} (hi : q_inj syM ad)  (M : Mem) (r0 : Int) (h : f_X10_here  M = some r0) : q_Met l syM D ad cA yX10_here cX10_here 1 (some .int) rm_X10_here [.ref (ad 0)] M (some (.int (qI r0))) M := by
  refine q_met (L0 := [(0, .ref (ad 0))]) hi okM (by decide) (Nat.le_of_ble_eq_true rfl) rfl ?_
  intro p e s m args below meth c C hr hlk
  unfold f_X10_here at h
  refine r_aln C dX10_here_0 (k := 0) rfl ?_
  refine r_gf C km_0 clX10 (f := 22) (by decide) rfl rfl rfl tf_RX10_148 dX10_here_1 h (fun v1 h => ?_)
  refine r_aln C dX10_here_4 (k := 0) rfl ?_
  refine r_gf C km_0 clX10 (f := 21) (by decide) rfl rfl rfl tf_RX10_151 dX10_here_5 h (fun v2 h => ?_)
  refine r_cge C (tgt := 23) dX10_here_8 (by decide) h (fun h => ?_) (fun h => ?_)
  · refine r_ic C dX10_here_23 ?_
    exact r_iretp C hr hlk dX10_here_24 h
  · refine r_aln C dX10_here_11 (k := 0) rfl ?_
    refine r_gs C km_0 clX10 (f := 1) (by decide) rfl (t := 33) rfl tf_RX10_7 dX10_here_12 ?_
    refine r_aln C dX10_here_15 (k := 0) rfl ?_
    refine r_gf C km_0 clX10 (f := 22) (by decide) rfl rfl rfl tf_RX10_148 dX10_here_16 h (fun v3 h => ?_)
    refine r_iald C km_33 dX10_here_19 h (fun v4 h => ?_)
    refine r_goto C (tgt := 24) dX10_here_20 (by decide) ?_
    exact r_iretp C hr hlk dX10_here_24 h
abbrev rm_X10_isSmall : Room := { frames := 0, cells := 0, slots := 0, locals := 0 }
theorem mw_X10_isSmall : q_ms yX10_isSmall cX10_isSmall 1 (some .boolean) 1 := ⟨⟨ts_X10_isSmall, tn_RX10, td_X10_isSmall⟩, by decide +kernel⟩
def f_X10_isSmall (a0 : Int) (M : Mem) : Option Int :=
  if w32 a0 < w32 97 then (some 0)
  else (if w32 122 < w32 a0 then (some 0)
  else (some 1))
theorem c_X10_isSmall {l : Launch} {D : va_G} {ad : Nat → Nat} {cA : Nat → ClassId} (hi : q_inj syM ad) (a0 : Int) (M : Mem) (r0 : Int) (h : f_X10_isSmall a0 M = some r0) : q_Met l syM D ad cA yX10_isSmall cX10_isSmall 1 (some .boolean) rm_X10_isSmall [.int (qI a0)] M (some (.int (qI r0))) M := by
  refine q_met (L0 := [(0, .int (qI a0))]) hi okM (by decide) (Nat.le_of_ble_eq_true rfl) rfl ?_
  intro p e s m args below meth c C hr hlk
  unfold f_X10_isSmall at h
  refine r_iln C dX10_isSmall_0 (k := 0) rfl ?_
  refine r_bi C dX10_isSmall_1 (by decide) ?_
  refine r_clt C (tgt := 16) dX10_isSmall_3 (by decide) h (fun h => ?_) (fun h => ?_)
  · refine r_ic C dX10_isSmall_16 ?_
    exact r_zretp C (by decide) hr hlk dX10_isSmall_17 h
  · refine r_iln C dX10_isSmall_6 (k := 0) rfl ?_
    refine r_bi C dX10_isSmall_7 (by decide) ?_
    refine r_cgt C (tgt := 16) dX10_isSmall_9 (by decide) h (fun h => ?_) (fun h => ?_)
    · refine r_ic C dX10_isSmall_16 ?_
      exact r_zretp C (by decide) hr hlk dX10_isSmall_17 h
    · refine r_ic C dX10_isSmall_12 ?_
      refine r_goto C (tgt := 17) dX10_isSmall_13 (by decide) ?_
      exact r_zretp C (by decide) hr hlk dX10_isSmall_17 h
abbrev rm_X10_word : Room := { frames := 6, cells := 0, slots := 0, locals := 300 }
theorem mw_X10_word : q_mw RX10 yX10_word cX10_word 4 (some .int) 0 := ⟨⟨ti_X10_word, tl_X10_word, tn_RX10, td_X10_word⟩, by decide +kernel⟩
def f_X10_word_B97 (g4 : Int → Int → Option Int) (x1 : Int) (M : Mem) (x2 : Int) (g97 : Int → Option Int) : Option Int :=
  q_ch x2 fun v2 =>
  if w32 v2 = w32 32 then (g4 (x1 + 1) (x2 + 1))
  else (g97 (x2 + 1))
def f_X10_word_L97 (g4 : Int → Int → Option Int) (x1 : Int) (M : Mem) (n : Nat) (x2 : Int) : Option Int := qlp1 (fun x2 g97 => f_X10_word_B97 g4 x1 M x2 g97) n x2
theorem w_X10_word_B97 (C : Cx syM p m c cX10_word 4 s args RX10 D ad cA) (hr : meth.sig.returnType = (some .int)) (hlk : meth.locks = false) (g4 : Int → Int → Option Int) (x1 : Int) (x2 : Int) (M : Mem) (g97 : Int → Option Int) (ih4 : ∀ (ux1 ux2 : Int) , g4 ux1 ux2  = some r0 → WM syM p l e rm_X10_word s m args below meth c 4 D ad cA (MQ below (q_Post syM D ad cA (some (.int (qI r0))) M) args s 0 0 (q_A syM ad)) M 4 [(0, .ref (ad 0)), (1, .int (qI ux1)), (2, .int (qI ux2))] []) (ih97 : ∀ (ux2 : Int) , g97 ux2  = some r0 → WM syM p l e rm_X10_word s m args below meth c 4 D ad cA (MQ below (q_Post syM D ad cA (some (.int (qI r0))) M) args s 0 0 (q_A syM ad)) M 97 [(0, .ref (ad 0)), (1, .int (qI x1)), (2, .int (qI ux2))] []) (h : f_X10_word_B97 g4 x1 M x2 g97 = some r0) : WM syM p l e rm_X10_word s m args below meth c 4 D ad cA (MQ below (q_Post syM D ad cA (some (.int (qI r0))) M) args s 0 0 (q_A syM ad)) M 97 [(0, .ref (ad 0)), (1, .int (qI x1)), (2, .int (qI x2))] [] := by
  unfold f_X10_word_B97 at h
  refine r_ldcS C C.2.2.2.2.2.2.1 dX10_word_97 (fun sa1 hsa1 => ?_)
  refine r_iln C dX10_word_99 (k := 2) rfl ?_
  refine r_sch C hsa1 tm_RX10_192 ⟨Nat.le_of_ble_eq_true rfl, Nat.le_of_ble_eq_true rfl⟩ (Nat.le_of_ble_eq_true rfl) dX10_word_100 h (fun v2 h => ?_)
  refine r_bi C dX10_word_103 (by decide) ?_
  refine r_ceq C (tgt := 114) dX10_word_105 (by decide) h (fun h => ?_) (fun h => ?_)
  · refine r_inc C (L1 := [(2, .int (qI (x2 + 1))), (0, .ref (ad 0)), (1, .int (qI x1))]) dX10_word_114 (k := 2) rfl (by decide) rfl ?_
    refine r_inc C (L1 := [(1, .int (qI (x1 + 1))), (2, .int (qI (x2 + 1))), (0, .ref (ad 0))]) dX10_word_117 (k := 2) rfl (by decide) rfl ?_
    refine r_goto C (tgt := 4) dX10_word_120 (by decide) ?_
    refine r_drop [2, 0, 1] rfl ?_
    exact ih4 (x1 + 1) (x2 + 1)  h
  · refine r_inc C (L1 := [(2, .int (qI (x2 + 1))), (0, .ref (ad 0)), (1, .int (qI x1))]) dX10_word_108 (k := 2) rfl (by decide) rfl ?_
    refine r_goto C (tgt := 97) dX10_word_111 (by decide) ?_
    refine r_drop [1, 2, 0] rfl ?_
    exact ih97 (x2 + 1)  h
theorem w_X10_word_L97 (C : Cx syM p m c cX10_word 4 s args RX10 D ad cA) (hr : meth.sig.returnType = (some .int)) (hlk : meth.locks = false) (g4 : Int → Int → Option Int) (x1 : Int) (M : Mem) (ih4 : ∀ (ux1 ux2 : Int) , g4 ux1 ux2  = some r0 → WM syM p l e rm_X10_word s m args below meth c 4 D ad cA (MQ below (q_Post syM D ad cA (some (.int (qI r0))) M) args s 0 0 (q_A syM ad)) M 4 [(0, .ref (ad 0)), (1, .int (qI ux1)), (2, .int (qI ux2))] []) (n : Nat) (x2 : Int) (h : f_X10_word_L97 g4 x1 M n x2 = some r0) : WM syM p l e rm_X10_word s m args below meth c 4 D ad cA (MQ below (q_Post syM D ad cA (some (.int (qI r0))) M) args s 0 0 (q_A syM ad)) M 97 [(0, .ref (ad 0)), (1, .int (qI x1)), (2, .int (qI x2))] [] :=
  qlp1_r (Wp := fun ux2 => WM syM p l e rm_X10_word s m args below meth c 4 D ad cA (MQ below (q_Post syM D ad cA (some (.int (qI r0))) M) args s 0 0 (q_A syM ad)) M 97 [(0, .ref (ad 0)), (1, .int (qI x1)), (2, .int (qI ux2))] []) (fun ux2 g97 ih97 h => w_X10_word_B97 C hr hlk g4 x1 ux2 M g97 ih4 ih97 h) n x2 h
def f_X10_word_J69 (g4 : Int → Int → Option Int) (x1 : Int) (x2 : Int) (x3 : Int) (M : Mem) : Option Int :=
  q_ch (x2 + x3) fun v2 =>
  if ¬ w32 v2 = w32 32 then (f_X10_word_L97 g4 x1 M q_N x2)
  else (q_gf M 0 23 fun v3 =>
  q_gf M 0 22 fun v4 =>
  if ¬ w32 (v3 + x3) = w32 v4 then (f_X10_word_L97 g4 x1 M q_N x2)
  else (some x1))
theorem w_X10_word_J69 (C : Cx syM p m c cX10_word 4 s args RX10 D ad cA) (hr : meth.sig.returnType = (some .int)) (hlk : meth.locks = false) (g4 : Int → Int → Option Int) (x1 : Int) (x2 : Int) (x3 : Int) (M : Mem) (ih4 : ∀ (ux1 ux2 : Int) , g4 ux1 ux2  = some r0 → WM syM p l e rm_X10_word s m args below meth c 4 D ad cA (MQ below (q_Post syM D ad cA (some (.int (qI r0))) M) args s 0 0 (q_A syM ad)) M 4 [(0, .ref (ad 0)), (1, .int (qI ux1)), (2, .int (qI ux2))] []) (h : f_X10_word_J69 g4 x1 x2 x3 M = some r0) : WM syM p l e rm_X10_word s m args below meth c 4 D ad cA (MQ below (q_Post syM D ad cA (some (.int (qI r0))) M) args s 0 0 (q_A syM ad)) M 69 [(0, .ref (ad 0)), (1, .int (qI x1)), (2, .int (qI x2)), (3, .int (qI x3))] [] := by
  unfold f_X10_word_J69 at h
  refine r_ldcS C C.2.2.2.2.2.2.1 dX10_word_69 (fun sa1 hsa1 => ?_)
  refine r_iln C dX10_word_71 (k := 2) rfl ?_
  refine r_iln C dX10_word_72 (k := 3) rfl ?_
  refine r_iadd C dX10_word_73 ?_
  refine r_sch C hsa1 tm_RX10_192 ⟨Nat.le_of_ble_eq_true rfl, Nat.le_of_ble_eq_true rfl⟩ (Nat.le_of_ble_eq_true rfl) dX10_word_74 h (fun v2 h => ?_)
  refine r_bi C dX10_word_77 (by decide) ?_
  refine r_cne C (tgt := 97) dX10_word_79 (by decide) h (fun h => ?_) (fun h => ?_)
  · refine r_drop [0, 1, 2] rfl ?_
    exact w_X10_word_L97 C hr hlk g4 x1 M ih4 q_N x2 h
  · refine r_aln C dX10_word_82 (k := 0) rfl ?_
    refine r_gf C km_0 clX10 (f := 23) (by decide) rfl rfl rfl tf_RX10_158 dX10_word_83 h (fun v3 h => ?_)
    refine r_iln C dX10_word_86 (k := 3) rfl ?_
    refine r_iadd C dX10_word_87 ?_
    refine r_aln C dX10_word_88 (k := 0) rfl ?_
    refine r_gf C km_0 clX10 (f := 22) (by decide) rfl rfl rfl tf_RX10_148 dX10_word_89 h (fun v4 h => ?_)
    refine r_cne C (tgt := 97) dX10_word_92 (by decide) h (fun h => ?_) (fun h => ?_)
    · refine r_drop [0, 1, 2] rfl ?_
      exact w_X10_word_L97 C hr hlk g4 x1 M ih4 q_N x2 h
    · refine r_iln C dX10_word_95 (k := 1) rfl ?_
      exact r_iretp C hr hlk dX10_word_96 h
def f_X10_word_B15 (g4 : Int → Int → Option Int) (x1 : Int) (x2 : Int) (M : Mem) (x3 : Int) (g15 : Int → Option Int) : Option Int :=
  q_ch (x2 + x3) fun v2 =>
  if w32 v2 = w32 32 then (f_X10_word_J69 g4 x1 x2 x3 M)
  else (q_gf M 0 23 fun v3 =>
  q_gf M 0 22 fun v4 =>
  if w32 v4 ≤ w32 (v3 + x3) then (f_X10_word_J69 g4 x1 x2 x3 M)
  else (q_gf M 0 23 fun v5 =>
  q_al M 33 700 (v5 + x3) fun v6 =>
  q_ch (x2 + x3) fun v8 =>
  if ¬ w32 v6 = w32 v8 then (f_X10_word_J69 g4 x1 x2 x3 M)
  else (g15 (x3 + 1))))
def f_X10_word_L15 (g4 : Int → Int → Option Int) (x1 : Int) (x2 : Int) (M : Mem) (n : Nat) (x3 : Int) : Option Int := qlp1 (fun x3 g15 => f_X10_word_B15 g4 x1 x2 M x3 g15) n x3
theorem w_X10_word_B15 (C : Cx syM p m c cX10_word 4 s args RX10 D ad cA) (hr : meth.sig.returnType = (some .int)) (hlk : meth.locks = false) (g4 : Int → Int → Option Int) (x1 : Int) (x2 : Int) (x3 : Int) (M : Mem) (g15 : Int → Option Int) (ih4 : ∀ (ux1 ux2 : Int) , g4 ux1 ux2  = some r0 → WM syM p l e rm_X10_word s m args below meth c 4 D ad cA (MQ below (q_Post syM D ad cA (some (.int (qI r0))) M) args s 0 0 (q_A syM ad)) M 4 [(0, .ref (ad 0)), (1, .int (qI ux1)), (2, .int (qI ux2))] []) (ih15 : ∀ (ux3 : Int) , g15 ux3  = some r0 → WM syM p l e rm_X10_word s m args below meth c 4 D ad cA (MQ below (q_Post syM D ad cA (some (.int (qI r0))) M) args s 0 0 (q_A syM ad)) M 15 [(0, .ref (ad 0)), (1, .int (qI x1)), (2, .int (qI x2)), (3, .int (qI ux3))] []) (h : f_X10_word_B15 g4 x1 x2 M x3 g15 = some r0) : WM syM p l e rm_X10_word s m args below meth c 4 D ad cA (MQ below (q_Post syM D ad cA (some (.int (qI r0))) M) args s 0 0 (q_A syM ad)) M 15 [(0, .ref (ad 0)), (1, .int (qI x1)), (2, .int (qI x2)), (3, .int (qI x3))] [] := by
  unfold f_X10_word_B15 at h
  refine r_ldcS C C.2.2.2.2.2.2.1 dX10_word_15 (fun sa1 hsa1 => ?_)
  refine r_iln C dX10_word_17 (k := 2) rfl ?_
  refine r_iln C dX10_word_18 (k := 3) rfl ?_
  refine r_iadd C dX10_word_19 ?_
  refine r_sch C hsa1 tm_RX10_192 ⟨Nat.le_of_ble_eq_true rfl, Nat.le_of_ble_eq_true rfl⟩ (Nat.le_of_ble_eq_true rfl) dX10_word_20 h (fun v2 h => ?_)
  refine r_bi C dX10_word_23 (by decide) ?_
  refine r_ceq C (tgt := 69) dX10_word_25 (by decide) h (fun h => ?_) (fun h => ?_)
  · exact w_X10_word_J69 C hr hlk g4 x1 x2 x3 M ih4 h
  · refine r_aln C dX10_word_28 (k := 0) rfl ?_
    refine r_gf C km_0 clX10 (f := 23) (by decide) rfl rfl rfl tf_RX10_158 dX10_word_29 h (fun v3 h => ?_)
    refine r_iln C dX10_word_32 (k := 3) rfl ?_
    refine r_iadd C dX10_word_33 ?_
    refine r_aln C dX10_word_34 (k := 0) rfl ?_
    refine r_gf C km_0 clX10 (f := 22) (by decide) rfl rfl rfl tf_RX10_148 dX10_word_35 h (fun v4 h => ?_)
    refine r_cge C (tgt := 69) dX10_word_38 (by decide) h (fun h => ?_) (fun h => ?_)
    · exact w_X10_word_J69 C hr hlk g4 x1 x2 x3 M ih4 h
    · refine r_aln C dX10_word_41 (k := 0) rfl ?_
      refine r_gs C km_0 clX10 (f := 1) (by decide) rfl (t := 33) rfl tf_RX10_7 dX10_word_42 ?_
      refine r_aln C dX10_word_45 (k := 0) rfl ?_
      refine r_gf C km_0 clX10 (f := 23) (by decide) rfl rfl rfl tf_RX10_158 dX10_word_46 h (fun v5 h => ?_)
      refine r_iln C dX10_word_49 (k := 3) rfl ?_
      refine r_iadd C dX10_word_50 ?_
      refine r_iald C km_33 dX10_word_51 h (fun v6 h => ?_)
      refine r_ldcS C C.2.2.2.2.2.2.1 dX10_word_52 (fun sa7 hsa7 => ?_)
      refine r_iln C dX10_word_54 (k := 2) rfl ?_
      refine r_iln C dX10_word_55 (k := 3) rfl ?_
      refine r_iadd C dX10_word_56 ?_
      refine r_sch C hsa7 tm_RX10_192 ⟨Nat.le_of_ble_eq_true rfl, Nat.le_of_ble_eq_true rfl⟩ (Nat.le_of_ble_eq_true rfl) dX10_word_57 h (fun v8 h => ?_)
      refine r_cne C (tgt := 69) dX10_word_60 (by decide) h (fun h => ?_) (fun h => ?_)
      · exact w_X10_word_J69 C hr hlk g4 x1 x2 x3 M ih4 h
      · refine r_inc C (L1 := [(3, .int (qI (x3 + 1))), (0, .ref (ad 0)), (1, .int (qI x1)), (2, .int (qI x2))]) dX10_word_63 (k := 3) rfl (by decide) rfl ?_
        refine r_goto C (tgt := 15) dX10_word_66 (by decide) ?_
        refine r_drop [1, 2, 3, 0] rfl ?_
        exact ih15 (x3 + 1)  h
theorem w_X10_word_L15 (C : Cx syM p m c cX10_word 4 s args RX10 D ad cA) (hr : meth.sig.returnType = (some .int)) (hlk : meth.locks = false) (g4 : Int → Int → Option Int) (x1 : Int) (x2 : Int) (M : Mem) (ih4 : ∀ (ux1 ux2 : Int) , g4 ux1 ux2  = some r0 → WM syM p l e rm_X10_word s m args below meth c 4 D ad cA (MQ below (q_Post syM D ad cA (some (.int (qI r0))) M) args s 0 0 (q_A syM ad)) M 4 [(0, .ref (ad 0)), (1, .int (qI ux1)), (2, .int (qI ux2))] []) (n : Nat) (x3 : Int) (h : f_X10_word_L15 g4 x1 x2 M n x3 = some r0) : WM syM p l e rm_X10_word s m args below meth c 4 D ad cA (MQ below (q_Post syM D ad cA (some (.int (qI r0))) M) args s 0 0 (q_A syM ad)) M 15 [(0, .ref (ad 0)), (1, .int (qI x1)), (2, .int (qI x2)), (3, .int (qI x3))] [] :=
  qlp1_r (Wp := fun ux3 => WM syM p l e rm_X10_word s m args below meth c 4 D ad cA (MQ below (q_Post syM D ad cA (some (.int (qI r0))) M) args s 0 0 (q_A syM ad)) M 15 [(0, .ref (ad 0)), (1, .int (qI x1)), (2, .int (qI x2)), (3, .int (qI ux3))] []) (fun ux3 g15 ih15 h => w_X10_word_B15 C hr hlk g4 x1 x2 ux3 M g15 ih4 ih15 h) n x3 h
def f_X10_word_B4  (M : Mem) (x1 : Int) (x2 : Int) (g4 : Int → Int → Option Int) : Option Int :=
  if w32 97 ≤ w32 x2 then (some (-1))
  else (f_X10_word_L15 g4 x1 x2 M q_N 0)
def f_X10_word_L4  (M : Mem) (n : Nat) (x1 : Int) (x2 : Int) : Option Int := qlp2 (fun x1 x2 g4 => f_X10_word_B4  M x1 x2 g4) n x1 x2
theorem w_X10_word_B4 (C : Cx syM p m c cX10_word 4 s args RX10 D ad cA) (hr : meth.sig.returnType = (some .int)) (hlk : meth.locks = false)  (x1 : Int) (x2 : Int) (M : Mem) (g4 : Int → Int → Option Int)  (ih4 : ∀ (ux1 ux2 : Int) , g4 ux1 ux2  = some r0 → WM syM p l e rm_X10_word s m args below meth c 4 D ad cA (MQ below (q_Post syM D ad cA (some (.int (qI r0))) M) args s 0 0 (q_A syM ad)) M 4 [(0, .ref (ad 0)), (1, .int (qI ux1)), (2, .int (qI ux2))] []) (h : f_X10_word_B4  M x1 x2 g4 = some r0) : WM syM p l e rm_X10_word s m args below meth c 4 D ad cA (MQ below (q_Post syM D ad cA (some (.int (qI r0))) M) args s 0 0 (q_A syM ad)) M 4 [(0, .ref (ad 0)), (1, .int (qI x1)), (2, .int (qI x2))] [] := by
  unfold f_X10_word_B4 at h
  refine r_iln C dX10_word_4 (k := 2) rfl ?_
  refine r_ldcS C C.2.2.2.2.2.2.1 dX10_word_5 (fun sa1 hsa1 => ?_)
  refine r_slen C hsa1 tm_RX10_187 ⟨Nat.le_of_ble_eq_true rfl, Nat.le_of_ble_eq_true rfl⟩ (Nat.le_of_ble_eq_true rfl) dX10_word_7 ?_
  refine r_cge C (tgt := 123) dX10_word_10 (by decide) h (fun h => ?_) (fun h => ?_)
  · refine r_ic C dX10_word_123 ?_
    exact r_iretp C hr hlk dX10_word_124 h
  · refine r_ic C dX10_word_13 ?_
    refine r_isn C (L1 := [(3, .int (qI 0)), (0, .ref (ad 0)), (1, .int (qI x1)), (2, .int (qI x2))]) dX10_word_14 (by decide) rfl ?_
    refine r_drop [1, 2, 3, 0] rfl ?_
    exact w_X10_word_L15 C hr hlk g4 x1 x2 M ih4 q_N 0 h
theorem w_X10_word_L4 (C : Cx syM p m c cX10_word 4 s args RX10 D ad cA) (hr : meth.sig.returnType = (some .int)) (hlk : meth.locks = false)   (M : Mem)  (n : Nat) (x1 : Int) (x2 : Int) (h : f_X10_word_L4  M n x1 x2 = some r0) : WM syM p l e rm_X10_word s m args below meth c 4 D ad cA (MQ below (q_Post syM D ad cA (some (.int (qI r0))) M) args s 0 0 (q_A syM ad)) M 4 [(0, .ref (ad 0)), (1, .int (qI x1)), (2, .int (qI x2))] [] :=
  qlp2_r (Wp := fun ux1 ux2 => WM syM p l e rm_X10_word s m args below meth c 4 D ad cA (MQ below (q_Post syM D ad cA (some (.int (qI r0))) M) args s 0 0 (q_A syM ad)) M 4 [(0, .ref (ad 0)), (1, .int (qI ux1)), (2, .int (qI ux2))] []) (fun ux1 ux2 g4 ih4 h => w_X10_word_B4 C hr hlk  ux1 ux2 M g4  ih4 h) n x1 x2 h
def f_X10_word  (M : Mem) : Option Int :=
  f_X10_word_L4  M q_N 0 0
theorem c_X10_word {l : Launch} {D : va_G} {ad : Nat → Nat} {cA : Nat → ClassId} (hi : q_inj syM ad)  (M : Mem) (r0 : Int) (h : f_X10_word  M = some r0) : q_Met l syM D ad cA yX10_word cX10_word 4 (some .int) rm_X10_word [.ref (ad 0)] M (some (.int (qI r0))) M := by
  refine q_met (L0 := [(0, .ref (ad 0))]) hi okM (by decide) (Nat.le_of_ble_eq_true rfl) rfl ?_
  intro p e s m args below meth c C hr hlk
  unfold f_X10_word at h
  refine r_ic C dX10_word_0 ?_
  refine r_isn C (L1 := [(1, .int (qI 0)), (0, .ref (ad 0))]) dX10_word_1 (by decide) rfl ?_
  refine r_ic C dX10_word_2 ?_
  refine r_isn C (L1 := [(2, .int (qI 0)), (1, .int (qI 0)), (0, .ref (ad 0))]) dX10_word_3 (by decide) rfl ?_
  refine r_drop [2, 1, 0] rfl ?_
  exact w_X10_word_L4 C hr hlk  M  q_N 0 0 h
abbrev rm_X10_name : Room := { frames := 0, cells := 0, slots := 0, locals := 0 }
theorem mw_X10_name : q_mw RX10 yX10_name cX10_name 2 none 0 := ⟨⟨ti_X10_name, tl_X10_name, tn_RX10, td_X10_name⟩, by decide +kernel⟩
def f_X10_name_B7  (x1 : Int) (M : Mem) (g7 : Int → Mem → Res) : Res :=
  if w32 6 ≤ w32 x1 then (some (0, M))
  else (q_gf M 0 25 fun v1 =>
  q_gf M 0 23 fun v2 =>
  q_gf M 0 22 fun v3 =>
  if w32 v3 ≤ w32 (v2 + x1) then (q_pf M 0 25 (q_or (q_shl v1 5) 0) fun M4 =>
  g7 (x1 + 1) M4)
  else (q_gf M 0 23 fun v5 =>
  q_al M 33 700 (v5 + x1) fun v6 =>
  q_pf M 0 25 (q_or (q_shl v1 5) ((v6 - 97) + 1)) fun M7 =>
  g7 (x1 + 1) M7))
def f_X10_name_L7  (n : Nat) (x1 : Int) (M : Mem) : Res := qlm1 (fun x1 M g7 => f_X10_name_B7  x1 M g7) n x1 M
theorem w_X10_name_B7 (C : Cx syM p m c cX10_name 2 s args RX10 D ad cA) (hr : meth.sig.returnType = none) (hlk : meth.locks = false)  (x1 : Int) (M : Mem) (g7 : Int → Mem → Res)  (ih7 : ∀ (ux1 : Int) (M : Mem), g7 ux1 M = some (r0, M0) → WM syM p l e rm_X10_name s m args below meth c 2 D ad cA (MQ below (q_Post syM D ad cA none M0) args s 0 0 (q_A syM ad)) M 7 [(0, .ref (ad 0)), (1, .int (qI ux1))] []) (h : f_X10_name_B7  x1 M g7 = some (r0, M0)) : WM syM p l e rm_X10_name s m args below meth c 2 D ad cA (MQ below (q_Post syM D ad cA none M0) args s 0 0 (q_A syM ad)) M 7 [(0, .ref (ad 0)), (1, .int (qI x1))] [] := by
  unfold f_X10_name_B7 at h
  refine r_iln C dX10_name_7 (k := 1) rfl ?_
  refine r_bi C dX10_name_8 (by decide) ?_
  refine r_cge C (tgt := 63) dX10_name_10 (by decide) h (fun h => ?_) (fun h => ?_)
  · exact r_vret C hr hlk dX10_name_63 h
  · refine r_aln C dX10_name_13 (k := 0) rfl ?_
    refine r_aln C dX10_name_14 (k := 0) rfl ?_
    refine r_gf C km_0 clX10 (f := 25) (by decide) rfl rfl rfl tf_RX10_171 dX10_name_15 h (fun v1 h => ?_)
    refine r_ic C dX10_name_18 ?_
    refine r_ishl C dX10_name_19 ?_
    refine r_aln C dX10_name_20 (k := 0) rfl ?_
    refine r_gf C km_0 clX10 (f := 23) (by decide) rfl rfl rfl tf_RX10_158 dX10_name_21 h (fun v2 h => ?_)
    refine r_iln C dX10_name_24 (k := 1) rfl ?_
    refine r_iadd C dX10_name_25 ?_
    refine r_aln C dX10_name_26 (k := 0) rfl ?_
    refine r_gf C km_0 clX10 (f := 22) (by decide) rfl rfl rfl tf_RX10_148 dX10_name_27 h (fun v3 h => ?_)
    refine r_cge C (tgt := 52) dX10_name_30 (by decide) h (fun h => ?_) (fun h => ?_)
    · refine r_ic C dX10_name_52 ?_
      refine r_ior C dX10_name_53 ?_
      refine r_pf C km_0 clX10 (f := 25) (by decide) rfl q_dI rfl rfl tf_RX10_171 dX10_name_54 h (fun M4 h => ?_)
      refine r_inc C (L1 := [(1, .int (qI (x1 + 1))), (0, .ref (ad 0))]) dX10_name_57 (k := 1) rfl (by decide) rfl ?_
      refine r_goto C (tgt := 7) dX10_name_60 (by decide) ?_
      refine r_drop [1, 0] rfl ?_
      exact ih7 (x1 + 1) M4 h
    · refine r_aln C dX10_name_33 (k := 0) rfl ?_
      refine r_gs C km_0 clX10 (f := 1) (by decide) rfl (t := 33) rfl tf_RX10_7 dX10_name_34 ?_
      refine r_aln C dX10_name_37 (k := 0) rfl ?_
      refine r_gf C km_0 clX10 (f := 23) (by decide) rfl rfl rfl tf_RX10_158 dX10_name_38 h (fun v5 h => ?_)
      refine r_iln C dX10_name_41 (k := 1) rfl ?_
      refine r_iadd C dX10_name_42 ?_
      refine r_iald C km_33 dX10_name_43 h (fun v6 h => ?_)
      refine r_bi C dX10_name_44 (by decide) ?_
      refine r_isub C dX10_name_46 ?_
      refine r_ic C dX10_name_47 ?_
      refine r_iadd C dX10_name_48 ?_
      refine r_goto C (tgt := 53) dX10_name_49 (by decide) ?_
      refine r_ior C dX10_name_53 ?_
      refine r_pf C km_0 clX10 (f := 25) (by decide) rfl q_dI rfl rfl tf_RX10_171 dX10_name_54 h (fun M7 h => ?_)
      refine r_inc C (L1 := [(1, .int (qI (x1 + 1))), (0, .ref (ad 0))]) dX10_name_57 (k := 1) rfl (by decide) rfl ?_
      refine r_goto C (tgt := 7) dX10_name_60 (by decide) ?_
      refine r_drop [1, 0] rfl ?_
      exact ih7 (x1 + 1) M7 h
theorem w_X10_name_L7 (C : Cx syM p m c cX10_name 2 s args RX10 D ad cA) (hr : meth.sig.returnType = none) (hlk : meth.locks = false)    (n : Nat) (x1 : Int) (M : Mem) (h : f_X10_name_L7  n x1 M = some (r0, M0)) : WM syM p l e rm_X10_name s m args below meth c 2 D ad cA (MQ below (q_Post syM D ad cA none M0) args s 0 0 (q_A syM ad)) M 7 [(0, .ref (ad 0)), (1, .int (qI x1))] [] :=
  qlm1_r (Wp := fun ux1 M => WM syM p l e rm_X10_name s m args below meth c 2 D ad cA (MQ below (q_Post syM D ad cA none M0) args s 0 0 (q_A syM ad)) M 7 [(0, .ref (ad 0)), (1, .int (qI ux1))] []) (fun ux1 M g7 ih7 h => w_X10_name_B7 C hr hlk  ux1 M g7  ih7 h) n x1 M h
def f_X10_name  (M : Mem) : Res :=
  q_pf M 0 25 0 fun M1 =>
  f_X10_name_L7  q_N 0 M1
theorem c_X10_name {l : Launch} {D : va_G} {ad : Nat → Nat} {cA : Nat → ClassId} (hi : q_inj syM ad)  (M : Mem) (r0 : Int) (M0 : Mem) (h : f_X10_name  M = some (r0, M0)) : q_Met l syM D ad cA yX10_name cX10_name 2 none rm_X10_name [.ref (ad 0)] M none M0 := by
  refine q_met (L0 := [(0, .ref (ad 0))]) hi okM (by decide) (Nat.le_of_ble_eq_true rfl) rfl ?_
  intro p e s m args below meth c C hr hlk
  unfold f_X10_name at h
  refine r_aln C dX10_name_0 (k := 0) rfl ?_
  refine r_ic C dX10_name_1 ?_
  refine r_pf C km_0 clX10 (f := 25) (by decide) rfl q_dI rfl rfl tf_RX10_171 dX10_name_2 h (fun M1 h => ?_)
  refine r_ic C dX10_name_5 ?_
  refine r_isn C (L1 := [(1, .int (qI 0)), (0, .ref (ad 0))]) dX10_name_6 (by decide) rfl ?_
  refine r_drop [1, 0] rfl ?_
  exact w_X10_name_L7 C hr hlk   q_N 0 M1 h
abbrev rm_X10_isDigit : Room := { frames := 0, cells := 0, slots := 0, locals := 0 }
theorem mw_X10_isDigit : q_ms yX10_isDigit cX10_isDigit 1 (some .boolean) 1 := ⟨⟨ts_X10_isDigit, tn_RX10, td_X10_isDigit⟩, by decide +kernel⟩
def f_X10_isDigit (a0 : Int) (M : Mem) : Option Int :=
  if w32 a0 < w32 48 then (some 0)
  else (if w32 57 < w32 a0 then (some 0)
  else (some 1))
theorem c_X10_isDigit {l : Launch} {D : va_G} {ad : Nat → Nat} {cA : Nat → ClassId} (hi : q_inj syM ad) (a0 : Int) (M : Mem) (r0 : Int) (h : f_X10_isDigit a0 M = some r0) : q_Met l syM D ad cA yX10_isDigit cX10_isDigit 1 (some .boolean) rm_X10_isDigit [.int (qI a0)] M (some (.int (qI r0))) M := by
  refine q_met (L0 := [(0, .int (qI a0))]) hi okM (by decide) (Nat.le_of_ble_eq_true rfl) rfl ?_
  intro p e s m args below meth c C hr hlk
  unfold f_X10_isDigit at h
  refine r_iln C dX10_isDigit_0 (k := 0) rfl ?_
  refine r_bi C dX10_isDigit_1 (by decide) ?_
  refine r_clt C (tgt := 16) dX10_isDigit_3 (by decide) h (fun h => ?_) (fun h => ?_)
  · refine r_ic C dX10_isDigit_16 ?_
    exact r_zretp C (by decide) hr hlk dX10_isDigit_17 h
  · refine r_iln C dX10_isDigit_6 (k := 0) rfl ?_
    refine r_bi C dX10_isDigit_7 (by decide) ?_
    refine r_cgt C (tgt := 16) dX10_isDigit_9 (by decide) h (fun h => ?_) (fun h => ?_)
    · refine r_ic C dX10_isDigit_16 ?_
      exact r_zretp C (by decide) hr hlk dX10_isDigit_17 h
    · refine r_ic C dX10_isDigit_12 ?_
      refine r_goto C (tgt := 17) dX10_isDigit_13 (by decide) ?_
      exact r_zretp C (by decide) hr hlk dX10_isDigit_17 h
abbrev rm_X10_sign : Room := { frames := 1, cells := 0, slots := 0, locals := 20 }
theorem mw_X10_sign : q_mw RX10 yX10_sign cX10_sign 2 none 1 := ⟨⟨ti_X10_sign, tl_X10_sign, tn_RX10, td_X10_sign⟩, by decide +kernel⟩
def f_X10_sign_J150  (M : Mem) : Res :=
  q_gf M 0 25 fun v1 =>
  if w32 v1 < w32 256 then (some (0, M))
  else (q_gf M 0 22 fun v2 =>
  q_pf M 0 22 (v2 + 1) fun M3 =>
  some (0, M3))
theorem w_X10_sign_J150 (C : Cx syM p m c cX10_sign 2 s args RX10 D ad cA) (hr : meth.sig.returnType = none) (hlk : meth.locks = false)  (M : Mem)  (h : f_X10_sign_J150  M = some (r0, M0)) : WM syM p l e rm_X10_sign s m args below meth c 2 D ad cA (MQ below (q_Post syM D ad cA none M0) args s 0 0 (q_A syM ad)) M 150 [(0, .ref (ad 0))] [] := by
  unfold f_X10_sign_J150 at h
  refine r_aln C dX10_sign_150 (k := 0) rfl ?_
  refine r_gf C km_0 clX10 (f := 25) (by decide) rfl rfl rfl tf_RX10_171 dX10_sign_151 h (fun v1 h => ?_)
  refine r_si C dX10_sign_154 (by decide) ?_
  refine r_clt C (tgt := 170) dX10_sign_157 (by decide) h (fun h => ?_) (fun h => ?_)
  · exact r_vret C hr hlk dX10_sign_170 h
  · refine r_aln C dX10_sign_160 (k := 0) rfl ?_
    refine r_dup C rfl dX10_sign_161 ?_
    refine r_gf C km_0 clX10 (f := 22) (by decide) rfl rfl rfl tf_RX10_148 dX10_sign_162 h (fun v2 h => ?_)
    refine r_ic C dX10_sign_165 ?_
    refine r_iadd C dX10_sign_166 ?_
    refine r_pf C km_0 clX10 (f := 22) (by decide) rfl q_dI rfl rfl tf_RX10_148 dX10_sign_167 h (fun M3 h => ?_)
    exact r_vret C hr hlk dX10_sign_170 h
def f_X10_sign_J128 (x1 : Int) (M : Mem) : Res :=
  if ¬ w32 x1 = w32 62 then (f_X10_sign_J150  M)
  else (q_calp (f_X10_here  M) fun r1 =>
  if ¬ w32 r1 = w32 61 then (f_X10_sign_J150  M)
  else (q_pf M 0 25 258 fun M2 =>
  f_X10_sign_J150  M2))
theorem w_X10_sign_J128 (C : Cx syM p m c cX10_sign 2 s args RX10 D ad cA) (hr : meth.sig.returnType = none) (hlk : meth.locks = false) (x1 : Int) (M : Mem)  (h : f_X10_sign_J128 x1 M = some (r0, M0)) : WM syM p l e rm_X10_sign s m args below meth c 2 D ad cA (MQ below (q_Post syM D ad cA none M0) args s 0 0 (q_A syM ad)) M 128 [(0, .ref (ad 0)), (1, .int (qI x1))] [] := by
  unfold f_X10_sign_J128 at h
  refine r_iln C dX10_sign_128 (k := 1) rfl ?_
  refine r_bi C dX10_sign_129 (by decide) ?_
  refine r_cne C (tgt := 150) dX10_sign_131 (by decide) h (fun h => ?_) (fun h => ?_)
  · refine r_drop [0] rfl ?_
    exact w_X10_sign_J150 C hr hlk  M  h
  · refine r_aln C dX10_sign_134 (k := 0) rfl ?_
    obtain ⟨r1, hy, h⟩ := q_calp_some h
    refine r_cvi C (st := []) (c_X10_here C.2.2.1 M r1 hy) tm_RX10_154 mw_X10_here ⟨rfl, rfl⟩ ⟨Nat.le_of_ble_eq_true rfl, Nat.le_of_ble_eq_true rfl⟩ km_0 clX10 rfl rfl (Nat.le_of_ble_eq_true rfl) dX10_sign_135 ?_
    refine r_bi C dX10_sign_138 (by decide) ?_
    refine r_cne C (tgt := 150) dX10_sign_140 (by decide) h (fun h => ?_) (fun h => ?_)
    · refine r_drop [0] rfl ?_
      exact w_X10_sign_J150 C hr hlk  M  h
    · refine r_aln C dX10_sign_143 (k := 0) rfl ?_
      refine r_si C dX10_sign_144 (by decide) ?_
      refine r_pf C km_0 clX10 (f := 25) (by decide) rfl q_dI rfl rfl tf_RX10_171 dX10_sign_147 h (fun M2 h => ?_)
      refine r_drop [0] rfl ?_
      exact w_X10_sign_J150 C hr hlk  M2  h
def f_X10_sign_J106 (x1 : Int) (M : Mem) : Res :=
  if ¬ w32 x1 = w32 60 then (f_X10_sign_J128 x1 M)
  else (q_calp (f_X10_here  M) fun r1 =>
  if ¬ w32 r1 = w32 62 then (f_X10_sign_J128 x1 M)
  else (q_pf M 0 25 257 fun M2 =>
  f_X10_sign_J128 x1 M2))
theorem w_X10_sign_J106 (C : Cx syM p m c cX10_sign 2 s args RX10 D ad cA) (hr : meth.sig.returnType = none) (hlk : meth.locks = false) (x1 : Int) (M : Mem)  (h : f_X10_sign_J106 x1 M = some (r0, M0)) : WM syM p l e rm_X10_sign s m args below meth c 2 D ad cA (MQ below (q_Post syM D ad cA none M0) args s 0 0 (q_A syM ad)) M 106 [(0, .ref (ad 0)), (1, .int (qI x1))] [] := by
  unfold f_X10_sign_J106 at h
  refine r_iln C dX10_sign_106 (k := 1) rfl ?_
  refine r_bi C dX10_sign_107 (by decide) ?_
  refine r_cne C (tgt := 128) dX10_sign_109 (by decide) h (fun h => ?_) (fun h => ?_)
  · exact w_X10_sign_J128 C hr hlk x1 M  h
  · refine r_aln C dX10_sign_112 (k := 0) rfl ?_
    obtain ⟨r1, hy, h⟩ := q_calp_some h
    refine r_cvi C (st := []) (c_X10_here C.2.2.1 M r1 hy) tm_RX10_154 mw_X10_here ⟨rfl, rfl⟩ ⟨Nat.le_of_ble_eq_true rfl, Nat.le_of_ble_eq_true rfl⟩ km_0 clX10 rfl rfl (Nat.le_of_ble_eq_true rfl) dX10_sign_113 ?_
    refine r_bi C dX10_sign_116 (by decide) ?_
    refine r_cne C (tgt := 128) dX10_sign_118 (by decide) h (fun h => ?_) (fun h => ?_)
    · exact w_X10_sign_J128 C hr hlk x1 M  h
    · refine r_aln C dX10_sign_121 (k := 0) rfl ?_
      refine r_si C dX10_sign_122 (by decide) ?_
      refine r_pf C km_0 clX10 (f := 25) (by decide) rfl q_dI rfl rfl tf_RX10_171 dX10_sign_125 h (fun M2 h => ?_)
      exact w_X10_sign_J128 C hr hlk x1 M2  h
def f_X10_sign_J76 (x1 : Int) (y0 : Int) (M : Mem) : Res :=
  q_pf M 0 24 y0 fun M1 =>
  q_pf M1 0 25 x1 fun M2 =>
  if ¬ w32 x1 = w32 60 then (f_X10_sign_J106 x1 M2)
  else (q_calp (f_X10_here  M2) fun r3 =>
  if ¬ w32 r3 = w32 61 then (f_X10_sign_J106 x1 M2)
  else (q_pf M2 0 25 256 fun M4 =>
  f_X10_sign_J106 x1 M4))
theorem w_X10_sign_J76 (C : Cx syM p m c cX10_sign 2 s args RX10 D ad cA) (hr : meth.sig.returnType = none) (hlk : meth.locks = false) (x1 : Int) (y0 : Int) (M : Mem)  (h : f_X10_sign_J76 x1 y0 M = some (r0, M0)) : WM syM p l e rm_X10_sign s m args below meth c 2 D ad cA (MQ below (q_Post syM D ad cA none M0) args s 0 0 (q_A syM ad)) M 76 [(0, .ref (ad 0)), (1, .int (qI x1))] [.int (qI y0), .ref (ad 0)] := by
  unfold f_X10_sign_J76 at h
  refine r_pf C km_0 clX10 (f := 24) (by decide) rfl q_dI rfl rfl tf_RX10_161 dX10_sign_76 h (fun M1 h => ?_)
  refine r_aln C dX10_sign_79 (k := 0) rfl ?_
  refine r_iln C dX10_sign_80 (k := 1) rfl ?_
  refine r_pf C km_0 clX10 (f := 25) (by decide) rfl q_dI rfl rfl tf_RX10_171 dX10_sign_81 h (fun M2 h => ?_)
  refine r_iln C dX10_sign_84 (k := 1) rfl ?_
  refine r_bi C dX10_sign_85 (by decide) ?_
  refine r_cne C (tgt := 106) dX10_sign_87 (by decide) h (fun h => ?_) (fun h => ?_)
  · exact w_X10_sign_J106 C hr hlk x1 M2  h
  · refine r_aln C dX10_sign_90 (k := 0) rfl ?_
    obtain ⟨r3, hy, h⟩ := q_calp_some h
    refine r_cvi C (st := []) (c_X10_here C.2.2.1 M2 r3 hy) tm_RX10_154 mw_X10_here ⟨rfl, rfl⟩ ⟨Nat.le_of_ble_eq_true rfl, Nat.le_of_ble_eq_true rfl⟩ km_0 clX10 rfl rfl (Nat.le_of_ble_eq_true rfl) dX10_sign_91 ?_
    refine r_bi C dX10_sign_94 (by decide) ?_
    refine r_cne C (tgt := 106) dX10_sign_96 (by decide) h (fun h => ?_) (fun h => ?_)
    · exact w_X10_sign_J106 C hr hlk x1 M2  h
    · refine r_aln C dX10_sign_99 (k := 0) rfl ?_
      refine r_si C dX10_sign_100 (by decide) ?_
      refine r_pf C km_0 clX10 (f := 25) (by decide) rfl q_dI rfl rfl tf_RX10_171 dX10_sign_103 h (fun M4 h => ?_)
      exact w_X10_sign_J106 C hr hlk x1 M4  h
def f_X10_sign_J71 (x1 : Int) (M : Mem) : Res :=
  f_X10_sign_J76 x1 3 M
theorem w_X10_sign_J71 (C : Cx syM p m c cX10_sign 2 s args RX10 D ad cA) (hr : meth.sig.returnType = none) (hlk : meth.locks = false) (x1 : Int) (M : Mem)  (h : f_X10_sign_J71 x1 M = some (r0, M0)) : WM syM p l e rm_X10_sign s m args below meth c 2 D ad cA (MQ below (q_Post syM D ad cA none M0) args s 0 0 (q_A syM ad)) M 71 [(0, .ref (ad 0)), (1, .int (qI x1))] [.ref (ad 0)] := by
  unfold f_X10_sign_J71 at h
  refine r_ic C dX10_sign_71 ?_
  refine r_goto C (tgt := 76) dX10_sign_72 (by decide) ?_
  exact w_X10_sign_J76 C hr hlk x1 3 M  h
def f_X10_sign (a0 : Int) (M : Mem) : Res :=
  q_gf M 0 22 fun v1 =>
  q_pf M 0 22 (v1 + 1) fun M2 =>
  if w32 a0 = w32 59 then (f_X10_sign_J71 a0 M2)
  else (if w32 a0 = w32 40 then (f_X10_sign_J71 a0 M2)
  else (if w32 a0 = w32 41 then (f_X10_sign_J71 a0 M2)
  else (if w32 a0 = w32 43 then (f_X10_sign_J71 a0 M2)
  else (if w32 a0 = w32 45 then (f_X10_sign_J71 a0 M2)
  else (if w32 a0 = w32 42 then (f_X10_sign_J71 a0 M2)
  else (if w32 a0 = w32 47 then (f_X10_sign_J71 a0 M2)
  else (if w32 a0 = w32 60 then (f_X10_sign_J71 a0 M2)
  else (if w32 a0 = w32 61 then (f_X10_sign_J71 a0 M2)
  else (if ¬ w32 a0 = w32 62 then (f_X10_sign_J76 a0 5 M2)
  else (f_X10_sign_J71 a0 M2))))))))))
theorem c_X10_sign {l : Launch} {D : va_G} {ad : Nat → Nat} {cA : Nat → ClassId} (hi : q_inj syM ad) (a0 : Int) (M : Mem) (r0 : Int) (M0 : Mem) (h : f_X10_sign a0 M = some (r0, M0)) : q_Met l syM D ad cA yX10_sign cX10_sign 2 none rm_X10_sign [.ref (ad 0), .int (qI a0)] M none M0 := by
  refine q_met (L0 := [(0, .ref (ad 0)), (1, .int (qI a0))]) hi okM (by decide) (Nat.le_of_ble_eq_true rfl) rfl ?_
  intro p e s m args below meth c C hr hlk
  unfold f_X10_sign at h
  refine r_aln C dX10_sign_0 (k := 0) rfl ?_
  refine r_dup C rfl dX10_sign_1 ?_
  refine r_gf C km_0 clX10 (f := 22) (by decide) rfl rfl rfl tf_RX10_148 dX10_sign_2 h (fun v1 h => ?_)
  refine r_ic C dX10_sign_5 ?_
  refine r_iadd C dX10_sign_6 ?_
  refine r_pf C km_0 clX10 (f := 22) (by decide) rfl q_dI rfl rfl tf_RX10_148 dX10_sign_7 h (fun M2 h => ?_)
  refine r_aln C dX10_sign_10 (k := 0) rfl ?_
  refine r_iln C dX10_sign_11 (k := 1) rfl ?_
  refine r_bi C dX10_sign_12 (by decide) ?_
  refine r_ceq C (tgt := 71) dX10_sign_14 (by decide) h (fun h => ?_) (fun h => ?_)
  · exact w_X10_sign_J71 C hr hlk a0 M2  h
  · refine r_iln C dX10_sign_17 (k := 1) rfl ?_
    refine r_bi C dX10_sign_18 (by decide) ?_
    refine r_ceq C (tgt := 71) dX10_sign_20 (by decide) h (fun h => ?_) (fun h => ?_)
    · exact w_X10_sign_J71 C hr hlk a0 M2  h
    · refine r_iln C dX10_sign_23 (k := 1) rfl ?_
      refine r_bi C dX10_sign_24 (by decide) ?_
      refine r_ceq C (tgt := 71) dX10_sign_26 (by decide) h (fun h => ?_) (fun h => ?_)
      · exact w_X10_sign_J71 C hr hlk a0 M2  h
      · refine r_iln C dX10_sign_29 (k := 1) rfl ?_
        refine r_bi C dX10_sign_30 (by decide) ?_
        refine r_ceq C (tgt := 71) dX10_sign_32 (by decide) h (fun h => ?_) (fun h => ?_)
        · exact w_X10_sign_J71 C hr hlk a0 M2  h
        · refine r_iln C dX10_sign_35 (k := 1) rfl ?_
          refine r_bi C dX10_sign_36 (by decide) ?_
          refine r_ceq C (tgt := 71) dX10_sign_38 (by decide) h (fun h => ?_) (fun h => ?_)
          · exact w_X10_sign_J71 C hr hlk a0 M2  h
          · refine r_iln C dX10_sign_41 (k := 1) rfl ?_
            refine r_bi C dX10_sign_42 (by decide) ?_
            refine r_ceq C (tgt := 71) dX10_sign_44 (by decide) h (fun h => ?_) (fun h => ?_)
            · exact w_X10_sign_J71 C hr hlk a0 M2  h
            · refine r_iln C dX10_sign_47 (k := 1) rfl ?_
              refine r_bi C dX10_sign_48 (by decide) ?_
              refine r_ceq C (tgt := 71) dX10_sign_50 (by decide) h (fun h => ?_) (fun h => ?_)
              · exact w_X10_sign_J71 C hr hlk a0 M2  h
              · refine r_iln C dX10_sign_53 (k := 1) rfl ?_
                refine r_bi C dX10_sign_54 (by decide) ?_
                refine r_ceq C (tgt := 71) dX10_sign_56 (by decide) h (fun h => ?_) (fun h => ?_)
                · exact w_X10_sign_J71 C hr hlk a0 M2  h
                · refine r_iln C dX10_sign_59 (k := 1) rfl ?_
                  refine r_bi C dX10_sign_60 (by decide) ?_
                  refine r_ceq C (tgt := 71) dX10_sign_62 (by decide) h (fun h => ?_) (fun h => ?_)
                  · exact w_X10_sign_J71 C hr hlk a0 M2  h
                  · refine r_iln C dX10_sign_65 (k := 1) rfl ?_
                    refine r_bi C dX10_sign_66 (by decide) ?_
                    refine r_cne C (tgt := 75) dX10_sign_68 (by decide) h (fun h => ?_) (fun h => ?_)
                    · refine r_ic C dX10_sign_75 ?_
                      exact w_X10_sign_J76 C hr hlk a0 5 M2  h
                    · exact w_X10_sign_J71 C hr hlk a0 M2  h
abbrev rm_X10_token : Room := { frames := 7, cells := 0, slots := 0, locals := 323 }
theorem mw_X10_token : q_mw RX10 yX10_token cX10_token 2 none 0 := ⟨⟨ti_X10_token, tl_X10_token, tn_RX10, td_X10_token⟩, by decide +kernel⟩
def f_X10_token_J18 (g0 : Mem → Res) (M : Mem) : Res :=
  q_gf M 0 22 fun v1 =>
  q_pf M 0 22 (v1 + 1) fun M2 =>
  g0  M2
theorem w_X10_token_J18 (C : Cx syM p m c cX10_token 2 s args RX10 D ad cA) (hr : meth.sig.returnType = none) (hlk : meth.locks = false) (g0 : Mem → Res) (M : Mem) (ih0 : ∀  (M : Mem), g0  M = some (r0, M0) → WM syM p l e rm_X10_token s m args below meth c 2 D ad cA (MQ below (q_Post syM D ad cA none M0) args s 0 0 (q_A syM ad)) M 0 [(0, .ref (ad 0))] []) (h : f_X10_token_J18 g0 M = some (r0, M0)) : WM syM p l e rm_X10_token s m args below meth c 2 D ad cA (MQ below (q_Post syM D ad cA none M0) args s 0 0 (q_A syM ad)) M 18 [(0, .ref (ad 0))] [] := by
  unfold f_X10_token_J18 at h
  refine r_aln C dX10_token_18 (k := 0) rfl ?_
  refine r_dup C rfl dX10_token_19 ?_
  refine r_gf C km_0 clX10 (f := 22) (by decide) rfl rfl rfl tf_RX10_148 dX10_token_20 h (fun v1 h => ?_)
  refine r_ic C dX10_token_23 ?_
  refine r_iadd C dX10_token_24 ?_
  refine r_pf C km_0 clX10 (f := 22) (by decide) rfl q_dI rfl rfl tf_RX10_148 dX10_token_25 h (fun M2 h => ?_)
  refine r_goto C (tgt := 0) dX10_token_28 (by decide) ?_
  exact ih0  M2 h
def f_X10_token_J204 (g162 : Mem → Res) (y0 : Int) (M : Mem) : Res :=
  q_pf M 0 25 y0 fun M1 =>
  q_gf M1 0 22 fun v2 =>
  q_pf M1 0 22 (v2 + 1) fun M3 =>
  g162  M3
theorem w_X10_token_J204 (C : Cx syM p m c cX10_token 2 s args RX10 D ad cA) (hr : meth.sig.returnType = none) (hlk : meth.locks = false) (g162 : Mem → Res) (y0 : Int) (M : Mem) (ih162 : ∀  (M : Mem), g162  M = some (r0, M0) → WM syM p l e rm_X10_token s m args below meth c 2 D ad cA (MQ below (q_Post syM D ad cA none M0) args s 0 0 (q_A syM ad)) M 162 [(0, .ref (ad 0))] []) (h : f_X10_token_J204 g162 y0 M = some (r0, M0)) : WM syM p l e rm_X10_token s m args below meth c 2 D ad cA (MQ below (q_Post syM D ad cA none M0) args s 0 0 (q_A syM ad)) M 204 [(0, .ref (ad 0))] [.int (qI y0), .ref (ad 0)] := by
  unfold f_X10_token_J204 at h
  refine r_pf C km_0 clX10 (f := 25) (by decide) rfl q_dI rfl rfl tf_RX10_171 dX10_token_204 h (fun M1 h => ?_)
  refine r_aln C dX10_token_207 (k := 0) rfl ?_
  refine r_dup C rfl dX10_token_208 ?_
  refine r_gf C km_0 clX10 (f := 22) (by decide) rfl rfl rfl tf_RX10_148 dX10_token_209 h (fun v2 h => ?_)
  refine r_ic C dX10_token_212 ?_
  refine r_iadd C dX10_token_213 ?_
  refine r_pf C km_0 clX10 (f := 22) (by decide) rfl q_dI rfl rfl tf_RX10_148 dX10_token_214 h (fun M3 h => ?_)
  refine r_goto C (tgt := 162) dX10_token_217 (by decide) ?_
  exact ih162  M3 h
def f_X10_token_B162   (M : Mem) (g162 : Mem → Res) : Res :=
  q_calp (f_X10_here  M) fun r1 =>
  q_calp (f_X10_isDigit r1 M) fun r2 =>
  if w32 r2 = 0 then (some (0, M))
  else (q_gf M 0 25 fun v3 =>
  if w32 v3 ≤ w32 99999 then (q_gf M 0 25 fun v4 =>
  q_calp (f_X10_here  M) fun r5 =>
  f_X10_token_J204 g162 (((10 * v4) + r5) - 48) M)
  else (q_gf M 0 25 fun v6 =>
  f_X10_token_J204 g162 v6 M))
def f_X10_token_L162  (n : Nat)  (M : Mem) : Res := qlm0 (fun  M g162 => f_X10_token_B162   M g162) n  M
theorem w_X10_token_B162 (C : Cx syM p m c cX10_token 2 s args RX10 D ad cA) (hr : meth.sig.returnType = none) (hlk : meth.locks = false)   (M : Mem) (g162 : Mem → Res)  (ih162 : ∀  (M : Mem), g162  M = some (r0, M0) → WM syM p l e rm_X10_token s m args below meth c 2 D ad cA (MQ below (q_Post syM D ad cA none M0) args s 0 0 (q_A syM ad)) M 162 [(0, .ref (ad 0))] []) (h : f_X10_token_B162   M g162 = some (r0, M0)) : WM syM p l e rm_X10_token s m args below meth c 2 D ad cA (MQ below (q_Post syM D ad cA none M0) args s 0 0 (q_A syM ad)) M 162 [(0, .ref (ad 0))] [] := by
  unfold f_X10_token_B162 at h
  refine r_aln C dX10_token_162 (k := 0) rfl ?_
  obtain ⟨r1, hy, h⟩ := q_calp_some h
  refine r_cvi C (st := []) (c_X10_here C.2.2.1 M r1 hy) tm_RX10_154 mw_X10_here ⟨rfl, rfl⟩ ⟨Nat.le_of_ble_eq_true rfl, Nat.le_of_ble_eq_true rfl⟩ km_0 clX10 rfl rfl (Nat.le_of_ble_eq_true rfl) dX10_token_163 ?_
  obtain ⟨r2, hy, h⟩ := q_calp_some h
  refine r_csi C (st := []) (c_X10_isDigit C.2.2.1 r1 M r2 hy) tm_RX10_177 mw_X10_isDigit ⟨rfl, rfl⟩ ⟨Nat.le_of_ble_eq_true rfl, Nat.le_of_ble_eq_true rfl⟩ rfl rfl (Nat.le_of_ble_eq_true rfl) dX10_token_166 ?_
  refine r_zeq C (tgt := 225) dX10_token_169 (by decide) h (fun h => ?_) (fun h => ?_)
  · exact r_vret C hr hlk dX10_token_225 h
  · refine r_aln C dX10_token_172 (k := 0) rfl ?_
    refine r_aln C dX10_token_173 (k := 0) rfl ?_
    refine r_gf C km_0 clX10 (f := 25) (by decide) rfl rfl rfl tf_RX10_171 dX10_token_174 h (fun v3 h => ?_)
    refine r_ldc C (x := 99999) tc_RX10_180 (by decide) dX10_token_177 ?_
    refine r_cle C (tgt := 189) dX10_token_179 (by decide) h (fun h => ?_) (fun h => ?_)
    · refine r_bi C dX10_token_189 (by decide) ?_
      refine r_aln C dX10_token_191 (k := 0) rfl ?_
      refine r_gf C km_0 clX10 (f := 25) (by decide) rfl rfl rfl tf_RX10_171 dX10_token_192 h (fun v4 h => ?_)
      refine r_imul C dX10_token_195 ?_
      refine r_aln C dX10_token_196 (k := 0) rfl ?_
      obtain ⟨r5, hy, h⟩ := q_calp_some h
      refine r_cvi C (st := [.int (qI (10 * v4)), .ref (ad 0)]) (c_X10_here C.2.2.1 M r5 hy) tm_RX10_154 mw_X10_here ⟨rfl, rfl⟩ ⟨Nat.le_of_ble_eq_true rfl, Nat.le_of_ble_eq_true rfl⟩ km_0 clX10 rfl rfl (Nat.le_of_ble_eq_true rfl) dX10_token_197 ?_
      refine r_iadd C dX10_token_200 ?_
      refine r_bi C dX10_token_201 (by decide) ?_
      refine r_isub C dX10_token_203 ?_
      exact w_X10_token_J204 C hr hlk g162 (((10 * v4) + r5) - 48) M ih162 h
    · refine r_aln C dX10_token_182 (k := 0) rfl ?_
      refine r_gf C km_0 clX10 (f := 25) (by decide) rfl rfl rfl tf_RX10_171 dX10_token_183 h (fun v6 h => ?_)
      refine r_goto C (tgt := 204) dX10_token_186 (by decide) ?_
      exact w_X10_token_J204 C hr hlk g162 v6 M ih162 h
theorem w_X10_token_L162 (C : Cx syM p m c cX10_token 2 s args RX10 D ad cA) (hr : meth.sig.returnType = none) (hlk : meth.locks = false)    (n : Nat)  (M : Mem) (h : f_X10_token_L162  n  M = some (r0, M0)) : WM syM p l e rm_X10_token s m args below meth c 2 D ad cA (MQ below (q_Post syM D ad cA none M0) args s 0 0 (q_A syM ad)) M 162 [(0, .ref (ad 0))] [] :=
  qlm0_r (Wp := fun  M => WM syM p l e rm_X10_token s m args below meth c 2 D ad cA (MQ below (q_Post syM D ad cA none M0) args s 0 0 (q_A syM ad)) M 162 [(0, .ref (ad 0))] []) (fun  M g162 ih162 h => w_X10_token_B162 C hr hlk   M g162  ih162 h) n  M h
def f_X10_token_J127 (y0 : Int) (M : Mem) : Res :=
  q_pf M 0 24 y0 fun M1 =>
  q_gf M1 0 24 fun v2 =>
  if ¬ w32 v2 = w32 1 then (some (0, M1))
  else (q_call (f_X10_name  M1) fun r3 M4 =>
  some (0, M4))
theorem w_X10_token_J127 (C : Cx syM p m c cX10_token 2 s args RX10 D ad cA) (hr : meth.sig.returnType = none) (hlk : meth.locks = false) (y0 : Int) (M : Mem)  (h : f_X10_token_J127 y0 M = some (r0, M0)) : WM syM p l e rm_X10_token s m args below meth c 2 D ad cA (MQ below (q_Post syM D ad cA none M0) args s 0 0 (q_A syM ad)) M 127 [(0, .ref (ad 0))] [.int (qI y0), .ref (ad 0)] := by
  unfold f_X10_token_J127 at h
  refine r_pf C km_0 clX10 (f := 24) (by decide) rfl q_dI rfl rfl tf_RX10_161 dX10_token_127 h (fun M1 h => ?_)
  refine r_aln C dX10_token_130 (k := 0) rfl ?_
  refine r_gf C km_0 clX10 (f := 24) (by decide) rfl rfl rfl tf_RX10_161 dX10_token_131 h (fun v2 h => ?_)
  refine r_ic C dX10_token_134 ?_
  refine r_cne C (tgt := 225) dX10_token_135 (by decide) h (fun h => ?_) (fun h => ?_)
  · exact r_vret C hr hlk dX10_token_225 h
  · refine r_aln C dX10_token_138 (k := 0) rfl ?_
    obtain ⟨r3, M4, hy, h⟩ := q_call_some h
    refine r_cvv C (st := []) (c_X10_name C.2.2.1 M1 r3 M4 hy) tm_RX10_174 mw_X10_name ⟨rfl, rfl⟩ ⟨Nat.le_of_ble_eq_true rfl, Nat.le_of_ble_eq_true rfl⟩ km_0 clX10 rfl rfl (Nat.le_of_ble_eq_true rfl) dX10_token_139 ?_
    refine r_goto C (tgt := 225) dX10_token_142 (by decide) ?_
    exact r_vret C hr hlk dX10_token_225 h
def f_X10_token_B64   (M : Mem) (g64 : Mem → Res) : Res :=
  q_calp (f_X10_here  M) fun r1 =>
  q_calp (f_X10_isSmall r1 M) fun r2 =>
  if w32 r2 = 0 then (q_calp (f_X10_word  M) fun r3 =>
  q_pf M 0 25 r3 fun M4 =>
  q_gf M4 0 25 fun v5 =>
  if w32 v5 = w32 (-1) then (q_gf M4 0 22 fun v6 =>
  q_gf M4 0 23 fun v7 =>
  if w32 (v6 - v7) ≤ w32 6 then (f_X10_token_J127 1 M4)
  else (f_X10_token_J127 5 M4))
  else (f_X10_token_J127 0 M4))
  else (q_gf M 0 22 fun v8 =>
  q_pf M 0 22 (v8 + 1) fun M9 =>
  g64  M9)
def f_X10_token_L64  (n : Nat)  (M : Mem) : Res := qlm0 (fun  M g64 => f_X10_token_B64   M g64) n  M
theorem w_X10_token_B64 (C : Cx syM p m c cX10_token 2 s args RX10 D ad cA) (hr : meth.sig.returnType = none) (hlk : meth.locks = false)   (M : Mem) (g64 : Mem → Res)  (ih64 : ∀  (M : Mem), g64  M = some (r0, M0) → WM syM p l e rm_X10_token s m args below meth c 2 D ad cA (MQ below (q_Post syM D ad cA none M0) args s 0 0 (q_A syM ad)) M 64 [(0, .ref (ad 0))] []) (h : f_X10_token_B64   M g64 = some (r0, M0)) : WM syM p l e rm_X10_token s m args below meth c 2 D ad cA (MQ below (q_Post syM D ad cA none M0) args s 0 0 (q_A syM ad)) M 64 [(0, .ref (ad 0))] [] := by
  unfold f_X10_token_B64 at h
  refine r_aln C dX10_token_64 (k := 0) rfl ?_
  obtain ⟨r1, hy, h⟩ := q_calp_some h
  refine r_cvi C (st := []) (c_X10_here C.2.2.1 M r1 hy) tm_RX10_154 mw_X10_here ⟨rfl, rfl⟩ ⟨Nat.le_of_ble_eq_true rfl, Nat.le_of_ble_eq_true rfl⟩ km_0 clX10 rfl rfl (Nat.le_of_ble_eq_true rfl) dX10_token_65 ?_
  obtain ⟨r2, hy, h⟩ := q_calp_some h
  refine r_csi C (st := []) (c_X10_isSmall C.2.2.1 r1 M r2 hy) tm_RX10_164 mw_X10_isSmall ⟨rfl, rfl⟩ ⟨Nat.le_of_ble_eq_true rfl, Nat.le_of_ble_eq_true rfl⟩ rfl rfl (Nat.le_of_ble_eq_true rfl) dX10_token_68 ?_
  refine r_zeq C (tgt := 87) dX10_token_71 (by decide) h (fun h => ?_) (fun h => ?_)
  · refine r_aln C dX10_token_87 (k := 0) rfl ?_
    refine r_aln C dX10_token_88 (k := 0) rfl ?_
    obtain ⟨r3, hy, h⟩ := q_calp_some h
    refine r_cvi C (st := [.ref (ad 0)]) (c_X10_word C.2.2.1 M r3 hy) tm_RX10_168 mw_X10_word ⟨rfl, rfl⟩ ⟨Nat.le_of_ble_eq_true rfl, Nat.le_of_ble_eq_true rfl⟩ km_0 clX10 rfl rfl (Nat.le_of_ble_eq_true rfl) dX10_token_89 ?_
    refine r_pf C km_0 clX10 (f := 25) (by decide) rfl q_dI rfl rfl tf_RX10_171 dX10_token_92 h (fun M4 h => ?_)
    refine r_aln C dX10_token_95 (k := 0) rfl ?_
    refine r_aln C dX10_token_96 (k := 0) rfl ?_
    refine r_gf C km_0 clX10 (f := 25) (by decide) rfl rfl rfl tf_RX10_171 dX10_token_97 h (fun v5 h => ?_)
    refine r_ic C dX10_token_100 ?_
    refine r_ceq C (tgt := 108) dX10_token_101 (by decide) h (fun h => ?_) (fun h => ?_)
    · refine r_aln C dX10_token_108 (k := 0) rfl ?_
      refine r_gf C km_0 clX10 (f := 22) (by decide) rfl rfl rfl tf_RX10_148 dX10_token_109 h (fun v6 h => ?_)
      refine r_aln C dX10_token_112 (k := 0) rfl ?_
      refine r_gf C km_0 clX10 (f := 23) (by decide) rfl rfl rfl tf_RX10_158 dX10_token_113 h (fun v7 h => ?_)
      refine r_isub C dX10_token_116 ?_
      refine r_bi C dX10_token_117 (by decide) ?_
      refine r_cle C (tgt := 126) dX10_token_119 (by decide) h (fun h => ?_) (fun h => ?_)
      · refine r_ic C dX10_token_126 ?_
        exact w_X10_token_J127 C hr hlk 1 M4  h
      · refine r_ic C dX10_token_122 ?_
        refine r_goto C (tgt := 127) dX10_token_123 (by decide) ?_
        exact w_X10_token_J127 C hr hlk 5 M4  h
    · refine r_ic C dX10_token_104 ?_
      refine r_goto C (tgt := 127) dX10_token_105 (by decide) ?_
      exact w_X10_token_J127 C hr hlk 0 M4  h
  · refine r_aln C dX10_token_74 (k := 0) rfl ?_
    refine r_dup C rfl dX10_token_75 ?_
    refine r_gf C km_0 clX10 (f := 22) (by decide) rfl rfl rfl tf_RX10_148 dX10_token_76 h (fun v8 h => ?_)
    refine r_ic C dX10_token_79 ?_
    refine r_iadd C dX10_token_80 ?_
    refine r_pf C km_0 clX10 (f := 22) (by decide) rfl q_dI rfl rfl tf_RX10_148 dX10_token_81 h (fun M9 h => ?_)
    refine r_goto C (tgt := 64) dX10_token_84 (by decide) ?_
    exact ih64  M9 h
theorem w_X10_token_L64 (C : Cx syM p m c cX10_token 2 s args RX10 D ad cA) (hr : meth.sig.returnType = none) (hlk : meth.locks = false)    (n : Nat)  (M : Mem) (h : f_X10_token_L64  n  M = some (r0, M0)) : WM syM p l e rm_X10_token s m args below meth c 2 D ad cA (MQ below (q_Post syM D ad cA none M0) args s 0 0 (q_A syM ad)) M 64 [(0, .ref (ad 0))] [] :=
  qlm0_r (Wp := fun  M => WM syM p l e rm_X10_token s m args below meth c 2 D ad cA (MQ below (q_Post syM D ad cA none M0) args s 0 0 (q_A syM ad)) M 64 [(0, .ref (ad 0))] []) (fun  M g64 ih64 h => w_X10_token_B64 C hr hlk   M g64  ih64 h) n  M h
def f_X10_token_B0   (M : Mem) (g0 : Mem → Res) : Res :=
  q_calp (f_X10_here  M) fun r1 =>
  if w32 r1 = w32 10 then (f_X10_token_J18 g0 M)
  else (q_calp (f_X10_here  M) fun r2 =>
  if ¬ w32 r2 = w32 32 then (q_gf M 0 22 fun v3 =>
  q_pf M 0 23 v3 fun M4 =>
  q_calp (f_X10_here  M4) fun r5 =>
  if ¬ w32 r5 = w32 (-1) then (q_calp (f_X10_isSmall r5 M4) fun r6 =>
  if w32 r6 = 0 then (q_calp (f_X10_isDigit r5 M4) fun r7 =>
  if w32 r7 = 0 then (q_call (f_X10_sign r5 M4) fun r8 M9 =>
  some (0, M9))
  else (q_pf M4 0 24 2 fun M10 =>
  q_pf M10 0 25 0 fun M11 =>
  f_X10_token_L162  q_N  M11))
  else (f_X10_token_L64  q_N  M4))
  else (q_pf M4 0 24 4 fun M12 =>
  some (0, M12)))
  else (f_X10_token_J18 g0 M))
def f_X10_token_L0  (n : Nat)  (M : Mem) : Res := qlm0 (fun  M g0 => f_X10_token_B0   M g0) n  M
theorem w_X10_token_B0 (C : Cx syM p m c cX10_token 2 s args RX10 D ad cA) (hr : meth.sig.returnType = none) (hlk : meth.locks = false)   (M : Mem) (g0 : Mem → Res)  (ih0 : ∀  (M : Mem), g0  M = some (r0, M0) → WM syM p l e rm_X10_token s m args below meth c 2 D ad cA (MQ below (q_Post syM D ad cA none M0) args s 0 0 (q_A syM ad)) M 0 [(0, .ref (ad 0))] []) (h : f_X10_token_B0   M g0 = some (r0, M0)) : WM syM p l e rm_X10_token s m args below meth c 2 D ad cA (MQ below (q_Post syM D ad cA none M0) args s 0 0 (q_A syM ad)) M 0 [(0, .ref (ad 0))] [] := by
  unfold f_X10_token_B0 at h
  refine r_aln C dX10_token_0 (k := 0) rfl ?_
  obtain ⟨r1, hy, h⟩ := q_calp_some h
  refine r_cvi C (st := []) (c_X10_here C.2.2.1 M r1 hy) tm_RX10_154 mw_X10_here ⟨rfl, rfl⟩ ⟨Nat.le_of_ble_eq_true rfl, Nat.le_of_ble_eq_true rfl⟩ km_0 clX10 rfl rfl (Nat.le_of_ble_eq_true rfl) dX10_token_1 ?_
  refine r_bi C dX10_token_4 (by decide) ?_
  refine r_ceq C (tgt := 18) dX10_token_6 (by decide) h (fun h => ?_) (fun h => ?_)
  · exact w_X10_token_J18 C hr hlk g0 M ih0 h
  · refine r_aln C dX10_token_9 (k := 0) rfl ?_
    obtain ⟨r2, hy, h⟩ := q_calp_some h
    refine r_cvi C (st := []) (c_X10_here C.2.2.1 M r2 hy) tm_RX10_154 mw_X10_here ⟨rfl, rfl⟩ ⟨Nat.le_of_ble_eq_true rfl, Nat.le_of_ble_eq_true rfl⟩ km_0 clX10 rfl rfl (Nat.le_of_ble_eq_true rfl) dX10_token_10 ?_
    refine r_bi C dX10_token_13 (by decide) ?_
    refine r_cne C (tgt := 31) dX10_token_15 (by decide) h (fun h => ?_) (fun h => ?_)
    · refine r_aln C dX10_token_31 (k := 0) rfl ?_
      refine r_aln C dX10_token_32 (k := 0) rfl ?_
      refine r_gf C km_0 clX10 (f := 22) (by decide) rfl rfl rfl tf_RX10_148 dX10_token_33 h (fun v3 h => ?_)
      refine r_pf C km_0 clX10 (f := 23) (by decide) rfl q_dI rfl rfl tf_RX10_158 dX10_token_36 h (fun M4 h => ?_)
      refine r_aln C dX10_token_39 (k := 0) rfl ?_
      obtain ⟨r5, hy, h⟩ := q_calp_some h
      refine r_cvi C (st := []) (c_X10_here C.2.2.1 M4 r5 hy) tm_RX10_154 mw_X10_here ⟨rfl, rfl⟩ ⟨Nat.le_of_ble_eq_true rfl, Nat.le_of_ble_eq_true rfl⟩ km_0 clX10 rfl rfl (Nat.le_of_ble_eq_true rfl) dX10_token_40 ?_
      refine r_isn C (L1 := [(1, .int (qI r5)), (0, .ref (ad 0))]) dX10_token_43 (by decide) rfl ?_
      refine r_iln C dX10_token_44 (k := 0) rfl ?_
      refine r_ic C dX10_token_45 ?_
      refine r_cne C (tgt := 57) dX10_token_46 (by decide) h (fun h => ?_) (fun h => ?_)
      · refine r_iln C dX10_token_57 (k := 0) rfl ?_
        obtain ⟨r6, hy, h⟩ := q_calp_some h
        refine r_csi C (st := []) (c_X10_isSmall C.2.2.1 r5 M4 r6 hy) tm_RX10_164 mw_X10_isSmall ⟨rfl, rfl⟩ ⟨Nat.le_of_ble_eq_true rfl, Nat.le_of_ble_eq_true rfl⟩ rfl rfl (Nat.le_of_ble_eq_true rfl) dX10_token_58 ?_
        refine r_zeq C (tgt := 145) dX10_token_61 (by decide) h (fun h => ?_) (fun h => ?_)
        · refine r_iln C dX10_token_145 (k := 0) rfl ?_
          obtain ⟨r7, hy, h⟩ := q_calp_some h
          refine r_csi C (st := []) (c_X10_isDigit C.2.2.1 r5 M4 r7 hy) tm_RX10_177 mw_X10_isDigit ⟨rfl, rfl⟩ ⟨Nat.le_of_ble_eq_true rfl, Nat.le_of_ble_eq_true rfl⟩ rfl rfl (Nat.le_of_ble_eq_true rfl) dX10_token_146 ?_
          refine r_zeq C (tgt := 220) dX10_token_149 (by decide) h (fun h => ?_) (fun h => ?_)
          · refine r_aln C dX10_token_220 (k := 1) rfl ?_
            refine r_iln C dX10_token_221 (k := 0) rfl ?_
            obtain ⟨r8, M9, hy, h⟩ := q_call_some h
            refine r_cvv C (st := []) (c_X10_sign C.2.2.1 r5 M4 r8 M9 hy) tm_RX10_181 mw_X10_sign ⟨rfl, rfl⟩ ⟨Nat.le_of_ble_eq_true rfl, Nat.le_of_ble_eq_true rfl⟩ km_0 clX10 rfl rfl (Nat.le_of_ble_eq_true rfl) dX10_token_222 ?_
            exact r_vret C hr hlk dX10_token_225 h
          · refine r_aln C dX10_token_152 (k := 1) rfl ?_
            refine r_ic C dX10_token_153 ?_
            refine r_pf C km_0 clX10 (f := 24) (by decide) rfl q_dI rfl rfl tf_RX10_161 dX10_token_154 h (fun M10 h => ?_)
            refine r_aln C dX10_token_157 (k := 1) rfl ?_
            refine r_ic C dX10_token_158 ?_
            refine r_pf C km_0 clX10 (f := 25) (by decide) rfl q_dI rfl rfl tf_RX10_171 dX10_token_159 h (fun M11 h => ?_)
            refine r_drop [1] rfl ?_
            exact w_X10_token_L162 C hr hlk   q_N  M11 h
        · refine r_drop [1] rfl ?_
          exact w_X10_token_L64 C hr hlk   q_N  M4 h
      · refine r_aln C dX10_token_49 (k := 1) rfl ?_
        refine r_ic C dX10_token_50 ?_
        refine r_pf C km_0 clX10 (f := 24) (by decide) rfl q_dI rfl rfl tf_RX10_161 dX10_token_51 h (fun M12 h => ?_)
        refine r_goto C (tgt := 225) dX10_token_54 (by decide) ?_
        exact r_vret C hr hlk dX10_token_225 h
    · exact w_X10_token_J18 C hr hlk g0 M ih0 h
theorem w_X10_token_L0 (C : Cx syM p m c cX10_token 2 s args RX10 D ad cA) (hr : meth.sig.returnType = none) (hlk : meth.locks = false)    (n : Nat)  (M : Mem) (h : f_X10_token_L0  n  M = some (r0, M0)) : WM syM p l e rm_X10_token s m args below meth c 2 D ad cA (MQ below (q_Post syM D ad cA none M0) args s 0 0 (q_A syM ad)) M 0 [(0, .ref (ad 0))] [] :=
  qlm0_r (Wp := fun  M => WM syM p l e rm_X10_token s m args below meth c 2 D ad cA (MQ below (q_Post syM D ad cA none M0) args s 0 0 (q_A syM ad)) M 0 [(0, .ref (ad 0))] []) (fun  M g0 ih0 h => w_X10_token_B0 C hr hlk   M g0  ih0 h) n  M h
def f_X10_token  (M : Mem) : Res :=
  f_X10_token_L0  q_N  M
theorem c_X10_token {l : Launch} {D : va_G} {ad : Nat → Nat} {cA : Nat → ClassId} (hi : q_inj syM ad)  (M : Mem) (r0 : Int) (M0 : Mem) (h : f_X10_token  M = some (r0, M0)) : q_Met l syM D ad cA yX10_token cX10_token 2 none rm_X10_token [.ref (ad 0)] M none M0 := by
  refine q_met (L0 := [(0, .ref (ad 0))]) hi okM (by decide) (Nat.le_of_ble_eq_true rfl) rfl ?_
  intro p e s m args below meth c C hr hlk
  unfold f_X10_token at h
  exact w_X10_token_L0 C hr hlk   q_N  M h
abbrev rm_X10_goOn : Room := { frames := 8, cells := 0, slots := 0, locals := 344 }
theorem mw_X10_goOn : q_mw RX10 yX10_goOn cX10_goOn 1 none 0 := ⟨⟨ti_X10_goOn, tl_X10_goOn, tn_RX10, td_X10_goOn⟩, by decide +kernel⟩
def f_X10_goOn  (M : Mem) : Res :=
  q_gf M 0 26 fun v1 =>
  if ¬ w32 v1 = 0 then (some (0, M))
  else (q_call (f_X10_token  M) fun r2 M3 =>
  some (0, M3))
theorem c_X10_goOn {l : Launch} {D : va_G} {ad : Nat → Nat} {cA : Nat → ClassId} (hi : q_inj syM ad)  (M : Mem) (r0 : Int) (M0 : Mem) (h : f_X10_goOn  M = some (r0, M0)) : q_Met l syM D ad cA yX10_goOn cX10_goOn 1 none rm_X10_goOn [.ref (ad 0)] M none M0 := by
  refine q_met (L0 := [(0, .ref (ad 0))]) hi okM (by decide) (Nat.le_of_ble_eq_true rfl) rfl ?_
  intro p e s m args below meth c C hr hlk
  unfold f_X10_goOn at h
  refine r_aln C dX10_goOn_0 (k := 0) rfl ?_
  refine r_gf C km_0 clX10 (f := 26) (by decide) rfl rfl rfl tf_RX10_196 dX10_goOn_1 h (fun v1 h => ?_)
  refine r_zne C (tgt := 11) dX10_goOn_4 (by decide) h (fun h => ?_) (fun h => ?_)
  · exact r_vret C hr hlk dX10_goOn_11 h
  · refine r_aln C dX10_goOn_7 (k := 0) rfl ?_
    obtain ⟨r2, M3, hy, h⟩ := q_call_some h
    refine r_cvv C (st := []) (c_X10_token C.2.2.1 M r2 M3 hy) tm_RX10_202 mw_X10_token ⟨rfl, rfl⟩ ⟨Nat.le_of_ble_eq_true rfl, Nat.le_of_ble_eq_true rfl⟩ km_0 clX10 rfl rfl (Nat.le_of_ble_eq_true rfl) dX10_goOn_8 ?_
    exact r_vret C hr hlk dX10_goOn_11 h
abbrev rm_X10_fresher : Room := { frames := 0, cells := 0, slots := 0, locals := 0 }
theorem mw_X10_fresher : q_mw RX10 yX10_fresher cX10_fresher 2 (some .int) 1 := ⟨⟨ti_X10_fresher, tl_X10_fresher, tn_RX10, td_X10_fresher⟩, by decide +kernel⟩
def f_X10_fresher (a0 : Int) (M : Mem) : Option Int :=
  q_al M 35 14 (7 + a0) fun v1 =>
  some v1
theorem c_X10_fresher {l : Launch} {D : va_G} {ad : Nat → Nat} {cA : Nat → ClassId} (hi : q_inj syM ad) (a0 : Int) (M : Mem) (r0 : Int) (h : f_X10_fresher a0 M = some r0) : q_Met l syM D ad cA yX10_fresher cX10_fresher 2 (some .int) rm_X10_fresher [.ref (ad 0), .int (qI a0)] M (some (.int (qI r0))) M := by
  refine q_met (L0 := [(0, .ref (ad 0)), (1, .int (qI a0))]) hi okM (by decide) (Nat.le_of_ble_eq_true rfl) rfl ?_
  intro p e s m args below meth c C hr hlk
  unfold f_X10_fresher at h
  refine r_aln C dX10_fresher_0 (k := 0) rfl ?_
  refine r_gs C km_0 clX10 (f := 3) (by decide) rfl (t := 35) rfl tf_RX10_13 dX10_fresher_1 ?_
  refine r_bi C dX10_fresher_4 (by decide) ?_
  refine r_iln C dX10_fresher_6 (k := 1) rfl ?_
  refine r_iadd C dX10_fresher_7 ?_
  refine r_iald C km_35 dX10_fresher_8 h (fun v1 h => ?_)
  exact r_iretp C hr hlk dX10_fresher_9 h
abbrev rm_X10_reads : Room := { frames := 0, cells := 0, slots := 0, locals := 0 }
theorem mw_X10_reads : q_mw RX10 yX10_reads cX10_reads 3 none 2 := ⟨⟨ti_X10_reads, tl_X10_reads, tn_RX10, td_X10_reads⟩, by decide +kernel⟩
def f_X10_reads (a0 : Int) (a1 : Int) (M : Mem) : Res :=
  q_as M 35 14 (7 + a0) a1 fun M1 =>
  some (0, M1)
theorem c_X10_reads {l : Launch} {D : va_G} {ad : Nat → Nat} {cA : Nat → ClassId} (hi : q_inj syM ad) (a0 : Int) (a1 : Int) (M : Mem) (r0 : Int) (M0 : Mem) (h : f_X10_reads a0 a1 M = some (r0, M0)) : q_Met l syM D ad cA yX10_reads cX10_reads 3 none rm_X10_reads [.ref (ad 0), .int (qI a0), .int (qI a1)] M none M0 := by
  refine q_met (L0 := [(0, .ref (ad 0)), (1, .int (qI a0)), (2, .int (qI a1))]) hi okM (by decide) (Nat.le_of_ble_eq_true rfl) rfl ?_
  intro p e s m args below meth c C hr hlk
  unfold f_X10_reads at h
  refine r_aln C dX10_reads_0 (k := 0) rfl ?_
  refine r_gs C km_0 clX10 (f := 3) (by decide) rfl (t := 35) rfl tf_RX10_13 dX10_reads_1 ?_
  refine r_bi C dX10_reads_4 (by decide) ?_
  refine r_iln C dX10_reads_6 (k := 1) rfl ?_
  refine r_iadd C dX10_reads_7 ?_
  refine r_iln C dX10_reads_8 (k := 2) rfl ?_
  refine r_iast C km_35 dX10_reads_9 h (fun M1 h => ?_)
  exact r_vret C hr hlk dX10_reads_10 h
abbrev rm_X10_puts : Room := { frames := 1, cells := 0, slots := 0, locals := 22 }
theorem mw_X10_puts : q_mw RX10 yX10_puts cX10_puts 3 none 2 := ⟨⟨ti_X10_puts, tl_X10_puts, tn_RX10, td_X10_puts⟩, by decide +kernel⟩
def f_X10_puts (a0 : Int) (a1 : Int) (M : Mem) : Res :=
  q_gf M 0 26 fun v1 =>
  if w32 v1 = 0 then (q_calp (f_X10_fresher 6 M) fun r2 =>
  q_as M 49 128 (64 + r2) a0 fun M3 =>
  q_calp (f_X10_fresher 6 M3) fun r4 =>
  q_as M3 50 128 (64 + r4) a1 fun M5 =>
  q_calp (f_X10_fresher 6 M5) fun r6 =>
  q_call (f_X10_reads 6 (r6 + 1) M5) fun r7 M8 =>
  some (0, M8))
  else (some (0, M))
theorem c_X10_puts {l : Launch} {D : va_G} {ad : Nat → Nat} {cA : Nat → ClassId} (hi : q_inj syM ad) (a0 : Int) (a1 : Int) (M : Mem) (r0 : Int) (M0 : Mem) (h : f_X10_puts a0 a1 M = some (r0, M0)) : q_Met l syM D ad cA yX10_puts cX10_puts 3 none rm_X10_puts [.ref (ad 0), .int (qI a0), .int (qI a1)] M none M0 := by
  refine q_met (L0 := [(0, .ref (ad 0)), (1, .int (qI a0)), (2, .int (qI a1))]) hi okM (by decide) (Nat.le_of_ble_eq_true rfl) rfl ?_
  intro p e s m args below meth c C hr hlk
  unfold f_X10_puts at h
  refine r_aln C dX10_puts_0 (k := 0) rfl ?_
  refine r_gf C km_0 clX10 (f := 26) (by decide) rfl rfl rfl tf_RX10_196 dX10_puts_1 h (fun v1 h => ?_)
  refine r_zeq C (tgt := 8) dX10_puts_4 (by decide) h (fun h => ?_) (fun h => ?_)
  · refine r_aln C dX10_puts_8 (k := 0) rfl ?_
    refine r_gs C km_0 clX10 (f := 17) (by decide) rfl (t := 49) rfl tf_RX10_55 dX10_puts_9 ?_
    refine r_bi C dX10_puts_12 (by decide) ?_
    refine r_aln C dX10_puts_14 (k := 0) rfl ?_
    refine r_bi C dX10_puts_15 (by decide) ?_
    obtain ⟨r2, hy, h⟩ := q_calp_some h
    refine r_cvi C (st := [.int (qI 64), .ref (ad 49)]) (c_X10_fresher C.2.2.1 6 M r2 hy) tm_RX10_212 mw_X10_fresher ⟨rfl, rfl⟩ ⟨Nat.le_of_ble_eq_true rfl, Nat.le_of_ble_eq_true rfl⟩ km_0 clX10 rfl rfl (Nat.le_of_ble_eq_true rfl) dX10_puts_17 ?_
    refine r_iadd C dX10_puts_20 ?_
    refine r_iln C dX10_puts_21 (k := 1) rfl ?_
    refine r_iast C km_49 dX10_puts_22 h (fun M3 h => ?_)
    refine r_aln C dX10_puts_23 (k := 0) rfl ?_
    refine r_gs C km_0 clX10 (f := 18) (by decide) rfl (t := 50) rfl tf_RX10_58 dX10_puts_24 ?_
    refine r_bi C dX10_puts_27 (by decide) ?_
    refine r_aln C dX10_puts_29 (k := 0) rfl ?_
    refine r_bi C dX10_puts_30 (by decide) ?_
    obtain ⟨r4, hy, h⟩ := q_calp_some h
    refine r_cvi C (st := [.int (qI 64), .ref (ad 50)]) (c_X10_fresher C.2.2.1 6 M3 r4 hy) tm_RX10_212 mw_X10_fresher ⟨rfl, rfl⟩ ⟨Nat.le_of_ble_eq_true rfl, Nat.le_of_ble_eq_true rfl⟩ km_0 clX10 rfl rfl (Nat.le_of_ble_eq_true rfl) dX10_puts_32 ?_
    refine r_iadd C dX10_puts_35 ?_
    refine r_iln C dX10_puts_36 (k := 2) rfl ?_
    refine r_iast C km_50 dX10_puts_37 h (fun M5 h => ?_)
    refine r_aln C dX10_puts_38 (k := 0) rfl ?_
    refine r_bi C dX10_puts_39 (by decide) ?_
    refine r_aln C dX10_puts_41 (k := 0) rfl ?_
    refine r_bi C dX10_puts_42 (by decide) ?_
    obtain ⟨r6, hy, h⟩ := q_calp_some h
    refine r_cvi C (st := [.int (qI 6), .ref (ad 0)]) (c_X10_fresher C.2.2.1 6 M5 r6 hy) tm_RX10_212 mw_X10_fresher ⟨rfl, rfl⟩ ⟨Nat.le_of_ble_eq_true rfl, Nat.le_of_ble_eq_true rfl⟩ km_0 clX10 rfl rfl (Nat.le_of_ble_eq_true rfl) dX10_puts_44 ?_
    refine r_ic C dX10_puts_47 ?_
    refine r_iadd C dX10_puts_48 ?_
    obtain ⟨r7, M8, hy, h⟩ := q_call_some h
    refine r_cvv C (st := []) (c_X10_reads C.2.2.1 6 (r6 + 1) M5 r7 M8 hy) tm_RX10_230 mw_X10_reads ⟨rfl, rfl⟩ ⟨Nat.le_of_ble_eq_true rfl, Nat.le_of_ble_eq_true rfl⟩ km_0 clX10 rfl rfl (Nat.le_of_ble_eq_true rfl) dX10_puts_49 ?_
    exact r_vret C hr hlk dX10_puts_52 h
  · exact r_vret C hr hlk dX10_puts_7 h
def rg_E (d : Nat) : Room := { frames := 9 + d, cells := 0, slots := 0, locals := 364 + 21 * d }
theorem mw_X10_expression : q_mw RX10 yX10_expression cX10_expression 1 none 0 := ⟨⟨ti_X10_expression, tl_X10_expression, tn_RX10, td_X10_expression⟩, by decide +kernel⟩
theorem mw_X10_conjunction : q_mw RX10 yX10_conjunction cX10_conjunction 1 none 0 := ⟨⟨ti_X10_conjunction, tl_X10_conjunction, tn_RX10, td_X10_conjunction⟩, by decide +kernel⟩
theorem mw_X10_negation : q_mw RX10 yX10_negation cX10_negation 2 none 0 := ⟨⟨ti_X10_negation, tl_X10_negation, tn_RX10, td_X10_negation⟩, by decide +kernel⟩
theorem mw_X10_sum : q_mw RX10 yX10_sum cX10_sum 2 none 0 := ⟨⟨ti_X10_sum, tl_X10_sum, tn_RX10, td_X10_sum⟩, by decide +kernel⟩
theorem mw_X10_product : q_mw RX10 yX10_product cX10_product 2 none 0 := ⟨⟨ti_X10_product, tl_X10_product, tn_RX10, td_X10_product⟩, by decide +kernel⟩
theorem mw_X10_primary : q_mw RX10 yX10_primary cX10_primary 2 none 0 := ⟨⟨ti_X10_primary, tl_X10_primary, tn_RX10, td_X10_primary⟩, by decide +kernel⟩
def f_X10_conjunction_B4 (F_X10_negation : Mem → Res)  (M : Mem) (g4 : Mem → Res) : Res :=
  q_calp (f_X10_isWord 11 M) fun r1 =>
  if w32 r1 = 0 then (some (0, M))
  else (q_call (f_X10_knot  M) fun r2 M3 =>
  q_call (f_X10_goOn  M3) fun r4 M5 =>
  q_call (F_X10_negation  M5) fun r6 M7 =>
  q_call (f_X10_puts 2 261 M7) fun r8 M9 =>
  g4  M9)
def f_X10_conjunction_L4 (F_X10_negation : Mem → Res) (n : Nat)  (M : Mem) : Res := qlm0 (fun  M g4 => f_X10_conjunction_B4 F_X10_negation  M g4) n  M
theorem w_X10_conjunction_B4 (C : Cx syM p m c cX10_conjunction 1 s args RX10 D ad cA) (hr : meth.sig.returnType = none) (hlk : meth.locks = false) (F_X10_negation : Mem → Res) (d : Nat) (HF_X10_negation : ∀ (M : Mem) (r0 : Int) (M0 : Mem), F_X10_negation  M = some (r0, M0) → q_Met l syM D ad cA yX10_negation cX10_negation 2 none (rg_E d) [.ref (ad 0)] M none M0)  (M : Mem) (g4 : Mem → Res)  (ih4 : ∀  (M : Mem), g4  M = some (r0, M0) → WM syM p l e (rg_E (d + 1)) s m args below meth c 1 D ad cA (MQ below (q_Post syM D ad cA none M0) args s 0 0 (q_A syM ad)) M 4 [(0, .ref (ad 0))] []) (h : f_X10_conjunction_B4 F_X10_negation  M g4 = some (r0, M0)) : WM syM p l e (rg_E (d + 1)) s m args below meth c 1 D ad cA (MQ below (q_Post syM D ad cA none M0) args s 0 0 (q_A syM ad)) M 4 [(0, .ref (ad 0))] [] := by
  unfold f_X10_conjunction_B4 at h
  refine r_aln C dX10_conjunction_4 (k := 0) rfl ?_
  refine r_bi C dX10_conjunction_5 (by decide) ?_
  obtain ⟨r1, hy, h⟩ := q_calp_some h
  refine r_cvi C (st := []) (c_X10_isWord C.2.2.1 11 M r1 hy) tm_RX10_261 mw_X10_isWord ⟨rfl, rfl⟩ ⟨by simp only [rm_X10_isWord, rg_E]; omega, by simp only [rm_X10_isWord, rg_E]; omega⟩ km_0 clX10 rfl rfl (Nat.le_of_ble_eq_true rfl) dX10_conjunction_7 ?_
  refine r_zeq C (tgt := 36) dX10_conjunction_10 (by decide) h (fun h => ?_) (fun h => ?_)
  · exact r_vret C hr hlk dX10_conjunction_36 h
  · refine r_aln C dX10_conjunction_13 (k := 0) rfl ?_
    obtain ⟨r2, M3, hy, h⟩ := q_call_some h
    refine r_cvv C (st := []) (c_X10_knot C.2.2.1 M r2 M3 hy) tm_RX10_264 mw_X10_knot ⟨rfl, rfl⟩ ⟨by simp only [rm_X10_knot, rg_E]; omega, by simp only [rm_X10_knot, rg_E]; omega⟩ km_0 clX10 rfl rfl (Nat.le_of_ble_eq_true rfl) dX10_conjunction_14 ?_
    refine r_aln C dX10_conjunction_17 (k := 0) rfl ?_
    obtain ⟨r4, M5, hy, h⟩ := q_call_some h
    refine r_cvv C (st := []) (c_X10_goOn C.2.2.1 M3 r4 M5 hy) tm_RX10_249 mw_X10_goOn ⟨rfl, rfl⟩ ⟨by simp only [rm_X10_goOn, rg_E]; omega, by simp only [rm_X10_goOn, rg_E]; omega⟩ km_0 clX10 rfl rfl (Nat.le_of_ble_eq_true rfl) dX10_conjunction_18 ?_
    refine r_aln C dX10_conjunction_21 (k := 0) rfl ?_
    obtain ⟨r6, M7, hy, h⟩ := q_call_some h
    refine r_cvv C (st := []) (HF_X10_negation  M5 r6 M7 hy) tm_RX10_270 mw_X10_negation ⟨rfl, rfl⟩ ⟨by simp only [rg_E]; omega, by simp only [rg_E]; omega⟩ km_0 clX10 rfl rfl (Nat.le_of_ble_eq_true rfl) dX10_conjunction_22 ?_
    refine r_aln C dX10_conjunction_25 (k := 0) rfl ?_
    refine r_ic C dX10_conjunction_26 ?_
    refine r_si C dX10_conjunction_27 (by decide) ?_
    obtain ⟨r8, M9, hy, h⟩ := q_call_some h
    refine r_cvv C (st := []) (c_X10_puts C.2.2.1 2 261 M7 r8 M9 hy) tm_RX10_267 mw_X10_puts ⟨rfl, rfl⟩ ⟨by simp only [rm_X10_puts, rg_E]; omega, by simp only [rm_X10_puts, rg_E]; omega⟩ km_0 clX10 rfl rfl (Nat.le_of_ble_eq_true rfl) dX10_conjunction_30 ?_
    refine r_goto C (tgt := 4) dX10_conjunction_33 (by decide) ?_
    exact ih4  M9 h
theorem w_X10_conjunction_L4 (C : Cx syM p m c cX10_conjunction 1 s args RX10 D ad cA) (hr : meth.sig.returnType = none) (hlk : meth.locks = false) (F_X10_negation : Mem → Res) (d : Nat) (HF_X10_negation : ∀ (M : Mem) (r0 : Int) (M0 : Mem), F_X10_negation  M = some (r0, M0) → q_Met l syM D ad cA yX10_negation cX10_negation 2 none (rg_E d) [.ref (ad 0)] M none M0)   (n : Nat)  (M : Mem) (h : f_X10_conjunction_L4 F_X10_negation n  M = some (r0, M0)) : WM syM p l e (rg_E (d + 1)) s m args below meth c 1 D ad cA (MQ below (q_Post syM D ad cA none M0) args s 0 0 (q_A syM ad)) M 4 [(0, .ref (ad 0))] [] :=
  qlm0_r (Wp := fun  M => WM syM p l e (rg_E (d + 1)) s m args below meth c 1 D ad cA (MQ below (q_Post syM D ad cA none M0) args s 0 0 (q_A syM ad)) M 4 [(0, .ref (ad 0))] []) (fun  M g4 ih4 h => w_X10_conjunction_B4 C hr hlk F_X10_negation d HF_X10_negation  M g4  ih4 h) n  M h
def f_X10_conjunction_G (F_X10_negation : Mem → Res) (M : Mem) : Res :=
  q_call (F_X10_negation  M) fun r1 M2 =>
  f_X10_conjunction_L4 F_X10_negation q_N  M2
theorem c_X10_conjunction_G {l : Launch} {D : va_G} {ad : Nat → Nat} {cA : Nat → ClassId} (hi : q_inj syM ad) (F_X10_negation : Mem → Res) (d : Nat) (HF_X10_negation : ∀ (M : Mem) (r0 : Int) (M0 : Mem), F_X10_negation  M = some (r0, M0) → q_Met l syM D ad cA yX10_negation cX10_negation 2 none (rg_E d) [.ref (ad 0)] M none M0) (M : Mem) (r0 : Int) (M0 : Mem) (h : f_X10_conjunction_G F_X10_negation M = some (r0, M0)) : q_Met l syM D ad cA yX10_conjunction cX10_conjunction 1 none (rg_E (d + 1)) [.ref (ad 0)] M none M0 := by
  refine q_met (L0 := [(0, .ref (ad 0))]) hi okM (by decide) (Nat.le_of_ble_eq_true rfl) rfl ?_
  intro p e s m args below meth c C hr hlk
  unfold f_X10_conjunction_G at h
  refine r_aln C dX10_conjunction_0 (k := 0) rfl ?_
  obtain ⟨r1, M2, hy, h⟩ := q_call_some h
  refine r_cvv C (st := []) (HF_X10_negation  M r1 M2 hy) tm_RX10_270 mw_X10_negation ⟨rfl, rfl⟩ ⟨by simp only [rg_E]; omega, by simp only [rg_E]; omega⟩ km_0 clX10 rfl rfl (Nat.le_of_ble_eq_true rfl) dX10_conjunction_1 ?_
  exact w_X10_conjunction_L4 C hr hlk F_X10_negation d HF_X10_negation  q_N  M2 h
abbrev rm_X10_count : Room := { frames := 1, cells := 0, slots := 0, locals := 24 }
theorem mw_X10_count : q_mw RX10 yX10_count cX10_count 2 (some .int) 1 := ⟨⟨ti_X10_count, tl_X10_count, tn_RX10, td_X10_count⟩, by decide +kernel⟩
def f_X10_count (a0 : Int) (M : Mem) : Res :=
  q_pf M 0 0 0 fun M1 =>
  if w32 a0 = 0 then (q_al M1 35 14 0 fun v2 =>
  some (v2, M1))
  else if w32 a0 = 1 then (q_al M1 35 14 1 fun v3 =>
  some (v3, M1))
  else if w32 a0 = 2 then (q_al M1 35 14 3 fun v4 =>
  some (v4, M1))
  else if w32 a0 = 3 then (q_al M1 35 14 6 fun v5 =>
  some (v5, M1))
  else if w32 a0 = 4 then (q_al M1 67 23 0 fun v6 =>
  some (v6, M1))
  else if w32 a0 = 5 then (q_al M1 69 23 0 fun v7 =>
  some (v7, M1))
  else if w32 a0 = 6 then (q_calp (f_X10_soulsOf 0 2 M1) fun r8 =>
  some (r8, M1))
  else if w32 a0 = 7 then (q_calp (f_X10_soulsOf 0 3 M1) fun r9 =>
  some (r9, M1))
  else if w32 a0 = 8 then (q_calp (f_X10_kindness 0 M1) fun r10 =>
  some (r10, M1))
  else if w32 a0 = 9 then (q_calp (f_X10_allOf 73 184 0 M1) fun r11 =>
  some (r11, M1))
  else if w32 a0 = 10 then (q_calp (f_X10_allOf 74 184 0 M1) fun r12 =>
  some (r12, M1))
  else if w32 a0 = 11 then (q_gf M1 0 58 fun v13 =>
  some (v13, M1))
  else if w32 a0 = 12 then (q_calp (f_X10_knownMany  M1) fun r14 =>
  some (r14, M1))
  else if w32 a0 = 13 then (q_gf M1 0 46 fun v15 =>
  some (v15, M1))
  else (some ((-1), M1))
theorem c_X10_count {l : Launch} {D : va_G} {ad : Nat → Nat} {cA : Nat → ClassId} (hi : q_inj syM ad) (a0 : Int) (M : Mem) (r0 : Int) (M0 : Mem) (h : f_X10_count a0 M = some (r0, M0)) : q_Met l syM D ad cA yX10_count cX10_count 2 (some .int) rm_X10_count [.ref (ad 0), .int (qI a0)] M (some (.int (qI r0))) M0 := by
  refine q_met (L0 := [(0, .ref (ad 0)), (1, .int (qI a0))]) hi okM (by decide) (Nat.le_of_ble_eq_true rfl) rfl ?_
  intro p e s m args below meth c C hr hlk
  unfold f_X10_count at h
  refine r_aln C dX10_count_0 (k := 0) rfl ?_
  refine r_ic C dX10_count_1 ?_
  refine r_pf C km_0 clX10 (f := 0) (by decide) rfl q_dI rfl rfl tf_RX10_142 dX10_count_2 h (fun M1 h => ?_)
  refine r_iln C dX10_count_5 (k := 1) rfl ?_
  refine r_tc C h (fun e h => ?_) (fun ne0 h => ?_)
  · refine r_tin C (tgt := 76) dX10_count_6 e (by decide) rfl (by decide) ?_
    refine r_aln C dX10_count_76 (k := 0) rfl ?_
    refine r_gs C km_0 clX10 (f := 3) (by decide) rfl (t := 35) rfl tf_RX10_13 dX10_count_77 ?_
    refine r_ic C dX10_count_80 ?_
    refine r_iald C km_35 dX10_count_81 h (fun v2 h => ?_)
    exact r_iret C hr hlk dX10_count_82 h
  refine r_tc C h (fun e h => ?_) (fun ne1 h => ?_)
  · refine r_tin C (tgt := 83) dX10_count_6 e (by decide) rfl (by decide) ?_
    refine r_aln C dX10_count_83 (k := 0) rfl ?_
    refine r_gs C km_0 clX10 (f := 3) (by decide) rfl (t := 35) rfl tf_RX10_13 dX10_count_84 ?_
    refine r_ic C dX10_count_87 ?_
    refine r_iald C km_35 dX10_count_88 h (fun v3 h => ?_)
    exact r_iret C hr hlk dX10_count_89 h
  refine r_tc C h (fun e h => ?_) (fun ne2 h => ?_)
  · refine r_tin C (tgt := 90) dX10_count_6 e (by decide) rfl (by decide) ?_
    refine r_aln C dX10_count_90 (k := 0) rfl ?_
    refine r_gs C km_0 clX10 (f := 3) (by decide) rfl (t := 35) rfl tf_RX10_13 dX10_count_91 ?_
    refine r_ic C dX10_count_94 ?_
    refine r_iald C km_35 dX10_count_95 h (fun v4 h => ?_)
    exact r_iret C hr hlk dX10_count_96 h
  refine r_tc C h (fun e h => ?_) (fun ne3 h => ?_)
  · refine r_tin C (tgt := 97) dX10_count_6 e (by decide) rfl (by decide) ?_
    refine r_aln C dX10_count_97 (k := 0) rfl ?_
    refine r_gs C km_0 clX10 (f := 3) (by decide) rfl (t := 35) rfl tf_RX10_13 dX10_count_98 ?_
    refine r_bi C dX10_count_101 (by decide) ?_
    refine r_iald C km_35 dX10_count_103 h (fun v5 h => ?_)
    exact r_iret C hr hlk dX10_count_104 h
  refine r_tc C h (fun e h => ?_) (fun ne4 h => ?_)
  · refine r_tin C (tgt := 105) dX10_count_6 e (by decide) rfl (by decide) ?_
    refine r_aln C dX10_count_105 (k := 0) rfl ?_
    refine r_gs C km_0 clX10 (f := 35) (by decide) rfl (t := 67) rfl tf_RX10_72 dX10_count_106 ?_
    refine r_ic C dX10_count_109 ?_
    refine r_iald C km_67 dX10_count_110 h (fun v6 h => ?_)
    exact r_iret C hr hlk dX10_count_111 h
  refine r_tc C h (fun e h => ?_) (fun ne5 h => ?_)
  · refine r_tin C (tgt := 112) dX10_count_6 e (by decide) rfl (by decide) ?_
    refine r_aln C dX10_count_112 (k := 0) rfl ?_
    refine r_gs C km_0 clX10 (f := 37) (by decide) rfl (t := 69) rfl tf_RX10_78 dX10_count_113 ?_
    refine r_ic C dX10_count_116 ?_
    refine r_iald C km_69 dX10_count_117 h (fun v7 h => ?_)
    exact r_iret C hr hlk dX10_count_118 h
  refine r_tc C h (fun e h => ?_) (fun ne6 h => ?_)
  · refine r_tin C (tgt := 119) dX10_count_6 e (by decide) rfl (by decide) ?_
    refine r_aln C dX10_count_119 (k := 0) rfl ?_
    refine r_ic C dX10_count_120 ?_
    refine r_ic C dX10_count_121 ?_
    obtain ⟨r8, hy, h⟩ := q_calp_some h
    refine r_cvi C (st := []) (c_X10_soulsOf C.2.2.1 0 2 M1 r8 hy) tm_RX10_436 mw_X10_soulsOf ⟨rfl, rfl⟩ ⟨Nat.le_of_ble_eq_true rfl, Nat.le_of_ble_eq_true rfl⟩ km_0 clX10 rfl rfl (Nat.le_of_ble_eq_true rfl) dX10_count_122 ?_
    exact r_iret C hr hlk dX10_count_125 h
  refine r_tc C h (fun e h => ?_) (fun ne7 h => ?_)
  · refine r_tin C (tgt := 126) dX10_count_6 e (by decide) rfl (by decide) ?_
    refine r_aln C dX10_count_126 (k := 0) rfl ?_
    refine r_ic C dX10_count_127 ?_
    refine r_ic C dX10_count_128 ?_
    obtain ⟨r9, hy, h⟩ := q_calp_some h
    refine r_cvi C (st := []) (c_X10_soulsOf C.2.2.1 0 3 M1 r9 hy) tm_RX10_436 mw_X10_soulsOf ⟨rfl, rfl⟩ ⟨Nat.le_of_ble_eq_true rfl, Nat.le_of_ble_eq_true rfl⟩ km_0 clX10 rfl rfl (Nat.le_of_ble_eq_true rfl) dX10_count_129 ?_
    exact r_iret C hr hlk dX10_count_132 h
  refine r_tc C h (fun e h => ?_) (fun ne8 h => ?_)
  · refine r_tin C (tgt := 133) dX10_count_6 e (by decide) rfl (by decide) ?_
    refine r_aln C dX10_count_133 (k := 0) rfl ?_
    refine r_ic C dX10_count_134 ?_
    obtain ⟨r10, hy, h⟩ := q_calp_some h
    refine r_cvi C (st := []) (c_X10_kindness C.2.2.1 0 M1 r10 hy) tm_RX10_439 mw_X10_kindness ⟨rfl, rfl⟩ ⟨Nat.le_of_ble_eq_true rfl, Nat.le_of_ble_eq_true rfl⟩ km_0 clX10 rfl rfl (Nat.le_of_ble_eq_true rfl) dX10_count_135 ?_
    exact r_iret C hr hlk dX10_count_138 h
  refine r_tc C h (fun e h => ?_) (fun ne9 h => ?_)
  · refine r_tin C (tgt := 139) dX10_count_6 e (by decide) rfl (by decide) ?_
    refine r_aln C dX10_count_139 (k := 0) rfl ?_
    refine r_aln C dX10_count_140 (k := 0) rfl ?_
    refine r_gs C km_0 clX10 (f := 41) (by decide) rfl (t := 73) rfl tf_RX10_90 dX10_count_141 ?_
    refine r_ic C dX10_count_144 ?_
    obtain ⟨r11, hy, h⟩ := q_calp_some h
    refine r_cvi C (st := []) (c_X10_allOf C.2.2.1 73 184 km_73 0 M1 r11 hy) tm_RX10_442 mw_X10_allOf ⟨rfl, rfl⟩ ⟨Nat.le_of_ble_eq_true rfl, Nat.le_of_ble_eq_true rfl⟩ km_0 clX10 rfl rfl (Nat.le_of_ble_eq_true rfl) dX10_count_145 ?_
    exact r_iret C hr hlk dX10_count_148 h
  refine r_tc C h (fun e h => ?_) (fun ne10 h => ?_)
  · refine r_tin C (tgt := 149) dX10_count_6 e (by decide) rfl (by decide) ?_
    refine r_aln C dX10_count_149 (k := 0) rfl ?_
    refine r_aln C dX10_count_150 (k := 0) rfl ?_
    refine r_gs C km_0 clX10 (f := 42) (by decide) rfl (t := 74) rfl tf_RX10_93 dX10_count_151 ?_
    refine r_ic C dX10_count_154 ?_
    obtain ⟨r12, hy, h⟩ := q_calp_some h
    refine r_cvi C (st := []) (c_X10_allOf C.2.2.1 74 184 km_74 0 M1 r12 hy) tm_RX10_442 mw_X10_allOf ⟨rfl, rfl⟩ ⟨Nat.le_of_ble_eq_true rfl, Nat.le_of_ble_eq_true rfl⟩ km_0 clX10 rfl rfl (Nat.le_of_ble_eq_true rfl) dX10_count_155 ?_
    exact r_iret C hr hlk dX10_count_158 h
  refine r_tc C h (fun e h => ?_) (fun ne11 h => ?_)
  · refine r_tin C (tgt := 159) dX10_count_6 e (by decide) rfl (by decide) ?_
    refine r_aln C dX10_count_159 (k := 0) rfl ?_
    refine r_gf C km_0 clX10 (f := 58) (by decide) rfl rfl rfl tf_RX10_295 dX10_count_160 h (fun v13 h => ?_)
    exact r_iret C hr hlk dX10_count_163 h
  refine r_tc C h (fun e h => ?_) (fun ne12 h => ?_)
  · refine r_tin C (tgt := 164) dX10_count_6 e (by decide) rfl (by decide) ?_
    refine r_aln C dX10_count_164 (k := 0) rfl ?_
    obtain ⟨r14, hy, h⟩ := q_calp_some h
    refine r_cvi C (st := []) (c_X10_knownMany C.2.2.1 M1 r14 hy) tm_RX10_481 mw_X10_knownMany ⟨rfl, rfl⟩ ⟨Nat.le_of_ble_eq_true rfl, Nat.le_of_ble_eq_true rfl⟩ km_0 clX10 rfl rfl (Nat.le_of_ble_eq_true rfl) dX10_count_165 ?_
    exact r_iret C hr hlk dX10_count_168 h
  refine r_tc C h (fun e h => ?_) (fun ne13 h => ?_)
  · refine r_tin C (tgt := 169) dX10_count_6 e (by decide) rfl (by decide) ?_
    refine r_aln C dX10_count_169 (k := 0) rfl ?_
    refine r_gf C km_0 clX10 (f := 46) (by decide) rfl rfl rfl tf_RX10_302 dX10_count_170 h (fun v15 h => ?_)
    exact r_iret C hr hlk dX10_count_173 h
  refine r_tout C (tgt := 174) dX10_count_6 (by omega) (by decide) ?_
  refine r_ic C dX10_count_174 ?_
  exact r_iret C hr hlk dX10_count_175 h
abbrev rm_X10_dry : Room := { frames := 1, cells := 0, slots := 0, locals := 29 }
theorem mw_X10_dry : q_mw RX10 yX10_dry cX10_dry 9 (some .long) 2 := ⟨⟨ti_X10_dry, tl_X10_dry, tn_RX10, td_X10_dry⟩, by decide +kernel⟩
def f_X10_dry_B36 (x1 : Int) (x2 : Int) (M : Mem) (x3 : Int) (x5 : Int) (x7 : Int) (g36 : Int → Int → Int → Res) : Res :=
  if w32 x1 ≤ w32 x7 then (q_calp (f_X10_common x3 x5 M) fun r1 =>
  if ¬ w32 x2 = 0 then (q_nzl r1 <| some ((w64 x5).tdiv (w64 r1), M))
  else (q_nzl r1 <| some ((w64 x3).tdiv (w64 r1), M)))
  else (q_al M 35 14 4 fun v2 =>
  g36 (x3 * (100 - (w32 v2))) (x5 * 100) (x7 + 1))
def f_X10_dry_L36 (x1 : Int) (x2 : Int) (M : Mem) (n : Nat) (x3 : Int) (x5 : Int) (x7 : Int) : Res := qlp3 (fun x3 x5 x7 g36 => f_X10_dry_B36 x1 x2 M x3 x5 x7 g36) n x3 x5 x7
theorem w_X10_dry_B36 (C : Cx syM p m c cX10_dry 9 s args RX10 D ad cA) (hr : meth.sig.returnType = (some .long)) (hlk : meth.locks = false)  (x1 : Int) (x2 : Int) (x3 : Int) (x5 : Int) (x7 : Int) (M : Mem) (g36 : Int → Int → Int → Res)  (ih36 : ∀ (ux3 ux5 ux7 : Int) , g36 ux3 ux5 ux7  = some (r0, M0) → WM syM p l e rm_X10_dry s m args below meth c 9 D ad cA (MQ below (q_Post syM D ad cA (some (.long (qJ r0))) M0) args s 0 0 (q_A syM ad)) M 36 [(0, .ref (ad 0)), (1, .int (qI x1)), (2, .int (qI x2)), (3, .long (qJ ux3)), (5, .long (qJ ux5)), (7, .int (qI ux7))] []) (h : f_X10_dry_B36 x1 x2 M x3 x5 x7 g36 = some (r0, M0)) : WM syM p l e rm_X10_dry s m args below meth c 9 D ad cA (MQ below (q_Post syM D ad cA (some (.long (qJ r0))) M0) args s 0 0 (q_A syM ad)) M 36 [(0, .ref (ad 0)), (1, .int (qI x1)), (2, .int (qI x2)), (3, .long (qJ x3)), (5, .long (qJ x5)), (7, .int (qI x7))] [] := by
  unfold f_X10_dry_B36 at h
  refine r_il C dX10_dry_36 (k := 5) rfl ?_
  refine r_iln C dX10_dry_38 (k := 1) rfl ?_
  refine r_cge C (tgt := 70) dX10_dry_39 (by decide) h (fun h => ?_) (fun h => ?_)
  · refine r_lln C dX10_dry_70 (k := 3) rfl ?_
    refine r_ll C dX10_dry_71 (k := 4) rfl ?_
    obtain ⟨r1, hy, h⟩ := q_calp_some h
    refine r_csl C (st := []) (c_X10_common C.2.2.1 x3 x5 M r1 hy) tm_RX10_478 mw_X10_common ⟨rfl, rfl⟩ ⟨Nat.le_of_ble_eq_true rfl, Nat.le_of_ble_eq_true rfl⟩ rfl rfl (Nat.le_of_ble_eq_true rfl) dX10_dry_73 ?_
    refine r_ls C (L1 := [(7, .long (qJ r1)), (0, .ref (ad 0)), (1, .int (qI x1)), (2, .int (qI x2)), (3, .long (qJ x3)), (5, .long (qJ x5))]) dX10_dry_76 (by decide) rfl ?_
    refine r_iln C dX10_dry_78 (k := 3) rfl ?_
    refine r_zne C (tgt := 89) dX10_dry_79 (by decide) h (fun h => ?_) (fun h => ?_)
    · refine r_ll C dX10_dry_89 (k := 5) rfl ?_
      refine r_ll C dX10_dry_91 (k := 0) rfl ?_
      refine r_ldiv C dX10_dry_93 h (fun h => ?_)
      exact r_lret C hr hlk dX10_dry_94 h
    · refine r_lln C dX10_dry_82 (k := 4) rfl ?_
      refine r_ll C dX10_dry_83 (k := 0) rfl ?_
      refine r_ldiv C dX10_dry_85 h (fun h => ?_)
      refine r_goto C (tgt := 94) dX10_dry_86 (by decide) ?_
      exact r_lret C hr hlk dX10_dry_94 h
  · refine r_lln C dX10_dry_42 (k := 3) rfl ?_
    refine r_ldc2 C (x := 100) tc_RX10_476 (by decide) dX10_dry_43 ?_
    refine r_aln C dX10_dry_46 (k := 0) rfl ?_
    refine r_gs C km_0 clX10 (f := 3) (by decide) rfl (t := 35) rfl tf_RX10_13 dX10_dry_47 ?_
    refine r_ic C dX10_dry_50 ?_
    refine r_iald C km_35 dX10_dry_51 h (fun v2 h => ?_)
    refine r_i2l C dX10_dry_52 ?_
    refine r_lsub C dX10_dry_53 ?_
    refine r_lmul C dX10_dry_54 ?_
    refine r_lsn C (L1 := [(3, .long (qJ (x3 * (100 - (w32 v2))))), (0, .ref (ad 0)), (1, .int (qI x1)), (2, .int (qI x2)), (5, .long (qJ x5)), (7, .int (qI x7))]) dX10_dry_55 (by decide) rfl ?_
    refine r_ll C dX10_dry_56 (k := 4) rfl ?_
    refine r_ldc2 C (x := 100) tc_RX10_476 (by decide) dX10_dry_58 ?_
    refine r_lmul C dX10_dry_61 ?_
    refine r_ls C (L1 := [(5, .long (qJ (x5 * 100))), (3, .long (qJ (x3 * (100 - (w32 v2))))), (0, .ref (ad 0)), (1, .int (qI x1)), (2, .int (qI x2)), (7, .int (qI x7))]) dX10_dry_62 (by decide) rfl ?_
    refine r_inc C (L1 := [(7, .int (qI (x7 + 1))), (5, .long (qJ (x5 * 100))), (3, .long (qJ (x3 * (100 - (w32 v2))))), (0, .ref (ad 0)), (1, .int (qI x1)), (2, .int (qI x2))]) dX10_dry_64 (k := 5) rfl (by decide) rfl ?_
    refine r_goto C (tgt := 36) dX10_dry_67 (by decide) ?_
    refine r_drop [3, 4, 5, 2, 1, 0] rfl ?_
    exact ih36 (x3 * (100 - (w32 v2))) (x5 * 100) (x7 + 1)  h
theorem w_X10_dry_L36 (C : Cx syM p m c cX10_dry 9 s args RX10 D ad cA) (hr : meth.sig.returnType = (some .long)) (hlk : meth.locks = false)  (x1 : Int) (x2 : Int) (M : Mem)  (n : Nat) (x3 : Int) (x5 : Int) (x7 : Int) (h : f_X10_dry_L36 x1 x2 M n x3 x5 x7 = some (r0, M0)) : WM syM p l e rm_X10_dry s m args below meth c 9 D ad cA (MQ below (q_Post syM D ad cA (some (.long (qJ r0))) M0) args s 0 0 (q_A syM ad)) M 36 [(0, .ref (ad 0)), (1, .int (qI x1)), (2, .int (qI x2)), (3, .long (qJ x3)), (5, .long (qJ x5)), (7, .int (qI x7))] [] :=
  qlp3_r (Wp := fun ux3 ux5 ux7 => WM syM p l e rm_X10_dry s m args below meth c 9 D ad cA (MQ below (q_Post syM D ad cA (some (.long (qJ r0))) M0) args s 0 0 (q_A syM ad)) M 36 [(0, .ref (ad 0)), (1, .int (qI x1)), (2, .int (qI x2)), (3, .long (qJ ux3)), (5, .long (qJ ux5)), (7, .int (qI ux7))] []) (fun ux3 ux5 ux7 g36 ih36 h => w_X10_dry_B36 C hr hlk x1 x2 ux3 ux5 ux7 M g36  ih36 h) n x3 x5 x7 h
def f_X10_dry (a0 : Int) (a1 : Int) (M : Mem) : Res :=
  q_pf M 0 0 0 fun M1 =>
  if w32 a0 < 0 then (some ((-1), M1))
  else (if w32 6 < w32 a0 then (some ((-1), M1))
  else (if w32 a1 < 0 then (some ((-1), M1))
  else (if w32 a1 ≤ w32 1 then (f_X10_dry_L36 a0 a1 M1 q_N 1 1 0)
  else (some ((-1), M1)))))
theorem c_X10_dry {l : Launch} {D : va_G} {ad : Nat → Nat} {cA : Nat → ClassId} (hi : q_inj syM ad) (a0 : Int) (a1 : Int) (M : Mem) (r0 : Int) (M0 : Mem) (h : f_X10_dry a0 a1 M = some (r0, M0)) : q_Met l syM D ad cA yX10_dry cX10_dry 9 (some .long) rm_X10_dry [.ref (ad 0), .int (qI a0), .int (qI a1)] M (some (.long (qJ r0))) M0 := by
  refine q_met (L0 := [(0, .ref (ad 0)), (1, .int (qI a0)), (2, .int (qI a1))]) hi okM (by decide) (Nat.le_of_ble_eq_true rfl) rfl ?_
  intro p e s m args below meth c C hr hlk
  unfold f_X10_dry at h
  refine r_aln C dX10_dry_0 (k := 0) rfl ?_
  refine r_ic C dX10_dry_1 ?_
  refine r_pf C km_0 clX10 (f := 0) (by decide) rfl q_dI rfl rfl tf_RX10_142 dX10_dry_2 h (fun M1 h => ?_)
  refine r_iln C dX10_dry_5 (k := 1) rfl ?_
  refine r_zlt C (tgt := 24) dX10_dry_6 (by decide) h (fun h => ?_) (fun h => ?_)
  · refine r_ldc2 C (x := (-1)) tc_RX10_474 (by decide) dX10_dry_24 ?_
    exact r_lret C hr hlk dX10_dry_27 h
  · refine r_iln C dX10_dry_9 (k := 1) rfl ?_
    refine r_bi C dX10_dry_10 (by decide) ?_
    refine r_cgt C (tgt := 24) dX10_dry_12 (by decide) h (fun h => ?_) (fun h => ?_)
    · refine r_ldc2 C (x := (-1)) tc_RX10_474 (by decide) dX10_dry_24 ?_
      exact r_lret C hr hlk dX10_dry_27 h
    · refine r_iln C dX10_dry_15 (k := 2) rfl ?_
      refine r_zlt C (tgt := 24) dX10_dry_16 (by decide) h (fun h => ?_) (fun h => ?_)
      · refine r_ldc2 C (x := (-1)) tc_RX10_474 (by decide) dX10_dry_24 ?_
        exact r_lret C hr hlk dX10_dry_27 h
      · refine r_iln C dX10_dry_19 (k := 2) rfl ?_
        refine r_ic C dX10_dry_20 ?_
        refine r_cle C (tgt := 28) dX10_dry_21 (by decide) h (fun h => ?_) (fun h => ?_)
        · refine r_lc C (x := 1) dX10_dry_28 (by decide) ?_
          refine r_lsn C (L1 := [(3, .long (qJ 1)), (0, .ref (ad 0)), (1, .int (qI a0)), (2, .int (qI a1))]) dX10_dry_29 (by decide) rfl ?_
          refine r_lc C (x := 1) dX10_dry_30 (by decide) ?_
          refine r_ls C (L1 := [(5, .long (qJ 1)), (3, .long (qJ 1)), (0, .ref (ad 0)), (1, .int (qI a0)), (2, .int (qI a1))]) dX10_dry_31 (by decide) rfl ?_
          refine r_ic C dX10_dry_33 ?_
          refine r_is C (L1 := [(7, .int (qI 0)), (5, .long (qJ 1)), (3, .long (qJ 1)), (0, .ref (ad 0)), (1, .int (qI a0)), (2, .int (qI a1))]) dX10_dry_34 (by decide) rfl ?_
          refine r_drop [3, 4, 5, 2, 1, 0] rfl ?_
          exact w_X10_dry_L36 C hr hlk a0 a1 M1  q_N 1 1 0 h
        · refine r_ldc2 C (x := (-1)) tc_RX10_474 (by decide) dX10_dry_24 ?_
          exact r_lret C hr hlk dX10_dry_27 h
abbrev rm_X10_empty : Room := { frames := 6, cells := 0, slots := 0, locals := 145 }
theorem mw_X10_empty : q_mw RX10 yX10_empty cX10_empty 2 (some .int) 0 := ⟨⟨ti_X10_empty, tl_X10_empty, tn_RX10, td_X10_empty⟩, by decide +kernel⟩
def f_X10_empty_J40 (g13 : Int → Mem → Res) (x1 : Int) (M : Mem) : Res :=
  q_call (f_X10_passes 1 0 M) fun r1 M2 =>
  g13 (x1 + 1) M2
theorem w_X10_empty_J40 (C : Cx syM p m c cX10_empty 2 s args RX10 D ad cA) (hr : meth.sig.returnType = (some .int)) (hlk : meth.locks = false) (g13 : Int → Mem → Res) (x1 : Int) (M : Mem) (ih13 : ∀ (ux1 : Int) (M : Mem), g13 ux1 M = some (r0, M0) → WM syM p l e rm_X10_empty s m args below meth c 2 D ad cA (MQ below (q_Post syM D ad cA (some (.int (qI r0))) M0) args s 0 0 (q_A syM ad)) M 13 [(0, .ref (ad 0)), (1, .int (qI ux1))] []) (h : f_X10_empty_J40 g13 x1 M = some (r0, M0)) : WM syM p l e rm_X10_empty s m args below meth c 2 D ad cA (MQ below (q_Post syM D ad cA (some (.int (qI r0))) M0) args s 0 0 (q_A syM ad)) M 40 [(0, .ref (ad 0)), (1, .int (qI x1))] [] := by
  unfold f_X10_empty_J40 at h
  refine r_aln C dX10_empty_40 (k := 0) rfl ?_
  refine r_ic C dX10_empty_41 ?_
  refine r_ic C dX10_empty_42 ?_
  obtain ⟨r1, M2, hy, h⟩ := q_call_some h
  refine r_cvv C (st := []) (c_X10_passes C.2.2.1 1 0 M r1 M2 hy) tm_RX10_401 mw_X10_passes ⟨rfl, rfl⟩ ⟨Nat.le_of_ble_eq_true rfl, Nat.le_of_ble_eq_true rfl⟩ km_0 clX10 rfl rfl (Nat.le_of_ble_eq_true rfl) dX10_empty_43 ?_
  refine r_inc C (L1 := [(1, .int (qI (x1 + 1))), (0, .ref (ad 0))]) dX10_empty_46 (k := 1) rfl (by decide) rfl ?_
  refine r_goto C (tgt := 13) dX10_empty_49 (by decide) ?_
  refine r_drop [1, 0] rfl ?_
  exact ih13 (x1 + 1) M2 h
def f_X10_empty_B13  (x1 : Int) (M : Mem) (g13 : Int → Mem → Res) : Res :=
  if w32 199 < w32 x1 then (some ((-2), M))
  else (q_al M 69 23 1 fun v1 =>
  if ¬ w32 v1 = 0 then (f_X10_empty_J40 g13 x1 M)
  else (q_calp (f_X10_soulsOf 1 0 M) fun r2 =>
  if ¬ w32 r2 = 0 then (f_X10_empty_J40 g13 x1 M)
  else (some (x1, M))))
def f_X10_empty_L13  (n : Nat) (x1 : Int) (M : Mem) : Res := qlm1 (fun x1 M g13 => f_X10_empty_B13  x1 M g13) n x1 M
theorem w_X10_empty_B13 (C : Cx syM p m c cX10_empty 2 s args RX10 D ad cA) (hr : meth.sig.returnType = (some .int)) (hlk : meth.locks = false)  (x1 : Int) (M : Mem) (g13 : Int → Mem → Res)  (ih13 : ∀ (ux1 : Int) (M : Mem), g13 ux1 M = some (r0, M0) → WM syM p l e rm_X10_empty s m args below meth c 2 D ad cA (MQ below (q_Post syM D ad cA (some (.int (qI r0))) M0) args s 0 0 (q_A syM ad)) M 13 [(0, .ref (ad 0)), (1, .int (qI ux1))] []) (h : f_X10_empty_B13  x1 M g13 = some (r0, M0)) : WM syM p l e rm_X10_empty s m args below meth c 2 D ad cA (MQ below (q_Post syM D ad cA (some (.int (qI r0))) M0) args s 0 0 (q_A syM ad)) M 13 [(0, .ref (ad 0)), (1, .int (qI x1))] [] := by
  unfold f_X10_empty_B13 at h
  refine r_iln C dX10_empty_13 (k := 1) rfl ?_
  refine r_si C dX10_empty_14 (by decide) ?_
  refine r_cgt C (tgt := 52) dX10_empty_17 (by decide) h (fun h => ?_) (fun h => ?_)
  · refine r_bi C dX10_empty_52 (by decide) ?_
    exact r_iret C hr hlk dX10_empty_54 h
  · refine r_aln C dX10_empty_20 (k := 0) rfl ?_
    refine r_gs C km_0 clX10 (f := 37) (by decide) rfl (t := 69) rfl tf_RX10_78 dX10_empty_21 ?_
    refine r_ic C dX10_empty_24 ?_
    refine r_iald C km_69 dX10_empty_25 h (fun v1 h => ?_)
    refine r_zne C (tgt := 40) dX10_empty_26 (by decide) h (fun h => ?_) (fun h => ?_)
    · exact w_X10_empty_J40 C hr hlk g13 x1 M ih13 h
    · refine r_aln C dX10_empty_29 (k := 0) rfl ?_
      refine r_ic C dX10_empty_30 ?_
      refine r_ic C dX10_empty_31 ?_
      obtain ⟨r2, hy, h⟩ := q_calp_some h
      refine r_cvi C (st := []) (c_X10_soulsOf C.2.2.1 1 0 M r2 hy) tm_RX10_436 mw_X10_soulsOf ⟨rfl, rfl⟩ ⟨Nat.le_of_ble_eq_true rfl, Nat.le_of_ble_eq_true rfl⟩ km_0 clX10 rfl rfl (Nat.le_of_ble_eq_true rfl) dX10_empty_32 ?_
      refine r_zne C (tgt := 40) dX10_empty_35 (by decide) h (fun h => ?_) (fun h => ?_)
      · exact w_X10_empty_J40 C hr hlk g13 x1 M ih13 h
      · refine r_iln C dX10_empty_38 (k := 1) rfl ?_
        exact r_iret C hr hlk dX10_empty_39 h
theorem w_X10_empty_L13 (C : Cx syM p m c cX10_empty 2 s args RX10 D ad cA) (hr : meth.sig.returnType = (some .int)) (hlk : meth.locks = false)    (n : Nat) (x1 : Int) (M : Mem) (h : f_X10_empty_L13  n x1 M = some (r0, M0)) : WM syM p l e rm_X10_empty s m args below meth c 2 D ad cA (MQ below (q_Post syM D ad cA (some (.int (qI r0))) M0) args s 0 0 (q_A syM ad)) M 13 [(0, .ref (ad 0)), (1, .int (qI x1))] [] :=
  qlm1_r (Wp := fun ux1 M => WM syM p l e rm_X10_empty s m args below meth c 2 D ad cA (MQ below (q_Post syM D ad cA (some (.int (qI r0))) M0) args s 0 0 (q_A syM ad)) M 13 [(0, .ref (ad 0)), (1, .int (qI ux1))] []) (fun ux1 M g13 ih13 h => w_X10_empty_B13 C hr hlk  ux1 M g13  ih13 h) n x1 M h
def f_X10_empty  (M : Mem) : Res :=
  q_pf M 0 0 0 fun M1 =>
  q_call (f_X10_copies 1 0 M1) fun r2 M3 =>
  f_X10_empty_L13  q_N 0 M3
theorem c_X10_empty {l : Launch} {D : va_G} {ad : Nat → Nat} {cA : Nat → ClassId} (hi : q_inj syM ad)  (M : Mem) (r0 : Int) (M0 : Mem) (h : f_X10_empty  M = some (r0, M0)) : q_Met l syM D ad cA yX10_empty cX10_empty 2 (some .int) rm_X10_empty [.ref (ad 0)] M (some (.int (qI r0))) M0 := by
  refine q_met (L0 := [(0, .ref (ad 0))]) hi okM (by decide) (Nat.le_of_ble_eq_true rfl) rfl ?_
  intro p e s m args below meth c C hr hlk
  unfold f_X10_empty at h
  refine r_aln C dX10_empty_0 (k := 0) rfl ?_
  refine r_ic C dX10_empty_1 ?_
  refine r_pf C km_0 clX10 (f := 0) (by decide) rfl q_dI rfl rfl tf_RX10_142 dX10_empty_2 h (fun M1 h => ?_)
  refine r_aln C dX10_empty_5 (k := 0) rfl ?_
  refine r_ic C dX10_empty_6 ?_
  refine r_ic C dX10_empty_7 ?_
  obtain ⟨r2, M3, hy, h⟩ := q_call_some h
  refine r_cvv C (st := []) (c_X10_copies C.2.2.1 1 0 M1 r2 M3 hy) tm_RX10_405 mw_X10_copies ⟨rfl, rfl⟩ ⟨Nat.le_of_ble_eq_true rfl, Nat.le_of_ble_eq_true rfl⟩ km_0 clX10 rfl rfl (Nat.le_of_ble_eq_true rfl) dX10_empty_8 ?_
  refine r_ic C dX10_empty_11 ?_
  refine r_isn C (L1 := [(1, .int (qI 0)), (0, .ref (ad 0))]) dX10_empty_12 (by decide) rfl ?_
  refine r_drop [1, 0] rfl ?_
  exact w_X10_empty_L13 C hr hlk   q_N 0 M3 h
abbrev rm_X10_everies : Room := { frames := 8, cells := 0, slots := 0, locals := 191 }
theorem mw_X10_everies : q_mw RX10 yX10_everies cX10_everies 2 (some .int) 1 := ⟨⟨ti_X10_everies, tl_X10_everies, tn_RX10, td_X10_everies⟩, by decide +kernel⟩
def f_X10_everies (a0 : Int) (M : Mem) : Res :=
  q_pf M 0 0 0 fun M1 =>
  q_calp (f_X10_isBus a0 M1) fun r2 =>
  if w32 r2 = 0 then (some ((-1), M1))
  else (q_call (f_X10_everiesOf a0 M1) fun r3 M4 =>
  some (r3, M4))
theorem c_X10_everies {l : Launch} {D : va_G} {ad : Nat → Nat} {cA : Nat → ClassId} (hi : q_inj syM ad) (a0 : Int) (M : Mem) (r0 : Int) (M0 : Mem) (h : f_X10_everies a0 M = some (r0, M0)) : q_Met l syM D ad cA yX10_everies cX10_everies 2 (some .int) rm_X10_everies [.ref (ad 0), .int (qI a0)] M (some (.int (qI r0))) M0 := by
  refine q_met (L0 := [(0, .ref (ad 0)), (1, .int (qI a0))]) hi okM (by decide) (Nat.le_of_ble_eq_true rfl) rfl ?_
  intro p e s m args below meth c C hr hlk
  unfold f_X10_everies at h
  refine r_aln C dX10_everies_0 (k := 0) rfl ?_
  refine r_ic C dX10_everies_1 ?_
  refine r_pf C km_0 clX10 (f := 0) (by decide) rfl q_dI rfl rfl tf_RX10_142 dX10_everies_2 h (fun M1 h => ?_)
  refine r_aln C dX10_everies_5 (k := 0) rfl ?_
  refine r_iln C dX10_everies_6 (k := 1) rfl ?_
  obtain ⟨r2, hy, h⟩ := q_calp_some h
  refine r_cvi C (st := []) (c_X10_isBus C.2.2.1 a0 M1 r2 hy) tm_RX10_420 mw_X10_isBus ⟨rfl, rfl⟩ ⟨Nat.le_of_ble_eq_true rfl, Nat.le_of_ble_eq_true rfl⟩ km_0 clX10 rfl rfl (Nat.le_of_ble_eq_true rfl) dX10_everies_7 ?_
  refine r_zeq C (tgt := 21) dX10_everies_10 (by decide) h (fun h => ?_) (fun h => ?_)
  · refine r_ic C dX10_everies_21 ?_
    exact r_iret C hr hlk dX10_everies_22 h
  · refine r_aln C dX10_everies_13 (k := 0) rfl ?_
    refine r_iln C dX10_everies_14 (k := 1) rfl ?_
    obtain ⟨r3, M4, hy, h⟩ := q_call_some h
    refine r_cvi C (st := []) (c_X10_everiesOf C.2.2.1 a0 M1 r3 M4 hy) tm_RX10_490 mw_X10_everiesOf ⟨rfl, rfl⟩ ⟨Nat.le_of_ble_eq_true rfl, Nat.le_of_ble_eq_true rfl⟩ km_0 clX10 rfl rfl (Nat.le_of_ble_eq_true rfl) dX10_everies_15 ?_
    refine r_goto C (tgt := 22) dX10_everies_18 (by decide) ?_
    exact r_iret C hr hlk dX10_everies_22 h
def f_X10_expression_B4 (F_X10_conjunction : Mem → Res)  (M : Mem) (g4 : Mem → Res) : Res :=
  q_calp (f_X10_isWord 10 M) fun r1 =>
  if w32 r1 = 0 then (some (0, M))
  else (q_call (f_X10_knot  M) fun r2 M3 =>
  q_call (f_X10_goOn  M3) fun r4 M5 =>
  q_call (F_X10_conjunction  M5) fun r6 M7 =>
  q_call (f_X10_puts 2 262 M7) fun r8 M9 =>
  g4  M9)
def f_X10_expression_L4 (F_X10_conjunction : Mem → Res) (n : Nat)  (M : Mem) : Res := qlm0 (fun  M g4 => f_X10_expression_B4 F_X10_conjunction  M g4) n  M
theorem w_X10_expression_B4 (C : Cx syM p m c cX10_expression 1 s args RX10 D ad cA) (hr : meth.sig.returnType = none) (hlk : meth.locks = false) (F_X10_conjunction : Mem → Res) (d : Nat) (HF_X10_conjunction : ∀ (M : Mem) (r0 : Int) (M0 : Mem), F_X10_conjunction  M = some (r0, M0) → q_Met l syM D ad cA yX10_conjunction cX10_conjunction 1 none (rg_E d) [.ref (ad 0)] M none M0)  (M : Mem) (g4 : Mem → Res)  (ih4 : ∀  (M : Mem), g4  M = some (r0, M0) → WM syM p l e (rg_E (d + 1)) s m args below meth c 1 D ad cA (MQ below (q_Post syM D ad cA none M0) args s 0 0 (q_A syM ad)) M 4 [(0, .ref (ad 0))] []) (h : f_X10_expression_B4 F_X10_conjunction  M g4 = some (r0, M0)) : WM syM p l e (rg_E (d + 1)) s m args below meth c 1 D ad cA (MQ below (q_Post syM D ad cA none M0) args s 0 0 (q_A syM ad)) M 4 [(0, .ref (ad 0))] [] := by
  unfold f_X10_expression_B4 at h
  refine r_aln C dX10_expression_4 (k := 0) rfl ?_
  refine r_bi C dX10_expression_5 (by decide) ?_
  obtain ⟨r1, hy, h⟩ := q_calp_some h
  refine r_cvi C (st := []) (c_X10_isWord C.2.2.1 10 M r1 hy) tm_RX10_261 mw_X10_isWord ⟨rfl, rfl⟩ ⟨by simp only [rm_X10_isWord, rg_E]; omega, by simp only [rm_X10_isWord, rg_E]; omega⟩ km_0 clX10 rfl rfl (Nat.le_of_ble_eq_true rfl) dX10_expression_7 ?_
  refine r_zeq C (tgt := 36) dX10_expression_10 (by decide) h (fun h => ?_) (fun h => ?_)
  · exact r_vret C hr hlk dX10_expression_36 h
  · refine r_aln C dX10_expression_13 (k := 0) rfl ?_
    obtain ⟨r2, M3, hy, h⟩ := q_call_some h
    refine r_cvv C (st := []) (c_X10_knot C.2.2.1 M r2 M3 hy) tm_RX10_264 mw_X10_knot ⟨rfl, rfl⟩ ⟨by simp only [rm_X10_knot, rg_E]; omega, by simp only [rm_X10_knot, rg_E]; omega⟩ km_0 clX10 rfl rfl (Nat.le_of_ble_eq_true rfl) dX10_expression_14 ?_
    refine r_aln C dX10_expression_17 (k := 0) rfl ?_
    obtain ⟨r4, M5, hy, h⟩ := q_call_some h
    refine r_cvv C (st := []) (c_X10_goOn C.2.2.1 M3 r4 M5 hy) tm_RX10_249 mw_X10_goOn ⟨rfl, rfl⟩ ⟨by simp only [rm_X10_goOn, rg_E]; omega, by simp only [rm_X10_goOn, rg_E]; omega⟩ km_0 clX10 rfl rfl (Nat.le_of_ble_eq_true rfl) dX10_expression_18 ?_
    refine r_aln C dX10_expression_21 (k := 0) rfl ?_
    obtain ⟨r6, M7, hy, h⟩ := q_call_some h
    refine r_cvv C (st := []) (HF_X10_conjunction  M5 r6 M7 hy) tm_RX10_258 mw_X10_conjunction ⟨rfl, rfl⟩ ⟨by simp only [rg_E]; omega, by simp only [rg_E]; omega⟩ km_0 clX10 rfl rfl (Nat.le_of_ble_eq_true rfl) dX10_expression_22 ?_
    refine r_aln C dX10_expression_25 (k := 0) rfl ?_
    refine r_ic C dX10_expression_26 ?_
    refine r_si C dX10_expression_27 (by decide) ?_
    obtain ⟨r8, M9, hy, h⟩ := q_call_some h
    refine r_cvv C (st := []) (c_X10_puts C.2.2.1 2 262 M7 r8 M9 hy) tm_RX10_267 mw_X10_puts ⟨rfl, rfl⟩ ⟨by simp only [rm_X10_puts, rg_E]; omega, by simp only [rm_X10_puts, rg_E]; omega⟩ km_0 clX10 rfl rfl (Nat.le_of_ble_eq_true rfl) dX10_expression_30 ?_
    refine r_goto C (tgt := 4) dX10_expression_33 (by decide) ?_
    exact ih4  M9 h
theorem w_X10_expression_L4 (C : Cx syM p m c cX10_expression 1 s args RX10 D ad cA) (hr : meth.sig.returnType = none) (hlk : meth.locks = false) (F_X10_conjunction : Mem → Res) (d : Nat) (HF_X10_conjunction : ∀ (M : Mem) (r0 : Int) (M0 : Mem), F_X10_conjunction  M = some (r0, M0) → q_Met l syM D ad cA yX10_conjunction cX10_conjunction 1 none (rg_E d) [.ref (ad 0)] M none M0)   (n : Nat)  (M : Mem) (h : f_X10_expression_L4 F_X10_conjunction n  M = some (r0, M0)) : WM syM p l e (rg_E (d + 1)) s m args below meth c 1 D ad cA (MQ below (q_Post syM D ad cA none M0) args s 0 0 (q_A syM ad)) M 4 [(0, .ref (ad 0))] [] :=
  qlm0_r (Wp := fun  M => WM syM p l e (rg_E (d + 1)) s m args below meth c 1 D ad cA (MQ below (q_Post syM D ad cA none M0) args s 0 0 (q_A syM ad)) M 4 [(0, .ref (ad 0))] []) (fun  M g4 ih4 h => w_X10_expression_B4 C hr hlk F_X10_conjunction d HF_X10_conjunction  M g4  ih4 h) n  M h
def f_X10_expression_G (F_X10_conjunction : Mem → Res) (M : Mem) : Res :=
  q_call (F_X10_conjunction  M) fun r1 M2 =>
  f_X10_expression_L4 F_X10_conjunction q_N  M2
theorem c_X10_expression_G {l : Launch} {D : va_G} {ad : Nat → Nat} {cA : Nat → ClassId} (hi : q_inj syM ad) (F_X10_conjunction : Mem → Res) (d : Nat) (HF_X10_conjunction : ∀ (M : Mem) (r0 : Int) (M0 : Mem), F_X10_conjunction  M = some (r0, M0) → q_Met l syM D ad cA yX10_conjunction cX10_conjunction 1 none (rg_E d) [.ref (ad 0)] M none M0) (M : Mem) (r0 : Int) (M0 : Mem) (h : f_X10_expression_G F_X10_conjunction M = some (r0, M0)) : q_Met l syM D ad cA yX10_expression cX10_expression 1 none (rg_E (d + 1)) [.ref (ad 0)] M none M0 := by
  refine q_met (L0 := [(0, .ref (ad 0))]) hi okM (by decide) (Nat.le_of_ble_eq_true rfl) rfl ?_
  intro p e s m args below meth c C hr hlk
  unfold f_X10_expression_G at h
  refine r_aln C dX10_expression_0 (k := 0) rfl ?_
  obtain ⟨r1, M2, hy, h⟩ := q_call_some h
  refine r_cvv C (st := []) (HF_X10_conjunction  M r1 M2 hy) tm_RX10_258 mw_X10_conjunction ⟨rfl, rfl⟩ ⟨by simp only [rg_E]; omega, by simp only [rg_E]; omega⟩ km_0 clX10 rfl rfl (Nat.le_of_ble_eq_true rfl) dX10_expression_1 ?_
  exact w_X10_expression_L4 C hr hlk F_X10_conjunction d HF_X10_conjunction  q_N  M2 h
abbrev rm_X10_fault : Room := { frames := 0, cells := 0, slots := 0, locals := 0 }
theorem mw_X10_fault : q_mw RX10 yX10_fault cX10_fault 2 (some .int) 1 := ⟨⟨ti_X10_fault, tl_X10_fault, tn_RX10, td_X10_fault⟩, by decide +kernel⟩
def f_X10_fault (a0 : Int) (M : Mem) : Res :=
  q_pf M 0 0 0 fun M1 =>
  if ¬ w32 a0 = 0 then (if ¬ w32 a0 = w32 1 then (some ((-1), M1))
  else (q_gf M1 0 29 fun v2 =>
  some (v2, M1)))
  else (q_gf M1 0 28 fun v3 =>
  some (v3, M1))
theorem c_X10_fault {l : Launch} {D : va_G} {ad : Nat → Nat} {cA : Nat → ClassId} (hi : q_inj syM ad) (a0 : Int) (M : Mem) (r0 : Int) (M0 : Mem) (h : f_X10_fault a0 M = some (r0, M0)) : q_Met l syM D ad cA yX10_fault cX10_fault 2 (some .int) rm_X10_fault [.ref (ad 0), .int (qI a0)] M (some (.int (qI r0))) M0 := by
  refine q_met (L0 := [(0, .ref (ad 0)), (1, .int (qI a0))]) hi okM (by decide) (Nat.le_of_ble_eq_true rfl) rfl ?_
  intro p e s m args below meth c C hr hlk
  unfold f_X10_fault at h
  refine r_aln C dX10_fault_0 (k := 0) rfl ?_
  refine r_ic C dX10_fault_1 ?_
  refine r_pf C km_0 clX10 (f := 0) (by decide) rfl q_dI rfl rfl tf_RX10_142 dX10_fault_2 h (fun M1 h => ?_)
  refine r_iln C dX10_fault_5 (k := 1) rfl ?_
  refine r_zne C (tgt := 16) dX10_fault_6 (by decide) h (fun h => ?_) (fun h => ?_)
  · refine r_iln C dX10_fault_16 (k := 1) rfl ?_
    refine r_ic C dX10_fault_17 ?_
    refine r_cne C (tgt := 28) dX10_fault_18 (by decide) h (fun h => ?_) (fun h => ?_)
    · refine r_ic C dX10_fault_28 ?_
      exact r_iret C hr hlk dX10_fault_29 h
    · refine r_aln C dX10_fault_21 (k := 0) rfl ?_
      refine r_gf C km_0 clX10 (f := 29) (by decide) rfl rfl rfl tf_RX10_61 dX10_fault_22 h (fun v2 h => ?_)
      refine r_goto C (tgt := 29) dX10_fault_25 (by decide) ?_
      exact r_iret C hr hlk dX10_fault_29 h
  · refine r_aln C dX10_fault_9 (k := 0) rfl ?_
    refine r_gf C km_0 clX10 (f := 28) (by decide) rfl rfl rfl tf_RX10_288 dX10_fault_10 h (fun v3 h => ?_)
    refine r_goto C (tgt := 29) dX10_fault_13 (by decide) ?_
    exact r_iret C hr hlk dX10_fault_29 h
end P13c
