section P13d
variable {p : Program} {l : Launch} {e : Env} {s : State} {m : MethodId} {args : Array Value} {below : List Frame} {meth : Method} {c : Code} {D : va_G} {ad : Nat → Nat} {cA : Nat → ClassId} {r0 : Int} {M0 : Mem}
abbrev rm_X10_known : Room := { frames := 0, cells := 0, slots := 0, locals := 0 }
theorem mw_X10_known : q_mw RX10 yX10_known cX10_known 2 (some .boolean) 1 := ⟨⟨ti_X10_known, tl_X10_known, tn_RX10, td_X10_known⟩, by decide +kernel⟩
def f_X10_known (a0 : Int) (M : Mem) : Res :=
  q_pf M 0 0 0 fun M1 =>
  if w32 a0 < w32 (-1) then (some (0, M1))
  else (q_gf M1 0 58 fun v2 =>
  if w32 a0 ≤ w32 v2 then (q_pf M1 0 59 a0 fun M3 =>
  some (1, M3))
  else (some (0, M1)))
theorem c_X10_known {l : Launch} {D : va_G} {ad : Nat → Nat} {cA : Nat → ClassId} (hi : q_inj syM ad) (a0 : Int) (M : Mem) (r0 : Int) (M0 : Mem) (h : f_X10_known a0 M = some (r0, M0)) : q_Met l syM D ad cA yX10_known cX10_known 2 (some .boolean) rm_X10_known [.ref (ad 0), .int (qI a0)] M (some (.int (qI r0))) M0 := by
  refine q_met (L0 := [(0, .ref (ad 0)), (1, .int (qI a0))]) hi okM (by decide) (Nat.le_of_ble_eq_true rfl) rfl ?_
  intro p e s m args below meth c C hr hlk
  unfold f_X10_known at h
  refine r_aln C dX10_known_0 (k := 0) rfl ?_
  refine r_ic C dX10_known_1 ?_
  refine r_pf C km_0 clX10 (f := 0) (by decide) rfl q_dI rfl rfl tf_RX10_142 dX10_known_2 h (fun M1 h => ?_)
  refine r_iln C dX10_known_5 (k := 1) rfl ?_
  refine r_ic C dX10_known_6 ?_
  refine r_clt C (tgt := 18) dX10_known_7 (by decide) h (fun h => ?_) (fun h => ?_)
  · refine r_ic C dX10_known_18 ?_
    exact r_zret C (by decide) hr hlk dX10_known_19 h
  · refine r_iln C dX10_known_10 (k := 1) rfl ?_
    refine r_aln C dX10_known_11 (k := 0) rfl ?_
    refine r_gf C km_0 clX10 (f := 58) (by decide) rfl rfl rfl tf_RX10_295 dX10_known_12 h (fun v2 h => ?_)
    refine r_cle C (tgt := 20) dX10_known_15 (by decide) h (fun h => ?_) (fun h => ?_)
    · refine r_aln C dX10_known_20 (k := 0) rfl ?_
      refine r_iln C dX10_known_21 (k := 1) rfl ?_
      refine r_pf C km_0 clX10 (f := 59) (by decide) rfl q_dI rfl rfl tf_RX10_120 dX10_known_22 h (fun M3 h => ?_)
      refine r_ic C dX10_known_25 ?_
      exact r_zret C (by decide) hr hlk dX10_known_26 h
    · refine r_ic C dX10_known_18 ?_
      exact r_zret C (by decide) hr hlk dX10_known_19 h
abbrev rm_X10_law : Room := { frames := 3, cells := 0, slots := 0, locals := 72 }
theorem mw_X10_law : q_mw RX10 yX10_law cX10_law 4 (some .long) 3 := ⟨⟨ti_X10_law, tl_X10_law, tn_RX10, td_X10_law⟩, by decide +kernel⟩
def f_X10_law_J65 (x1 : Int) (y0 : Int) (y1 : Int) (y2 : Int) (M : Mem) : Res :=
  q_call (f_X10_calls y2 y1 y0 M) fun r1 M2 =>
  q_call (f_X10_comesOut x1 M2) fun r3 M4 =>
  if w32 r3 = 0 then (some ((-9223372036854775808), M4))
  else (q_al M4 65 64 0 fun v5 =>
  some (v5, M4))
theorem w_X10_law_J65 (C : Cx syM p m c cX10_law 4 s args RX10 D ad cA) (hr : meth.sig.returnType = (some .long)) (hlk : meth.locks = false) (x1 : Int) (y0 : Int) (y1 : Int) (y2 : Int) (M : Mem)  (h : f_X10_law_J65 x1 y0 y1 y2 M = some (r0, M0)) : WM syM p l e rm_X10_law s m args below meth c 4 D ad cA (MQ below (q_Post syM D ad cA (some (.long (qJ r0))) M0) args s 0 0 (q_A syM ad)) M 65 [(0, .ref (ad 0)), (1, .int (qI x1))] [.int (qI y0), .int (qI y1), .int (qI y2), .ref (ad 0)] := by
  unfold f_X10_law_J65 at h
  obtain ⟨r1, M2, hy, h⟩ := q_call_some h
  refine r_cvv C (st := []) (c_X10_calls C.2.2.1 y2 y1 y0 M r1 M2 hy) tm_RX10_352 mw_X10_calls ⟨rfl, rfl⟩ ⟨Nat.le_of_ble_eq_true rfl, Nat.le_of_ble_eq_true rfl⟩ km_0 clX10 rfl rfl (Nat.le_of_ble_eq_true rfl) dX10_law_65 ?_
  refine r_aln C dX10_law_68 (k := 0) rfl ?_
  refine r_iln C dX10_law_69 (k := 1) rfl ?_
  obtain ⟨r3, M4, hy, h⟩ := q_call_some h
  refine r_cvi C (st := []) (c_X10_comesOut C.2.2.1 x1 M2 r3 M4 hy) tm_RX10_339 mw_X10_comesOut ⟨rfl, rfl⟩ ⟨Nat.le_of_ble_eq_true rfl, Nat.le_of_ble_eq_true rfl⟩ km_0 clX10 rfl rfl (Nat.le_of_ble_eq_true rfl) dX10_law_70 ?_
  refine r_zeq C (tgt := 85) dX10_law_73 (by decide) h (fun h => ?_) (fun h => ?_)
  · refine r_ldc2 C (x := (-9223372036854775808)) tc_RX10_428 (by decide) dX10_law_85 ?_
    exact r_lret C hr hlk dX10_law_88 h
  · refine r_aln C dX10_law_76 (k := 0) rfl ?_
    refine r_gs C km_0 clX10 (f := 33) (by decide) rfl (t := 65) rfl tf_RX10_69 dX10_law_77 ?_
    refine r_ic C dX10_law_80 ?_
    refine r_lald C km_65 dX10_law_81 h (fun v5 h => ?_)
    refine r_goto C (tgt := 88) dX10_law_82 (by decide) ?_
    exact r_lret C hr hlk dX10_law_88 h
def f_X10_law_J47 (x1 : Int) (x2 : Int) (x3 : Int) (M : Mem) : Res :=
  if ¬ w32 x1 = w32 2 then (q_al M 44 8 x3 fun v1 =>
  f_X10_law_J65 x1 v1 x2 0 M)
  else (f_X10_law_J65 x1 0 x2 0 M)
theorem w_X10_law_J47 (C : Cx syM p m c cX10_law 4 s args RX10 D ad cA) (hr : meth.sig.returnType = (some .long)) (hlk : meth.locks = false) (x1 : Int) (x2 : Int) (x3 : Int) (M : Mem)  (h : f_X10_law_J47 x1 x2 x3 M = some (r0, M0)) : WM syM p l e rm_X10_law s m args below meth c 4 D ad cA (MQ below (q_Post syM D ad cA (some (.long (qJ r0))) M0) args s 0 0 (q_A syM ad)) M 47 [(0, .ref (ad 0)), (1, .int (qI x1)), (2, .int (qI x2)), (3, .int (qI x3))] [] := by
  unfold f_X10_law_J47 at h
  refine r_aln C dX10_law_47 (k := 0) rfl ?_
  refine r_ic C dX10_law_48 ?_
  refine r_iln C dX10_law_49 (k := 2) rfl ?_
  refine r_iln C dX10_law_50 (k := 1) rfl ?_
  refine r_ic C dX10_law_51 ?_
  refine r_cne C (tgt := 59) dX10_law_52 (by decide) h (fun h => ?_) (fun h => ?_)
  · refine r_aln C dX10_law_59 (k := 0) rfl ?_
    refine r_gs C km_0 clX10 (f := 12) (by decide) rfl (t := 44) rfl tf_RX10_40 dX10_law_60 ?_
    refine r_iln C dX10_law_63 (k := 3) rfl ?_
    refine r_iald C km_44 dX10_law_64 h (fun v1 h => ?_)
    refine r_drop [0, 1] rfl ?_
    exact w_X10_law_J65 C hr hlk x1 v1 x2 0 M  h
  · refine r_ic C dX10_law_55 ?_
    refine r_goto C (tgt := 65) dX10_law_56 (by decide) ?_
    refine r_drop [0, 1] rfl ?_
    exact w_X10_law_J65 C hr hlk x1 0 x2 0 M  h
def f_X10_law (a0 : Int) (a1 : Int) (a2 : Int) (M : Mem) : Res :=
  q_pf M 0 0 0 fun M1 =>
  if w32 a0 < 0 then (some ((-9223372036854775808), M1))
  else (if w32 2 < w32 a0 then (some ((-9223372036854775808), M1))
  else (q_calp (f_X10_hasLaw a0 M1) fun r2 =>
  if w32 r2 = 0 then (some ((-9223372036854775808), M1))
  else (q_calp (f_X10_isSoul a1 M1) fun r3 =>
  if w32 r3 = 0 then (some ((-9223372036854775808), M1))
  else (if w32 a0 = w32 2 then (f_X10_law_J47 a0 a1 a2 M1)
  else (q_calp (f_X10_isBus a2 M1) fun r4 =>
  if ¬ w32 r4 = 0 then (f_X10_law_J47 a0 a1 a2 M1)
  else (some ((-9223372036854775808), M1)))))))
theorem c_X10_law {l : Launch} {D : va_G} {ad : Nat → Nat} {cA : Nat → ClassId} (hi : q_inj syM ad) (a0 : Int) (a1 : Int) (a2 : Int) (M : Mem) (r0 : Int) (M0 : Mem) (h : f_X10_law a0 a1 a2 M = some (r0, M0)) : q_Met l syM D ad cA yX10_law cX10_law 4 (some .long) rm_X10_law [.ref (ad 0), .int (qI a0), .int (qI a1), .int (qI a2)] M (some (.long (qJ r0))) M0 := by
  refine q_met (L0 := [(0, .ref (ad 0)), (1, .int (qI a0)), (2, .int (qI a1)), (3, .int (qI a2))]) hi okM (by decide) (Nat.le_of_ble_eq_true rfl) rfl ?_
  intro p e s m args below meth c C hr hlk
  unfold f_X10_law at h
  refine r_aln C dX10_law_0 (k := 0) rfl ?_
  refine r_ic C dX10_law_1 ?_
  refine r_pf C km_0 clX10 (f := 0) (by decide) rfl q_dI rfl rfl tf_RX10_142 dX10_law_2 h (fun M1 h => ?_)
  refine r_iln C dX10_law_5 (k := 1) rfl ?_
  refine r_zlt C (tgt := 43) dX10_law_6 (by decide) h (fun h => ?_) (fun h => ?_)
  · refine r_ldc2 C (x := (-9223372036854775808)) tc_RX10_428 (by decide) dX10_law_43 ?_
    exact r_lret C hr hlk dX10_law_46 h
  · refine r_iln C dX10_law_9 (k := 1) rfl ?_
    refine r_ic C dX10_law_10 ?_
    refine r_cgt C (tgt := 43) dX10_law_11 (by decide) h (fun h => ?_) (fun h => ?_)
    · refine r_ldc2 C (x := (-9223372036854775808)) tc_RX10_428 (by decide) dX10_law_43 ?_
      exact r_lret C hr hlk dX10_law_46 h
    · refine r_aln C dX10_law_14 (k := 0) rfl ?_
      refine r_iln C dX10_law_15 (k := 1) rfl ?_
      obtain ⟨r2, hy, h⟩ := q_calp_some h
      refine r_cvi C (st := []) (c_X10_hasLaw C.2.2.1 a0 M1 r2 hy) tm_RX10_336 mw_X10_hasLaw ⟨rfl, rfl⟩ ⟨Nat.le_of_ble_eq_true rfl, Nat.le_of_ble_eq_true rfl⟩ km_0 clX10 rfl rfl (Nat.le_of_ble_eq_true rfl) dX10_law_16 ?_
      refine r_zeq C (tgt := 43) dX10_law_19 (by decide) h (fun h => ?_) (fun h => ?_)
      · refine r_ldc2 C (x := (-9223372036854775808)) tc_RX10_428 (by decide) dX10_law_43 ?_
        exact r_lret C hr hlk dX10_law_46 h
      · refine r_aln C dX10_law_22 (k := 0) rfl ?_
        refine r_iln C dX10_law_23 (k := 2) rfl ?_
        obtain ⟨r3, hy, h⟩ := q_calp_some h
        refine r_cvi C (st := []) (c_X10_isSoul C.2.2.1 a1 M1 r3 hy) tm_RX10_411 mw_X10_isSoul ⟨rfl, rfl⟩ ⟨Nat.le_of_ble_eq_true rfl, Nat.le_of_ble_eq_true rfl⟩ km_0 clX10 rfl rfl (Nat.le_of_ble_eq_true rfl) dX10_law_24 ?_
        refine r_zeq C (tgt := 43) dX10_law_27 (by decide) h (fun h => ?_) (fun h => ?_)
        · refine r_ldc2 C (x := (-9223372036854775808)) tc_RX10_428 (by decide) dX10_law_43 ?_
          exact r_lret C hr hlk dX10_law_46 h
        · refine r_iln C dX10_law_30 (k := 1) rfl ?_
          refine r_ic C dX10_law_31 ?_
          refine r_ceq C (tgt := 47) dX10_law_32 (by decide) h (fun h => ?_) (fun h => ?_)
          · exact w_X10_law_J47 C hr hlk a0 a1 a2 M1  h
          · refine r_aln C dX10_law_35 (k := 0) rfl ?_
            refine r_iln C dX10_law_36 (k := 3) rfl ?_
            obtain ⟨r4, hy, h⟩ := q_calp_some h
            refine r_cvi C (st := []) (c_X10_isBus C.2.2.1 a2 M1 r4 hy) tm_RX10_420 mw_X10_isBus ⟨rfl, rfl⟩ ⟨Nat.le_of_ble_eq_true rfl, Nat.le_of_ble_eq_true rfl⟩ km_0 clX10 rfl rfl (Nat.le_of_ble_eq_true rfl) dX10_law_37 ?_
            refine r_zne C (tgt := 47) dX10_law_40 (by decide) h (fun h => ?_) (fun h => ?_)
            · exact w_X10_law_J47 C hr hlk a0 a1 a2 M1  h
            · refine r_ldc2 C (x := (-9223372036854775808)) tc_RX10_428 (by decide) dX10_law_43 ?_
              exact r_lret C hr hlk dX10_law_46 h
abbrev rm_X10_lets : Room := { frames := 1, cells := 0, slots := 0, locals := 21 }
theorem mw_X10_lets : q_mw RX10 yX10_lets cX10_lets 4 (some .int) 1 := ⟨⟨ti_X10_lets, tl_X10_lets, tn_RX10, td_X10_lets⟩, by decide +kernel⟩
def f_X10_lets_B19 (x1 : Int) (M : Mem) (x2 : Int) (x3 : Int) (g19 : Int → Int → Res) : Res :=
  q_al M 35 14 2 fun v1 =>
  if w32 v1 ≤ w32 x3 then (some (x2, M))
  else (q_al M 45 16 x3 fun v2 =>
  if ¬ w32 v2 = w32 x1 then (g19 (q_or x2 0) (x3 + 1))
  else (q_al M 46 16 x3 fun v3 =>
  g19 (q_or x2 (q_shl 1 v3)) (x3 + 1)))
def f_X10_lets_L19 (x1 : Int) (M : Mem) (n : Nat) (x2 : Int) (x3 : Int) : Res := qlp2 (fun x2 x3 g19 => f_X10_lets_B19 x1 M x2 x3 g19) n x2 x3
theorem w_X10_lets_B19 (C : Cx syM p m c cX10_lets 4 s args RX10 D ad cA) (hr : meth.sig.returnType = (some .int)) (hlk : meth.locks = false)  (x1 : Int) (x2 : Int) (x3 : Int) (M : Mem) (g19 : Int → Int → Res)  (ih19 : ∀ (ux2 ux3 : Int) , g19 ux2 ux3  = some (r0, M0) → WM syM p l e rm_X10_lets s m args below meth c 4 D ad cA (MQ below (q_Post syM D ad cA (some (.int (qI r0))) M0) args s 0 0 (q_A syM ad)) M 19 [(0, .ref (ad 0)), (1, .int (qI x1)), (2, .int (qI ux2)), (3, .int (qI ux3))] []) (h : f_X10_lets_B19 x1 M x2 x3 g19 = some (r0, M0)) : WM syM p l e rm_X10_lets s m args below meth c 4 D ad cA (MQ below (q_Post syM D ad cA (some (.int (qI r0))) M0) args s 0 0 (q_A syM ad)) M 19 [(0, .ref (ad 0)), (1, .int (qI x1)), (2, .int (qI x2)), (3, .int (qI x3))] [] := by
  unfold f_X10_lets_B19 at h
  refine r_iln C dX10_lets_19 (k := 3) rfl ?_
  refine r_aln C dX10_lets_20 (k := 0) rfl ?_
  refine r_gs C km_0 clX10 (f := 3) (by decide) rfl (t := 35) rfl tf_RX10_13 dX10_lets_21 ?_
  refine r_ic C dX10_lets_24 ?_
  refine r_iald C km_35 dX10_lets_25 h (fun v1 h => ?_)
  refine r_cge C (tgt := 60) dX10_lets_26 (by decide) h (fun h => ?_) (fun h => ?_)
  · refine r_iln C dX10_lets_60 (k := 2) rfl ?_
    exact r_iret C hr hlk dX10_lets_61 h
  · refine r_iln C dX10_lets_29 (k := 2) rfl ?_
    refine r_aln C dX10_lets_30 (k := 0) rfl ?_
    refine r_gs C km_0 clX10 (f := 13) (by decide) rfl (t := 45) rfl tf_RX10_43 dX10_lets_31 ?_
    refine r_iln C dX10_lets_34 (k := 3) rfl ?_
    refine r_iald C km_45 dX10_lets_35 h (fun v2 h => ?_)
    refine r_iln C dX10_lets_36 (k := 1) rfl ?_
    refine r_cne C (tgt := 51) dX10_lets_37 (by decide) h (fun h => ?_) (fun h => ?_)
    · refine r_ic C dX10_lets_51 ?_
      refine r_ior C dX10_lets_52 ?_
      refine r_isn C (L1 := [(2, .int (qI (q_or x2 0))), (0, .ref (ad 0)), (1, .int (qI x1)), (3, .int (qI x3))]) dX10_lets_53 (by decide) rfl ?_
      refine r_inc C (L1 := [(3, .int (qI (x3 + 1))), (2, .int (qI (q_or x2 0))), (0, .ref (ad 0)), (1, .int (qI x1))]) dX10_lets_54 (k := 3) rfl (by decide) rfl ?_
      refine r_goto C (tgt := 19) dX10_lets_57 (by decide) ?_
      refine r_drop [2, 3, 1, 0] rfl ?_
      exact ih19 (q_or x2 0) (x3 + 1)  h
    · refine r_ic C dX10_lets_40 ?_
      refine r_aln C dX10_lets_41 (k := 0) rfl ?_
      refine r_gs C km_0 clX10 (f := 14) (by decide) rfl (t := 46) rfl tf_RX10_46 dX10_lets_42 ?_
      refine r_iln C dX10_lets_45 (k := 3) rfl ?_
      refine r_iald C km_46 dX10_lets_46 h (fun v3 h => ?_)
      refine r_ishl C dX10_lets_47 ?_
      refine r_goto C (tgt := 52) dX10_lets_48 (by decide) ?_
      refine r_ior C dX10_lets_52 ?_
      refine r_isn C (L1 := [(2, .int (qI (q_or x2 (q_shl 1 v3)))), (0, .ref (ad 0)), (1, .int (qI x1)), (3, .int (qI x3))]) dX10_lets_53 (by decide) rfl ?_
      refine r_inc C (L1 := [(3, .int (qI (x3 + 1))), (2, .int (qI (q_or x2 (q_shl 1 v3)))), (0, .ref (ad 0)), (1, .int (qI x1))]) dX10_lets_54 (k := 3) rfl (by decide) rfl ?_
      refine r_goto C (tgt := 19) dX10_lets_57 (by decide) ?_
      refine r_drop [2, 3, 1, 0] rfl ?_
      exact ih19 (q_or x2 (q_shl 1 v3)) (x3 + 1)  h
theorem w_X10_lets_L19 (C : Cx syM p m c cX10_lets 4 s args RX10 D ad cA) (hr : meth.sig.returnType = (some .int)) (hlk : meth.locks = false)  (x1 : Int) (M : Mem)  (n : Nat) (x2 : Int) (x3 : Int) (h : f_X10_lets_L19 x1 M n x2 x3 = some (r0, M0)) : WM syM p l e rm_X10_lets s m args below meth c 4 D ad cA (MQ below (q_Post syM D ad cA (some (.int (qI r0))) M0) args s 0 0 (q_A syM ad)) M 19 [(0, .ref (ad 0)), (1, .int (qI x1)), (2, .int (qI x2)), (3, .int (qI x3))] [] :=
  qlp2_r (Wp := fun ux2 ux3 => WM syM p l e rm_X10_lets s m args below meth c 4 D ad cA (MQ below (q_Post syM D ad cA (some (.int (qI r0))) M0) args s 0 0 (q_A syM ad)) M 19 [(0, .ref (ad 0)), (1, .int (qI x1)), (2, .int (qI ux2)), (3, .int (qI ux3))] []) (fun ux2 ux3 g19 ih19 h => w_X10_lets_B19 C hr hlk x1 ux2 ux3 M g19  ih19 h) n x2 x3 h
def f_X10_lets (a0 : Int) (M : Mem) : Res :=
  q_pf M 0 0 0 fun M1 =>
  q_calp (f_X10_isSoul a0 M1) fun r2 =>
  if ¬ w32 r2 = 0 then (f_X10_lets_L19 a0 M1 q_N 0 0)
  else (some ((-1), M1))
theorem c_X10_lets {l : Launch} {D : va_G} {ad : Nat → Nat} {cA : Nat → ClassId} (hi : q_inj syM ad) (a0 : Int) (M : Mem) (r0 : Int) (M0 : Mem) (h : f_X10_lets a0 M = some (r0, M0)) : q_Met l syM D ad cA yX10_lets cX10_lets 4 (some .int) rm_X10_lets [.ref (ad 0), .int (qI a0)] M (some (.int (qI r0))) M0 := by
  refine q_met (L0 := [(0, .ref (ad 0)), (1, .int (qI a0))]) hi okM (by decide) (Nat.le_of_ble_eq_true rfl) rfl ?_
  intro p e s m args below meth c C hr hlk
  unfold f_X10_lets at h
  refine r_aln C dX10_lets_0 (k := 0) rfl ?_
  refine r_ic C dX10_lets_1 ?_
  refine r_pf C km_0 clX10 (f := 0) (by decide) rfl q_dI rfl rfl tf_RX10_142 dX10_lets_2 h (fun M1 h => ?_)
  refine r_aln C dX10_lets_5 (k := 0) rfl ?_
  refine r_iln C dX10_lets_6 (k := 1) rfl ?_
  obtain ⟨r2, hy, h⟩ := q_calp_some h
  refine r_cvi C (st := []) (c_X10_isSoul C.2.2.1 a0 M1 r2 hy) tm_RX10_411 mw_X10_isSoul ⟨rfl, rfl⟩ ⟨Nat.le_of_ble_eq_true rfl, Nat.le_of_ble_eq_true rfl⟩ km_0 clX10 rfl rfl (Nat.le_of_ble_eq_true rfl) dX10_lets_7 ?_
  refine r_zne C (tgt := 15) dX10_lets_10 (by decide) h (fun h => ?_) (fun h => ?_)
  · refine r_ic C dX10_lets_15 ?_
    refine r_isn C (L1 := [(2, .int (qI 0)), (0, .ref (ad 0)), (1, .int (qI a0))]) dX10_lets_16 (by decide) rfl ?_
    refine r_ic C dX10_lets_17 ?_
    refine r_isn C (L1 := [(3, .int (qI 0)), (2, .int (qI 0)), (0, .ref (ad 0)), (1, .int (qI a0))]) dX10_lets_18 (by decide) rfl ?_
    refine r_drop [2, 3, 1, 0] rfl ?_
    exact w_X10_lets_L19 C hr hlk a0 M1  q_N 0 0 h
  · refine r_ic C dX10_lets_13 ?_
    exact r_iret C hr hlk dX10_lets_14 h
abbrev rm_X10_meet : Room := { frames := 2, cells := 0, slots := 0, locals := 43 }
theorem mw_X10_meet : q_mw RX10 yX10_meet cX10_meet 4 (some .int) 2 := ⟨⟨ti_X10_meet, tl_X10_meet, tn_RX10, td_X10_meet⟩, by decide +kernel⟩
def f_X10_meet_B30 (x1 : Int) (x2 : Int) (M : Mem) (x3 : Int) (g30 : Int → Res) : Res :=
  if w32 1100 < w32 x3 then (some ((-2), M))
  else (q_al M 67 23 0 fun v1 =>
  q_calp (f_X10_isComing x1 (v1 + x3) M) fun r2 =>
  if w32 r2 = 0 then (g30 (x3 + 1))
  else (q_al M 67 23 0 fun v3 =>
  q_calp (f_X10_isComing x2 (v3 + x3) M) fun r4 =>
  if w32 r4 = 0 then (g30 (x3 + 1))
  else (some (x3, M))))
def f_X10_meet_L30 (x1 : Int) (x2 : Int) (M : Mem) (n : Nat) (x3 : Int) : Res := qlp1 (fun x3 g30 => f_X10_meet_B30 x1 x2 M x3 g30) n x3
theorem w_X10_meet_B30 (C : Cx syM p m c cX10_meet 4 s args RX10 D ad cA) (hr : meth.sig.returnType = (some .int)) (hlk : meth.locks = false)  (x1 : Int) (x2 : Int) (x3 : Int) (M : Mem) (g30 : Int → Res)  (ih30 : ∀ (ux3 : Int) , g30 ux3  = some (r0, M0) → WM syM p l e rm_X10_meet s m args below meth c 4 D ad cA (MQ below (q_Post syM D ad cA (some (.int (qI r0))) M0) args s 0 0 (q_A syM ad)) M 30 [(0, .ref (ad 0)), (1, .int (qI x1)), (2, .int (qI x2)), (3, .int (qI ux3))] []) (h : f_X10_meet_B30 x1 x2 M x3 g30 = some (r0, M0)) : WM syM p l e rm_X10_meet s m args below meth c 4 D ad cA (MQ below (q_Post syM D ad cA (some (.int (qI r0))) M0) args s 0 0 (q_A syM ad)) M 30 [(0, .ref (ad 0)), (1, .int (qI x1)), (2, .int (qI x2)), (3, .int (qI x3))] [] := by
  unfold f_X10_meet_B30 at h
  refine r_iln C dX10_meet_30 (k := 3) rfl ?_
  refine r_si C dX10_meet_31 (by decide) ?_
  refine r_cgt C (tgt := 77) dX10_meet_34 (by decide) h (fun h => ?_) (fun h => ?_)
  · refine r_bi C dX10_meet_77 (by decide) ?_
    exact r_iret C hr hlk dX10_meet_79 h
  · refine r_aln C dX10_meet_37 (k := 0) rfl ?_
    refine r_iln C dX10_meet_38 (k := 1) rfl ?_
    refine r_aln C dX10_meet_39 (k := 0) rfl ?_
    refine r_gs C km_0 clX10 (f := 35) (by decide) rfl (t := 67) rfl tf_RX10_72 dX10_meet_40 ?_
    refine r_ic C dX10_meet_43 ?_
    refine r_iald C km_67 dX10_meet_44 h (fun v1 h => ?_)
    refine r_iln C dX10_meet_45 (k := 3) rfl ?_
    refine r_iadd C dX10_meet_46 ?_
    obtain ⟨r2, hy, h⟩ := q_calp_some h
    refine r_cvi C (st := []) (c_X10_isComing C.2.2.1 x1 (v1 + x3) M r2 hy) tm_RX10_388 mw_X10_isComing ⟨rfl, rfl⟩ ⟨Nat.le_of_ble_eq_true rfl, Nat.le_of_ble_eq_true rfl⟩ km_0 clX10 rfl rfl (Nat.le_of_ble_eq_true rfl) dX10_meet_47 ?_
    refine r_zeq C (tgt := 71) dX10_meet_50 (by decide) h (fun h => ?_) (fun h => ?_)
    · refine r_inc C (L1 := [(3, .int (qI (x3 + 1))), (0, .ref (ad 0)), (1, .int (qI x1)), (2, .int (qI x2))]) dX10_meet_71 (k := 3) rfl (by decide) rfl ?_
      refine r_goto C (tgt := 30) dX10_meet_74 (by decide) ?_
      refine r_drop [1, 2, 3, 0] rfl ?_
      exact ih30 (x3 + 1)  h
    · refine r_aln C dX10_meet_53 (k := 0) rfl ?_
      refine r_iln C dX10_meet_54 (k := 2) rfl ?_
      refine r_aln C dX10_meet_55 (k := 0) rfl ?_
      refine r_gs C km_0 clX10 (f := 35) (by decide) rfl (t := 67) rfl tf_RX10_72 dX10_meet_56 ?_
      refine r_ic C dX10_meet_59 ?_
      refine r_iald C km_67 dX10_meet_60 h (fun v3 h => ?_)
      refine r_iln C dX10_meet_61 (k := 3) rfl ?_
      refine r_iadd C dX10_meet_62 ?_
      obtain ⟨r4, hy, h⟩ := q_calp_some h
      refine r_cvi C (st := []) (c_X10_isComing C.2.2.1 x2 (v3 + x3) M r4 hy) tm_RX10_388 mw_X10_isComing ⟨rfl, rfl⟩ ⟨Nat.le_of_ble_eq_true rfl, Nat.le_of_ble_eq_true rfl⟩ km_0 clX10 rfl rfl (Nat.le_of_ble_eq_true rfl) dX10_meet_63 ?_
      refine r_zeq C (tgt := 71) dX10_meet_66 (by decide) h (fun h => ?_) (fun h => ?_)
      · refine r_inc C (L1 := [(3, .int (qI (x3 + 1))), (0, .ref (ad 0)), (1, .int (qI x1)), (2, .int (qI x2))]) dX10_meet_71 (k := 3) rfl (by decide) rfl ?_
        refine r_goto C (tgt := 30) dX10_meet_74 (by decide) ?_
        refine r_drop [1, 2, 3, 0] rfl ?_
        exact ih30 (x3 + 1)  h
      · refine r_iln C dX10_meet_69 (k := 3) rfl ?_
        exact r_iret C hr hlk dX10_meet_70 h
theorem w_X10_meet_L30 (C : Cx syM p m c cX10_meet 4 s args RX10 D ad cA) (hr : meth.sig.returnType = (some .int)) (hlk : meth.locks = false)  (x1 : Int) (x2 : Int) (M : Mem)  (n : Nat) (x3 : Int) (h : f_X10_meet_L30 x1 x2 M n x3 = some (r0, M0)) : WM syM p l e rm_X10_meet s m args below meth c 4 D ad cA (MQ below (q_Post syM D ad cA (some (.int (qI r0))) M0) args s 0 0 (q_A syM ad)) M 30 [(0, .ref (ad 0)), (1, .int (qI x1)), (2, .int (qI x2)), (3, .int (qI x3))] [] :=
  qlp1_r (Wp := fun ux3 => WM syM p l e rm_X10_meet s m args below meth c 4 D ad cA (MQ below (q_Post syM D ad cA (some (.int (qI r0))) M0) args s 0 0 (q_A syM ad)) M 30 [(0, .ref (ad 0)), (1, .int (qI x1)), (2, .int (qI x2)), (3, .int (qI ux3))] []) (fun ux3 g30 ih30 h => w_X10_meet_B30 C hr hlk x1 x2 ux3 M g30  ih30 h) n x3 h
def f_X10_meet (a0 : Int) (a1 : Int) (M : Mem) : Res :=
  q_pf M 0 0 0 fun M1 =>
  q_calp (f_X10_isBus a0 M1) fun r2 =>
  if w32 r2 = 0 then (some ((-1), M1))
  else (q_calp (f_X10_isBus a1 M1) fun r3 =>
  if w32 r3 = 0 then (some ((-1), M1))
  else (if ¬ w32 a0 = w32 a1 then (f_X10_meet_L30 a0 a1 M1 q_N 0)
  else (some ((-1), M1))))
theorem c_X10_meet {l : Launch} {D : va_G} {ad : Nat → Nat} {cA : Nat → ClassId} (hi : q_inj syM ad) (a0 : Int) (a1 : Int) (M : Mem) (r0 : Int) (M0 : Mem) (h : f_X10_meet a0 a1 M = some (r0, M0)) : q_Met l syM D ad cA yX10_meet cX10_meet 4 (some .int) rm_X10_meet [.ref (ad 0), .int (qI a0), .int (qI a1)] M (some (.int (qI r0))) M0 := by
  refine q_met (L0 := [(0, .ref (ad 0)), (1, .int (qI a0)), (2, .int (qI a1))]) hi okM (by decide) (Nat.le_of_ble_eq_true rfl) rfl ?_
  intro p e s m args below meth c C hr hlk
  unfold f_X10_meet at h
  refine r_aln C dX10_meet_0 (k := 0) rfl ?_
  refine r_ic C dX10_meet_1 ?_
  refine r_pf C km_0 clX10 (f := 0) (by decide) rfl q_dI rfl rfl tf_RX10_142 dX10_meet_2 h (fun M1 h => ?_)
  refine r_aln C dX10_meet_5 (k := 0) rfl ?_
  refine r_iln C dX10_meet_6 (k := 1) rfl ?_
  obtain ⟨r2, hy, h⟩ := q_calp_some h
  refine r_cvi C (st := []) (c_X10_isBus C.2.2.1 a0 M1 r2 hy) tm_RX10_420 mw_X10_isBus ⟨rfl, rfl⟩ ⟨Nat.le_of_ble_eq_true rfl, Nat.le_of_ble_eq_true rfl⟩ km_0 clX10 rfl rfl (Nat.le_of_ble_eq_true rfl) dX10_meet_7 ?_
  refine r_zeq C (tgt := 26) dX10_meet_10 (by decide) h (fun h => ?_) (fun h => ?_)
  · refine r_ic C dX10_meet_26 ?_
    exact r_iret C hr hlk dX10_meet_27 h
  · refine r_aln C dX10_meet_13 (k := 0) rfl ?_
    refine r_iln C dX10_meet_14 (k := 2) rfl ?_
    obtain ⟨r3, hy, h⟩ := q_calp_some h
    refine r_cvi C (st := []) (c_X10_isBus C.2.2.1 a1 M1 r3 hy) tm_RX10_420 mw_X10_isBus ⟨rfl, rfl⟩ ⟨Nat.le_of_ble_eq_true rfl, Nat.le_of_ble_eq_true rfl⟩ km_0 clX10 rfl rfl (Nat.le_of_ble_eq_true rfl) dX10_meet_15 ?_
    refine r_zeq C (tgt := 26) dX10_meet_18 (by decide) h (fun h => ?_) (fun h => ?_)
    · refine r_ic C dX10_meet_26 ?_
      exact r_iret C hr hlk dX10_meet_27 h
    · refine r_iln C dX10_meet_21 (k := 1) rfl ?_
      refine r_iln C dX10_meet_22 (k := 2) rfl ?_
      refine r_cne C (tgt := 28) dX10_meet_23 (by decide) h (fun h => ?_) (fun h => ?_)
      · refine r_ic C dX10_meet_28 ?_
        refine r_isn C (L1 := [(3, .int (qI 0)), (0, .ref (ad 0)), (1, .int (qI a0)), (2, .int (qI a1))]) dX10_meet_29 (by decide) rfl ?_
        refine r_drop [1, 2, 3, 0] rfl ?_
        exact w_X10_meet_L30 C hr hlk a0 a1 M1  q_N 0 h
      · refine r_ic C dX10_meet_26 ?_
        exact r_iret C hr hlk dX10_meet_27 h
abbrev rm_X10_move : Room := { frames := 2, cells := 0, slots := 0, locals := 46 }
theorem mw_X10_move : q_mw RX10 yX10_move cX10_move 6 (some .boolean) 2 := ⟨⟨ti_X10_move, tl_X10_move, tn_RX10, td_X10_move⟩, by decide +kernel⟩
def f_X10_move_B72 (x1 : Int) (x2 : Int) (x4 : Int) (x5 : Int) (M : Mem) (g72 : Int → Mem → Res) : Res :=
  if w32 x5 = w32 x2 then (q_as M 70 184 x2 x1 fun M1 =>
  some (1, M1))
  else (q_al M 70 184 (x5 + x4) fun v2 =>
  q_as M 70 184 x5 v2 fun M3 =>
  g72 (x5 + x4) M3)
def f_X10_move_L72 (x1 : Int) (x2 : Int) (x4 : Int) (n : Nat) (x5 : Int) (M : Mem) : Res := qlm1 (fun x5 M g72 => f_X10_move_B72 x1 x2 x4 x5 M g72) n x5 M
theorem w_X10_move_B72 (C : Cx syM p m c cX10_move 6 s args RX10 D ad cA) (hr : meth.sig.returnType = (some .boolean)) (hlk : meth.locks = false)  (x1 : Int) (x2 : Int) (x4 : Int) (x5 : Int) (M : Mem) (g72 : Int → Mem → Res)  (ih72 : ∀ (ux5 : Int) (M : Mem), g72 ux5 M = some (r0, M0) → WM syM p l e rm_X10_move s m args below meth c 6 D ad cA (MQ below (q_Post syM D ad cA (some (.int (qI r0))) M0) args s 0 0 (q_A syM ad)) M 72 [(0, .ref (ad 0)), (1, .int (qI x1)), (2, .int (qI x2)), (4, .int (qI x4)), (5, .int (qI ux5))] []) (h : f_X10_move_B72 x1 x2 x4 x5 M g72 = some (r0, M0)) : WM syM p l e rm_X10_move s m args below meth c 6 D ad cA (MQ below (q_Post syM D ad cA (some (.int (qI r0))) M0) args s 0 0 (q_A syM ad)) M 72 [(0, .ref (ad 0)), (1, .int (qI x1)), (2, .int (qI x2)), (4, .int (qI x4)), (5, .int (qI x5))] [] := by
  unfold f_X10_move_B72 at h
  refine r_il C dX10_move_72 (k := 4) rfl ?_
  refine r_iln C dX10_move_74 (k := 2) rfl ?_
  refine r_ceq C (tgt := 105) dX10_move_75 (by decide) h (fun h => ?_) (fun h => ?_)
  · refine r_aln C dX10_move_105 (k := 0) rfl ?_
    refine r_gs C km_0 clX10 (f := 38) (by decide) rfl (t := 70) rfl tf_RX10_81 dX10_move_106 ?_
    refine r_iln C dX10_move_109 (k := 2) rfl ?_
    refine r_iln C dX10_move_110 (k := 1) rfl ?_
    refine r_iast C km_70 dX10_move_111 h (fun M1 h => ?_)
    refine r_ic C dX10_move_112 ?_
    exact r_zret C (by decide) hr hlk dX10_move_113 h
  · refine r_aln C dX10_move_78 (k := 0) rfl ?_
    refine r_gs C km_0 clX10 (f := 38) (by decide) rfl (t := 70) rfl tf_RX10_81 dX10_move_79 ?_
    refine r_il C dX10_move_82 (k := 4) rfl ?_
    refine r_aln C dX10_move_84 (k := 0) rfl ?_
    refine r_gs C km_0 clX10 (f := 38) (by decide) rfl (t := 70) rfl tf_RX10_81 dX10_move_85 ?_
    refine r_il C dX10_move_88 (k := 4) rfl ?_
    refine r_il C dX10_move_90 (k := 3) rfl ?_
    refine r_iadd C dX10_move_92 ?_
    refine r_iald C km_70 dX10_move_93 h (fun v2 h => ?_)
    refine r_iast C km_70 dX10_move_94 h (fun M3 h => ?_)
    refine r_il C dX10_move_95 (k := 4) rfl ?_
    refine r_il C dX10_move_97 (k := 3) rfl ?_
    refine r_iadd C dX10_move_99 ?_
    refine r_is C (L1 := [(5, .int (qI (x5 + x4))), (0, .ref (ad 0)), (1, .int (qI x1)), (2, .int (qI x2)), (4, .int (qI x4))]) dX10_move_100 (by decide) rfl ?_
    refine r_goto C (tgt := 72) dX10_move_102 (by decide) ?_
    refine r_drop [1, 2, 3, 4, 0] rfl ?_
    exact ih72 (x5 + x4) M3 h
theorem w_X10_move_L72 (C : Cx syM p m c cX10_move 6 s args RX10 D ad cA) (hr : meth.sig.returnType = (some .boolean)) (hlk : meth.locks = false)  (x1 : Int) (x2 : Int) (x4 : Int)  (n : Nat) (x5 : Int) (M : Mem) (h : f_X10_move_L72 x1 x2 x4 n x5 M = some (r0, M0)) : WM syM p l e rm_X10_move s m args below meth c 6 D ad cA (MQ below (q_Post syM D ad cA (some (.int (qI r0))) M0) args s 0 0 (q_A syM ad)) M 72 [(0, .ref (ad 0)), (1, .int (qI x1)), (2, .int (qI x2)), (4, .int (qI x4)), (5, .int (qI x5))] [] :=
  qlm1_r (Wp := fun ux5 M => WM syM p l e rm_X10_move s m args below meth c 6 D ad cA (MQ below (q_Post syM D ad cA (some (.int (qI r0))) M0) args s 0 0 (q_A syM ad)) M 72 [(0, .ref (ad 0)), (1, .int (qI x1)), (2, .int (qI x2)), (4, .int (qI x4)), (5, .int (qI ux5))] []) (fun ux5 M g72 ih72 h => w_X10_move_B72 C hr hlk x1 x2 x4 ux5 M g72  ih72 h) n x5 M h
def f_X10_move_J67 (x1 : Int) (x2 : Int) (x3 : Int) (y0 : Int) (M : Mem) : Res :=
  f_X10_move_L72 x1 x2 y0 q_N x3 M
theorem w_X10_move_J67 (C : Cx syM p m c cX10_move 6 s args RX10 D ad cA) (hr : meth.sig.returnType = (some .boolean)) (hlk : meth.locks = false) (x1 : Int) (x2 : Int) (x3 : Int) (y0 : Int) (M : Mem)  (h : f_X10_move_J67 x1 x2 x3 y0 M = some (r0, M0)) : WM syM p l e rm_X10_move s m args below meth c 6 D ad cA (MQ below (q_Post syM D ad cA (some (.int (qI r0))) M0) args s 0 0 (q_A syM ad)) M 67 [(0, .ref (ad 0)), (1, .int (qI x1)), (2, .int (qI x2)), (3, .int (qI x3))] [.int (qI y0)] := by
  unfold f_X10_move_J67 at h
  refine r_is C (L1 := [(4, .int (qI y0)), (0, .ref (ad 0)), (1, .int (qI x1)), (2, .int (qI x2)), (3, .int (qI x3))]) dX10_move_67 (by decide) rfl ?_
  refine r_iln C dX10_move_69 (k := 4) rfl ?_
  refine r_is C (L1 := [(5, .int (qI x3)), (4, .int (qI y0)), (0, .ref (ad 0)), (1, .int (qI x1)), (2, .int (qI x2)), (3, .int (qI x3))]) dX10_move_70 (by decide) rfl ?_
  refine r_drop [2, 3, 4, 1, 0] rfl ?_
  exact w_X10_move_L72 C hr hlk x1 x2 y0  q_N x3 M h
def f_X10_move (a0 : Int) (a1 : Int) (M : Mem) : Res :=
  q_pf M 0 0 0 fun M1 =>
  q_calp (f_X10_isSoul a0 M1) fun r2 =>
  if w32 r2 = 0 then (some (0, M1))
  else (q_al M1 71 184 a0 fun v3 =>
  if ¬ w32 v3 = w32 1 then (some (0, M1))
  else (if w32 a1 < 0 then (some (0, M1))
  else (q_al M1 69 23 0 fun v4 =>
  if w32 a1 < w32 v4 then (q_calp (f_X10_placeOf 0 a0 M1) fun r5 =>
  if ¬ w32 r5 = w32 a1 then (q_call (f_X10_keepNow  M1) fun r6 M7 =>
  if w32 a1 ≤ w32 r5 then (f_X10_move_J67 a0 a1 r5 (-1) M7)
  else (f_X10_move_J67 a0 a1 r5 1 M7))
  else (some (0, M1)))
  else (some (0, M1)))))
theorem c_X10_move {l : Launch} {D : va_G} {ad : Nat → Nat} {cA : Nat → ClassId} (hi : q_inj syM ad) (a0 : Int) (a1 : Int) (M : Mem) (r0 : Int) (M0 : Mem) (h : f_X10_move a0 a1 M = some (r0, M0)) : q_Met l syM D ad cA yX10_move cX10_move 6 (some .boolean) rm_X10_move [.ref (ad 0), .int (qI a0), .int (qI a1)] M (some (.int (qI r0))) M0 := by
  refine q_met (L0 := [(0, .ref (ad 0)), (1, .int (qI a0)), (2, .int (qI a1))]) hi okM (by decide) (Nat.le_of_ble_eq_true rfl) rfl ?_
  intro p e s m args below meth c C hr hlk
  unfold f_X10_move at h
  refine r_aln C dX10_move_0 (k := 0) rfl ?_
  refine r_ic C dX10_move_1 ?_
  refine r_pf C km_0 clX10 (f := 0) (by decide) rfl q_dI rfl rfl tf_RX10_142 dX10_move_2 h (fun M1 h => ?_)
  refine r_aln C dX10_move_5 (k := 0) rfl ?_
  refine r_iln C dX10_move_6 (k := 1) rfl ?_
  obtain ⟨r2, hy, h⟩ := q_calp_some h
  refine r_cvi C (st := []) (c_X10_isSoul C.2.2.1 a0 M1 r2 hy) tm_RX10_411 mw_X10_isSoul ⟨rfl, rfl⟩ ⟨Nat.le_of_ble_eq_true rfl, Nat.le_of_ble_eq_true rfl⟩ km_0 clX10 rfl rfl (Nat.le_of_ble_eq_true rfl) dX10_move_7 ?_
  refine r_zeq C (tgt := 37) dX10_move_10 (by decide) h (fun h => ?_) (fun h => ?_)
  · refine r_ic C dX10_move_37 ?_
    exact r_zret C (by decide) hr hlk dX10_move_38 h
  · refine r_aln C dX10_move_13 (k := 0) rfl ?_
    refine r_gs C km_0 clX10 (f := 39) (by decide) rfl (t := 71) rfl tf_RX10_84 dX10_move_14 ?_
    refine r_iln C dX10_move_17 (k := 1) rfl ?_
    refine r_iald C km_71 dX10_move_18 h (fun v3 h => ?_)
    refine r_ic C dX10_move_19 ?_
    refine r_cne C (tgt := 37) dX10_move_20 (by decide) h (fun h => ?_) (fun h => ?_)
    · refine r_ic C dX10_move_37 ?_
      exact r_zret C (by decide) hr hlk dX10_move_38 h
    · refine r_iln C dX10_move_23 (k := 2) rfl ?_
      refine r_zlt C (tgt := 37) dX10_move_24 (by decide) h (fun h => ?_) (fun h => ?_)
      · refine r_ic C dX10_move_37 ?_
        exact r_zret C (by decide) hr hlk dX10_move_38 h
      · refine r_iln C dX10_move_27 (k := 2) rfl ?_
        refine r_aln C dX10_move_28 (k := 0) rfl ?_
        refine r_gs C km_0 clX10 (f := 37) (by decide) rfl (t := 69) rfl tf_RX10_78 dX10_move_29 ?_
        refine r_ic C dX10_move_32 ?_
        refine r_iald C km_69 dX10_move_33 h (fun v4 h => ?_)
        refine r_clt C (tgt := 39) dX10_move_34 (by decide) h (fun h => ?_) (fun h => ?_)
        · refine r_aln C dX10_move_39 (k := 0) rfl ?_
          refine r_ic C dX10_move_40 ?_
          refine r_iln C dX10_move_41 (k := 1) rfl ?_
          obtain ⟨r5, hy, h⟩ := q_calp_some h
          refine r_cvi C (st := []) (c_X10_placeOf C.2.2.1 0 a0 M1 r5 hy) tm_RX10_328 mw_X10_placeOf ⟨rfl, rfl⟩ ⟨Nat.le_of_ble_eq_true rfl, Nat.le_of_ble_eq_true rfl⟩ km_0 clX10 rfl rfl (Nat.le_of_ble_eq_true rfl) dX10_move_42 ?_
          refine r_isn C (L1 := [(3, .int (qI r5)), (0, .ref (ad 0)), (1, .int (qI a0)), (2, .int (qI a1))]) dX10_move_45 (by decide) rfl ?_
          refine r_iln C dX10_move_46 (k := 0) rfl ?_
          refine r_iln C dX10_move_47 (k := 3) rfl ?_
          refine r_cne C (tgt := 53) dX10_move_48 (by decide) h (fun h => ?_) (fun h => ?_)
          · refine r_aln C dX10_move_53 (k := 1) rfl ?_
            obtain ⟨r6, M7, hy, h⟩ := q_call_some h
            refine r_cvv C (st := []) (c_X10_keepNow C.2.2.1 M1 r6 M7 hy) tm_RX10_430 mw_X10_keepNow ⟨rfl, rfl⟩ ⟨Nat.le_of_ble_eq_true rfl, Nat.le_of_ble_eq_true rfl⟩ km_0 clX10 rfl rfl (Nat.le_of_ble_eq_true rfl) dX10_move_54 ?_
            refine r_iln C dX10_move_57 (k := 3) rfl ?_
            refine r_iln C dX10_move_58 (k := 0) rfl ?_
            refine r_cle C (tgt := 66) dX10_move_59 (by decide) h (fun h => ?_) (fun h => ?_)
            · refine r_ic C dX10_move_66 ?_
              refine r_drop [1, 2, 3, 0] rfl ?_
              exact w_X10_move_J67 C hr hlk a0 a1 r5 (-1) M7  h
            · refine r_ic C dX10_move_62 ?_
              refine r_goto C (tgt := 67) dX10_move_63 (by decide) ?_
              refine r_drop [1, 2, 3, 0] rfl ?_
              exact w_X10_move_J67 C hr hlk a0 a1 r5 1 M7  h
          · refine r_ic C dX10_move_51 ?_
            exact r_zret C (by decide) hr hlk dX10_move_52 h
        · refine r_ic C dX10_move_37 ?_
          exact r_zret C (by decide) hr hlk dX10_move_38 h
abbrev rm_X10_name : Room := { frames := 0, cells := 0, slots := 0, locals := 0 }
theorem mw_X10_name : q_mw RX10 yX10_name cX10_name 2 none 0 := ⟨⟨ti_X10_name, tl_X10_name, tn_RX10, td_X10_name⟩, by decide +kernel⟩
def f_X10_name_B7  (x1 : Int) (M : Mem) (g7 : Int → Mem → Res) : Res :=
  if w32 6 ≤ w32 x1 then (some (0, M))
  else (q_gf M 0 25 fun v1 =>
  q_gf M 0 23 fun v2 =>
  q_gf M 0 22 fun v3 =>
  if w32 v3 ≤ w32 (v2 + x1) then (q_pf M 0 25 (q_or (q_shl v1 5) 0) fun M4 =>
  g7 (x1 + 1) M4)
  else (q_gf M 0 23 fun v5 =>
  q_al M 33 700 (v5 + x1) fun v6 =>
  q_pf M 0 25 (q_or (q_shl v1 5) ((v6 - 97) + 1)) fun M7 =>
  g7 (x1 + 1) M7))
def f_X10_name_L7  (n : Nat) (x1 : Int) (M : Mem) : Res := qlm1 (fun x1 M g7 => f_X10_name_B7  x1 M g7) n x1 M
theorem w_X10_name_B7 (C : Cx syM p m c cX10_name 2 s args RX10 D ad cA) (hr : meth.sig.returnType = none) (hlk : meth.locks = false)  (x1 : Int) (M : Mem) (g7 : Int → Mem → Res)  (ih7 : ∀ (ux1 : Int) (M : Mem), g7 ux1 M = some (r0, M0) → WM syM p l e rm_X10_name s m args below meth c 2 D ad cA (MQ below (q_Post syM D ad cA none M0) args s 0 0 (q_A syM ad)) M 7 [(0, .ref (ad 0)), (1, .int (qI ux1))] []) (h : f_X10_name_B7  x1 M g7 = some (r0, M0)) : WM syM p l e rm_X10_name s m args below meth c 2 D ad cA (MQ below (q_Post syM D ad cA none M0) args s 0 0 (q_A syM ad)) M 7 [(0, .ref (ad 0)), (1, .int (qI x1))] [] := by
  unfold f_X10_name_B7 at h
  refine r_iln C dX10_name_7 (k := 1) rfl ?_
  refine r_bi C dX10_name_8 (by decide) ?_
  refine r_cge C (tgt := 63) dX10_name_10 (by decide) h (fun h => ?_) (fun h => ?_)
  · exact r_vret C hr hlk dX10_name_63 h
  · refine r_aln C dX10_name_13 (k := 0) rfl ?_
    refine r_aln C dX10_name_14 (k := 0) rfl ?_
    refine r_gf C km_0 clX10 (f := 25) (by decide) rfl rfl rfl tf_RX10_171 dX10_name_15 h (fun v1 h => ?_)
    refine r_ic C dX10_name_18 ?_
    refine r_ishl C dX10_name_19 ?_
    refine r_aln C dX10_name_20 (k := 0) rfl ?_
    refine r_gf C km_0 clX10 (f := 23) (by decide) rfl rfl rfl tf_RX10_158 dX10_name_21 h (fun v2 h => ?_)
    refine r_iln C dX10_name_24 (k := 1) rfl ?_
    refine r_iadd C dX10_name_25 ?_
    refine r_aln C dX10_name_26 (k := 0) rfl ?_
    refine r_gf C km_0 clX10 (f := 22) (by decide) rfl rfl rfl tf_RX10_148 dX10_name_27 h (fun v3 h => ?_)
    refine r_cge C (tgt := 52) dX10_name_30 (by decide) h (fun h => ?_) (fun h => ?_)
    · refine r_ic C dX10_name_52 ?_
      refine r_ior C dX10_name_53 ?_
      refine r_pf C km_0 clX10 (f := 25) (by decide) rfl q_dI rfl rfl tf_RX10_171 dX10_name_54 h (fun M4 h => ?_)
      refine r_inc C (L1 := [(1, .int (qI (x1 + 1))), (0, .ref (ad 0))]) dX10_name_57 (k := 1) rfl (by decide) rfl ?_
      refine r_goto C (tgt := 7) dX10_name_60 (by decide) ?_
      refine r_drop [1, 0] rfl ?_
      exact ih7 (x1 + 1) M4 h
    · refine r_aln C dX10_name_33 (k := 0) rfl ?_
      refine r_gs C km_0 clX10 (f := 1) (by decide) rfl (t := 33) rfl tf_RX10_7 dX10_name_34 ?_
      refine r_aln C dX10_name_37 (k := 0) rfl ?_
      refine r_gf C km_0 clX10 (f := 23) (by decide) rfl rfl rfl tf_RX10_158 dX10_name_38 h (fun v5 h => ?_)
      refine r_iln C dX10_name_41 (k := 1) rfl ?_
      refine r_iadd C dX10_name_42 ?_
      refine r_iald C km_33 dX10_name_43 h (fun v6 h => ?_)
      refine r_bi C dX10_name_44 (by decide) ?_
      refine r_isub C dX10_name_46 ?_
      refine r_ic C dX10_name_47 ?_
      refine r_iadd C dX10_name_48 ?_
      refine r_goto C (tgt := 53) dX10_name_49 (by decide) ?_
      refine r_ior C dX10_name_53 ?_
      refine r_pf C km_0 clX10 (f := 25) (by decide) rfl q_dI rfl rfl tf_RX10_171 dX10_name_54 h (fun M7 h => ?_)
      refine r_inc C (L1 := [(1, .int (qI (x1 + 1))), (0, .ref (ad 0))]) dX10_name_57 (k := 1) rfl (by decide) rfl ?_
      refine r_goto C (tgt := 7) dX10_name_60 (by decide) ?_
      refine r_drop [1, 0] rfl ?_
      exact ih7 (x1 + 1) M7 h
theorem w_X10_name_L7 (C : Cx syM p m c cX10_name 2 s args RX10 D ad cA) (hr : meth.sig.returnType = none) (hlk : meth.locks = false)    (n : Nat) (x1 : Int) (M : Mem) (h : f_X10_name_L7  n x1 M = some (r0, M0)) : WM syM p l e rm_X10_name s m args below meth c 2 D ad cA (MQ below (q_Post syM D ad cA none M0) args s 0 0 (q_A syM ad)) M 7 [(0, .ref (ad 0)), (1, .int (qI x1))] [] :=
  qlm1_r (Wp := fun ux1 M => WM syM p l e rm_X10_name s m args below meth c 2 D ad cA (MQ below (q_Post syM D ad cA none M0) args s 0 0 (q_A syM ad)) M 7 [(0, .ref (ad 0)), (1, .int (qI ux1))] []) (fun ux1 M g7 ih7 h => w_X10_name_B7 C hr hlk  ux1 M g7  ih7 h) n x1 M h
def f_X10_name  (M : Mem) : Res :=
  q_pf M 0 25 0 fun M1 =>
  f_X10_name_L7  q_N 0 M1
theorem c_X10_name {l : Launch} {D : va_G} {ad : Nat → Nat} {cA : Nat → ClassId} (hi : q_inj syM ad)  (M : Mem) (r0 : Int) (M0 : Mem) (h : f_X10_name  M = some (r0, M0)) : q_Met l syM D ad cA yX10_name cX10_name 2 none rm_X10_name [.ref (ad 0)] M none M0 := by
  refine q_met (L0 := [(0, .ref (ad 0))]) hi okM (by decide) (Nat.le_of_ble_eq_true rfl) rfl ?_
  intro p e s m args below meth c C hr hlk
  unfold f_X10_name at h
  refine r_aln C dX10_name_0 (k := 0) rfl ?_
  refine r_ic C dX10_name_1 ?_
  refine r_pf C km_0 clX10 (f := 25) (by decide) rfl q_dI rfl rfl tf_RX10_171 dX10_name_2 h (fun M1 h => ?_)
  refine r_ic C dX10_name_5 ?_
  refine r_isn C (L1 := [(1, .int (qI 0)), (0, .ref (ad 0))]) dX10_name_6 (by decide) rfl ?_
  refine r_drop [1, 0] rfl ?_
  exact w_X10_name_L7 C hr hlk   q_N 0 M1 h
abbrev rm_X10_named : Room := { frames := 1, cells := 0, slots := 0, locals := 24 }
theorem mw_X10_named : q_mw RX10 yX10_named cX10_named 3 (some .int) 2 := ⟨⟨ti_X10_named, tl_X10_named, tn_RX10, td_X10_named⟩, by decide +kernel⟩
def f_X10_named (a0 : Int) (a1 : Int) (M : Mem) : Res :=
  q_pf M 0 0 0 fun M1 =>
  if w32 a0 = 0 then (q_al M1 35 14 0 fun v2 =>
  q_calp (f_X10_found 36 16 0 v2 a1 M1) fun r3 =>
  some (r3, M1))
  else if w32 a0 = 1 then (q_al M1 35 14 1 fun v4 =>
  q_calp (f_X10_found 40 8 0 v4 a1 M1) fun r5 =>
  some (r5, M1))
  else (some ((-1), M1))
theorem c_X10_named {l : Launch} {D : va_G} {ad : Nat → Nat} {cA : Nat → ClassId} (hi : q_inj syM ad) (a0 : Int) (a1 : Int) (M : Mem) (r0 : Int) (M0 : Mem) (h : f_X10_named a0 a1 M = some (r0, M0)) : q_Met l syM D ad cA yX10_named cX10_named 3 (some .int) rm_X10_named [.ref (ad 0), .int (qI a0), .int (qI a1)] M (some (.int (qI r0))) M0 := by
  refine q_met (L0 := [(0, .ref (ad 0)), (1, .int (qI a0)), (2, .int (qI a1))]) hi okM (by decide) (Nat.le_of_ble_eq_true rfl) rfl ?_
  intro p e s m args below meth c C hr hlk
  unfold f_X10_named at h
  refine r_aln C dX10_named_0 (k := 0) rfl ?_
  refine r_ic C dX10_named_1 ?_
  refine r_pf C km_0 clX10 (f := 0) (by decide) rfl q_dI rfl rfl tf_RX10_142 dX10_named_2 h (fun M1 h => ?_)
  refine r_iln C dX10_named_5 (k := 1) rfl ?_
  refine r_tc C h (fun e h => ?_) (fun ne0 h => ?_)
  · refine r_lk C (tgt := 32) dX10_named_6 (by decide) e rfl (by decide) ?_
    refine r_aln C dX10_named_32 (k := 0) rfl ?_
    refine r_gs C km_0 clX10 (f := 4) (by decide) rfl (t := 36) rfl tf_RX10_16 dX10_named_33 ?_
    refine r_ic C dX10_named_36 ?_
    refine r_aln C dX10_named_37 (k := 0) rfl ?_
    refine r_gs C km_0 clX10 (f := 3) (by decide) rfl (t := 35) rfl tf_RX10_13 dX10_named_38 ?_
    refine r_ic C dX10_named_41 ?_
    refine r_iald C km_35 dX10_named_42 h (fun v2 h => ?_)
    refine r_iln C dX10_named_43 (k := 2) rfl ?_
    obtain ⟨r3, hy, h⟩ := q_calp_some h
    refine r_csi C (st := []) (c_X10_found C.2.2.1 36 16 km_36 0 v2 a1 M1 r3 hy) tm_RX10_208 mw_X10_found ⟨rfl, rfl⟩ ⟨Nat.le_of_ble_eq_true rfl, Nat.le_of_ble_eq_true rfl⟩ rfl rfl (Nat.le_of_ble_eq_true rfl) dX10_named_44 ?_
    exact r_iret C hr hlk dX10_named_47 h
  refine r_tc C h (fun e h => ?_) (fun ne1 h => ?_)
  · refine r_lk C (tgt := 48) dX10_named_6 (by decide) e rfl (by decide) ?_
    refine r_aln C dX10_named_48 (k := 0) rfl ?_
    refine r_gs C km_0 clX10 (f := 8) (by decide) rfl (t := 40) rfl tf_RX10_28 dX10_named_49 ?_
    refine r_ic C dX10_named_52 ?_
    refine r_aln C dX10_named_53 (k := 0) rfl ?_
    refine r_gs C km_0 clX10 (f := 3) (by decide) rfl (t := 35) rfl tf_RX10_13 dX10_named_54 ?_
    refine r_ic C dX10_named_57 ?_
    refine r_iald C km_35 dX10_named_58 h (fun v4 h => ?_)
    refine r_iln C dX10_named_59 (k := 2) rfl ?_
    obtain ⟨r5, hy, h⟩ := q_calp_some h
    refine r_csi C (st := []) (c_X10_found C.2.2.1 40 8 km_40 0 v4 a1 M1 r5 hy) tm_RX10_208 mw_X10_found ⟨rfl, rfl⟩ ⟨Nat.le_of_ble_eq_true rfl, Nat.le_of_ble_eq_true rfl⟩ rfl rfl (Nat.le_of_ble_eq_true rfl) dX10_named_60 ?_
    exact r_iret C hr hlk dX10_named_63 h
  refine r_lk C (tgt := 64) (k := w32 a0) dX10_named_6 (by decide) rfl (off := 58) (by simp only [Op.lookupswitch.offset]; rw [if_neg (fun q => ne0 q.symm)]; rw [if_neg (fun q => ne1 q.symm)]) (by decide) ?_
  refine r_ic C dX10_named_64 ?_
  exact r_iret C hr hlk dX10_named_65 h
abbrev rm_X10_next : Room := { frames := 2, cells := 0, slots := 0, locals := 43 }
theorem mw_X10_next : q_mw RX10 yX10_next cX10_next 3 (some .int) 1 := ⟨⟨ti_X10_next, tl_X10_next, tn_RX10, td_X10_next⟩, by decide +kernel⟩
def f_X10_next_B17 (x1 : Int) (M : Mem) (x2 : Int) (g17 : Int → Res) : Res :=
  q_al M 67 23 0 fun v1 =>
  q_calp (f_X10_isComing x1 (v1 + x2) M) fun r2 =>
  if ¬ w32 r2 = 0 then (some (x2, M))
  else (g17 (x2 + 1))
def f_X10_next_L17 (x1 : Int) (M : Mem) (n : Nat) (x2 : Int) : Res := qlp1 (fun x2 g17 => f_X10_next_B17 x1 M x2 g17) n x2
theorem w_X10_next_B17 (C : Cx syM p m c cX10_next 3 s args RX10 D ad cA) (hr : meth.sig.returnType = (some .int)) (hlk : meth.locks = false)  (x1 : Int) (x2 : Int) (M : Mem) (g17 : Int → Res)  (ih17 : ∀ (ux2 : Int) , g17 ux2  = some (r0, M0) → WM syM p l e rm_X10_next s m args below meth c 3 D ad cA (MQ below (q_Post syM D ad cA (some (.int (qI r0))) M0) args s 0 0 (q_A syM ad)) M 17 [(0, .ref (ad 0)), (1, .int (qI x1)), (2, .int (qI ux2))] []) (h : f_X10_next_B17 x1 M x2 g17 = some (r0, M0)) : WM syM p l e rm_X10_next s m args below meth c 3 D ad cA (MQ below (q_Post syM D ad cA (some (.int (qI r0))) M0) args s 0 0 (q_A syM ad)) M 17 [(0, .ref (ad 0)), (1, .int (qI x1)), (2, .int (qI x2))] [] := by
  unfold f_X10_next_B17 at h
  refine r_aln C dX10_next_17 (k := 0) rfl ?_
  refine r_iln C dX10_next_18 (k := 1) rfl ?_
  refine r_aln C dX10_next_19 (k := 0) rfl ?_
  refine r_gs C km_0 clX10 (f := 35) (by decide) rfl (t := 67) rfl tf_RX10_72 dX10_next_20 ?_
  refine r_ic C dX10_next_23 ?_
  refine r_iald C km_67 dX10_next_24 h (fun v1 h => ?_)
  refine r_iln C dX10_next_25 (k := 2) rfl ?_
  refine r_iadd C dX10_next_26 ?_
  obtain ⟨r2, hy, h⟩ := q_calp_some h
  refine r_cvi C (st := []) (c_X10_isComing C.2.2.1 x1 (v1 + x2) M r2 hy) tm_RX10_388 mw_X10_isComing ⟨rfl, rfl⟩ ⟨Nat.le_of_ble_eq_true rfl, Nat.le_of_ble_eq_true rfl⟩ km_0 clX10 rfl rfl (Nat.le_of_ble_eq_true rfl) dX10_next_27 ?_
  refine r_zne C (tgt := 39) dX10_next_30 (by decide) h (fun h => ?_) (fun h => ?_)
  · refine r_iln C dX10_next_39 (k := 2) rfl ?_
    exact r_iret C hr hlk dX10_next_40 h
  · refine r_inc C (L1 := [(2, .int (qI (x2 + 1))), (0, .ref (ad 0)), (1, .int (qI x1))]) dX10_next_33 (k := 2) rfl (by decide) rfl ?_
    refine r_goto C (tgt := 17) dX10_next_36 (by decide) ?_
    refine r_drop [1, 2, 0] rfl ?_
    exact ih17 (x2 + 1)  h
theorem w_X10_next_L17 (C : Cx syM p m c cX10_next 3 s args RX10 D ad cA) (hr : meth.sig.returnType = (some .int)) (hlk : meth.locks = false)  (x1 : Int) (M : Mem)  (n : Nat) (x2 : Int) (h : f_X10_next_L17 x1 M n x2 = some (r0, M0)) : WM syM p l e rm_X10_next s m args below meth c 3 D ad cA (MQ below (q_Post syM D ad cA (some (.int (qI r0))) M0) args s 0 0 (q_A syM ad)) M 17 [(0, .ref (ad 0)), (1, .int (qI x1)), (2, .int (qI x2))] [] :=
  qlp1_r (Wp := fun ux2 => WM syM p l e rm_X10_next s m args below meth c 3 D ad cA (MQ below (q_Post syM D ad cA (some (.int (qI r0))) M0) args s 0 0 (q_A syM ad)) M 17 [(0, .ref (ad 0)), (1, .int (qI x1)), (2, .int (qI ux2))] []) (fun ux2 g17 ih17 h => w_X10_next_B17 C hr hlk x1 ux2 M g17  ih17 h) n x2 h
def f_X10_next (a0 : Int) (M : Mem) : Res :=
  q_pf M 0 0 0 fun M1 =>
  q_calp (f_X10_isBus a0 M1) fun r2 =>
  if ¬ w32 r2 = 0 then (f_X10_next_L17 a0 M1 q_N 0)
  else (some ((-1), M1))
theorem c_X10_next {l : Launch} {D : va_G} {ad : Nat → Nat} {cA : Nat → ClassId} (hi : q_inj syM ad) (a0 : Int) (M : Mem) (r0 : Int) (M0 : Mem) (h : f_X10_next a0 M = some (r0, M0)) : q_Met l syM D ad cA yX10_next cX10_next 3 (some .int) rm_X10_next [.ref (ad 0), .int (qI a0)] M (some (.int (qI r0))) M0 := by
  refine q_met (L0 := [(0, .ref (ad 0)), (1, .int (qI a0))]) hi okM (by decide) (Nat.le_of_ble_eq_true rfl) rfl ?_
  intro p e s m args below meth c C hr hlk
  unfold f_X10_next at h
  refine r_aln C dX10_next_0 (k := 0) rfl ?_
  refine r_ic C dX10_next_1 ?_
  refine r_pf C km_0 clX10 (f := 0) (by decide) rfl q_dI rfl rfl tf_RX10_142 dX10_next_2 h (fun M1 h => ?_)
  refine r_aln C dX10_next_5 (k := 0) rfl ?_
  refine r_iln C dX10_next_6 (k := 1) rfl ?_
  obtain ⟨r2, hy, h⟩ := q_calp_some h
  refine r_cvi C (st := []) (c_X10_isBus C.2.2.1 a0 M1 r2 hy) tm_RX10_420 mw_X10_isBus ⟨rfl, rfl⟩ ⟨Nat.le_of_ble_eq_true rfl, Nat.le_of_ble_eq_true rfl⟩ km_0 clX10 rfl rfl (Nat.le_of_ble_eq_true rfl) dX10_next_7 ?_
  refine r_zne C (tgt := 15) dX10_next_10 (by decide) h (fun h => ?_) (fun h => ?_)
  · refine r_ic C dX10_next_15 ?_
    refine r_isn C (L1 := [(2, .int (qI 0)), (0, .ref (ad 0)), (1, .int (qI a0))]) dX10_next_16 (by decide) rfl ?_
    refine r_drop [1, 2, 0] rfl ?_
    exact w_X10_next_L17 C hr hlk a0 M1  q_N 0 h
  · refine r_ic C dX10_next_13 ?_
    exact r_iret C hr hlk dX10_next_14 h
abbrev rm_X10_off : Room := { frames := 2, cells := 0, slots := 0, locals := 48 }
theorem mw_X10_off : q_mw RX10 yX10_off cX10_off 2 (some .int) 1 := ⟨⟨ti_X10_off, tl_X10_off, tn_RX10, td_X10_off⟩, by decide +kernel⟩
def f_X10_off (a0 : Int) (M : Mem) : Res :=
  q_pf M 0 0 0 fun M1 =>
  q_calp (f_X10_isSoul a0 M1) fun r2 =>
  if w32 r2 = 0 then (some ((-1), M1))
  else (q_al M1 71 184 a0 fun v3 =>
  if w32 v3 = w32 1 then (q_call (f_X10_keepNow  M1) fun r4 M5 =>
  q_call (f_X10_leaves 0 a0 3 M5) fun r6 M7 =>
  q_al M7 69 23 0 fun v8 =>
  some (v8, M7))
  else (some ((-1), M1)))
theorem c_X10_off {l : Launch} {D : va_G} {ad : Nat → Nat} {cA : Nat → ClassId} (hi : q_inj syM ad) (a0 : Int) (M : Mem) (r0 : Int) (M0 : Mem) (h : f_X10_off a0 M = some (r0, M0)) : q_Met l syM D ad cA yX10_off cX10_off 2 (some .int) rm_X10_off [.ref (ad 0), .int (qI a0)] M (some (.int (qI r0))) M0 := by
  refine q_met (L0 := [(0, .ref (ad 0)), (1, .int (qI a0))]) hi okM (by decide) (Nat.le_of_ble_eq_true rfl) rfl ?_
  intro p e s m args below meth c C hr hlk
  unfold f_X10_off at h
  refine r_aln C dX10_off_0 (k := 0) rfl ?_
  refine r_ic C dX10_off_1 ?_
  refine r_pf C km_0 clX10 (f := 0) (by decide) rfl q_dI rfl rfl tf_RX10_142 dX10_off_2 h (fun M1 h => ?_)
  refine r_aln C dX10_off_5 (k := 0) rfl ?_
  refine r_iln C dX10_off_6 (k := 1) rfl ?_
  obtain ⟨r2, hy, h⟩ := q_calp_some h
  refine r_cvi C (st := []) (c_X10_isSoul C.2.2.1 a0 M1 r2 hy) tm_RX10_411 mw_X10_isSoul ⟨rfl, rfl⟩ ⟨Nat.le_of_ble_eq_true rfl, Nat.le_of_ble_eq_true rfl⟩ km_0 clX10 rfl rfl (Nat.le_of_ble_eq_true rfl) dX10_off_7 ?_
  refine r_zeq C (tgt := 23) dX10_off_10 (by decide) h (fun h => ?_) (fun h => ?_)
  · refine r_ic C dX10_off_23 ?_
    exact r_iret C hr hlk dX10_off_24 h
  · refine r_aln C dX10_off_13 (k := 0) rfl ?_
    refine r_gs C km_0 clX10 (f := 39) (by decide) rfl (t := 71) rfl tf_RX10_84 dX10_off_14 ?_
    refine r_iln C dX10_off_17 (k := 1) rfl ?_
    refine r_iald C km_71 dX10_off_18 h (fun v3 h => ?_)
    refine r_ic C dX10_off_19 ?_
    refine r_ceq C (tgt := 25) dX10_off_20 (by decide) h (fun h => ?_) (fun h => ?_)
    · refine r_aln C dX10_off_25 (k := 0) rfl ?_
      obtain ⟨r4, M5, hy, h⟩ := q_call_some h
      refine r_cvv C (st := []) (c_X10_keepNow C.2.2.1 M1 r4 M5 hy) tm_RX10_430 mw_X10_keepNow ⟨rfl, rfl⟩ ⟨Nat.le_of_ble_eq_true rfl, Nat.le_of_ble_eq_true rfl⟩ km_0 clX10 rfl rfl (Nat.le_of_ble_eq_true rfl) dX10_off_26 ?_
      refine r_aln C dX10_off_29 (k := 0) rfl ?_
      refine r_ic C dX10_off_30 ?_
      refine r_iln C dX10_off_31 (k := 1) rfl ?_
      refine r_ic C dX10_off_32 ?_
      obtain ⟨r6, M7, hy, h⟩ := q_call_some h
      refine r_cvv C (st := []) (c_X10_leaves C.2.2.1 0 a0 3 M5 r6 M7 hy) tm_RX10_373 mw_X10_leaves ⟨rfl, rfl⟩ ⟨Nat.le_of_ble_eq_true rfl, Nat.le_of_ble_eq_true rfl⟩ km_0 clX10 rfl rfl (Nat.le_of_ble_eq_true rfl) dX10_off_33 ?_
      refine r_aln C dX10_off_36 (k := 0) rfl ?_
      refine r_gs C km_0 clX10 (f := 37) (by decide) rfl (t := 69) rfl tf_RX10_78 dX10_off_37 ?_
      refine r_ic C dX10_off_40 ?_
      refine r_iald C km_69 dX10_off_41 h (fun v8 h => ?_)
      exact r_iret C hr hlk dX10_off_42 h
    · refine r_ic C dX10_off_23 ?_
      exact r_iret C hr hlk dX10_off_24 h
abbrev rm_X10_orNone : Room := { frames := 0, cells := 0, slots := 0, locals := 0 }
theorem mw_X10_orNone : q_ms yX10_orNone cX10_orNone 1 (some .int) 1 := ⟨⟨ts_X10_orNone, tn_RX10, td_X10_orNone⟩, by decide +kernel⟩
def f_X10_orNone (a0 : Int) (M : Mem) : Option Int :=
  if ¬ w32 a0 = w32 (-1) then (some a0)
  else (some (-2))
theorem c_X10_orNone {l : Launch} {D : va_G} {ad : Nat → Nat} {cA : Nat → ClassId} (hi : q_inj syM ad) (a0 : Int) (M : Mem) (r0 : Int) (h : f_X10_orNone a0 M = some r0) : q_Met l syM D ad cA yX10_orNone cX10_orNone 1 (some .int) rm_X10_orNone [.int (qI a0)] M (some (.int (qI r0))) M := by
  refine q_met (L0 := [(0, .int (qI a0))]) hi okM (by decide) (Nat.le_of_ble_eq_true rfl) rfl ?_
  intro p e s m args below meth c C hr hlk
  unfold f_X10_orNone at h
  refine r_iln C dX10_orNone_0 (k := 0) rfl ?_
  refine r_ic C dX10_orNone_1 ?_
  refine r_cne C (tgt := 10) dX10_orNone_2 (by decide) h (fun h => ?_) (fun h => ?_)
  · refine r_iln C dX10_orNone_10 (k := 0) rfl ?_
    exact r_iretp C hr hlk dX10_orNone_11 h
  · refine r_bi C dX10_orNone_5 (by decide) ?_
    refine r_goto C (tgt := 11) dX10_orNone_7 (by decide) ?_
    exact r_iretp C hr hlk dX10_orNone_11 h
abbrev rm_X10_reads : Room := { frames := 0, cells := 0, slots := 0, locals := 0 }
theorem mw_X10_reads : q_mw RX10 yX10_reads cX10_reads 3 none 2 := ⟨⟨ti_X10_reads, tl_X10_reads, tn_RX10, td_X10_reads⟩, by decide +kernel⟩
def f_X10_reads (a0 : Int) (a1 : Int) (M : Mem) : Res :=
  q_as M 35 14 (7 + a0) a1 fun M1 =>
  some (0, M1)
theorem c_X10_reads {l : Launch} {D : va_G} {ad : Nat → Nat} {cA : Nat → ClassId} (hi : q_inj syM ad) (a0 : Int) (a1 : Int) (M : Mem) (r0 : Int) (M0 : Mem) (h : f_X10_reads a0 a1 M = some (r0, M0)) : q_Met l syM D ad cA yX10_reads cX10_reads 3 none rm_X10_reads [.ref (ad 0), .int (qI a0), .int (qI a1)] M none M0 := by
  refine q_met (L0 := [(0, .ref (ad 0)), (1, .int (qI a0)), (2, .int (qI a1))]) hi okM (by decide) (Nat.le_of_ble_eq_true rfl) rfl ?_
  intro p e s m args below meth c C hr hlk
  unfold f_X10_reads at h
  refine r_aln C dX10_reads_0 (k := 0) rfl ?_
  refine r_gs C km_0 clX10 (f := 3) (by decide) rfl (t := 35) rfl tf_RX10_13 dX10_reads_1 ?_
  refine r_bi C dX10_reads_4 (by decide) ?_
  refine r_iln C dX10_reads_6 (k := 1) rfl ?_
  refine r_iadd C dX10_reads_7 ?_
  refine r_iln C dX10_reads_8 (k := 2) rfl ?_
  refine r_iast C km_35 dX10_reads_9 h (fun M1 h => ?_)
  exact r_vret C hr hlk dX10_reads_10 h
abbrev rm_X10_puts : Room := { frames := 1, cells := 0, slots := 0, locals := 22 }
theorem mw_X10_puts : q_mw RX10 yX10_puts cX10_puts 3 none 2 := ⟨⟨ti_X10_puts, tl_X10_puts, tn_RX10, td_X10_puts⟩, by decide +kernel⟩
def f_X10_puts (a0 : Int) (a1 : Int) (M : Mem) : Res :=
  q_gf M 0 26 fun v1 =>
  if w32 v1 = 0 then (q_calp (f_X10_fresher 6 M) fun r2 =>
  q_as M 49 128 (64 + r2) a0 fun M3 =>
  q_calp (f_X10_fresher 6 M3) fun r4 =>
  q_as M3 50 128 (64 + r4) a1 fun M5 =>
  q_calp (f_X10_fresher 6 M5) fun r6 =>
  q_call (f_X10_reads 6 (r6 + 1) M5) fun r7 M8 =>
  some (0, M8))
  else (some (0, M))
theorem c_X10_puts {l : Launch} {D : va_G} {ad : Nat → Nat} {cA : Nat → ClassId} (hi : q_inj syM ad) (a0 : Int) (a1 : Int) (M : Mem) (r0 : Int) (M0 : Mem) (h : f_X10_puts a0 a1 M = some (r0, M0)) : q_Met l syM D ad cA yX10_puts cX10_puts 3 none rm_X10_puts [.ref (ad 0), .int (qI a0), .int (qI a1)] M none M0 := by
  refine q_met (L0 := [(0, .ref (ad 0)), (1, .int (qI a0)), (2, .int (qI a1))]) hi okM (by decide) (Nat.le_of_ble_eq_true rfl) rfl ?_
  intro p e s m args below meth c C hr hlk
  unfold f_X10_puts at h
  refine r_aln C dX10_puts_0 (k := 0) rfl ?_
  refine r_gf C km_0 clX10 (f := 26) (by decide) rfl rfl rfl tf_RX10_196 dX10_puts_1 h (fun v1 h => ?_)
  refine r_zeq C (tgt := 8) dX10_puts_4 (by decide) h (fun h => ?_) (fun h => ?_)
  · refine r_aln C dX10_puts_8 (k := 0) rfl ?_
    refine r_gs C km_0 clX10 (f := 17) (by decide) rfl (t := 49) rfl tf_RX10_55 dX10_puts_9 ?_
    refine r_bi C dX10_puts_12 (by decide) ?_
    refine r_aln C dX10_puts_14 (k := 0) rfl ?_
    refine r_bi C dX10_puts_15 (by decide) ?_
    obtain ⟨r2, hy, h⟩ := q_calp_some h
    refine r_cvi C (st := [.int (qI 64), .ref (ad 49)]) (c_X10_fresher C.2.2.1 6 M r2 hy) tm_RX10_212 mw_X10_fresher ⟨rfl, rfl⟩ ⟨Nat.le_of_ble_eq_true rfl, Nat.le_of_ble_eq_true rfl⟩ km_0 clX10 rfl rfl (Nat.le_of_ble_eq_true rfl) dX10_puts_17 ?_
    refine r_iadd C dX10_puts_20 ?_
    refine r_iln C dX10_puts_21 (k := 1) rfl ?_
    refine r_iast C km_49 dX10_puts_22 h (fun M3 h => ?_)
    refine r_aln C dX10_puts_23 (k := 0) rfl ?_
    refine r_gs C km_0 clX10 (f := 18) (by decide) rfl (t := 50) rfl tf_RX10_58 dX10_puts_24 ?_
    refine r_bi C dX10_puts_27 (by decide) ?_
    refine r_aln C dX10_puts_29 (k := 0) rfl ?_
    refine r_bi C dX10_puts_30 (by decide) ?_
    obtain ⟨r4, hy, h⟩ := q_calp_some h
    refine r_cvi C (st := [.int (qI 64), .ref (ad 50)]) (c_X10_fresher C.2.2.1 6 M3 r4 hy) tm_RX10_212 mw_X10_fresher ⟨rfl, rfl⟩ ⟨Nat.le_of_ble_eq_true rfl, Nat.le_of_ble_eq_true rfl⟩ km_0 clX10 rfl rfl (Nat.le_of_ble_eq_true rfl) dX10_puts_32 ?_
    refine r_iadd C dX10_puts_35 ?_
    refine r_iln C dX10_puts_36 (k := 2) rfl ?_
    refine r_iast C km_50 dX10_puts_37 h (fun M5 h => ?_)
    refine r_aln C dX10_puts_38 (k := 0) rfl ?_
    refine r_bi C dX10_puts_39 (by decide) ?_
    refine r_aln C dX10_puts_41 (k := 0) rfl ?_
    refine r_bi C dX10_puts_42 (by decide) ?_
    obtain ⟨r6, hy, h⟩ := q_calp_some h
    refine r_cvi C (st := [.int (qI 6), .ref (ad 0)]) (c_X10_fresher C.2.2.1 6 M5 r6 hy) tm_RX10_212 mw_X10_fresher ⟨rfl, rfl⟩ ⟨Nat.le_of_ble_eq_true rfl, Nat.le_of_ble_eq_true rfl⟩ km_0 clX10 rfl rfl (Nat.le_of_ble_eq_true rfl) dX10_puts_44 ?_
    refine r_ic C dX10_puts_47 ?_
    refine r_iadd C dX10_puts_48 ?_
    obtain ⟨r7, M8, hy, h⟩ := q_call_some h
    refine r_cvv C (st := []) (c_X10_reads C.2.2.1 6 (r6 + 1) M5 r7 M8 hy) tm_RX10_230 mw_X10_reads ⟨rfl, rfl⟩ ⟨Nat.le_of_ble_eq_true rfl, Nat.le_of_ble_eq_true rfl⟩ km_0 clX10 rfl rfl (Nat.le_of_ble_eq_true rfl) dX10_puts_49 ?_
    exact r_vret C hr hlk dX10_puts_52 h
  · exact r_vret C hr hlk dX10_puts_7 h
abbrev rm_X10_queue : Room := { frames := 0, cells := 0, slots := 0, locals := 0 }
theorem mw_X10_queue : q_mw RX10 yX10_queue cX10_queue 2 (some .int) 1 := ⟨⟨ti_X10_queue, tl_X10_queue, tn_RX10, td_X10_queue⟩, by decide +kernel⟩
def f_X10_queue (a0 : Int) (M : Mem) : Res :=
  q_pf M 0 0 0 fun M1 =>
  if w32 a0 < 0 then (some ((-1), M1))
  else (if w32 a0 ≤ w32 7 then (q_al M1 69 23 0 fun v2 =>
  if w32 v2 ≤ w32 a0 then (some ((-2), M1))
  else (q_al M1 70 184 a0 fun v3 =>
  some (v3, M1)))
  else (some ((-1), M1)))
theorem c_X10_queue {l : Launch} {D : va_G} {ad : Nat → Nat} {cA : Nat → ClassId} (hi : q_inj syM ad) (a0 : Int) (M : Mem) (r0 : Int) (M0 : Mem) (h : f_X10_queue a0 M = some (r0, M0)) : q_Met l syM D ad cA yX10_queue cX10_queue 2 (some .int) rm_X10_queue [.ref (ad 0), .int (qI a0)] M (some (.int (qI r0))) M0 := by
  refine q_met (L0 := [(0, .ref (ad 0)), (1, .int (qI a0))]) hi okM (by decide) (Nat.le_of_ble_eq_true rfl) rfl ?_
  intro p e s m args below meth c C hr hlk
  unfold f_X10_queue at h
  refine r_aln C dX10_queue_0 (k := 0) rfl ?_
  refine r_ic C dX10_queue_1 ?_
  refine r_pf C km_0 clX10 (f := 0) (by decide) rfl q_dI rfl rfl tf_RX10_142 dX10_queue_2 h (fun M1 h => ?_)
  refine r_iln C dX10_queue_5 (k := 1) rfl ?_
  refine r_zlt C (tgt := 15) dX10_queue_6 (by decide) h (fun h => ?_) (fun h => ?_)
  · refine r_ic C dX10_queue_15 ?_
    exact r_iret C hr hlk dX10_queue_16 h
  · refine r_iln C dX10_queue_9 (k := 1) rfl ?_
    refine r_bi C dX10_queue_10 (by decide) ?_
    refine r_cle C (tgt := 17) dX10_queue_12 (by decide) h (fun h => ?_) (fun h => ?_)
    · refine r_iln C dX10_queue_17 (k := 1) rfl ?_
      refine r_aln C dX10_queue_18 (k := 0) rfl ?_
      refine r_gs C km_0 clX10 (f := 37) (by decide) rfl (t := 69) rfl tf_RX10_78 dX10_queue_19 ?_
      refine r_ic C dX10_queue_22 ?_
      refine r_iald C km_69 dX10_queue_23 h (fun v2 h => ?_)
      refine r_cge C (tgt := 36) dX10_queue_24 (by decide) h (fun h => ?_) (fun h => ?_)
      · refine r_bi C dX10_queue_36 (by decide) ?_
        exact r_iret C hr hlk dX10_queue_38 h
      · refine r_aln C dX10_queue_27 (k := 0) rfl ?_
        refine r_gs C km_0 clX10 (f := 38) (by decide) rfl (t := 70) rfl tf_RX10_81 dX10_queue_28 ?_
        refine r_iln C dX10_queue_31 (k := 1) rfl ?_
        refine r_iald C km_70 dX10_queue_32 h (fun v3 h => ?_)
        refine r_goto C (tgt := 38) dX10_queue_33 (by decide) ?_
        exact r_iret C hr hlk dX10_queue_38 h
    · refine r_ic C dX10_queue_15 ?_
      exact r_iret C hr hlk dX10_queue_16 h
abbrev rm_X10_restOf : Room := { frames := 2, cells := 0, slots := 0, locals := 49 }
theorem mw_X10_restOf : q_mw RX10 yX10_restOf cX10_restOf 6 (some .int) 3 := ⟨⟨ti_X10_restOf, tl_X10_restOf, tn_RX10, td_X10_restOf⟩, by decide +kernel⟩
def f_X10_restOf_B6 (x1 : Int) (x2 : Int) (x3 : Int) (M : Mem) (x4 : Int) (x5 : Int) (g6 : Int → Int → Option Int) : Option Int :=
  if w32 4 ≤ w32 x5 then (if ¬ w32 x3 = w32 (-1) then (some (-2))
  else (some x4))
  else (q_calp (f_X10_isRest x1 x2 x5 M) fun r1 =>
  if ¬ w32 r1 = 0 then (if ¬ w32 x4 = w32 x3 then (g6 (x4 + 1) (x5 + 1))
  else (q_nz 2 <| q_nz 2 <| some ((10 * ((w32 x5).tdiv (w32 2))) + ((w32 x5).tmod (w32 2)))))
  else (g6 x4 (x5 + 1)))
def f_X10_restOf_L6 (x1 : Int) (x2 : Int) (x3 : Int) (M : Mem) (n : Nat) (x4 : Int) (x5 : Int) : Option Int := qlp2 (fun x4 x5 g6 => f_X10_restOf_B6 x1 x2 x3 M x4 x5 g6) n x4 x5
theorem w_X10_restOf_B6 (C : Cx syM p m c cX10_restOf 6 s args RX10 D ad cA) (hr : meth.sig.returnType = (some .int)) (hlk : meth.locks = false)  (x1 : Int) (x2 : Int) (x3 : Int) (x4 : Int) (x5 : Int) (M : Mem) (g6 : Int → Int → Option Int)  (ih6 : ∀ (ux4 ux5 : Int) , g6 ux4 ux5  = some r0 → WM syM p l e rm_X10_restOf s m args below meth c 6 D ad cA (MQ below (q_Post syM D ad cA (some (.int (qI r0))) M) args s 0 0 (q_A syM ad)) M 6 [(0, .ref (ad 0)), (1, .int (qI x1)), (2, .int (qI x2)), (3, .int (qI x3)), (4, .int (qI ux4)), (5, .int (qI ux5))] []) (h : f_X10_restOf_B6 x1 x2 x3 M x4 x5 g6 = some r0) : WM syM p l e rm_X10_restOf s m args below meth c 6 D ad cA (MQ below (q_Post syM D ad cA (some (.int (qI r0))) M) args s 0 0 (q_A syM ad)) M 6 [(0, .ref (ad 0)), (1, .int (qI x1)), (2, .int (qI x2)), (3, .int (qI x3)), (4, .int (qI x4)), (5, .int (qI x5))] [] := by
  unfold f_X10_restOf_B6 at h
  refine r_il C dX10_restOf_6 (k := 5) rfl ?_
  refine r_ic C dX10_restOf_8 ?_
  refine r_cge C (tgt := 54) dX10_restOf_9 (by decide) h (fun h => ?_) (fun h => ?_)
  · refine r_iln C dX10_restOf_54 (k := 3) rfl ?_
    refine r_ic C dX10_restOf_55 ?_
    refine r_cne C (tgt := 64) dX10_restOf_56 (by decide) h (fun h => ?_) (fun h => ?_)
    · refine r_bi C dX10_restOf_64 (by decide) ?_
      exact r_iretp C hr hlk dX10_restOf_66 h
    · refine r_il C dX10_restOf_59 (k := 4) rfl ?_
      refine r_goto C (tgt := 66) dX10_restOf_61 (by decide) ?_
      exact r_iretp C hr hlk dX10_restOf_66 h
  · refine r_aln C dX10_restOf_12 (k := 0) rfl ?_
    refine r_iln C dX10_restOf_13 (k := 1) rfl ?_
    refine r_iln C dX10_restOf_14 (k := 2) rfl ?_
    refine r_il C dX10_restOf_15 (k := 5) rfl ?_
    obtain ⟨r1, hy, h⟩ := q_calp_some h
    refine r_cvi C (st := []) (c_X10_isRest C.2.2.1 x1 x2 x5 M r1 hy) tm_RX10_464 mw_X10_isRest ⟨rfl, rfl⟩ ⟨Nat.le_of_ble_eq_true rfl, Nat.le_of_ble_eq_true rfl⟩ km_0 clX10 rfl rfl (Nat.le_of_ble_eq_true rfl) dX10_restOf_17 ?_
    refine r_zne C (tgt := 26) dX10_restOf_20 (by decide) h (fun h => ?_) (fun h => ?_)
    · refine r_il C dX10_restOf_26 (k := 4) rfl ?_
      refine r_iln C dX10_restOf_28 (k := 3) rfl ?_
      refine r_cne C (tgt := 45) dX10_restOf_29 (by decide) h (fun h => ?_) (fun h => ?_)
      · refine r_inc C (L1 := [(4, .int (qI (x4 + 1))), (0, .ref (ad 0)), (1, .int (qI x1)), (2, .int (qI x2)), (3, .int (qI x3)), (5, .int (qI x5))]) dX10_restOf_45 (k := 4) rfl (by decide) rfl ?_
        refine r_inc C (L1 := [(5, .int (qI (x5 + 1))), (4, .int (qI (x4 + 1))), (0, .ref (ad 0)), (1, .int (qI x1)), (2, .int (qI x2)), (3, .int (qI x3))]) dX10_restOf_48 (k := 5) rfl (by decide) rfl ?_
        refine r_goto C (tgt := 6) dX10_restOf_51 (by decide) ?_
        refine r_drop [2, 3, 4, 5, 1, 0] rfl ?_
        exact ih6 (x4 + 1) (x5 + 1)  h
      · refine r_bi C dX10_restOf_32 (by decide) ?_
        refine r_il C dX10_restOf_34 (k := 5) rfl ?_
        refine r_ic C dX10_restOf_36 ?_
        refine r_idiv C dX10_restOf_37 h (fun h => ?_)
        refine r_imul C dX10_restOf_38 ?_
        refine r_il C dX10_restOf_39 (k := 5) rfl ?_
        refine r_ic C dX10_restOf_41 ?_
        refine r_irem C dX10_restOf_42 h (fun h => ?_)
        refine r_iadd C dX10_restOf_43 ?_
        exact r_iretp C hr hlk dX10_restOf_44 h
    · refine r_goto C (tgt := 48) dX10_restOf_23 (by decide) ?_
      refine r_inc C (L1 := [(5, .int (qI (x5 + 1))), (0, .ref (ad 0)), (1, .int (qI x1)), (2, .int (qI x2)), (3, .int (qI x3)), (4, .int (qI x4))]) dX10_restOf_48 (k := 5) rfl (by decide) rfl ?_
      refine r_goto C (tgt := 6) dX10_restOf_51 (by decide) ?_
      refine r_drop [1, 2, 3, 4, 5, 0] rfl ?_
      exact ih6 x4 (x5 + 1)  h
theorem w_X10_restOf_L6 (C : Cx syM p m c cX10_restOf 6 s args RX10 D ad cA) (hr : meth.sig.returnType = (some .int)) (hlk : meth.locks = false)  (x1 : Int) (x2 : Int) (x3 : Int) (M : Mem)  (n : Nat) (x4 : Int) (x5 : Int) (h : f_X10_restOf_L6 x1 x2 x3 M n x4 x5 = some r0) : WM syM p l e rm_X10_restOf s m args below meth c 6 D ad cA (MQ below (q_Post syM D ad cA (some (.int (qI r0))) M) args s 0 0 (q_A syM ad)) M 6 [(0, .ref (ad 0)), (1, .int (qI x1)), (2, .int (qI x2)), (3, .int (qI x3)), (4, .int (qI x4)), (5, .int (qI x5))] [] :=
  qlp2_r (Wp := fun ux4 ux5 => WM syM p l e rm_X10_restOf s m args below meth c 6 D ad cA (MQ below (q_Post syM D ad cA (some (.int (qI r0))) M) args s 0 0 (q_A syM ad)) M 6 [(0, .ref (ad 0)), (1, .int (qI x1)), (2, .int (qI x2)), (3, .int (qI x3)), (4, .int (qI ux4)), (5, .int (qI ux5))] []) (fun ux4 ux5 g6 ih6 h => w_X10_restOf_B6 C hr hlk x1 x2 x3 ux4 ux5 M g6  ih6 h) n x4 x5 h
def f_X10_restOf (a0 : Int) (a1 : Int) (a2 : Int) (M : Mem) : Option Int :=
  f_X10_restOf_L6 a0 a1 a2 M q_N 0 0
theorem c_X10_restOf {l : Launch} {D : va_G} {ad : Nat → Nat} {cA : Nat → ClassId} (hi : q_inj syM ad) (a0 : Int) (a1 : Int) (a2 : Int) (M : Mem) (r0 : Int) (h : f_X10_restOf a0 a1 a2 M = some r0) : q_Met l syM D ad cA yX10_restOf cX10_restOf 6 (some .int) rm_X10_restOf [.ref (ad 0), .int (qI a0), .int (qI a1), .int (qI a2)] M (some (.int (qI r0))) M := by
  refine q_met (L0 := [(0, .ref (ad 0)), (1, .int (qI a0)), (2, .int (qI a1)), (3, .int (qI a2))]) hi okM (by decide) (Nat.le_of_ble_eq_true rfl) rfl ?_
  intro p e s m args below meth c C hr hlk
  unfold f_X10_restOf at h
  refine r_ic C dX10_restOf_0 ?_
  refine r_is C (L1 := [(4, .int (qI 0)), (0, .ref (ad 0)), (1, .int (qI a0)), (2, .int (qI a1)), (3, .int (qI a2))]) dX10_restOf_1 (by decide) rfl ?_
  refine r_ic C dX10_restOf_3 ?_
  refine r_is C (L1 := [(5, .int (qI 0)), (4, .int (qI 0)), (0, .ref (ad 0)), (1, .int (qI a0)), (2, .int (qI a1)), (3, .int (qI a2))]) dX10_restOf_4 (by decide) rfl ?_
  refine r_drop [2, 3, 4, 5, 1, 0] rfl ?_
  exact w_X10_restOf_L6 C hr hlk a0 a1 a2 M  q_N 0 0 h
abbrev rm_X10_rest : Room := { frames := 3, cells := 0, slots := 0, locals := 74 }
theorem mw_X10_rest : q_mw RX10 yX10_rest cX10_rest 4 (some .int) 3 := ⟨⟨ti_X10_rest, tl_X10_rest, tn_RX10, td_X10_rest⟩, by decide +kernel⟩
def f_X10_rest (a0 : Int) (a1 : Int) (a2 : Int) (M : Mem) : Res :=
  q_pf M 0 0 0 fun M1 =>
  q_calp (f_X10_areTwo a0 a1 M1) fun r2 =>
  if w32 r2 = 0 then (some ((-1), M1))
  else (if w32 a2 < 0 then (some ((-1), M1))
  else (q_calp (f_X10_restOf a0 a1 a2 M1) fun r3 =>
  some (r3, M1)))
theorem c_X10_rest {l : Launch} {D : va_G} {ad : Nat → Nat} {cA : Nat → ClassId} (hi : q_inj syM ad) (a0 : Int) (a1 : Int) (a2 : Int) (M : Mem) (r0 : Int) (M0 : Mem) (h : f_X10_rest a0 a1 a2 M = some (r0, M0)) : q_Met l syM D ad cA yX10_rest cX10_rest 4 (some .int) rm_X10_rest [.ref (ad 0), .int (qI a0), .int (qI a1), .int (qI a2)] M (some (.int (qI r0))) M0 := by
  refine q_met (L0 := [(0, .ref (ad 0)), (1, .int (qI a0)), (2, .int (qI a1)), (3, .int (qI a2))]) hi okM (by decide) (Nat.le_of_ble_eq_true rfl) rfl ?_
  intro p e s m args below meth c C hr hlk
  unfold f_X10_rest at h
  refine r_aln C dX10_rest_0 (k := 0) rfl ?_
  refine r_ic C dX10_rest_1 ?_
  refine r_pf C km_0 clX10 (f := 0) (by decide) rfl q_dI rfl rfl tf_RX10_142 dX10_rest_2 h (fun M1 h => ?_)
  refine r_aln C dX10_rest_5 (k := 0) rfl ?_
  refine r_iln C dX10_rest_6 (k := 1) rfl ?_
  refine r_iln C dX10_rest_7 (k := 2) rfl ?_
  obtain ⟨r2, hy, h⟩ := q_calp_some h
  refine r_cvi C (st := []) (c_X10_areTwo C.2.2.1 a0 a1 M1 r2 hy) tm_RX10_467 mw_X10_areTwo ⟨rfl, rfl⟩ ⟨Nat.le_of_ble_eq_true rfl, Nat.le_of_ble_eq_true rfl⟩ km_0 clX10 rfl rfl (Nat.le_of_ble_eq_true rfl) dX10_rest_8 ?_
  refine r_zeq C (tgt := 28) dX10_rest_11 (by decide) h (fun h => ?_) (fun h => ?_)
  · refine r_ic C dX10_rest_28 ?_
    exact r_iret C hr hlk dX10_rest_29 h
  · refine r_iln C dX10_rest_14 (k := 3) rfl ?_
    refine r_zlt C (tgt := 28) dX10_rest_15 (by decide) h (fun h => ?_) (fun h => ?_)
    · refine r_ic C dX10_rest_28 ?_
      exact r_iret C hr hlk dX10_rest_29 h
    · refine r_aln C dX10_rest_18 (k := 0) rfl ?_
      refine r_iln C dX10_rest_19 (k := 1) rfl ?_
      refine r_iln C dX10_rest_20 (k := 2) rfl ?_
      refine r_iln C dX10_rest_21 (k := 3) rfl ?_
      obtain ⟨r3, hy, h⟩ := q_calp_some h
      refine r_cvi C (st := []) (c_X10_restOf C.2.2.1 a0 a1 a2 M1 r3 hy) tm_RX10_470 mw_X10_restOf ⟨rfl, rfl⟩ ⟨Nat.le_of_ble_eq_true rfl, Nat.le_of_ble_eq_true rfl⟩ km_0 clX10 rfl rfl (Nat.le_of_ble_eq_true rfl) dX10_rest_22 ?_
      refine r_goto C (tgt := 29) dX10_rest_25 (by decide) ?_
      exact r_iret C hr hlk dX10_rest_29 h
abbrev rm_X10_rests : Room := { frames := 3, cells := 0, slots := 0, locals := 74 }
theorem mw_X10_rests : q_mw RX10 yX10_rests cX10_rests 3 (some .int) 2 := ⟨⟨ti_X10_rests, tl_X10_rests, tn_RX10, td_X10_rests⟩, by decide +kernel⟩
def f_X10_rests (a0 : Int) (a1 : Int) (M : Mem) : Res :=
  q_pf M 0 0 0 fun M1 =>
  q_calp (f_X10_areTwo a0 a1 M1) fun r2 =>
  if w32 r2 = 0 then (some ((-1), M1))
  else (q_calp (f_X10_restOf a0 a1 (-1) M1) fun r3 =>
  some (r3, M1))
theorem c_X10_rests {l : Launch} {D : va_G} {ad : Nat → Nat} {cA : Nat → ClassId} (hi : q_inj syM ad) (a0 : Int) (a1 : Int) (M : Mem) (r0 : Int) (M0 : Mem) (h : f_X10_rests a0 a1 M = some (r0, M0)) : q_Met l syM D ad cA yX10_rests cX10_rests 3 (some .int) rm_X10_rests [.ref (ad 0), .int (qI a0), .int (qI a1)] M (some (.int (qI r0))) M0 := by
  refine q_met (L0 := [(0, .ref (ad 0)), (1, .int (qI a0)), (2, .int (qI a1))]) hi okM (by decide) (Nat.le_of_ble_eq_true rfl) rfl ?_
  intro p e s m args below meth c C hr hlk
  unfold f_X10_rests at h
  refine r_aln C dX10_rests_0 (k := 0) rfl ?_
  refine r_ic C dX10_rests_1 ?_
  refine r_pf C km_0 clX10 (f := 0) (by decide) rfl q_dI rfl rfl tf_RX10_142 dX10_rests_2 h (fun M1 h => ?_)
  refine r_aln C dX10_rests_5 (k := 0) rfl ?_
  refine r_iln C dX10_rests_6 (k := 1) rfl ?_
  refine r_iln C dX10_rests_7 (k := 2) rfl ?_
  obtain ⟨r2, hy, h⟩ := q_calp_some h
  refine r_cvi C (st := []) (c_X10_areTwo C.2.2.1 a0 a1 M1 r2 hy) tm_RX10_467 mw_X10_areTwo ⟨rfl, rfl⟩ ⟨Nat.le_of_ble_eq_true rfl, Nat.le_of_ble_eq_true rfl⟩ km_0 clX10 rfl rfl (Nat.le_of_ble_eq_true rfl) dX10_rests_8 ?_
  refine r_zeq C (tgt := 24) dX10_rests_11 (by decide) h (fun h => ?_) (fun h => ?_)
  · refine r_ic C dX10_rests_24 ?_
    exact r_iret C hr hlk dX10_rests_25 h
  · refine r_aln C dX10_rests_14 (k := 0) rfl ?_
    refine r_iln C dX10_rests_15 (k := 1) rfl ?_
    refine r_iln C dX10_rests_16 (k := 2) rfl ?_
    refine r_ic C dX10_rests_17 ?_
    obtain ⟨r3, hy, h⟩ := q_calp_some h
    refine r_cvi C (st := []) (c_X10_restOf C.2.2.1 a0 a1 (-1) M1 r3 hy) tm_RX10_470 mw_X10_restOf ⟨rfl, rfl⟩ ⟨Nat.le_of_ble_eq_true rfl, Nat.le_of_ble_eq_true rfl⟩ km_0 clX10 rfl rfl (Nat.le_of_ble_eq_true rfl) dX10_rests_18 ?_
    refine r_goto C (tgt := 25) dX10_rests_21 (by decide) ?_
    exact r_iret C hr hlk dX10_rests_25 h
abbrev rm_X10_see : Room := { frames := 1, cells := 0, slots := 0, locals := 21 }
theorem mw_X10_see : q_mw RX10 yX10_see cX10_see 4 (some .int) 3 := ⟨⟨ti_X10_see, tl_X10_see, tn_RX10, td_X10_see⟩, by decide +kernel⟩
def f_X10_see (a0 : Int) (a1 : Int) (a2 : Int) (M : Mem) : Res :=
  q_pf M 0 0 0 fun M1 =>
  if w32 a0 < w32 1 then (some ((-1), M1))
  else (if w32 60 < w32 a0 then (some ((-1), M1))
  else (q_calp (f_X10_isSoul a1 M1) fun r2 =>
  if w32 r2 = 0 then (some ((-1), M1))
  else (q_gf M1 0 58 fun v3 =>
  if ¬ w32 v3 = w32 24 then (q_gf M1 0 58 fun v4 =>
  q_as M1 92 24 v4 a0 fun M5 =>
  q_gf M5 0 58 fun v6 =>
  q_as M5 93 24 v6 a1 fun M7 =>
  q_gf M7 0 58 fun v8 =>
  if a2 = 0 ∨ a2 = 1 then (q_as M7 94 24 v8 a2 fun M9 =>
  q_gf M9 0 58 fun v10 =>
  q_as M9 95 24 v10 (-1) fun M11 =>
  q_gf M11 0 58 fun v12 =>
  q_pf M11 0 58 (v12 + 1) fun M13 =>
  q_gf M13 0 58 fun v14 =>
  some (v14 - 1, M13)) else none)
  else (some ((-1), M1)))))
theorem c_X10_see {l : Launch} {D : va_G} {ad : Nat → Nat} {cA : Nat → ClassId} (hi : q_inj syM ad) (a0 : Int) (a1 : Int) (a2 : Int) (M : Mem) (r0 : Int) (M0 : Mem) (h : f_X10_see a0 a1 a2 M = some (r0, M0)) : q_Met l syM D ad cA yX10_see cX10_see 4 (some .int) rm_X10_see [.ref (ad 0), .int (qI a0), .int (qI a1), .int (qI a2)] M (some (.int (qI r0))) M0 := by
  refine q_met (L0 := [(0, .ref (ad 0)), (1, .int (qI a0)), (2, .int (qI a1)), (3, .int (qI a2))]) hi okM (by decide) (Nat.le_of_ble_eq_true rfl) rfl ?_
  intro p e s m args below meth c C hr hlk
  unfold f_X10_see at h
  refine r_aln C dX10_see_0 (k := 0) rfl ?_
  refine r_ic C dX10_see_1 ?_
  refine r_pf C km_0 clX10 (f := 0) (by decide) rfl q_dI rfl rfl tf_RX10_142 dX10_see_2 h (fun M1 h => ?_)
  refine r_iln C dX10_see_5 (k := 1) rfl ?_
  refine r_ic C dX10_see_6 ?_
  refine r_clt C (tgt := 33) dX10_see_7 (by decide) h (fun h => ?_) (fun h => ?_)
  · refine r_ic C dX10_see_33 ?_
    exact r_iret C hr hlk dX10_see_34 h
  · refine r_iln C dX10_see_10 (k := 1) rfl ?_
    refine r_bi C dX10_see_11 (by decide) ?_
    refine r_cgt C (tgt := 33) dX10_see_13 (by decide) h (fun h => ?_) (fun h => ?_)
    · refine r_ic C dX10_see_33 ?_
      exact r_iret C hr hlk dX10_see_34 h
    · refine r_aln C dX10_see_16 (k := 0) rfl ?_
      refine r_iln C dX10_see_17 (k := 2) rfl ?_
      obtain ⟨r2, hy, h⟩ := q_calp_some h
      refine r_cvi C (st := []) (c_X10_isSoul C.2.2.1 a1 M1 r2 hy) tm_RX10_411 mw_X10_isSoul ⟨rfl, rfl⟩ ⟨Nat.le_of_ble_eq_true rfl, Nat.le_of_ble_eq_true rfl⟩ km_0 clX10 rfl rfl (Nat.le_of_ble_eq_true rfl) dX10_see_18 ?_
      refine r_zeq C (tgt := 33) dX10_see_21 (by decide) h (fun h => ?_) (fun h => ?_)
      · refine r_ic C dX10_see_33 ?_
        exact r_iret C hr hlk dX10_see_34 h
      · refine r_aln C dX10_see_24 (k := 0) rfl ?_
        refine r_gf C km_0 clX10 (f := 58) (by decide) rfl rfl rfl tf_RX10_295 dX10_see_25 h (fun v3 h => ?_)
        refine r_bi C dX10_see_28 (by decide) ?_
        refine r_cne C (tgt := 35) dX10_see_30 (by decide) h (fun h => ?_) (fun h => ?_)
        · refine r_aln C dX10_see_35 (k := 0) rfl ?_
          refine r_gs C km_0 clX10 (f := 60) (by decide) rfl (t := 92) rfl tf_RX10_123 dX10_see_36 ?_
          refine r_aln C dX10_see_39 (k := 0) rfl ?_
          refine r_gf C km_0 clX10 (f := 58) (by decide) rfl rfl rfl tf_RX10_295 dX10_see_40 h (fun v4 h => ?_)
          refine r_iln C dX10_see_43 (k := 1) rfl ?_
          refine r_iast C km_92 dX10_see_44 h (fun M5 h => ?_)
          refine r_aln C dX10_see_45 (k := 0) rfl ?_
          refine r_gs C km_0 clX10 (f := 61) (by decide) rfl (t := 93) rfl tf_RX10_126 dX10_see_46 ?_
          refine r_aln C dX10_see_49 (k := 0) rfl ?_
          refine r_gf C km_0 clX10 (f := 58) (by decide) rfl rfl rfl tf_RX10_295 dX10_see_50 h (fun v6 h => ?_)
          refine r_iln C dX10_see_53 (k := 2) rfl ?_
          refine r_iast C km_93 dX10_see_54 h (fun M7 h => ?_)
          refine r_aln C dX10_see_55 (k := 0) rfl ?_
          refine r_gs C km_0 clX10 (f := 62) (by decide) rfl (t := 94) rfl tf_RX10_129 dX10_see_56 ?_
          refine r_aln C dX10_see_59 (k := 0) rfl ?_
          refine r_gf C km_0 clX10 (f := 58) (by decide) rfl rfl rfl tf_RX10_295 dX10_see_60 h (fun v8 h => ?_)
          refine r_iln C dX10_see_63 (k := 3) rfl ?_
          refine r_zast C km_94 dX10_see_64 h (fun M9 h => ?_)
          refine r_aln C dX10_see_65 (k := 0) rfl ?_
          refine r_gs C km_0 clX10 (f := 63) (by decide) rfl (t := 95) rfl tf_RX10_133 dX10_see_66 ?_
          refine r_aln C dX10_see_69 (k := 0) rfl ?_
          refine r_gf C km_0 clX10 (f := 58) (by decide) rfl rfl rfl tf_RX10_295 dX10_see_70 h (fun v10 h => ?_)
          refine r_ic C dX10_see_73 ?_
          refine r_iast C km_95 dX10_see_74 h (fun M11 h => ?_)
          refine r_aln C dX10_see_75 (k := 0) rfl ?_
          refine r_dup C rfl dX10_see_76 ?_
          refine r_gf C km_0 clX10 (f := 58) (by decide) rfl rfl rfl tf_RX10_295 dX10_see_77 h (fun v12 h => ?_)
          refine r_ic C dX10_see_80 ?_
          refine r_iadd C dX10_see_81 ?_
          refine r_pf C km_0 clX10 (f := 58) (by decide) rfl q_dI rfl rfl tf_RX10_295 dX10_see_82 h (fun M13 h => ?_)
          refine r_aln C dX10_see_85 (k := 0) rfl ?_
          refine r_gf C km_0 clX10 (f := 58) (by decide) rfl rfl rfl tf_RX10_295 dX10_see_86 h (fun v14 h => ?_)
          refine r_ic C dX10_see_89 ?_
          refine r_isub C dX10_see_90 ?_
          exact r_iret C hr hlk dX10_see_91 h
        · refine r_ic C dX10_see_33 ?_
          exact r_iret C hr hlk dX10_see_34 h
abbrev rm_X10_sign : Room := { frames := 1, cells := 0, slots := 0, locals := 20 }
theorem mw_X10_sign : q_mw RX10 yX10_sign cX10_sign 2 none 1 := ⟨⟨ti_X10_sign, tl_X10_sign, tn_RX10, td_X10_sign⟩, by decide +kernel⟩
def f_X10_sign_J150  (M : Mem) : Res :=
  q_gf M 0 25 fun v1 =>
  if w32 v1 < w32 256 then (some (0, M))
  else (q_gf M 0 22 fun v2 =>
  q_pf M 0 22 (v2 + 1) fun M3 =>
  some (0, M3))
theorem w_X10_sign_J150 (C : Cx syM p m c cX10_sign 2 s args RX10 D ad cA) (hr : meth.sig.returnType = none) (hlk : meth.locks = false)  (M : Mem)  (h : f_X10_sign_J150  M = some (r0, M0)) : WM syM p l e rm_X10_sign s m args below meth c 2 D ad cA (MQ below (q_Post syM D ad cA none M0) args s 0 0 (q_A syM ad)) M 150 [(0, .ref (ad 0))] [] := by
  unfold f_X10_sign_J150 at h
  refine r_aln C dX10_sign_150 (k := 0) rfl ?_
  refine r_gf C km_0 clX10 (f := 25) (by decide) rfl rfl rfl tf_RX10_171 dX10_sign_151 h (fun v1 h => ?_)
  refine r_si C dX10_sign_154 (by decide) ?_
  refine r_clt C (tgt := 170) dX10_sign_157 (by decide) h (fun h => ?_) (fun h => ?_)
  · exact r_vret C hr hlk dX10_sign_170 h
  · refine r_aln C dX10_sign_160 (k := 0) rfl ?_
    refine r_dup C rfl dX10_sign_161 ?_
    refine r_gf C km_0 clX10 (f := 22) (by decide) rfl rfl rfl tf_RX10_148 dX10_sign_162 h (fun v2 h => ?_)
    refine r_ic C dX10_sign_165 ?_
    refine r_iadd C dX10_sign_166 ?_
    refine r_pf C km_0 clX10 (f := 22) (by decide) rfl q_dI rfl rfl tf_RX10_148 dX10_sign_167 h (fun M3 h => ?_)
    exact r_vret C hr hlk dX10_sign_170 h
def f_X10_sign_J128 (x1 : Int) (M : Mem) : Res :=
  if ¬ w32 x1 = w32 62 then (f_X10_sign_J150  M)
  else (q_calp (f_X10_here  M) fun r1 =>
  if ¬ w32 r1 = w32 61 then (f_X10_sign_J150  M)
  else (q_pf M 0 25 258 fun M2 =>
  f_X10_sign_J150  M2))
theorem w_X10_sign_J128 (C : Cx syM p m c cX10_sign 2 s args RX10 D ad cA) (hr : meth.sig.returnType = none) (hlk : meth.locks = false) (x1 : Int) (M : Mem)  (h : f_X10_sign_J128 x1 M = some (r0, M0)) : WM syM p l e rm_X10_sign s m args below meth c 2 D ad cA (MQ below (q_Post syM D ad cA none M0) args s 0 0 (q_A syM ad)) M 128 [(0, .ref (ad 0)), (1, .int (qI x1))] [] := by
  unfold f_X10_sign_J128 at h
  refine r_iln C dX10_sign_128 (k := 1) rfl ?_
  refine r_bi C dX10_sign_129 (by decide) ?_
  refine r_cne C (tgt := 150) dX10_sign_131 (by decide) h (fun h => ?_) (fun h => ?_)
  · refine r_drop [0] rfl ?_
    exact w_X10_sign_J150 C hr hlk  M  h
  · refine r_aln C dX10_sign_134 (k := 0) rfl ?_
    obtain ⟨r1, hy, h⟩ := q_calp_some h
    refine r_cvi C (st := []) (c_X10_here C.2.2.1 M r1 hy) tm_RX10_154 mw_X10_here ⟨rfl, rfl⟩ ⟨Nat.le_of_ble_eq_true rfl, Nat.le_of_ble_eq_true rfl⟩ km_0 clX10 rfl rfl (Nat.le_of_ble_eq_true rfl) dX10_sign_135 ?_
    refine r_bi C dX10_sign_138 (by decide) ?_
    refine r_cne C (tgt := 150) dX10_sign_140 (by decide) h (fun h => ?_) (fun h => ?_)
    · refine r_drop [0] rfl ?_
      exact w_X10_sign_J150 C hr hlk  M  h
    · refine r_aln C dX10_sign_143 (k := 0) rfl ?_
      refine r_si C dX10_sign_144 (by decide) ?_
      refine r_pf C km_0 clX10 (f := 25) (by decide) rfl q_dI rfl rfl tf_RX10_171 dX10_sign_147 h (fun M2 h => ?_)
      refine r_drop [0] rfl ?_
      exact w_X10_sign_J150 C hr hlk  M2  h
def f_X10_sign_J106 (x1 : Int) (M : Mem) : Res :=
  if ¬ w32 x1 = w32 60 then (f_X10_sign_J128 x1 M)
  else (q_calp (f_X10_here  M) fun r1 =>
  if ¬ w32 r1 = w32 62 then (f_X10_sign_J128 x1 M)
  else (q_pf M 0 25 257 fun M2 =>
  f_X10_sign_J128 x1 M2))
theorem w_X10_sign_J106 (C : Cx syM p m c cX10_sign 2 s args RX10 D ad cA) (hr : meth.sig.returnType = none) (hlk : meth.locks = false) (x1 : Int) (M : Mem)  (h : f_X10_sign_J106 x1 M = some (r0, M0)) : WM syM p l e rm_X10_sign s m args below meth c 2 D ad cA (MQ below (q_Post syM D ad cA none M0) args s 0 0 (q_A syM ad)) M 106 [(0, .ref (ad 0)), (1, .int (qI x1))] [] := by
  unfold f_X10_sign_J106 at h
  refine r_iln C dX10_sign_106 (k := 1) rfl ?_
  refine r_bi C dX10_sign_107 (by decide) ?_
  refine r_cne C (tgt := 128) dX10_sign_109 (by decide) h (fun h => ?_) (fun h => ?_)
  · exact w_X10_sign_J128 C hr hlk x1 M  h
  · refine r_aln C dX10_sign_112 (k := 0) rfl ?_
    obtain ⟨r1, hy, h⟩ := q_calp_some h
    refine r_cvi C (st := []) (c_X10_here C.2.2.1 M r1 hy) tm_RX10_154 mw_X10_here ⟨rfl, rfl⟩ ⟨Nat.le_of_ble_eq_true rfl, Nat.le_of_ble_eq_true rfl⟩ km_0 clX10 rfl rfl (Nat.le_of_ble_eq_true rfl) dX10_sign_113 ?_
    refine r_bi C dX10_sign_116 (by decide) ?_
    refine r_cne C (tgt := 128) dX10_sign_118 (by decide) h (fun h => ?_) (fun h => ?_)
    · exact w_X10_sign_J128 C hr hlk x1 M  h
    · refine r_aln C dX10_sign_121 (k := 0) rfl ?_
      refine r_si C dX10_sign_122 (by decide) ?_
      refine r_pf C km_0 clX10 (f := 25) (by decide) rfl q_dI rfl rfl tf_RX10_171 dX10_sign_125 h (fun M2 h => ?_)
      exact w_X10_sign_J128 C hr hlk x1 M2  h
def f_X10_sign_J76 (x1 : Int) (y0 : Int) (M : Mem) : Res :=
  q_pf M 0 24 y0 fun M1 =>
  q_pf M1 0 25 x1 fun M2 =>
  if ¬ w32 x1 = w32 60 then (f_X10_sign_J106 x1 M2)
  else (q_calp (f_X10_here  M2) fun r3 =>
  if ¬ w32 r3 = w32 61 then (f_X10_sign_J106 x1 M2)
  else (q_pf M2 0 25 256 fun M4 =>
  f_X10_sign_J106 x1 M4))
theorem w_X10_sign_J76 (C : Cx syM p m c cX10_sign 2 s args RX10 D ad cA) (hr : meth.sig.returnType = none) (hlk : meth.locks = false) (x1 : Int) (y0 : Int) (M : Mem)  (h : f_X10_sign_J76 x1 y0 M = some (r0, M0)) : WM syM p l e rm_X10_sign s m args below meth c 2 D ad cA (MQ below (q_Post syM D ad cA none M0) args s 0 0 (q_A syM ad)) M 76 [(0, .ref (ad 0)), (1, .int (qI x1))] [.int (qI y0), .ref (ad 0)] := by
  unfold f_X10_sign_J76 at h
  refine r_pf C km_0 clX10 (f := 24) (by decide) rfl q_dI rfl rfl tf_RX10_161 dX10_sign_76 h (fun M1 h => ?_)
  refine r_aln C dX10_sign_79 (k := 0) rfl ?_
  refine r_iln C dX10_sign_80 (k := 1) rfl ?_
  refine r_pf C km_0 clX10 (f := 25) (by decide) rfl q_dI rfl rfl tf_RX10_171 dX10_sign_81 h (fun M2 h => ?_)
  refine r_iln C dX10_sign_84 (k := 1) rfl ?_
  refine r_bi C dX10_sign_85 (by decide) ?_
  refine r_cne C (tgt := 106) dX10_sign_87 (by decide) h (fun h => ?_) (fun h => ?_)
  · exact w_X10_sign_J106 C hr hlk x1 M2  h
  · refine r_aln C dX10_sign_90 (k := 0) rfl ?_
    obtain ⟨r3, hy, h⟩ := q_calp_some h
    refine r_cvi C (st := []) (c_X10_here C.2.2.1 M2 r3 hy) tm_RX10_154 mw_X10_here ⟨rfl, rfl⟩ ⟨Nat.le_of_ble_eq_true rfl, Nat.le_of_ble_eq_true rfl⟩ km_0 clX10 rfl rfl (Nat.le_of_ble_eq_true rfl) dX10_sign_91 ?_
    refine r_bi C dX10_sign_94 (by decide) ?_
    refine r_cne C (tgt := 106) dX10_sign_96 (by decide) h (fun h => ?_) (fun h => ?_)
    · exact w_X10_sign_J106 C hr hlk x1 M2  h
    · refine r_aln C dX10_sign_99 (k := 0) rfl ?_
      refine r_si C dX10_sign_100 (by decide) ?_
      refine r_pf C km_0 clX10 (f := 25) (by decide) rfl q_dI rfl rfl tf_RX10_171 dX10_sign_103 h (fun M4 h => ?_)
      exact w_X10_sign_J106 C hr hlk x1 M4  h
def f_X10_sign_J71 (x1 : Int) (M : Mem) : Res :=
  f_X10_sign_J76 x1 3 M
theorem w_X10_sign_J71 (C : Cx syM p m c cX10_sign 2 s args RX10 D ad cA) (hr : meth.sig.returnType = none) (hlk : meth.locks = false) (x1 : Int) (M : Mem)  (h : f_X10_sign_J71 x1 M = some (r0, M0)) : WM syM p l e rm_X10_sign s m args below meth c 2 D ad cA (MQ below (q_Post syM D ad cA none M0) args s 0 0 (q_A syM ad)) M 71 [(0, .ref (ad 0)), (1, .int (qI x1))] [.ref (ad 0)] := by
  unfold f_X10_sign_J71 at h
  refine r_ic C dX10_sign_71 ?_
  refine r_goto C (tgt := 76) dX10_sign_72 (by decide) ?_
  exact w_X10_sign_J76 C hr hlk x1 3 M  h
def f_X10_sign (a0 : Int) (M : Mem) : Res :=
  q_gf M 0 22 fun v1 =>
  q_pf M 0 22 (v1 + 1) fun M2 =>
  if w32 a0 = w32 59 then (f_X10_sign_J71 a0 M2)
  else (if w32 a0 = w32 40 then (f_X10_sign_J71 a0 M2)
  else (if w32 a0 = w32 41 then (f_X10_sign_J71 a0 M2)
  else (if w32 a0 = w32 43 then (f_X10_sign_J71 a0 M2)
  else (if w32 a0 = w32 45 then (f_X10_sign_J71 a0 M2)
  else (if w32 a0 = w32 42 then (f_X10_sign_J71 a0 M2)
  else (if w32 a0 = w32 47 then (f_X10_sign_J71 a0 M2)
  else (if w32 a0 = w32 60 then (f_X10_sign_J71 a0 M2)
  else (if w32 a0 = w32 61 then (f_X10_sign_J71 a0 M2)
  else (if ¬ w32 a0 = w32 62 then (f_X10_sign_J76 a0 5 M2)
  else (f_X10_sign_J71 a0 M2))))))))))
theorem c_X10_sign {l : Launch} {D : va_G} {ad : Nat → Nat} {cA : Nat → ClassId} (hi : q_inj syM ad) (a0 : Int) (M : Mem) (r0 : Int) (M0 : Mem) (h : f_X10_sign a0 M = some (r0, M0)) : q_Met l syM D ad cA yX10_sign cX10_sign 2 none rm_X10_sign [.ref (ad 0), .int (qI a0)] M none M0 := by
  refine q_met (L0 := [(0, .ref (ad 0)), (1, .int (qI a0))]) hi okM (by decide) (Nat.le_of_ble_eq_true rfl) rfl ?_
  intro p e s m args below meth c C hr hlk
  unfold f_X10_sign at h
  refine r_aln C dX10_sign_0 (k := 0) rfl ?_
  refine r_dup C rfl dX10_sign_1 ?_
  refine r_gf C km_0 clX10 (f := 22) (by decide) rfl rfl rfl tf_RX10_148 dX10_sign_2 h (fun v1 h => ?_)
  refine r_ic C dX10_sign_5 ?_
  refine r_iadd C dX10_sign_6 ?_
  refine r_pf C km_0 clX10 (f := 22) (by decide) rfl q_dI rfl rfl tf_RX10_148 dX10_sign_7 h (fun M2 h => ?_)
  refine r_aln C dX10_sign_10 (k := 0) rfl ?_
  refine r_iln C dX10_sign_11 (k := 1) rfl ?_
  refine r_bi C dX10_sign_12 (by decide) ?_
  refine r_ceq C (tgt := 71) dX10_sign_14 (by decide) h (fun h => ?_) (fun h => ?_)
  · exact w_X10_sign_J71 C hr hlk a0 M2  h
  · refine r_iln C dX10_sign_17 (k := 1) rfl ?_
    refine r_bi C dX10_sign_18 (by decide) ?_
    refine r_ceq C (tgt := 71) dX10_sign_20 (by decide) h (fun h => ?_) (fun h => ?_)
    · exact w_X10_sign_J71 C hr hlk a0 M2  h
    · refine r_iln C dX10_sign_23 (k := 1) rfl ?_
      refine r_bi C dX10_sign_24 (by decide) ?_
      refine r_ceq C (tgt := 71) dX10_sign_26 (by decide) h (fun h => ?_) (fun h => ?_)
      · exact w_X10_sign_J71 C hr hlk a0 M2  h
      · refine r_iln C dX10_sign_29 (k := 1) rfl ?_
        refine r_bi C dX10_sign_30 (by decide) ?_
        refine r_ceq C (tgt := 71) dX10_sign_32 (by decide) h (fun h => ?_) (fun h => ?_)
        · exact w_X10_sign_J71 C hr hlk a0 M2  h
        · refine r_iln C dX10_sign_35 (k := 1) rfl ?_
          refine r_bi C dX10_sign_36 (by decide) ?_
          refine r_ceq C (tgt := 71) dX10_sign_38 (by decide) h (fun h => ?_) (fun h => ?_)
          · exact w_X10_sign_J71 C hr hlk a0 M2  h
          · refine r_iln C dX10_sign_41 (k := 1) rfl ?_
            refine r_bi C dX10_sign_42 (by decide) ?_
            refine r_ceq C (tgt := 71) dX10_sign_44 (by decide) h (fun h => ?_) (fun h => ?_)
            · exact w_X10_sign_J71 C hr hlk a0 M2  h
            · refine r_iln C dX10_sign_47 (k := 1) rfl ?_
              refine r_bi C dX10_sign_48 (by decide) ?_
              refine r_ceq C (tgt := 71) dX10_sign_50 (by decide) h (fun h => ?_) (fun h => ?_)
              · exact w_X10_sign_J71 C hr hlk a0 M2  h
              · refine r_iln C dX10_sign_53 (k := 1) rfl ?_
                refine r_bi C dX10_sign_54 (by decide) ?_
                refine r_ceq C (tgt := 71) dX10_sign_56 (by decide) h (fun h => ?_) (fun h => ?_)
                · exact w_X10_sign_J71 C hr hlk a0 M2  h
                · refine r_iln C dX10_sign_59 (k := 1) rfl ?_
                  refine r_bi C dX10_sign_60 (by decide) ?_
                  refine r_ceq C (tgt := 71) dX10_sign_62 (by decide) h (fun h => ?_) (fun h => ?_)
                  · exact w_X10_sign_J71 C hr hlk a0 M2  h
                  · refine r_iln C dX10_sign_65 (k := 1) rfl ?_
                    refine r_bi C dX10_sign_66 (by decide) ?_
                    refine r_cne C (tgt := 75) dX10_sign_68 (by decide) h (fun h => ?_) (fun h => ?_)
                    · refine r_ic C dX10_sign_75 ?_
                      exact w_X10_sign_J76 C hr hlk a0 5 M2  h
                    · exact w_X10_sign_J71 C hr hlk a0 M2  h
abbrev rm_X10_withSoul : Room := { frames := 0, cells := 0, slots := 0, locals := 0 }
theorem mw_X10_withSoul : q_mw RX10 yX10_withSoul cX10_withSoul 4 (some .int) 1 := ⟨⟨ti_X10_withSoul, tl_X10_withSoul, tn_RX10, td_X10_withSoul⟩, by decide +kernel⟩
def f_X10_withSoul_B4 (x1 : Int) (M : Mem) (x2 : Int) (x3 : Int) (g4 : Int → Int → Option Int) : Option Int :=
  q_al M 35 14 0 fun v1 =>
  if w32 v1 ≤ w32 x3 then (some x2)
  else (q_al M 71 184 x1 fun v2 =>
  if ¬ w32 v2 = w32 2 then (some x2)
  else (q_al M 75 184 x3 fun v3 =>
  q_al M 75 184 x1 fun v4 =>
  if ¬ w32 v3 = w32 v4 then (g4 (q_or x2 0) (x3 + 1))
  else (q_al M 76 184 x3 fun v5 =>
  q_al M 76 184 x1 fun v6 =>
  if ¬ w32 v5 = w32 v6 then (g4 (q_or x2 0) (x3 + 1))
  else (g4 (q_or x2 (q_shl 1 x3)) (x3 + 1)))))
def f_X10_withSoul_L4 (x1 : Int) (M : Mem) (n : Nat) (x2 : Int) (x3 : Int) : Option Int := qlp2 (fun x2 x3 g4 => f_X10_withSoul_B4 x1 M x2 x3 g4) n x2 x3
theorem w_X10_withSoul_B4 (C : Cx syM p m c cX10_withSoul 4 s args RX10 D ad cA) (hr : meth.sig.returnType = (some .int)) (hlk : meth.locks = false)  (x1 : Int) (x2 : Int) (x3 : Int) (M : Mem) (g4 : Int → Int → Option Int)  (ih4 : ∀ (ux2 ux3 : Int) , g4 ux2 ux3  = some r0 → WM syM p l e rm_X10_withSoul s m args below meth c 4 D ad cA (MQ below (q_Post syM D ad cA (some (.int (qI r0))) M) args s 0 0 (q_A syM ad)) M 4 [(0, .ref (ad 0)), (1, .int (qI x1)), (2, .int (qI ux2)), (3, .int (qI ux3))] []) (h : f_X10_withSoul_B4 x1 M x2 x3 g4 = some r0) : WM syM p l e rm_X10_withSoul s m args below meth c 4 D ad cA (MQ below (q_Post syM D ad cA (some (.int (qI r0))) M) args s 0 0 (q_A syM ad)) M 4 [(0, .ref (ad 0)), (1, .int (qI x1)), (2, .int (qI x2)), (3, .int (qI x3))] [] := by
  unfold f_X10_withSoul_B4 at h
  refine r_iln C dX10_withSoul_4 (k := 3) rfl ?_
  refine r_aln C dX10_withSoul_5 (k := 0) rfl ?_
  refine r_gs C km_0 clX10 (f := 3) (by decide) rfl (t := 35) rfl tf_RX10_13 dX10_withSoul_6 ?_
  refine r_ic C dX10_withSoul_9 ?_
  refine r_iald C km_35 dX10_withSoul_10 h (fun v1 h => ?_)
  refine r_cge C (tgt := 70) dX10_withSoul_11 (by decide) h (fun h => ?_) (fun h => ?_)
  · refine r_iln C dX10_withSoul_70 (k := 2) rfl ?_
    exact r_iretp C hr hlk dX10_withSoul_71 h
  · refine r_aln C dX10_withSoul_14 (k := 0) rfl ?_
    refine r_gs C km_0 clX10 (f := 39) (by decide) rfl (t := 71) rfl tf_RX10_84 dX10_withSoul_15 ?_
    refine r_iln C dX10_withSoul_18 (k := 1) rfl ?_
    refine r_iald C km_71 dX10_withSoul_19 h (fun v2 h => ?_)
    refine r_ic C dX10_withSoul_20 ?_
    refine r_cne C (tgt := 70) dX10_withSoul_21 (by decide) h (fun h => ?_) (fun h => ?_)
    · refine r_iln C dX10_withSoul_70 (k := 2) rfl ?_
      exact r_iretp C hr hlk dX10_withSoul_71 h
    · refine r_iln C dX10_withSoul_24 (k := 2) rfl ?_
      refine r_aln C dX10_withSoul_25 (k := 0) rfl ?_
      refine r_gs C km_0 clX10 (f := 43) (by decide) rfl (t := 75) rfl tf_RX10_96 dX10_withSoul_26 ?_
      refine r_iln C dX10_withSoul_29 (k := 3) rfl ?_
      refine r_iald C km_75 dX10_withSoul_30 h (fun v3 h => ?_)
      refine r_aln C dX10_withSoul_31 (k := 0) rfl ?_
      refine r_gs C km_0 clX10 (f := 43) (by decide) rfl (t := 75) rfl tf_RX10_96 dX10_withSoul_32 ?_
      refine r_iln C dX10_withSoul_35 (k := 1) rfl ?_
      refine r_iald C km_75 dX10_withSoul_36 h (fun v4 h => ?_)
      refine r_cne C (tgt := 61) dX10_withSoul_37 (by decide) h (fun h => ?_) (fun h => ?_)
      · refine r_ic C dX10_withSoul_61 ?_
        refine r_ior C dX10_withSoul_62 ?_
        refine r_isn C (L1 := [(2, .int (qI (q_or x2 0))), (0, .ref (ad 0)), (1, .int (qI x1)), (3, .int (qI x3))]) dX10_withSoul_63 (by decide) rfl ?_
        refine r_inc C (L1 := [(3, .int (qI (x3 + 1))), (2, .int (qI (q_or x2 0))), (0, .ref (ad 0)), (1, .int (qI x1))]) dX10_withSoul_64 (k := 3) rfl (by decide) rfl ?_
        refine r_goto C (tgt := 4) dX10_withSoul_67 (by decide) ?_
        refine r_drop [2, 3, 1, 0] rfl ?_
        exact ih4 (q_or x2 0) (x3 + 1)  h
      · refine r_aln C dX10_withSoul_40 (k := 0) rfl ?_
        refine r_gs C km_0 clX10 (f := 44) (by decide) rfl (t := 76) rfl tf_RX10_99 dX10_withSoul_41 ?_
        refine r_iln C dX10_withSoul_44 (k := 3) rfl ?_
        refine r_iald C km_76 dX10_withSoul_45 h (fun v5 h => ?_)
        refine r_aln C dX10_withSoul_46 (k := 0) rfl ?_
        refine r_gs C km_0 clX10 (f := 44) (by decide) rfl (t := 76) rfl tf_RX10_99 dX10_withSoul_47 ?_
        refine r_iln C dX10_withSoul_50 (k := 1) rfl ?_
        refine r_iald C km_76 dX10_withSoul_51 h (fun v6 h => ?_)
        refine r_cne C (tgt := 61) dX10_withSoul_52 (by decide) h (fun h => ?_) (fun h => ?_)
        · refine r_ic C dX10_withSoul_61 ?_
          refine r_ior C dX10_withSoul_62 ?_
          refine r_isn C (L1 := [(2, .int (qI (q_or x2 0))), (0, .ref (ad 0)), (1, .int (qI x1)), (3, .int (qI x3))]) dX10_withSoul_63 (by decide) rfl ?_
          refine r_inc C (L1 := [(3, .int (qI (x3 + 1))), (2, .int (qI (q_or x2 0))), (0, .ref (ad 0)), (1, .int (qI x1))]) dX10_withSoul_64 (k := 3) rfl (by decide) rfl ?_
          refine r_goto C (tgt := 4) dX10_withSoul_67 (by decide) ?_
          refine r_drop [2, 3, 1, 0] rfl ?_
          exact ih4 (q_or x2 0) (x3 + 1)  h
        · refine r_ic C dX10_withSoul_55 ?_
          refine r_iln C dX10_withSoul_56 (k := 3) rfl ?_
          refine r_ishl C dX10_withSoul_57 ?_
          refine r_goto C (tgt := 62) dX10_withSoul_58 (by decide) ?_
          refine r_ior C dX10_withSoul_62 ?_
          refine r_isn C (L1 := [(2, .int (qI (q_or x2 (q_shl 1 x3)))), (0, .ref (ad 0)), (1, .int (qI x1)), (3, .int (qI x3))]) dX10_withSoul_63 (by decide) rfl ?_
          refine r_inc C (L1 := [(3, .int (qI (x3 + 1))), (2, .int (qI (q_or x2 (q_shl 1 x3)))), (0, .ref (ad 0)), (1, .int (qI x1))]) dX10_withSoul_64 (k := 3) rfl (by decide) rfl ?_
          refine r_goto C (tgt := 4) dX10_withSoul_67 (by decide) ?_
          refine r_drop [2, 3, 1, 0] rfl ?_
          exact ih4 (q_or x2 (q_shl 1 x3)) (x3 + 1)  h
theorem w_X10_withSoul_L4 (C : Cx syM p m c cX10_withSoul 4 s args RX10 D ad cA) (hr : meth.sig.returnType = (some .int)) (hlk : meth.locks = false)  (x1 : Int) (M : Mem)  (n : Nat) (x2 : Int) (x3 : Int) (h : f_X10_withSoul_L4 x1 M n x2 x3 = some r0) : WM syM p l e rm_X10_withSoul s m args below meth c 4 D ad cA (MQ below (q_Post syM D ad cA (some (.int (qI r0))) M) args s 0 0 (q_A syM ad)) M 4 [(0, .ref (ad 0)), (1, .int (qI x1)), (2, .int (qI x2)), (3, .int (qI x3))] [] :=
  qlp2_r (Wp := fun ux2 ux3 => WM syM p l e rm_X10_withSoul s m args below meth c 4 D ad cA (MQ below (q_Post syM D ad cA (some (.int (qI r0))) M) args s 0 0 (q_A syM ad)) M 4 [(0, .ref (ad 0)), (1, .int (qI x1)), (2, .int (qI ux2)), (3, .int (qI ux3))] []) (fun ux2 ux3 g4 ih4 h => w_X10_withSoul_B4 C hr hlk x1 ux2 ux3 M g4  ih4 h) n x2 x3 h
def f_X10_withSoul (a0 : Int) (M : Mem) : Option Int :=
  f_X10_withSoul_L4 a0 M q_N 0 0
theorem c_X10_withSoul {l : Launch} {D : va_G} {ad : Nat → Nat} {cA : Nat → ClassId} (hi : q_inj syM ad) (a0 : Int) (M : Mem) (r0 : Int) (h : f_X10_withSoul a0 M = some r0) : q_Met l syM D ad cA yX10_withSoul cX10_withSoul 4 (some .int) rm_X10_withSoul [.ref (ad 0), .int (qI a0)] M (some (.int (qI r0))) M := by
  refine q_met (L0 := [(0, .ref (ad 0)), (1, .int (qI a0))]) hi okM (by decide) (Nat.le_of_ble_eq_true rfl) rfl ?_
  intro p e s m args below meth c C hr hlk
  unfold f_X10_withSoul at h
  refine r_ic C dX10_withSoul_0 ?_
  refine r_isn C (L1 := [(2, .int (qI 0)), (0, .ref (ad 0)), (1, .int (qI a0))]) dX10_withSoul_1 (by decide) rfl ?_
  refine r_ic C dX10_withSoul_2 ?_
  refine r_isn C (L1 := [(3, .int (qI 0)), (2, .int (qI 0)), (0, .ref (ad 0)), (1, .int (qI a0))]) dX10_withSoul_3 (by decide) rfl ?_
  refine r_drop [2, 3, 1, 0] rfl ?_
  exact w_X10_withSoul_L4 C hr hlk a0 M  q_N 0 0 h
abbrev rm_X10_soul : Room := { frames := 1, cells := 0, slots := 0, locals := 23 }
theorem mw_X10_soul : q_mw RX10 yX10_soul cX10_soul 3 (some .int) 2 := ⟨⟨ti_X10_soul, tl_X10_soul, tn_RX10, td_X10_soul⟩, by decide +kernel⟩
def f_X10_soul_J28 (x1 : Int) (x2 : Int) (y0 : Int) (M : Mem) : Res :=
  q_pf M 0 0 y0 fun M1 =>
  q_gf M1 0 0 fun v2 =>
  if w32 v2 = 0 then (if w32 x2 = 0 then (q_al M1 71 184 x1 fun v3 =>
  some (v3, M1))
  else if w32 x2 = 1 then (q_al M1 38 16 x1 fun v4 =>
  some (v4, M1))
  else if w32 x2 = 2 then (q_al M1 72 184 x1 fun v5 =>
  some (v5, M1))
  else if w32 x2 = 3 then (q_al M1 73 184 x1 fun v6 =>
  some (v6, M1))
  else if w32 x2 = 4 then (q_calp (f_X10_placeOf 0 x1 M1) fun r7 =>
  q_calp (f_X10_orNone r7 M1) fun r8 =>
  some (r8, M1))
  else if w32 x2 = 5 then (q_al M1 74 184 x1 fun v9 =>
  some (v9, M1))
  else if w32 x2 = 6 then (q_al M1 75 184 x1 fun v10 =>
  q_calp (f_X10_orNone v10 M1) fun r11 =>
  some (r11, M1))
  else (q_calp (f_X10_withSoul x1 M1) fun r12 =>
  some (r12, M1)))
  else (some (0, M1))
theorem w_X10_soul_J28 (C : Cx syM p m c cX10_soul 3 s args RX10 D ad cA) (hr : meth.sig.returnType = (some .int)) (hlk : meth.locks = false) (x1 : Int) (x2 : Int) (y0 : Int) (M : Mem)  (h : f_X10_soul_J28 x1 x2 y0 M = some (r0, M0)) : WM syM p l e rm_X10_soul s m args below meth c 3 D ad cA (MQ below (q_Post syM D ad cA (some (.int (qI r0))) M0) args s 0 0 (q_A syM ad)) M 28 [(0, .ref (ad 0)), (1, .int (qI x1)), (2, .int (qI x2))] [.int (qI y0), .ref (ad 0)] := by
  unfold f_X10_soul_J28 at h
  refine r_pf C km_0 clX10 (f := 0) (by decide) rfl q_dI rfl rfl tf_RX10_142 dX10_soul_28 h (fun M1 h => ?_)
  refine r_aln C dX10_soul_31 (k := 0) rfl ?_
  refine r_gf C km_0 clX10 (f := 0) (by decide) rfl rfl rfl tf_RX10_142 dX10_soul_32 h (fun v2 h => ?_)
  refine r_zeq C (tgt := 40) dX10_soul_35 (by decide) h (fun h => ?_) (fun h => ?_)
  · refine r_iln C dX10_soul_40 (k := 2) rfl ?_
    refine r_tc C h (fun e h => ?_) (fun ne0 h => ?_)
    · refine r_tin C (tgt := 84) dX10_soul_41 e (by decide) rfl (by decide) ?_
      refine r_aln C dX10_soul_84 (k := 0) rfl ?_
      refine r_gs C km_0 clX10 (f := 39) (by decide) rfl (t := 71) rfl tf_RX10_84 dX10_soul_85 ?_
      refine r_iln C dX10_soul_88 (k := 1) rfl ?_
      refine r_iald C km_71 dX10_soul_89 h (fun v3 h => ?_)
      exact r_iret C hr hlk dX10_soul_90 h
    refine r_tc C h (fun e h => ?_) (fun ne1 h => ?_)
    · refine r_tin C (tgt := 91) dX10_soul_41 e (by decide) rfl (by decide) ?_
      refine r_aln C dX10_soul_91 (k := 0) rfl ?_
      refine r_gs C km_0 clX10 (f := 6) (by decide) rfl (t := 38) rfl tf_RX10_22 dX10_soul_92 ?_
      refine r_iln C dX10_soul_95 (k := 1) rfl ?_
      refine r_iald C km_38 dX10_soul_96 h (fun v4 h => ?_)
      exact r_iret C hr hlk dX10_soul_97 h
    refine r_tc C h (fun e h => ?_) (fun ne2 h => ?_)
    · refine r_tin C (tgt := 98) dX10_soul_41 e (by decide) rfl (by decide) ?_
      refine r_aln C dX10_soul_98 (k := 0) rfl ?_
      refine r_gs C km_0 clX10 (f := 40) (by decide) rfl (t := 72) rfl tf_RX10_87 dX10_soul_99 ?_
      refine r_iln C dX10_soul_102 (k := 1) rfl ?_
      refine r_iald C km_72 dX10_soul_103 h (fun v5 h => ?_)
      exact r_iret C hr hlk dX10_soul_104 h
    refine r_tc C h (fun e h => ?_) (fun ne3 h => ?_)
    · refine r_tin C (tgt := 105) dX10_soul_41 e (by decide) rfl (by decide) ?_
      refine r_aln C dX10_soul_105 (k := 0) rfl ?_
      refine r_gs C km_0 clX10 (f := 41) (by decide) rfl (t := 73) rfl tf_RX10_90 dX10_soul_106 ?_
      refine r_iln C dX10_soul_109 (k := 1) rfl ?_
      refine r_iald C km_73 dX10_soul_110 h (fun v6 h => ?_)
      exact r_iret C hr hlk dX10_soul_111 h
    refine r_tc C h (fun e h => ?_) (fun ne4 h => ?_)
    · refine r_tin C (tgt := 112) dX10_soul_41 e (by decide) rfl (by decide) ?_
      refine r_aln C dX10_soul_112 (k := 0) rfl ?_
      refine r_ic C dX10_soul_113 ?_
      refine r_iln C dX10_soul_114 (k := 1) rfl ?_
      obtain ⟨r7, hy, h⟩ := q_calp_some h
      refine r_cvi C (st := []) (c_X10_placeOf C.2.2.1 0 x1 M1 r7 hy) tm_RX10_328 mw_X10_placeOf ⟨rfl, rfl⟩ ⟨Nat.le_of_ble_eq_true rfl, Nat.le_of_ble_eq_true rfl⟩ km_0 clX10 rfl rfl (Nat.le_of_ble_eq_true rfl) dX10_soul_115 ?_
      obtain ⟨r8, hy, h⟩ := q_calp_some h
      refine r_csi C (st := []) (c_X10_orNone C.2.2.1 r7 M1 r8 hy) tm_RX10_414 mw_X10_orNone ⟨rfl, rfl⟩ ⟨Nat.le_of_ble_eq_true rfl, Nat.le_of_ble_eq_true rfl⟩ rfl rfl (Nat.le_of_ble_eq_true rfl) dX10_soul_118 ?_
      exact r_iret C hr hlk dX10_soul_121 h
    refine r_tc C h (fun e h => ?_) (fun ne5 h => ?_)
    · refine r_tin C (tgt := 122) dX10_soul_41 e (by decide) rfl (by decide) ?_
      refine r_aln C dX10_soul_122 (k := 0) rfl ?_
      refine r_gs C km_0 clX10 (f := 42) (by decide) rfl (t := 74) rfl tf_RX10_93 dX10_soul_123 ?_
      refine r_iln C dX10_soul_126 (k := 1) rfl ?_
      refine r_iald C km_74 dX10_soul_127 h (fun v9 h => ?_)
      exact r_iret C hr hlk dX10_soul_128 h
    refine r_tc C h (fun e h => ?_) (fun ne6 h => ?_)
    · refine r_tin C (tgt := 129) dX10_soul_41 e (by decide) rfl (by decide) ?_
      refine r_aln C dX10_soul_129 (k := 0) rfl ?_
      refine r_gs C km_0 clX10 (f := 43) (by decide) rfl (t := 75) rfl tf_RX10_96 dX10_soul_130 ?_
      refine r_iln C dX10_soul_133 (k := 1) rfl ?_
      refine r_iald C km_75 dX10_soul_134 h (fun v10 h => ?_)
      obtain ⟨r11, hy, h⟩ := q_calp_some h
      refine r_csi C (st := []) (c_X10_orNone C.2.2.1 v10 M1 r11 hy) tm_RX10_414 mw_X10_orNone ⟨rfl, rfl⟩ ⟨Nat.le_of_ble_eq_true rfl, Nat.le_of_ble_eq_true rfl⟩ rfl rfl (Nat.le_of_ble_eq_true rfl) dX10_soul_135 ?_
      exact r_iret C hr hlk dX10_soul_138 h
    refine r_tout C (tgt := 139) dX10_soul_41 (by omega) (by decide) ?_
    refine r_aln C dX10_soul_139 (k := 0) rfl ?_
    refine r_iln C dX10_soul_140 (k := 1) rfl ?_
    obtain ⟨r12, hy, h⟩ := q_calp_some h
    refine r_cvi C (st := []) (c_X10_withSoul C.2.2.1 x1 M1 r12 hy) tm_RX10_417 mw_X10_withSoul ⟨rfl, rfl⟩ ⟨Nat.le_of_ble_eq_true rfl, Nat.le_of_ble_eq_true rfl⟩ km_0 clX10 rfl rfl (Nat.le_of_ble_eq_true rfl) dX10_soul_141 ?_
    exact r_iret C hr hlk dX10_soul_144 h
  · refine r_ic C dX10_soul_38 ?_
    exact r_iret C hr hlk dX10_soul_39 h
def f_X10_soul_J23 (x1 : Int) (x2 : Int) (M : Mem) : Res :=
  f_X10_soul_J28 x1 x2 2 M
theorem w_X10_soul_J23 (C : Cx syM p m c cX10_soul 3 s args RX10 D ad cA) (hr : meth.sig.returnType = (some .int)) (hlk : meth.locks = false) (x1 : Int) (x2 : Int) (M : Mem)  (h : f_X10_soul_J23 x1 x2 M = some (r0, M0)) : WM syM p l e rm_X10_soul s m args below meth c 3 D ad cA (MQ below (q_Post syM D ad cA (some (.int (qI r0))) M0) args s 0 0 (q_A syM ad)) M 23 [(0, .ref (ad 0)), (1, .int (qI x1)), (2, .int (qI x2))] [.ref (ad 0)] := by
  unfold f_X10_soul_J23 at h
  refine r_ic C dX10_soul_23 ?_
  refine r_goto C (tgt := 28) dX10_soul_24 (by decide) ?_
  exact w_X10_soul_J28 C hr hlk x1 x2 2 M  h
def f_X10_soul (a0 : Int) (a1 : Int) (M : Mem) : Res :=
  q_calp (f_X10_isSoul a0 M) fun r1 =>
  if ¬ w32 r1 = 0 then (if w32 a1 < 0 then (f_X10_soul_J23 a0 a1 M)
  else (if w32 a1 ≤ w32 7 then (f_X10_soul_J28 a0 a1 0 M)
  else (f_X10_soul_J23 a0 a1 M)))
  else (f_X10_soul_J28 a0 a1 1 M)
theorem c_X10_soul {l : Launch} {D : va_G} {ad : Nat → Nat} {cA : Nat → ClassId} (hi : q_inj syM ad) (a0 : Int) (a1 : Int) (M : Mem) (r0 : Int) (M0 : Mem) (h : f_X10_soul a0 a1 M = some (r0, M0)) : q_Met l syM D ad cA yX10_soul cX10_soul 3 (some .int) rm_X10_soul [.ref (ad 0), .int (qI a0), .int (qI a1)] M (some (.int (qI r0))) M0 := by
  refine q_met (L0 := [(0, .ref (ad 0)), (1, .int (qI a0)), (2, .int (qI a1))]) hi okM (by decide) (Nat.le_of_ble_eq_true rfl) rfl ?_
  intro p e s m args below meth c C hr hlk
  unfold f_X10_soul at h
  refine r_aln C dX10_soul_0 (k := 0) rfl ?_
  refine r_aln C dX10_soul_1 (k := 0) rfl ?_
  refine r_iln C dX10_soul_2 (k := 1) rfl ?_
  obtain ⟨r1, hy, h⟩ := q_calp_some h
  refine r_cvi C (st := [.ref (ad 0)]) (c_X10_isSoul C.2.2.1 a0 M r1 hy) tm_RX10_411 mw_X10_isSoul ⟨rfl, rfl⟩ ⟨Nat.le_of_ble_eq_true rfl, Nat.le_of_ble_eq_true rfl⟩ km_0 clX10 rfl rfl (Nat.le_of_ble_eq_true rfl) dX10_soul_3 ?_
  refine r_zne C (tgt := 13) dX10_soul_6 (by decide) h (fun h => ?_) (fun h => ?_)
  · refine r_iln C dX10_soul_13 (k := 2) rfl ?_
    refine r_zlt C (tgt := 23) dX10_soul_14 (by decide) h (fun h => ?_) (fun h => ?_)
    · exact w_X10_soul_J23 C hr hlk a0 a1 M  h
    · refine r_iln C dX10_soul_17 (k := 2) rfl ?_
      refine r_bi C dX10_soul_18 (by decide) ?_
      refine r_cle C (tgt := 27) dX10_soul_20 (by decide) h (fun h => ?_) (fun h => ?_)
      · refine r_ic C dX10_soul_27 ?_
        exact w_X10_soul_J28 C hr hlk a0 a1 0 M  h
      · exact w_X10_soul_J23 C hr hlk a0 a1 M  h
  · refine r_ic C dX10_soul_9 ?_
    refine r_goto C (tgt := 28) dX10_soul_10 (by decide) ?_
    exact w_X10_soul_J28 C hr hlk a0 a1 1 M  h
abbrev rm_X10_soulAtHand : Room := { frames := 1, cells := 0, slots := 0, locals := 24 }
theorem mw_X10_soulAtHand : q_mw RX10 yX10_soulAtHand cX10_soulAtHand 2 (some .int) 0 := ⟨⟨ti_X10_soulAtHand, tl_X10_soulAtHand, tn_RX10, td_X10_soulAtHand⟩, by decide +kernel⟩
def f_X10_soulAtHand_J69 (x1 : Int) (M : Mem) : Res :=
  q_gf M 0 26 fun v1 =>
  if w32 v1 = 0 then (some (x1, M))
  else (some (0, M))
theorem w_X10_soulAtHand_J69 (C : Cx syM p m c cX10_soulAtHand 2 s args RX10 D ad cA) (hr : meth.sig.returnType = (some .int)) (hlk : meth.locks = false) (x1 : Int) (M : Mem)  (h : f_X10_soulAtHand_J69 x1 M = some (r0, M0)) : WM syM p l e rm_X10_soulAtHand s m args below meth c 2 D ad cA (MQ below (q_Post syM D ad cA (some (.int (qI r0))) M0) args s 0 0 (q_A syM ad)) M 69 [(0, .ref (ad 0)), (1, .int (qI x1))] [] := by
  unfold f_X10_soulAtHand_J69 at h
  refine r_aln C dX10_soulAtHand_69 (k := 0) rfl ?_
  refine r_gf C km_0 clX10 (f := 26) (by decide) rfl rfl rfl tf_RX10_196 dX10_soulAtHand_70 h (fun v1 h => ?_)
  refine r_zeq C (tgt := 80) dX10_soulAtHand_73 (by decide) h (fun h => ?_) (fun h => ?_)
  · refine r_iln C dX10_soulAtHand_80 (k := 1) rfl ?_
    exact r_iret C hr hlk dX10_soulAtHand_81 h
  · refine r_ic C dX10_soulAtHand_76 ?_
    refine r_goto C (tgt := 81) dX10_soulAtHand_77 (by decide) ?_
    exact r_iret C hr hlk dX10_soulAtHand_81 h
def f_X10_soulAtHand_J51 (y0 : Int) (M : Mem) : Res :=
  q_gf M 0 26 fun v1 =>
  if ¬ w32 v1 = 0 then (f_X10_soulAtHand_J69 y0 M)
  else (if ¬ w32 y0 = w32 (-1) then (f_X10_soulAtHand_J69 y0 M)
  else (q_call (f_X10_wrong 4 M) fun r2 M3 =>
  f_X10_soulAtHand_J69 y0 M3))
theorem w_X10_soulAtHand_J51 (C : Cx syM p m c cX10_soulAtHand 2 s args RX10 D ad cA) (hr : meth.sig.returnType = (some .int)) (hlk : meth.locks = false) (y0 : Int) (M : Mem)  (h : f_X10_soulAtHand_J51 y0 M = some (r0, M0)) : WM syM p l e rm_X10_soulAtHand s m args below meth c 2 D ad cA (MQ below (q_Post syM D ad cA (some (.int (qI r0))) M0) args s 0 0 (q_A syM ad)) M 51 [(0, .ref (ad 0))] [.int (qI y0)] := by
  unfold f_X10_soulAtHand_J51 at h
  refine r_isn C (L1 := [(1, .int (qI y0)), (0, .ref (ad 0))]) dX10_soulAtHand_51 (by decide) rfl ?_
  refine r_aln C dX10_soulAtHand_52 (k := 1) rfl ?_
  refine r_gf C km_0 clX10 (f := 26) (by decide) rfl rfl rfl tf_RX10_196 dX10_soulAtHand_53 h (fun v1 h => ?_)
  refine r_zne C (tgt := 69) dX10_soulAtHand_56 (by decide) h (fun h => ?_) (fun h => ?_)
  · refine r_drop [1, 0] rfl ?_
    exact w_X10_soulAtHand_J69 C hr hlk y0 M  h
  · refine r_iln C dX10_soulAtHand_59 (k := 0) rfl ?_
    refine r_ic C dX10_soulAtHand_60 ?_
    refine r_cne C (tgt := 69) dX10_soulAtHand_61 (by decide) h (fun h => ?_) (fun h => ?_)
    · refine r_drop [1, 0] rfl ?_
      exact w_X10_soulAtHand_J69 C hr hlk y0 M  h
    · refine r_aln C dX10_soulAtHand_64 (k := 1) rfl ?_
      refine r_ic C dX10_soulAtHand_65 ?_
      obtain ⟨r2, M3, hy, h⟩ := q_call_some h
      refine r_cvv C (st := []) (c_X10_wrong C.2.2.1 4 M r2 M3 hy) tm_RX10_205 mw_X10_wrong ⟨rfl, rfl⟩ ⟨Nat.le_of_ble_eq_true rfl, Nat.le_of_ble_eq_true rfl⟩ km_0 clX10 rfl rfl (Nat.le_of_ble_eq_true rfl) dX10_soulAtHand_66 ?_
      refine r_drop [1, 0] rfl ?_
      exact w_X10_soulAtHand_J69 C hr hlk y0 M3  h
def f_X10_soulAtHand_J22  (M : Mem) : Res :=
  q_gf M 0 26 fun v1 =>
  if ¬ w32 v1 = 0 then (f_X10_soulAtHand_J51 0 M)
  else (q_calp (f_X10_fresher 0 M) fun r2 =>
  q_gf M 0 25 fun v3 =>
  q_calp (f_X10_found 36 16 8 r2 v3 M) fun r4 =>
  f_X10_soulAtHand_J51 r4 M)
theorem w_X10_soulAtHand_J22 (C : Cx syM p m c cX10_soulAtHand 2 s args RX10 D ad cA) (hr : meth.sig.returnType = (some .int)) (hlk : meth.locks = false)  (M : Mem)  (h : f_X10_soulAtHand_J22  M = some (r0, M0)) : WM syM p l e rm_X10_soulAtHand s m args below meth c 2 D ad cA (MQ below (q_Post syM D ad cA (some (.int (qI r0))) M0) args s 0 0 (q_A syM ad)) M 22 [(0, .ref (ad 0))] [] := by
  unfold f_X10_soulAtHand_J22 at h
  refine r_aln C dX10_soulAtHand_22 (k := 0) rfl ?_
  refine r_gf C km_0 clX10 (f := 26) (by decide) rfl rfl rfl tf_RX10_196 dX10_soulAtHand_23 h (fun v1 h => ?_)
  refine r_zne C (tgt := 50) dX10_soulAtHand_26 (by decide) h (fun h => ?_) (fun h => ?_)
  · refine r_ic C dX10_soulAtHand_50 ?_
    exact w_X10_soulAtHand_J51 C hr hlk 0 M  h
  · refine r_aln C dX10_soulAtHand_29 (k := 0) rfl ?_
    refine r_gs C km_0 clX10 (f := 4) (by decide) rfl (t := 36) rfl tf_RX10_16 dX10_soulAtHand_30 ?_
    refine r_bi C dX10_soulAtHand_33 (by decide) ?_
    refine r_aln C dX10_soulAtHand_35 (k := 0) rfl ?_
    refine r_ic C dX10_soulAtHand_36 ?_
    obtain ⟨r2, hy, h⟩ := q_calp_some h
    refine r_cvi C (st := [.int (qI 8), .ref (ad 36)]) (c_X10_fresher C.2.2.1 0 M r2 hy) tm_RX10_212 mw_X10_fresher ⟨rfl, rfl⟩ ⟨Nat.le_of_ble_eq_true rfl, Nat.le_of_ble_eq_true rfl⟩ km_0 clX10 rfl rfl (Nat.le_of_ble_eq_true rfl) dX10_soulAtHand_37 ?_
    refine r_aln C dX10_soulAtHand_40 (k := 0) rfl ?_
    refine r_gf C km_0 clX10 (f := 25) (by decide) rfl rfl rfl tf_RX10_171 dX10_soulAtHand_41 h (fun v3 h => ?_)
    obtain ⟨r4, hy, h⟩ := q_calp_some h
    refine r_csi C (st := []) (c_X10_found C.2.2.1 36 16 km_36 8 r2 v3 M r4 hy) tm_RX10_208 mw_X10_found ⟨rfl, rfl⟩ ⟨Nat.le_of_ble_eq_true rfl, Nat.le_of_ble_eq_true rfl⟩ rfl rfl (Nat.le_of_ble_eq_true rfl) dX10_soulAtHand_44 ?_
    refine r_goto C (tgt := 51) dX10_soulAtHand_47 (by decide) ?_
    exact w_X10_soulAtHand_J51 C hr hlk r4 M  h
def f_X10_soulAtHand  (M : Mem) : Res :=
  q_gf M 0 26 fun v1 =>
  if w32 v1 = 0 then (q_gf M 0 24 fun v2 =>
  if w32 v2 = w32 1 then (f_X10_soulAtHand_J22  M)
  else (q_call (f_X10_wrong 1 M) fun r3 M4 =>
  f_X10_soulAtHand_J22  M4))
  else (some (0, M))
theorem c_X10_soulAtHand {l : Launch} {D : va_G} {ad : Nat → Nat} {cA : Nat → ClassId} (hi : q_inj syM ad)  (M : Mem) (r0 : Int) (M0 : Mem) (h : f_X10_soulAtHand  M = some (r0, M0)) : q_Met l syM D ad cA yX10_soulAtHand cX10_soulAtHand 2 (some .int) rm_X10_soulAtHand [.ref (ad 0)] M (some (.int (qI r0))) M0 := by
  refine q_met (L0 := [(0, .ref (ad 0))]) hi okM (by decide) (Nat.le_of_ble_eq_true rfl) rfl ?_
  intro p e s m args below meth c C hr hlk
  unfold f_X10_soulAtHand at h
  refine r_aln C dX10_soulAtHand_0 (k := 0) rfl ?_
  refine r_gf C km_0 clX10 (f := 26) (by decide) rfl rfl rfl tf_RX10_196 dX10_soulAtHand_1 h (fun v1 h => ?_)
  refine r_zeq C (tgt := 9) dX10_soulAtHand_4 (by decide) h (fun h => ?_) (fun h => ?_)
  · refine r_aln C dX10_soulAtHand_9 (k := 0) rfl ?_
    refine r_gf C km_0 clX10 (f := 24) (by decide) rfl rfl rfl tf_RX10_161 dX10_soulAtHand_10 h (fun v2 h => ?_)
    refine r_ic C dX10_soulAtHand_13 ?_
    refine r_ceq C (tgt := 22) dX10_soulAtHand_14 (by decide) h (fun h => ?_) (fun h => ?_)
    · exact w_X10_soulAtHand_J22 C hr hlk  M  h
    · refine r_aln C dX10_soulAtHand_17 (k := 0) rfl ?_
      refine r_ic C dX10_soulAtHand_18 ?_
      obtain ⟨r3, M4, hy, h⟩ := q_call_some h
      refine r_cvv C (st := []) (c_X10_wrong C.2.2.1 1 M r3 M4 hy) tm_RX10_205 mw_X10_wrong ⟨rfl, rfl⟩ ⟨Nat.le_of_ble_eq_true rfl, Nat.le_of_ble_eq_true rfl⟩ km_0 clX10 rfl rfl (Nat.le_of_ble_eq_true rfl) dX10_soulAtHand_19 ?_
      exact w_X10_soulAtHand_J22 C hr hlk  M4  h
  · refine r_ic C dX10_soulAtHand_7 ?_
    exact r_iret C hr hlk dX10_soulAtHand_8 h
abbrev rm_X10_strike : Room := { frames := 0, cells := 0, slots := 0, locals := 0 }
theorem mw_X10_strike : q_mw RX10 yX10_strike cX10_strike 2 (some .int) 1 := ⟨⟨ti_X10_strike, tl_X10_strike, tn_RX10, td_X10_strike⟩, by decide +kernel⟩
def f_X10_strike (a0 : Int) (M : Mem) : Res :=
  q_pf M 0 0 0 fun M1 =>
  if w32 a0 < 0 then (some ((-1), M1))
  else (q_gf M1 0 58 fun v2 =>
  if w32 v2 ≤ w32 a0 then (some ((-1), M1))
  else (q_gf M1 0 58 fun v3 =>
  if ¬ w32 v3 = w32 24 then (q_gf M1 0 58 fun v4 =>
  q_as M1 95 24 v4 a0 fun M5 =>
  q_gf M5 0 58 fun v6 =>
  q_pf M5 0 58 (v6 + 1) fun M7 =>
  q_gf M7 0 58 fun v8 =>
  some (v8 - 1, M7))
  else (some ((-1), M1))))
theorem c_X10_strike {l : Launch} {D : va_G} {ad : Nat → Nat} {cA : Nat → ClassId} (hi : q_inj syM ad) (a0 : Int) (M : Mem) (r0 : Int) (M0 : Mem) (h : f_X10_strike a0 M = some (r0, M0)) : q_Met l syM D ad cA yX10_strike cX10_strike 2 (some .int) rm_X10_strike [.ref (ad 0), .int (qI a0)] M (some (.int (qI r0))) M0 := by
  refine q_met (L0 := [(0, .ref (ad 0)), (1, .int (qI a0))]) hi okM (by decide) (Nat.le_of_ble_eq_true rfl) rfl ?_
  intro p e s m args below meth c C hr hlk
  unfold f_X10_strike at h
  refine r_aln C dX10_strike_0 (k := 0) rfl ?_
  refine r_ic C dX10_strike_1 ?_
  refine r_pf C km_0 clX10 (f := 0) (by decide) rfl q_dI rfl rfl tf_RX10_142 dX10_strike_2 h (fun M1 h => ?_)
  refine r_iln C dX10_strike_5 (k := 1) rfl ?_
  refine r_zlt C (tgt := 26) dX10_strike_6 (by decide) h (fun h => ?_) (fun h => ?_)
  · refine r_ic C dX10_strike_26 ?_
    exact r_iret C hr hlk dX10_strike_27 h
  · refine r_iln C dX10_strike_9 (k := 1) rfl ?_
    refine r_aln C dX10_strike_10 (k := 0) rfl ?_
    refine r_gf C km_0 clX10 (f := 58) (by decide) rfl rfl rfl tf_RX10_295 dX10_strike_11 h (fun v2 h => ?_)
    refine r_cge C (tgt := 26) dX10_strike_14 (by decide) h (fun h => ?_) (fun h => ?_)
    · refine r_ic C dX10_strike_26 ?_
      exact r_iret C hr hlk dX10_strike_27 h
    · refine r_aln C dX10_strike_17 (k := 0) rfl ?_
      refine r_gf C km_0 clX10 (f := 58) (by decide) rfl rfl rfl tf_RX10_295 dX10_strike_18 h (fun v3 h => ?_)
      refine r_bi C dX10_strike_21 (by decide) ?_
      refine r_cne C (tgt := 28) dX10_strike_23 (by decide) h (fun h => ?_) (fun h => ?_)
      · refine r_aln C dX10_strike_28 (k := 0) rfl ?_
        refine r_gs C km_0 clX10 (f := 63) (by decide) rfl (t := 95) rfl tf_RX10_133 dX10_strike_29 ?_
        refine r_aln C dX10_strike_32 (k := 0) rfl ?_
        refine r_gf C km_0 clX10 (f := 58) (by decide) rfl rfl rfl tf_RX10_295 dX10_strike_33 h (fun v4 h => ?_)
        refine r_iln C dX10_strike_36 (k := 1) rfl ?_
        refine r_iast C km_95 dX10_strike_37 h (fun M5 h => ?_)
        refine r_aln C dX10_strike_38 (k := 0) rfl ?_
        refine r_dup C rfl dX10_strike_39 ?_
        refine r_gf C km_0 clX10 (f := 58) (by decide) rfl rfl rfl tf_RX10_295 dX10_strike_40 h (fun v6 h => ?_)
        refine r_ic C dX10_strike_43 ?_
        refine r_iadd C dX10_strike_44 ?_
        refine r_pf C km_0 clX10 (f := 58) (by decide) rfl q_dI rfl rfl tf_RX10_295 dX10_strike_45 h (fun M7 h => ?_)
        refine r_aln C dX10_strike_48 (k := 0) rfl ?_
        refine r_gf C km_0 clX10 (f := 58) (by decide) rfl rfl rfl tf_RX10_295 dX10_strike_49 h (fun v8 h => ?_)
        refine r_ic C dX10_strike_52 ?_
        refine r_isub C dX10_strike_53 ?_
        exact r_iret C hr hlk dX10_strike_54 h
      · refine r_ic C dX10_strike_26 ?_
        exact r_iret C hr hlk dX10_strike_27 h
abbrev rm_X10_thrown : Room := { frames := 0, cells := 0, slots := 0, locals := 0 }
theorem mw_X10_thrown : q_mw RX10 yX10_thrown cX10_thrown 1 (some .int) 0 := ⟨⟨ti_X10_thrown, tl_X10_thrown, tn_RX10, td_X10_thrown⟩, by decide +kernel⟩
def f_X10_thrown  (M : Mem) : Option Int :=
  q_gf M 0 0 fun v1 =>
  some v1
theorem c_X10_thrown {l : Launch} {D : va_G} {ad : Nat → Nat} {cA : Nat → ClassId} (hi : q_inj syM ad)  (M : Mem) (r0 : Int) (h : f_X10_thrown  M = some r0) : q_Met l syM D ad cA yX10_thrown cX10_thrown 1 (some .int) rm_X10_thrown [.ref (ad 0)] M (some (.int (qI r0))) M := by
  refine q_met (L0 := [(0, .ref (ad 0))]) hi okM (by decide) (Nat.le_of_ble_eq_true rfl) rfl ?_
  intro p e s m args below meth c C hr hlk
  unfold f_X10_thrown at h
  refine r_aln C dX10_thrown_0 (k := 0) rfl ?_
  refine r_gf C km_0 clX10 (f := 0) (by decide) rfl rfl rfl tf_RX10_142 dX10_thrown_1 h (fun v1 h => ?_)
  exact r_iretp C hr hlk dX10_thrown_4 h
abbrev rm_X10_tried : Room := { frames := 7, cells := 0, slots := 0, locals := 167 }
theorem mw_X10_tried : q_mw RX10 yX10_tried cX10_tried 6 (some .int) 3 := ⟨⟨ti_X10_tried, tl_X10_tried, tn_RX10, td_X10_tried⟩, by decide +kernel⟩
def f_X10_tried_J120 (x1 : Int) (x3 : Int) (M : Mem) : Res :=
  q_pf M 0 47 x1 fun M1 =>
  q_call (f_X10_goesOn x3 M1) fun r2 M3 =>
  q_pf M3 0 47 0 fun M4 =>
  q_calp (f_X10_soulsOf 1 2 M4) fun r5 =>
  q_calp (f_X10_soulsOf 0 2 M4) fun r6 =>
  some (r5 - r6, M4)
theorem w_X10_tried_J120 (C : Cx syM p m c cX10_tried 6 s args RX10 D ad cA) (hr : meth.sig.returnType = (some .int)) (hlk : meth.locks = false) (x1 : Int) (x3 : Int) (M : Mem)  (h : f_X10_tried_J120 x1 x3 M = some (r0, M0)) : WM syM p l e rm_X10_tried s m args below meth c 6 D ad cA (MQ below (q_Post syM D ad cA (some (.int (qI r0))) M0) args s 0 0 (q_A syM ad)) M 120 [(0, .ref (ad 0)), (1, .int (qI x1)), (3, .int (qI x3))] [] := by
  unfold f_X10_tried_J120 at h
  refine r_aln C dX10_tried_120 (k := 0) rfl ?_
  refine r_iln C dX10_tried_121 (k := 1) rfl ?_
  refine r_pf C km_0 clX10 (f := 47) (by decide) rfl q_dI rfl rfl tf_RX10_349 dX10_tried_122 h (fun M1 h => ?_)
  refine r_aln C dX10_tried_125 (k := 0) rfl ?_
  refine r_iln C dX10_tried_126 (k := 2) rfl ?_
  obtain ⟨r2, M3, hy, h⟩ := q_call_some h
  refine r_cvv C (st := []) (c_X10_goesOn C.2.2.1 x3 M1 r2 M3 hy) tm_RX10_408 mw_X10_goesOn ⟨rfl, rfl⟩ ⟨Nat.le_of_ble_eq_true rfl, Nat.le_of_ble_eq_true rfl⟩ km_0 clX10 rfl rfl (Nat.le_of_ble_eq_true rfl) dX10_tried_127 ?_
  refine r_aln C dX10_tried_130 (k := 0) rfl ?_
  refine r_ic C dX10_tried_131 ?_
  refine r_pf C km_0 clX10 (f := 47) (by decide) rfl q_dI rfl rfl tf_RX10_349 dX10_tried_132 h (fun M4 h => ?_)
  refine r_aln C dX10_tried_135 (k := 0) rfl ?_
  refine r_ic C dX10_tried_136 ?_
  refine r_ic C dX10_tried_137 ?_
  obtain ⟨r5, hy, h⟩ := q_calp_some h
  refine r_cvi C (st := []) (c_X10_soulsOf C.2.2.1 1 2 M4 r5 hy) tm_RX10_436 mw_X10_soulsOf ⟨rfl, rfl⟩ ⟨Nat.le_of_ble_eq_true rfl, Nat.le_of_ble_eq_true rfl⟩ km_0 clX10 rfl rfl (Nat.le_of_ble_eq_true rfl) dX10_tried_138 ?_
  refine r_aln C dX10_tried_141 (k := 0) rfl ?_
  refine r_ic C dX10_tried_142 ?_
  refine r_ic C dX10_tried_143 ?_
  obtain ⟨r6, hy, h⟩ := q_calp_some h
  refine r_cvi C (st := [.int (qI r5)]) (c_X10_soulsOf C.2.2.1 0 2 M4 r6 hy) tm_RX10_436 mw_X10_soulsOf ⟨rfl, rfl⟩ ⟨Nat.le_of_ble_eq_true rfl, Nat.le_of_ble_eq_true rfl⟩ km_0 clX10 rfl rfl (Nat.le_of_ble_eq_true rfl) dX10_tried_144 ?_
  refine r_isub C dX10_tried_147 ?_
  exact r_iret C hr hlk dX10_tried_148 h
def f_X10_tried_B90 (x1 : Int) (x3 : Int) (x5 : Int) (M : Mem) (g90 : Int → Mem → Res) : Res :=
  if w32 8 ≤ w32 x5 then (f_X10_tried_J120 x1 x3 M)
  else (if ¬ w32 x1 = w32 5 then (f_X10_tried_J120 x1 x3 M)
  else (q_as M 72 184 (8 + x5) 99 fun M1 =>
  g90 (x5 + 1) M1))
def f_X10_tried_L90 (x1 : Int) (x3 : Int) (n : Nat) (x5 : Int) (M : Mem) : Res := qlm1 (fun x5 M g90 => f_X10_tried_B90 x1 x3 x5 M g90) n x5 M
theorem w_X10_tried_B90 (C : Cx syM p m c cX10_tried 6 s args RX10 D ad cA) (hr : meth.sig.returnType = (some .int)) (hlk : meth.locks = false)  (x1 : Int) (x3 : Int) (x5 : Int) (M : Mem) (g90 : Int → Mem → Res)  (ih90 : ∀ (ux5 : Int) (M : Mem), g90 ux5 M = some (r0, M0) → WM syM p l e rm_X10_tried s m args below meth c 6 D ad cA (MQ below (q_Post syM D ad cA (some (.int (qI r0))) M0) args s 0 0 (q_A syM ad)) M 90 [(0, .ref (ad 0)), (1, .int (qI x1)), (3, .int (qI x3)), (5, .int (qI ux5))] []) (h : f_X10_tried_B90 x1 x3 x5 M g90 = some (r0, M0)) : WM syM p l e rm_X10_tried s m args below meth c 6 D ad cA (MQ below (q_Post syM D ad cA (some (.int (qI r0))) M0) args s 0 0 (q_A syM ad)) M 90 [(0, .ref (ad 0)), (1, .int (qI x1)), (3, .int (qI x3)), (5, .int (qI x5))] [] := by
  unfold f_X10_tried_B90 at h
  refine r_il C dX10_tried_90 (k := 3) rfl ?_
  refine r_bi C dX10_tried_92 (by decide) ?_
  refine r_cge C (tgt := 120) dX10_tried_94 (by decide) h (fun h => ?_) (fun h => ?_)
  · refine r_drop [0, 1, 2] rfl ?_
    exact w_X10_tried_J120 C hr hlk x1 x3 M  h
  · refine r_iln C dX10_tried_97 (k := 1) rfl ?_
    refine r_ic C dX10_tried_98 ?_
    refine r_cne C (tgt := 120) dX10_tried_99 (by decide) h (fun h => ?_) (fun h => ?_)
    · refine r_drop [0, 1, 2] rfl ?_
      exact w_X10_tried_J120 C hr hlk x1 x3 M  h
    · refine r_aln C dX10_tried_102 (k := 0) rfl ?_
      refine r_gs C km_0 clX10 (f := 40) (by decide) rfl (t := 72) rfl tf_RX10_87 dX10_tried_103 ?_
      refine r_bi C dX10_tried_106 (by decide) ?_
      refine r_il C dX10_tried_108 (k := 3) rfl ?_
      refine r_iadd C dX10_tried_110 ?_
      refine r_bi C dX10_tried_111 (by decide) ?_
      refine r_iast C km_72 dX10_tried_113 h (fun M1 h => ?_)
      refine r_inc C (L1 := [(5, .int (qI (x5 + 1))), (0, .ref (ad 0)), (1, .int (qI x1)), (3, .int (qI x3))]) dX10_tried_114 (k := 3) rfl (by decide) rfl ?_
      refine r_goto C (tgt := 90) dX10_tried_117 (by decide) ?_
      refine r_drop [1, 2, 3, 0] rfl ?_
      exact ih90 (x5 + 1) M1 h
theorem w_X10_tried_L90 (C : Cx syM p m c cX10_tried 6 s args RX10 D ad cA) (hr : meth.sig.returnType = (some .int)) (hlk : meth.locks = false)  (x1 : Int) (x3 : Int)  (n : Nat) (x5 : Int) (M : Mem) (h : f_X10_tried_L90 x1 x3 n x5 M = some (r0, M0)) : WM syM p l e rm_X10_tried s m args below meth c 6 D ad cA (MQ below (q_Post syM D ad cA (some (.int (qI r0))) M0) args s 0 0 (q_A syM ad)) M 90 [(0, .ref (ad 0)), (1, .int (qI x1)), (3, .int (qI x3)), (5, .int (qI x5))] [] :=
  qlm1_r (Wp := fun ux5 M => WM syM p l e rm_X10_tried s m args below meth c 6 D ad cA (MQ below (q_Post syM D ad cA (some (.int (qI r0))) M0) args s 0 0 (q_A syM ad)) M 90 [(0, .ref (ad 0)), (1, .int (qI x1)), (3, .int (qI x3)), (5, .int (qI ux5))] []) (fun ux5 M g90 ih90 h => w_X10_tried_B90 C hr hlk x1 x3 ux5 M g90  ih90 h) n x5 M h
def f_X10_tried_J87 (x1 : Int) (x3 : Int) (M : Mem) : Res :=
  f_X10_tried_L90 x1 x3 q_N 0 M
theorem w_X10_tried_J87 (C : Cx syM p m c cX10_tried 6 s args RX10 D ad cA) (hr : meth.sig.returnType = (some .int)) (hlk : meth.locks = false) (x1 : Int) (x3 : Int) (M : Mem)  (h : f_X10_tried_J87 x1 x3 M = some (r0, M0)) : WM syM p l e rm_X10_tried s m args below meth c 6 D ad cA (MQ below (q_Post syM D ad cA (some (.int (qI r0))) M0) args s 0 0 (q_A syM ad)) M 87 [(0, .ref (ad 0)), (1, .int (qI x1)), (3, .int (qI x3))] [] := by
  unfold f_X10_tried_J87 at h
  refine r_ic C dX10_tried_87 ?_
  refine r_is C (L1 := [(5, .int (qI 0)), (0, .ref (ad 0)), (1, .int (qI x1)), (3, .int (qI x3))]) dX10_tried_88 (by decide) rfl ?_
  refine r_drop [1, 2, 3, 0] rfl ?_
  exact w_X10_tried_L90 C hr hlk x1 x3  q_N 0 M h
def f_X10_tried_J36 (x1 : Int) (x2 : Int) (x3 : Int) (y0 : Int) (M : Mem) : Res :=
  if w32 y0 = 0 then (some ((-1), M))
  else (if w32 x3 < 0 then (some ((-1), M))
  else (if w32 x3 ≤ w32 200 then (q_call (f_X10_copies 1 0 M) fun r1 M2 =>
  if ¬ w32 x1 = w32 2 then (f_X10_tried_J87 x1 x3 M2)
  else (q_al M2 71 184 (8 + x2) fun v3 =>
  if w32 2 ≤ w32 v3 then (f_X10_tried_J87 x1 x3 M2)
  else (q_call (f_X10_leaves 1 x2 3 M2) fun r4 M5 =>
  f_X10_tried_J87 x1 x3 M5)))
  else (some ((-1), M))))
theorem w_X10_tried_J36 (C : Cx syM p m c cX10_tried 6 s args RX10 D ad cA) (hr : meth.sig.returnType = (some .int)) (hlk : meth.locks = false) (x1 : Int) (x2 : Int) (x3 : Int) (y0 : Int) (M : Mem)  (h : f_X10_tried_J36 x1 x2 x3 y0 M = some (r0, M0)) : WM syM p l e rm_X10_tried s m args below meth c 6 D ad cA (MQ below (q_Post syM D ad cA (some (.int (qI r0))) M0) args s 0 0 (q_A syM ad)) M 36 [(0, .ref (ad 0)), (1, .int (qI x1)), (2, .int (qI x2)), (3, .int (qI x3))] [.int (qI y0)] := by
  unfold f_X10_tried_J36 at h
  refine r_is C (L1 := [(4, .int (qI y0)), (0, .ref (ad 0)), (1, .int (qI x1)), (2, .int (qI x2)), (3, .int (qI x3))]) dX10_tried_36 (by decide) rfl ?_
  refine r_il C dX10_tried_38 (k := 0) rfl ?_
  refine r_zeq C (tgt := 54) dX10_tried_40 (by decide) h (fun h => ?_) (fun h => ?_)
  · refine r_ic C dX10_tried_54 ?_
    exact r_iret C hr hlk dX10_tried_55 h
  · refine r_iln C dX10_tried_43 (k := 4) rfl ?_
    refine r_zlt C (tgt := 54) dX10_tried_44 (by decide) h (fun h => ?_) (fun h => ?_)
    · refine r_ic C dX10_tried_54 ?_
      exact r_iret C hr hlk dX10_tried_55 h
    · refine r_iln C dX10_tried_47 (k := 4) rfl ?_
      refine r_si C dX10_tried_48 (by decide) ?_
      refine r_cle C (tgt := 56) dX10_tried_51 (by decide) h (fun h => ?_) (fun h => ?_)
      · refine r_aln C dX10_tried_56 (k := 1) rfl ?_
        refine r_ic C dX10_tried_57 ?_
        refine r_ic C dX10_tried_58 ?_
        obtain ⟨r1, M2, hy, h⟩ := q_call_some h
        refine r_cvv C (st := []) (c_X10_copies C.2.2.1 1 0 M r1 M2 hy) tm_RX10_405 mw_X10_copies ⟨rfl, rfl⟩ ⟨Nat.le_of_ble_eq_true rfl, Nat.le_of_ble_eq_true rfl⟩ km_0 clX10 rfl rfl (Nat.le_of_ble_eq_true rfl) dX10_tried_59 ?_
        refine r_iln C dX10_tried_62 (k := 2) rfl ?_
        refine r_ic C dX10_tried_63 ?_
        refine r_cne C (tgt := 87) dX10_tried_64 (by decide) h (fun h => ?_) (fun h => ?_)
        · refine r_drop [1, 2, 4] rfl ?_
          exact w_X10_tried_J87 C hr hlk x1 x3 M2  h
        · refine r_aln C dX10_tried_67 (k := 1) rfl ?_
          refine r_gs C km_0 clX10 (f := 39) (by decide) rfl (t := 71) rfl tf_RX10_84 dX10_tried_68 ?_
          refine r_bi C dX10_tried_71 (by decide) ?_
          refine r_iln C dX10_tried_73 (k := 3) rfl ?_
          refine r_iadd C dX10_tried_74 ?_
          refine r_iald C km_71 dX10_tried_75 h (fun v3 h => ?_)
          refine r_ic C dX10_tried_76 ?_
          refine r_cge C (tgt := 87) dX10_tried_77 (by decide) h (fun h => ?_) (fun h => ?_)
          · refine r_drop [1, 2, 4] rfl ?_
            exact w_X10_tried_J87 C hr hlk x1 x3 M2  h
          · refine r_aln C dX10_tried_80 (k := 1) rfl ?_
            refine r_ic C dX10_tried_81 ?_
            refine r_iln C dX10_tried_82 (k := 3) rfl ?_
            refine r_ic C dX10_tried_83 ?_
            obtain ⟨r4, M5, hy, h⟩ := q_call_some h
            refine r_cvv C (st := []) (c_X10_leaves C.2.2.1 1 x2 3 M2 r4 M5 hy) tm_RX10_373 mw_X10_leaves ⟨rfl, rfl⟩ ⟨Nat.le_of_ble_eq_true rfl, Nat.le_of_ble_eq_true rfl⟩ km_0 clX10 rfl rfl (Nat.le_of_ble_eq_true rfl) dX10_tried_84 ?_
            refine r_drop [1, 2, 4] rfl ?_
            exact w_X10_tried_J87 C hr hlk x1 x3 M5  h
      · refine r_ic C dX10_tried_54 ?_
        exact r_iret C hr hlk dX10_tried_55 h
def f_X10_tried_J35 (x1 : Int) (x2 : Int) (x3 : Int) (M : Mem) : Res :=
  f_X10_tried_J36 x1 x2 x3 0 M
theorem w_X10_tried_J35 (C : Cx syM p m c cX10_tried 6 s args RX10 D ad cA) (hr : meth.sig.returnType = (some .int)) (hlk : meth.locks = false) (x1 : Int) (x2 : Int) (x3 : Int) (M : Mem)  (h : f_X10_tried_J35 x1 x2 x3 M = some (r0, M0)) : WM syM p l e rm_X10_tried s m args below meth c 6 D ad cA (MQ below (q_Post syM D ad cA (some (.int (qI r0))) M0) args s 0 0 (q_A syM ad)) M 35 [(0, .ref (ad 0)), (1, .int (qI x1)), (2, .int (qI x2)), (3, .int (qI x3))] [] := by
  unfold f_X10_tried_J35 at h
  refine r_ic C dX10_tried_35 ?_
  exact w_X10_tried_J36 C hr hlk x1 x2 x3 0 M  h
def f_X10_tried (a0 : Int) (a1 : Int) (a2 : Int) (M : Mem) : Res :=
  q_pf M 0 0 0 fun M1 =>
  if ¬ w32 a0 = w32 2 then (if w32 a0 < 0 then (f_X10_tried_J35 a0 a1 a2 M1)
  else (if w32 5 < w32 a0 then (f_X10_tried_J35 a0 a1 a2 M1)
  else (if ¬ w32 a1 = 0 then (f_X10_tried_J35 a0 a1 a2 M1)
  else (f_X10_tried_J36 a0 a1 a2 1 M1))))
  else (q_calp (f_X10_isSoul a1 M1) fun r2 =>
  f_X10_tried_J36 a0 a1 a2 r2 M1)
theorem c_X10_tried {l : Launch} {D : va_G} {ad : Nat → Nat} {cA : Nat → ClassId} (hi : q_inj syM ad) (a0 : Int) (a1 : Int) (a2 : Int) (M : Mem) (r0 : Int) (M0 : Mem) (h : f_X10_tried a0 a1 a2 M = some (r0, M0)) : q_Met l syM D ad cA yX10_tried cX10_tried 6 (some .int) rm_X10_tried [.ref (ad 0), .int (qI a0), .int (qI a1), .int (qI a2)] M (some (.int (qI r0))) M0 := by
  refine q_met (L0 := [(0, .ref (ad 0)), (1, .int (qI a0)), (2, .int (qI a1)), (3, .int (qI a2))]) hi okM (by decide) (Nat.le_of_ble_eq_true rfl) rfl ?_
  intro p e s m args below meth c C hr hlk
  unfold f_X10_tried at h
  refine r_aln C dX10_tried_0 (k := 0) rfl ?_
  refine r_ic C dX10_tried_1 ?_
  refine r_pf C km_0 clX10 (f := 0) (by decide) rfl q_dI rfl rfl tf_RX10_142 dX10_tried_2 h (fun M1 h => ?_)
  refine r_iln C dX10_tried_5 (k := 1) rfl ?_
  refine r_ic C dX10_tried_6 ?_
  refine r_cne C (tgt := 18) dX10_tried_7 (by decide) h (fun h => ?_) (fun h => ?_)
  · refine r_iln C dX10_tried_18 (k := 1) rfl ?_
    refine r_zlt C (tgt := 35) dX10_tried_19 (by decide) h (fun h => ?_) (fun h => ?_)
    · exact w_X10_tried_J35 C hr hlk a0 a1 a2 M1  h
    · refine r_iln C dX10_tried_22 (k := 1) rfl ?_
      refine r_ic C dX10_tried_23 ?_
      refine r_cgt C (tgt := 35) dX10_tried_24 (by decide) h (fun h => ?_) (fun h => ?_)
      · exact w_X10_tried_J35 C hr hlk a0 a1 a2 M1  h
      · refine r_iln C dX10_tried_27 (k := 2) rfl ?_
        refine r_zne C (tgt := 35) dX10_tried_28 (by decide) h (fun h => ?_) (fun h => ?_)
        · exact w_X10_tried_J35 C hr hlk a0 a1 a2 M1  h
        · refine r_ic C dX10_tried_31 ?_
          refine r_goto C (tgt := 36) dX10_tried_32 (by decide) ?_
          exact w_X10_tried_J36 C hr hlk a0 a1 a2 1 M1  h
  · refine r_aln C dX10_tried_10 (k := 0) rfl ?_
    refine r_iln C dX10_tried_11 (k := 2) rfl ?_
    obtain ⟨r2, hy, h⟩ := q_calp_some h
    refine r_cvi C (st := []) (c_X10_isSoul C.2.2.1 a1 M1 r2 hy) tm_RX10_411 mw_X10_isSoul ⟨rfl, rfl⟩ ⟨Nat.le_of_ble_eq_true rfl, Nat.le_of_ble_eq_true rfl⟩ km_0 clX10 rfl rfl (Nat.le_of_ble_eq_true rfl) dX10_tried_12 ?_
    refine r_goto C (tgt := 36) dX10_tried_15 (by decide) ?_
    exact w_X10_tried_J36 C hr hlk a0 a1 a2 r2 M1  h
end P13d
