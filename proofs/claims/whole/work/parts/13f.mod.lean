section P13f
variable {p : Program} {l : Launch} {e : Env} {s : State} {m : MethodId} {args : Array Value} {below : List Frame} {meth : Method} {c : Code} {D : va_G} {ad : Nat → Nat} {cA : Nat → ClassId} {r0 : Int} {M0 : Mem}
abbrev rm_X10_rests : Room := { frames := 3, cells := 0, slots := 0, locals := 74 }
theorem mw_X10_rests : q_mw RX10 yX10_rests cX10_rests 3 (some .int) 2 := ⟨⟨ti_X10_rests, tl_X10_rests, tn_RX10, td_X10_rests⟩, by decide +kernel⟩
def f_X10_rests (a0 : Int) (a1 : Int) (M : Mem) : Res :=
  q_pf M 0 0 0 fun M1 =>
  q_calp (f_X10_areTwo a0 a1 M1) fun r2 =>
  if w32 r2 = 0 then (some ((-1), M1))
  else (q_calp (f_X10_restOf a0 a1 (-1) M1) fun r3 =>
  some (r3, M1))
theorem c_X10_rests {l : Launch} {D : va_G} {ad : Nat → Nat} {cA : Nat → ClassId} (hi : q_inj syM ad) (a0 : Int) (a1 : Int) (M : Mem) (r0 : Int) (M0 : Mem) (h : f_X10_rests a0 a1 M = some (r0, M0)) : q_Met l syM D ad cA yX10_rests cX10_rests 3 (some .int) rm_X10_rests [.ref (ad 0), .int (qI a0), .int (qI a1)] M (some (.int (qI r0))) M0 := by
  refine q_met (L0 := [(0, .ref (ad 0)), (1, .int (qI a0)), (2, .int (qI a1))]) hi okM (by decide) (Nat.le_of_ble_eq_true rfl) rfl ?_
  intro p e s m args below meth c C hr hlk
  unfold f_X10_rests at h
  refine r_aln C dX10_rests_0 (k := 0) rfl ?_
  refine r_ic C dX10_rests_1 ?_
  refine r_pf C km_0 clX10 (f := 0) (by decide) rfl q_dI rfl rfl tf_RX10_142 dX10_rests_2 h (fun M1 h => ?_)
  refine r_aln C dX10_rests_5 (k := 0) rfl ?_
  refine r_iln C dX10_rests_6 (k := 1) rfl ?_
  refine r_iln C dX10_rests_7 (k := 2) rfl ?_
  obtain ⟨r2, hy, h⟩ := q_calp_some h
  refine r_cvi C (st := []) (c_X10_areTwo C.2.2.1 a0 a1 M1 r2 hy) tm_RX10_467 mw_X10_areTwo ⟨rfl, rfl⟩ ⟨Nat.le_of_ble_eq_true rfl, Nat.le_of_ble_eq_true rfl⟩ km_0 clX10 rfl rfl (Nat.le_of_ble_eq_true rfl) dX10_rests_8 ?_
  refine r_zeq C (tgt := 24) dX10_rests_11 (by decide) h (fun h => ?_) (fun h => ?_)
  · refine r_ic C dX10_rests_24 ?_
    exact r_iret C hr hlk dX10_rests_25 h
  · refine r_aln C dX10_rests_14 (k := 0) rfl ?_
    refine r_iln C dX10_rests_15 (k := 1) rfl ?_
    refine r_iln C dX10_rests_16 (k := 2) rfl ?_
    refine r_ic C dX10_rests_17 ?_
    obtain ⟨r3, hy, h⟩ := q_calp_some h
    refine r_cvi C (st := []) (c_X10_restOf C.2.2.1 a0 a1 (-1) M1 r3 hy) tm_RX10_470 mw_X10_restOf ⟨rfl, rfl⟩ ⟨Nat.le_of_ble_eq_true rfl, Nat.le_of_ble_eq_true rfl⟩ km_0 clX10 rfl rfl (Nat.le_of_ble_eq_true rfl) dX10_rests_18 ?_
    refine r_goto C (tgt := 25) dX10_rests_21 (by decide) ?_
    exact r_iret C hr hlk dX10_rests_25 h
abbrev rm_X10_see : Room := { frames := 1, cells := 0, slots := 0, locals := 21 }
theorem mw_X10_see : q_mw RX10 yX10_see cX10_see 4 (some .int) 3 := ⟨⟨ti_X10_see, tl_X10_see, tn_RX10, td_X10_see⟩, by decide +kernel⟩
def f_X10_see (a0 : Int) (a1 : Int) (a2 : Int) (M : Mem) : Res :=
  q_pf M 0 0 0 fun M1 =>
  if w32 a0 < w32 1 then (some ((-1), M1))
  else (if w32 60 < w32 a0 then (some ((-1), M1))
  else (q_calp (f_X10_isSoul a1 M1) fun r2 =>
  if w32 r2 = 0 then (some ((-1), M1))
  else (q_gf M1 0 58 fun v3 =>
  if ¬ w32 v3 = w32 24 then (q_gf M1 0 58 fun v4 =>
  q_as M1 92 24 v4 a0 fun M5 =>
  q_gf M5 0 58 fun v6 =>
  q_as M5 93 24 v6 a1 fun M7 =>
  q_gf M7 0 58 fun v8 =>
  if a2 = 0 ∨ a2 = 1 then (q_as M7 94 24 v8 a2 fun M9 =>
  q_gf M9 0 58 fun v10 =>
  q_as M9 95 24 v10 (-1) fun M11 =>
  q_gf M11 0 58 fun v12 =>
  q_pf M11 0 58 (v12 + 1) fun M13 =>
  q_gf M13 0 58 fun v14 =>
  some (v14 - 1, M13)) else none)
  else (some ((-1), M1)))))
theorem c_X10_see {l : Launch} {D : va_G} {ad : Nat → Nat} {cA : Nat → ClassId} (hi : q_inj syM ad) (a0 : Int) (a1 : Int) (a2 : Int) (M : Mem) (r0 : Int) (M0 : Mem) (h : f_X10_see a0 a1 a2 M = some (r0, M0)) : q_Met l syM D ad cA yX10_see cX10_see 4 (some .int) rm_X10_see [.ref (ad 0), .int (qI a0), .int (qI a1), .int (qI a2)] M (some (.int (qI r0))) M0 := by
  refine q_met (L0 := [(0, .ref (ad 0)), (1, .int (qI a0)), (2, .int (qI a1)), (3, .int (qI a2))]) hi okM (by decide) (Nat.le_of_ble_eq_true rfl) rfl ?_
  intro p e s m args below meth c C hr hlk
  unfold f_X10_see at h
  refine r_aln C dX10_see_0 (k := 0) rfl ?_
  refine r_ic C dX10_see_1 ?_
  refine r_pf C km_0 clX10 (f := 0) (by decide) rfl q_dI rfl rfl tf_RX10_142 dX10_see_2 h (fun M1 h => ?_)
  refine r_iln C dX10_see_5 (k := 1) rfl ?_
  refine r_ic C dX10_see_6 ?_
  refine r_clt C (tgt := 33) dX10_see_7 (by decide) h (fun h => ?_) (fun h => ?_)
  · refine r_ic C dX10_see_33 ?_
    exact r_iret C hr hlk dX10_see_34 h
  · refine r_iln C dX10_see_10 (k := 1) rfl ?_
    refine r_bi C dX10_see_11 (by decide) ?_
    refine r_cgt C (tgt := 33) dX10_see_13 (by decide) h (fun h => ?_) (fun h => ?_)
    · refine r_ic C dX10_see_33 ?_
      exact r_iret C hr hlk dX10_see_34 h
    · refine r_aln C dX10_see_16 (k := 0) rfl ?_
      refine r_iln C dX10_see_17 (k := 2) rfl ?_
      obtain ⟨r2, hy, h⟩ := q_calp_some h
      refine r_cvi C (st := []) (c_X10_isSoul C.2.2.1 a1 M1 r2 hy) tm_RX10_411 mw_X10_isSoul ⟨rfl, rfl⟩ ⟨Nat.le_of_ble_eq_true rfl, Nat.le_of_ble_eq_true rfl⟩ km_0 clX10 rfl rfl (Nat.le_of_ble_eq_true rfl) dX10_see_18 ?_
      refine r_zeq C (tgt := 33) dX10_see_21 (by decide) h (fun h => ?_) (fun h => ?_)
      · refine r_ic C dX10_see_33 ?_
        exact r_iret C hr hlk dX10_see_34 h
      · refine r_aln C dX10_see_24 (k := 0) rfl ?_
        refine r_gf C km_0 clX10 (f := 58) (by decide) rfl rfl rfl tf_RX10_295 dX10_see_25 h (fun v3 h => ?_)
        refine r_bi C dX10_see_28 (by decide) ?_
        refine r_cne C (tgt := 35) dX10_see_30 (by decide) h (fun h => ?_) (fun h => ?_)
        · refine r_aln C dX10_see_35 (k := 0) rfl ?_
          refine r_gs C km_0 clX10 (f := 60) (by decide) rfl (t := 92) rfl tf_RX10_123 dX10_see_36 ?_
          refine r_aln C dX10_see_39 (k := 0) rfl ?_
          refine r_gf C km_0 clX10 (f := 58) (by decide) rfl rfl rfl tf_RX10_295 dX10_see_40 h (fun v4 h => ?_)
          refine r_iln C dX10_see_43 (k := 1) rfl ?_
          refine r_iast C km_92 dX10_see_44 h (fun M5 h => ?_)
          refine r_aln C dX10_see_45 (k := 0) rfl ?_
          refine r_gs C km_0 clX10 (f := 61) (by decide) rfl (t := 93) rfl tf_RX10_126 dX10_see_46 ?_
          refine r_aln C dX10_see_49 (k := 0) rfl ?_
          refine r_gf C km_0 clX10 (f := 58) (by decide) rfl rfl rfl tf_RX10_295 dX10_see_50 h (fun v6 h => ?_)
          refine r_iln C dX10_see_53 (k := 2) rfl ?_
          refine r_iast C km_93 dX10_see_54 h (fun M7 h => ?_)
          refine r_aln C dX10_see_55 (k := 0) rfl ?_
          refine r_gs C km_0 clX10 (f := 62) (by decide) rfl (t := 94) rfl tf_RX10_129 dX10_see_56 ?_
          refine r_aln C dX10_see_59 (k := 0) rfl ?_
          refine r_gf C km_0 clX10 (f := 58) (by decide) rfl rfl rfl tf_RX10_295 dX10_see_60 h (fun v8 h => ?_)
          refine r_iln C dX10_see_63 (k := 3) rfl ?_
          refine r_zast C km_94 dX10_see_64 h (fun M9 h => ?_)
          refine r_aln C dX10_see_65 (k := 0) rfl ?_
          refine r_gs C km_0 clX10 (f := 63) (by decide) rfl (t := 95) rfl tf_RX10_133 dX10_see_66 ?_
          refine r_aln C dX10_see_69 (k := 0) rfl ?_
          refine r_gf C km_0 clX10 (f := 58) (by decide) rfl rfl rfl tf_RX10_295 dX10_see_70 h (fun v10 h => ?_)
          refine r_ic C dX10_see_73 ?_
          refine r_iast C km_95 dX10_see_74 h (fun M11 h => ?_)
          refine r_aln C dX10_see_75 (k := 0) rfl ?_
          refine r_dup C rfl dX10_see_76 ?_
          refine r_gf C km_0 clX10 (f := 58) (by decide) rfl rfl rfl tf_RX10_295 dX10_see_77 h (fun v12 h => ?_)
          refine r_ic C dX10_see_80 ?_
          refine r_iadd C dX10_see_81 ?_
          refine r_pf C km_0 clX10 (f := 58) (by decide) rfl q_dI rfl rfl tf_RX10_295 dX10_see_82 h (fun M13 h => ?_)
          refine r_aln C dX10_see_85 (k := 0) rfl ?_
          refine r_gf C km_0 clX10 (f := 58) (by decide) rfl rfl rfl tf_RX10_295 dX10_see_86 h (fun v14 h => ?_)
          refine r_ic C dX10_see_89 ?_
          refine r_isub C dX10_see_90 ?_
          exact r_iret C hr hlk dX10_see_91 h
        · refine r_ic C dX10_see_33 ?_
          exact r_iret C hr hlk dX10_see_34 h
abbrev rm_X10_withSoul : Room := { frames := 0, cells := 0, slots := 0, locals := 0 }
theorem mw_X10_withSoul : q_mw RX10 yX10_withSoul cX10_withSoul 4 (some .int) 1 := ⟨⟨ti_X10_withSoul, tl_X10_withSoul, tn_RX10, td_X10_withSoul⟩, by decide +kernel⟩
def f_X10_withSoul_B4 (x1 : Int) (M : Mem) (x2 : Int) (x3 : Int) (g4 : Int → Int → Option Int) : Option Int :=
  q_al M 35 14 0 fun v1 =>
  if w32 v1 ≤ w32 x3 then (some x2)
  else (q_al M 71 184 x1 fun v2 =>
  if ¬ w32 v2 = w32 2 then (some x2)
  else (q_al M 75 184 x3 fun v3 =>
  q_al M 75 184 x1 fun v4 =>
  if ¬ w32 v3 = w32 v4 then (g4 (q_or x2 0) (x3 + 1))
  else (q_al M 76 184 x3 fun v5 =>
  q_al M 76 184 x1 fun v6 =>
  if ¬ w32 v5 = w32 v6 then (g4 (q_or x2 0) (x3 + 1))
  else (g4 (q_or x2 (q_shl 1 x3)) (x3 + 1)))))
def f_X10_withSoul_L4 (x1 : Int) (M : Mem) (n : Nat) (x2 : Int) (x3 : Int) : Option Int := qlp2 (fun x2 x3 g4 => f_X10_withSoul_B4 x1 M x2 x3 g4) n x2 x3
theorem w_X10_withSoul_B4 (C : Cx syM p m c cX10_withSoul 4 s args RX10 D ad cA) (hr : meth.sig.returnType = (some .int)) (hlk : meth.locks = false)  (x1 : Int) (x2 : Int) (x3 : Int) (M : Mem) (g4 : Int → Int → Option Int)  (ih4 : ∀ (ux2 ux3 : Int) , g4 ux2 ux3  = some r0 → WM syM p l e rm_X10_withSoul s m args below meth c 4 D ad cA (MQ below (q_Post syM D ad cA (some (.int (qI r0))) M) args s 0 0 (q_A syM ad)) M 4 [(0, .ref (ad 0)), (1, .int (qI x1)), (2, .int (qI ux2)), (3, .int (qI ux3))] []) (h : f_X10_withSoul_B4 x1 M x2 x3 g4 = some r0) : WM syM p l e rm_X10_withSoul s m args below meth c 4 D ad cA (MQ below (q_Post syM D ad cA (some (.int (qI r0))) M) args s 0 0 (q_A syM ad)) M 4 [(0, .ref (ad 0)), (1, .int (qI x1)), (2, .int (qI x2)), (3, .int (qI x3))] [] := by
  unfold f_X10_withSoul_B4 at h
  refine r_iln C dX10_withSoul_4 (k := 3) rfl ?_
  refine r_aln C dX10_withSoul_5 (k := 0) rfl ?_
  refine r_gs C km_0 clX10 (f := 3) (by decide) rfl (t := 35) rfl tf_RX10_13 dX10_withSoul_6 ?_
  refine r_ic C dX10_withSoul_9 ?_
  refine r_iald C km_35 dX10_withSoul_10 h (fun v1 h => ?_)
  refine r_cge C (tgt := 70) dX10_withSoul_11 (by decide) h (fun h => ?_) (fun h => ?_)
  · refine r_iln C dX10_withSoul_70 (k := 2) rfl ?_
    exact r_iretp C hr hlk dX10_withSoul_71 h
  · refine r_aln C dX10_withSoul_14 (k := 0) rfl ?_
    refine r_gs C km_0 clX10 (f := 39) (by decide) rfl (t := 71) rfl tf_RX10_84 dX10_withSoul_15 ?_
    refine r_iln C dX10_withSoul_18 (k := 1) rfl ?_
    refine r_iald C km_71 dX10_withSoul_19 h (fun v2 h => ?_)
    refine r_ic C dX10_withSoul_20 ?_
    refine r_cne C (tgt := 70) dX10_withSoul_21 (by decide) h (fun h => ?_) (fun h => ?_)
    · refine r_iln C dX10_withSoul_70 (k := 2) rfl ?_
      exact r_iretp C hr hlk dX10_withSoul_71 h
    · refine r_iln C dX10_withSoul_24 (k := 2) rfl ?_
      refine r_aln C dX10_withSoul_25 (k := 0) rfl ?_
      refine r_gs C km_0 clX10 (f := 43) (by decide) rfl (t := 75) rfl tf_RX10_96 dX10_withSoul_26 ?_
      refine r_iln C dX10_withSoul_29 (k := 3) rfl ?_
      refine r_iald C km_75 dX10_withSoul_30 h (fun v3 h => ?_)
      refine r_aln C dX10_withSoul_31 (k := 0) rfl ?_
      refine r_gs C km_0 clX10 (f := 43) (by decide) rfl (t := 75) rfl tf_RX10_96 dX10_withSoul_32 ?_
      refine r_iln C dX10_withSoul_35 (k := 1) rfl ?_
      refine r_iald C km_75 dX10_withSoul_36 h (fun v4 h => ?_)
      refine r_cne C (tgt := 61) dX10_withSoul_37 (by decide) h (fun h => ?_) (fun h => ?_)
      · refine r_ic C dX10_withSoul_61 ?_
        refine r_ior C dX10_withSoul_62 ?_
        refine r_isn C (L1 := [(2, .int (qI (q_or x2 0))), (0, .ref (ad 0)), (1, .int (qI x1)), (3, .int (qI x3))]) dX10_withSoul_63 (by decide) rfl ?_
        refine r_inc C (L1 := [(3, .int (qI (x3 + 1))), (2, .int (qI (q_or x2 0))), (0, .ref (ad 0)), (1, .int (qI x1))]) dX10_withSoul_64 (k := 3) rfl (by decide) rfl ?_
        refine r_goto C (tgt := 4) dX10_withSoul_67 (by decide) ?_
        refine r_drop [2, 3, 1, 0] rfl ?_
        exact ih4 (q_or x2 0) (x3 + 1)  h
      · refine r_aln C dX10_withSoul_40 (k := 0) rfl ?_
        refine r_gs C km_0 clX10 (f := 44) (by decide) rfl (t := 76) rfl tf_RX10_99 dX10_withSoul_41 ?_
        refine r_iln C dX10_withSoul_44 (k := 3) rfl ?_
        refine r_iald C km_76 dX10_withSoul_45 h (fun v5 h => ?_)
        refine r_aln C dX10_withSoul_46 (k := 0) rfl ?_
        refine r_gs C km_0 clX10 (f := 44) (by decide) rfl (t := 76) rfl tf_RX10_99 dX10_withSoul_47 ?_
        refine r_iln C dX10_withSoul_50 (k := 1) rfl ?_
        refine r_iald C km_76 dX10_withSoul_51 h (fun v6 h => ?_)
        refine r_cne C (tgt := 61) dX10_withSoul_52 (by decide) h (fun h => ?_) (fun h => ?_)
        · refine r_ic C dX10_withSoul_61 ?_
          refine r_ior C dX10_withSoul_62 ?_
          refine r_isn C (L1 := [(2, .int (qI (q_or x2 0))), (0, .ref (ad 0)), (1, .int (qI x1)), (3, .int (qI x3))]) dX10_withSoul_63 (by decide) rfl ?_
          refine r_inc C (L1 := [(3, .int (qI (x3 + 1))), (2, .int (qI (q_or x2 0))), (0, .ref (ad 0)), (1, .int (qI x1))]) dX10_withSoul_64 (k := 3) rfl (by decide) rfl ?_
          refine r_goto C (tgt := 4) dX10_withSoul_67 (by decide) ?_
          refine r_drop [2, 3, 1, 0] rfl ?_
          exact ih4 (q_or x2 0) (x3 + 1)  h
        · refine r_ic C dX10_withSoul_55 ?_
          refine r_iln C dX10_withSoul_56 (k := 3) rfl ?_
          refine r_ishl C dX10_withSoul_57 ?_
          refine r_goto C (tgt := 62) dX10_withSoul_58 (by decide) ?_
          refine r_ior C dX10_withSoul_62 ?_
          refine r_isn C (L1 := [(2, .int (qI (q_or x2 (q_shl 1 x3)))), (0, .ref (ad 0)), (1, .int (qI x1)), (3, .int (qI x3))]) dX10_withSoul_63 (by decide) rfl ?_
          refine r_inc C (L1 := [(3, .int (qI (x3 + 1))), (2, .int (qI (q_or x2 (q_shl 1 x3)))), (0, .ref (ad 0)), (1, .int (qI x1))]) dX10_withSoul_64 (k := 3) rfl (by decide) rfl ?_
          refine r_goto C (tgt := 4) dX10_withSoul_67 (by decide) ?_
          refine r_drop [2, 3, 1, 0] rfl ?_
          exact ih4 (q_or x2 (q_shl 1 x3)) (x3 + 1)  h
theorem w_X10_withSoul_L4 (C : Cx syM p m c cX10_withSoul 4 s args RX10 D ad cA) (hr : meth.sig.returnType = (some .int)) (hlk : meth.locks = false)  (x1 : Int) (M : Mem)  (n : Nat) (x2 : Int) (x3 : Int) (h : f_X10_withSoul_L4 x1 M n x2 x3 = some r0) : WM syM p l e rm_X10_withSoul s m args below meth c 4 D ad cA (MQ below (q_Post syM D ad cA (some (.int (qI r0))) M) args s 0 0 (q_A syM ad)) M 4 [(0, .ref (ad 0)), (1, .int (qI x1)), (2, .int (qI x2)), (3, .int (qI x3))] [] :=
  qlp2_r (Wp := fun ux2 ux3 => WM syM p l e rm_X10_withSoul s m args below meth c 4 D ad cA (MQ below (q_Post syM D ad cA (some (.int (qI r0))) M) args s 0 0 (q_A syM ad)) M 4 [(0, .ref (ad 0)), (1, .int (qI x1)), (2, .int (qI ux2)), (3, .int (qI ux3))] []) (fun ux2 ux3 g4 ih4 h => w_X10_withSoul_B4 C hr hlk x1 ux2 ux3 M g4  ih4 h) n x2 x3 h
def f_X10_withSoul (a0 : Int) (M : Mem) : Option Int :=
  f_X10_withSoul_L4 a0 M q_N 0 0
theorem c_X10_withSoul {l : Launch} {D : va_G} {ad : Nat → Nat} {cA : Nat → ClassId} (hi : q_inj syM ad) (a0 : Int) (M : Mem) (r0 : Int) (h : f_X10_withSoul a0 M = some r0) : q_Met l syM D ad cA yX10_withSoul cX10_withSoul 4 (some .int) rm_X10_withSoul [.ref (ad 0), .int (qI a0)] M (some (.int (qI r0))) M := by
  refine q_met (L0 := [(0, .ref (ad 0)), (1, .int (qI a0))]) hi okM (by decide) (Nat.le_of_ble_eq_true rfl) rfl ?_
  intro p e s m args below meth c C hr hlk
  unfold f_X10_withSoul at h
  refine r_ic C dX10_withSoul_0 ?_
  refine r_isn C (L1 := [(2, .int (qI 0)), (0, .ref (ad 0)), (1, .int (qI a0))]) dX10_withSoul_1 (by decide) rfl ?_
  refine r_ic C dX10_withSoul_2 ?_
  refine r_isn C (L1 := [(3, .int (qI 0)), (2, .int (qI 0)), (0, .ref (ad 0)), (1, .int (qI a0))]) dX10_withSoul_3 (by decide) rfl ?_
  refine r_drop [2, 3, 1, 0] rfl ?_
  exact w_X10_withSoul_L4 C hr hlk a0 M  q_N 0 0 h
abbrev rm_X10_soul : Room := { frames := 1, cells := 0, slots := 0, locals := 23 }
theorem mw_X10_soul : q_mw RX10 yX10_soul cX10_soul 3 (some .int) 2 := ⟨⟨ti_X10_soul, tl_X10_soul, tn_RX10, td_X10_soul⟩, by decide +kernel⟩
def f_X10_soul_J28 (x1 : Int) (x2 : Int) (y0 : Int) (M : Mem) : Res :=
  q_pf M 0 0 y0 fun M1 =>
  q_gf M1 0 0 fun v2 =>
  if w32 v2 = 0 then (if w32 x2 = 0 then (q_al M1 71 184 x1 fun v3 =>
  some (v3, M1))
  else if w32 x2 = 1 then (q_al M1 38 16 x1 fun v4 =>
  some (v4, M1))
  else if w32 x2 = 2 then (q_al M1 72 184 x1 fun v5 =>
  some (v5, M1))
  else if w32 x2 = 3 then (q_al M1 73 184 x1 fun v6 =>
  some (v6, M1))
  else if w32 x2 = 4 then (q_calp (f_X10_placeOf 0 x1 M1) fun r7 =>
  q_calp (f_X10_orNone r7 M1) fun r8 =>
  some (r8, M1))
  else if w32 x2 = 5 then (q_al M1 74 184 x1 fun v9 =>
  some (v9, M1))
  else if w32 x2 = 6 then (q_al M1 75 184 x1 fun v10 =>
  q_calp (f_X10_orNone v10 M1) fun r11 =>
  some (r11, M1))
  else (q_calp (f_X10_withSoul x1 M1) fun r12 =>
  some (r12, M1)))
  else (some (0, M1))
theorem w_X10_soul_J28 (C : Cx syM p m c cX10_soul 3 s args RX10 D ad cA) (hr : meth.sig.returnType = (some .int)) (hlk : meth.locks = false) (x1 : Int) (x2 : Int) (y0 : Int) (M : Mem)  (h : f_X10_soul_J28 x1 x2 y0 M = some (r0, M0)) : WM syM p l e rm_X10_soul s m args below meth c 3 D ad cA (MQ below (q_Post syM D ad cA (some (.int (qI r0))) M0) args s 0 0 (q_A syM ad)) M 28 [(0, .ref (ad 0)), (1, .int (qI x1)), (2, .int (qI x2))] [.int (qI y0), .ref (ad 0)] := by
  unfold f_X10_soul_J28 at h
  refine r_pf C km_0 clX10 (f := 0) (by decide) rfl q_dI rfl rfl tf_RX10_142 dX10_soul_28 h (fun M1 h => ?_)
  refine r_aln C dX10_soul_31 (k := 0) rfl ?_
  refine r_gf C km_0 clX10 (f := 0) (by decide) rfl rfl rfl tf_RX10_142 dX10_soul_32 h (fun v2 h => ?_)
  refine r_zeq C (tgt := 40) dX10_soul_35 (by decide) h (fun h => ?_) (fun h => ?_)
  · refine r_iln C dX10_soul_40 (k := 2) rfl ?_
    refine r_tc C h (fun e h => ?_) (fun ne0 h => ?_)
    · refine r_tin C (tgt := 84) dX10_soul_41 e (by decide) rfl (by decide) ?_
      refine r_aln C dX10_soul_84 (k := 0) rfl ?_
      refine r_gs C km_0 clX10 (f := 39) (by decide) rfl (t := 71) rfl tf_RX10_84 dX10_soul_85 ?_
      refine r_iln C dX10_soul_88 (k := 1) rfl ?_
      refine r_iald C km_71 dX10_soul_89 h (fun v3 h => ?_)
      exact r_iret C hr hlk dX10_soul_90 h
    refine r_tc C h (fun e h => ?_) (fun ne1 h => ?_)
    · refine r_tin C (tgt := 91) dX10_soul_41 e (by decide) rfl (by decide) ?_
      refine r_aln C dX10_soul_91 (k := 0) rfl ?_
      refine r_gs C km_0 clX10 (f := 6) (by decide) rfl (t := 38) rfl tf_RX10_22 dX10_soul_92 ?_
      refine r_iln C dX10_soul_95 (k := 1) rfl ?_
      refine r_iald C km_38 dX10_soul_96 h (fun v4 h => ?_)
      exact r_iret C hr hlk dX10_soul_97 h
    refine r_tc C h (fun e h => ?_) (fun ne2 h => ?_)
    · refine r_tin C (tgt := 98) dX10_soul_41 e (by decide) rfl (by decide) ?_
      refine r_aln C dX10_soul_98 (k := 0) rfl ?_
      refine r_gs C km_0 clX10 (f := 40) (by decide) rfl (t := 72) rfl tf_RX10_87 dX10_soul_99 ?_
      refine r_iln C dX10_soul_102 (k := 1) rfl ?_
      refine r_iald C km_72 dX10_soul_103 h (fun v5 h => ?_)
      exact r_iret C hr hlk dX10_soul_104 h
    refine r_tc C h (fun e h => ?_) (fun ne3 h => ?_)
    · refine r_tin C (tgt := 105) dX10_soul_41 e (by decide) rfl (by decide) ?_
      refine r_aln C dX10_soul_105 (k := 0) rfl ?_
      refine r_gs C km_0 clX10 (f := 41) (by decide) rfl (t := 73) rfl tf_RX10_90 dX10_soul_106 ?_
      refine r_iln C dX10_soul_109 (k := 1) rfl ?_
      refine r_iald C km_73 dX10_soul_110 h (fun v6 h => ?_)
      exact r_iret C hr hlk dX10_soul_111 h
    refine r_tc C h (fun e h => ?_) (fun ne4 h => ?_)
    · refine r_tin C (tgt := 112) dX10_soul_41 e (by decide) rfl (by decide) ?_
      refine r_aln C dX10_soul_112 (k := 0) rfl ?_
      refine r_ic C dX10_soul_113 ?_
      refine r_iln C dX10_soul_114 (k := 1) rfl ?_
      obtain ⟨r7, hy, h⟩ := q_calp_some h
      refine r_cvi C (st := []) (c_X10_placeOf C.2.2.1 0 x1 M1 r7 hy) tm_RX10_328 mw_X10_placeOf ⟨rfl, rfl⟩ ⟨Nat.le_of_ble_eq_true rfl, Nat.le_of_ble_eq_true rfl⟩ km_0 clX10 rfl rfl (Nat.le_of_ble_eq_true rfl) dX10_soul_115 ?_
      obtain ⟨r8, hy, h⟩ := q_calp_some h
      refine r_csi C (st := []) (c_X10_orNone C.2.2.1 r7 M1 r8 hy) tm_RX10_414 mw_X10_orNone ⟨rfl, rfl⟩ ⟨Nat.le_of_ble_eq_true rfl, Nat.le_of_ble_eq_true rfl⟩ rfl rfl (Nat.le_of_ble_eq_true rfl) dX10_soul_118 ?_
      exact r_iret C hr hlk dX10_soul_121 h
    refine r_tc C h (fun e h => ?_) (fun ne5 h => ?_)
    · refine r_tin C (tgt := 122) dX10_soul_41 e (by decide) rfl (by decide) ?_
      refine r_aln C dX10_soul_122 (k := 0) rfl ?_
      refine r_gs C km_0 clX10 (f := 42) (by decide) rfl (t := 74) rfl tf_RX10_93 dX10_soul_123 ?_
      refine r_iln C dX10_soul_126 (k := 1) rfl ?_
      refine r_iald C km_74 dX10_soul_127 h (fun v9 h => ?_)
      exact r_iret C hr hlk dX10_soul_128 h
    refine r_tc C h (fun e h => ?_) (fun ne6 h => ?_)
    · refine r_tin C (tgt := 129) dX10_soul_41 e (by decide) rfl (by decide) ?_
      refine r_aln C dX10_soul_129 (k := 0) rfl ?_
      refine r_gs C km_0 clX10 (f := 43) (by decide) rfl (t := 75) rfl tf_RX10_96 dX10_soul_130 ?_
      refine r_iln C dX10_soul_133 (k := 1) rfl ?_
      refine r_iald C km_75 dX10_soul_134 h (fun v10 h => ?_)
      obtain ⟨r11, hy, h⟩ := q_calp_some h
      refine r_csi C (st := []) (c_X10_orNone C.2.2.1 v10 M1 r11 hy) tm_RX10_414 mw_X10_orNone ⟨rfl, rfl⟩ ⟨Nat.le_of_ble_eq_true rfl, Nat.le_of_ble_eq_true rfl⟩ rfl rfl (Nat.le_of_ble_eq_true rfl) dX10_soul_135 ?_
      exact r_iret C hr hlk dX10_soul_138 h
    refine r_tout C (tgt := 139) dX10_soul_41 (by omega) (by decide) ?_
    refine r_aln C dX10_soul_139 (k := 0) rfl ?_
    refine r_iln C dX10_soul_140 (k := 1) rfl ?_
    obtain ⟨r12, hy, h⟩ := q_calp_some h
    refine r_cvi C (st := []) (c_X10_withSoul C.2.2.1 x1 M1 r12 hy) tm_RX10_417 mw_X10_withSoul ⟨rfl, rfl⟩ ⟨Nat.le_of_ble_eq_true rfl, Nat.le_of_ble_eq_true rfl⟩ km_0 clX10 rfl rfl (Nat.le_of_ble_eq_true rfl) dX10_soul_141 ?_
    exact r_iret C hr hlk dX10_soul_144 h
  · refine r_ic C dX10_soul_38 ?_
    exact r_iret C hr hlk dX10_soul_39 h
def f_X10_soul_J23 (x1 : Int) (x2 : Int) (M : Mem) : Res :=
  f_X10_soul_J28 x1 x2 2 M
theorem w_X10_soul_J23 (C : Cx syM p m c cX10_soul 3 s args RX10 D ad cA) (hr : meth.sig.returnType = (some .int)) (hlk : meth.locks = false) (x1 : Int) (x2 : Int) (M : Mem)  (h : f_X10_soul_J23 x1 x2 M = some (r0, M0)) : WM syM p l e rm_X10_soul s m args below meth c 3 D ad cA (MQ below (q_Post syM D ad cA (some (.int (qI r0))) M0) args s 0 0 (q_A syM ad)) M 23 [(0, .ref (ad 0)), (1, .int (qI x1)), (2, .int (qI x2))] [.ref (ad 0)] := by
  unfold f_X10_soul_J23 at h
  refine r_ic C dX10_soul_23 ?_
  refine r_goto C (tgt := 28) dX10_soul_24 (by decide) ?_
  exact w_X10_soul_J28 C hr hlk x1 x2 2 M  h
def f_X10_soul (a0 : Int) (a1 : Int) (M : Mem) : Res :=
  q_calp (f_X10_isSoul a0 M) fun r1 =>
  if ¬ w32 r1 = 0 then (if w32 a1 < 0 then (f_X10_soul_J23 a0 a1 M)
  else (if w32 a1 ≤ w32 7 then (f_X10_soul_J28 a0 a1 0 M)
  else (f_X10_soul_J23 a0 a1 M)))
  else (f_X10_soul_J28 a0 a1 1 M)
theorem c_X10_soul {l : Launch} {D : va_G} {ad : Nat → Nat} {cA : Nat → ClassId} (hi : q_inj syM ad) (a0 : Int) (a1 : Int) (M : Mem) (r0 : Int) (M0 : Mem) (h : f_X10_soul a0 a1 M = some (r0, M0)) : q_Met l syM D ad cA yX10_soul cX10_soul 3 (some .int) rm_X10_soul [.ref (ad 0), .int (qI a0), .int (qI a1)] M (some (.int (qI r0))) M0 := by
  refine q_met (L0 := [(0, .ref (ad 0)), (1, .int (qI a0)), (2, .int (qI a1))]) hi okM (by decide) (Nat.le_of_ble_eq_true rfl) rfl ?_
  intro p e s m args below meth c C hr hlk
  unfold f_X10_soul at h
  refine r_aln C dX10_soul_0 (k := 0) rfl ?_
  refine r_aln C dX10_soul_1 (k := 0) rfl ?_
  refine r_iln C dX10_soul_2 (k := 1) rfl ?_
  obtain ⟨r1, hy, h⟩ := q_calp_some h
  refine r_cvi C (st := [.ref (ad 0)]) (c_X10_isSoul C.2.2.1 a0 M r1 hy) tm_RX10_411 mw_X10_isSoul ⟨rfl, rfl⟩ ⟨Nat.le_of_ble_eq_true rfl, Nat.le_of_ble_eq_true rfl⟩ km_0 clX10 rfl rfl (Nat.le_of_ble_eq_true rfl) dX10_soul_3 ?_
  refine r_zne C (tgt := 13) dX10_soul_6 (by decide) h (fun h => ?_) (fun h => ?_)
  · refine r_iln C dX10_soul_13 (k := 2) rfl ?_
    refine r_zlt C (tgt := 23) dX10_soul_14 (by decide) h (fun h => ?_) (fun h => ?_)
    · exact w_X10_soul_J23 C hr hlk a0 a1 M  h
    · refine r_iln C dX10_soul_17 (k := 2) rfl ?_
      refine r_bi C dX10_soul_18 (by decide) ?_
      refine r_cle C (tgt := 27) dX10_soul_20 (by decide) h (fun h => ?_) (fun h => ?_)
      · refine r_ic C dX10_soul_27 ?_
        exact w_X10_soul_J28 C hr hlk a0 a1 0 M  h
      · exact w_X10_soul_J23 C hr hlk a0 a1 M  h
  · refine r_ic C dX10_soul_9 ?_
    refine r_goto C (tgt := 28) dX10_soul_10 (by decide) ?_
    exact w_X10_soul_J28 C hr hlk a0 a1 1 M  h
abbrev rm_X10_strike : Room := { frames := 0, cells := 0, slots := 0, locals := 0 }
theorem mw_X10_strike : q_mw RX10 yX10_strike cX10_strike 2 (some .int) 1 := ⟨⟨ti_X10_strike, tl_X10_strike, tn_RX10, td_X10_strike⟩, by decide +kernel⟩
def f_X10_strike (a0 : Int) (M : Mem) : Res :=
  q_pf M 0 0 0 fun M1 =>
  if w32 a0 < 0 then (some ((-1), M1))
  else (q_gf M1 0 58 fun v2 =>
  if w32 v2 ≤ w32 a0 then (some ((-1), M1))
  else (q_gf M1 0 58 fun v3 =>
  if ¬ w32 v3 = w32 24 then (q_gf M1 0 58 fun v4 =>
  q_as M1 95 24 v4 a0 fun M5 =>
  q_gf M5 0 58 fun v6 =>
  q_pf M5 0 58 (v6 + 1) fun M7 =>
  q_gf M7 0 58 fun v8 =>
  some (v8 - 1, M7))
  else (some ((-1), M1))))
theorem c_X10_strike {l : Launch} {D : va_G} {ad : Nat → Nat} {cA : Nat → ClassId} (hi : q_inj syM ad) (a0 : Int) (M : Mem) (r0 : Int) (M0 : Mem) (h : f_X10_strike a0 M = some (r0, M0)) : q_Met l syM D ad cA yX10_strike cX10_strike 2 (some .int) rm_X10_strike [.ref (ad 0), .int (qI a0)] M (some (.int (qI r0))) M0 := by
  refine q_met (L0 := [(0, .ref (ad 0)), (1, .int (qI a0))]) hi okM (by decide) (Nat.le_of_ble_eq_true rfl) rfl ?_
  intro p e s m args below meth c C hr hlk
  unfold f_X10_strike at h
  refine r_aln C dX10_strike_0 (k := 0) rfl ?_
  refine r_ic C dX10_strike_1 ?_
  refine r_pf C km_0 clX10 (f := 0) (by decide) rfl q_dI rfl rfl tf_RX10_142 dX10_strike_2 h (fun M1 h => ?_)
  refine r_iln C dX10_strike_5 (k := 1) rfl ?_
  refine r_zlt C (tgt := 26) dX10_strike_6 (by decide) h (fun h => ?_) (fun h => ?_)
  · refine r_ic C dX10_strike_26 ?_
    exact r_iret C hr hlk dX10_strike_27 h
  · refine r_iln C dX10_strike_9 (k := 1) rfl ?_
    refine r_aln C dX10_strike_10 (k := 0) rfl ?_
    refine r_gf C km_0 clX10 (f := 58) (by decide) rfl rfl rfl tf_RX10_295 dX10_strike_11 h (fun v2 h => ?_)
    refine r_cge C (tgt := 26) dX10_strike_14 (by decide) h (fun h => ?_) (fun h => ?_)
    · refine r_ic C dX10_strike_26 ?_
      exact r_iret C hr hlk dX10_strike_27 h
    · refine r_aln C dX10_strike_17 (k := 0) rfl ?_
      refine r_gf C km_0 clX10 (f := 58) (by decide) rfl rfl rfl tf_RX10_295 dX10_strike_18 h (fun v3 h => ?_)
      refine r_bi C dX10_strike_21 (by decide) ?_
      refine r_cne C (tgt := 28) dX10_strike_23 (by decide) h (fun h => ?_) (fun h => ?_)
      · refine r_aln C dX10_strike_28 (k := 0) rfl ?_
        refine r_gs C km_0 clX10 (f := 63) (by decide) rfl (t := 95) rfl tf_RX10_133 dX10_strike_29 ?_
        refine r_aln C dX10_strike_32 (k := 0) rfl ?_
        refine r_gf C km_0 clX10 (f := 58) (by decide) rfl rfl rfl tf_RX10_295 dX10_strike_33 h (fun v4 h => ?_)
        refine r_iln C dX10_strike_36 (k := 1) rfl ?_
        refine r_iast C km_95 dX10_strike_37 h (fun M5 h => ?_)
        refine r_aln C dX10_strike_38 (k := 0) rfl ?_
        refine r_dup C rfl dX10_strike_39 ?_
        refine r_gf C km_0 clX10 (f := 58) (by decide) rfl rfl rfl tf_RX10_295 dX10_strike_40 h (fun v6 h => ?_)
        refine r_ic C dX10_strike_43 ?_
        refine r_iadd C dX10_strike_44 ?_
        refine r_pf C km_0 clX10 (f := 58) (by decide) rfl q_dI rfl rfl tf_RX10_295 dX10_strike_45 h (fun M7 h => ?_)
        refine r_aln C dX10_strike_48 (k := 0) rfl ?_
        refine r_gf C km_0 clX10 (f := 58) (by decide) rfl rfl rfl tf_RX10_295 dX10_strike_49 h (fun v8 h => ?_)
        refine r_ic C dX10_strike_52 ?_
        refine r_isub C dX10_strike_53 ?_
        exact r_iret C hr hlk dX10_strike_54 h
      · refine r_ic C dX10_strike_26 ?_
        exact r_iret C hr hlk dX10_strike_27 h
abbrev rm_X10_text : Room := { frames := 212, cells := 0, slots := 0, locals := 4628 }
theorem mw_X10_text : q_mw RX10 yX10_text cX10_text 3 (some .int) 1 := ⟨⟨ti_X10_text, tl_X10_text, tn_RX10, td_X10_text⟩, by decide +kernel⟩
def f_X10_text_J148  (M : Mem) : Res :=
  q_gf M 0 26 fun v1 =>
  q_pf M 0 28 v1 fun M2 =>
  q_gf M2 0 27 fun v3 =>
  q_pf M2 0 29 v3 fun M4 =>
  q_gf M4 0 26 fun v5 =>
  if w32 v5 = 0 then (q_call (f_X10_half 35 14 M4) fun r6 M7 =>
  q_call (f_X10_half 36 16 M7) fun r8 M9 =>
  q_call (f_X10_half 37 16 M9) fun r10 M11 =>
  q_call (f_X10_half 38 16 M11) fun r12 M13 =>
  q_call (f_X10_half 39 16 M13) fun r14 M15 =>
  q_call (f_X10_half 40 8 M15) fun r16 M17 =>
  q_call (f_X10_half 41 8 M17) fun r18 M19 =>
  q_call (f_X10_half 42 8 M19) fun r20 M21 =>
  q_call (f_X10_half 43 8 M21) fun r22 M23 =>
  q_call (f_X10_half 44 8 M23) fun r24 M25 =>
  q_call (f_X10_half 45 16 M25) fun r26 M27 =>
  q_call (f_X10_half 46 16 M27) fun r28 M29 =>
  q_call (f_X10_half 47 6 M29) fun r30 M31 =>
  q_call (f_X10_half 48 6 M31) fun r32 M33 =>
  q_call (f_X10_half 49 128 M33) fun r34 M35 =>
  q_call (f_X10_half 50 128 M35) fun r36 M37 =>
  q_pf M37 0 58 0 fun M38 =>
  q_pf M38 0 59 (-1) fun M39 =>
  q_pz M39 0 45 0 fun M40 =>
  q_pf M40 0 46 0 fun M41 =>
  q_call (f_X10_begins  M41) fun r42 M43 =>
  q_gf M43 0 20 fun v44 =>
  some (v44, M43))
  else (some ((-1), M4))
theorem w_X10_text_J148 (C : Cx syM p m c cX10_text 3 s args RX10 D ad cA) (hr : meth.sig.returnType = (some .int)) (hlk : meth.locks = false)  (M : Mem)  (h : f_X10_text_J148  M = some (r0, M0)) : WM syM p l e rm_X10_text s m args below meth c 3 D ad cA (MQ below (q_Post syM D ad cA (some (.int (qI r0))) M0) args s 0 0 (q_A syM ad)) M 148 [(0, .ref (ad 0))] [] := by
  unfold f_X10_text_J148 at h
  refine r_aln C dX10_text_148 (k := 0) rfl ?_
  refine r_aln C dX10_text_149 (k := 0) rfl ?_
  refine r_gf C km_0 clX10 (f := 26) (by decide) rfl rfl rfl tf_RX10_196 dX10_text_150 h (fun v1 h => ?_)
  refine r_pf C km_0 clX10 (f := 28) (by decide) rfl q_dI rfl rfl tf_RX10_288 dX10_text_153 h (fun M2 h => ?_)
  refine r_aln C dX10_text_156 (k := 0) rfl ?_
  refine r_aln C dX10_text_157 (k := 0) rfl ?_
  refine r_gf C km_0 clX10 (f := 27) (by decide) rfl rfl rfl tf_RX10_199 dX10_text_158 h (fun v3 h => ?_)
  refine r_pf C km_0 clX10 (f := 29) (by decide) rfl q_dI rfl rfl tf_RX10_61 dX10_text_161 h (fun M4 h => ?_)
  refine r_aln C dX10_text_164 (k := 0) rfl ?_
  refine r_gf C km_0 clX10 (f := 26) (by decide) rfl rfl rfl tf_RX10_196 dX10_text_165 h (fun v5 h => ?_)
  refine r_zeq C (tgt := 173) dX10_text_168 (by decide) h (fun h => ?_) (fun h => ?_)
  · refine r_aln C dX10_text_173 (k := 0) rfl ?_
    refine r_gs C km_0 clX10 (f := 3) (by decide) rfl (t := 35) rfl tf_RX10_13 dX10_text_174 ?_
    obtain ⟨r6, M7, hy, h⟩ := q_call_some h
    refine r_csv C (st := []) (c_X10_half C.2.2.1 35 14 km_35 M4 r6 M7 hy) tm_RX10_291 mw_X10_half ⟨rfl, rfl⟩ ⟨Nat.le_of_ble_eq_true rfl, Nat.le_of_ble_eq_true rfl⟩ rfl rfl (Nat.le_of_ble_eq_true rfl) dX10_text_177 ?_
    refine r_aln C dX10_text_180 (k := 0) rfl ?_
    refine r_gs C km_0 clX10 (f := 4) (by decide) rfl (t := 36) rfl tf_RX10_16 dX10_text_181 ?_
    obtain ⟨r8, M9, hy, h⟩ := q_call_some h
    refine r_csv C (st := []) (c_X10_half C.2.2.1 36 16 km_36 M7 r8 M9 hy) tm_RX10_291 mw_X10_half ⟨rfl, rfl⟩ ⟨Nat.le_of_ble_eq_true rfl, Nat.le_of_ble_eq_true rfl⟩ rfl rfl (Nat.le_of_ble_eq_true rfl) dX10_text_184 ?_
    refine r_aln C dX10_text_187 (k := 0) rfl ?_
    refine r_gs C km_0 clX10 (f := 5) (by decide) rfl (t := 37) rfl tf_RX10_19 dX10_text_188 ?_
    obtain ⟨r10, M11, hy, h⟩ := q_call_some h
    refine r_csv C (st := []) (c_X10_half C.2.2.1 37 16 km_37 M9 r10 M11 hy) tm_RX10_291 mw_X10_half ⟨rfl, rfl⟩ ⟨Nat.le_of_ble_eq_true rfl, Nat.le_of_ble_eq_true rfl⟩ rfl rfl (Nat.le_of_ble_eq_true rfl) dX10_text_191 ?_
    refine r_aln C dX10_text_194 (k := 0) rfl ?_
    refine r_gs C km_0 clX10 (f := 6) (by decide) rfl (t := 38) rfl tf_RX10_22 dX10_text_195 ?_
    obtain ⟨r12, M13, hy, h⟩ := q_call_some h
    refine r_csv C (st := []) (c_X10_half C.2.2.1 38 16 km_38 M11 r12 M13 hy) tm_RX10_291 mw_X10_half ⟨rfl, rfl⟩ ⟨Nat.le_of_ble_eq_true rfl, Nat.le_of_ble_eq_true rfl⟩ rfl rfl (Nat.le_of_ble_eq_true rfl) dX10_text_198 ?_
    refine r_aln C dX10_text_201 (k := 0) rfl ?_
    refine r_gs C km_0 clX10 (f := 7) (by decide) rfl (t := 39) rfl tf_RX10_25 dX10_text_202 ?_
    obtain ⟨r14, M15, hy, h⟩ := q_call_some h
    refine r_csv C (st := []) (c_X10_half C.2.2.1 39 16 km_39 M13 r14 M15 hy) tm_RX10_291 mw_X10_half ⟨rfl, rfl⟩ ⟨Nat.le_of_ble_eq_true rfl, Nat.le_of_ble_eq_true rfl⟩ rfl rfl (Nat.le_of_ble_eq_true rfl) dX10_text_205 ?_
    refine r_aln C dX10_text_208 (k := 0) rfl ?_
    refine r_gs C km_0 clX10 (f := 8) (by decide) rfl (t := 40) rfl tf_RX10_28 dX10_text_209 ?_
    obtain ⟨r16, M17, hy, h⟩ := q_call_some h
    refine r_csv C (st := []) (c_X10_half C.2.2.1 40 8 km_40 M15 r16 M17 hy) tm_RX10_291 mw_X10_half ⟨rfl, rfl⟩ ⟨Nat.le_of_ble_eq_true rfl, Nat.le_of_ble_eq_true rfl⟩ rfl rfl (Nat.le_of_ble_eq_true rfl) dX10_text_212 ?_
    refine r_aln C dX10_text_215 (k := 0) rfl ?_
    refine r_gs C km_0 clX10 (f := 9) (by decide) rfl (t := 41) rfl tf_RX10_31 dX10_text_216 ?_
    obtain ⟨r18, M19, hy, h⟩ := q_call_some h
    refine r_csv C (st := []) (c_X10_half C.2.2.1 41 8 km_41 M17 r18 M19 hy) tm_RX10_291 mw_X10_half ⟨rfl, rfl⟩ ⟨Nat.le_of_ble_eq_true rfl, Nat.le_of_ble_eq_true rfl⟩ rfl rfl (Nat.le_of_ble_eq_true rfl) dX10_text_219 ?_
    refine r_aln C dX10_text_222 (k := 0) rfl ?_
    refine r_gs C km_0 clX10 (f := 10) (by decide) rfl (t := 42) rfl tf_RX10_34 dX10_text_223 ?_
    obtain ⟨r20, M21, hy, h⟩ := q_call_some h
    refine r_csv C (st := []) (c_X10_half C.2.2.1 42 8 km_42 M19 r20 M21 hy) tm_RX10_291 mw_X10_half ⟨rfl, rfl⟩ ⟨Nat.le_of_ble_eq_true rfl, Nat.le_of_ble_eq_true rfl⟩ rfl rfl (Nat.le_of_ble_eq_true rfl) dX10_text_226 ?_
    refine r_aln C dX10_text_229 (k := 0) rfl ?_
    refine r_gs C km_0 clX10 (f := 11) (by decide) rfl (t := 43) rfl tf_RX10_37 dX10_text_230 ?_
    obtain ⟨r22, M23, hy, h⟩ := q_call_some h
    refine r_csv C (st := []) (c_X10_half C.2.2.1 43 8 km_43 M21 r22 M23 hy) tm_RX10_291 mw_X10_half ⟨rfl, rfl⟩ ⟨Nat.le_of_ble_eq_true rfl, Nat.le_of_ble_eq_true rfl⟩ rfl rfl (Nat.le_of_ble_eq_true rfl) dX10_text_233 ?_
    refine r_aln C dX10_text_236 (k := 0) rfl ?_
    refine r_gs C km_0 clX10 (f := 12) (by decide) rfl (t := 44) rfl tf_RX10_40 dX10_text_237 ?_
    obtain ⟨r24, M25, hy, h⟩ := q_call_some h
    refine r_csv C (st := []) (c_X10_half C.2.2.1 44 8 km_44 M23 r24 M25 hy) tm_RX10_291 mw_X10_half ⟨rfl, rfl⟩ ⟨Nat.le_of_ble_eq_true rfl, Nat.le_of_ble_eq_true rfl⟩ rfl rfl (Nat.le_of_ble_eq_true rfl) dX10_text_240 ?_
    refine r_aln C dX10_text_243 (k := 0) rfl ?_
    refine r_gs C km_0 clX10 (f := 13) (by decide) rfl (t := 45) rfl tf_RX10_43 dX10_text_244 ?_
    obtain ⟨r26, M27, hy, h⟩ := q_call_some h
    refine r_csv C (st := []) (c_X10_half C.2.2.1 45 16 km_45 M25 r26 M27 hy) tm_RX10_291 mw_X10_half ⟨rfl, rfl⟩ ⟨Nat.le_of_ble_eq_true rfl, Nat.le_of_ble_eq_true rfl⟩ rfl rfl (Nat.le_of_ble_eq_true rfl) dX10_text_247 ?_
    refine r_aln C dX10_text_250 (k := 0) rfl ?_
    refine r_gs C km_0 clX10 (f := 14) (by decide) rfl (t := 46) rfl tf_RX10_46 dX10_text_251 ?_
    obtain ⟨r28, M29, hy, h⟩ := q_call_some h
    refine r_csv C (st := []) (c_X10_half C.2.2.1 46 16 km_46 M27 r28 M29 hy) tm_RX10_291 mw_X10_half ⟨rfl, rfl⟩ ⟨Nat.le_of_ble_eq_true rfl, Nat.le_of_ble_eq_true rfl⟩ rfl rfl (Nat.le_of_ble_eq_true rfl) dX10_text_254 ?_
    refine r_aln C dX10_text_257 (k := 0) rfl ?_
    refine r_gs C km_0 clX10 (f := 15) (by decide) rfl (t := 47) rfl tf_RX10_49 dX10_text_258 ?_
    obtain ⟨r30, M31, hy, h⟩ := q_call_some h
    refine r_csv C (st := []) (c_X10_half C.2.2.1 47 6 km_47 M29 r30 M31 hy) tm_RX10_291 mw_X10_half ⟨rfl, rfl⟩ ⟨Nat.le_of_ble_eq_true rfl, Nat.le_of_ble_eq_true rfl⟩ rfl rfl (Nat.le_of_ble_eq_true rfl) dX10_text_261 ?_
    refine r_aln C dX10_text_264 (k := 0) rfl ?_
    refine r_gs C km_0 clX10 (f := 16) (by decide) rfl (t := 48) rfl tf_RX10_52 dX10_text_265 ?_
    obtain ⟨r32, M33, hy, h⟩ := q_call_some h
    refine r_csv C (st := []) (c_X10_half C.2.2.1 48 6 km_48 M31 r32 M33 hy) tm_RX10_291 mw_X10_half ⟨rfl, rfl⟩ ⟨Nat.le_of_ble_eq_true rfl, Nat.le_of_ble_eq_true rfl⟩ rfl rfl (Nat.le_of_ble_eq_true rfl) dX10_text_268 ?_
    refine r_aln C dX10_text_271 (k := 0) rfl ?_
    refine r_gs C km_0 clX10 (f := 17) (by decide) rfl (t := 49) rfl tf_RX10_55 dX10_text_272 ?_
    obtain ⟨r34, M35, hy, h⟩ := q_call_some h
    refine r_csv C (st := []) (c_X10_half C.2.2.1 49 128 km_49 M33 r34 M35 hy) tm_RX10_291 mw_X10_half ⟨rfl, rfl⟩ ⟨Nat.le_of_ble_eq_true rfl, Nat.le_of_ble_eq_true rfl⟩ rfl rfl (Nat.le_of_ble_eq_true rfl) dX10_text_275 ?_
    refine r_aln C dX10_text_278 (k := 0) rfl ?_
    refine r_gs C km_0 clX10 (f := 18) (by decide) rfl (t := 50) rfl tf_RX10_58 dX10_text_279 ?_
    obtain ⟨r36, M37, hy, h⟩ := q_call_some h
    refine r_csv C (st := []) (c_X10_half C.2.2.1 50 128 km_50 M35 r36 M37 hy) tm_RX10_291 mw_X10_half ⟨rfl, rfl⟩ ⟨Nat.le_of_ble_eq_true rfl, Nat.le_of_ble_eq_true rfl⟩ rfl rfl (Nat.le_of_ble_eq_true rfl) dX10_text_282 ?_
    refine r_aln C dX10_text_285 (k := 0) rfl ?_
    refine r_ic C dX10_text_286 ?_
    refine r_pf C km_0 clX10 (f := 58) (by decide) rfl q_dI rfl rfl tf_RX10_295 dX10_text_287 h (fun M38 h => ?_)
    refine r_aln C dX10_text_290 (k := 0) rfl ?_
    refine r_ic C dX10_text_291 ?_
    refine r_pf C km_0 clX10 (f := 59) (by decide) rfl q_dI rfl rfl tf_RX10_120 dX10_text_292 h (fun M39 h => ?_)
    refine r_aln C dX10_text_295 (k := 0) rfl ?_
    refine r_ic C dX10_text_296 ?_
    refine r_pz C km_0 clX10 (f := 45) (by decide) rfl q_dZ rfl rfl tf_RX10_298 dX10_text_297 h (fun M40 h => ?_)
    refine r_aln C dX10_text_300 (k := 0) rfl ?_
    refine r_ic C dX10_text_301 ?_
    refine r_pf C km_0 clX10 (f := 46) (by decide) rfl q_dI rfl rfl tf_RX10_302 dX10_text_302 h (fun M41 h => ?_)
    refine r_aln C dX10_text_305 (k := 0) rfl ?_
    obtain ⟨r42, M43, hy, h⟩ := q_call_some h
    refine r_cvv C (st := []) (c_X10_begins C.2.2.1 M41 r42 M43 hy) tm_RX10_139 mw_X10_begins ⟨rfl, rfl⟩ ⟨Nat.le_of_ble_eq_true rfl, Nat.le_of_ble_eq_true rfl⟩ km_0 clX10 rfl rfl (Nat.le_of_ble_eq_true rfl) dX10_text_306 ?_
    refine r_aln C dX10_text_309 (k := 0) rfl ?_
    refine r_gf C km_0 clX10 (f := 20) (by decide) rfl rfl rfl tf_RX10_243 dX10_text_310 h (fun v44 h => ?_)
    exact r_iret C hr hlk dX10_text_313 h
  · refine r_ic C dX10_text_171 ?_
    exact r_iret C hr hlk dX10_text_172 h
def f_X10_text_B126   (M : Mem) (g126 : Mem → Res) : Res :=
  q_gf M 0 26 fun v1 =>
  if ¬ w32 v1 = 0 then (f_X10_text_J148  M)
  else (q_gf M 0 24 fun v2 =>
  if w32 v2 = w32 4 then (f_X10_text_J148  M)
  else (q_call (f_X10_line  M) fun r3 M4 =>
  g126  M4))
def f_X10_text_L126  (n : Nat)  (M : Mem) : Res := qlm0 (fun  M g126 => f_X10_text_B126   M g126) n  M
theorem w_X10_text_B126 (C : Cx syM p m c cX10_text 3 s args RX10 D ad cA) (hr : meth.sig.returnType = (some .int)) (hlk : meth.locks = false)   (M : Mem) (g126 : Mem → Res)  (ih126 : ∀  (M : Mem), g126  M = some (r0, M0) → WM syM p l e rm_X10_text s m args below meth c 3 D ad cA (MQ below (q_Post syM D ad cA (some (.int (qI r0))) M0) args s 0 0 (q_A syM ad)) M 126 [(0, .ref (ad 0))] []) (h : f_X10_text_B126   M g126 = some (r0, M0)) : WM syM p l e rm_X10_text s m args below meth c 3 D ad cA (MQ below (q_Post syM D ad cA (some (.int (qI r0))) M0) args s 0 0 (q_A syM ad)) M 126 [(0, .ref (ad 0))] [] := by
  unfold f_X10_text_B126 at h
  refine r_aln C dX10_text_126 (k := 0) rfl ?_
  refine r_gf C km_0 clX10 (f := 26) (by decide) rfl rfl rfl tf_RX10_196 dX10_text_127 h (fun v1 h => ?_)
  refine r_zne C (tgt := 148) dX10_text_130 (by decide) h (fun h => ?_) (fun h => ?_)
  · exact w_X10_text_J148 C hr hlk  M  h
  · refine r_aln C dX10_text_133 (k := 0) rfl ?_
    refine r_gf C km_0 clX10 (f := 24) (by decide) rfl rfl rfl tf_RX10_161 dX10_text_134 h (fun v2 h => ?_)
    refine r_ic C dX10_text_137 ?_
    refine r_ceq C (tgt := 148) dX10_text_138 (by decide) h (fun h => ?_) (fun h => ?_)
    · exact w_X10_text_J148 C hr hlk  M  h
    · refine r_aln C dX10_text_141 (k := 0) rfl ?_
      obtain ⟨r3, M4, hy, h⟩ := q_call_some h
      refine r_cvv C (st := []) (c_X10_line C.2.2.1 M r3 M4 hy) tm_RX10_285 mw_X10_line ⟨rfl, rfl⟩ ⟨Nat.le_of_ble_eq_true rfl, Nat.le_of_ble_eq_true rfl⟩ km_0 clX10 rfl rfl (Nat.le_of_ble_eq_true rfl) dX10_text_142 ?_
      refine r_goto C (tgt := 126) dX10_text_145 (by decide) ?_
      exact ih126  M4 h
theorem w_X10_text_L126 (C : Cx syM p m c cX10_text 3 s args RX10 D ad cA) (hr : meth.sig.returnType = (some .int)) (hlk : meth.locks = false)    (n : Nat)  (M : Mem) (h : f_X10_text_L126  n  M = some (r0, M0)) : WM syM p l e rm_X10_text s m args below meth c 3 D ad cA (MQ below (q_Post syM D ad cA (some (.int (qI r0))) M0) args s 0 0 (q_A syM ad)) M 126 [(0, .ref (ad 0))] [] :=
  qlm0_r (Wp := fun  M => WM syM p l e rm_X10_text s m args below meth c 3 D ad cA (MQ below (q_Post syM D ad cA (some (.int (qI r0))) M0) args s 0 0 (q_A syM ad)) M 126 [(0, .ref (ad 0))] []) (fun  M g126 ih126 h => w_X10_text_B126 C hr hlk   M g126  ih126 h) n  M h
def f_X10_text_B76  (x2 : Int) (M : Mem) (g76 : Int → Mem → Res) : Res :=
  if w32 6 ≤ w32 x2 then (q_pf M 0 19 0 fun M1 =>
  q_pf M1 0 20 0 fun M2 =>
  q_pf M2 0 30 0 fun M3 =>
  q_pf M3 0 31 0 fun M4 =>
  q_call (f_X10_token  M4) fun r5 M6 =>
  f_X10_text_L126  q_N  M6)
  else (q_as M 47 6 x2 0 fun M7 =>
  q_as M7 48 6 x2 0 fun M8 =>
  g76 (x2 + 1) M8)
def f_X10_text_L76  (n : Nat) (x2 : Int) (M : Mem) : Res := qlm1 (fun x2 M g76 => f_X10_text_B76  x2 M g76) n x2 M
theorem w_X10_text_B76 (C : Cx syM p m c cX10_text 3 s args RX10 D ad cA) (hr : meth.sig.returnType = (some .int)) (hlk : meth.locks = false)  (x2 : Int) (M : Mem) (g76 : Int → Mem → Res)  (ih76 : ∀ (ux2 : Int) (M : Mem), g76 ux2 M = some (r0, M0) → WM syM p l e rm_X10_text s m args below meth c 3 D ad cA (MQ below (q_Post syM D ad cA (some (.int (qI r0))) M0) args s 0 0 (q_A syM ad)) M 76 [(0, .ref (ad 0)), (2, .int (qI ux2))] []) (h : f_X10_text_B76  x2 M g76 = some (r0, M0)) : WM syM p l e rm_X10_text s m args below meth c 3 D ad cA (MQ below (q_Post syM D ad cA (some (.int (qI r0))) M0) args s 0 0 (q_A syM ad)) M 76 [(0, .ref (ad 0)), (2, .int (qI x2))] [] := by
  unfold f_X10_text_B76 at h
  refine r_iln C dX10_text_76 (k := 1) rfl ?_
  refine r_bi C dX10_text_77 (by decide) ?_
  refine r_cge C (tgt := 102) dX10_text_79 (by decide) h (fun h => ?_) (fun h => ?_)
  · refine r_aln C dX10_text_102 (k := 0) rfl ?_
    refine r_ic C dX10_text_103 ?_
    refine r_pf C km_0 clX10 (f := 19) (by decide) rfl q_dI rfl rfl tf_RX10_219 dX10_text_104 h (fun M1 h => ?_)
    refine r_aln C dX10_text_107 (k := 0) rfl ?_
    refine r_ic C dX10_text_108 ?_
    refine r_pf C km_0 clX10 (f := 20) (by decide) rfl q_dI rfl rfl tf_RX10_243 dX10_text_109 h (fun M2 h => ?_)
    refine r_aln C dX10_text_112 (k := 0) rfl ?_
    refine r_ic C dX10_text_113 ?_
    refine r_pf C km_0 clX10 (f := 30) (by decide) rfl q_dI rfl rfl tf_RX10_282 dX10_text_114 h (fun M3 h => ?_)
    refine r_aln C dX10_text_117 (k := 0) rfl ?_
    refine r_ic C dX10_text_118 ?_
    refine r_pf C km_0 clX10 (f := 31) (by decide) rfl q_dI rfl rfl tf_RX10_255 dX10_text_119 h (fun M4 h => ?_)
    refine r_aln C dX10_text_122 (k := 0) rfl ?_
    obtain ⟨r5, M6, hy, h⟩ := q_call_some h
    refine r_cvv C (st := []) (c_X10_token C.2.2.1 M4 r5 M6 hy) tm_RX10_202 mw_X10_token ⟨rfl, rfl⟩ ⟨Nat.le_of_ble_eq_true rfl, Nat.le_of_ble_eq_true rfl⟩ km_0 clX10 rfl rfl (Nat.le_of_ble_eq_true rfl) dX10_text_123 ?_
    refine r_drop [0] rfl ?_
    exact w_X10_text_L126 C hr hlk   q_N  M6 h
  · refine r_aln C dX10_text_82 (k := 0) rfl ?_
    refine r_gs C km_0 clX10 (f := 15) (by decide) rfl (t := 47) rfl tf_RX10_49 dX10_text_83 ?_
    refine r_iln C dX10_text_86 (k := 1) rfl ?_
    refine r_ic C dX10_text_87 ?_
    refine r_iast C km_47 dX10_text_88 h (fun M7 h => ?_)
    refine r_aln C dX10_text_89 (k := 0) rfl ?_
    refine r_gs C km_0 clX10 (f := 16) (by decide) rfl (t := 48) rfl tf_RX10_52 dX10_text_90 ?_
    refine r_iln C dX10_text_93 (k := 1) rfl ?_
    refine r_ic C dX10_text_94 ?_
    refine r_iast C km_48 dX10_text_95 h (fun M8 h => ?_)
    refine r_inc C (L1 := [(2, .int (qI (x2 + 1))), (0, .ref (ad 0))]) dX10_text_96 (k := 1) rfl (by decide) rfl ?_
    refine r_goto C (tgt := 76) dX10_text_99 (by decide) ?_
    refine r_drop [1, 0] rfl ?_
    exact ih76 (x2 + 1) M8 h
theorem w_X10_text_L76 (C : Cx syM p m c cX10_text 3 s args RX10 D ad cA) (hr : meth.sig.returnType = (some .int)) (hlk : meth.locks = false)    (n : Nat) (x2 : Int) (M : Mem) (h : f_X10_text_L76  n x2 M = some (r0, M0)) : WM syM p l e rm_X10_text s m args below meth c 3 D ad cA (MQ below (q_Post syM D ad cA (some (.int (qI r0))) M0) args s 0 0 (q_A syM ad)) M 76 [(0, .ref (ad 0)), (2, .int (qI x2))] [] :=
  qlm1_r (Wp := fun ux2 M => WM syM p l e rm_X10_text s m args below meth c 3 D ad cA (MQ below (q_Post syM D ad cA (some (.int (qI r0))) M0) args s 0 0 (q_A syM ad)) M 76 [(0, .ref (ad 0)), (2, .int (qI ux2))] []) (fun ux2 M g76 ih76 h => w_X10_text_B76 C hr hlk  ux2 M g76  ih76 h) n x2 M h
def f_X10_text_J65 (g47 : Int → Mem → Res) (x2 : Int) (y0 : Int) (y1 : Int) (M : Mem) : Res :=
  q_call (f_X10_reads y1 y0 M) fun r1 M2 =>
  g47 (x2 + 1) M2
theorem w_X10_text_J65 (C : Cx syM p m c cX10_text 3 s args RX10 D ad cA) (hr : meth.sig.returnType = (some .int)) (hlk : meth.locks = false) (g47 : Int → Mem → Res) (x2 : Int) (y0 : Int) (y1 : Int) (M : Mem) (ih47 : ∀ (ux2 : Int) (M : Mem), g47 ux2 M = some (r0, M0) → WM syM p l e rm_X10_text s m args below meth c 3 D ad cA (MQ below (q_Post syM D ad cA (some (.int (qI r0))) M0) args s 0 0 (q_A syM ad)) M 47 [(0, .ref (ad 0)), (2, .int (qI ux2))] []) (h : f_X10_text_J65 g47 x2 y0 y1 M = some (r0, M0)) : WM syM p l e rm_X10_text s m args below meth c 3 D ad cA (MQ below (q_Post syM D ad cA (some (.int (qI r0))) M0) args s 0 0 (q_A syM ad)) M 65 [(0, .ref (ad 0)), (2, .int (qI x2))] [.int (qI y0), .int (qI y1), .ref (ad 0)] := by
  unfold f_X10_text_J65 at h
  obtain ⟨r1, M2, hy, h⟩ := q_call_some h
  refine r_cvv C (st := []) (c_X10_reads C.2.2.1 y1 y0 M r1 M2 hy) tm_RX10_230 mw_X10_reads ⟨rfl, rfl⟩ ⟨Nat.le_of_ble_eq_true rfl, Nat.le_of_ble_eq_true rfl⟩ km_0 clX10 rfl rfl (Nat.le_of_ble_eq_true rfl) dX10_text_65 ?_
  refine r_inc C (L1 := [(2, .int (qI (x2 + 1))), (0, .ref (ad 0))]) dX10_text_68 (k := 1) rfl (by decide) rfl ?_
  refine r_goto C (tgt := 47) dX10_text_71 (by decide) ?_
  refine r_drop [1, 0] rfl ?_
  exact ih47 (x2 + 1) M2 h
def f_X10_text_B47  (x2 : Int) (M : Mem) (g47 : Int → Mem → Res) : Res :=
  if w32 7 ≤ w32 x2 then (f_X10_text_L76  q_N 3 M)
  else (if ¬ w32 x2 = w32 3 then (f_X10_text_J65 g47 x2 0 x2 M)
  else (f_X10_text_J65 g47 x2 2 x2 M))
def f_X10_text_L47  (n : Nat) (x2 : Int) (M : Mem) : Res := qlm1 (fun x2 M g47 => f_X10_text_B47  x2 M g47) n x2 M
theorem w_X10_text_B47 (C : Cx syM p m c cX10_text 3 s args RX10 D ad cA) (hr : meth.sig.returnType = (some .int)) (hlk : meth.locks = false)  (x2 : Int) (M : Mem) (g47 : Int → Mem → Res)  (ih47 : ∀ (ux2 : Int) (M : Mem), g47 ux2 M = some (r0, M0) → WM syM p l e rm_X10_text s m args below meth c 3 D ad cA (MQ below (q_Post syM D ad cA (some (.int (qI r0))) M0) args s 0 0 (q_A syM ad)) M 47 [(0, .ref (ad 0)), (2, .int (qI ux2))] []) (h : f_X10_text_B47  x2 M g47 = some (r0, M0)) : WM syM p l e rm_X10_text s m args below meth c 3 D ad cA (MQ below (q_Post syM D ad cA (some (.int (qI r0))) M0) args s 0 0 (q_A syM ad)) M 47 [(0, .ref (ad 0)), (2, .int (qI x2))] [] := by
  unfold f_X10_text_B47 at h
  refine r_iln C dX10_text_47 (k := 1) rfl ?_
  refine r_bi C dX10_text_48 (by decide) ?_
  refine r_cge C (tgt := 74) dX10_text_50 (by decide) h (fun h => ?_) (fun h => ?_)
  · refine r_ic C dX10_text_74 ?_
    refine r_isn C (L1 := [(2, .int (qI 3)), (0, .ref (ad 0))]) dX10_text_75 (by decide) rfl ?_
    refine r_drop [1, 0] rfl ?_
    exact w_X10_text_L76 C hr hlk   q_N 3 M h
  · refine r_aln C dX10_text_53 (k := 0) rfl ?_
    refine r_iln C dX10_text_54 (k := 1) rfl ?_
    refine r_iln C dX10_text_55 (k := 1) rfl ?_
    refine r_ic C dX10_text_56 ?_
    refine r_cne C (tgt := 64) dX10_text_57 (by decide) h (fun h => ?_) (fun h => ?_)
    · refine r_ic C dX10_text_64 ?_
      exact w_X10_text_J65 C hr hlk g47 x2 0 x2 M ih47 h
    · refine r_ic C dX10_text_60 ?_
      refine r_goto C (tgt := 65) dX10_text_61 (by decide) ?_
      exact w_X10_text_J65 C hr hlk g47 x2 2 x2 M ih47 h
theorem w_X10_text_L47 (C : Cx syM p m c cX10_text 3 s args RX10 D ad cA) (hr : meth.sig.returnType = (some .int)) (hlk : meth.locks = false)    (n : Nat) (x2 : Int) (M : Mem) (h : f_X10_text_L47  n x2 M = some (r0, M0)) : WM syM p l e rm_X10_text s m args below meth c 3 D ad cA (MQ below (q_Post syM D ad cA (some (.int (qI r0))) M0) args s 0 0 (q_A syM ad)) M 47 [(0, .ref (ad 0)), (2, .int (qI x2))] [] :=
  qlm1_r (Wp := fun ux2 M => WM syM p l e rm_X10_text s m args below meth c 3 D ad cA (MQ below (q_Post syM D ad cA (some (.int (qI r0))) M0) args s 0 0 (q_A syM ad)) M 47 [(0, .ref (ad 0)), (2, .int (qI ux2))] []) (fun ux2 M g47 ih47 h => w_X10_text_B47 C hr hlk  ux2 M g47  ih47 h) n x2 M h
def f_X10_text (a0 : Int) (M : Mem) : Res :=
  q_pf M 0 0 0 fun M1 =>
  if w32 a0 < 0 then (some ((-2), M1))
  else (q_gf M1 0 2 fun v2 =>
  if w32 a0 ≤ w32 v2 then (q_pf M1 0 21 a0 fun M3 =>
  q_pf M3 0 2 0 fun M4 =>
  q_pf M4 0 22 0 fun M5 =>
  q_pf M5 0 26 0 fun M6 =>
  q_pf M6 0 27 (-1) fun M7 =>
  f_X10_text_L47  q_N 0 M7)
  else (some ((-2), M1)))
theorem c_X10_text {l : Launch} {D : va_G} {ad : Nat → Nat} {cA : Nat → ClassId} (hi : q_inj syM ad) (a0 : Int) (M : Mem) (r0 : Int) (M0 : Mem) (h : f_X10_text a0 M = some (r0, M0)) : q_Met l syM D ad cA yX10_text cX10_text 3 (some .int) rm_X10_text [.ref (ad 0), .int (qI a0)] M (some (.int (qI r0))) M0 := by
  refine q_met (L0 := [(0, .ref (ad 0)), (1, .int (qI a0))]) hi okM (by decide) (Nat.le_of_ble_eq_true rfl) rfl ?_
  intro p e s m args below meth c C hr hlk
  unfold f_X10_text at h
  refine r_aln C dX10_text_0 (k := 0) rfl ?_
  refine r_ic C dX10_text_1 ?_
  refine r_pf C km_0 clX10 (f := 0) (by decide) rfl q_dI rfl rfl tf_RX10_142 dX10_text_2 h (fun M1 h => ?_)
  refine r_iln C dX10_text_5 (k := 1) rfl ?_
  refine r_zlt C (tgt := 17) dX10_text_6 (by decide) h (fun h => ?_) (fun h => ?_)
  · refine r_bi C dX10_text_17 (by decide) ?_
    exact r_iret C hr hlk dX10_text_19 h
  · refine r_iln C dX10_text_9 (k := 1) rfl ?_
    refine r_aln C dX10_text_10 (k := 0) rfl ?_
    refine r_gf C km_0 clX10 (f := 2) (by decide) rfl rfl rfl tf_RX10_145 dX10_text_11 h (fun v2 h => ?_)
    refine r_cle C (tgt := 20) dX10_text_14 (by decide) h (fun h => ?_) (fun h => ?_)
    · refine r_aln C dX10_text_20 (k := 0) rfl ?_
      refine r_iln C dX10_text_21 (k := 1) rfl ?_
      refine r_pf C km_0 clX10 (f := 21) (by decide) rfl q_dI rfl rfl tf_RX10_151 dX10_text_22 h (fun M3 h => ?_)
      refine r_aln C dX10_text_25 (k := 0) rfl ?_
      refine r_ic C dX10_text_26 ?_
      refine r_pf C km_0 clX10 (f := 2) (by decide) rfl q_dI rfl rfl tf_RX10_145 dX10_text_27 h (fun M4 h => ?_)
      refine r_aln C dX10_text_30 (k := 0) rfl ?_
      refine r_ic C dX10_text_31 ?_
      refine r_pf C km_0 clX10 (f := 22) (by decide) rfl q_dI rfl rfl tf_RX10_148 dX10_text_32 h (fun M5 h => ?_)
      refine r_aln C dX10_text_35 (k := 0) rfl ?_
      refine r_ic C dX10_text_36 ?_
      refine r_pf C km_0 clX10 (f := 26) (by decide) rfl q_dI rfl rfl tf_RX10_196 dX10_text_37 h (fun M6 h => ?_)
      refine r_aln C dX10_text_40 (k := 0) rfl ?_
      refine r_ic C dX10_text_41 ?_
      refine r_pf C km_0 clX10 (f := 27) (by decide) rfl q_dI rfl rfl tf_RX10_199 dX10_text_42 h (fun M7 h => ?_)
      refine r_ic C dX10_text_45 ?_
      refine r_isn C (L1 := [(2, .int (qI 0)), (0, .ref (ad 0)), (1, .int (qI a0))]) dX10_text_46 (by decide) rfl ?_
      refine r_drop [1, 0] rfl ?_
      exact w_X10_text_L47 C hr hlk   q_N 0 M7 h
    · refine r_bi C dX10_text_17 (by decide) ?_
      exact r_iret C hr hlk dX10_text_19 h
abbrev rm_X10_thrown : Room := { frames := 0, cells := 0, slots := 0, locals := 0 }
theorem mw_X10_thrown : q_mw RX10 yX10_thrown cX10_thrown 1 (some .int) 0 := ⟨⟨ti_X10_thrown, tl_X10_thrown, tn_RX10, td_X10_thrown⟩, by decide +kernel⟩
def f_X10_thrown  (M : Mem) : Option Int :=
  q_gf M 0 0 fun v1 =>
  some v1
theorem c_X10_thrown {l : Launch} {D : va_G} {ad : Nat → Nat} {cA : Nat → ClassId} (hi : q_inj syM ad)  (M : Mem) (r0 : Int) (h : f_X10_thrown  M = some r0) : q_Met l syM D ad cA yX10_thrown cX10_thrown 1 (some .int) rm_X10_thrown [.ref (ad 0)] M (some (.int (qI r0))) M := by
  refine q_met (L0 := [(0, .ref (ad 0))]) hi okM (by decide) (Nat.le_of_ble_eq_true rfl) rfl ?_
  intro p e s m args below meth c C hr hlk
  unfold f_X10_thrown at h
  refine r_aln C dX10_thrown_0 (k := 0) rfl ?_
  refine r_gf C km_0 clX10 (f := 0) (by decide) rfl rfl rfl tf_RX10_142 dX10_thrown_1 h (fun v1 h => ?_)
  exact r_iretp C hr hlk dX10_thrown_4 h
abbrev rm_X10_tried : Room := { frames := 7, cells := 0, slots := 0, locals := 167 }
theorem mw_X10_tried : q_mw RX10 yX10_tried cX10_tried 6 (some .int) 3 := ⟨⟨ti_X10_tried, tl_X10_tried, tn_RX10, td_X10_tried⟩, by decide +kernel⟩
def f_X10_tried_J120 (x1 : Int) (x3 : Int) (M : Mem) : Res :=
  q_pf M 0 47 x1 fun M1 =>
  q_call (f_X10_goesOn x3 M1) fun r2 M3 =>
  q_pf M3 0 47 0 fun M4 =>
  q_calp (f_X10_soulsOf 1 2 M4) fun r5 =>
  q_calp (f_X10_soulsOf 0 2 M4) fun r6 =>
  some (r5 - r6, M4)
theorem w_X10_tried_J120 (C : Cx syM p m c cX10_tried 6 s args RX10 D ad cA) (hr : meth.sig.returnType = (some .int)) (hlk : meth.locks = false) (x1 : Int) (x3 : Int) (M : Mem)  (h : f_X10_tried_J120 x1 x3 M = some (r0, M0)) : WM syM p l e rm_X10_tried s m args below meth c 6 D ad cA (MQ below (q_Post syM D ad cA (some (.int (qI r0))) M0) args s 0 0 (q_A syM ad)) M 120 [(0, .ref (ad 0)), (1, .int (qI x1)), (3, .int (qI x3))] [] := by
  unfold f_X10_tried_J120 at h
  refine r_aln C dX10_tried_120 (k := 0) rfl ?_
  refine r_iln C dX10_tried_121 (k := 1) rfl ?_
  refine r_pf C km_0 clX10 (f := 47) (by decide) rfl q_dI rfl rfl tf_RX10_349 dX10_tried_122 h (fun M1 h => ?_)
  refine r_aln C dX10_tried_125 (k := 0) rfl ?_
  refine r_iln C dX10_tried_126 (k := 2) rfl ?_
  obtain ⟨r2, M3, hy, h⟩ := q_call_some h
  refine r_cvv C (st := []) (c_X10_goesOn C.2.2.1 x3 M1 r2 M3 hy) tm_RX10_408 mw_X10_goesOn ⟨rfl, rfl⟩ ⟨Nat.le_of_ble_eq_true rfl, Nat.le_of_ble_eq_true rfl⟩ km_0 clX10 rfl rfl (Nat.le_of_ble_eq_true rfl) dX10_tried_127 ?_
  refine r_aln C dX10_tried_130 (k := 0) rfl ?_
  refine r_ic C dX10_tried_131 ?_
  refine r_pf C km_0 clX10 (f := 47) (by decide) rfl q_dI rfl rfl tf_RX10_349 dX10_tried_132 h (fun M4 h => ?_)
  refine r_aln C dX10_tried_135 (k := 0) rfl ?_
  refine r_ic C dX10_tried_136 ?_
  refine r_ic C dX10_tried_137 ?_
  obtain ⟨r5, hy, h⟩ := q_calp_some h
  refine r_cvi C (st := []) (c_X10_soulsOf C.2.2.1 1 2 M4 r5 hy) tm_RX10_436 mw_X10_soulsOf ⟨rfl, rfl⟩ ⟨Nat.le_of_ble_eq_true rfl, Nat.le_of_ble_eq_true rfl⟩ km_0 clX10 rfl rfl (Nat.le_of_ble_eq_true rfl) dX10_tried_138 ?_
  refine r_aln C dX10_tried_141 (k := 0) rfl ?_
  refine r_ic C dX10_tried_142 ?_
  refine r_ic C dX10_tried_143 ?_
  obtain ⟨r6, hy, h⟩ := q_calp_some h
  refine r_cvi C (st := [.int (qI r5)]) (c_X10_soulsOf C.2.2.1 0 2 M4 r6 hy) tm_RX10_436 mw_X10_soulsOf ⟨rfl, rfl⟩ ⟨Nat.le_of_ble_eq_true rfl, Nat.le_of_ble_eq_true rfl⟩ km_0 clX10 rfl rfl (Nat.le_of_ble_eq_true rfl) dX10_tried_144 ?_
  refine r_isub C dX10_tried_147 ?_
  exact r_iret C hr hlk dX10_tried_148 h
def f_X10_tried_B90 (x1 : Int) (x3 : Int) (x5 : Int) (M : Mem) (g90 : Int → Mem → Res) : Res :=
  if w32 8 ≤ w32 x5 then (f_X10_tried_J120 x1 x3 M)
  else (if ¬ w32 x1 = w32 5 then (f_X10_tried_J120 x1 x3 M)
  else (q_as M 72 184 (8 + x5) 99 fun M1 =>
  g90 (x5 + 1) M1))
def f_X10_tried_L90 (x1 : Int) (x3 : Int) (n : Nat) (x5 : Int) (M : Mem) : Res := qlm1 (fun x5 M g90 => f_X10_tried_B90 x1 x3 x5 M g90) n x5 M
theorem w_X10_tried_B90 (C : Cx syM p m c cX10_tried 6 s args RX10 D ad cA) (hr : meth.sig.returnType = (some .int)) (hlk : meth.locks = false)  (x1 : Int) (x3 : Int) (x5 : Int) (M : Mem) (g90 : Int → Mem → Res)  (ih90 : ∀ (ux5 : Int) (M : Mem), g90 ux5 M = some (r0, M0) → WM syM p l e rm_X10_tried s m args below meth c 6 D ad cA (MQ below (q_Post syM D ad cA (some (.int (qI r0))) M0) args s 0 0 (q_A syM ad)) M 90 [(0, .ref (ad 0)), (1, .int (qI x1)), (3, .int (qI x3)), (5, .int (qI ux5))] []) (h : f_X10_tried_B90 x1 x3 x5 M g90 = some (r0, M0)) : WM syM p l e rm_X10_tried s m args below meth c 6 D ad cA (MQ below (q_Post syM D ad cA (some (.int (qI r0))) M0) args s 0 0 (q_A syM ad)) M 90 [(0, .ref (ad 0)), (1, .int (qI x1)), (3, .int (qI x3)), (5, .int (qI x5))] [] := by
  unfold f_X10_tried_B90 at h
  refine r_il C dX10_tried_90 (k := 3) rfl ?_
  refine r_bi C dX10_tried_92 (by decide) ?_
  refine r_cge C (tgt := 120) dX10_tried_94 (by decide) h (fun h => ?_) (fun h => ?_)
  · refine r_drop [0, 1, 2] rfl ?_
    exact w_X10_tried_J120 C hr hlk x1 x3 M  h
  · refine r_iln C dX10_tried_97 (k := 1) rfl ?_
    refine r_ic C dX10_tried_98 ?_
    refine r_cne C (tgt := 120) dX10_tried_99 (by decide) h (fun h => ?_) (fun h => ?_)
    · refine r_drop [0, 1, 2] rfl ?_
      exact w_X10_tried_J120 C hr hlk x1 x3 M  h
    · refine r_aln C dX10_tried_102 (k := 0) rfl ?_
      refine r_gs C km_0 clX10 (f := 40) (by decide) rfl (t := 72) rfl tf_RX10_87 dX10_tried_103 ?_
      refine r_bi C dX10_tried_106 (by decide) ?_
      refine r_il C dX10_tried_108 (k := 3) rfl ?_
      refine r_iadd C dX10_tried_110 ?_
      refine r_bi C dX10_tried_111 (by decide) ?_
      refine r_iast C km_72 dX10_tried_113 h (fun M1 h => ?_)
      refine r_inc C (L1 := [(5, .int (qI (x5 + 1))), (0, .ref (ad 0)), (1, .int (qI x1)), (3, .int (qI x3))]) dX10_tried_114 (k := 3) rfl (by decide) rfl ?_
      refine r_goto C (tgt := 90) dX10_tried_117 (by decide) ?_
      refine r_drop [1, 2, 3, 0] rfl ?_
      exact ih90 (x5 + 1) M1 h
theorem w_X10_tried_L90 (C : Cx syM p m c cX10_tried 6 s args RX10 D ad cA) (hr : meth.sig.returnType = (some .int)) (hlk : meth.locks = false)  (x1 : Int) (x3 : Int)  (n : Nat) (x5 : Int) (M : Mem) (h : f_X10_tried_L90 x1 x3 n x5 M = some (r0, M0)) : WM syM p l e rm_X10_tried s m args below meth c 6 D ad cA (MQ below (q_Post syM D ad cA (some (.int (qI r0))) M0) args s 0 0 (q_A syM ad)) M 90 [(0, .ref (ad 0)), (1, .int (qI x1)), (3, .int (qI x3)), (5, .int (qI x5))] [] :=
  qlm1_r (Wp := fun ux5 M => WM syM p l e rm_X10_tried s m args below meth c 6 D ad cA (MQ below (q_Post syM D ad cA (some (.int (qI r0))) M0) args s 0 0 (q_A syM ad)) M 90 [(0, .ref (ad 0)), (1, .int (qI x1)), (3, .int (qI x3)), (5, .int (qI ux5))] []) (fun ux5 M g90 ih90 h => w_X10_tried_B90 C hr hlk x1 x3 ux5 M g90  ih90 h) n x5 M h
def f_X10_tried_J87 (x1 : Int) (x3 : Int) (M : Mem) : Res :=
  f_X10_tried_L90 x1 x3 q_N 0 M
theorem w_X10_tried_J87 (C : Cx syM p m c cX10_tried 6 s args RX10 D ad cA) (hr : meth.sig.returnType = (some .int)) (hlk : meth.locks = false) (x1 : Int) (x3 : Int) (M : Mem)  (h : f_X10_tried_J87 x1 x3 M = some (r0, M0)) : WM syM p l e rm_X10_tried s m args below meth c 6 D ad cA (MQ below (q_Post syM D ad cA (some (.int (qI r0))) M0) args s 0 0 (q_A syM ad)) M 87 [(0, .ref (ad 0)), (1, .int (qI x1)), (3, .int (qI x3))] [] := by
  unfold f_X10_tried_J87 at h
  refine r_ic C dX10_tried_87 ?_
  refine r_is C (L1 := [(5, .int (qI 0)), (0, .ref (ad 0)), (1, .int (qI x1)), (3, .int (qI x3))]) dX10_tried_88 (by decide) rfl ?_
  refine r_drop [1, 2, 3, 0] rfl ?_
  exact w_X10_tried_L90 C hr hlk x1 x3  q_N 0 M h
def f_X10_tried_J36 (x1 : Int) (x2 : Int) (x3 : Int) (y0 : Int) (M : Mem) : Res :=
  if w32 y0 = 0 then (some ((-1), M))
  else (if w32 x3 < 0 then (some ((-1), M))
  else (if w32 x3 ≤ w32 200 then (q_call (f_X10_copies 1 0 M) fun r1 M2 =>
  if ¬ w32 x1 = w32 2 then (f_X10_tried_J87 x1 x3 M2)
  else (q_al M2 71 184 (8 + x2) fun v3 =>
  if w32 2 ≤ w32 v3 then (f_X10_tried_J87 x1 x3 M2)
  else (q_call (f_X10_leaves 1 x2 3 M2) fun r4 M5 =>
  f_X10_tried_J87 x1 x3 M5)))
  else (some ((-1), M))))
theorem w_X10_tried_J36 (C : Cx syM p m c cX10_tried 6 s args RX10 D ad cA) (hr : meth.sig.returnType = (some .int)) (hlk : meth.locks = false) (x1 : Int) (x2 : Int) (x3 : Int) (y0 : Int) (M : Mem)  (h : f_X10_tried_J36 x1 x2 x3 y0 M = some (r0, M0)) : WM syM p l e rm_X10_tried s m args below meth c 6 D ad cA (MQ below (q_Post syM D ad cA (some (.int (qI r0))) M0) args s 0 0 (q_A syM ad)) M 36 [(0, .ref (ad 0)), (1, .int (qI x1)), (2, .int (qI x2)), (3, .int (qI x3))] [.int (qI y0)] := by
  unfold f_X10_tried_J36 at h
  refine r_is C (L1 := [(4, .int (qI y0)), (0, .ref (ad 0)), (1, .int (qI x1)), (2, .int (qI x2)), (3, .int (qI x3))]) dX10_tried_36 (by decide) rfl ?_
  refine r_il C dX10_tried_38 (k := 0) rfl ?_
  refine r_zeq C (tgt := 54) dX10_tried_40 (by decide) h (fun h => ?_) (fun h => ?_)
  · refine r_ic C dX10_tried_54 ?_
    exact r_iret C hr hlk dX10_tried_55 h
  · refine r_iln C dX10_tried_43 (k := 4) rfl ?_
    refine r_zlt C (tgt := 54) dX10_tried_44 (by decide) h (fun h => ?_) (fun h => ?_)
    · refine r_ic C dX10_tried_54 ?_
      exact r_iret C hr hlk dX10_tried_55 h
    · refine r_iln C dX10_tried_47 (k := 4) rfl ?_
      refine r_si C dX10_tried_48 (by decide) ?_
      refine r_cle C (tgt := 56) dX10_tried_51 (by decide) h (fun h => ?_) (fun h => ?_)
      · refine r_aln C dX10_tried_56 (k := 1) rfl ?_
        refine r_ic C dX10_tried_57 ?_
        refine r_ic C dX10_tried_58 ?_
        obtain ⟨r1, M2, hy, h⟩ := q_call_some h
        refine r_cvv C (st := []) (c_X10_copies C.2.2.1 1 0 M r1 M2 hy) tm_RX10_405 mw_X10_copies ⟨rfl, rfl⟩ ⟨Nat.le_of_ble_eq_true rfl, Nat.le_of_ble_eq_true rfl⟩ km_0 clX10 rfl rfl (Nat.le_of_ble_eq_true rfl) dX10_tried_59 ?_
        refine r_iln C dX10_tried_62 (k := 2) rfl ?_
        refine r_ic C dX10_tried_63 ?_
        refine r_cne C (tgt := 87) dX10_tried_64 (by decide) h (fun h => ?_) (fun h => ?_)
        · refine r_drop [1, 2, 4] rfl ?_
          exact w_X10_tried_J87 C hr hlk x1 x3 M2  h
        · refine r_aln C dX10_tried_67 (k := 1) rfl ?_
          refine r_gs C km_0 clX10 (f := 39) (by decide) rfl (t := 71) rfl tf_RX10_84 dX10_tried_68 ?_
          refine r_bi C dX10_tried_71 (by decide) ?_
          refine r_iln C dX10_tried_73 (k := 3) rfl ?_
          refine r_iadd C dX10_tried_74 ?_
          refine r_iald C km_71 dX10_tried_75 h (fun v3 h => ?_)
          refine r_ic C dX10_tried_76 ?_
          refine r_cge C (tgt := 87) dX10_tried_77 (by decide) h (fun h => ?_) (fun h => ?_)
          · refine r_drop [1, 2, 4] rfl ?_
            exact w_X10_tried_J87 C hr hlk x1 x3 M2  h
          · refine r_aln C dX10_tried_80 (k := 1) rfl ?_
            refine r_ic C dX10_tried_81 ?_
            refine r_iln C dX10_tried_82 (k := 3) rfl ?_
            refine r_ic C dX10_tried_83 ?_
            obtain ⟨r4, M5, hy, h⟩ := q_call_some h
            refine r_cvv C (st := []) (c_X10_leaves C.2.2.1 1 x2 3 M2 r4 M5 hy) tm_RX10_373 mw_X10_leaves ⟨rfl, rfl⟩ ⟨Nat.le_of_ble_eq_true rfl, Nat.le_of_ble_eq_true rfl⟩ km_0 clX10 rfl rfl (Nat.le_of_ble_eq_true rfl) dX10_tried_84 ?_
            refine r_drop [1, 2, 4] rfl ?_
            exact w_X10_tried_J87 C hr hlk x1 x3 M5  h
      · refine r_ic C dX10_tried_54 ?_
        exact r_iret C hr hlk dX10_tried_55 h
def f_X10_tried_J35 (x1 : Int) (x2 : Int) (x3 : Int) (M : Mem) : Res :=
  f_X10_tried_J36 x1 x2 x3 0 M
theorem w_X10_tried_J35 (C : Cx syM p m c cX10_tried 6 s args RX10 D ad cA) (hr : meth.sig.returnType = (some .int)) (hlk : meth.locks = false) (x1 : Int) (x2 : Int) (x3 : Int) (M : Mem)  (h : f_X10_tried_J35 x1 x2 x3 M = some (r0, M0)) : WM syM p l e rm_X10_tried s m args below meth c 6 D ad cA (MQ below (q_Post syM D ad cA (some (.int (qI r0))) M0) args s 0 0 (q_A syM ad)) M 35 [(0, .ref (ad 0)), (1, .int (qI x1)), (2, .int (qI x2)), (3, .int (qI x3))] [] := by
  unfold f_X10_tried_J35 at h
  refine r_ic C dX10_tried_35 ?_
  exact w_X10_tried_J36 C hr hlk x1 x2 x3 0 M  h
def f_X10_tried (a0 : Int) (a1 : Int) (a2 : Int) (M : Mem) : Res :=
  q_pf M 0 0 0 fun M1 =>
  if ¬ w32 a0 = w32 2 then (if w32 a0 < 0 then (f_X10_tried_J35 a0 a1 a2 M1)
  else (if w32 5 < w32 a0 then (f_X10_tried_J35 a0 a1 a2 M1)
  else (if ¬ w32 a1 = 0 then (f_X10_tried_J35 a0 a1 a2 M1)
  else (f_X10_tried_J36 a0 a1 a2 1 M1))))
  else (q_calp (f_X10_isSoul a1 M1) fun r2 =>
  f_X10_tried_J36 a0 a1 a2 r2 M1)
theorem c_X10_tried {l : Launch} {D : va_G} {ad : Nat → Nat} {cA : Nat → ClassId} (hi : q_inj syM ad) (a0 : Int) (a1 : Int) (a2 : Int) (M : Mem) (r0 : Int) (M0 : Mem) (h : f_X10_tried a0 a1 a2 M = some (r0, M0)) : q_Met l syM D ad cA yX10_tried cX10_tried 6 (some .int) rm_X10_tried [.ref (ad 0), .int (qI a0), .int (qI a1), .int (qI a2)] M (some (.int (qI r0))) M0 := by
  refine q_met (L0 := [(0, .ref (ad 0)), (1, .int (qI a0)), (2, .int (qI a1)), (3, .int (qI a2))]) hi okM (by decide) (Nat.le_of_ble_eq_true rfl) rfl ?_
  intro p e s m args below meth c C hr hlk
  unfold f_X10_tried at h
  refine r_aln C dX10_tried_0 (k := 0) rfl ?_
  refine r_ic C dX10_tried_1 ?_
  refine r_pf C km_0 clX10 (f := 0) (by decide) rfl q_dI rfl rfl tf_RX10_142 dX10_tried_2 h (fun M1 h => ?_)
  refine r_iln C dX10_tried_5 (k := 1) rfl ?_
  refine r_ic C dX10_tried_6 ?_
  refine r_cne C (tgt := 18) dX10_tried_7 (by decide) h (fun h => ?_) (fun h => ?_)
  · refine r_iln C dX10_tried_18 (k := 1) rfl ?_
    refine r_zlt C (tgt := 35) dX10_tried_19 (by decide) h (fun h => ?_) (fun h => ?_)
    · exact w_X10_tried_J35 C hr hlk a0 a1 a2 M1  h
    · refine r_iln C dX10_tried_22 (k := 1) rfl ?_
      refine r_ic C dX10_tried_23 ?_
      refine r_cgt C (tgt := 35) dX10_tried_24 (by decide) h (fun h => ?_) (fun h => ?_)
      · exact w_X10_tried_J35 C hr hlk a0 a1 a2 M1  h
      · refine r_iln C dX10_tried_27 (k := 2) rfl ?_
        refine r_zne C (tgt := 35) dX10_tried_28 (by decide) h (fun h => ?_) (fun h => ?_)
        · exact w_X10_tried_J35 C hr hlk a0 a1 a2 M1  h
        · refine r_ic C dX10_tried_31 ?_
          refine r_goto C (tgt := 36) dX10_tried_32 (by decide) ?_
          exact w_X10_tried_J36 C hr hlk a0 a1 a2 1 M1  h
  · refine r_aln C dX10_tried_10 (k := 0) rfl ?_
    refine r_iln C dX10_tried_11 (k := 2) rfl ?_
    obtain ⟨r2, hy, h⟩ := q_calp_some h
    refine r_cvi C (st := []) (c_X10_isSoul C.2.2.1 a1 M1 r2 hy) tm_RX10_411 mw_X10_isSoul ⟨rfl, rfl⟩ ⟨Nat.le_of_ble_eq_true rfl, Nat.le_of_ble_eq_true rfl⟩ km_0 clX10 rfl rfl (Nat.le_of_ble_eq_true rfl) dX10_tried_12 ?_
    refine r_goto C (tgt := 36) dX10_tried_15 (by decide) ?_
    exact w_X10_tried_J36 C hr hlk a0 a1 a2 r2 M1  h
abbrev rm_X10_trips : Room := { frames := 4, cells := 0, slots := 0, locals := 95 }
theorem mw_X10_trips : q_mw RX10 yX10_trips cX10_trips 4 (some .int) 1 := ⟨⟨ti_X10_trips, tl_X10_trips, tn_RX10, td_X10_trips⟩, by decide +kernel⟩
def f_X10_trips_B19 (x1 : Int) (x2 : Int) (x3 : Int) (M : Mem) (g19 : Int → Int → Mem → Res) : Res :=
  q_al M 69 23 0 fun v1 =>
  if w32 v1 ≤ w32 x3 then (q_al M 43 8 x1 fun v2 =>
  q_al M 43 8 x1 fun v3 =>
  q_nz v3 <| some ((w32 ((x2 + v2) - 1)).tdiv (w32 v3), M))
  else (q_al M 70 184 x3 fun v4 =>
  q_call (f_X10_mayRide 0 v4 x1 M) fun r5 M6 =>
  if w32 r5 = 0 then (g19 (x2 + 0) (x3 + 1) M6)
  else (g19 (x2 + 1) (x3 + 1) M6))
def f_X10_trips_L19 (x1 : Int) (n : Nat) (x2 : Int) (x3 : Int) (M : Mem) : Res := qlm2 (fun x2 x3 M g19 => f_X10_trips_B19 x1 x2 x3 M g19) n x2 x3 M
theorem w_X10_trips_B19 (C : Cx syM p m c cX10_trips 4 s args RX10 D ad cA) (hr : meth.sig.returnType = (some .int)) (hlk : meth.locks = false)  (x1 : Int) (x2 : Int) (x3 : Int) (M : Mem) (g19 : Int → Int → Mem → Res)  (ih19 : ∀ (ux2 ux3 : Int) (M : Mem), g19 ux2 ux3 M = some (r0, M0) → WM syM p l e rm_X10_trips s m args below meth c 4 D ad cA (MQ below (q_Post syM D ad cA (some (.int (qI r0))) M0) args s 0 0 (q_A syM ad)) M 19 [(0, .ref (ad 0)), (1, .int (qI x1)), (2, .int (qI ux2)), (3, .int (qI ux3))] []) (h : f_X10_trips_B19 x1 x2 x3 M g19 = some (r0, M0)) : WM syM p l e rm_X10_trips s m args below meth c 4 D ad cA (MQ below (q_Post syM D ad cA (some (.int (qI r0))) M0) args s 0 0 (q_A syM ad)) M 19 [(0, .ref (ad 0)), (1, .int (qI x1)), (2, .int (qI x2)), (3, .int (qI x3))] [] := by
  unfold f_X10_trips_B19 at h
  refine r_iln C dX10_trips_19 (k := 3) rfl ?_
  refine r_aln C dX10_trips_20 (k := 0) rfl ?_
  refine r_gs C km_0 clX10 (f := 37) (by decide) rfl (t := 69) rfl tf_RX10_78 dX10_trips_21 ?_
  refine r_ic C dX10_trips_24 ?_
  refine r_iald C km_69 dX10_trips_25 h (fun v1 h => ?_)
  refine r_cge C (tgt := 58) dX10_trips_26 (by decide) h (fun h => ?_) (fun h => ?_)
  · refine r_iln C dX10_trips_58 (k := 2) rfl ?_
    refine r_aln C dX10_trips_59 (k := 0) rfl ?_
    refine r_gs C km_0 clX10 (f := 11) (by decide) rfl (t := 43) rfl tf_RX10_37 dX10_trips_60 ?_
    refine r_iln C dX10_trips_63 (k := 1) rfl ?_
    refine r_iald C km_43 dX10_trips_64 h (fun v2 h => ?_)
    refine r_iadd C dX10_trips_65 ?_
    refine r_ic C dX10_trips_66 ?_
    refine r_isub C dX10_trips_67 ?_
    refine r_aln C dX10_trips_68 (k := 0) rfl ?_
    refine r_gs C km_0 clX10 (f := 11) (by decide) rfl (t := 43) rfl tf_RX10_37 dX10_trips_69 ?_
    refine r_iln C dX10_trips_72 (k := 1) rfl ?_
    refine r_iald C km_43 dX10_trips_73 h (fun v3 h => ?_)
    refine r_idiv C dX10_trips_74 h (fun h => ?_)
    exact r_iret C hr hlk dX10_trips_75 h
  · refine r_iln C dX10_trips_29 (k := 2) rfl ?_
    refine r_aln C dX10_trips_30 (k := 0) rfl ?_
    refine r_ic C dX10_trips_31 ?_
    refine r_aln C dX10_trips_32 (k := 0) rfl ?_
    refine r_gs C km_0 clX10 (f := 38) (by decide) rfl (t := 70) rfl tf_RX10_81 dX10_trips_33 ?_
    refine r_iln C dX10_trips_36 (k := 3) rfl ?_
    refine r_iald C km_70 dX10_trips_37 h (fun v4 h => ?_)
    refine r_iln C dX10_trips_38 (k := 1) rfl ?_
    obtain ⟨r5, M6, hy, h⟩ := q_call_some h
    refine r_cvi C (st := [.int (qI x2)]) (c_X10_mayRide C.2.2.1 0 v4 x1 M r5 M6 hy) tm_RX10_362 mw_X10_mayRide ⟨rfl, rfl⟩ ⟨Nat.le_of_ble_eq_true rfl, Nat.le_of_ble_eq_true rfl⟩ km_0 clX10 rfl rfl (Nat.le_of_ble_eq_true rfl) dX10_trips_39 ?_
    refine r_zeq C (tgt := 49) dX10_trips_42 (by decide) h (fun h => ?_) (fun h => ?_)
    · refine r_ic C dX10_trips_49 ?_
      refine r_iadd C dX10_trips_50 ?_
      refine r_isn C (L1 := [(2, .int (qI (x2 + 0))), (0, .ref (ad 0)), (1, .int (qI x1)), (3, .int (qI x3))]) dX10_trips_51 (by decide) rfl ?_
      refine r_inc C (L1 := [(3, .int (qI (x3 + 1))), (2, .int (qI (x2 + 0))), (0, .ref (ad 0)), (1, .int (qI x1))]) dX10_trips_52 (k := 3) rfl (by decide) rfl ?_
      refine r_goto C (tgt := 19) dX10_trips_55 (by decide) ?_
      refine r_drop [2, 3, 1, 0] rfl ?_
      exact ih19 (x2 + 0) (x3 + 1) M6 h
    · refine r_ic C dX10_trips_45 ?_
      refine r_goto C (tgt := 50) dX10_trips_46 (by decide) ?_
      refine r_iadd C dX10_trips_50 ?_
      refine r_isn C (L1 := [(2, .int (qI (x2 + 1))), (0, .ref (ad 0)), (1, .int (qI x1)), (3, .int (qI x3))]) dX10_trips_51 (by decide) rfl ?_
      refine r_inc C (L1 := [(3, .int (qI (x3 + 1))), (2, .int (qI (x2 + 1))), (0, .ref (ad 0)), (1, .int (qI x1))]) dX10_trips_52 (k := 3) rfl (by decide) rfl ?_
      refine r_goto C (tgt := 19) dX10_trips_55 (by decide) ?_
      refine r_drop [2, 3, 1, 0] rfl ?_
      exact ih19 (x2 + 1) (x3 + 1) M6 h
theorem w_X10_trips_L19 (C : Cx syM p m c cX10_trips 4 s args RX10 D ad cA) (hr : meth.sig.returnType = (some .int)) (hlk : meth.locks = false)  (x1 : Int)  (n : Nat) (x2 : Int) (x3 : Int) (M : Mem) (h : f_X10_trips_L19 x1 n x2 x3 M = some (r0, M0)) : WM syM p l e rm_X10_trips s m args below meth c 4 D ad cA (MQ below (q_Post syM D ad cA (some (.int (qI r0))) M0) args s 0 0 (q_A syM ad)) M 19 [(0, .ref (ad 0)), (1, .int (qI x1)), (2, .int (qI x2)), (3, .int (qI x3))] [] :=
  qlm2_r (Wp := fun ux2 ux3 M => WM syM p l e rm_X10_trips s m args below meth c 4 D ad cA (MQ below (q_Post syM D ad cA (some (.int (qI r0))) M0) args s 0 0 (q_A syM ad)) M 19 [(0, .ref (ad 0)), (1, .int (qI x1)), (2, .int (qI ux2)), (3, .int (qI ux3))] []) (fun ux2 ux3 M g19 ih19 h => w_X10_trips_B19 C hr hlk x1 ux2 ux3 M g19  ih19 h) n x2 x3 M h
def f_X10_trips (a0 : Int) (M : Mem) : Res :=
  q_pf M 0 0 0 fun M1 =>
  q_calp (f_X10_isBus a0 M1) fun r2 =>
  if ¬ w32 r2 = 0 then (f_X10_trips_L19 a0 q_N 0 0 M1)
  else (some ((-1), M1))
theorem c_X10_trips {l : Launch} {D : va_G} {ad : Nat → Nat} {cA : Nat → ClassId} (hi : q_inj syM ad) (a0 : Int) (M : Mem) (r0 : Int) (M0 : Mem) (h : f_X10_trips a0 M = some (r0, M0)) : q_Met l syM D ad cA yX10_trips cX10_trips 4 (some .int) rm_X10_trips [.ref (ad 0), .int (qI a0)] M (some (.int (qI r0))) M0 := by
  refine q_met (L0 := [(0, .ref (ad 0)), (1, .int (qI a0))]) hi okM (by decide) (Nat.le_of_ble_eq_true rfl) rfl ?_
  intro p e s m args below meth c C hr hlk
  unfold f_X10_trips at h
  refine r_aln C dX10_trips_0 (k := 0) rfl ?_
  refine r_ic C dX10_trips_1 ?_
  refine r_pf C km_0 clX10 (f := 0) (by decide) rfl q_dI rfl rfl tf_RX10_142 dX10_trips_2 h (fun M1 h => ?_)
  refine r_aln C dX10_trips_5 (k := 0) rfl ?_
  refine r_iln C dX10_trips_6 (k := 1) rfl ?_
  obtain ⟨r2, hy, h⟩ := q_calp_some h
  refine r_cvi C (st := []) (c_X10_isBus C.2.2.1 a0 M1 r2 hy) tm_RX10_420 mw_X10_isBus ⟨rfl, rfl⟩ ⟨Nat.le_of_ble_eq_true rfl, Nat.le_of_ble_eq_true rfl⟩ km_0 clX10 rfl rfl (Nat.le_of_ble_eq_true rfl) dX10_trips_7 ?_
  refine r_zne C (tgt := 15) dX10_trips_10 (by decide) h (fun h => ?_) (fun h => ?_)
  · refine r_ic C dX10_trips_15 ?_
    refine r_isn C (L1 := [(2, .int (qI 0)), (0, .ref (ad 0)), (1, .int (qI a0))]) dX10_trips_16 (by decide) rfl ?_
    refine r_ic C dX10_trips_17 ?_
    refine r_isn C (L1 := [(3, .int (qI 0)), (2, .int (qI 0)), (0, .ref (ad 0)), (1, .int (qI a0))]) dX10_trips_18 (by decide) rfl ?_
    refine r_drop [2, 3, 1, 0] rfl ?_
    exact w_X10_trips_L19 C hr hlk a0  q_N 0 0 M1 h
  · refine r_ic C dX10_trips_13 ?_
    exact r_iret C hr hlk dX10_trips_14 h
abbrev rm_X10_undo : Room := { frames := 1, cells := 0, slots := 0, locals := 25 }
theorem mw_X10_undo : q_mw RX10 yX10_undo cX10_undo 1 (some .int) 0 := ⟨⟨ti_X10_undo, tl_X10_undo, tn_RX10, td_X10_undo⟩, by decide +kernel⟩
def f_X10_undo  (M : Mem) : Res :=
  q_pf M 0 0 0 fun M1 =>
  q_gf M1 0 46 fun v2 =>
  if ¬ w32 v2 = 0 then (q_gf M1 0 46 fun v3 =>
  q_pf M1 0 46 (v3 - 1) fun M4 =>
  q_gf M4 0 46 fun v5 =>
  q_call (f_X10_copies 0 (3 + v5) M4) fun r6 M7 =>
  q_gf M7 0 46 fun v8 =>
  some (v8, M7))
  else (some ((-1), M1))
theorem c_X10_undo {l : Launch} {D : va_G} {ad : Nat → Nat} {cA : Nat → ClassId} (hi : q_inj syM ad)  (M : Mem) (r0 : Int) (M0 : Mem) (h : f_X10_undo  M = some (r0, M0)) : q_Met l syM D ad cA yX10_undo cX10_undo 1 (some .int) rm_X10_undo [.ref (ad 0)] M (some (.int (qI r0))) M0 := by
  refine q_met (L0 := [(0, .ref (ad 0))]) hi okM (by decide) (Nat.le_of_ble_eq_true rfl) rfl ?_
  intro p e s m args below meth c C hr hlk
  unfold f_X10_undo at h
  refine r_aln C dX10_undo_0 (k := 0) rfl ?_
  refine r_ic C dX10_undo_1 ?_
  refine r_pf C km_0 clX10 (f := 0) (by decide) rfl q_dI rfl rfl tf_RX10_142 dX10_undo_2 h (fun M1 h => ?_)
  refine r_aln C dX10_undo_5 (k := 0) rfl ?_
  refine r_gf C km_0 clX10 (f := 46) (by decide) rfl rfl rfl tf_RX10_302 dX10_undo_6 h (fun v2 h => ?_)
  refine r_zne C (tgt := 14) dX10_undo_9 (by decide) h (fun h => ?_) (fun h => ?_)
  · refine r_aln C dX10_undo_14 (k := 0) rfl ?_
    refine r_dup C rfl dX10_undo_15 ?_
    refine r_gf C km_0 clX10 (f := 46) (by decide) rfl rfl rfl tf_RX10_302 dX10_undo_16 h (fun v3 h => ?_)
    refine r_ic C dX10_undo_19 ?_
    refine r_isub C dX10_undo_20 ?_
    refine r_pf C km_0 clX10 (f := 46) (by decide) rfl q_dI rfl rfl tf_RX10_302 dX10_undo_21 h (fun M4 h => ?_)
    refine r_aln C dX10_undo_24 (k := 0) rfl ?_
    refine r_ic C dX10_undo_25 ?_
    refine r_ic C dX10_undo_26 ?_
    refine r_aln C dX10_undo_27 (k := 0) rfl ?_
    refine r_gf C km_0 clX10 (f := 46) (by decide) rfl rfl rfl tf_RX10_302 dX10_undo_28 h (fun v5 h => ?_)
    refine r_iadd C dX10_undo_31 ?_
    obtain ⟨r6, M7, hy, h⟩ := q_call_some h
    refine r_cvv C (st := []) (c_X10_copies C.2.2.1 0 (3 + v5) M4 r6 M7 hy) tm_RX10_405 mw_X10_copies ⟨rfl, rfl⟩ ⟨Nat.le_of_ble_eq_true rfl, Nat.le_of_ble_eq_true rfl⟩ km_0 clX10 rfl rfl (Nat.le_of_ble_eq_true rfl) dX10_undo_32 ?_
    refine r_aln C dX10_undo_35 (k := 0) rfl ?_
    refine r_gf C km_0 clX10 (f := 46) (by decide) rfl rfl rfl tf_RX10_302 dX10_undo_36 h (fun v8 h => ?_)
    exact r_iret C hr hlk dX10_undo_39 h
  · refine r_ic C dX10_undo_12 ?_
    exact r_iret C hr hlk dX10_undo_13 h
end P13f
