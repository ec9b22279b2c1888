section P13e
variable {p : Program} {l : Launch} {e : Env} {s : State} {m : MethodId} {args : Array Value} {below : List Frame} {meth : Method} {c : Code} {D : va_G} {ad : Nat → Nat} {cA : Nat → ClassId} {r0 : Int} {M0 : Mem}
abbrev rm_X10_letsLine : Room := { frames := 9, cells := 0, slots := 0, locals := 364 }
theorem mw_X10_letsLine : q_mw RX10 yX10_letsLine cX10_letsLine 3 none 0 := ⟨⟨ti_X10_letsLine, tl_X10_letsLine, tn_RX10, td_X10_letsLine⟩, by decide +kernel⟩
def f_X10_letsLine_J116  (M : Mem) : Res :=
  q_call (f_X10_goOn  M) fun r1 M2 =>
  q_calp (f_X10_fresher 2 M2) fun r3 =>
  q_call (f_X10_reads 2 (r3 + 1) M2) fun r4 M5 =>
  some (0, M5)
theorem w_X10_letsLine_J116 (C : Cx syM p m c cX10_letsLine 3 s args RX10 D ad cA) (hr : meth.sig.returnType = none) (hlk : meth.locks = false)  (M : Mem)  (h : f_X10_letsLine_J116  M = some (r0, M0)) : WM syM p l e rm_X10_letsLine s m args below meth c 3 D ad cA (MQ below (q_Post syM D ad cA none M0) args s 0 0 (q_A syM ad)) M 116 [(0, .ref (ad 0))] [] := by
  unfold f_X10_letsLine_J116 at h
  refine r_aln C dX10_letsLine_116 (k := 0) rfl ?_
  obtain ⟨r1, M2, hy, h⟩ := q_call_some h
  refine r_cvv C (st := []) (c_X10_goOn C.2.2.1 M r1 M2 hy) tm_RX10_249 mw_X10_goOn ⟨rfl, rfl⟩ ⟨Nat.le_of_ble_eq_true rfl, Nat.le_of_ble_eq_true rfl⟩ km_0 clX10 rfl rfl (Nat.le_of_ble_eq_true rfl) dX10_letsLine_117 ?_
  refine r_aln C dX10_letsLine_120 (k := 0) rfl ?_
  refine r_ic C dX10_letsLine_121 ?_
  refine r_aln C dX10_letsLine_122 (k := 0) rfl ?_
  refine r_ic C dX10_letsLine_123 ?_
  obtain ⟨r3, hy, h⟩ := q_calp_some h
  refine r_cvi C (st := [.int (qI 2), .ref (ad 0)]) (c_X10_fresher C.2.2.1 2 M2 r3 hy) tm_RX10_212 mw_X10_fresher ⟨rfl, rfl⟩ ⟨Nat.le_of_ble_eq_true rfl, Nat.le_of_ble_eq_true rfl⟩ km_0 clX10 rfl rfl (Nat.le_of_ble_eq_true rfl) dX10_letsLine_124 ?_
  refine r_ic C dX10_letsLine_127 ?_
  refine r_iadd C dX10_letsLine_128 ?_
  obtain ⟨r4, M5, hy, h⟩ := q_call_some h
  refine r_cvv C (st := []) (c_X10_reads C.2.2.1 2 (r3 + 1) M2 r4 M5 hy) tm_RX10_230 mw_X10_reads ⟨rfl, rfl⟩ ⟨Nat.le_of_ble_eq_true rfl, Nat.le_of_ble_eq_true rfl⟩ km_0 clX10 rfl rfl (Nat.le_of_ble_eq_true rfl) dX10_letsLine_129 ?_
  exact r_vret C hr hlk dX10_letsLine_132 h
def f_X10_letsLine_B36 (x1 : Int) (x2 : Int) (M : Mem) (g36 : Int → Mem → Res) : Res :=
  if w32 x1 ≤ w32 x2 then (q_gf M 0 26 fun v1 =>
  if ¬ w32 v1 = 0 then (f_X10_letsLine_J116  M)
  else (q_al M 45 16 x1 fun v2 =>
  q_al M 46 16 x1 fun v3 =>
  if ¬ w32 v2 = w32 v3 then (f_X10_letsLine_J116  M)
  else (q_call (f_X10_wrong 5 M) fun r4 M5 =>
  f_X10_letsLine_J116  M5)))
  else (q_gf M 0 26 fun v6 =>
  if ¬ w32 v6 = 0 then (g36 (x2 + 1) M)
  else (q_al M 45 16 x2 fun v7 =>
  q_al M 45 16 x1 fun v8 =>
  if ¬ w32 v7 = w32 v8 then (g36 (x2 + 1) M)
  else (q_al M 46 16 x2 fun v9 =>
  q_al M 46 16 x1 fun v10 =>
  if ¬ w32 v9 = w32 v10 then (g36 (x2 + 1) M)
  else (q_call (f_X10_wrong 3 M) fun r11 M12 =>
  g36 (x2 + 1) M12))))
def f_X10_letsLine_L36 (x1 : Int) (n : Nat) (x2 : Int) (M : Mem) : Res := qlm1 (fun x2 M g36 => f_X10_letsLine_B36 x1 x2 M g36) n x2 M
theorem w_X10_letsLine_B36 (C : Cx syM p m c cX10_letsLine 3 s args RX10 D ad cA) (hr : meth.sig.returnType = none) (hlk : meth.locks = false)  (x1 : Int) (x2 : Int) (M : Mem) (g36 : Int → Mem → Res)  (ih36 : ∀ (ux2 : Int) (M : Mem), g36 ux2 M = some (r0, M0) → WM syM p l e rm_X10_letsLine s m args below meth c 3 D ad cA (MQ below (q_Post syM D ad cA none M0) args s 0 0 (q_A syM ad)) M 36 [(0, .ref (ad 0)), (1, .int (qI x1)), (2, .int (qI ux2))] []) (h : f_X10_letsLine_B36 x1 x2 M g36 = some (r0, M0)) : WM syM p l e rm_X10_letsLine s m args below meth c 3 D ad cA (MQ below (q_Post syM D ad cA none M0) args s 0 0 (q_A syM ad)) M 36 [(0, .ref (ad 0)), (1, .int (qI x1)), (2, .int (qI x2))] [] := by
  unfold f_X10_letsLine_B36 at h
  refine r_iln C dX10_letsLine_36 (k := 2) rfl ?_
  refine r_iln C dX10_letsLine_37 (k := 1) rfl ?_
  refine r_cge C (tgt := 89) dX10_letsLine_38 (by decide) h (fun h => ?_) (fun h => ?_)
  · refine r_aln C dX10_letsLine_89 (k := 0) rfl ?_
    refine r_gf C km_0 clX10 (f := 26) (by decide) rfl rfl rfl tf_RX10_196 dX10_letsLine_90 h (fun v1 h => ?_)
    refine r_zne C (tgt := 116) dX10_letsLine_93 (by decide) h (fun h => ?_) (fun h => ?_)
    · refine r_drop [0] rfl ?_
      exact w_X10_letsLine_J116 C hr hlk  M  h
    · refine r_aln C dX10_letsLine_96 (k := 0) rfl ?_
      refine r_gs C km_0 clX10 (f := 13) (by decide) rfl (t := 45) rfl tf_RX10_43 dX10_letsLine_97 ?_
      refine r_iln C dX10_letsLine_100 (k := 1) rfl ?_
      refine r_iald C km_45 dX10_letsLine_101 h (fun v2 h => ?_)
      refine r_aln C dX10_letsLine_102 (k := 0) rfl ?_
      refine r_gs C km_0 clX10 (f := 14) (by decide) rfl (t := 46) rfl tf_RX10_46 dX10_letsLine_103 ?_
      refine r_iln C dX10_letsLine_106 (k := 1) rfl ?_
      refine r_iald C km_46 dX10_letsLine_107 h (fun v3 h => ?_)
      refine r_cne C (tgt := 116) dX10_letsLine_108 (by decide) h (fun h => ?_) (fun h => ?_)
      · refine r_drop [0] rfl ?_
        exact w_X10_letsLine_J116 C hr hlk  M  h
      · refine r_aln C dX10_letsLine_111 (k := 0) rfl ?_
        refine r_ic C dX10_letsLine_112 ?_
        obtain ⟨r4, M5, hy, h⟩ := q_call_some h
        refine r_cvv C (st := []) (c_X10_wrong C.2.2.1 5 M r4 M5 hy) tm_RX10_205 mw_X10_wrong ⟨rfl, rfl⟩ ⟨Nat.le_of_ble_eq_true rfl, Nat.le_of_ble_eq_true rfl⟩ km_0 clX10 rfl rfl (Nat.le_of_ble_eq_true rfl) dX10_letsLine_113 ?_
        refine r_drop [0] rfl ?_
        exact w_X10_letsLine_J116 C hr hlk  M5  h
  · refine r_aln C dX10_letsLine_41 (k := 0) rfl ?_
    refine r_gf C km_0 clX10 (f := 26) (by decide) rfl rfl rfl tf_RX10_196 dX10_letsLine_42 h (fun v6 h => ?_)
    refine r_zne C (tgt := 83) dX10_letsLine_45 (by decide) h (fun h => ?_) (fun h => ?_)
    · refine r_inc C (L1 := [(2, .int (qI (x2 + 1))), (0, .ref (ad 0)), (1, .int (qI x1))]) dX10_letsLine_83 (k := 2) rfl (by decide) rfl ?_
      refine r_goto C (tgt := 36) dX10_letsLine_86 (by decide) ?_
      refine r_drop [1, 2, 0] rfl ?_
      exact ih36 (x2 + 1) M h
    · refine r_aln C dX10_letsLine_48 (k := 0) rfl ?_
      refine r_gs C km_0 clX10 (f := 13) (by decide) rfl (t := 45) rfl tf_RX10_43 dX10_letsLine_49 ?_
      refine r_iln C dX10_letsLine_52 (k := 2) rfl ?_
      refine r_iald C km_45 dX10_letsLine_53 h (fun v7 h => ?_)
      refine r_aln C dX10_letsLine_54 (k := 0) rfl ?_
      refine r_gs C km_0 clX10 (f := 13) (by decide) rfl (t := 45) rfl tf_RX10_43 dX10_letsLine_55 ?_
      refine r_iln C dX10_letsLine_58 (k := 1) rfl ?_
      refine r_iald C km_45 dX10_letsLine_59 h (fun v8 h => ?_)
      refine r_cne C (tgt := 83) dX10_letsLine_60 (by decide) h (fun h => ?_) (fun h => ?_)
      · refine r_inc C (L1 := [(2, .int (qI (x2 + 1))), (0, .ref (ad 0)), (1, .int (qI x1))]) dX10_letsLine_83 (k := 2) rfl (by decide) rfl ?_
        refine r_goto C (tgt := 36) dX10_letsLine_86 (by decide) ?_
        refine r_drop [1, 2, 0] rfl ?_
        exact ih36 (x2 + 1) M h
      · refine r_aln C dX10_letsLine_63 (k := 0) rfl ?_
        refine r_gs C km_0 clX10 (f := 14) (by decide) rfl (t := 46) rfl tf_RX10_46 dX10_letsLine_64 ?_
        refine r_iln C dX10_letsLine_67 (k := 2) rfl ?_
        refine r_iald C km_46 dX10_letsLine_68 h (fun v9 h => ?_)
        refine r_aln C dX10_letsLine_69 (k := 0) rfl ?_
        refine r_gs C km_0 clX10 (f := 14) (by decide) rfl (t := 46) rfl tf_RX10_46 dX10_letsLine_70 ?_
        refine r_iln C dX10_letsLine_73 (k := 1) rfl ?_
        refine r_iald C km_46 dX10_letsLine_74 h (fun v10 h => ?_)
        refine r_cne C (tgt := 83) dX10_letsLine_75 (by decide) h (fun h => ?_) (fun h => ?_)
        · refine r_inc C (L1 := [(2, .int (qI (x2 + 1))), (0, .ref (ad 0)), (1, .int (qI x1))]) dX10_letsLine_83 (k := 2) rfl (by decide) rfl ?_
          refine r_goto C (tgt := 36) dX10_letsLine_86 (by decide) ?_
          refine r_drop [1, 2, 0] rfl ?_
          exact ih36 (x2 + 1) M h
        · refine r_aln C dX10_letsLine_78 (k := 0) rfl ?_
          refine r_ic C dX10_letsLine_79 ?_
          obtain ⟨r11, M12, hy, h⟩ := q_call_some h
          refine r_cvv C (st := []) (c_X10_wrong C.2.2.1 3 M r11 M12 hy) tm_RX10_205 mw_X10_wrong ⟨rfl, rfl⟩ ⟨Nat.le_of_ble_eq_true rfl, Nat.le_of_ble_eq_true rfl⟩ km_0 clX10 rfl rfl (Nat.le_of_ble_eq_true rfl) dX10_letsLine_80 ?_
          refine r_inc C (L1 := [(2, .int (qI (x2 + 1))), (0, .ref (ad 0)), (1, .int (qI x1))]) dX10_letsLine_83 (k := 2) rfl (by decide) rfl ?_
          refine r_goto C (tgt := 36) dX10_letsLine_86 (by decide) ?_
          refine r_drop [1, 2, 0] rfl ?_
          exact ih36 (x2 + 1) M12 h
theorem w_X10_letsLine_L36 (C : Cx syM p m c cX10_letsLine 3 s args RX10 D ad cA) (hr : meth.sig.returnType = none) (hlk : meth.locks = false)  (x1 : Int)  (n : Nat) (x2 : Int) (M : Mem) (h : f_X10_letsLine_L36 x1 n x2 M = some (r0, M0)) : WM syM p l e rm_X10_letsLine s m args below meth c 3 D ad cA (MQ below (q_Post syM D ad cA none M0) args s 0 0 (q_A syM ad)) M 36 [(0, .ref (ad 0)), (1, .int (qI x1)), (2, .int (qI x2))] [] :=
  qlm1_r (Wp := fun ux2 M => WM syM p l e rm_X10_letsLine s m args below meth c 3 D ad cA (MQ below (q_Post syM D ad cA none M0) args s 0 0 (q_A syM ad)) M 36 [(0, .ref (ad 0)), (1, .int (qI x1)), (2, .int (qI ux2))] []) (fun ux2 M g36 ih36 h => w_X10_letsLine_B36 C hr hlk x1 ux2 M g36  ih36 h) n x2 M h
def f_X10_letsLine  (M : Mem) : Res :=
  q_calp (f_X10_fresher 2 M) fun r1 =>
  q_call (f_X10_soulAtHand  M) fun r2 M3 =>
  q_as M3 45 16 (8 + r1) r2 fun M4 =>
  q_call (f_X10_goOn  M4) fun r5 M6 =>
  q_call (f_X10_soulAtHand  M6) fun r7 M8 =>
  q_as M8 46 16 (8 + r1) r7 fun M9 =>
  f_X10_letsLine_L36 (8 + r1) q_N 8 M9
theorem c_X10_letsLine {l : Launch} {D : va_G} {ad : Nat → Nat} {cA : Nat → ClassId} (hi : q_inj syM ad)  (M : Mem) (r0 : Int) (M0 : Mem) (h : f_X10_letsLine  M = some (r0, M0)) : q_Met l syM D ad cA yX10_letsLine cX10_letsLine 3 none rm_X10_letsLine [.ref (ad 0)] M none M0 := by
  refine q_met (L0 := [(0, .ref (ad 0))]) hi okM (by decide) (Nat.le_of_ble_eq_true rfl) rfl ?_
  intro p e s m args below meth c C hr hlk
  unfold f_X10_letsLine at h
  refine r_bi C dX10_letsLine_0 (by decide) ?_
  refine r_aln C dX10_letsLine_2 (k := 0) rfl ?_
  refine r_ic C dX10_letsLine_3 ?_
  obtain ⟨r1, hy, h⟩ := q_calp_some h
  refine r_cvi C (st := [.int (qI 8)]) (c_X10_fresher C.2.2.1 2 M r1 hy) tm_RX10_212 mw_X10_fresher ⟨rfl, rfl⟩ ⟨Nat.le_of_ble_eq_true rfl, Nat.le_of_ble_eq_true rfl⟩ km_0 clX10 rfl rfl (Nat.le_of_ble_eq_true rfl) dX10_letsLine_4 ?_
  refine r_iadd C dX10_letsLine_7 ?_
  refine r_isn C (L1 := [(1, .int (qI (8 + r1))), (0, .ref (ad 0))]) dX10_letsLine_8 (by decide) rfl ?_
  refine r_aln C dX10_letsLine_9 (k := 1) rfl ?_
  refine r_gs C km_0 clX10 (f := 13) (by decide) rfl (t := 45) rfl tf_RX10_43 dX10_letsLine_10 ?_
  refine r_iln C dX10_letsLine_13 (k := 0) rfl ?_
  refine r_aln C dX10_letsLine_14 (k := 1) rfl ?_
  obtain ⟨r2, M3, hy, h⟩ := q_call_some h
  refine r_cvi C (st := [.int (qI (8 + r1)), .ref (ad 45)]) (c_X10_soulAtHand C.2.2.1 M r2 M3 hy) tm_RX10_246 mw_X10_soulAtHand ⟨rfl, rfl⟩ ⟨Nat.le_of_ble_eq_true rfl, Nat.le_of_ble_eq_true rfl⟩ km_0 clX10 rfl rfl (Nat.le_of_ble_eq_true rfl) dX10_letsLine_15 ?_
  refine r_iast C km_45 dX10_letsLine_18 h (fun M4 h => ?_)
  refine r_aln C dX10_letsLine_19 (k := 1) rfl ?_
  obtain ⟨r5, M6, hy, h⟩ := q_call_some h
  refine r_cvv C (st := []) (c_X10_goOn C.2.2.1 M4 r5 M6 hy) tm_RX10_249 mw_X10_goOn ⟨rfl, rfl⟩ ⟨Nat.le_of_ble_eq_true rfl, Nat.le_of_ble_eq_true rfl⟩ km_0 clX10 rfl rfl (Nat.le_of_ble_eq_true rfl) dX10_letsLine_20 ?_
  refine r_aln C dX10_letsLine_23 (k := 1) rfl ?_
  refine r_gs C km_0 clX10 (f := 14) (by decide) rfl (t := 46) rfl tf_RX10_46 dX10_letsLine_24 ?_
  refine r_iln C dX10_letsLine_27 (k := 0) rfl ?_
  refine r_aln C dX10_letsLine_28 (k := 1) rfl ?_
  obtain ⟨r7, M8, hy, h⟩ := q_call_some h
  refine r_cvi C (st := [.int (qI (8 + r1)), .ref (ad 46)]) (c_X10_soulAtHand C.2.2.1 M6 r7 M8 hy) tm_RX10_246 mw_X10_soulAtHand ⟨rfl, rfl⟩ ⟨Nat.le_of_ble_eq_true rfl, Nat.le_of_ble_eq_true rfl⟩ km_0 clX10 rfl rfl (Nat.le_of_ble_eq_true rfl) dX10_letsLine_29 ?_
  refine r_iast C km_46 dX10_letsLine_32 h (fun M9 h => ?_)
  refine r_bi C dX10_letsLine_33 (by decide) ?_
  refine r_isn C (L1 := [(2, .int (qI 8)), (1, .int (qI (8 + r1))), (0, .ref (ad 0))]) dX10_letsLine_35 (by decide) rfl ?_
  refine r_drop [2, 1, 0] rfl ?_
  exact w_X10_letsLine_L36 C hr hlk (8 + r1)  q_N 8 M9 h
abbrev rm_X10_numeral : Room := { frames := 8, cells := 0, slots := 0, locals := 344 }
theorem mw_X10_numeral : q_mw RX10 yX10_numeral cX10_numeral 4 (some .int) 2 := ⟨⟨ti_X10_numeral, tl_X10_numeral, tn_RX10, td_X10_numeral⟩, by decide +kernel⟩
def f_X10_numeral_J46 (x1 : Int) (M : Mem) : Res :=
  q_gf M 0 26 fun v1 =>
  if w32 v1 = 0 then (q_gf M 0 25 fun v2 =>
  q_call (f_X10_token  M) fun r3 M4 =>
  some (v2, M4))
  else (some (x1, M))
theorem w_X10_numeral_J46 (C : Cx syM p m c cX10_numeral 4 s args RX10 D ad cA) (hr : meth.sig.returnType = (some .int)) (hlk : meth.locks = false) (x1 : Int) (M : Mem)  (h : f_X10_numeral_J46 x1 M = some (r0, M0)) : WM syM p l e rm_X10_numeral s m args below meth c 4 D ad cA (MQ below (q_Post syM D ad cA (some (.int (qI r0))) M0) args s 0 0 (q_A syM ad)) M 46 [(0, .ref (ad 0)), (1, .int (qI x1))] [] := by
  unfold f_X10_numeral_J46 at h
  refine r_aln C dX10_numeral_46 (k := 0) rfl ?_
  refine r_gf C km_0 clX10 (f := 26) (by decide) rfl rfl rfl tf_RX10_196 dX10_numeral_47 h (fun v1 h => ?_)
  refine r_zeq C (tgt := 55) dX10_numeral_50 (by decide) h (fun h => ?_) (fun h => ?_)
  · refine r_aln C dX10_numeral_55 (k := 0) rfl ?_
    refine r_gf C km_0 clX10 (f := 25) (by decide) rfl rfl rfl tf_RX10_171 dX10_numeral_56 h (fun v2 h => ?_)
    refine r_isn C (L1 := [(3, .int (qI v2)), (0, .ref (ad 0)), (1, .int (qI x1))]) dX10_numeral_59 (by decide) rfl ?_
    refine r_aln C dX10_numeral_60 (k := 1) rfl ?_
    obtain ⟨r3, M4, hy, h⟩ := q_call_some h
    refine r_cvv C (st := []) (c_X10_token C.2.2.1 M r3 M4 hy) tm_RX10_202 mw_X10_token ⟨rfl, rfl⟩ ⟨Nat.le_of_ble_eq_true rfl, Nat.le_of_ble_eq_true rfl⟩ km_0 clX10 rfl rfl (Nat.le_of_ble_eq_true rfl) dX10_numeral_61 ?_
    refine r_iln C dX10_numeral_64 (k := 0) rfl ?_
    exact r_iret C hr hlk dX10_numeral_65 h
  · refine r_iln C dX10_numeral_53 (k := 1) rfl ?_
    exact r_iret C hr hlk dX10_numeral_54 h
def f_X10_numeral_J41 (x1 : Int) (M : Mem) : Res :=
  q_call (f_X10_wrong 2 M) fun r1 M2 =>
  f_X10_numeral_J46 x1 M2
theorem w_X10_numeral_J41 (C : Cx syM p m c cX10_numeral 4 s args RX10 D ad cA) (hr : meth.sig.returnType = (some .int)) (hlk : meth.locks = false) (x1 : Int) (M : Mem)  (h : f_X10_numeral_J41 x1 M = some (r0, M0)) : WM syM p l e rm_X10_numeral s m args below meth c 4 D ad cA (MQ below (q_Post syM D ad cA (some (.int (qI r0))) M0) args s 0 0 (q_A syM ad)) M 41 [(0, .ref (ad 0)), (1, .int (qI x1))] [] := by
  unfold f_X10_numeral_J41 at h
  refine r_aln C dX10_numeral_41 (k := 0) rfl ?_
  refine r_ic C dX10_numeral_42 ?_
  obtain ⟨r1, M2, hy, h⟩ := q_call_some h
  refine r_cvv C (st := []) (c_X10_wrong C.2.2.1 2 M r1 M2 hy) tm_RX10_205 mw_X10_wrong ⟨rfl, rfl⟩ ⟨Nat.le_of_ble_eq_true rfl, Nat.le_of_ble_eq_true rfl⟩ km_0 clX10 rfl rfl (Nat.le_of_ble_eq_true rfl) dX10_numeral_43 ?_
  exact w_X10_numeral_J46 C hr hlk x1 M2  h
def f_X10_numeral (a0 : Int) (a1 : Int) (M : Mem) : Res :=
  q_gf M 0 26 fun v1 =>
  if w32 v1 = 0 then (q_gf M 0 24 fun v2 =>
  if w32 v2 = w32 2 then (q_gf M 0 25 fun v3 =>
  if w32 v3 < w32 a0 then (f_X10_numeral_J41 a0 M)
  else (q_gf M 0 25 fun v4 =>
  if w32 v4 ≤ w32 a1 then (f_X10_numeral_J46 a0 M)
  else (f_X10_numeral_J41 a0 M)))
  else (q_call (f_X10_wrong 1 M) fun r5 M6 =>
  f_X10_numeral_J46 a0 M6))
  else (some (a0, M))
theorem c_X10_numeral {l : Launch} {D : va_G} {ad : Nat → Nat} {cA : Nat → ClassId} (hi : q_inj syM ad) (a0 : Int) (a1 : Int) (M : Mem) (r0 : Int) (M0 : Mem) (h : f_X10_numeral a0 a1 M = some (r0, M0)) : q_Met l syM D ad cA yX10_numeral cX10_numeral 4 (some .int) rm_X10_numeral [.ref (ad 0), .int (qI a0), .int (qI a1)] M (some (.int (qI r0))) M0 := by
  refine q_met (L0 := [(0, .ref (ad 0)), (1, .int (qI a0)), (2, .int (qI a1))]) hi okM (by decide) (Nat.le_of_ble_eq_true rfl) rfl ?_
  intro p e s m args below meth c C hr hlk
  unfold f_X10_numeral at h
  refine r_aln C dX10_numeral_0 (k := 0) rfl ?_
  refine r_gf C km_0 clX10 (f := 26) (by decide) rfl rfl rfl tf_RX10_196 dX10_numeral_1 h (fun v1 h => ?_)
  refine r_zeq C (tgt := 9) dX10_numeral_4 (by decide) h (fun h => ?_) (fun h => ?_)
  · refine r_aln C dX10_numeral_9 (k := 0) rfl ?_
    refine r_gf C km_0 clX10 (f := 24) (by decide) rfl rfl rfl tf_RX10_161 dX10_numeral_10 h (fun v2 h => ?_)
    refine r_ic C dX10_numeral_13 ?_
    refine r_ceq C (tgt := 25) dX10_numeral_14 (by decide) h (fun h => ?_) (fun h => ?_)
    · refine r_aln C dX10_numeral_25 (k := 0) rfl ?_
      refine r_gf C km_0 clX10 (f := 25) (by decide) rfl rfl rfl tf_RX10_171 dX10_numeral_26 h (fun v3 h => ?_)
      refine r_iln C dX10_numeral_29 (k := 1) rfl ?_
      refine r_clt C (tgt := 41) dX10_numeral_30 (by decide) h (fun h => ?_) (fun h => ?_)
      · refine r_drop [0, 1] rfl ?_
        exact w_X10_numeral_J41 C hr hlk a0 M  h
      · refine r_aln C dX10_numeral_33 (k := 0) rfl ?_
        refine r_gf C km_0 clX10 (f := 25) (by decide) rfl rfl rfl tf_RX10_171 dX10_numeral_34 h (fun v4 h => ?_)
        refine r_iln C dX10_numeral_37 (k := 2) rfl ?_
        refine r_cle C (tgt := 46) dX10_numeral_38 (by decide) h (fun h => ?_) (fun h => ?_)
        · refine r_drop [0, 1] rfl ?_
          exact w_X10_numeral_J46 C hr hlk a0 M  h
        · refine r_drop [0, 1] rfl ?_
          exact w_X10_numeral_J41 C hr hlk a0 M  h
    · refine r_aln C dX10_numeral_17 (k := 0) rfl ?_
      refine r_ic C dX10_numeral_18 ?_
      obtain ⟨r5, M6, hy, h⟩ := q_call_some h
      refine r_cvv C (st := []) (c_X10_wrong C.2.2.1 1 M r5 M6 hy) tm_RX10_205 mw_X10_wrong ⟨rfl, rfl⟩ ⟨Nat.le_of_ble_eq_true rfl, Nat.le_of_ble_eq_true rfl⟩ km_0 clX10 rfl rfl (Nat.le_of_ble_eq_true rfl) dX10_numeral_19 ?_
      refine r_goto C (tgt := 46) dX10_numeral_22 (by decide) ?_
      refine r_drop [0, 1] rfl ?_
      exact w_X10_numeral_J46 C hr hlk a0 M6  h
  · refine r_iln C dX10_numeral_7 (k := 1) rfl ?_
    exact r_iret C hr hlk dX10_numeral_8 h
abbrev rm_X10_line : Room := { frames := 211, cells := 0, slots := 0, locals := 4605 }
theorem mw_X10_line : q_mw RX10 yX10_line cX10_line 4 none 0 := ⟨⟨ti_X10_line, tl_X10_line, tn_RX10, td_X10_line⟩, by decide +kernel⟩
def f_X10_line_J16  (M : Mem) : Res :=
  q_call (f_X10_wrong 1 M) fun r1 M2 =>
  some (0, M2)
theorem w_X10_line_J16 (C : Cx syM p m c cX10_line 4 s args RX10 D ad cA) (hr : meth.sig.returnType = none) (hlk : meth.locks = false)  (M : Mem)  (h : f_X10_line_J16  M = some (r0, M0)) : WM syM p l e rm_X10_line s m args below meth c 4 D ad cA (MQ below (q_Post syM D ad cA none M0) args s 0 0 (q_A syM ad)) M 16 [(0, .ref (ad 0))] [] := by
  unfold f_X10_line_J16 at h
  refine r_aln C dX10_line_16 (k := 0) rfl ?_
  refine r_ic C dX10_line_17 ?_
  obtain ⟨r1, M2, hy, h⟩ := q_call_some h
  refine r_cvv C (st := []) (c_X10_wrong C.2.2.1 1 M r1 M2 hy) tm_RX10_205 mw_X10_wrong ⟨rfl, rfl⟩ ⟨Nat.le_of_ble_eq_true rfl, Nat.le_of_ble_eq_true rfl⟩ km_0 clX10 rfl rfl (Nat.le_of_ble_eq_true rfl) dX10_line_18 ?_
  exact r_vret C hr hlk dX10_line_21 h
def f_X10_line_J396  (M : Mem) : Res :=
  q_gf M 0 20 fun v1 =>
  q_pf M 0 20 (v1 + 1) fun M2 =>
  some (0, M2)
theorem w_X10_line_J396 (C : Cx syM p m c cX10_line 4 s args RX10 D ad cA) (hr : meth.sig.returnType = none) (hlk : meth.locks = false)  (M : Mem)  (h : f_X10_line_J396  M = some (r0, M0)) : WM syM p l e rm_X10_line s m args below meth c 4 D ad cA (MQ below (q_Post syM D ad cA none M0) args s 0 0 (q_A syM ad)) M 396 [(0, .ref (ad 0))] [] := by
  unfold f_X10_line_J396 at h
  refine r_aln C dX10_line_396 (k := 0) rfl ?_
  refine r_dup C rfl dX10_line_397 ?_
  refine r_gf C km_0 clX10 (f := 20) (by decide) rfl rfl rfl tf_RX10_243 dX10_line_398 h (fun v1 h => ?_)
  refine r_ic C dX10_line_401 ?_
  refine r_iadd C dX10_line_402 ?_
  refine r_pf C km_0 clX10 (f := 20) (by decide) rfl q_dI rfl rfl tf_RX10_243 dX10_line_403 h (fun M2 h => ?_)
  exact r_vret C hr hlk dX10_line_406 h
def f_X10_line_J367  (M : Mem) : Res :=
  q_gf M 0 26 fun v1 =>
  if w32 v1 = 0 then (q_calp (f_X10_isSign 59 M) fun r2 =>
  if ¬ w32 r2 = 0 then (q_call (f_X10_token  M) fun r3 M4 =>
  f_X10_line_J396  M4)
  else (q_call (f_X10_wrong 1 M) fun r5 M6 =>
  f_X10_line_J396  M6))
  else (some (0, M))
theorem w_X10_line_J367 (C : Cx syM p m c cX10_line 4 s args RX10 D ad cA) (hr : meth.sig.returnType = none) (hlk : meth.locks = false)  (M : Mem)  (h : f_X10_line_J367  M = some (r0, M0)) : WM syM p l e rm_X10_line s m args below meth c 4 D ad cA (MQ below (q_Post syM D ad cA none M0) args s 0 0 (q_A syM ad)) M 367 [(0, .ref (ad 0))] [] := by
  unfold f_X10_line_J367 at h
  refine r_aln C dX10_line_367 (k := 0) rfl ?_
  refine r_gf C km_0 clX10 (f := 26) (by decide) rfl rfl rfl tf_RX10_196 dX10_line_368 h (fun v1 h => ?_)
  refine r_zeq C (tgt := 375) dX10_line_371 (by decide) h (fun h => ?_) (fun h => ?_)
  · refine r_aln C dX10_line_375 (k := 0) rfl ?_
    refine r_bi C dX10_line_376 (by decide) ?_
    obtain ⟨r2, hy, h⟩ := q_calp_some h
    refine r_cvi C (st := []) (c_X10_isSign C.2.2.1 59 M r2 hy) tm_RX10_240 mw_X10_isSign ⟨rfl, rfl⟩ ⟨Nat.le_of_ble_eq_true rfl, Nat.le_of_ble_eq_true rfl⟩ km_0 clX10 rfl rfl (Nat.le_of_ble_eq_true rfl) dX10_line_378 ?_
    refine r_zne C (tgt := 392) dX10_line_381 (by decide) h (fun h => ?_) (fun h => ?_)
    · refine r_aln C dX10_line_392 (k := 0) rfl ?_
      obtain ⟨r3, M4, hy, h⟩ := q_call_some h
      refine r_cvv C (st := []) (c_X10_token C.2.2.1 M r3 M4 hy) tm_RX10_202 mw_X10_token ⟨rfl, rfl⟩ ⟨Nat.le_of_ble_eq_true rfl, Nat.le_of_ble_eq_true rfl⟩ km_0 clX10 rfl rfl (Nat.le_of_ble_eq_true rfl) dX10_line_393 ?_
      exact w_X10_line_J396 C hr hlk  M4  h
    · refine r_aln C dX10_line_384 (k := 0) rfl ?_
      refine r_ic C dX10_line_385 ?_
      obtain ⟨r5, M6, hy, h⟩ := q_call_some h
      refine r_cvv C (st := []) (c_X10_wrong C.2.2.1 1 M r5 M6 hy) tm_RX10_205 mw_X10_wrong ⟨rfl, rfl⟩ ⟨Nat.le_of_ble_eq_true rfl, Nat.le_of_ble_eq_true rfl⟩ km_0 clX10 rfl rfl (Nat.le_of_ble_eq_true rfl) dX10_line_386 ?_
      refine r_goto C (tgt := 396) dX10_line_389 (by decide) ?_
      exact w_X10_line_J396 C hr hlk  M6  h
  · exact r_vret C hr hlk dX10_line_374 h
def f_X10_line_J70 (x1 : Int) (M : Mem) : Res :=
  q_gf M 0 26 fun v1 =>
  if w32 v1 = 0 then (q_gf M 0 19 fun v2 =>
  q_pf M 0 19 (q_or v2 (q_shl 1 x1)) fun M3 =>
  q_call (f_X10_token  M3) fun r4 M5 =>
  if w32 x1 = 0 then (q_calp (f_X10_fresher 0 M5) fun r6 =>
  q_calp (f_X10_fresher 0 M5) fun r7 =>
  q_call (f_X10_fresh 36 16 8 r7 M5) fun r8 M9 =>
  q_as M9 36 16 (8 + r6) r8 fun M10 =>
  q_call (f_X10_numeral 0 99 M10) fun r11 M12 =>
  q_as M12 37 16 (8 + r6) r11 fun M13 =>
  q_call (f_X10_numeral 0 99 M13) fun r14 M15 =>
  q_as M15 38 16 (8 + r6) r14 fun M16 =>
  q_call (f_X10_numeral 0 99 M16) fun r17 M18 =>
  q_as M18 39 16 (8 + r6) r17 fun M19 =>
  q_calp (f_X10_fresher 0 M19) fun r20 =>
  q_call (f_X10_reads 0 (r20 + 1) M19) fun r21 M22 =>
  f_X10_line_J367  M22)
  else if w32 x1 = 1 then (q_calp (f_X10_fresher 1 M5) fun r23 =>
  q_calp (f_X10_fresher 1 M5) fun r24 =>
  q_call (f_X10_fresh 40 8 4 r24 M5) fun r25 M26 =>
  q_as M26 40 8 (4 + r23) r25 fun M27 =>
  q_call (f_X10_numeral 0 99 M27) fun r28 M29 =>
  q_as M29 41 8 (4 + r23) r28 fun M30 =>
  q_call (f_X10_numeral 1 30 M30) fun r31 M32 =>
  q_as M32 42 8 (4 + r23) r31 fun M33 =>
  q_call (f_X10_numeral 1 8 M33) fun r34 M35 =>
  q_as M35 43 8 (4 + r23) r34 fun M36 =>
  q_call (f_X10_numeral 0 99 M36) fun r37 M38 =>
  q_as M38 44 8 (4 + r23) r37 fun M39 =>
  q_calp (f_X10_fresher 1 M39) fun r40 =>
  q_call (f_X10_reads 1 (r40 + 1) M39) fun r41 M42 =>
  f_X10_line_J367  M42)
  else if w32 x1 = 2 then (q_call (f_X10_letsLine  M5) fun r43 M44 =>
  f_X10_line_J367  M44)
  else if w32 x1 = 3 then (q_call (f_X10_numeral 0 8 M5) fun r45 M46 =>
  q_call (f_X10_reads 3 r45 M46) fun r47 M48 =>
  f_X10_line_J367  M48)
  else if w32 x1 = 4 then (q_call (f_X10_numeral 0 100 M5) fun r49 M50 =>
  q_call (f_X10_reads 4 r49 M50) fun r51 M52 =>
  f_X10_line_J367  M52)
  else if w32 x1 = 5 then (q_call (f_X10_numeral 0 99999 M5) fun r53 M54 =>
  q_call (f_X10_reads 5 r53 M54) fun r55 M56 =>
  f_X10_line_J367  M56)
  else (q_call (f_X10_lawLine  M5) fun r57 M58 =>
  f_X10_line_J367  M58))
  else (some (0, M))
theorem w_X10_line_J70 (C : Cx syM p m c cX10_line 4 s args RX10 D ad cA) (hr : meth.sig.returnType = none) (hlk : meth.locks = false) (x1 : Int) (M : Mem)  (h : f_X10_line_J70 x1 M = some (r0, M0)) : WM syM p l e rm_X10_line s m args below meth c 4 D ad cA (MQ below (q_Post syM D ad cA none M0) args s 0 0 (q_A syM ad)) M 70 [(0, .ref (ad 0)), (1, .int (qI x1))] [] := by
  unfold f_X10_line_J70 at h
  refine r_aln C dX10_line_70 (k := 0) rfl ?_
  refine r_gf C km_0 clX10 (f := 26) (by decide) rfl rfl rfl tf_RX10_196 dX10_line_71 h (fun v1 h => ?_)
  refine r_zeq C (tgt := 78) dX10_line_74 (by decide) h (fun h => ?_) (fun h => ?_)
  · refine r_aln C dX10_line_78 (k := 0) rfl ?_
    refine r_dup C rfl dX10_line_79 ?_
    refine r_gf C km_0 clX10 (f := 19) (by decide) rfl rfl rfl tf_RX10_219 dX10_line_80 h (fun v2 h => ?_)
    refine r_ic C dX10_line_83 ?_
    refine r_iln C dX10_line_84 (k := 1) rfl ?_
    refine r_ishl C dX10_line_85 ?_
    refine r_ior C dX10_line_86 ?_
    refine r_pf C km_0 clX10 (f := 19) (by decide) rfl q_dI rfl rfl tf_RX10_219 dX10_line_87 h (fun M3 h => ?_)
    refine r_aln C dX10_line_90 (k := 0) rfl ?_
    obtain ⟨r4, M5, hy, h⟩ := q_call_some h
    refine r_cvv C (st := []) (c_X10_token C.2.2.1 M3 r4 M5 hy) tm_RX10_202 mw_X10_token ⟨rfl, rfl⟩ ⟨Nat.le_of_ble_eq_true rfl, Nat.le_of_ble_eq_true rfl⟩ km_0 clX10 rfl rfl (Nat.le_of_ble_eq_true rfl) dX10_line_91 ?_
    refine r_iln C dX10_line_94 (k := 1) rfl ?_
    refine r_tc C h (fun e h => ?_) (fun ne0 h => ?_)
    · refine r_tin C (tgt := 132) dX10_line_95 e (by decide) rfl (by decide) ?_
      refine r_bi C dX10_line_132 (by decide) ?_
      refine r_aln C dX10_line_134 (k := 0) rfl ?_
      refine r_ic C dX10_line_135 ?_
      obtain ⟨r6, hy, h⟩ := q_calp_some h
      refine r_cvi C (st := [.int (qI 8)]) (c_X10_fresher C.2.2.1 0 M5 r6 hy) tm_RX10_212 mw_X10_fresher ⟨rfl, rfl⟩ ⟨Nat.le_of_ble_eq_true rfl, Nat.le_of_ble_eq_true rfl⟩ km_0 clX10 rfl rfl (Nat.le_of_ble_eq_true rfl) dX10_line_136 ?_
      refine r_iadd C dX10_line_139 ?_
      refine r_isn C (L1 := [(2, .int (qI (8 + r6))), (0, .ref (ad 0)), (1, .int (qI x1))]) dX10_line_140 (by decide) rfl ?_
      refine r_aln C dX10_line_141 (k := 1) rfl ?_
      refine r_gs C km_0 clX10 (f := 4) (by decide) rfl (t := 36) rfl tf_RX10_16 dX10_line_142 ?_
      refine r_iln C dX10_line_145 (k := 0) rfl ?_
      refine r_aln C dX10_line_146 (k := 1) rfl ?_
      refine r_aln C dX10_line_147 (k := 1) rfl ?_
      refine r_gs C km_0 clX10 (f := 4) (by decide) rfl (t := 36) rfl tf_RX10_16 dX10_line_148 ?_
      refine r_bi C dX10_line_151 (by decide) ?_
      refine r_aln C dX10_line_153 (k := 1) rfl ?_
      refine r_ic C dX10_line_154 ?_
      obtain ⟨r7, hy, h⟩ := q_calp_some h
      refine r_cvi C (st := [.int (qI 8), .ref (ad 36), .ref (ad 0), .int (qI (8 + r6)), .ref (ad 36)]) (c_X10_fresher C.2.2.1 0 M5 r7 hy) tm_RX10_212 mw_X10_fresher ⟨rfl, rfl⟩ ⟨Nat.le_of_ble_eq_true rfl, Nat.le_of_ble_eq_true rfl⟩ km_0 clX10 rfl rfl (Nat.le_of_ble_eq_true rfl) dX10_line_155 ?_
      obtain ⟨r8, M9, hy, h⟩ := q_call_some h
      refine r_cvi C (st := [.int (qI (8 + r6)), .ref (ad 36)]) (c_X10_fresh C.2.2.1 36 16 km_36 8 r7 M5 r8 M9 hy) tm_RX10_222 mw_X10_fresh ⟨rfl, rfl⟩ ⟨Nat.le_of_ble_eq_true rfl, Nat.le_of_ble_eq_true rfl⟩ km_0 clX10 rfl rfl (Nat.le_of_ble_eq_true rfl) dX10_line_158 ?_
      refine r_iast C km_36 dX10_line_161 h (fun M10 h => ?_)
      refine r_aln C dX10_line_162 (k := 1) rfl ?_
      refine r_gs C km_0 clX10 (f := 5) (by decide) rfl (t := 37) rfl tf_RX10_19 dX10_line_163 ?_
      refine r_iln C dX10_line_166 (k := 0) rfl ?_
      refine r_aln C dX10_line_167 (k := 1) rfl ?_
      refine r_ic C dX10_line_168 ?_
      refine r_bi C dX10_line_169 (by decide) ?_
      obtain ⟨r11, M12, hy, h⟩ := q_call_some h
      refine r_cvi C (st := [.int (qI (8 + r6)), .ref (ad 37)]) (c_X10_numeral C.2.2.1 0 99 M10 r11 M12 hy) tm_RX10_226 mw_X10_numeral ⟨rfl, rfl⟩ ⟨Nat.le_of_ble_eq_true rfl, Nat.le_of_ble_eq_true rfl⟩ km_0 clX10 rfl rfl (Nat.le_of_ble_eq_true rfl) dX10_line_171 ?_
      refine r_iast C km_37 dX10_line_174 h (fun M13 h => ?_)
      refine r_aln C dX10_line_175 (k := 1) rfl ?_
      refine r_gs C km_0 clX10 (f := 6) (by decide) rfl (t := 38) rfl tf_RX10_22 dX10_line_176 ?_
      refine r_iln C dX10_line_179 (k := 0) rfl ?_
      refine r_aln C dX10_line_180 (k := 1) rfl ?_
      refine r_ic C dX10_line_181 ?_
      refine r_bi C dX10_line_182 (by decide) ?_
      obtain ⟨r14, M15, hy, h⟩ := q_call_some h
      refine r_cvi C (st := [.int (qI (8 + r6)), .ref (ad 38)]) (c_X10_numeral C.2.2.1 0 99 M13 r14 M15 hy) tm_RX10_226 mw_X10_numeral ⟨rfl, rfl⟩ ⟨Nat.le_of_ble_eq_true rfl, Nat.le_of_ble_eq_true rfl⟩ km_0 clX10 rfl rfl (Nat.le_of_ble_eq_true rfl) dX10_line_184 ?_
      refine r_iast C km_38 dX10_line_187 h (fun M16 h => ?_)
      refine r_aln C dX10_line_188 (k := 1) rfl ?_
      refine r_gs C km_0 clX10 (f := 7) (by decide) rfl (t := 39) rfl tf_RX10_25 dX10_line_189 ?_
      refine r_iln C dX10_line_192 (k := 0) rfl ?_
      refine r_aln C dX10_line_193 (k := 1) rfl ?_
      refine r_ic C dX10_line_194 ?_
      refine r_bi C dX10_line_195 (by decide) ?_
      obtain ⟨r17, M18, hy, h⟩ := q_call_some h
      refine r_cvi C (st := [.int (qI (8 + r6)), .ref (ad 39)]) (c_X10_numeral C.2.2.1 0 99 M16 r17 M18 hy) tm_RX10_226 mw_X10_numeral ⟨rfl, rfl⟩ ⟨Nat.le_of_ble_eq_true rfl, Nat.le_of_ble_eq_true rfl⟩ km_0 clX10 rfl rfl (Nat.le_of_ble_eq_true rfl) dX10_line_197 ?_
      refine r_iast C km_39 dX10_line_200 h (fun M19 h => ?_)
      refine r_aln C dX10_line_201 (k := 1) rfl ?_
      refine r_ic C dX10_line_202 ?_
      refine r_aln C dX10_line_203 (k := 1) rfl ?_
      refine r_ic C dX10_line_204 ?_
      obtain ⟨r20, hy, h⟩ := q_calp_some h
      refine r_cvi C (st := [.int (qI 0), .ref (ad 0)]) (c_X10_fresher C.2.2.1 0 M19 r20 hy) tm_RX10_212 mw_X10_fresher ⟨rfl, rfl⟩ ⟨Nat.le_of_ble_eq_true rfl, Nat.le_of_ble_eq_true rfl⟩ km_0 clX10 rfl rfl (Nat.le_of_ble_eq_true rfl) dX10_line_205 ?_
      refine r_ic C dX10_line_208 ?_
      refine r_iadd C dX10_line_209 ?_
      obtain ⟨r21, M22, hy, h⟩ := q_call_some h
      refine r_cvv C (st := []) (c_X10_reads C.2.2.1 0 (r20 + 1) M19 r21 M22 hy) tm_RX10_230 mw_X10_reads ⟨rfl, rfl⟩ ⟨Nat.le_of_ble_eq_true rfl, Nat.le_of_ble_eq_true rfl⟩ km_0 clX10 rfl rfl (Nat.le_of_ble_eq_true rfl) dX10_line_210 ?_
      refine r_goto C (tgt := 367) dX10_line_213 (by decide) ?_
      refine r_drop [1] rfl ?_
      exact w_X10_line_J367 C hr hlk  M22  h
    refine r_tc C h (fun e h => ?_) (fun ne1 h => ?_)
    · refine r_tin C (tgt := 216) dX10_line_95 e (by decide) rfl (by decide) ?_
      refine r_ic C dX10_line_216 ?_
      refine r_aln C dX10_line_217 (k := 0) rfl ?_
      refine r_ic C dX10_line_218 ?_
      obtain ⟨r23, hy, h⟩ := q_calp_some h
      refine r_cvi C (st := [.int (qI 4)]) (c_X10_fresher C.2.2.1 1 M5 r23 hy) tm_RX10_212 mw_X10_fresher ⟨rfl, rfl⟩ ⟨Nat.le_of_ble_eq_true rfl, Nat.le_of_ble_eq_true rfl⟩ km_0 clX10 rfl rfl (Nat.le_of_ble_eq_true rfl) dX10_line_219 ?_
      refine r_iadd C dX10_line_222 ?_
      refine r_isn C (L1 := [(3, .int (qI (4 + r23))), (0, .ref (ad 0)), (1, .int (qI x1))]) dX10_line_223 (by decide) rfl ?_
      refine r_aln C dX10_line_224 (k := 1) rfl ?_
      refine r_gs C km_0 clX10 (f := 8) (by decide) rfl (t := 40) rfl tf_RX10_28 dX10_line_225 ?_
      refine r_iln C dX10_line_228 (k := 0) rfl ?_
      refine r_aln C dX10_line_229 (k := 1) rfl ?_
      refine r_aln C dX10_line_230 (k := 1) rfl ?_
      refine r_gs C km_0 clX10 (f := 8) (by decide) rfl (t := 40) rfl tf_RX10_28 dX10_line_231 ?_
      refine r_ic C dX10_line_234 ?_
      refine r_aln C dX10_line_235 (k := 1) rfl ?_
      refine r_ic C dX10_line_236 ?_
      obtain ⟨r24, hy, h⟩ := q_calp_some h
      refine r_cvi C (st := [.int (qI 4), .ref (ad 40), .ref (ad 0), .int (qI (4 + r23)), .ref (ad 40)]) (c_X10_fresher C.2.2.1 1 M5 r24 hy) tm_RX10_212 mw_X10_fresher ⟨rfl, rfl⟩ ⟨Nat.le_of_ble_eq_true rfl, Nat.le_of_ble_eq_true rfl⟩ km_0 clX10 rfl rfl (Nat.le_of_ble_eq_true rfl) dX10_line_237 ?_
      obtain ⟨r25, M26, hy, h⟩ := q_call_some h
      refine r_cvi C (st := [.int (qI (4 + r23)), .ref (ad 40)]) (c_X10_fresh C.2.2.1 40 8 km_40 4 r24 M5 r25 M26 hy) tm_RX10_222 mw_X10_fresh ⟨rfl, rfl⟩ ⟨Nat.le_of_ble_eq_true rfl, Nat.le_of_ble_eq_true rfl⟩ km_0 clX10 rfl rfl (Nat.le_of_ble_eq_true rfl) dX10_line_240 ?_
      refine r_iast C km_40 dX10_line_243 h (fun M27 h => ?_)
      refine r_aln C dX10_line_244 (k := 1) rfl ?_
      refine r_gs C km_0 clX10 (f := 9) (by decide) rfl (t := 41) rfl tf_RX10_31 dX10_line_245 ?_
      refine r_iln C dX10_line_248 (k := 0) rfl ?_
      refine r_aln C dX10_line_249 (k := 1) rfl ?_
      refine r_ic C dX10_line_250 ?_
      refine r_bi C dX10_line_251 (by decide) ?_
      obtain ⟨r28, M29, hy, h⟩ := q_call_some h
      refine r_cvi C (st := [.int (qI (4 + r23)), .ref (ad 41)]) (c_X10_numeral C.2.2.1 0 99 M27 r28 M29 hy) tm_RX10_226 mw_X10_numeral ⟨rfl, rfl⟩ ⟨Nat.le_of_ble_eq_true rfl, Nat.le_of_ble_eq_true rfl⟩ km_0 clX10 rfl rfl (Nat.le_of_ble_eq_true rfl) dX10_line_253 ?_
      refine r_iast C km_41 dX10_line_256 h (fun M30 h => ?_)
      refine r_aln C dX10_line_257 (k := 1) rfl ?_
      refine r_gs C km_0 clX10 (f := 10) (by decide) rfl (t := 42) rfl tf_RX10_34 dX10_line_258 ?_
      refine r_iln C dX10_line_261 (k := 0) rfl ?_
      refine r_aln C dX10_line_262 (k := 1) rfl ?_
      refine r_ic C dX10_line_263 ?_
      refine r_bi C dX10_line_264 (by decide) ?_
      obtain ⟨r31, M32, hy, h⟩ := q_call_some h
      refine r_cvi C (st := [.int (qI (4 + r23)), .ref (ad 42)]) (c_X10_numeral C.2.2.1 1 30 M30 r31 M32 hy) tm_RX10_226 mw_X10_numeral ⟨rfl, rfl⟩ ⟨Nat.le_of_ble_eq_true rfl, Nat.le_of_ble_eq_true rfl⟩ km_0 clX10 rfl rfl (Nat.le_of_ble_eq_true rfl) dX10_line_266 ?_
      refine r_iast C km_42 dX10_line_269 h (fun M33 h => ?_)
      refine r_aln C dX10_line_270 (k := 1) rfl ?_
      refine r_gs C km_0 clX10 (f := 11) (by decide) rfl (t := 43) rfl tf_RX10_37 dX10_line_271 ?_
      refine r_iln C dX10_line_274 (k := 0) rfl ?_
      refine r_aln C dX10_line_275 (k := 1) rfl ?_
      refine r_ic C dX10_line_276 ?_
      refine r_bi C dX10_line_277 (by decide) ?_
      obtain ⟨r34, M35, hy, h⟩ := q_call_some h
      refine r_cvi C (st := [.int (qI (4 + r23)), .ref (ad 43)]) (c_X10_numeral C.2.2.1 1 8 M33 r34 M35 hy) tm_RX10_226 mw_X10_numeral ⟨rfl, rfl⟩ ⟨Nat.le_of_ble_eq_true rfl, Nat.le_of_ble_eq_true rfl⟩ km_0 clX10 rfl rfl (Nat.le_of_ble_eq_true rfl) dX10_line_279 ?_
      refine r_iast C km_43 dX10_line_282 h (fun M36 h => ?_)
      refine r_aln C dX10_line_283 (k := 1) rfl ?_
      refine r_gs C km_0 clX10 (f := 12) (by decide) rfl (t := 44) rfl tf_RX10_40 dX10_line_284 ?_
      refine r_iln C dX10_line_287 (k := 0) rfl ?_
      refine r_aln C dX10_line_288 (k := 1) rfl ?_
      refine r_ic C dX10_line_289 ?_
      refine r_bi C dX10_line_290 (by decide) ?_
      obtain ⟨r37, M38, hy, h⟩ := q_call_some h
      refine r_cvi C (st := [.int (qI (4 + r23)), .ref (ad 44)]) (c_X10_numeral C.2.2.1 0 99 M36 r37 M38 hy) tm_RX10_226 mw_X10_numeral ⟨rfl, rfl⟩ ⟨Nat.le_of_ble_eq_true rfl, Nat.le_of_ble_eq_true rfl⟩ km_0 clX10 rfl rfl (Nat.le_of_ble_eq_true rfl) dX10_line_292 ?_
      refine r_iast C km_44 dX10_line_295 h (fun M39 h => ?_)
      refine r_aln C dX10_line_296 (k := 1) rfl ?_
      refine r_ic C dX10_line_297 ?_
      refine r_aln C dX10_line_298 (k := 1) rfl ?_
      refine r_ic C dX10_line_299 ?_
      obtain ⟨r40, hy, h⟩ := q_calp_some h
      refine r_cvi C (st := [.int (qI 1), .ref (ad 0)]) (c_X10_fresher C.2.2.1 1 M39 r40 hy) tm_RX10_212 mw_X10_fresher ⟨rfl, rfl⟩ ⟨Nat.le_of_ble_eq_true rfl, Nat.le_of_ble_eq_true rfl⟩ km_0 clX10 rfl rfl (Nat.le_of_ble_eq_true rfl) dX10_line_300 ?_
      refine r_ic C dX10_line_303 ?_
      refine r_iadd C dX10_line_304 ?_
      obtain ⟨r41, M42, hy, h⟩ := q_call_some h
      refine r_cvv C (st := []) (c_X10_reads C.2.2.1 1 (r40 + 1) M39 r41 M42 hy) tm_RX10_230 mw_X10_reads ⟨rfl, rfl⟩ ⟨Nat.le_of_ble_eq_true rfl, Nat.le_of_ble_eq_true rfl⟩ km_0 clX10 rfl rfl (Nat.le_of_ble_eq_true rfl) dX10_line_305 ?_
      refine r_goto C (tgt := 367) dX10_line_308 (by decide) ?_
      refine r_drop [1] rfl ?_
      exact w_X10_line_J367 C hr hlk  M42  h
    refine r_tc C h (fun e h => ?_) (fun ne2 h => ?_)
    · refine r_tin C (tgt := 311) dX10_line_95 e (by decide) rfl (by decide) ?_
      refine r_aln C dX10_line_311 (k := 0) rfl ?_
      obtain ⟨r43, M44, hy, h⟩ := q_call_some h
      refine r_cvv C (st := []) (c_X10_letsLine C.2.2.1 M5 r43 M44 hy) tm_RX10_234 mw_X10_letsLine ⟨rfl, rfl⟩ ⟨Nat.le_of_ble_eq_true rfl, Nat.le_of_ble_eq_true rfl⟩ km_0 clX10 rfl rfl (Nat.le_of_ble_eq_true rfl) dX10_line_312 ?_
      refine r_goto C (tgt := 367) dX10_line_315 (by decide) ?_
      refine r_drop [0] rfl ?_
      exact w_X10_line_J367 C hr hlk  M44  h
    refine r_tc C h (fun e h => ?_) (fun ne3 h => ?_)
    · refine r_tin C (tgt := 318) dX10_line_95 e (by decide) rfl (by decide) ?_
      refine r_aln C dX10_line_318 (k := 0) rfl ?_
      refine r_ic C dX10_line_319 ?_
      refine r_aln C dX10_line_320 (k := 0) rfl ?_
      refine r_ic C dX10_line_321 ?_
      refine r_bi C dX10_line_322 (by decide) ?_
      obtain ⟨r45, M46, hy, h⟩ := q_call_some h
      refine r_cvi C (st := [.int (qI 3), .ref (ad 0)]) (c_X10_numeral C.2.2.1 0 8 M5 r45 M46 hy) tm_RX10_226 mw_X10_numeral ⟨rfl, rfl⟩ ⟨Nat.le_of_ble_eq_true rfl, Nat.le_of_ble_eq_true rfl⟩ km_0 clX10 rfl rfl (Nat.le_of_ble_eq_true rfl) dX10_line_324 ?_
      obtain ⟨r47, M48, hy, h⟩ := q_call_some h
      refine r_cvv C (st := []) (c_X10_reads C.2.2.1 3 r45 M46 r47 M48 hy) tm_RX10_230 mw_X10_reads ⟨rfl, rfl⟩ ⟨Nat.le_of_ble_eq_true rfl, Nat.le_of_ble_eq_true rfl⟩ km_0 clX10 rfl rfl (Nat.le_of_ble_eq_true rfl) dX10_line_327 ?_
      refine r_goto C (tgt := 367) dX10_line_330 (by decide) ?_
      refine r_drop [0] rfl ?_
      exact w_X10_line_J367 C hr hlk  M48  h
    refine r_tc C h (fun e h => ?_) (fun ne4 h => ?_)
    · refine r_tin C (tgt := 333) dX10_line_95 e (by decide) rfl (by decide) ?_
      refine r_aln C dX10_line_333 (k := 0) rfl ?_
      refine r_ic C dX10_line_334 ?_
      refine r_aln C dX10_line_335 (k := 0) rfl ?_
      refine r_ic C dX10_line_336 ?_
      refine r_bi C dX10_line_337 (by decide) ?_
      obtain ⟨r49, M50, hy, h⟩ := q_call_some h
      refine r_cvi C (st := [.int (qI 4), .ref (ad 0)]) (c_X10_numeral C.2.2.1 0 100 M5 r49 M50 hy) tm_RX10_226 mw_X10_numeral ⟨rfl, rfl⟩ ⟨Nat.le_of_ble_eq_true rfl, Nat.le_of_ble_eq_true rfl⟩ km_0 clX10 rfl rfl (Nat.le_of_ble_eq_true rfl) dX10_line_339 ?_
      obtain ⟨r51, M52, hy, h⟩ := q_call_some h
      refine r_cvv C (st := []) (c_X10_reads C.2.2.1 4 r49 M50 r51 M52 hy) tm_RX10_230 mw_X10_reads ⟨rfl, rfl⟩ ⟨Nat.le_of_ble_eq_true rfl, Nat.le_of_ble_eq_true rfl⟩ km_0 clX10 rfl rfl (Nat.le_of_ble_eq_true rfl) dX10_line_342 ?_
      refine r_goto C (tgt := 367) dX10_line_345 (by decide) ?_
      refine r_drop [0] rfl ?_
      exact w_X10_line_J367 C hr hlk  M52  h
    refine r_tc C h (fun e h => ?_) (fun ne5 h => ?_)
    · refine r_tin C (tgt := 348) dX10_line_95 e (by decide) rfl (by decide) ?_
      refine r_aln C dX10_line_348 (k := 0) rfl ?_
      refine r_ic C dX10_line_349 ?_
      refine r_aln C dX10_line_350 (k := 0) rfl ?_
      refine r_ic C dX10_line_351 ?_
      refine r_ldc C (x := 99999) tc_RX10_180 (by decide) dX10_line_352 ?_
      obtain ⟨r53, M54, hy, h⟩ := q_call_some h
      refine r_cvi C (st := [.int (qI 5), .ref (ad 0)]) (c_X10_numeral C.2.2.1 0 99999 M5 r53 M54 hy) tm_RX10_226 mw_X10_numeral ⟨rfl, rfl⟩ ⟨Nat.le_of_ble_eq_true rfl, Nat.le_of_ble_eq_true rfl⟩ km_0 clX10 rfl rfl (Nat.le_of_ble_eq_true rfl) dX10_line_354 ?_
      obtain ⟨r55, M56, hy, h⟩ := q_call_some h
      refine r_cvv C (st := []) (c_X10_reads C.2.2.1 5 r53 M54 r55 M56 hy) tm_RX10_230 mw_X10_reads ⟨rfl, rfl⟩ ⟨Nat.le_of_ble_eq_true rfl, Nat.le_of_ble_eq_true rfl⟩ km_0 clX10 rfl rfl (Nat.le_of_ble_eq_true rfl) dX10_line_357 ?_
      refine r_goto C (tgt := 367) dX10_line_360 (by decide) ?_
      refine r_drop [0] rfl ?_
      exact w_X10_line_J367 C hr hlk  M56  h
    refine r_tout C (tgt := 363) dX10_line_95 (by omega) (by decide) ?_
    refine r_aln C dX10_line_363 (k := 0) rfl ?_
    obtain ⟨r57, M58, hy, h⟩ := q_call_some h
    refine r_cvv C (st := []) (c_X10_lawLine C.2.2.1 M5 r57 M58 hy) tm_RX10_237 mw_X10_lawLine ⟨rfl, rfl⟩ ⟨Nat.le_of_ble_eq_true rfl, Nat.le_of_ble_eq_true rfl⟩ km_0 clX10 rfl rfl (Nat.le_of_ble_eq_true rfl) dX10_line_364 ?_
    refine r_drop [0] rfl ?_
    exact w_X10_line_J367 C hr hlk  M58  h
  · exact r_vret C hr hlk dX10_line_77 h
def f_X10_line  (M : Mem) : Res :=
  q_gf M 0 24 fun v1 =>
  if ¬ w32 v1 = 0 then (f_X10_line_J16  M)
  else (q_gf M 0 25 fun v2 =>
  if w32 v2 ≤ w32 6 then (q_gf M 0 25 fun v3 =>
  q_calp (f_X10_isFull v3 M) fun r4 =>
  if w32 r4 = 0 then (if w32 v3 < w32 3 then (f_X10_line_J70 v3 M)
  else (if w32 5 < w32 v3 then (f_X10_line_J70 v3 M)
  else (q_gf M 0 19 fun v5 =>
  if ¬ w32 (q_and (q_shr v5 v3) 1) = w32 1 then (f_X10_line_J70 v3 M)
  else (q_call (f_X10_wrong 3 M) fun r6 M7 =>
  f_X10_line_J70 v3 M7))))
  else (q_call (f_X10_wrong 2 M) fun r8 M9 =>
  f_X10_line_J70 v3 M9))
  else (f_X10_line_J16  M))
theorem c_X10_line {l : Launch} {D : va_G} {ad : Nat → Nat} {cA : Nat → ClassId} (hi : q_inj syM ad)  (M : Mem) (r0 : Int) (M0 : Mem) (h : f_X10_line  M = some (r0, M0)) : q_Met l syM D ad cA yX10_line cX10_line 4 none rm_X10_line [.ref (ad 0)] M none M0 := by
  refine q_met (L0 := [(0, .ref (ad 0))]) hi okM (by decide) (Nat.le_of_ble_eq_true rfl) rfl ?_
  intro p e s m args below meth c C hr hlk
  unfold f_X10_line at h
  refine r_aln C dX10_line_0 (k := 0) rfl ?_
  refine r_gf C km_0 clX10 (f := 24) (by decide) rfl rfl rfl tf_RX10_161 dX10_line_1 h (fun v1 h => ?_)
  refine r_zne C (tgt := 16) dX10_line_4 (by decide) h (fun h => ?_) (fun h => ?_)
  · exact w_X10_line_J16 C hr hlk  M  h
  · refine r_aln C dX10_line_7 (k := 0) rfl ?_
    refine r_gf C km_0 clX10 (f := 25) (by decide) rfl rfl rfl tf_RX10_171 dX10_line_8 h (fun v2 h => ?_)
    refine r_bi C dX10_line_11 (by decide) ?_
    refine r_cle C (tgt := 22) dX10_line_13 (by decide) h (fun h => ?_) (fun h => ?_)
    · refine r_aln C dX10_line_22 (k := 0) rfl ?_
      refine r_gf C km_0 clX10 (f := 25) (by decide) rfl rfl rfl tf_RX10_171 dX10_line_23 h (fun v3 h => ?_)
      refine r_isn C (L1 := [(1, .int (qI v3)), (0, .ref (ad 0))]) dX10_line_26 (by decide) rfl ?_
      refine r_aln C dX10_line_27 (k := 1) rfl ?_
      refine r_iln C dX10_line_28 (k := 0) rfl ?_
      obtain ⟨r4, hy, h⟩ := q_calp_some h
      refine r_cvi C (st := []) (c_X10_isFull C.2.2.1 v3 M r4 hy) tm_RX10_216 mw_X10_isFull ⟨rfl, rfl⟩ ⟨Nat.le_of_ble_eq_true rfl, Nat.le_of_ble_eq_true rfl⟩ km_0 clX10 rfl rfl (Nat.le_of_ble_eq_true rfl) dX10_line_29 ?_
      refine r_zeq C (tgt := 43) dX10_line_32 (by decide) h (fun h => ?_) (fun h => ?_)
      · refine r_iln C dX10_line_43 (k := 0) rfl ?_
        refine r_ic C dX10_line_44 ?_
        refine r_clt C (tgt := 70) dX10_line_45 (by decide) h (fun h => ?_) (fun h => ?_)
        · refine r_drop [1, 0] rfl ?_
          exact w_X10_line_J70 C hr hlk v3 M  h
        · refine r_iln C dX10_line_48 (k := 0) rfl ?_
          refine r_ic C dX10_line_49 ?_
          refine r_cgt C (tgt := 70) dX10_line_50 (by decide) h (fun h => ?_) (fun h => ?_)
          · refine r_drop [1, 0] rfl ?_
            exact w_X10_line_J70 C hr hlk v3 M  h
          · refine r_aln C dX10_line_53 (k := 1) rfl ?_
            refine r_gf C km_0 clX10 (f := 19) (by decide) rfl rfl rfl tf_RX10_219 dX10_line_54 h (fun v5 h => ?_)
            refine r_iln C dX10_line_57 (k := 0) rfl ?_
            refine r_ishr C dX10_line_58 ?_
            refine r_ic C dX10_line_59 ?_
            refine r_iand C dX10_line_60 ?_
            refine r_ic C dX10_line_61 ?_
            refine r_cne C (tgt := 70) dX10_line_62 (by decide) h (fun h => ?_) (fun h => ?_)
            · refine r_drop [1, 0] rfl ?_
              exact w_X10_line_J70 C hr hlk v3 M  h
            · refine r_aln C dX10_line_65 (k := 1) rfl ?_
              refine r_ic C dX10_line_66 ?_
              obtain ⟨r6, M7, hy, h⟩ := q_call_some h
              refine r_cvv C (st := []) (c_X10_wrong C.2.2.1 3 M r6 M7 hy) tm_RX10_205 mw_X10_wrong ⟨rfl, rfl⟩ ⟨Nat.le_of_ble_eq_true rfl, Nat.le_of_ble_eq_true rfl⟩ km_0 clX10 rfl rfl (Nat.le_of_ble_eq_true rfl) dX10_line_67 ?_
              refine r_drop [1, 0] rfl ?_
              exact w_X10_line_J70 C hr hlk v3 M7  h
      · refine r_aln C dX10_line_35 (k := 1) rfl ?_
        refine r_ic C dX10_line_36 ?_
        obtain ⟨r8, M9, hy, h⟩ := q_call_some h
        refine r_cvv C (st := []) (c_X10_wrong C.2.2.1 2 M r8 M9 hy) tm_RX10_205 mw_X10_wrong ⟨rfl, rfl⟩ ⟨Nat.le_of_ble_eq_true rfl, Nat.le_of_ble_eq_true rfl⟩ km_0 clX10 rfl rfl (Nat.le_of_ble_eq_true rfl) dX10_line_37 ?_
        refine r_goto C (tgt := 70) dX10_line_40 (by decide) ?_
        refine r_drop [1, 0] rfl ?_
        exact w_X10_line_J70 C hr hlk v3 M9  h
    · exact w_X10_line_J16 C hr hlk  M  h
def rg_A (d : Nat) : Room := { frames := 4 + d, cells := 0, slots := 0, locals := 95 + 24 * d }
theorem mw_X10_matches : q_mw RX10 yX10_matches cX10_matches 5 none 3 := ⟨⟨ti_X10_matches, tl_X10_matches, tn_RX10, td_X10_matches⟩, by decide +kernel⟩
def f_X10_matches_B57 (F_X10_matches : Int → Int → Int → Mem → Res) (x1 : Int) (x2 : Int) (x3 : Int) (x4 : Int) (M : Mem) (g57 : Int → Mem → Res) : Res :=
  q_al M 35 14 0 fun v1 =>
  if w32 v1 ≤ w32 x4 then (q_as M 87 4 x1 (-2) fun M2 =>
  q_call (F_X10_matches (x1 + 1) x2 x3 M2) fun r3 M4 =>
  some (0, M4))
  else (q_al M 71 184 x4 fun v5 =>
  if ¬ w32 v5 = w32 1 then (g57 (x4 + 1) M)
  else (if w32 (q_and (q_shr x2 x4) 1) = w32 1 then (g57 (x4 + 1) M)
  else (q_call (f_X10_mayRide 0 x4 x1 M) fun r6 M7 =>
  if ¬ w32 r6 = 0 then (q_as M7 87 4 x1 x4 fun M8 =>
  q_al M8 38 16 x4 fun v9 =>
  q_call (F_X10_matches (x1 + 1) (q_or x2 (q_shl 1 x4)) (x3 + v9) M8) fun r10 M11 =>
  g57 (x4 + 1) M11)
  else (g57 (x4 + 1) M7))))
def f_X10_matches_L57 (F_X10_matches : Int → Int → Int → Mem → Res) (x1 : Int) (x2 : Int) (x3 : Int) (n : Nat) (x4 : Int) (M : Mem) : Res := qlm1 (fun x4 M g57 => f_X10_matches_B57 F_X10_matches x1 x2 x3 x4 M g57) n x4 M
theorem w_X10_matches_B57 (C : Cx syM p m c cX10_matches 5 s args RX10 D ad cA) (hr : meth.sig.returnType = none) (hlk : meth.locks = false) (F_X10_matches : Int → Int → Int → Mem → Res) (d : Nat) (HF_X10_matches : ∀ (a0 a1 a2 : Int) (M : Mem) (r0 : Int) (M0 : Mem), F_X10_matches a0 a1 a2 M = some (r0, M0) → q_Met l syM D ad cA yX10_matches cX10_matches 5 none (rg_A d) [.ref (ad 0), .int (qI a0), .int (qI a1), .int (qI a2)] M none M0) (x1 : Int) (x2 : Int) (x3 : Int) (x4 : Int) (M : Mem) (g57 : Int → Mem → Res)  (ih57 : ∀ (ux4 : Int) (M : Mem), g57 ux4 M = some (r0, M0) → WM syM p l e (rg_A (d + 1)) s m args below meth c 5 D ad cA (MQ below (q_Post syM D ad cA none M0) args s 0 0 (q_A syM ad)) M 57 [(0, .ref (ad 0)), (1, .int (qI x1)), (2, .int (qI x2)), (3, .int (qI x3)), (4, .int (qI ux4))] []) (h : f_X10_matches_B57 F_X10_matches x1 x2 x3 x4 M g57 = some (r0, M0)) : WM syM p l e (rg_A (d + 1)) s m args below meth c 5 D ad cA (MQ below (q_Post syM D ad cA none M0) args s 0 0 (q_A syM ad)) M 57 [(0, .ref (ad 0)), (1, .int (qI x1)), (2, .int (qI x2)), (3, .int (qI x3)), (4, .int (qI x4))] [] := by
  unfold f_X10_matches_B57 at h
  refine r_il C dX10_matches_57 (k := 4) rfl ?_
  refine r_aln C dX10_matches_59 (k := 0) rfl ?_
  refine r_gs C km_0 clX10 (f := 3) (by decide) rfl (t := 35) rfl tf_RX10_13 dX10_matches_60 ?_
  refine r_ic C dX10_matches_63 ?_
  refine r_iald C km_35 dX10_matches_64 h (fun v1 h => ?_)
  refine r_cge C (tgt := 139) dX10_matches_65 (by decide) h (fun h => ?_) (fun h => ?_)
  · refine r_aln C dX10_matches_139 (k := 0) rfl ?_
    refine r_gs C km_0 clX10 (f := 55) (by decide) rfl (t := 87) rfl tf_RX10_114 dX10_matches_140 ?_
    refine r_iln C dX10_matches_143 (k := 1) rfl ?_
    refine r_bi C dX10_matches_144 (by decide) ?_
    refine r_iast C km_87 dX10_matches_146 h (fun M2 h => ?_)
    refine r_aln C dX10_matches_147 (k := 0) rfl ?_
    refine r_iln C dX10_matches_148 (k := 1) rfl ?_
    refine r_ic C dX10_matches_149 ?_
    refine r_iadd C dX10_matches_150 ?_
    refine r_iln C dX10_matches_151 (k := 2) rfl ?_
    refine r_iln C dX10_matches_152 (k := 3) rfl ?_
    obtain ⟨r3, M4, hy, h⟩ := q_call_some h
    refine r_cvv C (st := []) (HF_X10_matches (x1 + 1) x2 x3 M2 r3 M4 hy) tm_RX10_455 mw_X10_matches ⟨rfl, rfl⟩ ⟨by simp only [rg_A]; omega, by simp only [rg_A]; omega⟩ km_0 clX10 rfl rfl (Nat.le_of_ble_eq_true rfl) dX10_matches_153 ?_
    exact r_vret C hr hlk dX10_matches_156 h
  · refine r_aln C dX10_matches_68 (k := 0) rfl ?_
    refine r_gs C km_0 clX10 (f := 39) (by decide) rfl (t := 71) rfl tf_RX10_84 dX10_matches_69 ?_
    refine r_il C dX10_matches_72 (k := 4) rfl ?_
    refine r_iald C km_71 dX10_matches_74 h (fun v5 h => ?_)
    refine r_ic C dX10_matches_75 ?_
    refine r_cne C (tgt := 133) dX10_matches_76 (by decide) h (fun h => ?_) (fun h => ?_)
    · refine r_inc C (L1 := [(4, .int (qI (x4 + 1))), (0, .ref (ad 0)), (1, .int (qI x1)), (2, .int (qI x2)), (3, .int (qI x3))]) dX10_matches_133 (k := 4) rfl (by decide) rfl ?_
      refine r_goto C (tgt := 57) dX10_matches_136 (by decide) ?_
      refine r_drop [1, 2, 3, 4, 0] rfl ?_
      exact ih57 (x4 + 1) M h
    · refine r_iln C dX10_matches_79 (k := 2) rfl ?_
      refine r_il C dX10_matches_80 (k := 4) rfl ?_
      refine r_ishr C dX10_matches_82 ?_
      refine r_ic C dX10_matches_83 ?_
      refine r_iand C dX10_matches_84 ?_
      refine r_ic C dX10_matches_85 ?_
      refine r_ceq C (tgt := 133) dX10_matches_86 (by decide) h (fun h => ?_) (fun h => ?_)
      · refine r_inc C (L1 := [(4, .int (qI (x4 + 1))), (0, .ref (ad 0)), (1, .int (qI x1)), (2, .int (qI x2)), (3, .int (qI x3))]) dX10_matches_133 (k := 4) rfl (by decide) rfl ?_
        refine r_goto C (tgt := 57) dX10_matches_136 (by decide) ?_
        refine r_drop [1, 2, 3, 4, 0] rfl ?_
        exact ih57 (x4 + 1) M h
      · refine r_aln C dX10_matches_89 (k := 0) rfl ?_
        refine r_ic C dX10_matches_90 ?_
        refine r_il C dX10_matches_91 (k := 4) rfl ?_
        refine r_iln C dX10_matches_93 (k := 1) rfl ?_
        obtain ⟨r6, M7, hy, h⟩ := q_call_some h
        refine r_cvi C (st := []) (c_X10_mayRide C.2.2.1 0 x4 x1 M r6 M7 hy) tm_RX10_362 mw_X10_mayRide ⟨rfl, rfl⟩ ⟨by simp only [rm_X10_mayRide, rg_A]; omega, by simp only [rm_X10_mayRide, rg_A]; omega⟩ km_0 clX10 rfl rfl (Nat.le_of_ble_eq_true rfl) dX10_matches_94 ?_
        refine r_zne C (tgt := 103) dX10_matches_97 (by decide) h (fun h => ?_) (fun h => ?_)
        · refine r_aln C dX10_matches_103 (k := 0) rfl ?_
          refine r_gs C km_0 clX10 (f := 55) (by decide) rfl (t := 87) rfl tf_RX10_114 dX10_matches_104 ?_
          refine r_iln C dX10_matches_107 (k := 1) rfl ?_
          refine r_il C dX10_matches_108 (k := 4) rfl ?_
          refine r_iast C km_87 dX10_matches_110 h (fun M8 h => ?_)
          refine r_aln C dX10_matches_111 (k := 0) rfl ?_
          refine r_iln C dX10_matches_112 (k := 1) rfl ?_
          refine r_ic C dX10_matches_113 ?_
          refine r_iadd C dX10_matches_114 ?_
          refine r_iln C dX10_matches_115 (k := 2) rfl ?_
          refine r_ic C dX10_matches_116 ?_
          refine r_il C dX10_matches_117 (k := 4) rfl ?_
          refine r_ishl C dX10_matches_119 ?_
          refine r_ior C dX10_matches_120 ?_
          refine r_iln C dX10_matches_121 (k := 3) rfl ?_
          refine r_aln C dX10_matches_122 (k := 0) rfl ?_
          refine r_gs C km_0 clX10 (f := 6) (by decide) rfl (t := 38) rfl tf_RX10_22 dX10_matches_123 ?_
          refine r_il C dX10_matches_126 (k := 4) rfl ?_
          refine r_iald C km_38 dX10_matches_128 h (fun v9 h => ?_)
          refine r_iadd C dX10_matches_129 ?_
          obtain ⟨r10, M11, hy, h⟩ := q_call_some h
          refine r_cvv C (st := []) (HF_X10_matches (x1 + 1) (q_or x2 (q_shl 1 x4)) (x3 + v9) M8 r10 M11 hy) tm_RX10_455 mw_X10_matches ⟨rfl, rfl⟩ ⟨by simp only [rg_A]; omega, by simp only [rg_A]; omega⟩ km_0 clX10 rfl rfl (Nat.le_of_ble_eq_true rfl) dX10_matches_130 ?_
          refine r_inc C (L1 := [(4, .int (qI (x4 + 1))), (0, .ref (ad 0)), (1, .int (qI x1)), (2, .int (qI x2)), (3, .int (qI x3))]) dX10_matches_133 (k := 4) rfl (by decide) rfl ?_
          refine r_goto C (tgt := 57) dX10_matches_136 (by decide) ?_
          refine r_drop [1, 2, 3, 4, 0] rfl ?_
          exact ih57 (x4 + 1) M11 h
        · refine r_goto C (tgt := 133) dX10_matches_100 (by decide) ?_
          refine r_inc C (L1 := [(4, .int (qI (x4 + 1))), (0, .ref (ad 0)), (1, .int (qI x1)), (2, .int (qI x2)), (3, .int (qI x3))]) dX10_matches_133 (k := 4) rfl (by decide) rfl ?_
          refine r_goto C (tgt := 57) dX10_matches_136 (by decide) ?_
          refine r_drop [1, 2, 3, 4, 0] rfl ?_
          exact ih57 (x4 + 1) M7 h
theorem w_X10_matches_L57 (C : Cx syM p m c cX10_matches 5 s args RX10 D ad cA) (hr : meth.sig.returnType = none) (hlk : meth.locks = false) (F_X10_matches : Int → Int → Int → Mem → Res) (d : Nat) (HF_X10_matches : ∀ (a0 a1 a2 : Int) (M : Mem) (r0 : Int) (M0 : Mem), F_X10_matches a0 a1 a2 M = some (r0, M0) → q_Met l syM D ad cA yX10_matches cX10_matches 5 none (rg_A d) [.ref (ad 0), .int (qI a0), .int (qI a1), .int (qI a2)] M none M0) (x1 : Int) (x2 : Int) (x3 : Int)  (n : Nat) (x4 : Int) (M : Mem) (h : f_X10_matches_L57 F_X10_matches x1 x2 x3 n x4 M = some (r0, M0)) : WM syM p l e (rg_A (d + 1)) s m args below meth c 5 D ad cA (MQ below (q_Post syM D ad cA none M0) args s 0 0 (q_A syM ad)) M 57 [(0, .ref (ad 0)), (1, .int (qI x1)), (2, .int (qI x2)), (3, .int (qI x3)), (4, .int (qI x4))] [] :=
  qlm1_r (Wp := fun ux4 M => WM syM p l e (rg_A (d + 1)) s m args below meth c 5 D ad cA (MQ below (q_Post syM D ad cA none M0) args s 0 0 (q_A syM ad)) M 57 [(0, .ref (ad 0)), (1, .int (qI x1)), (2, .int (qI x2)), (3, .int (qI x3)), (4, .int (qI ux4))] []) (fun ux4 M g57 ih57 h => w_X10_matches_B57 C hr hlk F_X10_matches d HF_X10_matches x1 x2 x3 ux4 M g57  ih57 h) n x4 M h
def f_X10_matches_B27 (F_X10_matches : Int → Int → Int → Mem → Res) (x1 : Int) (x4 : Int) (M : Mem) (g27 : Int → Mem → Res) : Res :=
  if w32 x1 ≤ w32 x4 then (some (0, M))
  else (q_al M 87 4 x4 fun v1 =>
  q_as M 88 4 x4 v1 fun M2 =>
  g27 (x4 + 1) M2)
def f_X10_matches_L27 (F_X10_matches : Int → Int → Int → Mem → Res) (x1 : Int) (n : Nat) (x4 : Int) (M : Mem) : Res := qlm1 (fun x4 M g27 => f_X10_matches_B27 F_X10_matches x1 x4 M g27) n x4 M
theorem w_X10_matches_B27 (C : Cx syM p m c cX10_matches 5 s args RX10 D ad cA) (hr : meth.sig.returnType = none) (hlk : meth.locks = false) (F_X10_matches : Int → Int → Int → Mem → Res) (d : Nat) (HF_X10_matches : ∀ (a0 a1 a2 : Int) (M : Mem) (r0 : Int) (M0 : Mem), F_X10_matches a0 a1 a2 M = some (r0, M0) → q_Met l syM D ad cA yX10_matches cX10_matches 5 none (rg_A d) [.ref (ad 0), .int (qI a0), .int (qI a1), .int (qI a2)] M none M0) (x1 : Int) (x4 : Int) (M : Mem) (g27 : Int → Mem → Res)  (ih27 : ∀ (ux4 : Int) (M : Mem), g27 ux4 M = some (r0, M0) → WM syM p l e (rg_A (d + 1)) s m args below meth c 5 D ad cA (MQ below (q_Post syM D ad cA none M0) args s 0 0 (q_A syM ad)) M 27 [(0, .ref (ad 0)), (1, .int (qI x1)), (4, .int (qI ux4))] []) (h : f_X10_matches_B27 F_X10_matches x1 x4 M g27 = some (r0, M0)) : WM syM p l e (rg_A (d + 1)) s m args below meth c 5 D ad cA (MQ below (q_Post syM D ad cA none M0) args s 0 0 (q_A syM ad)) M 27 [(0, .ref (ad 0)), (1, .int (qI x1)), (4, .int (qI x4))] [] := by
  unfold f_X10_matches_B27 at h
  refine r_il C dX10_matches_27 (k := 2) rfl ?_
  refine r_iln C dX10_matches_29 (k := 1) rfl ?_
  refine r_cge C (tgt := 53) dX10_matches_30 (by decide) h (fun h => ?_) (fun h => ?_)
  · exact r_vret C hr hlk dX10_matches_53 h
  · refine r_aln C dX10_matches_33 (k := 0) rfl ?_
    refine r_gs C km_0 clX10 (f := 56) (by decide) rfl (t := 88) rfl tf_RX10_117 dX10_matches_34 ?_
    refine r_il C dX10_matches_37 (k := 2) rfl ?_
    refine r_aln C dX10_matches_39 (k := 0) rfl ?_
    refine r_gs C km_0 clX10 (f := 55) (by decide) rfl (t := 87) rfl tf_RX10_114 dX10_matches_40 ?_
    refine r_il C dX10_matches_43 (k := 2) rfl ?_
    refine r_iald C km_87 dX10_matches_45 h (fun v1 h => ?_)
    refine r_iast C km_88 dX10_matches_46 h (fun M2 h => ?_)
    refine r_inc C (L1 := [(4, .int (qI (x4 + 1))), (0, .ref (ad 0)), (1, .int (qI x1))]) dX10_matches_47 (k := 2) rfl (by decide) rfl ?_
    refine r_goto C (tgt := 27) dX10_matches_50 (by decide) ?_
    refine r_drop [1, 2, 0] rfl ?_
    exact ih27 (x4 + 1) M2 h
theorem w_X10_matches_L27 (C : Cx syM p m c cX10_matches 5 s args RX10 D ad cA) (hr : meth.sig.returnType = none) (hlk : meth.locks = false) (F_X10_matches : Int → Int → Int → Mem → Res) (d : Nat) (HF_X10_matches : ∀ (a0 a1 a2 : Int) (M : Mem) (r0 : Int) (M0 : Mem), F_X10_matches a0 a1 a2 M = some (r0, M0) → q_Met l syM D ad cA yX10_matches cX10_matches 5 none (rg_A d) [.ref (ad 0), .int (qI a0), .int (qI a1), .int (qI a2)] M none M0) (x1 : Int)  (n : Nat) (x4 : Int) (M : Mem) (h : f_X10_matches_L27 F_X10_matches x1 n x4 M = some (r0, M0)) : WM syM p l e (rg_A (d + 1)) s m args below meth c 5 D ad cA (MQ below (q_Post syM D ad cA none M0) args s 0 0 (q_A syM ad)) M 27 [(0, .ref (ad 0)), (1, .int (qI x1)), (4, .int (qI x4))] [] :=
  qlm1_r (Wp := fun ux4 M => WM syM p l e (rg_A (d + 1)) s m args below meth c 5 D ad cA (MQ below (q_Post syM D ad cA none M0) args s 0 0 (q_A syM ad)) M 27 [(0, .ref (ad 0)), (1, .int (qI x1)), (4, .int (qI ux4))] []) (fun ux4 M g27 ih27 h => w_X10_matches_B27 C hr hlk F_X10_matches d HF_X10_matches x1 ux4 M g27  ih27 h) n x4 M h
def f_X10_matches_G (F_X10_matches : Int → Int → Int → Mem → Res) (a0 : Int) (a1 : Int) (a2 : Int) (M : Mem) : Res :=
  q_al M 35 14 1 fun v1 =>
  if ¬ w32 a0 = w32 v1 then (f_X10_matches_L57 F_X10_matches a0 a1 a2 q_N 0 M)
  else (q_gf M 0 57 fun v2 =>
  if w32 v2 < w32 a2 then (q_pf M 0 57 a2 fun M3 =>
  f_X10_matches_L27 F_X10_matches a0 q_N 0 M3)
  else (some (0, M)))
theorem c_X10_matches_G {l : Launch} {D : va_G} {ad : Nat → Nat} {cA : Nat → ClassId} (hi : q_inj syM ad) (F_X10_matches : Int → Int → Int → Mem → Res) (d : Nat) (HF_X10_matches : ∀ (a0 a1 a2 : Int) (M : Mem) (r0 : Int) (M0 : Mem), F_X10_matches a0 a1 a2 M = some (r0, M0) → q_Met l syM D ad cA yX10_matches cX10_matches 5 none (rg_A d) [.ref (ad 0), .int (qI a0), .int (qI a1), .int (qI a2)] M none M0) (a0 : Int) (a1 : Int) (a2 : Int) (M : Mem) (r0 : Int) (M0 : Mem) (h : f_X10_matches_G F_X10_matches a0 a1 a2 M = some (r0, M0)) : q_Met l syM D ad cA yX10_matches cX10_matches 5 none (rg_A (d + 1)) [.ref (ad 0), .int (qI a0), .int (qI a1), .int (qI a2)] M none M0 := by
  refine q_met (L0 := [(0, .ref (ad 0)), (1, .int (qI a0)), (2, .int (qI a1)), (3, .int (qI a2))]) hi okM (by decide) (Nat.le_of_ble_eq_true rfl) rfl ?_
  intro p e s m args below meth c C hr hlk
  unfold f_X10_matches_G at h
  refine r_iln C dX10_matches_0 (k := 1) rfl ?_
  refine r_aln C dX10_matches_1 (k := 0) rfl ?_
  refine r_gs C km_0 clX10 (f := 3) (by decide) rfl (t := 35) rfl tf_RX10_13 dX10_matches_2 ?_
  refine r_ic C dX10_matches_5 ?_
  refine r_iald C km_35 dX10_matches_6 h (fun v1 h => ?_)
  refine r_cne C (tgt := 54) dX10_matches_7 (by decide) h (fun h => ?_) (fun h => ?_)
  · refine r_ic C dX10_matches_54 ?_
    refine r_is C (L1 := [(4, .int (qI 0)), (0, .ref (ad 0)), (1, .int (qI a0)), (2, .int (qI a1)), (3, .int (qI a2))]) dX10_matches_55 (by decide) rfl ?_
    refine r_drop [1, 2, 3, 4, 0] rfl ?_
    exact w_X10_matches_L57 C hr hlk F_X10_matches d HF_X10_matches a0 a1 a2  q_N 0 M h
  · refine r_iln C dX10_matches_10 (k := 3) rfl ?_
    refine r_aln C dX10_matches_11 (k := 0) rfl ?_
    refine r_gf C km_0 clX10 (f := 57) (by decide) rfl rfl rfl tf_RX10_452 dX10_matches_12 h (fun v2 h => ?_)
    refine r_cgt C (tgt := 19) dX10_matches_15 (by decide) h (fun h => ?_) (fun h => ?_)
    · refine r_aln C dX10_matches_19 (k := 0) rfl ?_
      refine r_iln C dX10_matches_20 (k := 3) rfl ?_
      refine r_pf C km_0 clX10 (f := 57) (by decide) rfl q_dI rfl rfl tf_RX10_452 dX10_matches_21 h (fun M3 h => ?_)
      refine r_ic C dX10_matches_24 ?_
      refine r_is C (L1 := [(4, .int (qI 0)), (0, .ref (ad 0)), (1, .int (qI a0)), (2, .int (qI a1)), (3, .int (qI a2))]) dX10_matches_25 (by decide) rfl ?_
      refine r_drop [1, 2, 0] rfl ?_
      exact w_X10_matches_L27 C hr hlk F_X10_matches d HF_X10_matches a0  q_N 0 M3 h
    · exact r_vret C hr hlk dX10_matches_18 h
def f_A : Nat → Int → Int → Int → Mem → Res
  | 0, _, _, _, _ => none
  | d + 1, a0, a1, a2, M => f_X10_matches_G (f_A d) a0 a1 a2 M
theorem c_A (hi : q_inj syM ad) : ∀ d, (∀ (a0 a1 a2 : Int) (M : Mem) (r0 : Int) (M0 : Mem), f_A d a0 a1 a2 M = some (r0, M0) → q_Met l syM D ad cA yX10_matches cX10_matches 5 none (rg_A d) [.ref (ad 0), .int (qI a0), .int (qI a1), .int (qI a2)] M none M0) := by
  intro d
  induction d with
  | zero => intros; rename_i h; cases h
  | succ d ih =>
    intro a0 a1 a2 M r0 M0 h
    exact c_X10_matches_G hi (f_A d) d ih a0 a1 a2 M r0 M0 h
abbrev rm_X10_matches : Room := { frames := 204, cells := 0, slots := 0, locals := 4895 }
def f_X10_matches (a0 a1 a2 : Int) (M : Mem) : Res := f_A q_D a0 a1 a2 M
theorem c_X10_matches (hi : q_inj syM ad) (a0 a1 a2 : Int) (M : Mem) (r0 : Int) (M0 : Mem) (h : f_X10_matches a0 a1 a2 M = some (r0, M0)) : q_Met l syM D ad cA yX10_matches cX10_matches 5 none rm_X10_matches [.ref (ad 0), .int (qI a0), .int (qI a1), .int (qI a2)] M none M0 := (c_A hi q_D) a0 a1 a2 M r0 M0 h
abbrev rm_X10_match : Room := { frames := 205, cells := 0, slots := 0, locals := 4919 }
theorem mw_X10_match : q_mw RX10 yX10_match cX10_match 2 (some .int) 1 := ⟨⟨ti_X10_match, tl_X10_match, tn_RX10, td_X10_match⟩, by decide +kernel⟩
def f_X10_match (a0 : Int) (M : Mem) : Res :=
  q_pf M 0 0 0 fun M1 =>
  if w32 a0 < 0 then (some ((-1), M1))
  else (if w32 a0 ≤ w32 4 then (q_pf M1 0 57 (-1) fun M2 =>
  q_call (f_X10_matches 0 0 0 M2) fun r3 M4 =>
  if ¬ w32 a0 = w32 4 then (q_al M4 35 14 1 fun v5 =>
  if w32 v5 ≤ w32 a0 then (some ((-2), M4))
  else (q_al M4 88 4 a0 fun v6 =>
  some (v6, M4)))
  else (q_gf M4 0 57 fun v7 =>
  some (v7, M4)))
  else (some ((-1), M1)))
theorem c_X10_match {l : Launch} {D : va_G} {ad : Nat → Nat} {cA : Nat → ClassId} (hi : q_inj syM ad) (a0 : Int) (M : Mem) (r0 : Int) (M0 : Mem) (h : f_X10_match a0 M = some (r0, M0)) : q_Met l syM D ad cA yX10_match cX10_match 2 (some .int) rm_X10_match [.ref (ad 0), .int (qI a0)] M (some (.int (qI r0))) M0 := by
  refine q_met (L0 := [(0, .ref (ad 0)), (1, .int (qI a0))]) hi okM (by decide) (Nat.le_of_ble_eq_true rfl) rfl ?_
  intro p e s m args below meth c C hr hlk
  unfold f_X10_match at h
  refine r_aln C dX10_match_0 (k := 0) rfl ?_
  refine r_ic C dX10_match_1 ?_
  refine r_pf C km_0 clX10 (f := 0) (by decide) rfl q_dI rfl rfl tf_RX10_142 dX10_match_2 h (fun M1 h => ?_)
  refine r_iln C dX10_match_5 (k := 1) rfl ?_
  refine r_zlt C (tgt := 14) dX10_match_6 (by decide) h (fun h => ?_) (fun h => ?_)
  · refine r_ic C dX10_match_14 ?_
    exact r_iret C hr hlk dX10_match_15 h
  · refine r_iln C dX10_match_9 (k := 1) rfl ?_
    refine r_ic C dX10_match_10 ?_
    refine r_cle C (tgt := 16) dX10_match_11 (by decide) h (fun h => ?_) (fun h => ?_)
    · refine r_aln C dX10_match_16 (k := 0) rfl ?_
      refine r_ic C dX10_match_17 ?_
      refine r_pf C km_0 clX10 (f := 57) (by decide) rfl q_dI rfl rfl tf_RX10_452 dX10_match_18 h (fun M2 h => ?_)
      refine r_aln C dX10_match_21 (k := 0) rfl ?_
      refine r_ic C dX10_match_22 ?_
      refine r_ic C dX10_match_23 ?_
      refine r_ic C dX10_match_24 ?_
      obtain ⟨r3, M4, hy, h⟩ := q_call_some h
      refine r_cvv C (st := []) (c_X10_matches C.2.2.1 0 0 0 M2 r3 M4 hy) tm_RX10_455 mw_X10_matches ⟨rfl, rfl⟩ ⟨Nat.le_of_ble_eq_true rfl, Nat.le_of_ble_eq_true rfl⟩ km_0 clX10 rfl rfl (Nat.le_of_ble_eq_true rfl) dX10_match_25 ?_
      refine r_iln C dX10_match_28 (k := 1) rfl ?_
      refine r_ic C dX10_match_29 ?_
      refine r_cne C (tgt := 40) dX10_match_30 (by decide) h (fun h => ?_) (fun h => ?_)
      · refine r_iln C dX10_match_40 (k := 1) rfl ?_
        refine r_aln C dX10_match_41 (k := 0) rfl ?_
        refine r_gs C km_0 clX10 (f := 3) (by decide) rfl (t := 35) rfl tf_RX10_13 dX10_match_42 ?_
        refine r_ic C dX10_match_45 ?_
        refine r_iald C km_35 dX10_match_46 h (fun v5 h => ?_)
        refine r_cge C (tgt := 59) dX10_match_47 (by decide) h (fun h => ?_) (fun h => ?_)
        · refine r_bi C dX10_match_59 (by decide) ?_
          exact r_iret C hr hlk dX10_match_61 h
        · refine r_aln C dX10_match_50 (k := 0) rfl ?_
          refine r_gs C km_0 clX10 (f := 56) (by decide) rfl (t := 88) rfl tf_RX10_117 dX10_match_51 ?_
          refine r_iln C dX10_match_54 (k := 1) rfl ?_
          refine r_iald C km_88 dX10_match_55 h (fun v6 h => ?_)
          refine r_goto C (tgt := 61) dX10_match_56 (by decide) ?_
          exact r_iret C hr hlk dX10_match_61 h
      · refine r_aln C dX10_match_33 (k := 0) rfl ?_
        refine r_gf C km_0 clX10 (f := 57) (by decide) rfl rfl rfl tf_RX10_452 dX10_match_34 h (fun v7 h => ?_)
        refine r_goto C (tgt := 61) dX10_match_37 (by decide) ?_
        exact r_iret C hr hlk dX10_match_61 h
    · refine r_ic C dX10_match_14 ?_
      exact r_iret C hr hlk dX10_match_15 h
abbrev rm_X10_meet : Room := { frames := 2, cells := 0, slots := 0, locals := 43 }
theorem mw_X10_meet : q_mw RX10 yX10_meet cX10_meet 4 (some .int) 2 := ⟨⟨ti_X10_meet, tl_X10_meet, tn_RX10, td_X10_meet⟩, by decide +kernel⟩
def f_X10_meet_B30 (x1 : Int) (x2 : Int) (M : Mem) (x3 : Int) (g30 : Int → Res) : Res :=
  if w32 1100 < w32 x3 then (some ((-2), M))
  else (q_al M 67 23 0 fun v1 =>
  q_calp (f_X10_isComing x1 (v1 + x3) M) fun r2 =>
  if w32 r2 = 0 then (g30 (x3 + 1))
  else (q_al M 67 23 0 fun v3 =>
  q_calp (f_X10_isComing x2 (v3 + x3) M) fun r4 =>
  if w32 r4 = 0 then (g30 (x3 + 1))
  else (some (x3, M))))
def f_X10_meet_L30 (x1 : Int) (x2 : Int) (M : Mem) (n : Nat) (x3 : Int) : Res := qlp1 (fun x3 g30 => f_X10_meet_B30 x1 x2 M x3 g30) n x3
theorem w_X10_meet_B30 (C : Cx syM p m c cX10_meet 4 s args RX10 D ad cA) (hr : meth.sig.returnType = (some .int)) (hlk : meth.locks = false)  (x1 : Int) (x2 : Int) (x3 : Int) (M : Mem) (g30 : Int → Res)  (ih30 : ∀ (ux3 : Int) , g30 ux3  = some (r0, M0) → WM syM p l e rm_X10_meet s m args below meth c 4 D ad cA (MQ below (q_Post syM D ad cA (some (.int (qI r0))) M0) args s 0 0 (q_A syM ad)) M 30 [(0, .ref (ad 0)), (1, .int (qI x1)), (2, .int (qI x2)), (3, .int (qI ux3))] []) (h : f_X10_meet_B30 x1 x2 M x3 g30 = some (r0, M0)) : WM syM p l e rm_X10_meet s m args below meth c 4 D ad cA (MQ below (q_Post syM D ad cA (some (.int (qI r0))) M0) args s 0 0 (q_A syM ad)) M 30 [(0, .ref (ad 0)), (1, .int (qI x1)), (2, .int (qI x2)), (3, .int (qI x3))] [] := by
  unfold f_X10_meet_B30 at h
  refine r_iln C dX10_meet_30 (k := 3) rfl ?_
  refine r_si C dX10_meet_31 (by decide) ?_
  refine r_cgt C (tgt := 77) dX10_meet_34 (by decide) h (fun h => ?_) (fun h => ?_)
  · refine r_bi C dX10_meet_77 (by decide) ?_
    exact r_iret C hr hlk dX10_meet_79 h
  · refine r_aln C dX10_meet_37 (k := 0) rfl ?_
    refine r_iln C dX10_meet_38 (k := 1) rfl ?_
    refine r_aln C dX10_meet_39 (k := 0) rfl ?_
    refine r_gs C km_0 clX10 (f := 35) (by decide) rfl (t := 67) rfl tf_RX10_72 dX10_meet_40 ?_
    refine r_ic C dX10_meet_43 ?_
    refine r_iald C km_67 dX10_meet_44 h (fun v1 h => ?_)
    refine r_iln C dX10_meet_45 (k := 3) rfl ?_
    refine r_iadd C dX10_meet_46 ?_
    obtain ⟨r2, hy, h⟩ := q_calp_some h
    refine r_cvi C (st := []) (c_X10_isComing C.2.2.1 x1 (v1 + x3) M r2 hy) tm_RX10_388 mw_X10_isComing ⟨rfl, rfl⟩ ⟨Nat.le_of_ble_eq_true rfl, Nat.le_of_ble_eq_true rfl⟩ km_0 clX10 rfl rfl (Nat.le_of_ble_eq_true rfl) dX10_meet_47 ?_
    refine r_zeq C (tgt := 71) dX10_meet_50 (by decide) h (fun h => ?_) (fun h => ?_)
    · refine r_inc C (L1 := [(3, .int (qI (x3 + 1))), (0, .ref (ad 0)), (1, .int (qI x1)), (2, .int (qI x2))]) dX10_meet_71 (k := 3) rfl (by decide) rfl ?_
      refine r_goto C (tgt := 30) dX10_meet_74 (by decide) ?_
      refine r_drop [1, 2, 3, 0] rfl ?_
      exact ih30 (x3 + 1)  h
    · refine r_aln C dX10_meet_53 (k := 0) rfl ?_
      refine r_iln C dX10_meet_54 (k := 2) rfl ?_
      refine r_aln C dX10_meet_55 (k := 0) rfl ?_
      refine r_gs C km_0 clX10 (f := 35) (by decide) rfl (t := 67) rfl tf_RX10_72 dX10_meet_56 ?_
      refine r_ic C dX10_meet_59 ?_
      refine r_iald C km_67 dX10_meet_60 h (fun v3 h => ?_)
      refine r_iln C dX10_meet_61 (k := 3) rfl ?_
      refine r_iadd C dX10_meet_62 ?_
      obtain ⟨r4, hy, h⟩ := q_calp_some h
      refine r_cvi C (st := []) (c_X10_isComing C.2.2.1 x2 (v3 + x3) M r4 hy) tm_RX10_388 mw_X10_isComing ⟨rfl, rfl⟩ ⟨Nat.le_of_ble_eq_true rfl, Nat.le_of_ble_eq_true rfl⟩ km_0 clX10 rfl rfl (Nat.le_of_ble_eq_true rfl) dX10_meet_63 ?_
      refine r_zeq C (tgt := 71) dX10_meet_66 (by decide) h (fun h => ?_) (fun h => ?_)
      · refine r_inc C (L1 := [(3, .int (qI (x3 + 1))), (0, .ref (ad 0)), (1, .int (qI x1)), (2, .int (qI x2))]) dX10_meet_71 (k := 3) rfl (by decide) rfl ?_
        refine r_goto C (tgt := 30) dX10_meet_74 (by decide) ?_
        refine r_drop [1, 2, 3, 0] rfl ?_
        exact ih30 (x3 + 1)  h
      · refine r_iln C dX10_meet_69 (k := 3) rfl ?_
        exact r_iret C hr hlk dX10_meet_70 h
theorem w_X10_meet_L30 (C : Cx syM p m c cX10_meet 4 s args RX10 D ad cA) (hr : meth.sig.returnType = (some .int)) (hlk : meth.locks = false)  (x1 : Int) (x2 : Int) (M : Mem)  (n : Nat) (x3 : Int) (h : f_X10_meet_L30 x1 x2 M n x3 = some (r0, M0)) : WM syM p l e rm_X10_meet s m args below meth c 4 D ad cA (MQ below (q_Post syM D ad cA (some (.int (qI r0))) M0) args s 0 0 (q_A syM ad)) M 30 [(0, .ref (ad 0)), (1, .int (qI x1)), (2, .int (qI x2)), (3, .int (qI x3))] [] :=
  qlp1_r (Wp := fun ux3 => WM syM p l e rm_X10_meet s m args below meth c 4 D ad cA (MQ below (q_Post syM D ad cA (some (.int (qI r0))) M0) args s 0 0 (q_A syM ad)) M 30 [(0, .ref (ad 0)), (1, .int (qI x1)), (2, .int (qI x2)), (3, .int (qI ux3))] []) (fun ux3 g30 ih30 h => w_X10_meet_B30 C hr hlk x1 x2 ux3 M g30  ih30 h) n x3 h
def f_X10_meet (a0 : Int) (a1 : Int) (M : Mem) : Res :=
  q_pf M 0 0 0 fun M1 =>
  q_calp (f_X10_isBus a0 M1) fun r2 =>
  if w32 r2 = 0 then (some ((-1), M1))
  else (q_calp (f_X10_isBus a1 M1) fun r3 =>
  if w32 r3 = 0 then (some ((-1), M1))
  else (if ¬ w32 a0 = w32 a1 then (f_X10_meet_L30 a0 a1 M1 q_N 0)
  else (some ((-1), M1))))
theorem c_X10_meet {l : Launch} {D : va_G} {ad : Nat → Nat} {cA : Nat → ClassId} (hi : q_inj syM ad) (a0 : Int) (a1 : Int) (M : Mem) (r0 : Int) (M0 : Mem) (h : f_X10_meet a0 a1 M = some (r0, M0)) : q_Met l syM D ad cA yX10_meet cX10_meet 4 (some .int) rm_X10_meet [.ref (ad 0), .int (qI a0), .int (qI a1)] M (some (.int (qI r0))) M0 := by
  refine q_met (L0 := [(0, .ref (ad 0)), (1, .int (qI a0)), (2, .int (qI a1))]) hi okM (by decide) (Nat.le_of_ble_eq_true rfl) rfl ?_
  intro p e s m args below meth c C hr hlk
  unfold f_X10_meet at h
  refine r_aln C dX10_meet_0 (k := 0) rfl ?_
  refine r_ic C dX10_meet_1 ?_
  refine r_pf C km_0 clX10 (f := 0) (by decide) rfl q_dI rfl rfl tf_RX10_142 dX10_meet_2 h (fun M1 h => ?_)
  refine r_aln C dX10_meet_5 (k := 0) rfl ?_
  refine r_iln C dX10_meet_6 (k := 1) rfl ?_
  obtain ⟨r2, hy, h⟩ := q_calp_some h
  refine r_cvi C (st := []) (c_X10_isBus C.2.2.1 a0 M1 r2 hy) tm_RX10_420 mw_X10_isBus ⟨rfl, rfl⟩ ⟨Nat.le_of_ble_eq_true rfl, Nat.le_of_ble_eq_true rfl⟩ km_0 clX10 rfl rfl (Nat.le_of_ble_eq_true rfl) dX10_meet_7 ?_
  refine r_zeq C (tgt := 26) dX10_meet_10 (by decide) h (fun h => ?_) (fun h => ?_)
  · refine r_ic C dX10_meet_26 ?_
    exact r_iret C hr hlk dX10_meet_27 h
  · refine r_aln C dX10_meet_13 (k := 0) rfl ?_
    refine r_iln C dX10_meet_14 (k := 2) rfl ?_
    obtain ⟨r3, hy, h⟩ := q_calp_some h
    refine r_cvi C (st := []) (c_X10_isBus C.2.2.1 a1 M1 r3 hy) tm_RX10_420 mw_X10_isBus ⟨rfl, rfl⟩ ⟨Nat.le_of_ble_eq_true rfl, Nat.le_of_ble_eq_true rfl⟩ km_0 clX10 rfl rfl (Nat.le_of_ble_eq_true rfl) dX10_meet_15 ?_
    refine r_zeq C (tgt := 26) dX10_meet_18 (by decide) h (fun h => ?_) (fun h => ?_)
    · refine r_ic C dX10_meet_26 ?_
      exact r_iret C hr hlk dX10_meet_27 h
    · refine r_iln C dX10_meet_21 (k := 1) rfl ?_
      refine r_iln C dX10_meet_22 (k := 2) rfl ?_
      refine r_cne C (tgt := 28) dX10_meet_23 (by decide) h (fun h => ?_) (fun h => ?_)
      · refine r_ic C dX10_meet_28 ?_
        refine r_isn C (L1 := [(3, .int (qI 0)), (0, .ref (ad 0)), (1, .int (qI a0)), (2, .int (qI a1))]) dX10_meet_29 (by decide) rfl ?_
        refine r_drop [1, 2, 3, 0] rfl ?_
        exact w_X10_meet_L30 C hr hlk a0 a1 M1  q_N 0 h
      · refine r_ic C dX10_meet_26 ?_
        exact r_iret C hr hlk dX10_meet_27 h
abbrev rm_X10_move : Room := { frames := 2, cells := 0, slots := 0, locals := 46 }
theorem mw_X10_move : q_mw RX10 yX10_move cX10_move 6 (some .boolean) 2 := ⟨⟨ti_X10_move, tl_X10_move, tn_RX10, td_X10_move⟩, by decide +kernel⟩
def f_X10_move_B72 (x1 : Int) (x2 : Int) (x4 : Int) (x5 : Int) (M : Mem) (g72 : Int → Mem → Res) : Res :=
  if w32 x5 = w32 x2 then (q_as M 70 184 x2 x1 fun M1 =>
  some (1, M1))
  else (q_al M 70 184 (x5 + x4) fun v2 =>
  q_as M 70 184 x5 v2 fun M3 =>
  g72 (x5 + x4) M3)
def f_X10_move_L72 (x1 : Int) (x2 : Int) (x4 : Int) (n : Nat) (x5 : Int) (M : Mem) : Res := qlm1 (fun x5 M g72 => f_X10_move_B72 x1 x2 x4 x5 M g72) n x5 M
theorem w_X10_move_B72 (C : Cx syM p m c cX10_move 6 s args RX10 D ad cA) (hr : meth.sig.returnType = (some .boolean)) (hlk : meth.locks = false)  (x1 : Int) (x2 : Int) (x4 : Int) (x5 : Int) (M : Mem) (g72 : Int → Mem → Res)  (ih72 : ∀ (ux5 : Int) (M : Mem), g72 ux5 M = some (r0, M0) → WM syM p l e rm_X10_move s m args below meth c 6 D ad cA (MQ below (q_Post syM D ad cA (some (.int (qI r0))) M0) args s 0 0 (q_A syM ad)) M 72 [(0, .ref (ad 0)), (1, .int (qI x1)), (2, .int (qI x2)), (4, .int (qI x4)), (5, .int (qI ux5))] []) (h : f_X10_move_B72 x1 x2 x4 x5 M g72 = some (r0, M0)) : WM syM p l e rm_X10_move s m args below meth c 6 D ad cA (MQ below (q_Post syM D ad cA (some (.int (qI r0))) M0) args s 0 0 (q_A syM ad)) M 72 [(0, .ref (ad 0)), (1, .int (qI x1)), (2, .int (qI x2)), (4, .int (qI x4)), (5, .int (qI x5))] [] := by
  unfold f_X10_move_B72 at h
  refine r_il C dX10_move_72 (k := 4) rfl ?_
  refine r_iln C dX10_move_74 (k := 2) rfl ?_
  refine r_ceq C (tgt := 105) dX10_move_75 (by decide) h (fun h => ?_) (fun h => ?_)
  · refine r_aln C dX10_move_105 (k := 0) rfl ?_
    refine r_gs C km_0 clX10 (f := 38) (by decide) rfl (t := 70) rfl tf_RX10_81 dX10_move_106 ?_
    refine r_iln C dX10_move_109 (k := 2) rfl ?_
    refine r_iln C dX10_move_110 (k := 1) rfl ?_
    refine r_iast C km_70 dX10_move_111 h (fun M1 h => ?_)
    refine r_ic C dX10_move_112 ?_
    exact r_zret C (by decide) hr hlk dX10_move_113 h
  · refine r_aln C dX10_move_78 (k := 0) rfl ?_
    refine r_gs C km_0 clX10 (f := 38) (by decide) rfl (t := 70) rfl tf_RX10_81 dX10_move_79 ?_
    refine r_il C dX10_move_82 (k := 4) rfl ?_
    refine r_aln C dX10_move_84 (k := 0) rfl ?_
    refine r_gs C km_0 clX10 (f := 38) (by decide) rfl (t := 70) rfl tf_RX10_81 dX10_move_85 ?_
    refine r_il C dX10_move_88 (k := 4) rfl ?_
    refine r_il C dX10_move_90 (k := 3) rfl ?_
    refine r_iadd C dX10_move_92 ?_
    refine r_iald C km_70 dX10_move_93 h (fun v2 h => ?_)
    refine r_iast C km_70 dX10_move_94 h (fun M3 h => ?_)
    refine r_il C dX10_move_95 (k := 4) rfl ?_
    refine r_il C dX10_move_97 (k := 3) rfl ?_
    refine r_iadd C dX10_move_99 ?_
    refine r_is C (L1 := [(5, .int (qI (x5 + x4))), (0, .ref (ad 0)), (1, .int (qI x1)), (2, .int (qI x2)), (4, .int (qI x4))]) dX10_move_100 (by decide) rfl ?_
    refine r_goto C (tgt := 72) dX10_move_102 (by decide) ?_
    refine r_drop [1, 2, 3, 4, 0] rfl ?_
    exact ih72 (x5 + x4) M3 h
theorem w_X10_move_L72 (C : Cx syM p m c cX10_move 6 s args RX10 D ad cA) (hr : meth.sig.returnType = (some .boolean)) (hlk : meth.locks = false)  (x1 : Int) (x2 : Int) (x4 : Int)  (n : Nat) (x5 : Int) (M : Mem) (h : f_X10_move_L72 x1 x2 x4 n x5 M = some (r0, M0)) : WM syM p l e rm_X10_move s m args below meth c 6 D ad cA (MQ below (q_Post syM D ad cA (some (.int (qI r0))) M0) args s 0 0 (q_A syM ad)) M 72 [(0, .ref (ad 0)), (1, .int (qI x1)), (2, .int (qI x2)), (4, .int (qI x4)), (5, .int (qI x5))] [] :=
  qlm1_r (Wp := fun ux5 M => WM syM p l e rm_X10_move s m args below meth c 6 D ad cA (MQ below (q_Post syM D ad cA (some (.int (qI r0))) M0) args s 0 0 (q_A syM ad)) M 72 [(0, .ref (ad 0)), (1, .int (qI x1)), (2, .int (qI x2)), (4, .int (qI x4)), (5, .int (qI ux5))] []) (fun ux5 M g72 ih72 h => w_X10_move_B72 C hr hlk x1 x2 x4 ux5 M g72  ih72 h) n x5 M h
def f_X10_move_J67 (x1 : Int) (x2 : Int) (x3 : Int) (y0 : Int) (M : Mem) : Res :=
  f_X10_move_L72 x1 x2 y0 q_N x3 M
theorem w_X10_move_J67 (C : Cx syM p m c cX10_move 6 s args RX10 D ad cA) (hr : meth.sig.returnType = (some .boolean)) (hlk : meth.locks = false) (x1 : Int) (x2 : Int) (x3 : Int) (y0 : Int) (M : Mem)  (h : f_X10_move_J67 x1 x2 x3 y0 M = some (r0, M0)) : WM syM p l e rm_X10_move s m args below meth c 6 D ad cA (MQ below (q_Post syM D ad cA (some (.int (qI r0))) M0) args s 0 0 (q_A syM ad)) M 67 [(0, .ref (ad 0)), (1, .int (qI x1)), (2, .int (qI x2)), (3, .int (qI x3))] [.int (qI y0)] := by
  unfold f_X10_move_J67 at h
  refine r_is C (L1 := [(4, .int (qI y0)), (0, .ref (ad 0)), (1, .int (qI x1)), (2, .int (qI x2)), (3, .int (qI x3))]) dX10_move_67 (by decide) rfl ?_
  refine r_iln C dX10_move_69 (k := 4) rfl ?_
  refine r_is C (L1 := [(5, .int (qI x3)), (4, .int (qI y0)), (0, .ref (ad 0)), (1, .int (qI x1)), (2, .int (qI x2)), (3, .int (qI x3))]) dX10_move_70 (by decide) rfl ?_
  refine r_drop [2, 3, 4, 1, 0] rfl ?_
  exact w_X10_move_L72 C hr hlk x1 x2 y0  q_N x3 M h
def f_X10_move (a0 : Int) (a1 : Int) (M : Mem) : Res :=
  q_pf M 0 0 0 fun M1 =>
  q_calp (f_X10_isSoul a0 M1) fun r2 =>
  if w32 r2 = 0 then (some (0, M1))
  else (q_al M1 71 184 a0 fun v3 =>
  if ¬ w32 v3 = w32 1 then (some (0, M1))
  else (if w32 a1 < 0 then (some (0, M1))
  else (q_al M1 69 23 0 fun v4 =>
  if w32 a1 < w32 v4 then (q_calp (f_X10_placeOf 0 a0 M1) fun r5 =>
  if ¬ w32 r5 = w32 a1 then (q_call (f_X10_keepNow  M1) fun r6 M7 =>
  if w32 a1 ≤ w32 r5 then (f_X10_move_J67 a0 a1 r5 (-1) M7)
  else (f_X10_move_J67 a0 a1 r5 1 M7))
  else (some (0, M1)))
  else (some (0, M1)))))
theorem c_X10_move {l : Launch} {D : va_G} {ad : Nat → Nat} {cA : Nat → ClassId} (hi : q_inj syM ad) (a0 : Int) (a1 : Int) (M : Mem) (r0 : Int) (M0 : Mem) (h : f_X10_move a0 a1 M = some (r0, M0)) : q_Met l syM D ad cA yX10_move cX10_move 6 (some .boolean) rm_X10_move [.ref (ad 0), .int (qI a0), .int (qI a1)] M (some (.int (qI r0))) M0 := by
  refine q_met (L0 := [(0, .ref (ad 0)), (1, .int (qI a0)), (2, .int (qI a1))]) hi okM (by decide) (Nat.le_of_ble_eq_true rfl) rfl ?_
  intro p e s m args below meth c C hr hlk
  unfold f_X10_move at h
  refine r_aln C dX10_move_0 (k := 0) rfl ?_
  refine r_ic C dX10_move_1 ?_
  refine r_pf C km_0 clX10 (f := 0) (by decide) rfl q_dI rfl rfl tf_RX10_142 dX10_move_2 h (fun M1 h => ?_)
  refine r_aln C dX10_move_5 (k := 0) rfl ?_
  refine r_iln C dX10_move_6 (k := 1) rfl ?_
  obtain ⟨r2, hy, h⟩ := q_calp_some h
  refine r_cvi C (st := []) (c_X10_isSoul C.2.2.1 a0 M1 r2 hy) tm_RX10_411 mw_X10_isSoul ⟨rfl, rfl⟩ ⟨Nat.le_of_ble_eq_true rfl, Nat.le_of_ble_eq_true rfl⟩ km_0 clX10 rfl rfl (Nat.le_of_ble_eq_true rfl) dX10_move_7 ?_
  refine r_zeq C (tgt := 37) dX10_move_10 (by decide) h (fun h => ?_) (fun h => ?_)
  · refine r_ic C dX10_move_37 ?_
    exact r_zret C (by decide) hr hlk dX10_move_38 h
  · refine r_aln C dX10_move_13 (k := 0) rfl ?_
    refine r_gs C km_0 clX10 (f := 39) (by decide) rfl (t := 71) rfl tf_RX10_84 dX10_move_14 ?_
    refine r_iln C dX10_move_17 (k := 1) rfl ?_
    refine r_iald C km_71 dX10_move_18 h (fun v3 h => ?_)
    refine r_ic C dX10_move_19 ?_
    refine r_cne C (tgt := 37) dX10_move_20 (by decide) h (fun h => ?_) (fun h => ?_)
    · refine r_ic C dX10_move_37 ?_
      exact r_zret C (by decide) hr hlk dX10_move_38 h
    · refine r_iln C dX10_move_23 (k := 2) rfl ?_
      refine r_zlt C (tgt := 37) dX10_move_24 (by decide) h (fun h => ?_) (fun h => ?_)
      · refine r_ic C dX10_move_37 ?_
        exact r_zret C (by decide) hr hlk dX10_move_38 h
      · refine r_iln C dX10_move_27 (k := 2) rfl ?_
        refine r_aln C dX10_move_28 (k := 0) rfl ?_
        refine r_gs C km_0 clX10 (f := 37) (by decide) rfl (t := 69) rfl tf_RX10_78 dX10_move_29 ?_
        refine r_ic C dX10_move_32 ?_
        refine r_iald C km_69 dX10_move_33 h (fun v4 h => ?_)
        refine r_clt C (tgt := 39) dX10_move_34 (by decide) h (fun h => ?_) (fun h => ?_)
        · refine r_aln C dX10_move_39 (k := 0) rfl ?_
          refine r_ic C dX10_move_40 ?_
          refine r_iln C dX10_move_41 (k := 1) rfl ?_
          obtain ⟨r5, hy, h⟩ := q_calp_some h
          refine r_cvi C (st := []) (c_X10_placeOf C.2.2.1 0 a0 M1 r5 hy) tm_RX10_328 mw_X10_placeOf ⟨rfl, rfl⟩ ⟨Nat.le_of_ble_eq_true rfl, Nat.le_of_ble_eq_true rfl⟩ km_0 clX10 rfl rfl (Nat.le_of_ble_eq_true rfl) dX10_move_42 ?_
          refine r_isn C (L1 := [(3, .int (qI r5)), (0, .ref (ad 0)), (1, .int (qI a0)), (2, .int (qI a1))]) dX10_move_45 (by decide) rfl ?_
          refine r_iln C dX10_move_46 (k := 0) rfl ?_
          refine r_iln C dX10_move_47 (k := 3) rfl ?_
          refine r_cne C (tgt := 53) dX10_move_48 (by decide) h (fun h => ?_) (fun h => ?_)
          · refine r_aln C dX10_move_53 (k := 1) rfl ?_
            obtain ⟨r6, M7, hy, h⟩ := q_call_some h
            refine r_cvv C (st := []) (c_X10_keepNow C.2.2.1 M1 r6 M7 hy) tm_RX10_430 mw_X10_keepNow ⟨rfl, rfl⟩ ⟨Nat.le_of_ble_eq_true rfl, Nat.le_of_ble_eq_true rfl⟩ km_0 clX10 rfl rfl (Nat.le_of_ble_eq_true rfl) dX10_move_54 ?_
            refine r_iln C dX10_move_57 (k := 3) rfl ?_
            refine r_iln C dX10_move_58 (k := 0) rfl ?_
            refine r_cle C (tgt := 66) dX10_move_59 (by decide) h (fun h => ?_) (fun h => ?_)
            · refine r_ic C dX10_move_66 ?_
              refine r_drop [1, 2, 3, 0] rfl ?_
              exact w_X10_move_J67 C hr hlk a0 a1 r5 (-1) M7  h
            · refine r_ic C dX10_move_62 ?_
              refine r_goto C (tgt := 67) dX10_move_63 (by decide) ?_
              refine r_drop [1, 2, 3, 0] rfl ?_
              exact w_X10_move_J67 C hr hlk a0 a1 r5 1 M7  h
          · refine r_ic C dX10_move_51 ?_
            exact r_zret C (by decide) hr hlk dX10_move_52 h
        · refine r_ic C dX10_move_37 ?_
          exact r_zret C (by decide) hr hlk dX10_move_38 h
abbrev rm_X10_named : Room := { frames := 1, cells := 0, slots := 0, locals := 24 }
theorem mw_X10_named : q_mw RX10 yX10_named cX10_named 3 (some .int) 2 := ⟨⟨ti_X10_named, tl_X10_named, tn_RX10, td_X10_named⟩, by decide +kernel⟩
def f_X10_named (a0 : Int) (a1 : Int) (M : Mem) : Res :=
  q_pf M 0 0 0 fun M1 =>
  if w32 a0 = 0 then (q_al M1 35 14 0 fun v2 =>
  q_calp (f_X10_found 36 16 0 v2 a1 M1) fun r3 =>
  some (r3, M1))
  else if w32 a0 = 1 then (q_al M1 35 14 1 fun v4 =>
  q_calp (f_X10_found 40 8 0 v4 a1 M1) fun r5 =>
  some (r5, M1))
  else (some ((-1), M1))
theorem c_X10_named {l : Launch} {D : va_G} {ad : Nat → Nat} {cA : Nat → ClassId} (hi : q_inj syM ad) (a0 : Int) (a1 : Int) (M : Mem) (r0 : Int) (M0 : Mem) (h : f_X10_named a0 a1 M = some (r0, M0)) : q_Met l syM D ad cA yX10_named cX10_named 3 (some .int) rm_X10_named [.ref (ad 0), .int (qI a0), .int (qI a1)] M (some (.int (qI r0))) M0 := by
  refine q_met (L0 := [(0, .ref (ad 0)), (1, .int (qI a0)), (2, .int (qI a1))]) hi okM (by decide) (Nat.le_of_ble_eq_true rfl) rfl ?_
  intro p e s m args below meth c C hr hlk
  unfold f_X10_named at h
  refine r_aln C dX10_named_0 (k := 0) rfl ?_
  refine r_ic C dX10_named_1 ?_
  refine r_pf C km_0 clX10 (f := 0) (by decide) rfl q_dI rfl rfl tf_RX10_142 dX10_named_2 h (fun M1 h => ?_)
  refine r_iln C dX10_named_5 (k := 1) rfl ?_
  refine r_tc C h (fun e h => ?_) (fun ne0 h => ?_)
  · refine r_lk C (tgt := 32) dX10_named_6 (by decide) e rfl (by decide) ?_
    refine r_aln C dX10_named_32 (k := 0) rfl ?_
    refine r_gs C km_0 clX10 (f := 4) (by decide) rfl (t := 36) rfl tf_RX10_16 dX10_named_33 ?_
    refine r_ic C dX10_named_36 ?_
    refine r_aln C dX10_named_37 (k := 0) rfl ?_
    refine r_gs C km_0 clX10 (f := 3) (by decide) rfl (t := 35) rfl tf_RX10_13 dX10_named_38 ?_
    refine r_ic C dX10_named_41 ?_
    refine r_iald C km_35 dX10_named_42 h (fun v2 h => ?_)
    refine r_iln C dX10_named_43 (k := 2) rfl ?_
    obtain ⟨r3, hy, h⟩ := q_calp_some h
    refine r_csi C (st := []) (c_X10_found C.2.2.1 36 16 km_36 0 v2 a1 M1 r3 hy) tm_RX10_208 mw_X10_found ⟨rfl, rfl⟩ ⟨Nat.le_of_ble_eq_true rfl, Nat.le_of_ble_eq_true rfl⟩ rfl rfl (Nat.le_of_ble_eq_true rfl) dX10_named_44 ?_
    exact r_iret C hr hlk dX10_named_47 h
  refine r_tc C h (fun e h => ?_) (fun ne1 h => ?_)
  · refine r_lk C (tgt := 48) dX10_named_6 (by decide) e rfl (by decide) ?_
    refine r_aln C dX10_named_48 (k := 0) rfl ?_
    refine r_gs C km_0 clX10 (f := 8) (by decide) rfl (t := 40) rfl tf_RX10_28 dX10_named_49 ?_
    refine r_ic C dX10_named_52 ?_
    refine r_aln C dX10_named_53 (k := 0) rfl ?_
    refine r_gs C km_0 clX10 (f := 3) (by decide) rfl (t := 35) rfl tf_RX10_13 dX10_named_54 ?_
    refine r_ic C dX10_named_57 ?_
    refine r_iald C km_35 dX10_named_58 h (fun v4 h => ?_)
    refine r_iln C dX10_named_59 (k := 2) rfl ?_
    obtain ⟨r5, hy, h⟩ := q_calp_some h
    refine r_csi C (st := []) (c_X10_found C.2.2.1 40 8 km_40 0 v4 a1 M1 r5 hy) tm_RX10_208 mw_X10_found ⟨rfl, rfl⟩ ⟨Nat.le_of_ble_eq_true rfl, Nat.le_of_ble_eq_true rfl⟩ rfl rfl (Nat.le_of_ble_eq_true rfl) dX10_named_60 ?_
    exact r_iret C hr hlk dX10_named_63 h
  refine r_lk C (tgt := 64) (k := w32 a0) dX10_named_6 (by decide) rfl (off := 58) (by simp only [Op.lookupswitch.offset]; rw [if_neg (fun q => ne0 q.symm)]; rw [if_neg (fun q => ne1 q.symm)]) (by decide) ?_
  refine r_ic C dX10_named_64 ?_
  exact r_iret C hr hlk dX10_named_65 h
abbrev rm_X10_next : Room := { frames := 2, cells := 0, slots := 0, locals := 43 }
theorem mw_X10_next : q_mw RX10 yX10_next cX10_next 3 (some .int) 1 := ⟨⟨ti_X10_next, tl_X10_next, tn_RX10, td_X10_next⟩, by decide +kernel⟩
def f_X10_next_B17 (x1 : Int) (M : Mem) (x2 : Int) (g17 : Int → Res) : Res :=
  q_al M 67 23 0 fun v1 =>
  q_calp (f_X10_isComing x1 (v1 + x2) M) fun r2 =>
  if ¬ w32 r2 = 0 then (some (x2, M))
  else (g17 (x2 + 1))
def f_X10_next_L17 (x1 : Int) (M : Mem) (n : Nat) (x2 : Int) : Res := qlp1 (fun x2 g17 => f_X10_next_B17 x1 M x2 g17) n x2
theorem w_X10_next_B17 (C : Cx syM p m c cX10_next 3 s args RX10 D ad cA) (hr : meth.sig.returnType = (some .int)) (hlk : meth.locks = false)  (x1 : Int) (x2 : Int) (M : Mem) (g17 : Int → Res)  (ih17 : ∀ (ux2 : Int) , g17 ux2  = some (r0, M0) → WM syM p l e rm_X10_next s m args below meth c 3 D ad cA (MQ below (q_Post syM D ad cA (some (.int (qI r0))) M0) args s 0 0 (q_A syM ad)) M 17 [(0, .ref (ad 0)), (1, .int (qI x1)), (2, .int (qI ux2))] []) (h : f_X10_next_B17 x1 M x2 g17 = some (r0, M0)) : WM syM p l e rm_X10_next s m args below meth c 3 D ad cA (MQ below (q_Post syM D ad cA (some (.int (qI r0))) M0) args s 0 0 (q_A syM ad)) M 17 [(0, .ref (ad 0)), (1, .int (qI x1)), (2, .int (qI x2))] [] := by
  unfold f_X10_next_B17 at h
  refine r_aln C dX10_next_17 (k := 0) rfl ?_
  refine r_iln C dX10_next_18 (k := 1) rfl ?_
  refine r_aln C dX10_next_19 (k := 0) rfl ?_
  refine r_gs C km_0 clX10 (f := 35) (by decide) rfl (t := 67) rfl tf_RX10_72 dX10_next_20 ?_
  refine r_ic C dX10_next_23 ?_
  refine r_iald C km_67 dX10_next_24 h (fun v1 h => ?_)
  refine r_iln C dX10_next_25 (k := 2) rfl ?_
  refine r_iadd C dX10_next_26 ?_
  obtain ⟨r2, hy, h⟩ := q_calp_some h
  refine r_cvi C (st := []) (c_X10_isComing C.2.2.1 x1 (v1 + x2) M r2 hy) tm_RX10_388 mw_X10_isComing ⟨rfl, rfl⟩ ⟨Nat.le_of_ble_eq_true rfl, Nat.le_of_ble_eq_true rfl⟩ km_0 clX10 rfl rfl (Nat.le_of_ble_eq_true rfl) dX10_next_27 ?_
  refine r_zne C (tgt := 39) dX10_next_30 (by decide) h (fun h => ?_) (fun h => ?_)
  · refine r_iln C dX10_next_39 (k := 2) rfl ?_
    exact r_iret C hr hlk dX10_next_40 h
  · refine r_inc C (L1 := [(2, .int (qI (x2 + 1))), (0, .ref (ad 0)), (1, .int (qI x1))]) dX10_next_33 (k := 2) rfl (by decide) rfl ?_
    refine r_goto C (tgt := 17) dX10_next_36 (by decide) ?_
    refine r_drop [1, 2, 0] rfl ?_
    exact ih17 (x2 + 1)  h
theorem w_X10_next_L17 (C : Cx syM p m c cX10_next 3 s args RX10 D ad cA) (hr : meth.sig.returnType = (some .int)) (hlk : meth.locks = false)  (x1 : Int) (M : Mem)  (n : Nat) (x2 : Int) (h : f_X10_next_L17 x1 M n x2 = some (r0, M0)) : WM syM p l e rm_X10_next s m args below meth c 3 D ad cA (MQ below (q_Post syM D ad cA (some (.int (qI r0))) M0) args s 0 0 (q_A syM ad)) M 17 [(0, .ref (ad 0)), (1, .int (qI x1)), (2, .int (qI x2))] [] :=
  qlp1_r (Wp := fun ux2 => WM syM p l e rm_X10_next s m args below meth c 3 D ad cA (MQ below (q_Post syM D ad cA (some (.int (qI r0))) M0) args s 0 0 (q_A syM ad)) M 17 [(0, .ref (ad 0)), (1, .int (qI x1)), (2, .int (qI ux2))] []) (fun ux2 g17 ih17 h => w_X10_next_B17 C hr hlk x1 ux2 M g17  ih17 h) n x2 h
def f_X10_next (a0 : Int) (M : Mem) : Res :=
  q_pf M 0 0 0 fun M1 =>
  q_calp (f_X10_isBus a0 M1) fun r2 =>
  if ¬ w32 r2 = 0 then (f_X10_next_L17 a0 M1 q_N 0)
  else (some ((-1), M1))
theorem c_X10_next {l : Launch} {D : va_G} {ad : Nat → Nat} {cA : Nat → ClassId} (hi : q_inj syM ad) (a0 : Int) (M : Mem) (r0 : Int) (M0 : Mem) (h : f_X10_next a0 M = some (r0, M0)) : q_Met l syM D ad cA yX10_next cX10_next 3 (some .int) rm_X10_next [.ref (ad 0), .int (qI a0)] M (some (.int (qI r0))) M0 := by
  refine q_met (L0 := [(0, .ref (ad 0)), (1, .int (qI a0))]) hi okM (by decide) (Nat.le_of_ble_eq_true rfl) rfl ?_
  intro p e s m args below meth c C hr hlk
  unfold f_X10_next at h
  refine r_aln C dX10_next_0 (k := 0) rfl ?_
  refine r_ic C dX10_next_1 ?_
  refine r_pf C km_0 clX10 (f := 0) (by decide) rfl q_dI rfl rfl tf_RX10_142 dX10_next_2 h (fun M1 h => ?_)
  refine r_aln C dX10_next_5 (k := 0) rfl ?_
  refine r_iln C dX10_next_6 (k := 1) rfl ?_
  obtain ⟨r2, hy, h⟩ := q_calp_some h
  refine r_cvi C (st := []) (c_X10_isBus C.2.2.1 a0 M1 r2 hy) tm_RX10_420 mw_X10_isBus ⟨rfl, rfl⟩ ⟨Nat.le_of_ble_eq_true rfl, Nat.le_of_ble_eq_true rfl⟩ km_0 clX10 rfl rfl (Nat.le_of_ble_eq_true rfl) dX10_next_7 ?_
  refine r_zne C (tgt := 15) dX10_next_10 (by decide) h (fun h => ?_) (fun h => ?_)
  · refine r_ic C dX10_next_15 ?_
    refine r_isn C (L1 := [(2, .int (qI 0)), (0, .ref (ad 0)), (1, .int (qI a0))]) dX10_next_16 (by decide) rfl ?_
    refine r_drop [1, 2, 0] rfl ?_
    exact w_X10_next_L17 C hr hlk a0 M1  q_N 0 h
  · refine r_ic C dX10_next_13 ?_
    exact r_iret C hr hlk dX10_next_14 h
abbrev rm_X10_off : Room := { frames := 2, cells := 0, slots := 0, locals := 48 }
theorem mw_X10_off : q_mw RX10 yX10_off cX10_off 2 (some .int) 1 := ⟨⟨ti_X10_off, tl_X10_off, tn_RX10, td_X10_off⟩, by decide +kernel⟩
def f_X10_off (a0 : Int) (M : Mem) : Res :=
  q_pf M 0 0 0 fun M1 =>
  q_calp (f_X10_isSoul a0 M1) fun r2 =>
  if w32 r2 = 0 then (some ((-1), M1))
  else (q_al M1 71 184 a0 fun v3 =>
  if w32 v3 = w32 1 then (q_call (f_X10_keepNow  M1) fun r4 M5 =>
  q_call (f_X10_leaves 0 a0 3 M5) fun r6 M7 =>
  q_al M7 69 23 0 fun v8 =>
  some (v8, M7))
  else (some ((-1), M1)))
theorem c_X10_off {l : Launch} {D : va_G} {ad : Nat → Nat} {cA : Nat → ClassId} (hi : q_inj syM ad) (a0 : Int) (M : Mem) (r0 : Int) (M0 : Mem) (h : f_X10_off a0 M = some (r0, M0)) : q_Met l syM D ad cA yX10_off cX10_off 2 (some .int) rm_X10_off [.ref (ad 0), .int (qI a0)] M (some (.int (qI r0))) M0 := by
  refine q_met (L0 := [(0, .ref (ad 0)), (1, .int (qI a0))]) hi okM (by decide) (Nat.le_of_ble_eq_true rfl) rfl ?_
  intro p e s m args below meth c C hr hlk
  unfold f_X10_off at h
  refine r_aln C dX10_off_0 (k := 0) rfl ?_
  refine r_ic C dX10_off_1 ?_
  refine r_pf C km_0 clX10 (f := 0) (by decide) rfl q_dI rfl rfl tf_RX10_142 dX10_off_2 h (fun M1 h => ?_)
  refine r_aln C dX10_off_5 (k := 0) rfl ?_
  refine r_iln C dX10_off_6 (k := 1) rfl ?_
  obtain ⟨r2, hy, h⟩ := q_calp_some h
  refine r_cvi C (st := []) (c_X10_isSoul C.2.2.1 a0 M1 r2 hy) tm_RX10_411 mw_X10_isSoul ⟨rfl, rfl⟩ ⟨Nat.le_of_ble_eq_true rfl, Nat.le_of_ble_eq_true rfl⟩ km_0 clX10 rfl rfl (Nat.le_of_ble_eq_true rfl) dX10_off_7 ?_
  refine r_zeq C (tgt := 23) dX10_off_10 (by decide) h (fun h => ?_) (fun h => ?_)
  · refine r_ic C dX10_off_23 ?_
    exact r_iret C hr hlk dX10_off_24 h
  · refine r_aln C dX10_off_13 (k := 0) rfl ?_
    refine r_gs C km_0 clX10 (f := 39) (by decide) rfl (t := 71) rfl tf_RX10_84 dX10_off_14 ?_
    refine r_iln C dX10_off_17 (k := 1) rfl ?_
    refine r_iald C km_71 dX10_off_18 h (fun v3 h => ?_)
    refine r_ic C dX10_off_19 ?_
    refine r_ceq C (tgt := 25) dX10_off_20 (by decide) h (fun h => ?_) (fun h => ?_)
    · refine r_aln C dX10_off_25 (k := 0) rfl ?_
      obtain ⟨r4, M5, hy, h⟩ := q_call_some h
      refine r_cvv C (st := []) (c_X10_keepNow C.2.2.1 M1 r4 M5 hy) tm_RX10_430 mw_X10_keepNow ⟨rfl, rfl⟩ ⟨Nat.le_of_ble_eq_true rfl, Nat.le_of_ble_eq_true rfl⟩ km_0 clX10 rfl rfl (Nat.le_of_ble_eq_true rfl) dX10_off_26 ?_
      refine r_aln C dX10_off_29 (k := 0) rfl ?_
      refine r_ic C dX10_off_30 ?_
      refine r_iln C dX10_off_31 (k := 1) rfl ?_
      refine r_ic C dX10_off_32 ?_
      obtain ⟨r6, M7, hy, h⟩ := q_call_some h
      refine r_cvv C (st := []) (c_X10_leaves C.2.2.1 0 a0 3 M5 r6 M7 hy) tm_RX10_373 mw_X10_leaves ⟨rfl, rfl⟩ ⟨Nat.le_of_ble_eq_true rfl, Nat.le_of_ble_eq_true rfl⟩ km_0 clX10 rfl rfl (Nat.le_of_ble_eq_true rfl) dX10_off_33 ?_
      refine r_aln C dX10_off_36 (k := 0) rfl ?_
      refine r_gs C km_0 clX10 (f := 37) (by decide) rfl (t := 69) rfl tf_RX10_78 dX10_off_37 ?_
      refine r_ic C dX10_off_40 ?_
      refine r_iald C km_69 dX10_off_41 h (fun v8 h => ?_)
      exact r_iret C hr hlk dX10_off_42 h
    · refine r_ic C dX10_off_23 ?_
      exact r_iret C hr hlk dX10_off_24 h
abbrev rm_X10_orNone : Room := { frames := 0, cells := 0, slots := 0, locals := 0 }
theorem mw_X10_orNone : q_ms yX10_orNone cX10_orNone 1 (some .int) 1 := ⟨⟨ts_X10_orNone, tn_RX10, td_X10_orNone⟩, by decide +kernel⟩
def f_X10_orNone (a0 : Int) (M : Mem) : Option Int :=
  if ¬ w32 a0 = w32 (-1) then (some a0)
  else (some (-2))
theorem c_X10_orNone {l : Launch} {D : va_G} {ad : Nat → Nat} {cA : Nat → ClassId} (hi : q_inj syM ad) (a0 : Int) (M : Mem) (r0 : Int) (h : f_X10_orNone a0 M = some r0) : q_Met l syM D ad cA yX10_orNone cX10_orNone 1 (some .int) rm_X10_orNone [.int (qI a0)] M (some (.int (qI r0))) M := by
  refine q_met (L0 := [(0, .int (qI a0))]) hi okM (by decide) (Nat.le_of_ble_eq_true rfl) rfl ?_
  intro p e s m args below meth c C hr hlk
  unfold f_X10_orNone at h
  refine r_iln C dX10_orNone_0 (k := 0) rfl ?_
  refine r_ic C dX10_orNone_1 ?_
  refine r_cne C (tgt := 10) dX10_orNone_2 (by decide) h (fun h => ?_) (fun h => ?_)
  · refine r_iln C dX10_orNone_10 (k := 0) rfl ?_
    exact r_iretp C hr hlk dX10_orNone_11 h
  · refine r_bi C dX10_orNone_5 (by decide) ?_
    refine r_goto C (tgt := 11) dX10_orNone_7 (by decide) ?_
    exact r_iretp C hr hlk dX10_orNone_11 h
def rg_R (d : Nat) : Room := { frames := 7 + d, cells := 0, slots := 0, locals := 167 + 24 * d }
theorem mw_X10_rows : q_mw RX10 yX10_rows cX10_rows 5 none 2 := ⟨⟨ti_X10_rows, tl_X10_rows, tn_RX10, td_X10_rows⟩, by decide +kernel⟩
def f_X10_rows_B118 (F_X10_rows : Int → Int → Mem → Res) (x1 : Int) (x4 : Int) (M : Mem) (g118 : Int → Mem → Res) : Res :=
  if w32 x1 ≤ w32 x4 then (some (0, M))
  else (q_al M 84 4 x4 fun v1 =>
  q_as M 85 4 x4 v1 fun M2 =>
  g118 (x4 + 1) M2)
def f_X10_rows_L118 (F_X10_rows : Int → Int → Mem → Res) (x1 : Int) (n : Nat) (x4 : Int) (M : Mem) : Res := qlm1 (fun x4 M g118 => f_X10_rows_B118 F_X10_rows x1 x4 M g118) n x4 M
theorem w_X10_rows_B118 (C : Cx syM p m c cX10_rows 5 s args RX10 D ad cA) (hr : meth.sig.returnType = none) (hlk : meth.locks = false) (F_X10_rows : Int → Int → Mem → Res) (d : Nat) (HF_X10_rows : ∀ (a0 a1 : Int) (M : Mem) (r0 : Int) (M0 : Mem), F_X10_rows a0 a1 M = some (r0, M0) → q_Met l syM D ad cA yX10_rows cX10_rows 5 none (rg_R d) [.ref (ad 0), .int (qI a0), .int (qI a1)] M none M0) (x1 : Int) (x4 : Int) (M : Mem) (g118 : Int → Mem → Res)  (ih118 : ∀ (ux4 : Int) (M : Mem), g118 ux4 M = some (r0, M0) → WM syM p l e (rg_R (d + 1)) s m args below meth c 5 D ad cA (MQ below (q_Post syM D ad cA none M0) args s 0 0 (q_A syM ad)) M 118 [(0, .ref (ad 0)), (1, .int (qI x1)), (4, .int (qI ux4))] []) (h : f_X10_rows_B118 F_X10_rows x1 x4 M g118 = some (r0, M0)) : WM syM p l e (rg_R (d + 1)) s m args below meth c 5 D ad cA (MQ below (q_Post syM D ad cA none M0) args s 0 0 (q_A syM ad)) M 118 [(0, .ref (ad 0)), (1, .int (qI x1)), (4, .int (qI x4))] [] := by
  unfold f_X10_rows_B118 at h
  refine r_il C dX10_rows_118 (k := 2) rfl ?_
  refine r_iln C dX10_rows_120 (k := 1) rfl ?_
  refine r_cge C (tgt := 144) dX10_rows_121 (by decide) h (fun h => ?_) (fun h => ?_)
  · exact r_vret C hr hlk dX10_rows_144 h
  · refine r_aln C dX10_rows_124 (k := 0) rfl ?_
    refine r_gs C km_0 clX10 (f := 53) (by decide) rfl (t := 85) rfl tf_RX10_111 dX10_rows_125 ?_
    refine r_il C dX10_rows_128 (k := 2) rfl ?_
    refine r_aln C dX10_rows_130 (k := 0) rfl ?_
    refine r_gs C km_0 clX10 (f := 52) (by decide) rfl (t := 84) rfl tf_RX10_108 dX10_rows_131 ?_
    refine r_il C dX10_rows_134 (k := 2) rfl ?_
    refine r_iald C km_84 dX10_rows_136 h (fun v1 h => ?_)
    refine r_iast C km_85 dX10_rows_137 h (fun M2 h => ?_)
    refine r_inc C (L1 := [(4, .int (qI (x4 + 1))), (0, .ref (ad 0)), (1, .int (qI x1))]) dX10_rows_138 (k := 2) rfl (by decide) rfl ?_
    refine r_goto C (tgt := 118) dX10_rows_141 (by decide) ?_
    refine r_drop [1, 2, 0] rfl ?_
    exact ih118 (x4 + 1) M2 h
theorem w_X10_rows_L118 (C : Cx syM p m c cX10_rows 5 s args RX10 D ad cA) (hr : meth.sig.returnType = none) (hlk : meth.locks = false) (F_X10_rows : Int → Int → Mem → Res) (d : Nat) (HF_X10_rows : ∀ (a0 a1 : Int) (M : Mem) (r0 : Int) (M0 : Mem), F_X10_rows a0 a1 M = some (r0, M0) → q_Met l syM D ad cA yX10_rows cX10_rows 5 none (rg_R d) [.ref (ad 0), .int (qI a0), .int (qI a1)] M none M0) (x1 : Int)  (n : Nat) (x4 : Int) (M : Mem) (h : f_X10_rows_L118 F_X10_rows x1 n x4 M = some (r0, M0)) : WM syM p l e (rg_R (d + 1)) s m args below meth c 5 D ad cA (MQ below (q_Post syM D ad cA none M0) args s 0 0 (q_A syM ad)) M 118 [(0, .ref (ad 0)), (1, .int (qI x1)), (4, .int (qI x4))] [] :=
  qlm1_r (Wp := fun ux4 M => WM syM p l e (rg_R (d + 1)) s m args below meth c 5 D ad cA (MQ below (q_Post syM D ad cA none M0) args s 0 0 (q_A syM ad)) M 118 [(0, .ref (ad 0)), (1, .int (qI x1)), (4, .int (qI ux4))] []) (fun ux4 M g118 ih118 h => w_X10_rows_B118 C hr hlk F_X10_rows d HF_X10_rows x1 ux4 M g118  ih118 h) n x4 M h
def f_X10_rows_B63 (F_X10_rows : Int → Int → Mem → Res) (x1 : Int) (x3 : Int) (M : Mem) (g63 : Int → Mem → Res) : Res :=
  if w32 x1 ≤ w32 x3 then (q_call (f_X10_goesOn 20 M) fun r1 M2 =>
  q_calp (f_X10_kindness 1 M2) fun r3 =>
  q_gf M2 0 54 fun v4 =>
  if w32 v4 < w32 r3 then (q_pf M2 0 54 r3 fun M5 =>
  f_X10_rows_L118 F_X10_rows x1 q_N 0 M5)
  else (some (0, M2)))
  else (q_al M 84 4 x3 fun v6 =>
  q_as M 70 184 (8 + x3) v6 fun M7 =>
  g63 (x3 + 1) M7)
def f_X10_rows_L63 (F_X10_rows : Int → Int → Mem → Res) (x1 : Int) (n : Nat) (x3 : Int) (M : Mem) : Res := qlm1 (fun x3 M g63 => f_X10_rows_B63 F_X10_rows x1 x3 M g63) n x3 M
theorem w_X10_rows_B63 (C : Cx syM p m c cX10_rows 5 s args RX10 D ad cA) (hr : meth.sig.returnType = none) (hlk : meth.locks = false) (F_X10_rows : Int → Int → Mem → Res) (d : Nat) (HF_X10_rows : ∀ (a0 a1 : Int) (M : Mem) (r0 : Int) (M0 : Mem), F_X10_rows a0 a1 M = some (r0, M0) → q_Met l syM D ad cA yX10_rows cX10_rows 5 none (rg_R d) [.ref (ad 0), .int (qI a0), .int (qI a1)] M none M0) (x1 : Int) (x3 : Int) (M : Mem) (g63 : Int → Mem → Res)  (ih63 : ∀ (ux3 : Int) (M : Mem), g63 ux3 M = some (r0, M0) → WM syM p l e (rg_R (d + 1)) s m args below meth c 5 D ad cA (MQ below (q_Post syM D ad cA none M0) args s 0 0 (q_A syM ad)) M 63 [(0, .ref (ad 0)), (1, .int (qI x1)), (3, .int (qI ux3))] []) (h : f_X10_rows_B63 F_X10_rows x1 x3 M g63 = some (r0, M0)) : WM syM p l e (rg_R (d + 1)) s m args below meth c 5 D ad cA (MQ below (q_Post syM D ad cA none M0) args s 0 0 (q_A syM ad)) M 63 [(0, .ref (ad 0)), (1, .int (qI x1)), (3, .int (qI x3))] [] := by
  unfold f_X10_rows_B63 at h
  refine r_iln C dX10_rows_63 (k := 2) rfl ?_
  refine r_iln C dX10_rows_64 (k := 1) rfl ?_
  refine r_cge C (tgt := 89) dX10_rows_65 (by decide) h (fun h => ?_) (fun h => ?_)
  · refine r_aln C dX10_rows_89 (k := 0) rfl ?_
    refine r_bi C dX10_rows_90 (by decide) ?_
    obtain ⟨r1, M2, hy, h⟩ := q_call_some h
    refine r_cvv C (st := []) (c_X10_goesOn C.2.2.1 20 M r1 M2 hy) tm_RX10_408 mw_X10_goesOn ⟨rfl, rfl⟩ ⟨by simp only [rm_X10_goesOn, rg_R]; omega, by simp only [rm_X10_goesOn, rg_R]; omega⟩ km_0 clX10 rfl rfl (Nat.le_of_ble_eq_true rfl) dX10_rows_92 ?_
    refine r_aln C dX10_rows_95 (k := 0) rfl ?_
    refine r_ic C dX10_rows_96 ?_
    obtain ⟨r3, hy, h⟩ := q_calp_some h
    refine r_cvi C (st := []) (c_X10_kindness C.2.2.1 1 M2 r3 hy) tm_RX10_439 mw_X10_kindness ⟨rfl, rfl⟩ ⟨by simp only [rm_X10_kindness, rg_R]; omega, by simp only [rm_X10_kindness, rg_R]; omega⟩ km_0 clX10 rfl rfl (Nat.le_of_ble_eq_true rfl) dX10_rows_97 ?_
    refine r_isn C (L1 := [(3, .int (qI r3)), (0, .ref (ad 0)), (1, .int (qI x1))]) dX10_rows_100 (by decide) rfl ?_
    refine r_iln C dX10_rows_101 (k := 0) rfl ?_
    refine r_aln C dX10_rows_102 (k := 1) rfl ?_
    refine r_gf C km_0 clX10 (f := 54) (by decide) rfl rfl rfl tf_RX10_449 dX10_rows_103 h (fun v4 h => ?_)
    refine r_cgt C (tgt := 110) dX10_rows_106 (by decide) h (fun h => ?_) (fun h => ?_)
    · refine r_aln C dX10_rows_110 (k := 1) rfl ?_
      refine r_iln C dX10_rows_111 (k := 0) rfl ?_
      refine r_pf C km_0 clX10 (f := 54) (by decide) rfl q_dI rfl rfl tf_RX10_449 dX10_rows_112 h (fun M5 h => ?_)
      refine r_ic C dX10_rows_115 ?_
      refine r_is C (L1 := [(4, .int (qI 0)), (3, .int (qI r3)), (0, .ref (ad 0)), (1, .int (qI x1))]) dX10_rows_116 (by decide) rfl ?_
      refine r_drop [2, 3, 0] rfl ?_
      exact w_X10_rows_L118 C hr hlk F_X10_rows d HF_X10_rows x1  q_N 0 M5 h
    · exact r_vret C hr hlk dX10_rows_109 h
  · refine r_aln C dX10_rows_68 (k := 0) rfl ?_
    refine r_gs C km_0 clX10 (f := 38) (by decide) rfl (t := 70) rfl tf_RX10_81 dX10_rows_69 ?_
    refine r_bi C dX10_rows_72 (by decide) ?_
    refine r_iln C dX10_rows_74 (k := 2) rfl ?_
    refine r_iadd C dX10_rows_75 ?_
    refine r_aln C dX10_rows_76 (k := 0) rfl ?_
    refine r_gs C km_0 clX10 (f := 52) (by decide) rfl (t := 84) rfl tf_RX10_108 dX10_rows_77 ?_
    refine r_iln C dX10_rows_80 (k := 2) rfl ?_
    refine r_iald C km_84 dX10_rows_81 h (fun v6 h => ?_)
    refine r_iast C km_70 dX10_rows_82 h (fun M7 h => ?_)
    refine r_inc C (L1 := [(3, .int (qI (x3 + 1))), (0, .ref (ad 0)), (1, .int (qI x1))]) dX10_rows_83 (k := 2) rfl (by decide) rfl ?_
    refine r_goto C (tgt := 63) dX10_rows_86 (by decide) ?_
    refine r_drop [1, 2, 0] rfl ?_
    exact ih63 (x3 + 1) M7 h
theorem w_X10_rows_L63 (C : Cx syM p m c cX10_rows 5 s args RX10 D ad cA) (hr : meth.sig.returnType = none) (hlk : meth.locks = false) (F_X10_rows : Int → Int → Mem → Res) (d : Nat) (HF_X10_rows : ∀ (a0 a1 : Int) (M : Mem) (r0 : Int) (M0 : Mem), F_X10_rows a0 a1 M = some (r0, M0) → q_Met l syM D ad cA yX10_rows cX10_rows 5 none (rg_R d) [.ref (ad 0), .int (qI a0), .int (qI a1)] M none M0) (x1 : Int)  (n : Nat) (x3 : Int) (M : Mem) (h : f_X10_rows_L63 F_X10_rows x1 n x3 M = some (r0, M0)) : WM syM p l e (rg_R (d + 1)) s m args below meth c 5 D ad cA (MQ below (q_Post syM D ad cA none M0) args s 0 0 (q_A syM ad)) M 63 [(0, .ref (ad 0)), (1, .int (qI x1)), (3, .int (qI x3))] [] :=
  qlm1_r (Wp := fun ux3 M => WM syM p l e (rg_R (d + 1)) s m args below meth c 5 D ad cA (MQ below (q_Post syM D ad cA none M0) args s 0 0 (q_A syM ad)) M 63 [(0, .ref (ad 0)), (1, .int (qI x1)), (3, .int (qI ux3))] []) (fun ux3 M g63 ih63 h => w_X10_rows_B63 C hr hlk F_X10_rows d HF_X10_rows x1 ux3 M g63  ih63 h) n x3 M h
def f_X10_rows_B6 (F_X10_rows : Int → Int → Mem → Res) (x1 : Int) (x2 : Int) (x3 : Int) (M : Mem) (g6 : Int → Mem → Res) : Res :=
  q_al M 35 14 0 fun v1 =>
  if w32 v1 ≤ w32 x3 then (some (0, M))
  else (if ¬ w32 (q_and (q_shr x2 x3) 1) = 0 then (q_as M 84 4 x1 x3 fun M2 =>
  q_call (F_X10_rows (x1 + 1) (q_and x2 (q_xor (q_shl 1 x3) (-1))) M2) fun r3 M4 =>
  g6 (x3 + 1) M4)
  else (g6 (x3 + 1) M))
def f_X10_rows_L6 (F_X10_rows : Int → Int → Mem → Res) (x1 : Int) (x2 : Int) (n : Nat) (x3 : Int) (M : Mem) : Res := qlm1 (fun x3 M g6 => f_X10_rows_B6 F_X10_rows x1 x2 x3 M g6) n x3 M
theorem w_X10_rows_B6 (C : Cx syM p m c cX10_rows 5 s args RX10 D ad cA) (hr : meth.sig.returnType = none) (hlk : meth.locks = false) (F_X10_rows : Int → Int → Mem → Res) (d : Nat) (HF_X10_rows : ∀ (a0 a1 : Int) (M : Mem) (r0 : Int) (M0 : Mem), F_X10_rows a0 a1 M = some (r0, M0) → q_Met l syM D ad cA yX10_rows cX10_rows 5 none (rg_R d) [.ref (ad 0), .int (qI a0), .int (qI a1)] M none M0) (x1 : Int) (x2 : Int) (x3 : Int) (M : Mem) (g6 : Int → Mem → Res)  (ih6 : ∀ (ux3 : Int) (M : Mem), g6 ux3 M = some (r0, M0) → WM syM p l e (rg_R (d + 1)) s m args below meth c 5 D ad cA (MQ below (q_Post syM D ad cA none M0) args s 0 0 (q_A syM ad)) M 6 [(0, .ref (ad 0)), (1, .int (qI x1)), (2, .int (qI x2)), (3, .int (qI ux3))] []) (h : f_X10_rows_B6 F_X10_rows x1 x2 x3 M g6 = some (r0, M0)) : WM syM p l e (rg_R (d + 1)) s m args below meth c 5 D ad cA (MQ below (q_Post syM D ad cA none M0) args s 0 0 (q_A syM ad)) M 6 [(0, .ref (ad 0)), (1, .int (qI x1)), (2, .int (qI x2)), (3, .int (qI x3))] [] := by
  unfold f_X10_rows_B6 at h
  refine r_iln C dX10_rows_6 (k := 3) rfl ?_
  refine r_aln C dX10_rows_7 (k := 0) rfl ?_
  refine r_gs C km_0 clX10 (f := 3) (by decide) rfl (t := 35) rfl tf_RX10_13 dX10_rows_8 ?_
  refine r_ic C dX10_rows_11 ?_
  refine r_iald C km_35 dX10_rows_12 h (fun v1 h => ?_)
  refine r_cge C (tgt := 54) dX10_rows_13 (by decide) h (fun h => ?_) (fun h => ?_)
  · exact r_vret C hr hlk dX10_rows_54 h
  · refine r_iln C dX10_rows_16 (k := 2) rfl ?_
    refine r_iln C dX10_rows_17 (k := 3) rfl ?_
    refine r_ishr C dX10_rows_18 ?_
    refine r_ic C dX10_rows_19 ?_
    refine r_iand C dX10_rows_20 ?_
    refine r_zne C (tgt := 27) dX10_rows_21 (by decide) h (fun h => ?_) (fun h => ?_)
    · refine r_aln C dX10_rows_27 (k := 0) rfl ?_
      refine r_gs C km_0 clX10 (f := 52) (by decide) rfl (t := 84) rfl tf_RX10_108 dX10_rows_28 ?_
      refine r_iln C dX10_rows_31 (k := 1) rfl ?_
      refine r_iln C dX10_rows_32 (k := 3) rfl ?_
      refine r_iast C km_84 dX10_rows_33 h (fun M2 h => ?_)
      refine r_aln C dX10_rows_34 (k := 0) rfl ?_
      refine r_iln C dX10_rows_35 (k := 1) rfl ?_
      refine r_ic C dX10_rows_36 ?_
      refine r_iadd C dX10_rows_37 ?_
      refine r_iln C dX10_rows_38 (k := 2) rfl ?_
      refine r_ic C dX10_rows_39 ?_
      refine r_iln C dX10_rows_40 (k := 3) rfl ?_
      refine r_ishl C dX10_rows_41 ?_
      refine r_ic C dX10_rows_42 ?_
      refine r_ixor C dX10_rows_43 ?_
      refine r_iand C dX10_rows_44 ?_
      obtain ⟨r3, M4, hy, h⟩ := q_call_some h
      refine r_cvv C (st := []) (HF_X10_rows (x1 + 1) (q_and x2 (q_xor (q_shl 1 x3) (-1))) M2 r3 M4 hy) tm_RX10_446 mw_X10_rows ⟨rfl, rfl⟩ ⟨by simp only [rg_R]; omega, by simp only [rg_R]; omega⟩ km_0 clX10 rfl rfl (Nat.le_of_ble_eq_true rfl) dX10_rows_45 ?_
      refine r_inc C (L1 := [(3, .int (qI (x3 + 1))), (0, .ref (ad 0)), (1, .int (qI x1)), (2, .int (qI x2))]) dX10_rows_48 (k := 3) rfl (by decide) rfl ?_
      refine r_goto C (tgt := 6) dX10_rows_51 (by decide) ?_
      refine r_drop [1, 2, 3, 0] rfl ?_
      exact ih6 (x3 + 1) M4 h
    · refine r_goto C (tgt := 48) dX10_rows_24 (by decide) ?_
      refine r_inc C (L1 := [(3, .int (qI (x3 + 1))), (0, .ref (ad 0)), (1, .int (qI x1)), (2, .int (qI x2))]) dX10_rows_48 (k := 3) rfl (by decide) rfl ?_
      refine r_goto C (tgt := 6) dX10_rows_51 (by decide) ?_
      refine r_drop [1, 2, 3, 0] rfl ?_
      exact ih6 (x3 + 1) M h
theorem w_X10_rows_L6 (C : Cx syM p m c cX10_rows 5 s args RX10 D ad cA) (hr : meth.sig.returnType = none) (hlk : meth.locks = false) (F_X10_rows : Int → Int → Mem → Res) (d : Nat) (HF_X10_rows : ∀ (a0 a1 : Int) (M : Mem) (r0 : Int) (M0 : Mem), F_X10_rows a0 a1 M = some (r0, M0) → q_Met l syM D ad cA yX10_rows cX10_rows 5 none (rg_R d) [.ref (ad 0), .int (qI a0), .int (qI a1)] M none M0) (x1 : Int) (x2 : Int)  (n : Nat) (x3 : Int) (M : Mem) (h : f_X10_rows_L6 F_X10_rows x1 x2 n x3 M = some (r0, M0)) : WM syM p l e (rg_R (d + 1)) s m args below meth c 5 D ad cA (MQ below (q_Post syM D ad cA none M0) args s 0 0 (q_A syM ad)) M 6 [(0, .ref (ad 0)), (1, .int (qI x1)), (2, .int (qI x2)), (3, .int (qI x3))] [] :=
  qlm1_r (Wp := fun ux3 M => WM syM p l e (rg_R (d + 1)) s m args below meth c 5 D ad cA (MQ below (q_Post syM D ad cA none M0) args s 0 0 (q_A syM ad)) M 6 [(0, .ref (ad 0)), (1, .int (qI x1)), (2, .int (qI x2)), (3, .int (qI ux3))] []) (fun ux3 M g6 ih6 h => w_X10_rows_B6 C hr hlk F_X10_rows d HF_X10_rows x1 x2 ux3 M g6  ih6 h) n x3 M h
def f_X10_rows_G (F_X10_rows : Int → Int → Mem → Res) (a0 : Int) (a1 : Int) (M : Mem) : Res :=
  if w32 a1 = 0 then (q_call (f_X10_copies 1 0 M) fun r1 M2 =>
  f_X10_rows_L63 F_X10_rows a0 q_N 0 M2)
  else (f_X10_rows_L6 F_X10_rows a0 a1 q_N 0 M)
theorem c_X10_rows_G {l : Launch} {D : va_G} {ad : Nat → Nat} {cA : Nat → ClassId} (hi : q_inj syM ad) (F_X10_rows : Int → Int → Mem → Res) (d : Nat) (HF_X10_rows : ∀ (a0 a1 : Int) (M : Mem) (r0 : Int) (M0 : Mem), F_X10_rows a0 a1 M = some (r0, M0) → q_Met l syM D ad cA yX10_rows cX10_rows 5 none (rg_R d) [.ref (ad 0), .int (qI a0), .int (qI a1)] M none M0) (a0 : Int) (a1 : Int) (M : Mem) (r0 : Int) (M0 : Mem) (h : f_X10_rows_G F_X10_rows a0 a1 M = some (r0, M0)) : q_Met l syM D ad cA yX10_rows cX10_rows 5 none (rg_R (d + 1)) [.ref (ad 0), .int (qI a0), .int (qI a1)] M none M0 := by
  refine q_met (L0 := [(0, .ref (ad 0)), (1, .int (qI a0)), (2, .int (qI a1))]) hi okM (by decide) (Nat.le_of_ble_eq_true rfl) rfl ?_
  intro p e s m args below meth c C hr hlk
  unfold f_X10_rows_G at h
  refine r_iln C dX10_rows_0 (k := 2) rfl ?_
  refine r_zeq C (tgt := 55) dX10_rows_1 (by decide) h (fun h => ?_) (fun h => ?_)
  · refine r_aln C dX10_rows_55 (k := 0) rfl ?_
    refine r_ic C dX10_rows_56 ?_
    refine r_ic C dX10_rows_57 ?_
    obtain ⟨r1, M2, hy, h⟩ := q_call_some h
    refine r_cvv C (st := []) (c_X10_copies C.2.2.1 1 0 M r1 M2 hy) tm_RX10_405 mw_X10_copies ⟨rfl, rfl⟩ ⟨by simp only [rm_X10_copies, rg_R]; omega, by simp only [rm_X10_copies, rg_R]; omega⟩ km_0 clX10 rfl rfl (Nat.le_of_ble_eq_true rfl) dX10_rows_58 ?_
    refine r_ic C dX10_rows_61 ?_
    refine r_isn C (L1 := [(3, .int (qI 0)), (0, .ref (ad 0)), (1, .int (qI a0)), (2, .int (qI a1))]) dX10_rows_62 (by decide) rfl ?_
    refine r_drop [1, 2, 0] rfl ?_
    exact w_X10_rows_L63 C hr hlk F_X10_rows d HF_X10_rows a0  q_N 0 M2 h
  · refine r_ic C dX10_rows_4 ?_
    refine r_isn C (L1 := [(3, .int (qI 0)), (0, .ref (ad 0)), (1, .int (qI a0)), (2, .int (qI a1))]) dX10_rows_5 (by decide) rfl ?_
    refine r_drop [1, 2, 3, 0] rfl ?_
    exact w_X10_rows_L6 C hr hlk F_X10_rows d HF_X10_rows a0 a1  q_N 0 M h
def f_R : Nat → Int → Int → Mem → Res
  | 0, _, _, _ => none
  | d + 1, a0, a1, M => f_X10_rows_G (f_R d) a0 a1 M
theorem c_R (hi : q_inj syM ad) : ∀ d, (∀ (a0 a1 : Int) (M : Mem) (r0 : Int) (M0 : Mem), f_R d a0 a1 M = some (r0, M0) → q_Met l syM D ad cA yX10_rows cX10_rows 5 none (rg_R d) [.ref (ad 0), .int (qI a0), .int (qI a1)] M none M0) := by
  intro d
  induction d with
  | zero => intros; rename_i h; cases h
  | succ d ih =>
    intro a0 a1 M r0 M0 h
    exact c_X10_rows_G hi (f_R d) d ih a0 a1 M r0 M0 h
abbrev rm_X10_rows : Room := { frames := 207, cells := 0, slots := 0, locals := 4967 }
def f_X10_rows (a0 a1 : Int) (M : Mem) : Res := f_R q_D a0 a1 M
theorem c_X10_rows (hi : q_inj syM ad) (a0 a1 : Int) (M : Mem) (r0 : Int) (M0 : Mem) (h : f_X10_rows a0 a1 M = some (r0, M0)) : q_Met l syM D ad cA yX10_rows cX10_rows 5 none rm_X10_rows [.ref (ad 0), .int (qI a0), .int (qI a1)] M none M0 := (c_R hi q_D) a0 a1 M r0 M0 h
abbrev rm_X10_order : Room := { frames := 208, cells := 0, slots := 0, locals := 4991 }
theorem mw_X10_order : q_mw RX10 yX10_order cX10_order 5 (some .int) 1 := ⟨⟨ti_X10_order, tl_X10_order, tn_RX10, td_X10_order⟩, by decide +kernel⟩
def f_X10_order_B32 (x1 : Int) (x2 : Int) (M : Mem) (x3 : Int) (x4 : Int) (g32 : Int → Int → Res) : Res :=
  if w32 x2 ≤ w32 x4 then (q_pf M 0 54 (-1) fun M1 =>
  q_call (f_X10_rows 0 x3 M1) fun r2 M3 =>
  if ¬ w32 x1 = w32 4 then (if w32 x2 ≤ w32 x1 then (some ((-2), M3))
  else (q_al M3 85 4 x1 fun v4 =>
  some (v4, M3)))
  else (q_gf M3 0 54 fun v5 =>
  some (v5, M3)))
  else (q_al M 70 184 x4 fun v6 =>
  g32 (q_or x3 (q_shl 1 v6)) (x4 + 1))
def f_X10_order_L32 (x1 : Int) (x2 : Int) (M : Mem) (n : Nat) (x3 : Int) (x4 : Int) : Res := qlp2 (fun x3 x4 g32 => f_X10_order_B32 x1 x2 M x3 x4 g32) n x3 x4
theorem w_X10_order_B32 (C : Cx syM p m c cX10_order 5 s args RX10 D ad cA) (hr : meth.sig.returnType = (some .int)) (hlk : meth.locks = false)  (x1 : Int) (x2 : Int) (x3 : Int) (x4 : Int) (M : Mem) (g32 : Int → Int → Res)  (ih32 : ∀ (ux3 ux4 : Int) , g32 ux3 ux4  = some (r0, M0) → WM syM p l e rm_X10_order s m args below meth c 5 D ad cA (MQ below (q_Post syM D ad cA (some (.int (qI r0))) M0) args s 0 0 (q_A syM ad)) M 32 [(0, .ref (ad 0)), (1, .int (qI x1)), (2, .int (qI x2)), (3, .int (qI ux3)), (4, .int (qI ux4))] []) (h : f_X10_order_B32 x1 x2 M x3 x4 g32 = some (r0, M0)) : WM syM p l e rm_X10_order s m args below meth c 5 D ad cA (MQ below (q_Post syM D ad cA (some (.int (qI r0))) M0) args s 0 0 (q_A syM ad)) M 32 [(0, .ref (ad 0)), (1, .int (qI x1)), (2, .int (qI x2)), (3, .int (qI x3)), (4, .int (qI x4))] [] := by
  unfold f_X10_order_B32 at h
  refine r_il C dX10_order_32 (k := 4) rfl ?_
  refine r_iln C dX10_order_34 (k := 2) rfl ?_
  refine r_cge C (tgt := 56) dX10_order_35 (by decide) h (fun h => ?_) (fun h => ?_)
  · refine r_aln C dX10_order_56 (k := 0) rfl ?_
    refine r_ic C dX10_order_57 ?_
    refine r_pf C km_0 clX10 (f := 54) (by decide) rfl q_dI rfl rfl tf_RX10_449 dX10_order_58 h (fun M1 h => ?_)
    refine r_aln C dX10_order_61 (k := 0) rfl ?_
    refine r_ic C dX10_order_62 ?_
    refine r_iln C dX10_order_63 (k := 3) rfl ?_
    obtain ⟨r2, M3, hy, h⟩ := q_call_some h
    refine r_cvv C (st := []) (c_X10_rows C.2.2.1 0 x3 M1 r2 M3 hy) tm_RX10_446 mw_X10_rows ⟨rfl, rfl⟩ ⟨Nat.le_of_ble_eq_true rfl, Nat.le_of_ble_eq_true rfl⟩ km_0 clX10 rfl rfl (Nat.le_of_ble_eq_true rfl) dX10_order_64 ?_
    refine r_iln C dX10_order_67 (k := 1) rfl ?_
    refine r_ic C dX10_order_68 ?_
    refine r_cne C (tgt := 79) dX10_order_69 (by decide) h (fun h => ?_) (fun h => ?_)
    · refine r_iln C dX10_order_79 (k := 1) rfl ?_
      refine r_iln C dX10_order_80 (k := 2) rfl ?_
      refine r_cge C (tgt := 93) dX10_order_81 (by decide) h (fun h => ?_) (fun h => ?_)
      · refine r_bi C dX10_order_93 (by decide) ?_
        exact r_iret C hr hlk dX10_order_95 h
      · refine r_aln C dX10_order_84 (k := 0) rfl ?_
        refine r_gs C km_0 clX10 (f := 53) (by decide) rfl (t := 85) rfl tf_RX10_111 dX10_order_85 ?_
        refine r_iln C dX10_order_88 (k := 1) rfl ?_
        refine r_iald C km_85 dX10_order_89 h (fun v4 h => ?_)
        refine r_goto C (tgt := 95) dX10_order_90 (by decide) ?_
        exact r_iret C hr hlk dX10_order_95 h
    · refine r_aln C dX10_order_72 (k := 0) rfl ?_
      refine r_gf C km_0 clX10 (f := 54) (by decide) rfl rfl rfl tf_RX10_449 dX10_order_73 h (fun v5 h => ?_)
      refine r_goto C (tgt := 95) dX10_order_76 (by decide) ?_
      exact r_iret C hr hlk dX10_order_95 h
  · refine r_iln C dX10_order_38 (k := 3) rfl ?_
    refine r_ic C dX10_order_39 ?_
    refine r_aln C dX10_order_40 (k := 0) rfl ?_
    refine r_gs C km_0 clX10 (f := 38) (by decide) rfl (t := 70) rfl tf_RX10_81 dX10_order_41 ?_
    refine r_il C dX10_order_44 (k := 4) rfl ?_
    refine r_iald C km_70 dX10_order_46 h (fun v6 h => ?_)
    refine r_ishl C dX10_order_47 ?_
    refine r_ior C dX10_order_48 ?_
    refine r_isn C (L1 := [(3, .int (qI (q_or x3 (q_shl 1 v6)))), (0, .ref (ad 0)), (1, .int (qI x1)), (2, .int (qI x2)), (4, .int (qI x4))]) dX10_order_49 (by decide) rfl ?_
    refine r_inc C (L1 := [(4, .int (qI (x4 + 1))), (3, .int (qI (q_or x3 (q_shl 1 v6)))), (0, .ref (ad 0)), (1, .int (qI x1)), (2, .int (qI x2))]) dX10_order_50 (k := 4) rfl (by decide) rfl ?_
    refine r_goto C (tgt := 32) dX10_order_53 (by decide) ?_
    refine r_drop [2, 3, 4, 1, 0] rfl ?_
    exact ih32 (q_or x3 (q_shl 1 v6)) (x4 + 1)  h
theorem w_X10_order_L32 (C : Cx syM p m c cX10_order 5 s args RX10 D ad cA) (hr : meth.sig.returnType = (some .int)) (hlk : meth.locks = false)  (x1 : Int) (x2 : Int) (M : Mem)  (n : Nat) (x3 : Int) (x4 : Int) (h : f_X10_order_L32 x1 x2 M n x3 x4 = some (r0, M0)) : WM syM p l e rm_X10_order s m args below meth c 5 D ad cA (MQ below (q_Post syM D ad cA (some (.int (qI r0))) M0) args s 0 0 (q_A syM ad)) M 32 [(0, .ref (ad 0)), (1, .int (qI x1)), (2, .int (qI x2)), (3, .int (qI x3)), (4, .int (qI x4))] [] :=
  qlp2_r (Wp := fun ux3 ux4 => WM syM p l e rm_X10_order s m args below meth c 5 D ad cA (MQ below (q_Post syM D ad cA (some (.int (qI r0))) M0) args s 0 0 (q_A syM ad)) M 32 [(0, .ref (ad 0)), (1, .int (qI x1)), (2, .int (qI x2)), (3, .int (qI ux3)), (4, .int (qI ux4))] []) (fun ux3 ux4 g32 ih32 h => w_X10_order_B32 C hr hlk x1 x2 ux3 ux4 M g32  ih32 h) n x3 x4 h
def f_X10_order (a0 : Int) (M : Mem) : Res :=
  q_pf M 0 0 0 fun M1 =>
  if w32 a0 < 0 then (some ((-1), M1))
  else (if w32 a0 ≤ w32 4 then (q_al M1 69 23 0 fun v2 =>
  f_X10_order_L32 a0 (q_min 4 v2) M1 q_N 0 0)
  else (some ((-1), M1)))
theorem c_X10_order {l : Launch} {D : va_G} {ad : Nat → Nat} {cA : Nat → ClassId} (hi : q_inj syM ad) (a0 : Int) (M : Mem) (r0 : Int) (M0 : Mem) (h : f_X10_order a0 M = some (r0, M0)) : q_Met l syM D ad cA yX10_order cX10_order 5 (some .int) rm_X10_order [.ref (ad 0), .int (qI a0)] M (some (.int (qI r0))) M0 := by
  refine q_met (L0 := [(0, .ref (ad 0)), (1, .int (qI a0))]) hi okM (by decide) (Nat.le_of_ble_eq_true rfl) rfl ?_
  intro p e s m args below meth c C hr hlk
  unfold f_X10_order at h
  refine r_aln C dX10_order_0 (k := 0) rfl ?_
  refine r_ic C dX10_order_1 ?_
  refine r_pf C km_0 clX10 (f := 0) (by decide) rfl q_dI rfl rfl tf_RX10_142 dX10_order_2 h (fun M1 h => ?_)
  refine r_iln C dX10_order_5 (k := 1) rfl ?_
  refine r_zlt C (tgt := 14) dX10_order_6 (by decide) h (fun h => ?_) (fun h => ?_)
  · refine r_ic C dX10_order_14 ?_
    exact r_iret C hr hlk dX10_order_15 h
  · refine r_iln C dX10_order_9 (k := 1) rfl ?_
    refine r_ic C dX10_order_10 ?_
    refine r_cle C (tgt := 16) dX10_order_11 (by decide) h (fun h => ?_) (fun h => ?_)
    · refine r_ic C dX10_order_16 ?_
      refine r_aln C dX10_order_17 (k := 0) rfl ?_
      refine r_gs C km_0 clX10 (f := 37) (by decide) rfl (t := 69) rfl tf_RX10_78 dX10_order_18 ?_
      refine r_ic C dX10_order_21 ?_
      refine r_iald C km_69 dX10_order_22 h (fun v2 h => ?_)
      refine r_q_min C (st := []) tm_RX10_399 ⟨Nat.le_of_ble_eq_true rfl, Nat.le_of_ble_eq_true rfl⟩ dX10_order_23 ?_
      refine r_isn C (L1 := [(2, .int (qI (q_min 4 v2))), (0, .ref (ad 0)), (1, .int (qI a0))]) dX10_order_26 (by decide) rfl ?_
      refine r_ic C dX10_order_27 ?_
      refine r_isn C (L1 := [(3, .int (qI 0)), (2, .int (qI (q_min 4 v2))), (0, .ref (ad 0)), (1, .int (qI a0))]) dX10_order_28 (by decide) rfl ?_
      refine r_ic C dX10_order_29 ?_
      refine r_is C (L1 := [(4, .int (qI 0)), (3, .int (qI 0)), (2, .int (qI (q_min 4 v2))), (0, .ref (ad 0)), (1, .int (qI a0))]) dX10_order_30 (by decide) rfl ?_
      refine r_drop [3, 4, 2, 1, 0] rfl ?_
      exact w_X10_order_L32 C hr hlk a0 (q_min 4 v2) M1  q_N 0 0 h
    · refine r_ic C dX10_order_14 ?_
      exact r_iret C hr hlk dX10_order_15 h
abbrev rm_X10_queue : Room := { frames := 0, cells := 0, slots := 0, locals := 0 }
theorem mw_X10_queue : q_mw RX10 yX10_queue cX10_queue 2 (some .int) 1 := ⟨⟨ti_X10_queue, tl_X10_queue, tn_RX10, td_X10_queue⟩, by decide +kernel⟩
def f_X10_queue (a0 : Int) (M : Mem) : Res :=
  q_pf M 0 0 0 fun M1 =>
  if w32 a0 < 0 then (some ((-1), M1))
  else (if w32 a0 ≤ w32 7 then (q_al M1 69 23 0 fun v2 =>
  if w32 v2 ≤ w32 a0 then (some ((-2), M1))
  else (q_al M1 70 184 a0 fun v3 =>
  some (v3, M1)))
  else (some ((-1), M1)))
theorem c_X10_queue {l : Launch} {D : va_G} {ad : Nat → Nat} {cA : Nat → ClassId} (hi : q_inj syM ad) (a0 : Int) (M : Mem) (r0 : Int) (M0 : Mem) (h : f_X10_queue a0 M = some (r0, M0)) : q_Met l syM D ad cA yX10_queue cX10_queue 2 (some .int) rm_X10_queue [.ref (ad 0), .int (qI a0)] M (some (.int (qI r0))) M0 := by
  refine q_met (L0 := [(0, .ref (ad 0)), (1, .int (qI a0))]) hi okM (by decide) (Nat.le_of_ble_eq_true rfl) rfl ?_
  intro p e s m args below meth c C hr hlk
  unfold f_X10_queue at h
  refine r_aln C dX10_queue_0 (k := 0) rfl ?_
  refine r_ic C dX10_queue_1 ?_
  refine r_pf C km_0 clX10 (f := 0) (by decide) rfl q_dI rfl rfl tf_RX10_142 dX10_queue_2 h (fun M1 h => ?_)
  refine r_iln C dX10_queue_5 (k := 1) rfl ?_
  refine r_zlt C (tgt := 15) dX10_queue_6 (by decide) h (fun h => ?_) (fun h => ?_)
  · refine r_ic C dX10_queue_15 ?_
    exact r_iret C hr hlk dX10_queue_16 h
  · refine r_iln C dX10_queue_9 (k := 1) rfl ?_
    refine r_bi C dX10_queue_10 (by decide) ?_
    refine r_cle C (tgt := 17) dX10_queue_12 (by decide) h (fun h => ?_) (fun h => ?_)
    · refine r_iln C dX10_queue_17 (k := 1) rfl ?_
      refine r_aln C dX10_queue_18 (k := 0) rfl ?_
      refine r_gs C km_0 clX10 (f := 37) (by decide) rfl (t := 69) rfl tf_RX10_78 dX10_queue_19 ?_
      refine r_ic C dX10_queue_22 ?_
      refine r_iald C km_69 dX10_queue_23 h (fun v2 h => ?_)
      refine r_cge C (tgt := 36) dX10_queue_24 (by decide) h (fun h => ?_) (fun h => ?_)
      · refine r_bi C dX10_queue_36 (by decide) ?_
        exact r_iret C hr hlk dX10_queue_38 h
      · refine r_aln C dX10_queue_27 (k := 0) rfl ?_
        refine r_gs C km_0 clX10 (f := 38) (by decide) rfl (t := 70) rfl tf_RX10_81 dX10_queue_28 ?_
        refine r_iln C dX10_queue_31 (k := 1) rfl ?_
        refine r_iald C km_70 dX10_queue_32 h (fun v3 h => ?_)
        refine r_goto C (tgt := 38) dX10_queue_33 (by decide) ?_
        exact r_iret C hr hlk dX10_queue_38 h
    · refine r_ic C dX10_queue_15 ?_
      exact r_iret C hr hlk dX10_queue_16 h
abbrev rm_X10_restOf : Room := { frames := 2, cells := 0, slots := 0, locals := 49 }
theorem mw_X10_restOf : q_mw RX10 yX10_restOf cX10_restOf 6 (some .int) 3 := ⟨⟨ti_X10_restOf, tl_X10_restOf, tn_RX10, td_X10_restOf⟩, by decide +kernel⟩
def f_X10_restOf_B6 (x1 : Int) (x2 : Int) (x3 : Int) (M : Mem) (x4 : Int) (x5 : Int) (g6 : Int → Int → Option Int) : Option Int :=
  if w32 4 ≤ w32 x5 then (if ¬ w32 x3 = w32 (-1) then (some (-2))
  else (some x4))
  else (q_calp (f_X10_isRest x1 x2 x5 M) fun r1 =>
  if ¬ w32 r1 = 0 then (if ¬ w32 x4 = w32 x3 then (g6 (x4 + 1) (x5 + 1))
  else (q_nz 2 <| q_nz 2 <| some ((10 * ((w32 x5).tdiv (w32 2))) + ((w32 x5).tmod (w32 2)))))
  else (g6 x4 (x5 + 1)))
def f_X10_restOf_L6 (x1 : Int) (x2 : Int) (x3 : Int) (M : Mem) (n : Nat) (x4 : Int) (x5 : Int) : Option Int := qlp2 (fun x4 x5 g6 => f_X10_restOf_B6 x1 x2 x3 M x4 x5 g6) n x4 x5
theorem w_X10_restOf_B6 (C : Cx syM p m c cX10_restOf 6 s args RX10 D ad cA) (hr : meth.sig.returnType = (some .int)) (hlk : meth.locks = false)  (x1 : Int) (x2 : Int) (x3 : Int) (x4 : Int) (x5 : Int) (M : Mem) (g6 : Int → Int → Option Int)  (ih6 : ∀ (ux4 ux5 : Int) , g6 ux4 ux5  = some r0 → WM syM p l e rm_X10_restOf s m args below meth c 6 D ad cA (MQ below (q_Post syM D ad cA (some (.int (qI r0))) M) args s 0 0 (q_A syM ad)) M 6 [(0, .ref (ad 0)), (1, .int (qI x1)), (2, .int (qI x2)), (3, .int (qI x3)), (4, .int (qI ux4)), (5, .int (qI ux5))] []) (h : f_X10_restOf_B6 x1 x2 x3 M x4 x5 g6 = some r0) : WM syM p l e rm_X10_restOf s m args below meth c 6 D ad cA (MQ below (q_Post syM D ad cA (some (.int (qI r0))) M) args s 0 0 (q_A syM ad)) M 6 [(0, .ref (ad 0)), (1, .int (qI x1)), (2, .int (qI x2)), (3, .int (qI x3)), (4, .int (qI x4)), (5, .int (qI x5))] [] := by
  unfold f_X10_restOf_B6 at h
  refine r_il C dX10_restOf_6 (k := 5) rfl ?_
  refine r_ic C dX10_restOf_8 ?_
  refine r_cge C (tgt := 54) dX10_restOf_9 (by decide) h (fun h => ?_) (fun h => ?_)
  · refine r_iln C dX10_restOf_54 (k := 3) rfl ?_
    refine r_ic C dX10_restOf_55 ?_
    refine r_cne C (tgt := 64) dX10_restOf_56 (by decide) h (fun h => ?_) (fun h => ?_)
    · refine r_bi C dX10_restOf_64 (by decide) ?_
      exact r_iretp C hr hlk dX10_restOf_66 h
    · refine r_il C dX10_restOf_59 (k := 4) rfl ?_
      refine r_goto C (tgt := 66) dX10_restOf_61 (by decide) ?_
      exact r_iretp C hr hlk dX10_restOf_66 h
  · refine r_aln C dX10_restOf_12 (k := 0) rfl ?_
    refine r_iln C dX10_restOf_13 (k := 1) rfl ?_
    refine r_iln C dX10_restOf_14 (k := 2) rfl ?_
    refine r_il C dX10_restOf_15 (k := 5) rfl ?_
    obtain ⟨r1, hy, h⟩ := q_calp_some h
    refine r_cvi C (st := []) (c_X10_isRest C.2.2.1 x1 x2 x5 M r1 hy) tm_RX10_464 mw_X10_isRest ⟨rfl, rfl⟩ ⟨Nat.le_of_ble_eq_true rfl, Nat.le_of_ble_eq_true rfl⟩ km_0 clX10 rfl rfl (Nat.le_of_ble_eq_true rfl) dX10_restOf_17 ?_
    refine r_zne C (tgt := 26) dX10_restOf_20 (by decide) h (fun h => ?_) (fun h => ?_)
    · refine r_il C dX10_restOf_26 (k := 4) rfl ?_
      refine r_iln C dX10_restOf_28 (k := 3) rfl ?_
      refine r_cne C (tgt := 45) dX10_restOf_29 (by decide) h (fun h => ?_) (fun h => ?_)
      · refine r_inc C (L1 := [(4, .int (qI (x4 + 1))), (0, .ref (ad 0)), (1, .int (qI x1)), (2, .int (qI x2)), (3, .int (qI x3)), (5, .int (qI x5))]) dX10_restOf_45 (k := 4) rfl (by decide) rfl ?_
        refine r_inc C (L1 := [(5, .int (qI (x5 + 1))), (4, .int (qI (x4 + 1))), (0, .ref (ad 0)), (1, .int (qI x1)), (2, .int (qI x2)), (3, .int (qI x3))]) dX10_restOf_48 (k := 5) rfl (by decide) rfl ?_
        refine r_goto C (tgt := 6) dX10_restOf_51 (by decide) ?_
        refine r_drop [2, 3, 4, 5, 1, 0] rfl ?_
        exact ih6 (x4 + 1) (x5 + 1)  h
      · refine r_bi C dX10_restOf_32 (by decide) ?_
        refine r_il C dX10_restOf_34 (k := 5) rfl ?_
        refine r_ic C dX10_restOf_36 ?_
        refine r_idiv C dX10_restOf_37 h (fun h => ?_)
        refine r_imul C dX10_restOf_38 ?_
        refine r_il C dX10_restOf_39 (k := 5) rfl ?_
        refine r_ic C dX10_restOf_41 ?_
        refine r_irem C dX10_restOf_42 h (fun h => ?_)
        refine r_iadd C dX10_restOf_43 ?_
        exact r_iretp C hr hlk dX10_restOf_44 h
    · refine r_goto C (tgt := 48) dX10_restOf_23 (by decide) ?_
      refine r_inc C (L1 := [(5, .int (qI (x5 + 1))), (0, .ref (ad 0)), (1, .int (qI x1)), (2, .int (qI x2)), (3, .int (qI x3)), (4, .int (qI x4))]) dX10_restOf_48 (k := 5) rfl (by decide) rfl ?_
      refine r_goto C (tgt := 6) dX10_restOf_51 (by decide) ?_
      refine r_drop [1, 2, 3, 4, 5, 0] rfl ?_
      exact ih6 x4 (x5 + 1)  h
theorem w_X10_restOf_L6 (C : Cx syM p m c cX10_restOf 6 s args RX10 D ad cA) (hr : meth.sig.returnType = (some .int)) (hlk : meth.locks = false)  (x1 : Int) (x2 : Int) (x3 : Int) (M : Mem)  (n : Nat) (x4 : Int) (x5 : Int) (h : f_X10_restOf_L6 x1 x2 x3 M n x4 x5 = some r0) : WM syM p l e rm_X10_restOf s m args below meth c 6 D ad cA (MQ below (q_Post syM D ad cA (some (.int (qI r0))) M) args s 0 0 (q_A syM ad)) M 6 [(0, .ref (ad 0)), (1, .int (qI x1)), (2, .int (qI x2)), (3, .int (qI x3)), (4, .int (qI x4)), (5, .int (qI x5))] [] :=
  qlp2_r (Wp := fun ux4 ux5 => WM syM p l e rm_X10_restOf s m args below meth c 6 D ad cA (MQ below (q_Post syM D ad cA (some (.int (qI r0))) M) args s 0 0 (q_A syM ad)) M 6 [(0, .ref (ad 0)), (1, .int (qI x1)), (2, .int (qI x2)), (3, .int (qI x3)), (4, .int (qI ux4)), (5, .int (qI ux5))] []) (fun ux4 ux5 g6 ih6 h => w_X10_restOf_B6 C hr hlk x1 x2 x3 ux4 ux5 M g6  ih6 h) n x4 x5 h
def f_X10_restOf (a0 : Int) (a1 : Int) (a2 : Int) (M : Mem) : Option Int :=
  f_X10_restOf_L6 a0 a1 a2 M q_N 0 0
theorem c_X10_restOf {l : Launch} {D : va_G} {ad : Nat → Nat} {cA : Nat → ClassId} (hi : q_inj syM ad) (a0 : Int) (a1 : Int) (a2 : Int) (M : Mem) (r0 : Int) (h : f_X10_restOf a0 a1 a2 M = some r0) : q_Met l syM D ad cA yX10_restOf cX10_restOf 6 (some .int) rm_X10_restOf [.ref (ad 0), .int (qI a0), .int (qI a1), .int (qI a2)] M (some (.int (qI r0))) M := by
  refine q_met (L0 := [(0, .ref (ad 0)), (1, .int (qI a0)), (2, .int (qI a1)), (3, .int (qI a2))]) hi okM (by decide) (Nat.le_of_ble_eq_true rfl) rfl ?_
  intro p e s m args below meth c C hr hlk
  unfold f_X10_restOf at h
  refine r_ic C dX10_restOf_0 ?_
  refine r_is C (L1 := [(4, .int (qI 0)), (0, .ref (ad 0)), (1, .int (qI a0)), (2, .int (qI a1)), (3, .int (qI a2))]) dX10_restOf_1 (by decide) rfl ?_
  refine r_ic C dX10_restOf_3 ?_
  refine r_is C (L1 := [(5, .int (qI 0)), (4, .int (qI 0)), (0, .ref (ad 0)), (1, .int (qI a0)), (2, .int (qI a1)), (3, .int (qI a2))]) dX10_restOf_4 (by decide) rfl ?_
  refine r_drop [2, 3, 4, 5, 1, 0] rfl ?_
  exact w_X10_restOf_L6 C hr hlk a0 a1 a2 M  q_N 0 0 h
abbrev rm_X10_rest : Room := { frames := 3, cells := 0, slots := 0, locals := 74 }
theorem mw_X10_rest : q_mw RX10 yX10_rest cX10_rest 4 (some .int) 3 := ⟨⟨ti_X10_rest, tl_X10_rest, tn_RX10, td_X10_rest⟩, by decide +kernel⟩
def f_X10_rest (a0 : Int) (a1 : Int) (a2 : Int) (M : Mem) : Res :=
  q_pf M 0 0 0 fun M1 =>
  q_calp (f_X10_areTwo a0 a1 M1) fun r2 =>
  if w32 r2 = 0 then (some ((-1), M1))
  else (if w32 a2 < 0 then (some ((-1), M1))
  else (q_calp (f_X10_restOf a0 a1 a2 M1) fun r3 =>
  some (r3, M1)))
theorem c_X10_rest {l : Launch} {D : va_G} {ad : Nat → Nat} {cA : Nat → ClassId} (hi : q_inj syM ad) (a0 : Int) (a1 : Int) (a2 : Int) (M : Mem) (r0 : Int) (M0 : Mem) (h : f_X10_rest a0 a1 a2 M = some (r0, M0)) : q_Met l syM D ad cA yX10_rest cX10_rest 4 (some .int) rm_X10_rest [.ref (ad 0), .int (qI a0), .int (qI a1), .int (qI a2)] M (some (.int (qI r0))) M0 := by
  refine q_met (L0 := [(0, .ref (ad 0)), (1, .int (qI a0)), (2, .int (qI a1)), (3, .int (qI a2))]) hi okM (by decide) (Nat.le_of_ble_eq_true rfl) rfl ?_
  intro p e s m args below meth c C hr hlk
  unfold f_X10_rest at h
  refine r_aln C dX10_rest_0 (k := 0) rfl ?_
  refine r_ic C dX10_rest_1 ?_
  refine r_pf C km_0 clX10 (f := 0) (by decide) rfl q_dI rfl rfl tf_RX10_142 dX10_rest_2 h (fun M1 h => ?_)
  refine r_aln C dX10_rest_5 (k := 0) rfl ?_
  refine r_iln C dX10_rest_6 (k := 1) rfl ?_
  refine r_iln C dX10_rest_7 (k := 2) rfl ?_
  obtain ⟨r2, hy, h⟩ := q_calp_some h
  refine r_cvi C (st := []) (c_X10_areTwo C.2.2.1 a0 a1 M1 r2 hy) tm_RX10_467 mw_X10_areTwo ⟨rfl, rfl⟩ ⟨Nat.le_of_ble_eq_true rfl, Nat.le_of_ble_eq_true rfl⟩ km_0 clX10 rfl rfl (Nat.le_of_ble_eq_true rfl) dX10_rest_8 ?_
  refine r_zeq C (tgt := 28) dX10_rest_11 (by decide) h (fun h => ?_) (fun h => ?_)
  · refine r_ic C dX10_rest_28 ?_
    exact r_iret C hr hlk dX10_rest_29 h
  · refine r_iln C dX10_rest_14 (k := 3) rfl ?_
    refine r_zlt C (tgt := 28) dX10_rest_15 (by decide) h (fun h => ?_) (fun h => ?_)
    · refine r_ic C dX10_rest_28 ?_
      exact r_iret C hr hlk dX10_rest_29 h
    · refine r_aln C dX10_rest_18 (k := 0) rfl ?_
      refine r_iln C dX10_rest_19 (k := 1) rfl ?_
      refine r_iln C dX10_rest_20 (k := 2) rfl ?_
      refine r_iln C dX10_rest_21 (k := 3) rfl ?_
      obtain ⟨r3, hy, h⟩ := q_calp_some h
      refine r_cvi C (st := []) (c_X10_restOf C.2.2.1 a0 a1 a2 M1 r3 hy) tm_RX10_470 mw_X10_restOf ⟨rfl, rfl⟩ ⟨Nat.le_of_ble_eq_true rfl, Nat.le_of_ble_eq_true rfl⟩ km_0 clX10 rfl rfl (Nat.le_of_ble_eq_true rfl) dX10_rest_22 ?_
      refine r_goto C (tgt := 29) dX10_rest_25 (by decide) ?_
      exact r_iret C hr hlk dX10_rest_29 h
end P13e
