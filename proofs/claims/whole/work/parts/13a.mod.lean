section P13a
variable {p : Program} {l : Launch} {e : Env} {s : State} {m : MethodId} {args : Array Value} {below : List Frame} {meth : Method} {c : Code} {D : va_G} {ad : Nat → Nat} {cA : Nat → ClassId} {r0 : Int} {M0 : Mem}
abbrev rm_X10_isSoul : Room := { frames := 0, cells := 0, slots := 0, locals := 0 }
theorem mw_X10_isSoul : q_mw RX10 yX10_isSoul cX10_isSoul 2 (some .boolean) 1 := ⟨⟨ti_X10_isSoul, tl_X10_isSoul, tn_RX10, td_X10_isSoul⟩, by decide +kernel⟩
def f_X10_isSoul (a0 : Int) (M : Mem) : Option Int :=
  if w32 a0 < 0 then (some 0)
  else (q_al M 35 14 0 fun v1 =>
  if w32 v1 ≤ w32 a0 then (some 0)
  else (some 1))
theorem c_X10_isSoul {l : Launch} {D : va_G} {ad : Nat → Nat} {cA : Nat → ClassId} (hi : q_inj syM ad) (a0 : Int) (M : Mem) (r0 : Int) (h : f_X10_isSoul a0 M = some r0) : q_Met l syM D ad cA yX10_isSoul cX10_isSoul 2 (some .boolean) rm_X10_isSoul [.ref (ad 0), .int (qI a0)] M (some (.int (qI r0))) M := by
  refine q_met (L0 := [(0, .ref (ad 0)), (1, .int (qI a0))]) hi okM (by decide) (Nat.le_of_ble_eq_true rfl) rfl ?_
  intro p e s m args below meth c C hr hlk
  unfold f_X10_isSoul at h
  refine r_iln C dX10_isSoul_0 (k := 1) rfl ?_
  refine r_zlt C (tgt := 18) dX10_isSoul_1 (by decide) h (fun h => ?_) (fun h => ?_)
  · refine r_ic C dX10_isSoul_18 ?_
    exact r_zretp C (by decide) hr hlk dX10_isSoul_19 h
  · refine r_iln C dX10_isSoul_4 (k := 1) rfl ?_
    refine r_aln C dX10_isSoul_5 (k := 0) rfl ?_
    refine r_gs C km_0 clX10 (f := 3) (by decide) rfl (t := 35) rfl tf_RX10_13 dX10_isSoul_6 ?_
    refine r_ic C dX10_isSoul_9 ?_
    refine r_iald C km_35 dX10_isSoul_10 h (fun v1 h => ?_)
    refine r_cge C (tgt := 18) dX10_isSoul_11 (by decide) h (fun h => ?_) (fun h => ?_)
    · refine r_ic C dX10_isSoul_18 ?_
      exact r_zretp C (by decide) hr hlk dX10_isSoul_19 h
    · refine r_ic C dX10_isSoul_14 ?_
      refine r_goto C (tgt := 19) dX10_isSoul_15 (by decide) ?_
      exact r_zretp C (by decide) hr hlk dX10_isSoul_19 h
abbrev rm_X10_copies : Room := { frames := 0, cells := 0, slots := 0, locals := 0 }
theorem mw_X10_copies : q_mw RX10 yX10_copies cX10_copies 6 none 2 := ⟨⟨ti_X10_copies, tl_X10_copies, tn_RX10, td_X10_copies⟩, by decide +kernel⟩
def f_X10_copies_B38 (x1 : Int) (x2 : Int) (x3 : Int) (M : Mem) (g38 : Int → Mem → Res) : Res :=
  if w32 8 ≤ w32 x3 then (some (0, M))
  else (q_al M 70 184 ((8 * x2) + x3) fun v1 =>
  q_as M 70 184 ((8 * x1) + x3) v1 fun M2 =>
  q_al M2 71 184 ((8 * x2) + x3) fun v3 =>
  q_as M2 71 184 ((8 * x1) + x3) v3 fun M4 =>
  q_al M4 72 184 ((8 * x2) + x3) fun v5 =>
  q_as M4 72 184 ((8 * x1) + x3) v5 fun M6 =>
  q_al M6 73 184 ((8 * x2) + x3) fun v7 =>
  q_as M6 73 184 ((8 * x1) + x3) v7 fun M8 =>
  q_al M8 74 184 ((8 * x2) + x3) fun v9 =>
  q_as M8 74 184 ((8 * x1) + x3) v9 fun M10 =>
  q_al M10 75 184 ((8 * x2) + x3) fun v11 =>
  q_as M10 75 184 ((8 * x1) + x3) v11 fun M12 =>
  q_al M12 76 184 ((8 * x2) + x3) fun v13 =>
  q_as M12 76 184 ((8 * x1) + x3) v13 fun M14 =>
  g38 (x3 + 1) M14)
def f_X10_copies_L38 (x1 : Int) (x2 : Int) (n : Nat) (x3 : Int) (M : Mem) : Res := qlm1 (fun x3 M g38 => f_X10_copies_B38 x1 x2 x3 M g38) n x3 M
theorem w_X10_copies_B38 (C : Cx syM p m c cX10_copies 6 s args RX10 D ad cA) (hr : meth.sig.returnType = none) (hlk : meth.locks = false)  (x1 : Int) (x2 : Int) (x3 : Int) (M : Mem) (g38 : Int → Mem → Res)  (ih38 : ∀ (ux3 : Int) (M : Mem), g38 ux3 M = some (r0, M0) → WM syM p l e rm_X10_copies s m args below meth c 6 D ad cA (MQ below (q_Post syM D ad cA none M0) args s 0 0 (q_A syM ad)) M 38 [(0, .ref (ad 0)), (1, .int (qI x1)), (2, .int (qI x2)), (3, .int (qI ux3))] []) (h : f_X10_copies_B38 x1 x2 x3 M g38 = some (r0, M0)) : WM syM p l e rm_X10_copies s m args below meth c 6 D ad cA (MQ below (q_Post syM D ad cA none M0) args s 0 0 (q_A syM ad)) M 38 [(0, .ref (ad 0)), (1, .int (qI x1)), (2, .int (qI x2)), (3, .int (qI x3))] [] := by
  unfold f_X10_copies_B38 at h
  refine r_iln C dX10_copies_38 (k := 3) rfl ?_
  refine r_bi C dX10_copies_39 (by decide) ?_
  refine r_cge C (tgt := 164) dX10_copies_41 (by decide) h (fun h => ?_) (fun h => ?_)
  · exact r_vret C hr hlk dX10_copies_164 h
  · refine r_bi C dX10_copies_44 (by decide) ?_
    refine r_iln C dX10_copies_46 (k := 1) rfl ?_
    refine r_imul C dX10_copies_47 ?_
    refine r_iln C dX10_copies_48 (k := 3) rfl ?_
    refine r_iadd C dX10_copies_49 ?_
    refine r_is C (L1 := [(4, .int (qI ((8 * x1) + x3))), (0, .ref (ad 0)), (1, .int (qI x1)), (2, .int (qI x2)), (3, .int (qI x3))]) dX10_copies_50 (by decide) rfl ?_
    refine r_bi C dX10_copies_52 (by decide) ?_
    refine r_iln C dX10_copies_54 (k := 3) rfl ?_
    refine r_imul C dX10_copies_55 ?_
    refine r_iln C dX10_copies_56 (k := 4) rfl ?_
    refine r_iadd C dX10_copies_57 ?_
    refine r_is C (L1 := [(5, .int (qI ((8 * x2) + x3))), (4, .int (qI ((8 * x1) + x3))), (0, .ref (ad 0)), (1, .int (qI x1)), (2, .int (qI x2)), (3, .int (qI x3))]) dX10_copies_58 (by decide) rfl ?_
    refine r_aln C dX10_copies_60 (k := 2) rfl ?_
    refine r_gs C km_0 clX10 (f := 38) (by decide) rfl (t := 70) rfl tf_RX10_81 dX10_copies_61 ?_
    refine r_il C dX10_copies_64 (k := 1) rfl ?_
    refine r_aln C dX10_copies_66 (k := 2) rfl ?_
    refine r_gs C km_0 clX10 (f := 38) (by decide) rfl (t := 70) rfl tf_RX10_81 dX10_copies_67 ?_
    refine r_il C dX10_copies_70 (k := 0) rfl ?_
    refine r_iald C km_70 dX10_copies_72 h (fun v1 h => ?_)
    refine r_iast C km_70 dX10_copies_73 h (fun M2 h => ?_)
    refine r_aln C dX10_copies_74 (k := 2) rfl ?_
    refine r_gs C km_0 clX10 (f := 39) (by decide) rfl (t := 71) rfl tf_RX10_84 dX10_copies_75 ?_
    refine r_il C dX10_copies_78 (k := 1) rfl ?_
    refine r_aln C dX10_copies_80 (k := 2) rfl ?_
    refine r_gs C km_0 clX10 (f := 39) (by decide) rfl (t := 71) rfl tf_RX10_84 dX10_copies_81 ?_
    refine r_il C dX10_copies_84 (k := 0) rfl ?_
    refine r_iald C km_71 dX10_copies_86 h (fun v3 h => ?_)
    refine r_iast C km_71 dX10_copies_87 h (fun M4 h => ?_)
    refine r_aln C dX10_copies_88 (k := 2) rfl ?_
    refine r_gs C km_0 clX10 (f := 40) (by decide) rfl (t := 72) rfl tf_RX10_87 dX10_copies_89 ?_
    refine r_il C dX10_copies_92 (k := 1) rfl ?_
    refine r_aln C dX10_copies_94 (k := 2) rfl ?_
    refine r_gs C km_0 clX10 (f := 40) (by decide) rfl (t := 72) rfl tf_RX10_87 dX10_copies_95 ?_
    refine r_il C dX10_copies_98 (k := 0) rfl ?_
    refine r_iald C km_72 dX10_copies_100 h (fun v5 h => ?_)
    refine r_iast C km_72 dX10_copies_101 h (fun M6 h => ?_)
    refine r_aln C dX10_copies_102 (k := 2) rfl ?_
    refine r_gs C km_0 clX10 (f := 41) (by decide) rfl (t := 73) rfl tf_RX10_90 dX10_copies_103 ?_
    refine r_il C dX10_copies_106 (k := 1) rfl ?_
    refine r_aln C dX10_copies_108 (k := 2) rfl ?_
    refine r_gs C km_0 clX10 (f := 41) (by decide) rfl (t := 73) rfl tf_RX10_90 dX10_copies_109 ?_
    refine r_il C dX10_copies_112 (k := 0) rfl ?_
    refine r_iald C km_73 dX10_copies_114 h (fun v7 h => ?_)
    refine r_iast C km_73 dX10_copies_115 h (fun M8 h => ?_)
    refine r_aln C dX10_copies_116 (k := 2) rfl ?_
    refine r_gs C km_0 clX10 (f := 42) (by decide) rfl (t := 74) rfl tf_RX10_93 dX10_copies_117 ?_
    refine r_il C dX10_copies_120 (k := 1) rfl ?_
    refine r_aln C dX10_copies_122 (k := 2) rfl ?_
    refine r_gs C km_0 clX10 (f := 42) (by decide) rfl (t := 74) rfl tf_RX10_93 dX10_copies_123 ?_
    refine r_il C dX10_copies_126 (k := 0) rfl ?_
    refine r_iald C km_74 dX10_copies_128 h (fun v9 h => ?_)
    refine r_iast C km_74 dX10_copies_129 h (fun M10 h => ?_)
    refine r_aln C dX10_copies_130 (k := 2) rfl ?_
    refine r_gs C km_0 clX10 (f := 43) (by decide) rfl (t := 75) rfl tf_RX10_96 dX10_copies_131 ?_
    refine r_il C dX10_copies_134 (k := 1) rfl ?_
    refine r_aln C dX10_copies_136 (k := 2) rfl ?_
    refine r_gs C km_0 clX10 (f := 43) (by decide) rfl (t := 75) rfl tf_RX10_96 dX10_copies_137 ?_
    refine r_il C dX10_copies_140 (k := 0) rfl ?_
    refine r_iald C km_75 dX10_copies_142 h (fun v11 h => ?_)
    refine r_iast C km_75 dX10_copies_143 h (fun M12 h => ?_)
    refine r_aln C dX10_copies_144 (k := 2) rfl ?_
    refine r_gs C km_0 clX10 (f := 44) (by decide) rfl (t := 76) rfl tf_RX10_99 dX10_copies_145 ?_
    refine r_il C dX10_copies_148 (k := 1) rfl ?_
    refine r_aln C dX10_copies_150 (k := 2) rfl ?_
    refine r_gs C km_0 clX10 (f := 44) (by decide) rfl (t := 76) rfl tf_RX10_99 dX10_copies_151 ?_
    refine r_il C dX10_copies_154 (k := 0) rfl ?_
    refine r_iald C km_76 dX10_copies_156 h (fun v13 h => ?_)
    refine r_iast C km_76 dX10_copies_157 h (fun M14 h => ?_)
    refine r_inc C (L1 := [(3, .int (qI (x3 + 1))), (5, .int (qI ((8 * x2) + x3))), (4, .int (qI ((8 * x1) + x3))), (0, .ref (ad 0)), (1, .int (qI x1)), (2, .int (qI x2))]) dX10_copies_158 (k := 5) rfl (by decide) rfl ?_
    refine r_goto C (tgt := 38) dX10_copies_161 (by decide) ?_
    refine r_drop [3, 4, 5, 0] rfl ?_
    exact ih38 (x3 + 1) M14 h
theorem w_X10_copies_L38 (C : Cx syM p m c cX10_copies 6 s args RX10 D ad cA) (hr : meth.sig.returnType = none) (hlk : meth.locks = false)  (x1 : Int) (x2 : Int)  (n : Nat) (x3 : Int) (M : Mem) (h : f_X10_copies_L38 x1 x2 n x3 M = some (r0, M0)) : WM syM p l e rm_X10_copies s m args below meth c 6 D ad cA (MQ below (q_Post syM D ad cA none M0) args s 0 0 (q_A syM ad)) M 38 [(0, .ref (ad 0)), (1, .int (qI x1)), (2, .int (qI x2)), (3, .int (qI x3))] [] :=
  qlm1_r (Wp := fun ux3 M => WM syM p l e rm_X10_copies s m args below meth c 6 D ad cA (MQ below (q_Post syM D ad cA none M0) args s 0 0 (q_A syM ad)) M 38 [(0, .ref (ad 0)), (1, .int (qI x1)), (2, .int (qI x2)), (3, .int (qI ux3))] []) (fun ux3 M g38 ih38 h => w_X10_copies_B38 C hr hlk x1 x2 ux3 M g38  ih38 h) n x3 M h
def f_X10_copies (a0 : Int) (a1 : Int) (M : Mem) : Res :=
  q_al M 67 23 a1 fun v1 =>
  q_as M 67 23 a0 v1 fun M2 =>
  q_al M2 68 23 a1 fun v3 =>
  q_as M2 68 23 a0 v3 fun M4 =>
  q_al M4 69 23 a1 fun v5 =>
  q_as M4 69 23 a0 v5 fun M6 =>
  f_X10_copies_L38 a0 a1 q_N 0 M6
theorem c_X10_copies {l : Launch} {D : va_G} {ad : Nat → Nat} {cA : Nat → ClassId} (hi : q_inj syM ad) (a0 : Int) (a1 : Int) (M : Mem) (r0 : Int) (M0 : Mem) (h : f_X10_copies a0 a1 M = some (r0, M0)) : q_Met l syM D ad cA yX10_copies cX10_copies 6 none rm_X10_copies [.ref (ad 0), .int (qI a0), .int (qI a1)] M none M0 := by
  refine q_met (L0 := [(0, .ref (ad 0)), (1, .int (qI a0)), (2, .int (qI a1))]) hi okM (by decide) (Nat.le_of_ble_eq_true rfl) rfl ?_
  intro p e s m args below meth c C hr hlk
  unfold f_X10_copies at h
  refine r_aln C dX10_copies_0 (k := 0) rfl ?_
  refine r_gs C km_0 clX10 (f := 35) (by decide) rfl (t := 67) rfl tf_RX10_72 dX10_copies_1 ?_
  refine r_iln C dX10_copies_4 (k := 1) rfl ?_
  refine r_aln C dX10_copies_5 (k := 0) rfl ?_
  refine r_gs C km_0 clX10 (f := 35) (by decide) rfl (t := 67) rfl tf_RX10_72 dX10_copies_6 ?_
  refine r_iln C dX10_copies_9 (k := 2) rfl ?_
  refine r_iald C km_67 dX10_copies_10 h (fun v1 h => ?_)
  refine r_iast C km_67 dX10_copies_11 h (fun M2 h => ?_)
  refine r_aln C dX10_copies_12 (k := 0) rfl ?_
  refine r_gs C km_0 clX10 (f := 36) (by decide) rfl (t := 68) rfl tf_RX10_75 dX10_copies_13 ?_
  refine r_iln C dX10_copies_16 (k := 1) rfl ?_
  refine r_aln C dX10_copies_17 (k := 0) rfl ?_
  refine r_gs C km_0 clX10 (f := 36) (by decide) rfl (t := 68) rfl tf_RX10_75 dX10_copies_18 ?_
  refine r_iln C dX10_copies_21 (k := 2) rfl ?_
  refine r_iald C km_68 dX10_copies_22 h (fun v3 h => ?_)
  refine r_iast C km_68 dX10_copies_23 h (fun M4 h => ?_)
  refine r_aln C dX10_copies_24 (k := 0) rfl ?_
  refine r_gs C km_0 clX10 (f := 37) (by decide) rfl (t := 69) rfl tf_RX10_78 dX10_copies_25 ?_
  refine r_iln C dX10_copies_28 (k := 1) rfl ?_
  refine r_aln C dX10_copies_29 (k := 0) rfl ?_
  refine r_gs C km_0 clX10 (f := 37) (by decide) rfl (t := 69) rfl tf_RX10_78 dX10_copies_30 ?_
  refine r_iln C dX10_copies_33 (k := 2) rfl ?_
  refine r_iald C km_69 dX10_copies_34 h (fun v5 h => ?_)
  refine r_iast C km_69 dX10_copies_35 h (fun M6 h => ?_)
  refine r_ic C dX10_copies_36 ?_
  refine r_isn C (L1 := [(3, .int (qI 0)), (0, .ref (ad 0)), (1, .int (qI a0)), (2, .int (qI a1))]) dX10_copies_37 (by decide) rfl ?_
  refine r_drop [1, 2, 3, 0] rfl ?_
  exact w_X10_copies_L38 C hr hlk a0 a1  q_N 0 M6 h
abbrev rm_X10_joins : Room := { frames := 0, cells := 0, slots := 0, locals := 0 }
theorem mw_X10_joins : q_mw RX10 yX10_joins cX10_joins 3 none 2 := ⟨⟨ti_X10_joins, tl_X10_joins, tn_RX10, td_X10_joins⟩, by decide +kernel⟩
def f_X10_joins (a0 : Int) (a1 : Int) (M : Mem) : Res :=
  q_al M 69 23 a0 fun v1 =>
  q_as M 70 184 ((8 * a0) + v1) a1 fun M2 =>
  q_al M2 69 23 a0 fun v3 =>
  q_as M2 69 23 a0 (v3 + 1) fun M4 =>
  q_as M4 71 184 ((8 * a0) + a1) 1 fun M5 =>
  some (0, M5)
theorem c_X10_joins {l : Launch} {D : va_G} {ad : Nat → Nat} {cA : Nat → ClassId} (hi : q_inj syM ad) (a0 : Int) (a1 : Int) (M : Mem) (r0 : Int) (M0 : Mem) (h : f_X10_joins a0 a1 M = some (r0, M0)) : q_Met l syM D ad cA yX10_joins cX10_joins 3 none rm_X10_joins [.ref (ad 0), .int (qI a0), .int (qI a1)] M none M0 := by
  refine q_met (L0 := [(0, .ref (ad 0)), (1, .int (qI a0)), (2, .int (qI a1))]) hi okM (by decide) (Nat.le_of_ble_eq_true rfl) rfl ?_
  intro p e s m args below meth c C hr hlk
  unfold f_X10_joins at h
  refine r_aln C dX10_joins_0 (k := 0) rfl ?_
  refine r_gs C km_0 clX10 (f := 38) (by decide) rfl (t := 70) rfl tf_RX10_81 dX10_joins_1 ?_
  refine r_bi C dX10_joins_4 (by decide) ?_
  refine r_iln C dX10_joins_6 (k := 1) rfl ?_
  refine r_imul C dX10_joins_7 ?_
  refine r_aln C dX10_joins_8 (k := 0) rfl ?_
  refine r_gs C km_0 clX10 (f := 37) (by decide) rfl (t := 69) rfl tf_RX10_78 dX10_joins_9 ?_
  refine r_iln C dX10_joins_12 (k := 1) rfl ?_
  refine r_iald C km_69 dX10_joins_13 h (fun v1 h => ?_)
  refine r_iadd C dX10_joins_14 ?_
  refine r_iln C dX10_joins_15 (k := 2) rfl ?_
  refine r_iast C km_70 dX10_joins_16 h (fun M2 h => ?_)
  refine r_aln C dX10_joins_17 (k := 0) rfl ?_
  refine r_gs C km_0 clX10 (f := 37) (by decide) rfl (t := 69) rfl tf_RX10_78 dX10_joins_18 ?_
  refine r_iln C dX10_joins_21 (k := 1) rfl ?_
  refine r_dup2 C rfl rfl dX10_joins_22 ?_
  refine r_iald C km_69 dX10_joins_23 h (fun v3 h => ?_)
  refine r_ic C dX10_joins_24 ?_
  refine r_iadd C dX10_joins_25 ?_
  refine r_iast C km_69 dX10_joins_26 h (fun M4 h => ?_)
  refine r_aln C dX10_joins_27 (k := 0) rfl ?_
  refine r_gs C km_0 clX10 (f := 39) (by decide) rfl (t := 71) rfl tf_RX10_84 dX10_joins_28 ?_
  refine r_bi C dX10_joins_31 (by decide) ?_
  refine r_iln C dX10_joins_33 (k := 1) rfl ?_
  refine r_imul C dX10_joins_34 ?_
  refine r_iln C dX10_joins_35 (k := 2) rfl ?_
  refine r_iadd C dX10_joins_36 ?_
  refine r_ic C dX10_joins_37 ?_
  refine r_iast C km_71 dX10_joins_38 h (fun M5 h => ?_)
  exact r_vret C hr hlk dX10_joins_39 h
abbrev rm_X10_everyOf : Room := { frames := 0, cells := 0, slots := 0, locals := 0 }
theorem mw_X10_everyOf : q_mw RX10 yX10_everyOf cX10_everyOf 2 (some .int) 1 := ⟨⟨ti_X10_everyOf, tl_X10_everyOf, tn_RX10, td_X10_everyOf⟩, by decide +kernel⟩
def f_X10_everyOf (a0 : Int) (M : Mem) : Option Int :=
  q_gf M 0 48 fun v1 =>
  if ¬ w32 a0 = w32 v1 then (q_al M 42 8 a0 fun v2 =>
  some v2)
  else (q_gf M 0 49 fun v3 =>
  some v3)
theorem c_X10_everyOf {l : Launch} {D : va_G} {ad : Nat → Nat} {cA : Nat → ClassId} (hi : q_inj syM ad) (a0 : Int) (M : Mem) (r0 : Int) (h : f_X10_everyOf a0 M = some r0) : q_Met l syM D ad cA yX10_everyOf cX10_everyOf 2 (some .int) rm_X10_everyOf [.ref (ad 0), .int (qI a0)] M (some (.int (qI r0))) M := by
  refine q_met (L0 := [(0, .ref (ad 0)), (1, .int (qI a0))]) hi okM (by decide) (Nat.le_of_ble_eq_true rfl) rfl ?_
  intro p e s m args below meth c C hr hlk
  unfold f_X10_everyOf at h
  refine r_iln C dX10_everyOf_0 (k := 1) rfl ?_
  refine r_aln C dX10_everyOf_1 (k := 0) rfl ?_
  refine r_gf C km_0 clX10 (f := 48) (by decide) rfl rfl rfl tf_RX10_102 dX10_everyOf_2 h (fun v1 h => ?_)
  refine r_cne C (tgt := 15) dX10_everyOf_5 (by decide) h (fun h => ?_) (fun h => ?_)
  · refine r_aln C dX10_everyOf_15 (k := 0) rfl ?_
    refine r_gs C km_0 clX10 (f := 10) (by decide) rfl (t := 42) rfl tf_RX10_34 dX10_everyOf_16 ?_
    refine r_iln C dX10_everyOf_19 (k := 1) rfl ?_
    refine r_iald C km_42 dX10_everyOf_20 h (fun v2 h => ?_)
    exact r_iretp C hr hlk dX10_everyOf_21 h
  · refine r_aln C dX10_everyOf_8 (k := 0) rfl ?_
    refine r_gf C km_0 clX10 (f := 49) (by decide) rfl rfl rfl tf_RX10_331 dX10_everyOf_9 h (fun v3 h => ?_)
    refine r_goto C (tgt := 21) dX10_everyOf_12 (by decide) ?_
    exact r_iretp C hr hlk dX10_everyOf_21 h
abbrev rm_X10_isComing : Room := { frames := 1, cells := 0, slots := 0, locals := 21 }
theorem mw_X10_isComing : q_mw RX10 yX10_isComing cX10_isComing 3 (some .boolean) 2 := ⟨⟨ti_X10_isComing, tl_X10_isComing, tn_RX10, td_X10_isComing⟩, by decide +kernel⟩
def f_X10_isComing (a0 : Int) (a1 : Int) (M : Mem) : Option Int :=
  q_al M 41 8 a0 fun v1 =>
  if w32 a1 < w32 v1 then (some 0)
  else (q_al M 41 8 a0 fun v2 =>
  q_calp (f_X10_everyOf a0 M) fun r3 =>
  q_nz r3 <| if ¬ w32 ((w32 (a1 - v2)).tmod (w32 r3)) = 0 then (some 0)
  else (some 1))
theorem c_X10_isComing {l : Launch} {D : va_G} {ad : Nat → Nat} {cA : Nat → ClassId} (hi : q_inj syM ad) (a0 : Int) (a1 : Int) (M : Mem) (r0 : Int) (h : f_X10_isComing a0 a1 M = some r0) : q_Met l syM D ad cA yX10_isComing cX10_isComing 3 (some .boolean) rm_X10_isComing [.ref (ad 0), .int (qI a0), .int (qI a1)] M (some (.int (qI r0))) M := by
  refine q_met (L0 := [(0, .ref (ad 0)), (1, .int (qI a0)), (2, .int (qI a1))]) hi okM (by decide) (Nat.le_of_ble_eq_true rfl) rfl ?_
  intro p e s m args below meth c C hr hlk
  unfold f_X10_isComing at h
  refine r_iln C dX10_isComing_0 (k := 2) rfl ?_
  refine r_aln C dX10_isComing_1 (k := 0) rfl ?_
  refine r_gs C km_0 clX10 (f := 9) (by decide) rfl (t := 41) rfl tf_RX10_31 dX10_isComing_2 ?_
  refine r_iln C dX10_isComing_5 (k := 1) rfl ?_
  refine r_iald C km_41 dX10_isComing_6 h (fun v1 h => ?_)
  refine r_clt C (tgt := 31) dX10_isComing_7 (by decide) h (fun h => ?_) (fun h => ?_)
  · refine r_ic C dX10_isComing_31 ?_
    exact r_zretp C (by decide) hr hlk dX10_isComing_32 h
  · refine r_iln C dX10_isComing_10 (k := 2) rfl ?_
    refine r_aln C dX10_isComing_11 (k := 0) rfl ?_
    refine r_gs C km_0 clX10 (f := 9) (by decide) rfl (t := 41) rfl tf_RX10_31 dX10_isComing_12 ?_
    refine r_iln C dX10_isComing_15 (k := 1) rfl ?_
    refine r_iald C km_41 dX10_isComing_16 h (fun v2 h => ?_)
    refine r_isub C dX10_isComing_17 ?_
    refine r_aln C dX10_isComing_18 (k := 0) rfl ?_
    refine r_iln C dX10_isComing_19 (k := 1) rfl ?_
    obtain ⟨r3, hy, h⟩ := q_calp_some h
    refine r_cvi C (st := [.int (qI (a1 - v2))]) (c_X10_everyOf C.2.2.1 a0 M r3 hy) tm_RX10_378 mw_X10_everyOf ⟨rfl, rfl⟩ ⟨Nat.le_of_ble_eq_true rfl, Nat.le_of_ble_eq_true rfl⟩ km_0 clX10 rfl rfl (Nat.le_of_ble_eq_true rfl) dX10_isComing_20 ?_
    refine r_irem C dX10_isComing_23 h (fun h => ?_)
    refine r_zne C (tgt := 31) dX10_isComing_24 (by decide) h (fun h => ?_) (fun h => ?_)
    · refine r_ic C dX10_isComing_31 ?_
      exact r_zretp C (by decide) hr hlk dX10_isComing_32 h
    · refine r_ic C dX10_isComing_27 ?_
      refine r_goto C (tgt := 32) dX10_isComing_28 (by decide) ?_
      exact r_zretp C (by decide) hr hlk dX10_isComing_32 h
abbrev rm_X10_placeOf : Room := { frames := 0, cells := 0, slots := 0, locals := 0 }
theorem mw_X10_placeOf : q_mw RX10 yX10_placeOf cX10_placeOf 4 (some .int) 2 := ⟨⟨ti_X10_placeOf, tl_X10_placeOf, tn_RX10, td_X10_placeOf⟩, by decide +kernel⟩
def f_X10_placeOf_B2 (x1 : Int) (x2 : Int) (M : Mem) (x3 : Int) (g2 : Int → Option Int) : Option Int :=
  q_al M 69 23 x1 fun v1 =>
  if w32 v1 ≤ w32 x3 then (some (-1))
  else (q_al M 70 184 ((8 * x1) + x3) fun v2 =>
  if ¬ w32 v2 = w32 x2 then (g2 (x3 + 1))
  else (some x3))
def f_X10_placeOf_L2 (x1 : Int) (x2 : Int) (M : Mem) (n : Nat) (x3 : Int) : Option Int := qlp1 (fun x3 g2 => f_X10_placeOf_B2 x1 x2 M x3 g2) n x3
theorem w_X10_placeOf_B2 (C : Cx syM p m c cX10_placeOf 4 s args RX10 D ad cA) (hr : meth.sig.returnType = (some .int)) (hlk : meth.locks = false)  (x1 : Int) (x2 : Int) (x3 : Int) (M : Mem) (g2 : Int → Option Int)  (ih2 : ∀ (ux3 : Int) , g2 ux3  = some r0 → WM syM p l e rm_X10_placeOf s m args below meth c 4 D ad cA (MQ below (q_Post syM D ad cA (some (.int (qI r0))) M) args s 0 0 (q_A syM ad)) M 2 [(0, .ref (ad 0)), (1, .int (qI x1)), (2, .int (qI x2)), (3, .int (qI ux3))] []) (h : f_X10_placeOf_B2 x1 x2 M x3 g2 = some r0) : WM syM p l e rm_X10_placeOf s m args below meth c 4 D ad cA (MQ below (q_Post syM D ad cA (some (.int (qI r0))) M) args s 0 0 (q_A syM ad)) M 2 [(0, .ref (ad 0)), (1, .int (qI x1)), (2, .int (qI x2)), (3, .int (qI x3))] [] := by
  unfold f_X10_placeOf_B2 at h
  refine r_iln C dX10_placeOf_2 (k := 3) rfl ?_
  refine r_aln C dX10_placeOf_3 (k := 0) rfl ?_
  refine r_gs C km_0 clX10 (f := 37) (by decide) rfl (t := 69) rfl tf_RX10_78 dX10_placeOf_4 ?_
  refine r_iln C dX10_placeOf_7 (k := 1) rfl ?_
  refine r_iald C km_69 dX10_placeOf_8 h (fun v1 h => ?_)
  refine r_cge C (tgt := 35) dX10_placeOf_9 (by decide) h (fun h => ?_) (fun h => ?_)
  · refine r_ic C dX10_placeOf_35 ?_
    exact r_iretp C hr hlk dX10_placeOf_36 h
  · refine r_aln C dX10_placeOf_12 (k := 0) rfl ?_
    refine r_gs C km_0 clX10 (f := 38) (by decide) rfl (t := 70) rfl tf_RX10_81 dX10_placeOf_13 ?_
    refine r_bi C dX10_placeOf_16 (by decide) ?_
    refine r_iln C dX10_placeOf_18 (k := 1) rfl ?_
    refine r_imul C dX10_placeOf_19 ?_
    refine r_iln C dX10_placeOf_20 (k := 3) rfl ?_
    refine r_iadd C dX10_placeOf_21 ?_
    refine r_iald C km_70 dX10_placeOf_22 h (fun v2 h => ?_)
    refine r_iln C dX10_placeOf_23 (k := 2) rfl ?_
    refine r_cne C (tgt := 29) dX10_placeOf_24 (by decide) h (fun h => ?_) (fun h => ?_)
    · refine r_inc C (L1 := [(3, .int (qI (x3 + 1))), (0, .ref (ad 0)), (1, .int (qI x1)), (2, .int (qI x2))]) dX10_placeOf_29 (k := 3) rfl (by decide) rfl ?_
      refine r_goto C (tgt := 2) dX10_placeOf_32 (by decide) ?_
      refine r_drop [1, 2, 3, 0] rfl ?_
      exact ih2 (x3 + 1)  h
    · refine r_iln C dX10_placeOf_27 (k := 3) rfl ?_
      exact r_iretp C hr hlk dX10_placeOf_28 h
theorem w_X10_placeOf_L2 (C : Cx syM p m c cX10_placeOf 4 s args RX10 D ad cA) (hr : meth.sig.returnType = (some .int)) (hlk : meth.locks = false)  (x1 : Int) (x2 : Int) (M : Mem)  (n : Nat) (x3 : Int) (h : f_X10_placeOf_L2 x1 x2 M n x3 = some r0) : WM syM p l e rm_X10_placeOf s m args below meth c 4 D ad cA (MQ below (q_Post syM D ad cA (some (.int (qI r0))) M) args s 0 0 (q_A syM ad)) M 2 [(0, .ref (ad 0)), (1, .int (qI x1)), (2, .int (qI x2)), (3, .int (qI x3))] [] :=
  qlp1_r (Wp := fun ux3 => WM syM p l e rm_X10_placeOf s m args below meth c 4 D ad cA (MQ below (q_Post syM D ad cA (some (.int (qI r0))) M) args s 0 0 (q_A syM ad)) M 2 [(0, .ref (ad 0)), (1, .int (qI x1)), (2, .int (qI x2)), (3, .int (qI ux3))] []) (fun ux3 g2 ih2 h => w_X10_placeOf_B2 C hr hlk x1 x2 ux3 M g2  ih2 h) n x3 h
def f_X10_placeOf (a0 : Int) (a1 : Int) (M : Mem) : Option Int :=
  f_X10_placeOf_L2 a0 a1 M q_N 0
theorem c_X10_placeOf {l : Launch} {D : va_G} {ad : Nat → Nat} {cA : Nat → ClassId} (hi : q_inj syM ad) (a0 : Int) (a1 : Int) (M : Mem) (r0 : Int) (h : f_X10_placeOf a0 a1 M = some r0) : q_Met l syM D ad cA yX10_placeOf cX10_placeOf 4 (some .int) rm_X10_placeOf [.ref (ad 0), .int (qI a0), .int (qI a1)] M (some (.int (qI r0))) M := by
  refine q_met (L0 := [(0, .ref (ad 0)), (1, .int (qI a0)), (2, .int (qI a1))]) hi okM (by decide) (Nat.le_of_ble_eq_true rfl) rfl ?_
  intro p e s m args below meth c C hr hlk
  unfold f_X10_placeOf at h
  refine r_ic C dX10_placeOf_0 ?_
  refine r_isn C (L1 := [(3, .int (qI 0)), (0, .ref (ad 0)), (1, .int (qI a0)), (2, .int (qI a1))]) dX10_placeOf_1 (by decide) rfl ?_
  refine r_drop [1, 2, 3, 0] rfl ?_
  exact w_X10_placeOf_L2 C hr hlk a0 a1 M  q_N 0 h
abbrev rm_X10_calls : Room := { frames := 1, cells := 0, slots := 0, locals := 23 }
theorem mw_X10_calls : q_mw RX10 yX10_calls cX10_calls 5 none 3 := ⟨⟨ti_X10_calls, tl_X10_calls, tn_RX10, td_X10_calls⟩, by decide +kernel⟩
def f_X10_calls_J105 (x1 : Int) (y0 : Int) (y1 : Int) (M : Mem) : Res :=
  q_as M 64 7 y1 y0 fun M1 =>
  q_al M1 67 23 x1 fun v2 =>
  q_as M1 64 7 6 (w32 v2) fun M3 =>
  some (0, M3)
theorem w_X10_calls_J105 (C : Cx syM p m c cX10_calls 5 s args RX10 D ad cA) (hr : meth.sig.returnType = none) (hlk : meth.locks = false) (x1 : Int) (y0 : Int) (y1 : Int) (M : Mem)  (h : f_X10_calls_J105 x1 y0 y1 M = some (r0, M0)) : WM syM p l e rm_X10_calls s m args below meth c 5 D ad cA (MQ below (q_Post syM D ad cA none M0) args s 0 0 (q_A syM ad)) M 105 [(0, .ref (ad 0)), (1, .int (qI x1))] [.long (qJ y0), .int (qI y1), .ref (ad 64)] := by
  unfold f_X10_calls_J105 at h
  refine r_last C km_64 dX10_calls_105 h (fun M1 h => ?_)
  refine r_aln C dX10_calls_106 (k := 0) rfl ?_
  refine r_gs C km_0 clX10 (f := 32) (by decide) rfl (t := 64) rfl tf_RX10_65 dX10_calls_107 ?_
  refine r_bi C dX10_calls_110 (by decide) ?_
  refine r_aln C dX10_calls_112 (k := 0) rfl ?_
  refine r_gs C km_0 clX10 (f := 35) (by decide) rfl (t := 67) rfl tf_RX10_72 dX10_calls_113 ?_
  refine r_iln C dX10_calls_116 (k := 1) rfl ?_
  refine r_iald C km_67 dX10_calls_117 h (fun v2 h => ?_)
  refine r_i2l C dX10_calls_118 ?_
  refine r_last C km_64 dX10_calls_119 h (fun M3 h => ?_)
  exact r_vret C hr hlk dX10_calls_120 h
def f_X10_calls (a0 : Int) (a1 : Int) (a2 : Int) (M : Mem) : Res :=
  q_calp (f_X10_placeOf a0 a1 M) fun r1 =>
  q_al M 38 16 a1 fun v2 =>
  q_as M 64 7 0 (w32 v2) fun M3 =>
  q_al M3 72 184 ((8 * a0) + a1) fun v4 =>
  q_as M3 64 7 1 (w32 v4) fun M5 =>
  q_al M5 73 184 ((8 * a0) + a1) fun v6 =>
  q_as M5 64 7 2 (w32 v6) fun M7 =>
  q_al M7 67 23 a0 fun v8 =>
  q_al M7 37 16 a1 fun v9 =>
  q_as M7 64 7 3 (w32 (v8 - v9)) fun M10 =>
  q_as M10 64 7 4 (w32 a2) fun M11 =>
  if ¬ w32 r1 = w32 (-1) then (f_X10_calls_J105 a0 (w32 r1) 5 M11)
  else (f_X10_calls_J105 a0 9 5 M11)
theorem c_X10_calls {l : Launch} {D : va_G} {ad : Nat → Nat} {cA : Nat → ClassId} (hi : q_inj syM ad) (a0 : Int) (a1 : Int) (a2 : Int) (M : Mem) (r0 : Int) (M0 : Mem) (h : f_X10_calls a0 a1 a2 M = some (r0, M0)) : q_Met l syM D ad cA yX10_calls cX10_calls 5 none rm_X10_calls [.ref (ad 0), .int (qI a0), .int (qI a1), .int (qI a2)] M none M0 := by
  refine q_met (L0 := [(0, .ref (ad 0)), (1, .int (qI a0)), (2, .int (qI a1)), (3, .int (qI a2))]) hi okM (by decide) (Nat.le_of_ble_eq_true rfl) rfl ?_
  intro p e s m args below meth c C hr hlk
  unfold f_X10_calls at h
  refine r_aln C dX10_calls_0 (k := 0) rfl ?_
  refine r_iln C dX10_calls_1 (k := 1) rfl ?_
  refine r_iln C dX10_calls_2 (k := 2) rfl ?_
  obtain ⟨r1, hy, h⟩ := q_calp_some h
  refine r_cvi C (st := []) (c_X10_placeOf C.2.2.1 a0 a1 M r1 hy) tm_RX10_328 mw_X10_placeOf ⟨rfl, rfl⟩ ⟨Nat.le_of_ble_eq_true rfl, Nat.le_of_ble_eq_true rfl⟩ km_0 clX10 rfl rfl (Nat.le_of_ble_eq_true rfl) dX10_calls_3 ?_
  refine r_is C (L1 := [(4, .int (qI r1)), (0, .ref (ad 0)), (1, .int (qI a0)), (2, .int (qI a1)), (3, .int (qI a2))]) dX10_calls_6 (by decide) rfl ?_
  refine r_aln C dX10_calls_8 (k := 1) rfl ?_
  refine r_gs C km_0 clX10 (f := 32) (by decide) rfl (t := 64) rfl tf_RX10_65 dX10_calls_9 ?_
  refine r_ic C dX10_calls_12 ?_
  refine r_aln C dX10_calls_13 (k := 1) rfl ?_
  refine r_gs C km_0 clX10 (f := 6) (by decide) rfl (t := 38) rfl tf_RX10_22 dX10_calls_14 ?_
  refine r_iln C dX10_calls_17 (k := 3) rfl ?_
  refine r_iald C km_38 dX10_calls_18 h (fun v2 h => ?_)
  refine r_i2l C dX10_calls_19 ?_
  refine r_last C km_64 dX10_calls_20 h (fun M3 h => ?_)
  refine r_aln C dX10_calls_21 (k := 1) rfl ?_
  refine r_gs C km_0 clX10 (f := 32) (by decide) rfl (t := 64) rfl tf_RX10_65 dX10_calls_22 ?_
  refine r_ic C dX10_calls_25 ?_
  refine r_aln C dX10_calls_26 (k := 1) rfl ?_
  refine r_gs C km_0 clX10 (f := 40) (by decide) rfl (t := 72) rfl tf_RX10_87 dX10_calls_27 ?_
  refine r_bi C dX10_calls_30 (by decide) ?_
  refine r_iln C dX10_calls_32 (k := 2) rfl ?_
  refine r_imul C dX10_calls_33 ?_
  refine r_iln C dX10_calls_34 (k := 3) rfl ?_
  refine r_iadd C dX10_calls_35 ?_
  refine r_iald C km_72 dX10_calls_36 h (fun v4 h => ?_)
  refine r_i2l C dX10_calls_37 ?_
  refine r_last C km_64 dX10_calls_38 h (fun M5 h => ?_)
  refine r_aln C dX10_calls_39 (k := 1) rfl ?_
  refine r_gs C km_0 clX10 (f := 32) (by decide) rfl (t := 64) rfl tf_RX10_65 dX10_calls_40 ?_
  refine r_ic C dX10_calls_43 ?_
  refine r_aln C dX10_calls_44 (k := 1) rfl ?_
  refine r_gs C km_0 clX10 (f := 41) (by decide) rfl (t := 73) rfl tf_RX10_90 dX10_calls_45 ?_
  refine r_bi C dX10_calls_48 (by decide) ?_
  refine r_iln C dX10_calls_50 (k := 2) rfl ?_
  refine r_imul C dX10_calls_51 ?_
  refine r_iln C dX10_calls_52 (k := 3) rfl ?_
  refine r_iadd C dX10_calls_53 ?_
  refine r_iald C km_73 dX10_calls_54 h (fun v6 h => ?_)
  refine r_i2l C dX10_calls_55 ?_
  refine r_last C km_64 dX10_calls_56 h (fun M7 h => ?_)
  refine r_aln C dX10_calls_57 (k := 1) rfl ?_
  refine r_gs C km_0 clX10 (f := 32) (by decide) rfl (t := 64) rfl tf_RX10_65 dX10_calls_58 ?_
  refine r_ic C dX10_calls_61 ?_
  refine r_aln C dX10_calls_62 (k := 1) rfl ?_
  refine r_gs C km_0 clX10 (f := 35) (by decide) rfl (t := 67) rfl tf_RX10_72 dX10_calls_63 ?_
  refine r_iln C dX10_calls_66 (k := 2) rfl ?_
  refine r_iald C km_67 dX10_calls_67 h (fun v8 h => ?_)
  refine r_aln C dX10_calls_68 (k := 1) rfl ?_
  refine r_gs C km_0 clX10 (f := 5) (by decide) rfl (t := 37) rfl tf_RX10_19 dX10_calls_69 ?_
  refine r_iln C dX10_calls_72 (k := 3) rfl ?_
  refine r_iald C km_37 dX10_calls_73 h (fun v9 h => ?_)
  refine r_isub C dX10_calls_74 ?_
  refine r_i2l C dX10_calls_75 ?_
  refine r_last C km_64 dX10_calls_76 h (fun M10 h => ?_)
  refine r_aln C dX10_calls_77 (k := 1) rfl ?_
  refine r_gs C km_0 clX10 (f := 32) (by decide) rfl (t := 64) rfl tf_RX10_65 dX10_calls_78 ?_
  refine r_ic C dX10_calls_81 ?_
  refine r_iln C dX10_calls_82 (k := 4) rfl ?_
  refine r_i2l C dX10_calls_83 ?_
  refine r_last C km_64 dX10_calls_84 h (fun M11 h => ?_)
  refine r_aln C dX10_calls_85 (k := 1) rfl ?_
  refine r_gs C km_0 clX10 (f := 32) (by decide) rfl (t := 64) rfl tf_RX10_65 dX10_calls_86 ?_
  refine r_ic C dX10_calls_89 ?_
  refine r_il C dX10_calls_90 (k := 0) rfl ?_
  refine r_ic C dX10_calls_92 ?_
  refine r_cne C (tgt := 102) dX10_calls_93 (by decide) h (fun h => ?_) (fun h => ?_)
  · refine r_il C dX10_calls_102 (k := 0) rfl ?_
    refine r_i2l C dX10_calls_104 ?_
    refine r_drop [1, 2] rfl ?_
    exact w_X10_calls_J105 C hr hlk a0 (w32 r1) 5 M11  h
  · refine r_ldc2 C (x := 9) tc_RX10_334 (by decide) dX10_calls_96 ?_
    refine r_goto C (tgt := 105) dX10_calls_99 (by decide) ?_
    refine r_drop [1, 2] rfl ?_
    exact w_X10_calls_J105 C hr hlk a0 9 5 M11  h
abbrev rm_X10_hasLaw : Room := { frames := 0, cells := 0, slots := 0, locals := 0 }
theorem mw_X10_hasLaw : q_mw RX10 yX10_hasLaw cX10_hasLaw 2 (some .boolean) 1 := ⟨⟨ti_X10_hasLaw, tl_X10_hasLaw, tn_RX10, td_X10_hasLaw⟩, by decide +kernel⟩
def f_X10_hasLaw (a0 : Int) (M : Mem) : Option Int :=
  q_al M 48 6 a0 fun v1 =>
  q_al M 47 6 a0 fun v2 =>
  if w32 v1 ≤ w32 v2 then (some 0)
  else (some 1)
theorem c_X10_hasLaw {l : Launch} {D : va_G} {ad : Nat → Nat} {cA : Nat → ClassId} (hi : q_inj syM ad) (a0 : Int) (M : Mem) (r0 : Int) (h : f_X10_hasLaw a0 M = some r0) : q_Met l syM D ad cA yX10_hasLaw cX10_hasLaw 2 (some .boolean) rm_X10_hasLaw [.ref (ad 0), .int (qI a0)] M (some (.int (qI r0))) M := by
  refine q_met (L0 := [(0, .ref (ad 0)), (1, .int (qI a0))]) hi okM (by decide) (Nat.le_of_ble_eq_true rfl) rfl ?_
  intro p e s m args below meth c C hr hlk
  unfold f_X10_hasLaw at h
  refine r_aln C dX10_hasLaw_0 (k := 0) rfl ?_
  refine r_gs C km_0 clX10 (f := 16) (by decide) rfl (t := 48) rfl tf_RX10_52 dX10_hasLaw_1 ?_
  refine r_iln C dX10_hasLaw_4 (k := 1) rfl ?_
  refine r_iald C km_48 dX10_hasLaw_5 h (fun v1 h => ?_)
  refine r_aln C dX10_hasLaw_6 (k := 0) rfl ?_
  refine r_gs C km_0 clX10 (f := 15) (by decide) rfl (t := 47) rfl tf_RX10_49 dX10_hasLaw_7 ?_
  refine r_iln C dX10_hasLaw_10 (k := 1) rfl ?_
  refine r_iald C km_47 dX10_hasLaw_11 h (fun v2 h => ?_)
  refine r_cle C (tgt := 19) dX10_hasLaw_12 (by decide) h (fun h => ?_) (fun h => ?_)
  · refine r_ic C dX10_hasLaw_19 ?_
    exact r_zretp C (by decide) hr hlk dX10_hasLaw_20 h
  · refine r_ic C dX10_hasLaw_15 ?_
    refine r_goto C (tgt := 20) dX10_hasLaw_16 (by decide) ?_
    exact r_zretp C (by decide) hr hlk dX10_hasLaw_20 h
abbrev rm_X10_is : Room := { frames := 0, cells := 0, slots := 0, locals := 0 }
theorem mw_X10_is : q_ms yX10_is cX10_is 1 (some .long) 1 := ⟨⟨ts_X10_is, tn_RX10, td_X10_is⟩, by decide +kernel⟩
def f_X10_is (a0 : Int) (M : Mem) : Option Int :=
  if w32 a0 = 0 then (some 0)
  else (some 1)
theorem c_X10_is {l : Launch} {D : va_G} {ad : Nat → Nat} {cA : Nat → ClassId} (hi : q_inj syM ad) (a0 : Int) (M : Mem) (r0 : Int) (h : f_X10_is a0 M = some r0) : q_Met l syM D ad cA yX10_is cX10_is 1 (some .long) rm_X10_is [.int (qI a0)] M (some (.long (qJ r0))) M := by
  refine q_met (L0 := [(0, .int (qI a0))]) hi okM (by decide) (Nat.le_of_ble_eq_true rfl) rfl ?_
  intro p e s m args below meth c C hr hlk
  unfold f_X10_is at h
  refine r_iln C dX10_is_0 (k := 0) rfl ?_
  refine r_zeq C (tgt := 8) dX10_is_1 (by decide) h (fun h => ?_) (fun h => ?_)
  · refine r_lc C (x := 0) dX10_is_8 (by decide) ?_
    exact r_lretp C hr hlk dX10_is_9 h
  · refine r_lc C (x := 1) dX10_is_4 (by decide) ?_
    refine r_goto C (tgt := 9) dX10_is_5 (by decide) ?_
    exact r_lretp C hr hlk dX10_is_9 h
abbrev rm_X10_works : Room := { frames := 1, cells := 0, slots := 0, locals := 23 }
theorem mw_X10_works : q_mw RX10 yX10_works cX10_works 8 (some .boolean) 1 := ⟨⟨ti_X10_works, tl_X10_works, tn_RX10, td_X10_works⟩, by decide +kernel⟩
def f_X10_works_J407 (x6 : Int) (M : Mem) : Res :=
  q_gf M 0 34 fun v1 =>
  q_as M 65 64 (v1 - 1) x6 fun M2 =>
  if 0 < w32 (q_cmp x6 1000000000000) then (some (0, M2))
  else (if w32 (q_cmp x6 (-1000000000000)) < 0 then (some (0, M2))
  else (some (1, M2)))
theorem w_X10_works_J407 (C : Cx syM p m c cX10_works 8 s args RX10 D ad cA) (hr : meth.sig.returnType = (some .boolean)) (hlk : meth.locks = false) (x6 : Int) (M : Mem)  (h : f_X10_works_J407 x6 M = some (r0, M0)) : WM syM p l e rm_X10_works s m args below meth c 8 D ad cA (MQ below (q_Post syM D ad cA (some (.int (qI r0))) M0) args s 0 0 (q_A syM ad)) M 407 [(0, .ref (ad 0)), (6, .long (qJ x6))] [] := by
  unfold f_X10_works_J407 at h
  refine r_aln C dX10_works_407 (k := 0) rfl ?_
  refine r_gs C km_0 clX10 (f := 33) (by decide) rfl (t := 65) rfl tf_RX10_69 dX10_works_408 ?_
  refine r_aln C dX10_works_411 (k := 0) rfl ?_
  refine r_gf C km_0 clX10 (f := 34) (by decide) rfl rfl rfl tf_RX10_305 dX10_works_412 h (fun v1 h => ?_)
  refine r_ic C dX10_works_415 ?_
  refine r_isub C dX10_works_416 ?_
  refine r_ll C dX10_works_417 (k := 1) rfl ?_
  refine r_last C km_65 dX10_works_419 h (fun M2 h => ?_)
  refine r_ll C dX10_works_420 (k := 1) rfl ?_
  refine r_ldc2 C (x := 1000000000000) tc_RX10_318 (by decide) dX10_works_422 ?_
  refine r_lcmp C dX10_works_425 ?_
  refine r_zgt C (tgt := 442) dX10_works_426 (by decide) h (fun h => ?_) (fun h => ?_)
  · refine r_ic C dX10_works_442 ?_
    exact r_zret C (by decide) hr hlk dX10_works_443 h
  · refine r_ll C dX10_works_429 (k := 1) rfl ?_
    refine r_ldc2 C (x := (-1000000000000)) tc_RX10_320 (by decide) dX10_works_431 ?_
    refine r_lcmp C dX10_works_434 ?_
    refine r_zlt C (tgt := 442) dX10_works_435 (by decide) h (fun h => ?_) (fun h => ?_)
    · refine r_ic C dX10_works_442 ?_
      exact r_zret C (by decide) hr hlk dX10_works_443 h
    · refine r_ic C dX10_works_438 ?_
      refine r_goto C (tgt := 443) dX10_works_439 (by decide) ?_
      exact r_zret C (by decide) hr hlk dX10_works_443 h
def f_X10_works_J212 (x2 : Int) (x4 : Int) (M : Mem) : Res :=
  f_X10_works_J407 (x4 * x2) M
theorem w_X10_works_J212 (C : Cx syM p m c cX10_works 8 s args RX10 D ad cA) (hr : meth.sig.returnType = (some .boolean)) (hlk : meth.locks = false) (x2 : Int) (x4 : Int) (M : Mem)  (h : f_X10_works_J212 x2 x4 M = some (r0, M0)) : WM syM p l e rm_X10_works s m args below meth c 8 D ad cA (MQ below (q_Post syM D ad cA (some (.int (qI r0))) M0) args s 0 0 (q_A syM ad)) M 212 [(0, .ref (ad 0)), (2, .long (qJ x2)), (4, .long (qJ x4))] [] := by
  unfold f_X10_works_J212 at h
  refine r_ll C dX10_works_212 (k := 2) rfl ?_
  refine r_lln C dX10_works_214 (k := 1) rfl ?_
  refine r_lmul C dX10_works_215 ?_
  refine r_ls C (L1 := [(6, .long (qJ (x4 * x2))), (0, .ref (ad 0)), (2, .long (qJ x2)), (4, .long (qJ x4))]) dX10_works_216 (by decide) rfl ?_
  refine r_goto C (tgt := 407) dX10_works_218 (by decide) ?_
  refine r_drop [1, 0] rfl ?_
  exact w_X10_works_J407 C hr hlk (x4 * x2) M  h
def f_X10_works_J250 (y0 : Int) (M : Mem) : Res :=
  q_calp (f_X10_is y0 M) fun r1 =>
  f_X10_works_J407 r1 M
theorem w_X10_works_J250 (C : Cx syM p m c cX10_works 8 s args RX10 D ad cA) (hr : meth.sig.returnType = (some .boolean)) (hlk : meth.locks = false) (y0 : Int) (M : Mem)  (h : f_X10_works_J250 y0 M = some (r0, M0)) : WM syM p l e rm_X10_works s m args below meth c 8 D ad cA (MQ below (q_Post syM D ad cA (some (.int (qI r0))) M0) args s 0 0 (q_A syM ad)) M 250 [(0, .ref (ad 0))] [.int (qI y0)] := by
  unfold f_X10_works_J250 at h
  obtain ⟨r1, hy, h⟩ := q_calp_some h
  refine r_csl C (st := []) (c_X10_is C.2.2.1 y0 M r1 hy) tm_RX10_308 mw_X10_is ⟨rfl, rfl⟩ ⟨Nat.le_of_ble_eq_true rfl, Nat.le_of_ble_eq_true rfl⟩ rfl rfl (Nat.le_of_ble_eq_true rfl) dX10_works_250 ?_
  refine r_ls C (L1 := [(6, .long (qJ r1)), (0, .ref (ad 0))]) dX10_works_253 (by decide) rfl ?_
  refine r_goto C (tgt := 407) dX10_works_255 (by decide) ?_
  refine r_drop [1, 0] rfl ?_
  exact w_X10_works_J407 C hr hlk r1 M  h
def f_X10_works_J290 (y0 : Int) (M : Mem) : Res :=
  q_calp (f_X10_is y0 M) fun r1 =>
  f_X10_works_J407 r1 M
theorem w_X10_works_J290 (C : Cx syM p m c cX10_works 8 s args RX10 D ad cA) (hr : meth.sig.returnType = (some .boolean)) (hlk : meth.locks = false) (y0 : Int) (M : Mem)  (h : f_X10_works_J290 y0 M = some (r0, M0)) : WM syM p l e rm_X10_works s m args below meth c 8 D ad cA (MQ below (q_Post syM D ad cA (some (.int (qI r0))) M0) args s 0 0 (q_A syM ad)) M 290 [(0, .ref (ad 0))] [.int (qI y0)] := by
  unfold f_X10_works_J290 at h
  obtain ⟨r1, hy, h⟩ := q_calp_some h
  refine r_csl C (st := []) (c_X10_is C.2.2.1 y0 M r1 hy) tm_RX10_308 mw_X10_is ⟨rfl, rfl⟩ ⟨Nat.le_of_ble_eq_true rfl, Nat.le_of_ble_eq_true rfl⟩ rfl rfl (Nat.le_of_ble_eq_true rfl) dX10_works_290 ?_
  refine r_ls C (L1 := [(6, .long (qJ r1)), (0, .ref (ad 0))]) dX10_works_293 (by decide) rfl ?_
  refine r_goto C (tgt := 407) dX10_works_295 (by decide) ?_
  refine r_drop [1, 0] rfl ?_
  exact w_X10_works_J407 C hr hlk r1 M  h
def f_X10_works_J270 (y0 : Int) (M : Mem) : Res :=
  q_calp (f_X10_is y0 M) fun r1 =>
  f_X10_works_J407 r1 M
theorem w_X10_works_J270 (C : Cx syM p m c cX10_works 8 s args RX10 D ad cA) (hr : meth.sig.returnType = (some .boolean)) (hlk : meth.locks = false) (y0 : Int) (M : Mem)  (h : f_X10_works_J270 y0 M = some (r0, M0)) : WM syM p l e rm_X10_works s m args below meth c 8 D ad cA (MQ below (q_Post syM D ad cA (some (.int (qI r0))) M0) args s 0 0 (q_A syM ad)) M 270 [(0, .ref (ad 0))] [.int (qI y0)] := by
  unfold f_X10_works_J270 at h
  obtain ⟨r1, hy, h⟩ := q_calp_some h
  refine r_csl C (st := []) (c_X10_is C.2.2.1 y0 M r1 hy) tm_RX10_308 mw_X10_is ⟨rfl, rfl⟩ ⟨Nat.le_of_ble_eq_true rfl, Nat.le_of_ble_eq_true rfl⟩ rfl rfl (Nat.le_of_ble_eq_true rfl) dX10_works_270 ?_
  refine r_ls C (L1 := [(6, .long (qJ r1)), (0, .ref (ad 0))]) dX10_works_273 (by decide) rfl ?_
  refine r_goto C (tgt := 407) dX10_works_275 (by decide) ?_
  refine r_drop [1, 0] rfl ?_
  exact w_X10_works_J407 C hr hlk r1 M  h
def f_X10_works_J310 (y0 : Int) (M : Mem) : Res :=
  q_calp (f_X10_is y0 M) fun r1 =>
  f_X10_works_J407 r1 M
theorem w_X10_works_J310 (C : Cx syM p m c cX10_works 8 s args RX10 D ad cA) (hr : meth.sig.returnType = (some .boolean)) (hlk : meth.locks = false) (y0 : Int) (M : Mem)  (h : f_X10_works_J310 y0 M = some (r0, M0)) : WM syM p l e rm_X10_works s m args below meth c 8 D ad cA (MQ below (q_Post syM D ad cA (some (.int (qI r0))) M0) args s 0 0 (q_A syM ad)) M 310 [(0, .ref (ad 0))] [.int (qI y0)] := by
  unfold f_X10_works_J310 at h
  obtain ⟨r1, hy, h⟩ := q_calp_some h
  refine r_csl C (st := []) (c_X10_is C.2.2.1 y0 M r1 hy) tm_RX10_308 mw_X10_is ⟨rfl, rfl⟩ ⟨Nat.le_of_ble_eq_true rfl, Nat.le_of_ble_eq_true rfl⟩ rfl rfl (Nat.le_of_ble_eq_true rfl) dX10_works_310 ?_
  refine r_ls C (L1 := [(6, .long (qJ r1)), (0, .ref (ad 0))]) dX10_works_313 (by decide) rfl ?_
  refine r_goto C (tgt := 407) dX10_works_315 (by decide) ?_
  refine r_drop [1, 0] rfl ?_
  exact w_X10_works_J407 C hr hlk r1 M  h
def f_X10_works_J350 (y0 : Int) (M : Mem) : Res :=
  q_calp (f_X10_is y0 M) fun r1 =>
  f_X10_works_J407 r1 M
theorem w_X10_works_J350 (C : Cx syM p m c cX10_works 8 s args RX10 D ad cA) (hr : meth.sig.returnType = (some .boolean)) (hlk : meth.locks = false) (y0 : Int) (M : Mem)  (h : f_X10_works_J350 y0 M = some (r0, M0)) : WM syM p l e rm_X10_works s m args below meth c 8 D ad cA (MQ below (q_Post syM D ad cA (some (.int (qI r0))) M0) args s 0 0 (q_A syM ad)) M 350 [(0, .ref (ad 0))] [.int (qI y0)] := by
  unfold f_X10_works_J350 at h
  obtain ⟨r1, hy, h⟩ := q_calp_some h
  refine r_csl C (st := []) (c_X10_is C.2.2.1 y0 M r1 hy) tm_RX10_308 mw_X10_is ⟨rfl, rfl⟩ ⟨Nat.le_of_ble_eq_true rfl, Nat.le_of_ble_eq_true rfl⟩ rfl rfl (Nat.le_of_ble_eq_true rfl) dX10_works_350 ?_
  refine r_ls C (L1 := [(6, .long (qJ r1)), (0, .ref (ad 0))]) dX10_works_353 (by decide) rfl ?_
  refine r_goto C (tgt := 407) dX10_works_355 (by decide) ?_
  refine r_drop [1, 0] rfl ?_
  exact w_X10_works_J407 C hr hlk r1 M  h
def f_X10_works_J330 (y0 : Int) (M : Mem) : Res :=
  q_calp (f_X10_is y0 M) fun r1 =>
  f_X10_works_J407 r1 M
theorem w_X10_works_J330 (C : Cx syM p m c cX10_works 8 s args RX10 D ad cA) (hr : meth.sig.returnType = (some .boolean)) (hlk : meth.locks = false) (y0 : Int) (M : Mem)  (h : f_X10_works_J330 y0 M = some (r0, M0)) : WM syM p l e rm_X10_works s m args below meth c 8 D ad cA (MQ below (q_Post syM D ad cA (some (.int (qI r0))) M0) args s 0 0 (q_A syM ad)) M 330 [(0, .ref (ad 0))] [.int (qI y0)] := by
  unfold f_X10_works_J330 at h
  obtain ⟨r1, hy, h⟩ := q_calp_some h
  refine r_csl C (st := []) (c_X10_is C.2.2.1 y0 M r1 hy) tm_RX10_308 mw_X10_is ⟨rfl, rfl⟩ ⟨Nat.le_of_ble_eq_true rfl, Nat.le_of_ble_eq_true rfl⟩ rfl rfl (Nat.le_of_ble_eq_true rfl) dX10_works_330 ?_
  refine r_ls C (L1 := [(6, .long (qJ r1)), (0, .ref (ad 0))]) dX10_works_333 (by decide) rfl ?_
  refine r_goto C (tgt := 407) dX10_works_335 (by decide) ?_
  refine r_drop [1, 0] rfl ?_
  exact w_X10_works_J407 C hr hlk r1 M  h
def f_X10_works_J376 (y0 : Int) (M : Mem) : Res :=
  q_calp (f_X10_is y0 M) fun r1 =>
  f_X10_works_J407 r1 M
theorem w_X10_works_J376 (C : Cx syM p m c cX10_works 8 s args RX10 D ad cA) (hr : meth.sig.returnType = (some .boolean)) (hlk : meth.locks = false) (y0 : Int) (M : Mem)  (h : f_X10_works_J376 y0 M = some (r0, M0)) : WM syM p l e rm_X10_works s m args below meth c 8 D ad cA (MQ below (q_Post syM D ad cA (some (.int (qI r0))) M0) args s 0 0 (q_A syM ad)) M 376 [(0, .ref (ad 0))] [.int (qI y0)] := by
  unfold f_X10_works_J376 at h
  obtain ⟨r1, hy, h⟩ := q_calp_some h
  refine r_csl C (st := []) (c_X10_is C.2.2.1 y0 M r1 hy) tm_RX10_308 mw_X10_is ⟨rfl, rfl⟩ ⟨Nat.le_of_ble_eq_true rfl, Nat.le_of_ble_eq_true rfl⟩ rfl rfl (Nat.le_of_ble_eq_true rfl) dX10_works_376 ?_
  refine r_ls C (L1 := [(6, .long (qJ r1)), (0, .ref (ad 0))]) dX10_works_379 (by decide) rfl ?_
  refine r_goto C (tgt := 407) dX10_works_381 (by decide) ?_
  refine r_drop [1, 0] rfl ?_
  exact w_X10_works_J407 C hr hlk r1 M  h
def f_X10_works_J375  (M : Mem) : Res :=
  f_X10_works_J376 0 M
theorem w_X10_works_J375 (C : Cx syM p m c cX10_works 8 s args RX10 D ad cA) (hr : meth.sig.returnType = (some .boolean)) (hlk : meth.locks = false)  (M : Mem)  (h : f_X10_works_J375  M = some (r0, M0)) : WM syM p l e rm_X10_works s m args below meth c 8 D ad cA (MQ below (q_Post syM D ad cA (some (.int (qI r0))) M0) args s 0 0 (q_A syM ad)) M 375 [(0, .ref (ad 0))] [] := by
  unfold f_X10_works_J375 at h
  refine r_ic C dX10_works_375 ?_
  exact w_X10_works_J376 C hr hlk 0 M  h
def f_X10_works_J402 (y0 : Int) (M : Mem) : Res :=
  q_calp (f_X10_is y0 M) fun r1 =>
  f_X10_works_J407 r1 M
theorem w_X10_works_J402 (C : Cx syM p m c cX10_works 8 s args RX10 D ad cA) (hr : meth.sig.returnType = (some .boolean)) (hlk : meth.locks = false) (y0 : Int) (M : Mem)  (h : f_X10_works_J402 y0 M = some (r0, M0)) : WM syM p l e rm_X10_works s m args below meth c 8 D ad cA (MQ below (q_Post syM D ad cA (some (.int (qI r0))) M0) args s 0 0 (q_A syM ad)) M 402 [(0, .ref (ad 0))] [.int (qI y0)] := by
  unfold f_X10_works_J402 at h
  obtain ⟨r1, hy, h⟩ := q_calp_some h
  refine r_csl C (st := []) (c_X10_is C.2.2.1 y0 M r1 hy) tm_RX10_308 mw_X10_is ⟨rfl, rfl⟩ ⟨Nat.le_of_ble_eq_true rfl, Nat.le_of_ble_eq_true rfl⟩ rfl rfl (Nat.le_of_ble_eq_true rfl) dX10_works_402 ?_
  refine r_ls C (L1 := [(6, .long (qJ r1)), (0, .ref (ad 0))]) dX10_works_405 (by decide) rfl ?_
  refine r_drop [1, 0] rfl ?_
  exact w_X10_works_J407 C hr hlk r1 M  h
def f_X10_works_J397  (M : Mem) : Res :=
  f_X10_works_J402 1 M
theorem w_X10_works_J397 (C : Cx syM p m c cX10_works 8 s args RX10 D ad cA) (hr : meth.sig.returnType = (some .boolean)) (hlk : meth.locks = false)  (M : Mem)  (h : f_X10_works_J397  M = some (r0, M0)) : WM syM p l e rm_X10_works s m args below meth c 8 D ad cA (MQ below (q_Post syM D ad cA (some (.int (qI r0))) M0) args s 0 0 (q_A syM ad)) M 397 [(0, .ref (ad 0))] [] := by
  unfold f_X10_works_J397 at h
  refine r_ic C dX10_works_397 ?_
  refine r_goto C (tgt := 402) dX10_works_398 (by decide) ?_
  exact w_X10_works_J402 C hr hlk 1 M  h
def f_X10_works_J40 (y0 : Int) (y1 : Int) (M : Mem) : Res :=
  q_calp (f_X10_is y0 M) fun r1 =>
  q_as M 65 64 y1 r1 fun M2 =>
  some (1, M2)
theorem w_X10_works_J40 (C : Cx syM p m c cX10_works 8 s args RX10 D ad cA) (hr : meth.sig.returnType = (some .boolean)) (hlk : meth.locks = false) (y0 : Int) (y1 : Int) (M : Mem)  (h : f_X10_works_J40 y0 y1 M = some (r0, M0)) : WM syM p l e rm_X10_works s m args below meth c 8 D ad cA (MQ below (q_Post syM D ad cA (some (.int (qI r0))) M0) args s 0 0 (q_A syM ad)) M 40 [] [.int (qI y0), .int (qI y1), .ref (ad 65)] := by
  unfold f_X10_works_J40 at h
  obtain ⟨r1, hy, h⟩ := q_calp_some h
  refine r_csl C (st := [.int (qI y1), .ref (ad 65)]) (c_X10_is C.2.2.1 y0 M r1 hy) tm_RX10_308 mw_X10_is ⟨rfl, rfl⟩ ⟨Nat.le_of_ble_eq_true rfl, Nat.le_of_ble_eq_true rfl⟩ rfl rfl (Nat.le_of_ble_eq_true rfl) dX10_works_40 ?_
  refine r_last C km_65 dX10_works_43 h (fun M2 h => ?_)
  refine r_ic C dX10_works_44 ?_
  exact r_zret C (by decide) hr hlk dX10_works_45 h
def f_X10_works (a0 : Int) (M : Mem) : Res :=
  q_gf M 0 34 fun v1 =>
  q_al M 65 64 (v1 - 1) fun v2 =>
  if ¬ w32 a0 = w32 260 then (q_gf M 0 34 fun v3 =>
  q_al M 65 64 (v3 - 2) fun v4 =>
  q_gf M 0 34 fun v5 =>
  q_pf M 0 34 (v5 - 1) fun M6 =>
  if w32 a0 = 42 then (if w32 (q_cmp v4 0) = 0 then (f_X10_works_J212 v2 v4 M6)
  else (q_nzl (q_absl v4) <| if w32 (q_cmp (q_absl v2) ((w64 1000000000000).tdiv (w64 (q_absl v4)))) ≤ 0 then (f_X10_works_J212 v2 v4 M6)
  else (some (0, M6))))
  else if w32 a0 = 43 then (f_X10_works_J407 (v4 + v2) M6)
  else if w32 a0 = 45 then (f_X10_works_J407 (v4 - v2) M6)
  else if w32 a0 = 47 then (if ¬ w32 (q_cmp v2 0) = 0 then (q_nzl v2 <| f_X10_works_J407 ((w64 v4).tdiv (w64 v2)) M6)
  else (some (0, M6)))
  else if w32 a0 = 60 then (if 0 ≤ w32 (q_cmp v4 v2) then (f_X10_works_J250 0 M6)
  else (f_X10_works_J250 1 M6))
  else if w32 a0 = 61 then (if ¬ w32 (q_cmp v4 v2) = 0 then (f_X10_works_J290 0 M6)
  else (f_X10_works_J290 1 M6))
  else if w32 a0 = 62 then (if w32 (q_cmp v4 v2) ≤ 0 then (f_X10_works_J270 0 M6)
  else (f_X10_works_J270 1 M6))
  else if w32 a0 = 256 then (if 0 < w32 (q_cmp v4 v2) then (f_X10_works_J310 0 M6)
  else (f_X10_works_J310 1 M6))
  else if w32 a0 = 257 then (if w32 (q_cmp v4 v2) = 0 then (f_X10_works_J350 0 M6)
  else (f_X10_works_J350 1 M6))
  else if w32 a0 = 258 then (if w32 (q_cmp v4 v2) < 0 then (f_X10_works_J330 0 M6)
  else (f_X10_works_J330 1 M6))
  else if w32 a0 = 261 then (if w32 (q_cmp v4 0) = 0 then (f_X10_works_J375  M6)
  else (if w32 (q_cmp v2 0) = 0 then (f_X10_works_J375  M6)
  else (f_X10_works_J376 1 M6)))
  else (if ¬ w32 (q_cmp v4 0) = 0 then (f_X10_works_J397  M6)
  else (if w32 (q_cmp v2 0) = 0 then (f_X10_works_J402 0 M6)
  else (f_X10_works_J397  M6))))
  else (q_gf M 0 34 fun v7 =>
  if ¬ w32 (q_cmp v2 0) = 0 then (f_X10_works_J40 0 (v7 - 1) M)
  else (f_X10_works_J40 1 (v7 - 1) M))
theorem c_X10_works {l : Launch} {D : va_G} {ad : Nat → Nat} {cA : Nat → ClassId} (hi : q_inj syM ad) (a0 : Int) (M : Mem) (r0 : Int) (M0 : Mem) (h : f_X10_works a0 M = some (r0, M0)) : q_Met l syM D ad cA yX10_works cX10_works 8 (some .boolean) rm_X10_works [.ref (ad 0), .int (qI a0)] M (some (.int (qI r0))) M0 := by
  refine q_met (L0 := [(0, .ref (ad 0)), (1, .int (qI a0))]) hi okM (by decide) (Nat.le_of_ble_eq_true rfl) rfl ?_
  intro p e s m args below meth c C hr hlk
  unfold f_X10_works at h
  refine r_aln C dX10_works_0 (k := 0) rfl ?_
  refine r_gs C km_0 clX10 (f := 33) (by decide) rfl (t := 65) rfl tf_RX10_69 dX10_works_1 ?_
  refine r_aln C dX10_works_4 (k := 0) rfl ?_
  refine r_gf C km_0 clX10 (f := 34) (by decide) rfl rfl rfl tf_RX10_305 dX10_works_5 h (fun v1 h => ?_)
  refine r_ic C dX10_works_8 ?_
  refine r_isub C dX10_works_9 ?_
  refine r_lald C km_65 dX10_works_10 h (fun v2 h => ?_)
  refine r_lsn C (L1 := [(2, .long (qJ v2)), (0, .ref (ad 0)), (1, .int (qI a0))]) dX10_works_11 (by decide) rfl ?_
  refine r_iln C dX10_works_12 (k := 2) rfl ?_
  refine r_si C dX10_works_13 (by decide) ?_
  refine r_cne C (tgt := 46) dX10_works_16 (by decide) h (fun h => ?_) (fun h => ?_)
  · refine r_aln C dX10_works_46 (k := 1) rfl ?_
    refine r_gs C km_0 clX10 (f := 33) (by decide) rfl (t := 65) rfl tf_RX10_69 dX10_works_47 ?_
    refine r_aln C dX10_works_50 (k := 1) rfl ?_
    refine r_gf C km_0 clX10 (f := 34) (by decide) rfl rfl rfl tf_RX10_305 dX10_works_51 h (fun v3 h => ?_)
    refine r_ic C dX10_works_54 ?_
    refine r_isub C dX10_works_55 ?_
    refine r_lald C km_65 dX10_works_56 h (fun v4 h => ?_)
    refine r_ls C (L1 := [(4, .long (qJ v4)), (2, .long (qJ v2)), (0, .ref (ad 0)), (1, .int (qI a0))]) dX10_works_57 (by decide) rfl ?_
    refine r_aln C dX10_works_59 (k := 2) rfl ?_
    refine r_dup C rfl dX10_works_60 ?_
    refine r_gf C km_0 clX10 (f := 34) (by decide) rfl rfl rfl tf_RX10_305 dX10_works_61 h (fun v5 h => ?_)
    refine r_ic C dX10_works_64 ?_
    refine r_isub C dX10_works_65 ?_
    refine r_pf C km_0 clX10 (f := 34) (by decide) rfl q_dI rfl rfl tf_RX10_305 dX10_works_66 h (fun M6 h => ?_)
    refine r_iln C dX10_works_69 (k := 3) rfl ?_
    refine r_tc C h (fun e h => ?_) (fun ne42 h => ?_)
    · refine r_lk C (tgt := 186) dX10_works_70 (by decide) e rfl (by decide) ?_
      refine r_ll C dX10_works_186 (k := 0) rfl ?_
      refine r_lc C (x := 0) dX10_works_188 (by decide) ?_
      refine r_lcmp C dX10_works_189 ?_
      refine r_zeq C (tgt := 212) dX10_works_190 (by decide) h (fun h => ?_) (fun h => ?_)
      · refine r_drop [2, 1, 0] rfl ?_
        exact w_X10_works_J212 C hr hlk v2 v4 M6  h
      · refine r_lln C dX10_works_193 (k := 1) rfl ?_
        refine r_q_absl C (st := []) tm_RX10_312 ⟨Nat.le_of_ble_eq_true rfl, Nat.le_of_ble_eq_true rfl⟩ dX10_works_194 ?_
        refine r_ldc2 C (x := 1000000000000) tc_RX10_318 (by decide) dX10_works_197 ?_
        refine r_ll C dX10_works_200 (k := 0) rfl ?_
        refine r_q_absl C (st := [.long (qJ 1000000000000), .long (qJ (q_absl v2))]) tm_RX10_312 ⟨Nat.le_of_ble_eq_true rfl, Nat.le_of_ble_eq_true rfl⟩ dX10_works_202 ?_
        refine r_ldiv C dX10_works_205 h (fun h => ?_)
        refine r_lcmp C dX10_works_206 ?_
        refine r_zle C (tgt := 212) dX10_works_207 (by decide) h (fun h => ?_) (fun h => ?_)
        · refine r_drop [2, 1, 0] rfl ?_
          exact w_X10_works_J212 C hr hlk v2 v4 M6  h
        · refine r_ic C dX10_works_210 ?_
          exact r_zret C (by decide) hr hlk dX10_works_211 h
    refine r_tc C h (fun e h => ?_) (fun ne43 h => ?_)
    · refine r_lk C (tgt := 168) dX10_works_70 (by decide) e rfl (by decide) ?_
      refine r_ll C dX10_works_168 (k := 0) rfl ?_
      refine r_lln C dX10_works_170 (k := 1) rfl ?_
      refine r_ladd C dX10_works_171 ?_
      refine r_ls C (L1 := [(6, .long (qJ (v4 + v2))), (4, .long (qJ v4)), (2, .long (qJ v2)), (0, .ref (ad 0)), (1, .int (qI a0))]) dX10_works_172 (by decide) rfl ?_
      refine r_goto C (tgt := 407) dX10_works_174 (by decide) ?_
      refine r_drop [3, 0] rfl ?_
      exact w_X10_works_J407 C hr hlk (v4 + v2) M6  h
    refine r_tc C h (fun e h => ?_) (fun ne45 h => ?_)
    · refine r_lk C (tgt := 177) dX10_works_70 (by decide) e rfl (by decide) ?_
      refine r_ll C dX10_works_177 (k := 0) rfl ?_
      refine r_lln C dX10_works_179 (k := 1) rfl ?_
      refine r_lsub C dX10_works_180 ?_
      refine r_ls C (L1 := [(6, .long (qJ (v4 - v2))), (4, .long (qJ v4)), (2, .long (qJ v2)), (0, .ref (ad 0)), (1, .int (qI a0))]) dX10_works_181 (by decide) rfl ?_
      refine r_goto C (tgt := 407) dX10_works_183 (by decide) ?_
      refine r_drop [3, 0] rfl ?_
      exact w_X10_works_J407 C hr hlk (v4 - v2) M6  h
    refine r_tc C h (fun e h => ?_) (fun ne47 h => ?_)
    · refine r_lk C (tgt := 221) dX10_works_70 (by decide) e rfl (by decide) ?_
      refine r_lln C dX10_works_221 (k := 1) rfl ?_
      refine r_lc C (x := 0) dX10_works_222 (by decide) ?_
      refine r_lcmp C dX10_works_223 ?_
      refine r_zne C (tgt := 229) dX10_works_224 (by decide) h (fun h => ?_) (fun h => ?_)
      · refine r_ll C dX10_works_229 (k := 0) rfl ?_
        refine r_lln C dX10_works_231 (k := 1) rfl ?_
        refine r_ldiv C dX10_works_232 h (fun h => ?_)
        refine r_ls C (L1 := [(6, .long (qJ ((w64 v4).tdiv (w64 v2)))), (4, .long (qJ v4)), (2, .long (qJ v2)), (0, .ref (ad 0)), (1, .int (qI a0))]) dX10_works_233 (by decide) rfl ?_
        refine r_goto C (tgt := 407) dX10_works_235 (by decide) ?_
        refine r_drop [3, 0] rfl ?_
        exact w_X10_works_J407 C hr hlk ((w64 v4).tdiv (w64 v2)) M6  h
      · refine r_ic C dX10_works_227 ?_
        exact r_zret C (by decide) hr hlk dX10_works_228 h
    refine r_tc C h (fun e h => ?_) (fun ne60 h => ?_)
    · refine r_lk C (tgt := 238) dX10_works_70 (by decide) e rfl (by decide) ?_
      refine r_ll C dX10_works_238 (k := 0) rfl ?_
      refine r_lln C dX10_works_240 (k := 1) rfl ?_
      refine r_lcmp C dX10_works_241 ?_
      refine r_zge C (tgt := 249) dX10_works_242 (by decide) h (fun h => ?_) (fun h => ?_)
      · refine r_ic C dX10_works_249 ?_
        refine r_drop [2] rfl ?_
        exact w_X10_works_J250 C hr hlk 0 M6  h
      · refine r_ic C dX10_works_245 ?_
        refine r_goto C (tgt := 250) dX10_works_246 (by decide) ?_
        refine r_drop [2] rfl ?_
        exact w_X10_works_J250 C hr hlk 1 M6  h
    refine r_tc C h (fun e h => ?_) (fun ne61 h => ?_)
    · refine r_lk C (tgt := 278) dX10_works_70 (by decide) e rfl (by decide) ?_
      refine r_ll C dX10_works_278 (k := 0) rfl ?_
      refine r_lln C dX10_works_280 (k := 1) rfl ?_
      refine r_lcmp C dX10_works_281 ?_
      refine r_zne C (tgt := 289) dX10_works_282 (by decide) h (fun h => ?_) (fun h => ?_)
      · refine r_ic C dX10_works_289 ?_
        refine r_drop [2] rfl ?_
        exact w_X10_works_J290 C hr hlk 0 M6  h
      · refine r_ic C dX10_works_285 ?_
        refine r_goto C (tgt := 290) dX10_works_286 (by decide) ?_
        refine r_drop [2] rfl ?_
        exact w_X10_works_J290 C hr hlk 1 M6  h
    refine r_tc C h (fun e h => ?_) (fun ne62 h => ?_)
    · refine r_lk C (tgt := 258) dX10_works_70 (by decide) e rfl (by decide) ?_
      refine r_ll C dX10_works_258 (k := 0) rfl ?_
      refine r_lln C dX10_works_260 (k := 1) rfl ?_
      refine r_lcmp C dX10_works_261 ?_
      refine r_zle C (tgt := 269) dX10_works_262 (by decide) h (fun h => ?_) (fun h => ?_)
      · refine r_ic C dX10_works_269 ?_
        refine r_drop [2] rfl ?_
        exact w_X10_works_J270 C hr hlk 0 M6  h
      · refine r_ic C dX10_works_265 ?_
        refine r_goto C (tgt := 270) dX10_works_266 (by decide) ?_
        refine r_drop [2] rfl ?_
        exact w_X10_works_J270 C hr hlk 1 M6  h
    refine r_tc C h (fun e h => ?_) (fun ne256 h => ?_)
    · refine r_lk C (tgt := 298) dX10_works_70 (by decide) e rfl (by decide) ?_
      refine r_ll C dX10_works_298 (k := 0) rfl ?_
      refine r_lln C dX10_works_300 (k := 1) rfl ?_
      refine r_lcmp C dX10_works_301 ?_
      refine r_zgt C (tgt := 309) dX10_works_302 (by decide) h (fun h => ?_) (fun h => ?_)
      · refine r_ic C dX10_works_309 ?_
        refine r_drop [2] rfl ?_
        exact w_X10_works_J310 C hr hlk 0 M6  h
      · refine r_ic C dX10_works_305 ?_
        refine r_goto C (tgt := 310) dX10_works_306 (by decide) ?_
        refine r_drop [2] rfl ?_
        exact w_X10_works_J310 C hr hlk 1 M6  h
    refine r_tc C h (fun e h => ?_) (fun ne257 h => ?_)
    · refine r_lk C (tgt := 338) dX10_works_70 (by decide) e rfl (by decide) ?_
      refine r_ll C dX10_works_338 (k := 0) rfl ?_
      refine r_lln C dX10_works_340 (k := 1) rfl ?_
      refine r_lcmp C dX10_works_341 ?_
      refine r_zeq C (tgt := 349) dX10_works_342 (by decide) h (fun h => ?_) (fun h => ?_)
      · refine r_ic C dX10_works_349 ?_
        refine r_drop [2] rfl ?_
        exact w_X10_works_J350 C hr hlk 0 M6  h
      · refine r_ic C dX10_works_345 ?_
        refine r_goto C (tgt := 350) dX10_works_346 (by decide) ?_
        refine r_drop [2] rfl ?_
        exact w_X10_works_J350 C hr hlk 1 M6  h
    refine r_tc C h (fun e h => ?_) (fun ne258 h => ?_)
    · refine r_lk C (tgt := 318) dX10_works_70 (by decide) e rfl (by decide) ?_
      refine r_ll C dX10_works_318 (k := 0) rfl ?_
      refine r_lln C dX10_works_320 (k := 1) rfl ?_
      refine r_lcmp C dX10_works_321 ?_
      refine r_zlt C (tgt := 329) dX10_works_322 (by decide) h (fun h => ?_) (fun h => ?_)
      · refine r_ic C dX10_works_329 ?_
        refine r_drop [2] rfl ?_
        exact w_X10_works_J330 C hr hlk 0 M6  h
      · refine r_ic C dX10_works_325 ?_
        refine r_goto C (tgt := 330) dX10_works_326 (by decide) ?_
        refine r_drop [2] rfl ?_
        exact w_X10_works_J330 C hr hlk 1 M6  h
    refine r_tc C h (fun e h => ?_) (fun ne261 h => ?_)
    · refine r_lk C (tgt := 358) dX10_works_70 (by decide) e rfl (by decide) ?_
      refine r_ll C dX10_works_358 (k := 0) rfl ?_
      refine r_lc C (x := 0) dX10_works_360 (by decide) ?_
      refine r_lcmp C dX10_works_361 ?_
      refine r_zeq C (tgt := 375) dX10_works_362 (by decide) h (fun h => ?_) (fun h => ?_)
      · refine r_drop [2] rfl ?_
        exact w_X10_works_J375 C hr hlk  M6  h
      · refine r_lln C dX10_works_365 (k := 1) rfl ?_
        refine r_lc C (x := 0) dX10_works_366 (by decide) ?_
        refine r_lcmp C dX10_works_367 ?_
        refine r_zeq C (tgt := 375) dX10_works_368 (by decide) h (fun h => ?_) (fun h => ?_)
        · refine r_drop [2] rfl ?_
          exact w_X10_works_J375 C hr hlk  M6  h
        · refine r_ic C dX10_works_371 ?_
          refine r_goto C (tgt := 376) dX10_works_372 (by decide) ?_
          refine r_drop [2] rfl ?_
          exact w_X10_works_J376 C hr hlk 1 M6  h
    refine r_lk C (tgt := 384) (k := w32 a0) dX10_works_70 (by decide) rfl (off := 314) (by simp only [Op.lookupswitch.offset]; rw [if_neg (fun q => ne42 q.symm)]; rw [if_neg (fun q => ne43 q.symm)]; rw [if_neg (fun q => ne45 q.symm)]; rw [if_neg (fun q => ne47 q.symm)]; rw [if_neg (fun q => ne60 q.symm)]; rw [if_neg (fun q => ne61 q.symm)]; rw [if_neg (fun q => ne62 q.symm)]; rw [if_neg (fun q => ne256 q.symm)]; rw [if_neg (fun q => ne257 q.symm)]; rw [if_neg (fun q => ne258 q.symm)]; rw [if_neg (fun q => ne261 q.symm)]) (by decide) ?_
    refine r_ll C dX10_works_384 (k := 0) rfl ?_
    refine r_lc C (x := 0) dX10_works_386 (by decide) ?_
    refine r_lcmp C dX10_works_387 ?_
    refine r_zne C (tgt := 397) dX10_works_388 (by decide) h (fun h => ?_) (fun h => ?_)
    · refine r_drop [2] rfl ?_
      exact w_X10_works_J397 C hr hlk  M6  h
    · refine r_lln C dX10_works_391 (k := 1) rfl ?_
      refine r_lc C (x := 0) dX10_works_392 (by decide) ?_
      refine r_lcmp C dX10_works_393 ?_
      refine r_zeq C (tgt := 401) dX10_works_394 (by decide) h (fun h => ?_) (fun h => ?_)
      · refine r_ic C dX10_works_401 ?_
        refine r_drop [2] rfl ?_
        exact w_X10_works_J402 C hr hlk 0 M6  h
      · refine r_drop [2] rfl ?_
        exact w_X10_works_J397 C hr hlk  M6  h
  · refine r_aln C dX10_works_19 (k := 1) rfl ?_
    refine r_gs C km_0 clX10 (f := 33) (by decide) rfl (t := 65) rfl tf_RX10_69 dX10_works_20 ?_
    refine r_aln C dX10_works_23 (k := 1) rfl ?_
    refine r_gf C km_0 clX10 (f := 34) (by decide) rfl rfl rfl tf_RX10_305 dX10_works_24 h (fun v7 h => ?_)
    refine r_ic C dX10_works_27 ?_
    refine r_isub C dX10_works_28 ?_
    refine r_lln C dX10_works_29 (k := 0) rfl ?_
    refine r_lc C (x := 0) dX10_works_30 (by decide) ?_
    refine r_lcmp C dX10_works_31 ?_
    refine r_zne C (tgt := 39) dX10_works_32 (by decide) h (fun h => ?_) (fun h => ?_)
    · refine r_ic C dX10_works_39 ?_
      refine r_drop [] rfl ?_
      exact w_X10_works_J40 C hr hlk 0 (v7 - 1) M  h
    · refine r_ic C dX10_works_35 ?_
      refine r_goto C (tgt := 40) dX10_works_36 (by decide) ?_
      refine r_drop [] rfl ?_
      exact w_X10_works_J40 C hr hlk 1 (v7 - 1) M  h
abbrev rm_X10_comesOut : Room := { frames := 2, cells := 0, slots := 0, locals := 50 }
theorem mw_X10_comesOut : q_mw RX10 yX10_comesOut cX10_comesOut 3 (some .boolean) 1 := ⟨⟨ti_X10_comesOut, tl_X10_comesOut, tn_RX10, td_X10_comesOut⟩, by decide +kernel⟩
def f_X10_comesOut_J85 (g12 : Int → Mem → Res) (x1 : Int) (x2 : Int) (y0 : Int) (y1 : Int) (M : Mem) : Res :=
  q_as M 65 64 y1 y0 fun M1 =>
  q_gf M1 0 34 fun v2 =>
  q_pf M1 0 34 (v2 + 1) fun M3 =>
  g12 (x2 + 1) M3
theorem w_X10_comesOut_J85 (C : Cx syM p m c cX10_comesOut 3 s args RX10 D ad cA) (hr : meth.sig.returnType = (some .boolean)) (hlk : meth.locks = false) (g12 : Int → Mem → Res) (x1 : Int) (x2 : Int) (y0 : Int) (y1 : Int) (M : Mem) (ih12 : ∀ (ux2 : Int) (M : Mem), g12 ux2 M = some (r0, M0) → WM syM p l e rm_X10_comesOut s m args below meth c 3 D ad cA (MQ below (q_Post syM D ad cA (some (.int (qI r0))) M0) args s 0 0 (q_A syM ad)) M 12 [(0, .ref (ad 0)), (1, .int (qI x1)), (2, .int (qI ux2))] []) (h : f_X10_comesOut_J85 g12 x1 x2 y0 y1 M = some (r0, M0)) : WM syM p l e rm_X10_comesOut s m args below meth c 3 D ad cA (MQ below (q_Post syM D ad cA (some (.int (qI r0))) M0) args s 0 0 (q_A syM ad)) M 85 [(0, .ref (ad 0)), (1, .int (qI x1)), (2, .int (qI x2))] [.long (qJ y0), .int (qI y1), .ref (ad 65)] := by
  unfold f_X10_comesOut_J85 at h
  refine r_last C km_65 dX10_comesOut_85 h (fun M1 h => ?_)
  refine r_aln C dX10_comesOut_86 (k := 0) rfl ?_
  refine r_dup C rfl dX10_comesOut_87 ?_
  refine r_gf C km_0 clX10 (f := 34) (by decide) rfl rfl rfl tf_RX10_305 dX10_comesOut_88 h (fun v2 h => ?_)
  refine r_ic C dX10_comesOut_91 ?_
  refine r_iadd C dX10_comesOut_92 ?_
  refine r_pf C km_0 clX10 (f := 34) (by decide) rfl q_dI rfl rfl tf_RX10_305 dX10_comesOut_93 h (fun M3 h => ?_)
  refine r_inc C (L1 := [(2, .int (qI (x2 + 1))), (0, .ref (ad 0)), (1, .int (qI x1))]) dX10_comesOut_96 (k := 2) rfl (by decide) rfl ?_
  refine r_goto C (tgt := 12) dX10_comesOut_99 (by decide) ?_
  refine r_drop [1, 2, 0] rfl ?_
  exact ih12 (x2 + 1) M3 h
def f_X10_comesOut_B12 (x1 : Int) (x2 : Int) (M : Mem) (g12 : Int → Mem → Res) : Res :=
  q_al M 48 6 x1 fun v1 =>
  if w32 v1 ≤ w32 x2 then (some (1, M))
  else (q_al M 49 128 x2 fun v2 =>
  if ¬ w32 v2 = w32 2 then (q_gf M 0 34 fun v3 =>
  q_al M 49 128 x2 fun v4 =>
  if ¬ w32 v4 = 0 then (q_al M 50 128 x2 fun v5 =>
  q_al M 64 7 v5 fun v6 =>
  f_X10_comesOut_J85 g12 x1 x2 v6 v3 M)
  else (q_al M 50 128 x2 fun v7 =>
  f_X10_comesOut_J85 g12 x1 x2 (w32 v7) v3 M))
  else (q_al M 50 128 x2 fun v8 =>
  q_call (f_X10_works v8 M) fun r9 M10 =>
  if ¬ w32 r9 = 0 then (g12 (x2 + 1) M10)
  else (some (0, M10))))
def f_X10_comesOut_L12 (x1 : Int) (n : Nat) (x2 : Int) (M : Mem) : Res := qlm1 (fun x2 M g12 => f_X10_comesOut_B12 x1 x2 M g12) n x2 M
theorem w_X10_comesOut_B12 (C : Cx syM p m c cX10_comesOut 3 s args RX10 D ad cA) (hr : meth.sig.returnType = (some .boolean)) (hlk : meth.locks = false)  (x1 : Int) (x2 : Int) (M : Mem) (g12 : Int → Mem → Res)  (ih12 : ∀ (ux2 : Int) (M : Mem), g12 ux2 M = some (r0, M0) → WM syM p l e rm_X10_comesOut s m args below meth c 3 D ad cA (MQ below (q_Post syM D ad cA (some (.int (qI r0))) M0) args s 0 0 (q_A syM ad)) M 12 [(0, .ref (ad 0)), (1, .int (qI x1)), (2, .int (qI ux2))] []) (h : f_X10_comesOut_B12 x1 x2 M g12 = some (r0, M0)) : WM syM p l e rm_X10_comesOut s m args below meth c 3 D ad cA (MQ below (q_Post syM D ad cA (some (.int (qI r0))) M0) args s 0 0 (q_A syM ad)) M 12 [(0, .ref (ad 0)), (1, .int (qI x1)), (2, .int (qI x2))] [] := by
  unfold f_X10_comesOut_B12 at h
  refine r_iln C dX10_comesOut_12 (k := 2) rfl ?_
  refine r_aln C dX10_comesOut_13 (k := 0) rfl ?_
  refine r_gs C km_0 clX10 (f := 16) (by decide) rfl (t := 48) rfl tf_RX10_52 dX10_comesOut_14 ?_
  refine r_iln C dX10_comesOut_17 (k := 1) rfl ?_
  refine r_iald C km_48 dX10_comesOut_18 h (fun v1 h => ?_)
  refine r_cge C (tgt := 102) dX10_comesOut_19 (by decide) h (fun h => ?_) (fun h => ?_)
  · refine r_ic C dX10_comesOut_102 ?_
    exact r_zret C (by decide) hr hlk dX10_comesOut_103 h
  · refine r_aln C dX10_comesOut_22 (k := 0) rfl ?_
    refine r_gs C km_0 clX10 (f := 17) (by decide) rfl (t := 49) rfl tf_RX10_55 dX10_comesOut_23 ?_
    refine r_iln C dX10_comesOut_26 (k := 2) rfl ?_
    refine r_iald C km_49 dX10_comesOut_27 h (fun v2 h => ?_)
    refine r_ic C dX10_comesOut_28 ?_
    refine r_cne C (tgt := 47) dX10_comesOut_29 (by decide) h (fun h => ?_) (fun h => ?_)
    · refine r_aln C dX10_comesOut_47 (k := 0) rfl ?_
      refine r_gs C km_0 clX10 (f := 33) (by decide) rfl (t := 65) rfl tf_RX10_69 dX10_comesOut_48 ?_
      refine r_aln C dX10_comesOut_51 (k := 0) rfl ?_
      refine r_gf C km_0 clX10 (f := 34) (by decide) rfl rfl rfl tf_RX10_305 dX10_comesOut_52 h (fun v3 h => ?_)
      refine r_aln C dX10_comesOut_55 (k := 0) rfl ?_
      refine r_gs C km_0 clX10 (f := 17) (by decide) rfl (t := 49) rfl tf_RX10_55 dX10_comesOut_56 ?_
      refine r_iln C dX10_comesOut_59 (k := 2) rfl ?_
      refine r_iald C km_49 dX10_comesOut_60 h (fun v4 h => ?_)
      refine r_zne C (tgt := 74) dX10_comesOut_61 (by decide) h (fun h => ?_) (fun h => ?_)
      · refine r_aln C dX10_comesOut_74 (k := 0) rfl ?_
        refine r_gs C km_0 clX10 (f := 32) (by decide) rfl (t := 64) rfl tf_RX10_65 dX10_comesOut_75 ?_
        refine r_aln C dX10_comesOut_78 (k := 0) rfl ?_
        refine r_gs C km_0 clX10 (f := 18) (by decide) rfl (t := 50) rfl tf_RX10_58 dX10_comesOut_79 ?_
        refine r_iln C dX10_comesOut_82 (k := 2) rfl ?_
        refine r_iald C km_50 dX10_comesOut_83 h (fun v5 h => ?_)
        refine r_lald C km_64 dX10_comesOut_84 h (fun v6 h => ?_)
        exact w_X10_comesOut_J85 C hr hlk g12 x1 x2 v6 v3 M ih12 h
      · refine r_aln C dX10_comesOut_64 (k := 0) rfl ?_
        refine r_gs C km_0 clX10 (f := 18) (by decide) rfl (t := 50) rfl tf_RX10_58 dX10_comesOut_65 ?_
        refine r_iln C dX10_comesOut_68 (k := 2) rfl ?_
        refine r_iald C km_50 dX10_comesOut_69 h (fun v7 h => ?_)
        refine r_i2l C dX10_comesOut_70 ?_
        refine r_goto C (tgt := 85) dX10_comesOut_71 (by decide) ?_
        exact w_X10_comesOut_J85 C hr hlk g12 x1 x2 (w32 v7) v3 M ih12 h
    · refine r_aln C dX10_comesOut_32 (k := 0) rfl ?_
      refine r_aln C dX10_comesOut_33 (k := 0) rfl ?_
      refine r_gs C km_0 clX10 (f := 18) (by decide) rfl (t := 50) rfl tf_RX10_58 dX10_comesOut_34 ?_
      refine r_iln C dX10_comesOut_37 (k := 2) rfl ?_
      refine r_iald C km_50 dX10_comesOut_38 h (fun v8 h => ?_)
      obtain ⟨r9, M10, hy, h⟩ := q_call_some h
      refine r_cvi C (st := []) (c_X10_works C.2.2.1 v8 M r9 M10 hy) tm_RX10_322 mw_X10_works ⟨rfl, rfl⟩ ⟨Nat.le_of_ble_eq_true rfl, Nat.le_of_ble_eq_true rfl⟩ km_0 clX10 rfl rfl (Nat.le_of_ble_eq_true rfl) dX10_comesOut_39 ?_
      refine r_zne C (tgt := 96) dX10_comesOut_42 (by decide) h (fun h => ?_) (fun h => ?_)
      · refine r_inc C (L1 := [(2, .int (qI (x2 + 1))), (0, .ref (ad 0)), (1, .int (qI x1))]) dX10_comesOut_96 (k := 2) rfl (by decide) rfl ?_
        refine r_goto C (tgt := 12) dX10_comesOut_99 (by decide) ?_
        refine r_drop [1, 2, 0] rfl ?_
        exact ih12 (x2 + 1) M10 h
      · refine r_ic C dX10_comesOut_45 ?_
        exact r_zret C (by decide) hr hlk dX10_comesOut_46 h
theorem w_X10_comesOut_L12 (C : Cx syM p m c cX10_comesOut 3 s args RX10 D ad cA) (hr : meth.sig.returnType = (some .boolean)) (hlk : meth.locks = false)  (x1 : Int)  (n : Nat) (x2 : Int) (M : Mem) (h : f_X10_comesOut_L12 x1 n x2 M = some (r0, M0)) : WM syM p l e rm_X10_comesOut s m args below meth c 3 D ad cA (MQ below (q_Post syM D ad cA (some (.int (qI r0))) M0) args s 0 0 (q_A syM ad)) M 12 [(0, .ref (ad 0)), (1, .int (qI x1)), (2, .int (qI x2))] [] :=
  qlm1_r (Wp := fun ux2 M => WM syM p l e rm_X10_comesOut s m args below meth c 3 D ad cA (MQ below (q_Post syM D ad cA (some (.int (qI r0))) M0) args s 0 0 (q_A syM ad)) M 12 [(0, .ref (ad 0)), (1, .int (qI x1)), (2, .int (qI ux2))] []) (fun ux2 M g12 ih12 h => w_X10_comesOut_B12 C hr hlk x1 ux2 M g12  ih12 h) n x2 M h
def f_X10_comesOut (a0 : Int) (M : Mem) : Res :=
  q_pf M 0 34 0 fun M1 =>
  q_al M1 47 6 a0 fun v2 =>
  f_X10_comesOut_L12 a0 q_N v2 M1
theorem c_X10_comesOut {l : Launch} {D : va_G} {ad : Nat → Nat} {cA : Nat → ClassId} (hi : q_inj syM ad) (a0 : Int) (M : Mem) (r0 : Int) (M0 : Mem) (h : f_X10_comesOut a0 M = some (r0, M0)) : q_Met l syM D ad cA yX10_comesOut cX10_comesOut 3 (some .boolean) rm_X10_comesOut [.ref (ad 0), .int (qI a0)] M (some (.int (qI r0))) M0 := by
  refine q_met (L0 := [(0, .ref (ad 0)), (1, .int (qI a0))]) hi okM (by decide) (Nat.le_of_ble_eq_true rfl) rfl ?_
  intro p e s m args below meth c C hr hlk
  unfold f_X10_comesOut at h
  refine r_aln C dX10_comesOut_0 (k := 0) rfl ?_
  refine r_ic C dX10_comesOut_1 ?_
  refine r_pf C km_0 clX10 (f := 34) (by decide) rfl q_dI rfl rfl tf_RX10_305 dX10_comesOut_2 h (fun M1 h => ?_)
  refine r_aln C dX10_comesOut_5 (k := 0) rfl ?_
  refine r_gs C km_0 clX10 (f := 15) (by decide) rfl (t := 47) rfl tf_RX10_49 dX10_comesOut_6 ?_
  refine r_iln C dX10_comesOut_9 (k := 1) rfl ?_
  refine r_iald C km_47 dX10_comesOut_10 h (fun v2 h => ?_)
  refine r_isn C (L1 := [(2, .int (qI v2)), (0, .ref (ad 0)), (1, .int (qI a0))]) dX10_comesOut_11 (by decide) rfl ?_
  refine r_drop [1, 2, 0] rfl ?_
  exact w_X10_comesOut_L12 C hr hlk a0  q_N v2 M1 h
abbrev rm_X10_mayRide : Room := { frames := 3, cells := 0, slots := 0, locals := 72 }
theorem mw_X10_mayRide : q_mw RX10 yX10_mayRide cX10_mayRide 4 (some .boolean) 3 := ⟨⟨ti_X10_mayRide, tl_X10_mayRide, tn_RX10, td_X10_mayRide⟩, by decide +kernel⟩
def f_X10_mayRide_J38 (x1 : Int) (x2 : Int) (x3 : Int) (M : Mem) : Res :=
  q_al M 72 184 ((8 * x1) + x2) fun v1 =>
  q_al M 44 8 x3 fun v2 =>
  if w32 v1 < w32 v2 then (some (0, M))
  else (some (1, M))
theorem w_X10_mayRide_J38 (C : Cx syM p m c cX10_mayRide 4 s args RX10 D ad cA) (hr : meth.sig.returnType = (some .boolean)) (hlk : meth.locks = false) (x1 : Int) (x2 : Int) (x3 : Int) (M : Mem)  (h : f_X10_mayRide_J38 x1 x2 x3 M = some (r0, M0)) : WM syM p l e rm_X10_mayRide s m args below meth c 4 D ad cA (MQ below (q_Post syM D ad cA (some (.int (qI r0))) M0) args s 0 0 (q_A syM ad)) M 38 [(0, .ref (ad 0)), (1, .int (qI x1)), (2, .int (qI x2)), (3, .int (qI x3))] [] := by
  unfold f_X10_mayRide_J38 at h
  refine r_aln C dX10_mayRide_38 (k := 0) rfl ?_
  refine r_gs C km_0 clX10 (f := 40) (by decide) rfl (t := 72) rfl tf_RX10_87 dX10_mayRide_39 ?_
  refine r_bi C dX10_mayRide_42 (by decide) ?_
  refine r_iln C dX10_mayRide_44 (k := 1) rfl ?_
  refine r_imul C dX10_mayRide_45 ?_
  refine r_iln C dX10_mayRide_46 (k := 2) rfl ?_
  refine r_iadd C dX10_mayRide_47 ?_
  refine r_iald C km_72 dX10_mayRide_48 h (fun v1 h => ?_)
  refine r_aln C dX10_mayRide_49 (k := 0) rfl ?_
  refine r_gs C km_0 clX10 (f := 12) (by decide) rfl (t := 44) rfl tf_RX10_40 dX10_mayRide_50 ?_
  refine r_iln C dX10_mayRide_53 (k := 3) rfl ?_
  refine r_iald C km_44 dX10_mayRide_54 h (fun v2 h => ?_)
  refine r_clt C (tgt := 62) dX10_mayRide_55 (by decide) h (fun h => ?_) (fun h => ?_)
  · refine r_ic C dX10_mayRide_62 ?_
    exact r_zret C (by decide) hr hlk dX10_mayRide_63 h
  · refine r_ic C dX10_mayRide_58 ?_
    refine r_goto C (tgt := 63) dX10_mayRide_59 (by decide) ?_
    exact r_zret C (by decide) hr hlk dX10_mayRide_63 h
def f_X10_mayRide (a0 : Int) (a1 : Int) (a2 : Int) (M : Mem) : Res :=
  q_gf M 0 47 fun v1 =>
  if ¬ w32 v1 = w32 3 then (q_al M 44 8 a2 fun v2 =>
  q_call (f_X10_calls a0 a1 v2 M) fun r3 M4 =>
  q_calp (f_X10_hasLaw 0 M4) fun r5 =>
  if w32 r5 = 0 then (f_X10_mayRide_J38 a0 a1 a2 M4)
  else (q_call (f_X10_comesOut 0 M4) fun r6 M7 =>
  if ¬ w32 r6 = 0 then (q_al M7 65 64 0 fun v8 =>
  if w32 (q_cmp v8 0) = 0 then (some (0, M7))
  else (some (1, M7)))
  else (f_X10_mayRide_J38 a0 a1 a2 M7)))
  else (some (1, M))
theorem c_X10_mayRide {l : Launch} {D : va_G} {ad : Nat → Nat} {cA : Nat → ClassId} (hi : q_inj syM ad) (a0 : Int) (a1 : Int) (a2 : Int) (M : Mem) (r0 : Int) (M0 : Mem) (h : f_X10_mayRide a0 a1 a2 M = some (r0, M0)) : q_Met l syM D ad cA yX10_mayRide cX10_mayRide 4 (some .boolean) rm_X10_mayRide [.ref (ad 0), .int (qI a0), .int (qI a1), .int (qI a2)] M (some (.int (qI r0))) M0 := by
  refine q_met (L0 := [(0, .ref (ad 0)), (1, .int (qI a0)), (2, .int (qI a1)), (3, .int (qI a2))]) hi okM (by decide) (Nat.le_of_ble_eq_true rfl) rfl ?_
  intro p e s m args below meth c C hr hlk
  unfold f_X10_mayRide at h
  refine r_aln C dX10_mayRide_0 (k := 0) rfl ?_
  refine r_gf C km_0 clX10 (f := 47) (by decide) rfl rfl rfl tf_RX10_349 dX10_mayRide_1 h (fun v1 h => ?_)
  refine r_ic C dX10_mayRide_4 ?_
  refine r_cne C (tgt := 10) dX10_mayRide_5 (by decide) h (fun h => ?_) (fun h => ?_)
  · refine r_aln C dX10_mayRide_10 (k := 0) rfl ?_
    refine r_iln C dX10_mayRide_11 (k := 1) rfl ?_
    refine r_iln C dX10_mayRide_12 (k := 2) rfl ?_
    refine r_aln C dX10_mayRide_13 (k := 0) rfl ?_
    refine r_gs C km_0 clX10 (f := 12) (by decide) rfl (t := 44) rfl tf_RX10_40 dX10_mayRide_14 ?_
    refine r_iln C dX10_mayRide_17 (k := 3) rfl ?_
    refine r_iald C km_44 dX10_mayRide_18 h (fun v2 h => ?_)
    obtain ⟨r3, M4, hy, h⟩ := q_call_some h
    refine r_cvv C (st := []) (c_X10_calls C.2.2.1 a0 a1 v2 M r3 M4 hy) tm_RX10_352 mw_X10_calls ⟨rfl, rfl⟩ ⟨Nat.le_of_ble_eq_true rfl, Nat.le_of_ble_eq_true rfl⟩ km_0 clX10 rfl rfl (Nat.le_of_ble_eq_true rfl) dX10_mayRide_19 ?_
    refine r_aln C dX10_mayRide_22 (k := 0) rfl ?_
    refine r_ic C dX10_mayRide_23 ?_
    obtain ⟨r5, hy, h⟩ := q_calp_some h
    refine r_cvi C (st := []) (c_X10_hasLaw C.2.2.1 0 M4 r5 hy) tm_RX10_336 mw_X10_hasLaw ⟨rfl, rfl⟩ ⟨Nat.le_of_ble_eq_true rfl, Nat.le_of_ble_eq_true rfl⟩ km_0 clX10 rfl rfl (Nat.le_of_ble_eq_true rfl) dX10_mayRide_24 ?_
    refine r_zeq C (tgt := 38) dX10_mayRide_27 (by decide) h (fun h => ?_) (fun h => ?_)
    · exact w_X10_mayRide_J38 C hr hlk a0 a1 a2 M4  h
    · refine r_aln C dX10_mayRide_30 (k := 0) rfl ?_
      refine r_ic C dX10_mayRide_31 ?_
      obtain ⟨r6, M7, hy, h⟩ := q_call_some h
      refine r_cvi C (st := []) (c_X10_comesOut C.2.2.1 0 M4 r6 M7 hy) tm_RX10_339 mw_X10_comesOut ⟨rfl, rfl⟩ ⟨Nat.le_of_ble_eq_true rfl, Nat.le_of_ble_eq_true rfl⟩ km_0 clX10 rfl rfl (Nat.le_of_ble_eq_true rfl) dX10_mayRide_32 ?_
      refine r_zne C (tgt := 64) dX10_mayRide_35 (by decide) h (fun h => ?_) (fun h => ?_)
      · refine r_aln C dX10_mayRide_64 (k := 0) rfl ?_
        refine r_gs C km_0 clX10 (f := 33) (by decide) rfl (t := 65) rfl tf_RX10_69 dX10_mayRide_65 ?_
        refine r_ic C dX10_mayRide_68 ?_
        refine r_lald C km_65 dX10_mayRide_69 h (fun v8 h => ?_)
        refine r_lc C (x := 0) dX10_mayRide_70 (by decide) ?_
        refine r_lcmp C dX10_mayRide_71 ?_
        refine r_zeq C (tgt := 79) dX10_mayRide_72 (by decide) h (fun h => ?_) (fun h => ?_)
        · refine r_ic C dX10_mayRide_79 ?_
          exact r_zret C (by decide) hr hlk dX10_mayRide_80 h
        · refine r_ic C dX10_mayRide_75 ?_
          refine r_goto C (tgt := 80) dX10_mayRide_76 (by decide) ?_
          exact r_zret C (by decide) hr hlk dX10_mayRide_80 h
      · exact w_X10_mayRide_J38 C hr hlk a0 a1 a2 M7  h
  · refine r_ic C dX10_mayRide_8 ?_
    exact r_zret C (by decide) hr hlk dX10_mayRide_9 h
abbrev rm_X10_within : Room := { frames := 3, cells := 0, slots := 0, locals := 72 }
theorem mw_X10_within : q_mw RX10 yX10_within cX10_within 5 (some .int) 4 := ⟨⟨ti_X10_within, tl_X10_within, tn_RX10, td_X10_within⟩, by decide +kernel⟩
def f_X10_within (a0 : Int) (a1 : Int) (a2 : Int) (a3 : Int) (M : Mem) : Res :=
  q_calp (f_X10_hasLaw a0 M) fun r1 =>
  if w32 r1 = 0 then (some (a3, M))
  else (q_call (f_X10_comesOut a0 M) fun r2 M3 =>
  if ¬ w32 r2 = 0 then (q_al M3 65 64 0 fun v4 =>
  some (q_maxl (w32 a1) (q_minl (w32 a2) v4), M3))
  else (some (a3, M3)))
theorem c_X10_within {l : Launch} {D : va_G} {ad : Nat → Nat} {cA : Nat → ClassId} (hi : q_inj syM ad) (a0 : Int) (a1 : Int) (a2 : Int) (a3 : Int) (M : Mem) (r0 : Int) (M0 : Mem) (h : f_X10_within a0 a1 a2 a3 M = some (r0, M0)) : q_Met l syM D ad cA yX10_within cX10_within 5 (some .int) rm_X10_within [.ref (ad 0), .int (qI a0), .int (qI a1), .int (qI a2), .int (qI a3)] M (some (.int (qI r0))) M0 := by
  refine q_met (L0 := [(0, .ref (ad 0)), (1, .int (qI a0)), (2, .int (qI a1)), (3, .int (qI a2)), (4, .int (qI a3))]) hi okM (by decide) (Nat.le_of_ble_eq_true rfl) rfl ?_
  intro p e s m args below meth c C hr hlk
  unfold f_X10_within at h
  refine r_aln C dX10_within_0 (k := 0) rfl ?_
  refine r_iln C dX10_within_1 (k := 1) rfl ?_
  obtain ⟨r1, hy, h⟩ := q_calp_some h
  refine r_cvi C (st := []) (c_X10_hasLaw C.2.2.1 a0 M r1 hy) tm_RX10_336 mw_X10_hasLaw ⟨rfl, rfl⟩ ⟨Nat.le_of_ble_eq_true rfl, Nat.le_of_ble_eq_true rfl⟩ km_0 clX10 rfl rfl (Nat.le_of_ble_eq_true rfl) dX10_within_2 ?_
  refine r_zeq C (tgt := 16) dX10_within_5 (by decide) h (fun h => ?_) (fun h => ?_)
  · refine r_il C dX10_within_16 (k := 4) rfl ?_
    exact r_iret C hr hlk dX10_within_18 h
  · refine r_aln C dX10_within_8 (k := 0) rfl ?_
    refine r_iln C dX10_within_9 (k := 1) rfl ?_
    obtain ⟨r2, M3, hy, h⟩ := q_call_some h
    refine r_cvi C (st := []) (c_X10_comesOut C.2.2.1 a0 M r2 M3 hy) tm_RX10_339 mw_X10_comesOut ⟨rfl, rfl⟩ ⟨Nat.le_of_ble_eq_true rfl, Nat.le_of_ble_eq_true rfl⟩ km_0 clX10 rfl rfl (Nat.le_of_ble_eq_true rfl) dX10_within_10 ?_
    refine r_zne C (tgt := 19) dX10_within_13 (by decide) h (fun h => ?_) (fun h => ?_)
    · refine r_iln C dX10_within_19 (k := 2) rfl ?_
      refine r_i2l C dX10_within_20 ?_
      refine r_iln C dX10_within_21 (k := 3) rfl ?_
      refine r_i2l C dX10_within_22 ?_
      refine r_aln C dX10_within_23 (k := 0) rfl ?_
      refine r_gs C km_0 clX10 (f := 33) (by decide) rfl (t := 65) rfl tf_RX10_69 dX10_within_24 ?_
      refine r_ic C dX10_within_27 ?_
      refine r_lald C km_65 dX10_within_28 h (fun v4 h => ?_)
      refine r_q_minl C (st := [.long (qJ (w32 a1))]) tm_RX10_342 ⟨Nat.le_of_ble_eq_true rfl, Nat.le_of_ble_eq_true rfl⟩ dX10_within_29 ?_
      refine r_q_maxl C (st := []) tm_RX10_346 ⟨Nat.le_of_ble_eq_true rfl, Nat.le_of_ble_eq_true rfl⟩ dX10_within_32 ?_
      refine r_l2i C dX10_within_35 ?_
      exact r_iret C hr hlk dX10_within_36 h
    · refine r_il C dX10_within_16 (k := 4) rfl ?_
      exact r_iret C hr hlk dX10_within_18 h
abbrev rm_X10_doesLet : Room := { frames := 0, cells := 0, slots := 0, locals := 0 }
theorem mw_X10_doesLet : q_mw RX10 yX10_doesLet cX10_doesLet 3 (some .boolean) 1 := ⟨⟨ti_X10_doesLet, tl_X10_doesLet, tn_RX10, td_X10_doesLet⟩, by decide +kernel⟩
def f_X10_doesLet_B2 (x1 : Int) (M : Mem) (x2 : Int) (g2 : Int → Option Int) : Option Int :=
  q_al M 35 14 2 fun v1 =>
  if w32 v1 ≤ w32 x2 then (some 0)
  else (q_gf M 0 47 fun v2 =>
  if w32 v2 = w32 1 then (some 0)
  else (q_al M 45 16 x2 fun v3 =>
  if ¬ w32 v3 = w32 x1 then (g2 (x2 + 1))
  else (q_gf M 0 51 fun v4 =>
  q_al M 46 16 x2 fun v5 =>
  if ¬ w32 (q_and (q_shr v4 v5) 1) = w32 1 then (g2 (x2 + 1))
  else (some 1))))
def f_X10_doesLet_L2 (x1 : Int) (M : Mem) (n : Nat) (x2 : Int) : Option Int := qlp1 (fun x2 g2 => f_X10_doesLet_B2 x1 M x2 g2) n x2
theorem w_X10_doesLet_B2 (C : Cx syM p m c cX10_doesLet 3 s args RX10 D ad cA) (hr : meth.sig.returnType = (some .boolean)) (hlk : meth.locks = false)  (x1 : Int) (x2 : Int) (M : Mem) (g2 : Int → Option Int)  (ih2 : ∀ (ux2 : Int) , g2 ux2  = some r0 → WM syM p l e rm_X10_doesLet s m args below meth c 3 D ad cA (MQ below (q_Post syM D ad cA (some (.int (qI r0))) M) args s 0 0 (q_A syM ad)) M 2 [(0, .ref (ad 0)), (1, .int (qI x1)), (2, .int (qI ux2))] []) (h : f_X10_doesLet_B2 x1 M x2 g2 = some r0) : WM syM p l e rm_X10_doesLet s m args below meth c 3 D ad cA (MQ below (q_Post syM D ad cA (some (.int (qI r0))) M) args s 0 0 (q_A syM ad)) M 2 [(0, .ref (ad 0)), (1, .int (qI x1)), (2, .int (qI x2))] [] := by
  unfold f_X10_doesLet_B2 at h
  refine r_iln C dX10_doesLet_2 (k := 2) rfl ?_
  refine r_aln C dX10_doesLet_3 (k := 0) rfl ?_
  refine r_gs C km_0 clX10 (f := 3) (by decide) rfl (t := 35) rfl tf_RX10_13 dX10_doesLet_4 ?_
  refine r_ic C dX10_doesLet_7 ?_
  refine r_iald C km_35 dX10_doesLet_8 h (fun v1 h => ?_)
  refine r_cge C (tgt := 55) dX10_doesLet_9 (by decide) h (fun h => ?_) (fun h => ?_)
  · refine r_ic C dX10_doesLet_55 ?_
    exact r_zretp C (by decide) hr hlk dX10_doesLet_56 h
  · refine r_aln C dX10_doesLet_12 (k := 0) rfl ?_
    refine r_gf C km_0 clX10 (f := 47) (by decide) rfl rfl rfl tf_RX10_349 dX10_doesLet_13 h (fun v2 h => ?_)
    refine r_ic C dX10_doesLet_16 ?_
    refine r_ceq C (tgt := 55) dX10_doesLet_17 (by decide) h (fun h => ?_) (fun h => ?_)
    · refine r_ic C dX10_doesLet_55 ?_
      exact r_zretp C (by decide) hr hlk dX10_doesLet_56 h
    · refine r_aln C dX10_doesLet_20 (k := 0) rfl ?_
      refine r_gs C km_0 clX10 (f := 13) (by decide) rfl (t := 45) rfl tf_RX10_43 dX10_doesLet_21 ?_
      refine r_iln C dX10_doesLet_24 (k := 2) rfl ?_
      refine r_iald C km_45 dX10_doesLet_25 h (fun v3 h => ?_)
      refine r_iln C dX10_doesLet_26 (k := 1) rfl ?_
      refine r_cne C (tgt := 49) dX10_doesLet_27 (by decide) h (fun h => ?_) (fun h => ?_)
      · refine r_inc C (L1 := [(2, .int (qI (x2 + 1))), (0, .ref (ad 0)), (1, .int (qI x1))]) dX10_doesLet_49 (k := 2) rfl (by decide) rfl ?_
        refine r_goto C (tgt := 2) dX10_doesLet_52 (by decide) ?_
        refine r_drop [1, 2, 0] rfl ?_
        exact ih2 (x2 + 1)  h
      · refine r_aln C dX10_doesLet_30 (k := 0) rfl ?_
        refine r_gf C km_0 clX10 (f := 51) (by decide) rfl rfl rfl tf_RX10_356 dX10_doesLet_31 h (fun v4 h => ?_)
        refine r_aln C dX10_doesLet_34 (k := 0) rfl ?_
        refine r_gs C km_0 clX10 (f := 14) (by decide) rfl (t := 46) rfl tf_RX10_46 dX10_doesLet_35 ?_
        refine r_iln C dX10_doesLet_38 (k := 2) rfl ?_
        refine r_iald C km_46 dX10_doesLet_39 h (fun v5 h => ?_)
        refine r_ishr C dX10_doesLet_40 ?_
        refine r_ic C dX10_doesLet_41 ?_
        refine r_iand C dX10_doesLet_42 ?_
        refine r_ic C dX10_doesLet_43 ?_
        refine r_cne C (tgt := 49) dX10_doesLet_44 (by decide) h (fun h => ?_) (fun h => ?_)
        · refine r_inc C (L1 := [(2, .int (qI (x2 + 1))), (0, .ref (ad 0)), (1, .int (qI x1))]) dX10_doesLet_49 (k := 2) rfl (by decide) rfl ?_
          refine r_goto C (tgt := 2) dX10_doesLet_52 (by decide) ?_
          refine r_drop [1, 2, 0] rfl ?_
          exact ih2 (x2 + 1)  h
        · refine r_ic C dX10_doesLet_47 ?_
          exact r_zretp C (by decide) hr hlk dX10_doesLet_48 h
theorem w_X10_doesLet_L2 (C : Cx syM p m c cX10_doesLet 3 s args RX10 D ad cA) (hr : meth.sig.returnType = (some .boolean)) (hlk : meth.locks = false)  (x1 : Int) (M : Mem)  (n : Nat) (x2 : Int) (h : f_X10_doesLet_L2 x1 M n x2 = some r0) : WM syM p l e rm_X10_doesLet s m args below meth c 3 D ad cA (MQ below (q_Post syM D ad cA (some (.int (qI r0))) M) args s 0 0 (q_A syM ad)) M 2 [(0, .ref (ad 0)), (1, .int (qI x1)), (2, .int (qI x2))] [] :=
  qlp1_r (Wp := fun ux2 => WM syM p l e rm_X10_doesLet s m args below meth c 3 D ad cA (MQ below (q_Post syM D ad cA (some (.int (qI r0))) M) args s 0 0 (q_A syM ad)) M 2 [(0, .ref (ad 0)), (1, .int (qI x1)), (2, .int (qI ux2))] []) (fun ux2 g2 ih2 h => w_X10_doesLet_B2 C hr hlk x1 ux2 M g2  ih2 h) n x2 h
def f_X10_doesLet (a0 : Int) (M : Mem) : Option Int :=
  f_X10_doesLet_L2 a0 M q_N 0
theorem c_X10_doesLet {l : Launch} {D : va_G} {ad : Nat → Nat} {cA : Nat → ClassId} (hi : q_inj syM ad) (a0 : Int) (M : Mem) (r0 : Int) (h : f_X10_doesLet a0 M = some r0) : q_Met l syM D ad cA yX10_doesLet cX10_doesLet 3 (some .boolean) rm_X10_doesLet [.ref (ad 0), .int (qI a0)] M (some (.int (qI r0))) M := by
  refine q_met (L0 := [(0, .ref (ad 0)), (1, .int (qI a0))]) hi okM (by decide) (Nat.le_of_ble_eq_true rfl) rfl ?_
  intro p e s m args below meth c C hr hlk
  unfold f_X10_doesLet at h
  refine r_ic C dX10_doesLet_0 ?_
  refine r_isn C (L1 := [(2, .int (qI 0)), (0, .ref (ad 0)), (1, .int (qI a0))]) dX10_doesLet_1 (by decide) rfl ?_
  refine r_drop [1, 2, 0] rfl ?_
  exact w_X10_doesLet_L2 C hr hlk a0 M  q_N 0 h
abbrev rm_X10_nextOn : Room := { frames := 1, cells := 0, slots := 0, locals := 22 }
theorem mw_X10_nextOn : q_mw RX10 yX10_nextOn cX10_nextOn 5 (some .int) 1 := ⟨⟨ti_X10_nextOn, tl_X10_nextOn, tn_RX10, td_X10_nextOn⟩, by decide +kernel⟩
def f_X10_nextOn_B4 (x1 : Int) (M : Mem) (x2 : Int) (x3 : Int) (g4 : Int → Int → Option Int) : Option Int :=
  q_al M 69 23 x1 fun v1 =>
  if w32 v1 ≤ w32 x3 then (some x2)
  else (q_al M 70 184 ((8 * x1) + x3) fun v2 =>
  q_gf M 0 51 fun v3 =>
  if w32 (q_and (q_shr v3 v2) 1) = 0 then (g4 x2 (x3 + 1))
  else (q_calp (f_X10_doesLet v2 M) fun r4 =>
  if w32 r4 = 0 then (if w32 x2 = w32 (-1) then (g4 v2 (x3 + 1))
  else (q_al M 82 8 v2 fun v5 =>
  q_al M 82 8 x2 fun v6 =>
  if w32 v6 ≤ w32 v5 then (g4 x2 (x3 + 1))
  else (g4 v2 (x3 + 1))))
  else (g4 x2 (x3 + 1))))
def f_X10_nextOn_L4 (x1 : Int) (M : Mem) (n : Nat) (x2 : Int) (x3 : Int) : Option Int := qlp2 (fun x2 x3 g4 => f_X10_nextOn_B4 x1 M x2 x3 g4) n x2 x3
theorem w_X10_nextOn_B4 (C : Cx syM p m c cX10_nextOn 5 s args RX10 D ad cA) (hr : meth.sig.returnType = (some .int)) (hlk : meth.locks = false)  (x1 : Int) (x2 : Int) (x3 : Int) (M : Mem) (g4 : Int → Int → Option Int)  (ih4 : ∀ (ux2 ux3 : Int) , g4 ux2 ux3  = some r0 → WM syM p l e rm_X10_nextOn s m args below meth c 5 D ad cA (MQ below (q_Post syM D ad cA (some (.int (qI r0))) M) args s 0 0 (q_A syM ad)) M 4 [(0, .ref (ad 0)), (1, .int (qI x1)), (2, .int (qI ux2)), (3, .int (qI ux3))] []) (h : f_X10_nextOn_B4 x1 M x2 x3 g4 = some r0) : WM syM p l e rm_X10_nextOn s m args below meth c 5 D ad cA (MQ below (q_Post syM D ad cA (some (.int (qI r0))) M) args s 0 0 (q_A syM ad)) M 4 [(0, .ref (ad 0)), (1, .int (qI x1)), (2, .int (qI x2)), (3, .int (qI x3))] [] := by
  unfold f_X10_nextOn_B4 at h
  refine r_iln C dX10_nextOn_4 (k := 3) rfl ?_
  refine r_aln C dX10_nextOn_5 (k := 0) rfl ?_
  refine r_gs C km_0 clX10 (f := 37) (by decide) rfl (t := 69) rfl tf_RX10_78 dX10_nextOn_6 ?_
  refine r_iln C dX10_nextOn_9 (k := 1) rfl ?_
  refine r_iald C km_69 dX10_nextOn_10 h (fun v1 h => ?_)
  refine r_cge C (tgt := 81) dX10_nextOn_11 (by decide) h (fun h => ?_) (fun h => ?_)
  · refine r_iln C dX10_nextOn_81 (k := 2) rfl ?_
    exact r_iretp C hr hlk dX10_nextOn_82 h
  · refine r_aln C dX10_nextOn_14 (k := 0) rfl ?_
    refine r_gs C km_0 clX10 (f := 38) (by decide) rfl (t := 70) rfl tf_RX10_81 dX10_nextOn_15 ?_
    refine r_bi C dX10_nextOn_18 (by decide) ?_
    refine r_iln C dX10_nextOn_20 (k := 1) rfl ?_
    refine r_imul C dX10_nextOn_21 ?_
    refine r_iln C dX10_nextOn_22 (k := 3) rfl ?_
    refine r_iadd C dX10_nextOn_23 ?_
    refine r_iald C km_70 dX10_nextOn_24 h (fun v2 h => ?_)
    refine r_is C (L1 := [(4, .int (qI v2)), (0, .ref (ad 0)), (1, .int (qI x1)), (2, .int (qI x2)), (3, .int (qI x3))]) dX10_nextOn_25 (by decide) rfl ?_
    refine r_aln C dX10_nextOn_27 (k := 1) rfl ?_
    refine r_gf C km_0 clX10 (f := 51) (by decide) rfl rfl rfl tf_RX10_356 dX10_nextOn_28 h (fun v3 h => ?_)
    refine r_il C dX10_nextOn_31 (k := 0) rfl ?_
    refine r_ishr C dX10_nextOn_33 ?_
    refine r_ic C dX10_nextOn_34 ?_
    refine r_iand C dX10_nextOn_35 ?_
    refine r_zeq C (tgt := 75) dX10_nextOn_36 (by decide) h (fun h => ?_) (fun h => ?_)
    · refine r_inc C (L1 := [(3, .int (qI (x3 + 1))), (4, .int (qI v2)), (0, .ref (ad 0)), (1, .int (qI x1)), (2, .int (qI x2))]) dX10_nextOn_75 (k := 4) rfl (by decide) rfl ?_
      refine r_goto C (tgt := 4) dX10_nextOn_78 (by decide) ?_
      refine r_drop [2, 3, 4, 0] rfl ?_
      exact ih4 x2 (x3 + 1)  h
    · refine r_aln C dX10_nextOn_39 (k := 1) rfl ?_
      refine r_il C dX10_nextOn_40 (k := 0) rfl ?_
      obtain ⟨r4, hy, h⟩ := q_calp_some h
      refine r_cvi C (st := []) (c_X10_doesLet C.2.2.1 v2 M r4 hy) tm_RX10_359 mw_X10_doesLet ⟨rfl, rfl⟩ ⟨Nat.le_of_ble_eq_true rfl, Nat.le_of_ble_eq_true rfl⟩ km_0 clX10 rfl rfl (Nat.le_of_ble_eq_true rfl) dX10_nextOn_42 ?_
      refine r_zeq C (tgt := 51) dX10_nextOn_45 (by decide) h (fun h => ?_) (fun h => ?_)
      · refine r_iln C dX10_nextOn_51 (k := 3) rfl ?_
        refine r_ic C dX10_nextOn_52 ?_
        refine r_ceq C (tgt := 72) dX10_nextOn_53 (by decide) h (fun h => ?_) (fun h => ?_)
        · refine r_il C dX10_nextOn_72 (k := 0) rfl ?_
          refine r_isn C (L1 := [(2, .int (qI v2)), (4, .int (qI v2)), (0, .ref (ad 0)), (1, .int (qI x1)), (3, .int (qI x3))]) dX10_nextOn_74 (by decide) rfl ?_
          refine r_inc C (L1 := [(3, .int (qI (x3 + 1))), (2, .int (qI v2)), (4, .int (qI v2)), (0, .ref (ad 0)), (1, .int (qI x1))]) dX10_nextOn_75 (k := 4) rfl (by decide) rfl ?_
          refine r_goto C (tgt := 4) dX10_nextOn_78 (by decide) ?_
          refine r_drop [3, 4, 1, 0] rfl ?_
          exact ih4 v2 (x3 + 1)  h
        · refine r_aln C dX10_nextOn_56 (k := 1) rfl ?_
          refine r_gs C km_0 clX10 (f := 50) (by decide) rfl (t := 82) rfl tf_RX10_105 dX10_nextOn_57 ?_
          refine r_il C dX10_nextOn_60 (k := 0) rfl ?_
          refine r_iald C km_82 dX10_nextOn_62 h (fun v5 h => ?_)
          refine r_aln C dX10_nextOn_63 (k := 1) rfl ?_
          refine r_gs C km_0 clX10 (f := 50) (by decide) rfl (t := 82) rfl tf_RX10_105 dX10_nextOn_64 ?_
          refine r_iln C dX10_nextOn_67 (k := 3) rfl ?_
          refine r_iald C km_82 dX10_nextOn_68 h (fun v6 h => ?_)
          refine r_cge C (tgt := 75) dX10_nextOn_69 (by decide) h (fun h => ?_) (fun h => ?_)
          · refine r_inc C (L1 := [(3, .int (qI (x3 + 1))), (4, .int (qI v2)), (0, .ref (ad 0)), (1, .int (qI x1)), (2, .int (qI x2))]) dX10_nextOn_75 (k := 4) rfl (by decide) rfl ?_
            refine r_goto C (tgt := 4) dX10_nextOn_78 (by decide) ?_
            refine r_drop [2, 3, 4, 0] rfl ?_
            exact ih4 x2 (x3 + 1)  h
          · refine r_il C dX10_nextOn_72 (k := 0) rfl ?_
            refine r_isn C (L1 := [(2, .int (qI v2)), (4, .int (qI v2)), (0, .ref (ad 0)), (1, .int (qI x1)), (3, .int (qI x3))]) dX10_nextOn_74 (by decide) rfl ?_
            refine r_inc C (L1 := [(3, .int (qI (x3 + 1))), (2, .int (qI v2)), (4, .int (qI v2)), (0, .ref (ad 0)), (1, .int (qI x1))]) dX10_nextOn_75 (k := 4) rfl (by decide) rfl ?_
            refine r_goto C (tgt := 4) dX10_nextOn_78 (by decide) ?_
            refine r_drop [3, 4, 1, 0] rfl ?_
            exact ih4 v2 (x3 + 1)  h
      · refine r_goto C (tgt := 75) dX10_nextOn_48 (by decide) ?_
        refine r_inc C (L1 := [(3, .int (qI (x3 + 1))), (4, .int (qI v2)), (0, .ref (ad 0)), (1, .int (qI x1)), (2, .int (qI x2))]) dX10_nextOn_75 (k := 4) rfl (by decide) rfl ?_
        refine r_goto C (tgt := 4) dX10_nextOn_78 (by decide) ?_
        refine r_drop [2, 3, 4, 0] rfl ?_
        exact ih4 x2 (x3 + 1)  h
theorem w_X10_nextOn_L4 (C : Cx syM p m c cX10_nextOn 5 s args RX10 D ad cA) (hr : meth.sig.returnType = (some .int)) (hlk : meth.locks = false)  (x1 : Int) (M : Mem)  (n : Nat) (x2 : Int) (x3 : Int) (h : f_X10_nextOn_L4 x1 M n x2 x3 = some r0) : WM syM p l e rm_X10_nextOn s m args below meth c 5 D ad cA (MQ below (q_Post syM D ad cA (some (.int (qI r0))) M) args s 0 0 (q_A syM ad)) M 4 [(0, .ref (ad 0)), (1, .int (qI x1)), (2, .int (qI x2)), (3, .int (qI x3))] [] :=
  qlp2_r (Wp := fun ux2 ux3 => WM syM p l e rm_X10_nextOn s m args below meth c 5 D ad cA (MQ below (q_Post syM D ad cA (some (.int (qI r0))) M) args s 0 0 (q_A syM ad)) M 4 [(0, .ref (ad 0)), (1, .int (qI x1)), (2, .int (qI ux2)), (3, .int (qI ux3))] []) (fun ux2 ux3 g4 ih4 h => w_X10_nextOn_B4 C hr hlk x1 ux2 ux3 M g4  ih4 h) n x2 x3 h
def f_X10_nextOn (a0 : Int) (M : Mem) : Option Int :=
  f_X10_nextOn_L4 a0 M q_N (-1) 0
theorem c_X10_nextOn {l : Launch} {D : va_G} {ad : Nat → Nat} {cA : Nat → ClassId} (hi : q_inj syM ad) (a0 : Int) (M : Mem) (r0 : Int) (h : f_X10_nextOn a0 M = some r0) : q_Met l syM D ad cA yX10_nextOn cX10_nextOn 5 (some .int) rm_X10_nextOn [.ref (ad 0), .int (qI a0)] M (some (.int (qI r0))) M := by
  refine q_met (L0 := [(0, .ref (ad 0)), (1, .int (qI a0))]) hi okM (by decide) (Nat.le_of_ble_eq_true rfl) rfl ?_
  intro p e s m args below meth c C hr hlk
  unfold f_X10_nextOn at h
  refine r_ic C dX10_nextOn_0 ?_
  refine r_isn C (L1 := [(2, .int (qI (-1))), (0, .ref (ad 0)), (1, .int (qI a0))]) dX10_nextOn_1 (by decide) rfl ?_
  refine r_ic C dX10_nextOn_2 ?_
  refine r_isn C (L1 := [(3, .int (qI 0)), (2, .int (qI (-1))), (0, .ref (ad 0)), (1, .int (qI a0))]) dX10_nextOn_3 (by decide) rfl ?_
  refine r_drop [2, 3, 1, 0] rfl ?_
  exact w_X10_nextOn_L4 C hr hlk a0 M  q_N (-1) 0 h
abbrev rm_X10_leaves : Room := { frames := 1, cells := 0, slots := 0, locals := 23 }
theorem mw_X10_leaves : q_mw RX10 yX10_leaves cX10_leaves 6 none 3 := ⟨⟨ti_X10_leaves, tl_X10_leaves, tn_RX10, td_X10_leaves⟩, by decide +kernel⟩
def f_X10_leaves_B41 (x1 : Int) (x5 : Int) (M : Mem) (g41 : Int → Mem → Res) : Res :=
  q_al M 69 23 x1 fun v1 =>
  if w32 v1 ≤ w32 x5 then (some (0, M))
  else (q_al M 70 184 (((8 * x1) + x5) + 1) fun v2 =>
  q_as M 70 184 ((8 * x1) + x5) v2 fun M3 =>
  g41 (x5 + 1) M3)
def f_X10_leaves_L41 (x1 : Int) (n : Nat) (x5 : Int) (M : Mem) : Res := qlm1 (fun x5 M g41 => f_X10_leaves_B41 x1 x5 M g41) n x5 M
theorem w_X10_leaves_B41 (C : Cx syM p m c cX10_leaves 6 s args RX10 D ad cA) (hr : meth.sig.returnType = none) (hlk : meth.locks = false)  (x1 : Int) (x5 : Int) (M : Mem) (g41 : Int → Mem → Res)  (ih41 : ∀ (ux5 : Int) (M : Mem), g41 ux5 M = some (r0, M0) → WM syM p l e rm_X10_leaves s m args below meth c 6 D ad cA (MQ below (q_Post syM D ad cA none M0) args s 0 0 (q_A syM ad)) M 41 [(0, .ref (ad 0)), (1, .int (qI x1)), (5, .int (qI ux5))] []) (h : f_X10_leaves_B41 x1 x5 M g41 = some (r0, M0)) : WM syM p l e rm_X10_leaves s m args below meth c 6 D ad cA (MQ below (q_Post syM D ad cA none M0) args s 0 0 (q_A syM ad)) M 41 [(0, .ref (ad 0)), (1, .int (qI x1)), (5, .int (qI x5))] [] := by
  unfold f_X10_leaves_B41 at h
  refine r_il C dX10_leaves_41 (k := 2) rfl ?_
  refine r_aln C dX10_leaves_43 (k := 0) rfl ?_
  refine r_gs C km_0 clX10 (f := 37) (by decide) rfl (t := 69) rfl tf_RX10_78 dX10_leaves_44 ?_
  refine r_iln C dX10_leaves_47 (k := 1) rfl ?_
  refine r_iald C km_69 dX10_leaves_48 h (fun v1 h => ?_)
  refine r_cge C (tgt := 84) dX10_leaves_49 (by decide) h (fun h => ?_) (fun h => ?_)
  · exact r_vret C hr hlk dX10_leaves_84 h
  · refine r_aln C dX10_leaves_52 (k := 0) rfl ?_
    refine r_gs C km_0 clX10 (f := 38) (by decide) rfl (t := 70) rfl tf_RX10_81 dX10_leaves_53 ?_
    refine r_bi C dX10_leaves_56 (by decide) ?_
    refine r_iln C dX10_leaves_58 (k := 1) rfl ?_
    refine r_imul C dX10_leaves_59 ?_
    refine r_il C dX10_leaves_60 (k := 2) rfl ?_
    refine r_iadd C dX10_leaves_62 ?_
    refine r_aln C dX10_leaves_63 (k := 0) rfl ?_
    refine r_gs C km_0 clX10 (f := 38) (by decide) rfl (t := 70) rfl tf_RX10_81 dX10_leaves_64 ?_
    refine r_bi C dX10_leaves_67 (by decide) ?_
    refine r_iln C dX10_leaves_69 (k := 1) rfl ?_
    refine r_imul C dX10_leaves_70 ?_
    refine r_il C dX10_leaves_71 (k := 2) rfl ?_
    refine r_iadd C dX10_leaves_73 ?_
    refine r_ic C dX10_leaves_74 ?_
    refine r_iadd C dX10_leaves_75 ?_
    refine r_iald C km_70 dX10_leaves_76 h (fun v2 h => ?_)
    refine r_iast C km_70 dX10_leaves_77 h (fun M3 h => ?_)
    refine r_inc C (L1 := [(5, .int (qI (x5 + 1))), (0, .ref (ad 0)), (1, .int (qI x1))]) dX10_leaves_78 (k := 2) rfl (by decide) rfl ?_
    refine r_goto C (tgt := 41) dX10_leaves_81 (by decide) ?_
    refine r_drop [1, 2, 0] rfl ?_
    exact ih41 (x5 + 1) M3 h
theorem w_X10_leaves_L41 (C : Cx syM p m c cX10_leaves 6 s args RX10 D ad cA) (hr : meth.sig.returnType = none) (hlk : meth.locks = false)  (x1 : Int)  (n : Nat) (x5 : Int) (M : Mem) (h : f_X10_leaves_L41 x1 n x5 M = some (r0, M0)) : WM syM p l e rm_X10_leaves s m args below meth c 6 D ad cA (MQ below (q_Post syM D ad cA none M0) args s 0 0 (q_A syM ad)) M 41 [(0, .ref (ad 0)), (1, .int (qI x1)), (5, .int (qI x5))] [] :=
  qlm1_r (Wp := fun ux5 M => WM syM p l e rm_X10_leaves s m args below meth c 6 D ad cA (MQ below (q_Post syM D ad cA none M0) args s 0 0 (q_A syM ad)) M 41 [(0, .ref (ad 0)), (1, .int (qI x1)), (5, .int (qI ux5))] []) (fun ux5 M g41 ih41 h => w_X10_leaves_B41 C hr hlk x1 ux5 M g41  ih41 h) n x5 M h
def f_X10_leaves (a0 : Int) (a1 : Int) (a2 : Int) (M : Mem) : Res :=
  q_calp (f_X10_placeOf a0 a1 M) fun r1 =>
  q_as M 71 184 ((8 * a0) + a1) a2 fun M2 =>
  if ¬ w32 r1 = w32 (-1) then (q_al M2 69 23 a0 fun v3 =>
  q_as M2 69 23 a0 (v3 - 1) fun M4 =>
  f_X10_leaves_L41 a0 q_N r1 M4)
  else (some (0, M2))
theorem c_X10_leaves {l : Launch} {D : va_G} {ad : Nat → Nat} {cA : Nat → ClassId} (hi : q_inj syM ad) (a0 : Int) (a1 : Int) (a2 : Int) (M : Mem) (r0 : Int) (M0 : Mem) (h : f_X10_leaves a0 a1 a2 M = some (r0, M0)) : q_Met l syM D ad cA yX10_leaves cX10_leaves 6 none rm_X10_leaves [.ref (ad 0), .int (qI a0), .int (qI a1), .int (qI a2)] M none M0 := by
  refine q_met (L0 := [(0, .ref (ad 0)), (1, .int (qI a0)), (2, .int (qI a1)), (3, .int (qI a2))]) hi okM (by decide) (Nat.le_of_ble_eq_true rfl) rfl ?_
  intro p e s m args below meth c C hr hlk
  unfold f_X10_leaves at h
  refine r_aln C dX10_leaves_0 (k := 0) rfl ?_
  refine r_iln C dX10_leaves_1 (k := 1) rfl ?_
  refine r_iln C dX10_leaves_2 (k := 2) rfl ?_
  obtain ⟨r1, hy, h⟩ := q_calp_some h
  refine r_cvi C (st := []) (c_X10_placeOf C.2.2.1 a0 a1 M r1 hy) tm_RX10_328 mw_X10_placeOf ⟨rfl, rfl⟩ ⟨Nat.le_of_ble_eq_true rfl, Nat.le_of_ble_eq_true rfl⟩ km_0 clX10 rfl rfl (Nat.le_of_ble_eq_true rfl) dX10_leaves_3 ?_
  refine r_is C (L1 := [(4, .int (qI r1)), (0, .ref (ad 0)), (1, .int (qI a0)), (2, .int (qI a1)), (3, .int (qI a2))]) dX10_leaves_6 (by decide) rfl ?_
  refine r_aln C dX10_leaves_8 (k := 1) rfl ?_
  refine r_gs C km_0 clX10 (f := 39) (by decide) rfl (t := 71) rfl tf_RX10_84 dX10_leaves_9 ?_
  refine r_bi C dX10_leaves_12 (by decide) ?_
  refine r_iln C dX10_leaves_14 (k := 2) rfl ?_
  refine r_imul C dX10_leaves_15 ?_
  refine r_iln C dX10_leaves_16 (k := 3) rfl ?_
  refine r_iadd C dX10_leaves_17 ?_
  refine r_iln C dX10_leaves_18 (k := 4) rfl ?_
  refine r_iast C km_71 dX10_leaves_19 h (fun M2 h => ?_)
  refine r_il C dX10_leaves_20 (k := 0) rfl ?_
  refine r_ic C dX10_leaves_22 ?_
  refine r_cne C (tgt := 27) dX10_leaves_23 (by decide) h (fun h => ?_) (fun h => ?_)
  · refine r_aln C dX10_leaves_27 (k := 1) rfl ?_
    refine r_gs C km_0 clX10 (f := 37) (by decide) rfl (t := 69) rfl tf_RX10_78 dX10_leaves_28 ?_
    refine r_iln C dX10_leaves_31 (k := 2) rfl ?_
    refine r_dup2 C rfl rfl dX10_leaves_32 ?_
    refine r_iald C km_69 dX10_leaves_33 h (fun v3 h => ?_)
    refine r_ic C dX10_leaves_34 ?_
    refine r_isub C dX10_leaves_35 ?_
    refine r_iast C km_69 dX10_leaves_36 h (fun M4 h => ?_)
    refine r_il C dX10_leaves_37 (k := 0) rfl ?_
    refine r_is C (L1 := [(5, .int (qI r1)), (4, .int (qI r1)), (0, .ref (ad 0)), (1, .int (qI a0)), (2, .int (qI a1)), (3, .int (qI a2))]) dX10_leaves_39 (by decide) rfl ?_
    refine r_drop [2, 3, 0] rfl ?_
    exact w_X10_leaves_L41 C hr hlk a0  q_N r1 M4 h
  · exact r_vret C hr hlk dX10_leaves_26 h
end P13a
