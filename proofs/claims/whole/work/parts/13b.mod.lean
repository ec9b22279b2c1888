section P13b
variable {p : Program} {l : Launch} {e : Env} {s : State} {m : MethodId} {args : Array Value} {below : List Frame} {meth : Method} {c : Code} {D : va_G} {ad : Nat → Nat} {cA : Nat → ClassId} {r0 : Int} {M0 : Mem}
abbrev rm_X10_stops : Room := { frames := 4, cells := 0, slots := 0, locals := 96 }
theorem mw_X10_stops : q_mw RX10 yX10_stops cX10_stops 5 none 2 := ⟨⟨ti_X10_stops, tl_X10_stops, tn_RX10, td_X10_stops⟩, by decide +kernel⟩
def f_X10_stops_B232 (x1 : Int) (x4 : Int) (M : Mem) (g232 : Int → Mem → Res) : Res :=
  q_al M 35 14 0 fun v1 =>
  if w32 v1 ≤ w32 x4 then (some (0, M))
  else (q_al M 74 184 ((8 * x1) + x4) fun v2 =>
  q_gf M 0 51 fun v3 =>
  q_as M 74 184 ((8 * x1) + x4) (v2 + (q_and (q_shr v3 x4) 1)) fun M4 =>
  g232 (x4 + 1) M4)
def f_X10_stops_L232 (x1 : Int) (n : Nat) (x4 : Int) (M : Mem) : Res := qlm1 (fun x4 M g232 => f_X10_stops_B232 x1 x4 M g232) n x4 M
theorem w_X10_stops_B232 (C : Cx syM p m c cX10_stops 5 s args RX10 D ad cA) (hr : meth.sig.returnType = none) (hlk : meth.locks = false)  (x1 : Int) (x4 : Int) (M : Mem) (g232 : Int → Mem → Res)  (ih232 : ∀ (ux4 : Int) (M : Mem), g232 ux4 M = some (r0, M0) → WM syM p l e rm_X10_stops s m args below meth c 5 D ad cA (MQ below (q_Post syM D ad cA none M0) args s 0 0 (q_A syM ad)) M 232 [(0, .ref (ad 0)), (1, .int (qI x1)), (4, .int (qI ux4))] []) (h : f_X10_stops_B232 x1 x4 M g232 = some (r0, M0)) : WM syM p l e rm_X10_stops s m args below meth c 5 D ad cA (MQ below (q_Post syM D ad cA none M0) args s 0 0 (q_A syM ad)) M 232 [(0, .ref (ad 0)), (1, .int (qI x1)), (4, .int (qI x4))] [] := by
  unfold f_X10_stops_B232 at h
  refine r_il C dX10_stops_232 (k := 2) rfl ?_
  refine r_aln C dX10_stops_234 (k := 0) rfl ?_
  refine r_gs C km_0 clX10 (f := 3) (by decide) rfl (t := 35) rfl tf_RX10_13 dX10_stops_235 ?_
  refine r_ic C dX10_stops_238 ?_
  refine r_iald C km_35 dX10_stops_239 h (fun v1 h => ?_)
  refine r_cge C (tgt := 273) dX10_stops_240 (by decide) h (fun h => ?_) (fun h => ?_)
  · exact r_vret C hr hlk dX10_stops_273 h
  · refine r_aln C dX10_stops_243 (k := 0) rfl ?_
    refine r_gs C km_0 clX10 (f := 42) (by decide) rfl (t := 74) rfl tf_RX10_93 dX10_stops_244 ?_
    refine r_bi C dX10_stops_247 (by decide) ?_
    refine r_iln C dX10_stops_249 (k := 1) rfl ?_
    refine r_imul C dX10_stops_250 ?_
    refine r_il C dX10_stops_251 (k := 2) rfl ?_
    refine r_iadd C dX10_stops_253 ?_
    refine r_dup2 C rfl rfl dX10_stops_254 ?_
    refine r_iald C km_74 dX10_stops_255 h (fun v2 h => ?_)
    refine r_aln C dX10_stops_256 (k := 0) rfl ?_
    refine r_gf C km_0 clX10 (f := 51) (by decide) rfl rfl rfl tf_RX10_356 dX10_stops_257 h (fun v3 h => ?_)
    refine r_il C dX10_stops_260 (k := 2) rfl ?_
    refine r_ishr C dX10_stops_262 ?_
    refine r_ic C dX10_stops_263 ?_
    refine r_iand C dX10_stops_264 ?_
    refine r_iadd C dX10_stops_265 ?_
    refine r_iast C km_74 dX10_stops_266 h (fun M4 h => ?_)
    refine r_inc C (L1 := [(4, .int (qI (x4 + 1))), (0, .ref (ad 0)), (1, .int (qI x1))]) dX10_stops_267 (k := 2) rfl (by decide) rfl ?_
    refine r_goto C (tgt := 232) dX10_stops_270 (by decide) ?_
    refine r_drop [1, 2, 0] rfl ?_
    exact ih232 (x4 + 1) M4 h
theorem w_X10_stops_L232 (C : Cx syM p m c cX10_stops 5 s args RX10 D ad cA) (hr : meth.sig.returnType = none) (hlk : meth.locks = false)  (x1 : Int)  (n : Nat) (x4 : Int) (M : Mem) (h : f_X10_stops_L232 x1 n x4 M = some (r0, M0)) : WM syM p l e rm_X10_stops s m args below meth c 5 D ad cA (MQ below (q_Post syM D ad cA none M0) args s 0 0 (q_A syM ad)) M 232 [(0, .ref (ad 0)), (1, .int (qI x1)), (4, .int (qI x4))] [] :=
  qlm1_r (Wp := fun ux4 M => WM syM p l e rm_X10_stops s m args below meth c 5 D ad cA (MQ below (q_Post syM D ad cA none M0) args s 0 0 (q_A syM ad)) M 232 [(0, .ref (ad 0)), (1, .int (qI x1)), (4, .int (qI ux4))] []) (fun ux4 M g232 ih232 h => w_X10_stops_B232 C hr hlk x1 ux4 M g232  ih232 h) n x4 M h
def f_X10_stops_B116 (x1 : Int) (x2 : Int) (x3 : Int) (M : Mem) (g116 : Int → Mem → Res) : Res :=
  if w32 x3 ≤ 0 then (f_X10_stops_L232 x1 q_N 0 M)
  else (q_calp (f_X10_nextOn x1 M) fun r1 =>
  if ¬ w32 r1 = w32 (-1) then (q_call (f_X10_leaves x1 r1 2 M) fun r2 M3 =>
  q_gf M3 0 51 fun v4 =>
  q_pf M3 0 51 (q_and v4 (q_xor (q_shl 1 r1) (-1))) fun M5 =>
  q_as M5 75 184 ((8 * x1) + r1) x2 fun M6 =>
  q_al M6 67 23 x1 fun v7 =>
  q_as M6 76 184 ((8 * x1) + r1) v7 fun M8 =>
  q_al M8 72 184 ((8 * x1) + r1) fun v9 =>
  q_al M8 44 8 x2 fun v10 =>
  q_as M8 72 184 ((8 * x1) + r1) (q_max 0 (v9 - v10)) fun M11 =>
  g116 (x3 + (-1)) M11)
  else (some (0, M)))
def f_X10_stops_L116 (x1 : Int) (x2 : Int) (n : Nat) (x3 : Int) (M : Mem) : Res := qlm1 (fun x3 M g116 => f_X10_stops_B116 x1 x2 x3 M g116) n x3 M
theorem w_X10_stops_B116 (C : Cx syM p m c cX10_stops 5 s args RX10 D ad cA) (hr : meth.sig.returnType = none) (hlk : meth.locks = false)  (x1 : Int) (x2 : Int) (x3 : Int) (M : Mem) (g116 : Int → Mem → Res)  (ih116 : ∀ (ux3 : Int) (M : Mem), g116 ux3 M = some (r0, M0) → WM syM p l e rm_X10_stops s m args below meth c 5 D ad cA (MQ below (q_Post syM D ad cA none M0) args s 0 0 (q_A syM ad)) M 116 [(0, .ref (ad 0)), (1, .int (qI x1)), (2, .int (qI x2)), (3, .int (qI ux3))] []) (h : f_X10_stops_B116 x1 x2 x3 M g116 = some (r0, M0)) : WM syM p l e rm_X10_stops s m args below meth c 5 D ad cA (MQ below (q_Post syM D ad cA none M0) args s 0 0 (q_A syM ad)) M 116 [(0, .ref (ad 0)), (1, .int (qI x1)), (2, .int (qI x2)), (3, .int (qI x3))] [] := by
  unfold f_X10_stops_B116 at h
  refine r_iln C dX10_stops_116 (k := 3) rfl ?_
  refine r_zle C (tgt := 229) dX10_stops_117 (by decide) h (fun h => ?_) (fun h => ?_)
  · refine r_ic C dX10_stops_229 ?_
    refine r_is C (L1 := [(4, .int (qI 0)), (0, .ref (ad 0)), (1, .int (qI x1)), (2, .int (qI x2)), (3, .int (qI x3))]) dX10_stops_230 (by decide) rfl ?_
    refine r_drop [1, 2, 0] rfl ?_
    exact w_X10_stops_L232 C hr hlk x1  q_N 0 M h
  · refine r_aln C dX10_stops_120 (k := 0) rfl ?_
    refine r_iln C dX10_stops_121 (k := 1) rfl ?_
    obtain ⟨r1, hy, h⟩ := q_calp_some h
    refine r_cvi C (st := []) (c_X10_nextOn C.2.2.1 x1 M r1 hy) tm_RX10_370 mw_X10_nextOn ⟨rfl, rfl⟩ ⟨Nat.le_of_ble_eq_true rfl, Nat.le_of_ble_eq_true rfl⟩ km_0 clX10 rfl rfl (Nat.le_of_ble_eq_true rfl) dX10_stops_122 ?_
    refine r_is C (L1 := [(4, .int (qI r1)), (0, .ref (ad 0)), (1, .int (qI x1)), (2, .int (qI x2)), (3, .int (qI x3))]) dX10_stops_125 (by decide) rfl ?_
    refine r_il C dX10_stops_127 (k := 0) rfl ?_
    refine r_ic C dX10_stops_129 ?_
    refine r_cne C (tgt := 134) dX10_stops_130 (by decide) h (fun h => ?_) (fun h => ?_)
    · refine r_aln C dX10_stops_134 (k := 1) rfl ?_
      refine r_iln C dX10_stops_135 (k := 2) rfl ?_
      refine r_il C dX10_stops_136 (k := 0) rfl ?_
      refine r_ic C dX10_stops_138 ?_
      obtain ⟨r2, M3, hy, h⟩ := q_call_some h
      refine r_cvv C (st := []) (c_X10_leaves C.2.2.1 x1 r1 2 M r2 M3 hy) tm_RX10_373 mw_X10_leaves ⟨rfl, rfl⟩ ⟨Nat.le_of_ble_eq_true rfl, Nat.le_of_ble_eq_true rfl⟩ km_0 clX10 rfl rfl (Nat.le_of_ble_eq_true rfl) dX10_stops_139 ?_
      refine r_aln C dX10_stops_142 (k := 1) rfl ?_
      refine r_dup C rfl dX10_stops_143 ?_
      refine r_gf C km_0 clX10 (f := 51) (by decide) rfl rfl rfl tf_RX10_356 dX10_stops_144 h (fun v4 h => ?_)
      refine r_ic C dX10_stops_147 ?_
      refine r_il C dX10_stops_148 (k := 0) rfl ?_
      refine r_ishl C dX10_stops_150 ?_
      refine r_ic C dX10_stops_151 ?_
      refine r_ixor C dX10_stops_152 ?_
      refine r_iand C dX10_stops_153 ?_
      refine r_pf C km_0 clX10 (f := 51) (by decide) rfl q_dI rfl rfl tf_RX10_356 dX10_stops_154 h (fun M5 h => ?_)
      refine r_aln C dX10_stops_157 (k := 1) rfl ?_
      refine r_gs C km_0 clX10 (f := 43) (by decide) rfl (t := 75) rfl tf_RX10_96 dX10_stops_158 ?_
      refine r_bi C dX10_stops_161 (by decide) ?_
      refine r_iln C dX10_stops_163 (k := 2) rfl ?_
      refine r_imul C dX10_stops_164 ?_
      refine r_il C dX10_stops_165 (k := 0) rfl ?_
      refine r_iadd C dX10_stops_167 ?_
      refine r_iln C dX10_stops_168 (k := 3) rfl ?_
      refine r_iast C km_75 dX10_stops_169 h (fun M6 h => ?_)
      refine r_aln C dX10_stops_170 (k := 1) rfl ?_
      refine r_gs C km_0 clX10 (f := 44) (by decide) rfl (t := 76) rfl tf_RX10_99 dX10_stops_171 ?_
      refine r_bi C dX10_stops_174 (by decide) ?_
      refine r_iln C dX10_stops_176 (k := 2) rfl ?_
      refine r_imul C dX10_stops_177 ?_
      refine r_il C dX10_stops_178 (k := 0) rfl ?_
      refine r_iadd C dX10_stops_180 ?_
      refine r_aln C dX10_stops_181 (k := 1) rfl ?_
      refine r_gs C km_0 clX10 (f := 35) (by decide) rfl (t := 67) rfl tf_RX10_72 dX10_stops_182 ?_
      refine r_iln C dX10_stops_185 (k := 2) rfl ?_
      refine r_iald C km_67 dX10_stops_186 h (fun v7 h => ?_)
      refine r_iast C km_76 dX10_stops_187 h (fun M8 h => ?_)
      refine r_aln C dX10_stops_188 (k := 1) rfl ?_
      refine r_gs C km_0 clX10 (f := 40) (by decide) rfl (t := 72) rfl tf_RX10_87 dX10_stops_189 ?_
      refine r_bi C dX10_stops_192 (by decide) ?_
      refine r_iln C dX10_stops_194 (k := 2) rfl ?_
      refine r_imul C dX10_stops_195 ?_
      refine r_il C dX10_stops_196 (k := 0) rfl ?_
      refine r_iadd C dX10_stops_198 ?_
      refine r_ic C dX10_stops_199 ?_
      refine r_aln C dX10_stops_200 (k := 1) rfl ?_
      refine r_gs C km_0 clX10 (f := 40) (by decide) rfl (t := 72) rfl tf_RX10_87 dX10_stops_201 ?_
      refine r_bi C dX10_stops_204 (by decide) ?_
      refine r_iln C dX10_stops_206 (k := 2) rfl ?_
      refine r_imul C dX10_stops_207 ?_
      refine r_il C dX10_stops_208 (k := 0) rfl ?_
      refine r_iadd C dX10_stops_210 ?_
      refine r_iald C km_72 dX10_stops_211 h (fun v9 h => ?_)
      refine r_aln C dX10_stops_212 (k := 1) rfl ?_
      refine r_gs C km_0 clX10 (f := 12) (by decide) rfl (t := 44) rfl tf_RX10_40 dX10_stops_213 ?_
      refine r_iln C dX10_stops_216 (k := 3) rfl ?_
      refine r_iald C km_44 dX10_stops_217 h (fun v10 h => ?_)
      refine r_isub C dX10_stops_218 ?_
      refine r_q_max C (st := [.int (qI ((8 * x1) + r1)), .ref (ad 72)]) tm_RX10_376 ⟨Nat.le_of_ble_eq_true rfl, Nat.le_of_ble_eq_true rfl⟩ dX10_stops_219 ?_
      refine r_iast C km_72 dX10_stops_222 h (fun M11 h => ?_)
      refine r_inc C (L1 := [(3, .int (qI (x3 + (-1)))), (4, .int (qI r1)), (0, .ref (ad 0)), (1, .int (qI x1)), (2, .int (qI x2))]) dX10_stops_223 (k := 4) rfl (by decide) rfl ?_
      refine r_goto C (tgt := 116) dX10_stops_226 (by decide) ?_
      refine r_drop [2, 3, 4, 0] rfl ?_
      exact ih116 (x3 + (-1)) M11 h
    · exact r_vret C hr hlk dX10_stops_133 h
theorem w_X10_stops_L116 (C : Cx syM p m c cX10_stops 5 s args RX10 D ad cA) (hr : meth.sig.returnType = none) (hlk : meth.locks = false)  (x1 : Int) (x2 : Int)  (n : Nat) (x3 : Int) (M : Mem) (h : f_X10_stops_L116 x1 x2 n x3 M = some (r0, M0)) : WM syM p l e rm_X10_stops s m args below meth c 5 D ad cA (MQ below (q_Post syM D ad cA none M0) args s 0 0 (q_A syM ad)) M 116 [(0, .ref (ad 0)), (1, .int (qI x1)), (2, .int (qI x2)), (3, .int (qI x3))] [] :=
  qlm1_r (Wp := fun ux3 M => WM syM p l e rm_X10_stops s m args below meth c 5 D ad cA (MQ below (q_Post syM D ad cA none M0) args s 0 0 (q_A syM ad)) M 116 [(0, .ref (ad 0)), (1, .int (qI x1)), (2, .int (qI x2)), (3, .int (qI ux3))] []) (fun ux3 M g116 ih116 h => w_X10_stops_B116 C hr hlk x1 x2 ux3 M g116  ih116 h) n x3 M h
def f_X10_stops_J115 (x1 : Int) (x2 : Int) (y0 : Int) (M : Mem) : Res :=
  f_X10_stops_L116 x1 x2 q_N y0 M
theorem w_X10_stops_J115 (C : Cx syM p m c cX10_stops 5 s args RX10 D ad cA) (hr : meth.sig.returnType = none) (hlk : meth.locks = false) (x1 : Int) (x2 : Int) (y0 : Int) (M : Mem)  (h : f_X10_stops_J115 x1 x2 y0 M = some (r0, M0)) : WM syM p l e rm_X10_stops s m args below meth c 5 D ad cA (MQ below (q_Post syM D ad cA none M0) args s 0 0 (q_A syM ad)) M 115 [(0, .ref (ad 0)), (1, .int (qI x1)), (2, .int (qI x2))] [.int (qI y0)] := by
  unfold f_X10_stops_J115 at h
  refine r_isn C (L1 := [(3, .int (qI y0)), (0, .ref (ad 0)), (1, .int (qI x1)), (2, .int (qI x2))]) dX10_stops_115 (by decide) rfl ?_
  refine r_drop [1, 2, 3, 0] rfl ?_
  exact w_X10_stops_L116 C hr hlk x1 x2  q_N y0 M h
def f_X10_stops_J54 (g7 : Int → Mem → Res) (x1 : Int) (x2 : Int) (x3 : Int) (x4 : Int) (y0 : Int) (y1 : Int) (M : Mem) : Res :=
  q_pf M 0 51 (q_or y1 y0) fun M1 =>
  q_al M1 44 8 x2 fun v2 =>
  q_call (f_X10_calls x1 x4 v2 M1) fun r3 M4 =>
  q_call (f_X10_within 1 (-9999) 9999 0 M4) fun r5 M6 =>
  q_as M6 82 8 x4 r5 fun M7 =>
  g7 (x3 + 1) M7
theorem w_X10_stops_J54 (C : Cx syM p m c cX10_stops 5 s args RX10 D ad cA) (hr : meth.sig.returnType = none) (hlk : meth.locks = false) (g7 : Int → Mem → Res) (x1 : Int) (x2 : Int) (x3 : Int) (x4 : Int) (y0 : Int) (y1 : Int) (M : Mem) (ih7 : ∀ (ux3 : Int) (M : Mem), g7 ux3 M = some (r0, M0) → WM syM p l e rm_X10_stops s m args below meth c 5 D ad cA (MQ below (q_Post syM D ad cA none M0) args s 0 0 (q_A syM ad)) M 7 [(0, .ref (ad 0)), (1, .int (qI x1)), (2, .int (qI x2)), (3, .int (qI ux3))] []) (h : f_X10_stops_J54 g7 x1 x2 x3 x4 y0 y1 M = some (r0, M0)) : WM syM p l e rm_X10_stops s m args below meth c 5 D ad cA (MQ below (q_Post syM D ad cA none M0) args s 0 0 (q_A syM ad)) M 54 [(0, .ref (ad 0)), (1, .int (qI x1)), (2, .int (qI x2)), (3, .int (qI x3)), (4, .int (qI x4))] [.int (qI y0), .int (qI y1), .ref (ad 0)] := by
  unfold f_X10_stops_J54 at h
  refine r_ior C dX10_stops_54 ?_
  refine r_pf C km_0 clX10 (f := 51) (by decide) rfl q_dI rfl rfl tf_RX10_356 dX10_stops_55 h (fun M1 h => ?_)
  refine r_aln C dX10_stops_58 (k := 0) rfl ?_
  refine r_iln C dX10_stops_59 (k := 1) rfl ?_
  refine r_il C dX10_stops_60 (k := 4) rfl ?_
  refine r_aln C dX10_stops_62 (k := 0) rfl ?_
  refine r_gs C km_0 clX10 (f := 12) (by decide) rfl (t := 44) rfl tf_RX10_40 dX10_stops_63 ?_
  refine r_iln C dX10_stops_66 (k := 2) rfl ?_
  refine r_iald C km_44 dX10_stops_67 h (fun v2 h => ?_)
  obtain ⟨r3, M4, hy, h⟩ := q_call_some h
  refine r_cvv C (st := []) (c_X10_calls C.2.2.1 x1 x4 v2 M1 r3 M4 hy) tm_RX10_352 mw_X10_calls ⟨rfl, rfl⟩ ⟨Nat.le_of_ble_eq_true rfl, Nat.le_of_ble_eq_true rfl⟩ km_0 clX10 rfl rfl (Nat.le_of_ble_eq_true rfl) dX10_stops_68 ?_
  refine r_aln C dX10_stops_71 (k := 0) rfl ?_
  refine r_gs C km_0 clX10 (f := 50) (by decide) rfl (t := 82) rfl tf_RX10_105 dX10_stops_72 ?_
  refine r_il C dX10_stops_75 (k := 4) rfl ?_
  refine r_aln C dX10_stops_77 (k := 0) rfl ?_
  refine r_ic C dX10_stops_78 ?_
  refine r_si C dX10_stops_79 (by decide) ?_
  refine r_si C dX10_stops_82 (by decide) ?_
  refine r_ic C dX10_stops_85 ?_
  obtain ⟨r5, M6, hy, h⟩ := q_call_some h
  refine r_cvi C (st := [.int (qI x4), .ref (ad 82)]) (c_X10_within C.2.2.1 1 (-9999) 9999 0 M4 r5 M6 hy) tm_RX10_366 mw_X10_within ⟨rfl, rfl⟩ ⟨Nat.le_of_ble_eq_true rfl, Nat.le_of_ble_eq_true rfl⟩ km_0 clX10 rfl rfl (Nat.le_of_ble_eq_true rfl) dX10_stops_86 ?_
  refine r_iast C km_82 dX10_stops_89 h (fun M7 h => ?_)
  refine r_inc C (L1 := [(3, .int (qI (x3 + 1))), (0, .ref (ad 0)), (1, .int (qI x1)), (2, .int (qI x2)), (4, .int (qI x4))]) dX10_stops_90 (k := 3) rfl (by decide) rfl ?_
  refine r_goto C (tgt := 7) dX10_stops_93 (by decide) ?_
  refine r_drop [1, 2, 3, 0] rfl ?_
  exact ih7 (x3 + 1) M7 h
def f_X10_stops_B7 (x1 : Int) (x2 : Int) (x3 : Int) (M : Mem) (g7 : Int → Mem → Res) : Res :=
  q_al M 69 23 x1 fun v1 =>
  if w32 v1 ≤ w32 x3 then (q_gf M 0 47 fun v2 =>
  if ¬ w32 v2 = w32 4 then (q_al M 43 8 x2 fun v3 =>
  f_X10_stops_J115 x1 x2 v3 M)
  else (f_X10_stops_J115 x1 x2 8 M))
  else (q_al M 70 184 ((8 * x1) + x3) fun v4 =>
  q_gf M 0 51 fun v5 =>
  q_call (f_X10_mayRide x1 v4 x2 M) fun r6 M7 =>
  if w32 r6 = 0 then (f_X10_stops_J54 g7 x1 x2 x3 v4 0 v5 M7)
  else (f_X10_stops_J54 g7 x1 x2 x3 v4 (q_shl 1 v4) v5 M7))
def f_X10_stops_L7 (x1 : Int) (x2 : Int) (n : Nat) (x3 : Int) (M : Mem) : Res := qlm1 (fun x3 M g7 => f_X10_stops_B7 x1 x2 x3 M g7) n x3 M
theorem w_X10_stops_B7 (C : Cx syM p m c cX10_stops 5 s args RX10 D ad cA) (hr : meth.sig.returnType = none) (hlk : meth.locks = false)  (x1 : Int) (x2 : Int) (x3 : Int) (M : Mem) (g7 : Int → Mem → Res)  (ih7 : ∀ (ux3 : Int) (M : Mem), g7 ux3 M = some (r0, M0) → WM syM p l e rm_X10_stops s m args below meth c 5 D ad cA (MQ below (q_Post syM D ad cA none M0) args s 0 0 (q_A syM ad)) M 7 [(0, .ref (ad 0)), (1, .int (qI x1)), (2, .int (qI x2)), (3, .int (qI ux3))] []) (h : f_X10_stops_B7 x1 x2 x3 M g7 = some (r0, M0)) : WM syM p l e rm_X10_stops s m args below meth c 5 D ad cA (MQ below (q_Post syM D ad cA none M0) args s 0 0 (q_A syM ad)) M 7 [(0, .ref (ad 0)), (1, .int (qI x1)), (2, .int (qI x2)), (3, .int (qI x3))] [] := by
  unfold f_X10_stops_B7 at h
  refine r_iln C dX10_stops_7 (k := 3) rfl ?_
  refine r_aln C dX10_stops_8 (k := 0) rfl ?_
  refine r_gs C km_0 clX10 (f := 37) (by decide) rfl (t := 69) rfl tf_RX10_78 dX10_stops_9 ?_
  refine r_iln C dX10_stops_12 (k := 1) rfl ?_
  refine r_iald C km_69 dX10_stops_13 h (fun v1 h => ?_)
  refine r_cge C (tgt := 96) dX10_stops_14 (by decide) h (fun h => ?_) (fun h => ?_)
  · refine r_aln C dX10_stops_96 (k := 0) rfl ?_
    refine r_gf C km_0 clX10 (f := 47) (by decide) rfl rfl rfl tf_RX10_349 dX10_stops_97 h (fun v2 h => ?_)
    refine r_ic C dX10_stops_100 ?_
    refine r_cne C (tgt := 109) dX10_stops_101 (by decide) h (fun h => ?_) (fun h => ?_)
    · refine r_aln C dX10_stops_109 (k := 0) rfl ?_
      refine r_gs C km_0 clX10 (f := 11) (by decide) rfl (t := 43) rfl tf_RX10_37 dX10_stops_110 ?_
      refine r_iln C dX10_stops_113 (k := 2) rfl ?_
      refine r_iald C km_43 dX10_stops_114 h (fun v3 h => ?_)
      refine r_drop [0, 1, 2] rfl ?_
      exact w_X10_stops_J115 C hr hlk x1 x2 v3 M  h
    · refine r_bi C dX10_stops_104 (by decide) ?_
      refine r_goto C (tgt := 115) dX10_stops_106 (by decide) ?_
      refine r_drop [0, 1, 2] rfl ?_
      exact w_X10_stops_J115 C hr hlk x1 x2 8 M  h
  · refine r_aln C dX10_stops_17 (k := 0) rfl ?_
    refine r_gs C km_0 clX10 (f := 38) (by decide) rfl (t := 70) rfl tf_RX10_81 dX10_stops_18 ?_
    refine r_bi C dX10_stops_21 (by decide) ?_
    refine r_iln C dX10_stops_23 (k := 1) rfl ?_
    refine r_imul C dX10_stops_24 ?_
    refine r_iln C dX10_stops_25 (k := 3) rfl ?_
    refine r_iadd C dX10_stops_26 ?_
    refine r_iald C km_70 dX10_stops_27 h (fun v4 h => ?_)
    refine r_is C (L1 := [(4, .int (qI v4)), (0, .ref (ad 0)), (1, .int (qI x1)), (2, .int (qI x2)), (3, .int (qI x3))]) dX10_stops_28 (by decide) rfl ?_
    refine r_aln C dX10_stops_30 (k := 1) rfl ?_
    refine r_dup C rfl dX10_stops_31 ?_
    refine r_gf C km_0 clX10 (f := 51) (by decide) rfl rfl rfl tf_RX10_356 dX10_stops_32 h (fun v5 h => ?_)
    refine r_aln C dX10_stops_35 (k := 1) rfl ?_
    refine r_iln C dX10_stops_36 (k := 2) rfl ?_
    refine r_il C dX10_stops_37 (k := 0) rfl ?_
    refine r_iln C dX10_stops_39 (k := 3) rfl ?_
    obtain ⟨r6, M7, hy, h⟩ := q_call_some h
    refine r_cvi C (st := [.int (qI v5), .ref (ad 0)]) (c_X10_mayRide C.2.2.1 x1 v4 x2 M r6 M7 hy) tm_RX10_362 mw_X10_mayRide ⟨rfl, rfl⟩ ⟨Nat.le_of_ble_eq_true rfl, Nat.le_of_ble_eq_true rfl⟩ km_0 clX10 rfl rfl (Nat.le_of_ble_eq_true rfl) dX10_stops_40 ?_
    refine r_zeq C (tgt := 53) dX10_stops_43 (by decide) h (fun h => ?_) (fun h => ?_)
    · refine r_ic C dX10_stops_53 ?_
      refine r_drop [1, 2, 3, 4, 0] rfl ?_
      exact w_X10_stops_J54 C hr hlk g7 x1 x2 x3 v4 0 v5 M7 ih7 h
    · refine r_ic C dX10_stops_46 ?_
      refine r_il C dX10_stops_47 (k := 0) rfl ?_
      refine r_ishl C dX10_stops_49 ?_
      refine r_goto C (tgt := 54) dX10_stops_50 (by decide) ?_
      refine r_drop [1, 2, 3, 4, 0] rfl ?_
      exact w_X10_stops_J54 C hr hlk g7 x1 x2 x3 v4 (q_shl 1 v4) v5 M7 ih7 h
theorem w_X10_stops_L7 (C : Cx syM p m c cX10_stops 5 s args RX10 D ad cA) (hr : meth.sig.returnType = none) (hlk : meth.locks = false)  (x1 : Int) (x2 : Int)  (n : Nat) (x3 : Int) (M : Mem) (h : f_X10_stops_L7 x1 x2 n x3 M = some (r0, M0)) : WM syM p l e rm_X10_stops s m args below meth c 5 D ad cA (MQ below (q_Post syM D ad cA none M0) args s 0 0 (q_A syM ad)) M 7 [(0, .ref (ad 0)), (1, .int (qI x1)), (2, .int (qI x2)), (3, .int (qI x3))] [] :=
  qlm1_r (Wp := fun ux3 M => WM syM p l e rm_X10_stops s m args below meth c 5 D ad cA (MQ below (q_Post syM D ad cA none M0) args s 0 0 (q_A syM ad)) M 7 [(0, .ref (ad 0)), (1, .int (qI x1)), (2, .int (qI x2)), (3, .int (qI ux3))] []) (fun ux3 M g7 ih7 h => w_X10_stops_B7 C hr hlk x1 x2 ux3 M g7  ih7 h) n x3 M h
def f_X10_stops (a0 : Int) (a1 : Int) (M : Mem) : Res :=
  q_pf M 0 51 0 fun M1 =>
  f_X10_stops_L7 a0 a1 q_N 0 M1
theorem c_X10_stops {l : Launch} {D : va_G} {ad : Nat → Nat} {cA : Nat → ClassId} (hi : q_inj syM ad) (a0 : Int) (a1 : Int) (M : Mem) (r0 : Int) (M0 : Mem) (h : f_X10_stops a0 a1 M = some (r0, M0)) : q_Met l syM D ad cA yX10_stops cX10_stops 5 none rm_X10_stops [.ref (ad 0), .int (qI a0), .int (qI a1)] M none M0 := by
  refine q_met (L0 := [(0, .ref (ad 0)), (1, .int (qI a0)), (2, .int (qI a1))]) hi okM (by decide) (Nat.le_of_ble_eq_true rfl) rfl ?_
  intro p e s m args below meth c C hr hlk
  unfold f_X10_stops at h
  refine r_aln C dX10_stops_0 (k := 0) rfl ?_
  refine r_ic C dX10_stops_1 ?_
  refine r_pf C km_0 clX10 (f := 51) (by decide) rfl q_dI rfl rfl tf_RX10_356 dX10_stops_2 h (fun M1 h => ?_)
  refine r_ic C dX10_stops_5 ?_
  refine r_isn C (L1 := [(3, .int (qI 0)), (0, .ref (ad 0)), (1, .int (qI a0)), (2, .int (qI a1))]) dX10_stops_6 (by decide) rfl ?_
  refine r_drop [1, 2, 3, 0] rfl ?_
  exact w_X10_stops_L7 C hr hlk a0 a1  q_N 0 M1 h
abbrev rm_X10_doesRain : Room := { frames := 0, cells := 0, slots := 0, locals := 0 }
theorem mw_X10_doesRain : q_mw RX10 yX10_doesRain cX10_doesRain 4 (some .boolean) 2 := ⟨⟨ti_X10_doesRain, tl_X10_doesRain, tn_RX10, td_X10_doesRain⟩, by decide +kernel⟩
def f_X10_doesRain_J21 (x3 : Int) (M : Mem) : Res :=
  if w32 x3 < w32 50 then (some (0, M))
  else (some (1, M))
theorem w_X10_doesRain_J21 (C : Cx syM p m c cX10_doesRain 4 s args RX10 D ad cA) (hr : meth.sig.returnType = (some .boolean)) (hlk : meth.locks = false) (x3 : Int) (M : Mem)  (h : f_X10_doesRain_J21 x3 M = some (r0, M0)) : WM syM p l e rm_X10_doesRain s m args below meth c 4 D ad cA (MQ below (q_Post syM D ad cA (some (.int (qI r0))) M0) args s 0 0 (q_A syM ad)) M 21 [(3, .int (qI x3))] [] := by
  unfold f_X10_doesRain_J21 at h
  refine r_iln C dX10_doesRain_21 (k := 0) rfl ?_
  refine r_bi C dX10_doesRain_22 (by decide) ?_
  refine r_clt C (tgt := 31) dX10_doesRain_24 (by decide) h (fun h => ?_) (fun h => ?_)
  · refine r_ic C dX10_doesRain_31 ?_
    exact r_zret C (by decide) hr hlk dX10_doesRain_32 h
  · refine r_ic C dX10_doesRain_27 ?_
    refine r_goto C (tgt := 32) dX10_doesRain_28 (by decide) ?_
    exact r_zret C (by decide) hr hlk dX10_doesRain_32 h
def f_X10_doesRain (a0 : Int) (a1 : Int) (M : Mem) : Res :=
  q_al M 35 14 4 fun v1 =>
  if w32 a1 = 0 then (f_X10_doesRain_J21 v1 M)
  else (if w32 v1 = 0 then (f_X10_doesRain_J21 v1 M)
  else (if ¬ w32 v1 = w32 100 then (q_al M 68 23 a0 fun v2 =>
  q_as M 68 23 a0 (q_and ((v2 * 1103515245) + 12345) 2147483647) fun M3 =>
  q_al M3 68 23 a0 fun v4 =>
  q_nz 100 <| if w32 v1 ≤ w32 ((w32 (q_shr v4 16)).tmod (w32 100)) then (some (0, M3))
  else (some (1, M3)))
  else (f_X10_doesRain_J21 v1 M)))
theorem c_X10_doesRain {l : Launch} {D : va_G} {ad : Nat → Nat} {cA : Nat → ClassId} (hi : q_inj syM ad) (a0 : Int) (a1 : Int) (M : Mem) (r0 : Int) (M0 : Mem) (h : f_X10_doesRain a0 a1 M = some (r0, M0)) : q_Met l syM D ad cA yX10_doesRain cX10_doesRain 4 (some .boolean) rm_X10_doesRain [.ref (ad 0), .int (qI a0), .int (qI a1)] M (some (.int (qI r0))) M0 := by
  refine q_met (L0 := [(0, .ref (ad 0)), (1, .int (qI a0)), (2, .int (qI a1))]) hi okM (by decide) (Nat.le_of_ble_eq_true rfl) rfl ?_
  intro p e s m args below meth c C hr hlk
  unfold f_X10_doesRain at h
  refine r_aln C dX10_doesRain_0 (k := 0) rfl ?_
  refine r_gs C km_0 clX10 (f := 3) (by decide) rfl (t := 35) rfl tf_RX10_13 dX10_doesRain_1 ?_
  refine r_ic C dX10_doesRain_4 ?_
  refine r_iald C km_35 dX10_doesRain_5 h (fun v1 h => ?_)
  refine r_isn C (L1 := [(3, .int (qI v1)), (0, .ref (ad 0)), (1, .int (qI a0)), (2, .int (qI a1))]) dX10_doesRain_6 (by decide) rfl ?_
  refine r_iln C dX10_doesRain_7 (k := 3) rfl ?_
  refine r_zeq C (tgt := 21) dX10_doesRain_8 (by decide) h (fun h => ?_) (fun h => ?_)
  · refine r_drop [0] rfl ?_
    exact w_X10_doesRain_J21 C hr hlk v1 M  h
  · refine r_iln C dX10_doesRain_11 (k := 0) rfl ?_
    refine r_zeq C (tgt := 21) dX10_doesRain_12 (by decide) h (fun h => ?_) (fun h => ?_)
    · refine r_drop [0] rfl ?_
      exact w_X10_doesRain_J21 C hr hlk v1 M  h
    · refine r_iln C dX10_doesRain_15 (k := 0) rfl ?_
      refine r_bi C dX10_doesRain_16 (by decide) ?_
      refine r_cne C (tgt := 33) dX10_doesRain_18 (by decide) h (fun h => ?_) (fun h => ?_)
      · refine r_aln C dX10_doesRain_33 (k := 1) rfl ?_
        refine r_gs C km_0 clX10 (f := 36) (by decide) rfl (t := 68) rfl tf_RX10_75 dX10_doesRain_34 ?_
        refine r_iln C dX10_doesRain_37 (k := 2) rfl ?_
        refine r_aln C dX10_doesRain_38 (k := 1) rfl ?_
        refine r_gs C km_0 clX10 (f := 36) (by decide) rfl (t := 68) rfl tf_RX10_75 dX10_doesRain_39 ?_
        refine r_iln C dX10_doesRain_42 (k := 2) rfl ?_
        refine r_iald C km_68 dX10_doesRain_43 h (fun v2 h => ?_)
        refine r_ldcw C (x := 1103515245) tc_RX10_381 (by decide) dX10_doesRain_44 ?_
        refine r_imul C dX10_doesRain_47 ?_
        refine r_si C dX10_doesRain_48 (by decide) ?_
        refine r_iadd C dX10_doesRain_51 ?_
        refine r_ldcw C (x := 2147483647) tc_RX10_384 (by decide) dX10_doesRain_52 ?_
        refine r_iand C dX10_doesRain_55 ?_
        refine r_iast C km_68 dX10_doesRain_56 h (fun M3 h => ?_)
        refine r_aln C dX10_doesRain_57 (k := 1) rfl ?_
        refine r_gs C km_0 clX10 (f := 36) (by decide) rfl (t := 68) rfl tf_RX10_75 dX10_doesRain_58 ?_
        refine r_iln C dX10_doesRain_61 (k := 2) rfl ?_
        refine r_iald C km_68 dX10_doesRain_62 h (fun v4 h => ?_)
        refine r_bi C dX10_doesRain_63 (by decide) ?_
        refine r_ishr C dX10_doesRain_65 ?_
        refine r_bi C dX10_doesRain_66 (by decide) ?_
        refine r_irem C dX10_doesRain_68 h (fun h => ?_)
        refine r_iln C dX10_doesRain_69 (k := 0) rfl ?_
        refine r_cge C (tgt := 77) dX10_doesRain_70 (by decide) h (fun h => ?_) (fun h => ?_)
        · refine r_ic C dX10_doesRain_77 ?_
          exact r_zret C (by decide) hr hlk dX10_doesRain_78 h
        · refine r_ic C dX10_doesRain_73 ?_
          refine r_goto C (tgt := 78) dX10_doesRain_74 (by decide) ?_
          exact r_zret C (by decide) hr hlk dX10_doesRain_78 h
      · refine r_drop [0] rfl ?_
        exact w_X10_doesRain_J21 C hr hlk v1 M  h
abbrev rm_X10_passes : Room := { frames := 5, cells := 0, slots := 0, locals := 120 }
theorem mw_X10_passes : q_mw RX10 yX10_passes cX10_passes 6 none 2 := ⟨⟨ti_X10_passes, tl_X10_passes, tn_RX10, td_X10_passes⟩, by decide +kernel⟩
def f_X10_passes_J189 (x1 : Int) (M : Mem) : Res :=
  q_al M 67 23 x1 fun v1 =>
  q_as M 67 23 x1 (v1 + 1) fun M2 =>
  some (0, M2)
theorem w_X10_passes_J189 (C : Cx syM p m c cX10_passes 6 s args RX10 D ad cA) (hr : meth.sig.returnType = none) (hlk : meth.locks = false) (x1 : Int) (M : Mem)  (h : f_X10_passes_J189 x1 M = some (r0, M0)) : WM syM p l e rm_X10_passes s m args below meth c 6 D ad cA (MQ below (q_Post syM D ad cA none M0) args s 0 0 (q_A syM ad)) M 189 [(0, .ref (ad 0)), (1, .int (qI x1))] [] := by
  unfold f_X10_passes_J189 at h
  refine r_aln C dX10_passes_189 (k := 0) rfl ?_
  refine r_gs C km_0 clX10 (f := 35) (by decide) rfl (t := 67) rfl tf_RX10_72 dX10_passes_190 ?_
  refine r_iln C dX10_passes_193 (k := 1) rfl ?_
  refine r_dup2 C rfl rfl dX10_passes_194 ?_
  refine r_iald C km_67 dX10_passes_195 h (fun v1 h => ?_)
  refine r_ic C dX10_passes_196 ?_
  refine r_iadd C dX10_passes_197 ?_
  refine r_iast C km_67 dX10_passes_198 h (fun M2 h => ?_)
  exact r_vret C hr hlk dX10_passes_199 h
def f_X10_passes_B106 (x1 : Int) (x3 : Int) (x4 : Int) (M : Mem) (g106 : Int → Mem → Res) : Res :=
  q_al M 69 23 x1 fun v1 =>
  if w32 v1 ≤ w32 x4 then (f_X10_passes_J189 x1 M)
  else (if w32 x3 = 0 then (f_X10_passes_J189 x1 M)
  else (q_al M 70 184 ((8 * x1) + x4) fun v2 =>
  q_call (f_X10_calls x1 v2 0 M) fun r3 M4 =>
  q_al M4 73 184 ((8 * x1) + v2) fun v5 =>
  q_call (f_X10_within 2 0 99 1 M4) fun r6 M7 =>
  q_as M7 73 184 ((8 * x1) + v2) (q_min 999 (v5 + r6)) fun M8 =>
  g106 (x4 + 1) M8))
def f_X10_passes_L106 (x1 : Int) (x3 : Int) (n : Nat) (x4 : Int) (M : Mem) : Res := qlm1 (fun x4 M g106 => f_X10_passes_B106 x1 x3 x4 M g106) n x4 M
theorem w_X10_passes_B106 (C : Cx syM p m c cX10_passes 6 s args RX10 D ad cA) (hr : meth.sig.returnType = none) (hlk : meth.locks = false)  (x1 : Int) (x3 : Int) (x4 : Int) (M : Mem) (g106 : Int → Mem → Res)  (ih106 : ∀ (ux4 : Int) (M : Mem), g106 ux4 M = some (r0, M0) → WM syM p l e rm_X10_passes s m args below meth c 6 D ad cA (MQ below (q_Post syM D ad cA none M0) args s 0 0 (q_A syM ad)) M 106 [(0, .ref (ad 0)), (1, .int (qI x1)), (3, .int (qI x3)), (4, .int (qI ux4))] []) (h : f_X10_passes_B106 x1 x3 x4 M g106 = some (r0, M0)) : WM syM p l e rm_X10_passes s m args below meth c 6 D ad cA (MQ below (q_Post syM D ad cA none M0) args s 0 0 (q_A syM ad)) M 106 [(0, .ref (ad 0)), (1, .int (qI x1)), (3, .int (qI x3)), (4, .int (qI x4))] [] := by
  unfold f_X10_passes_B106 at h
  refine r_il C dX10_passes_106 (k := 3) rfl ?_
  refine r_aln C dX10_passes_108 (k := 0) rfl ?_
  refine r_gs C km_0 clX10 (f := 37) (by decide) rfl (t := 69) rfl tf_RX10_78 dX10_passes_109 ?_
  refine r_iln C dX10_passes_112 (k := 1) rfl ?_
  refine r_iald C km_69 dX10_passes_113 h (fun v1 h => ?_)
  refine r_cge C (tgt := 189) dX10_passes_114 (by decide) h (fun h => ?_) (fun h => ?_)
  · refine r_drop [0, 1] rfl ?_
    exact w_X10_passes_J189 C hr hlk x1 M  h
  · refine r_iln C dX10_passes_117 (k := 2) rfl ?_
    refine r_zeq C (tgt := 189) dX10_passes_118 (by decide) h (fun h => ?_) (fun h => ?_)
    · refine r_drop [0, 1] rfl ?_
      exact w_X10_passes_J189 C hr hlk x1 M  h
    · refine r_aln C dX10_passes_121 (k := 0) rfl ?_
      refine r_gs C km_0 clX10 (f := 38) (by decide) rfl (t := 70) rfl tf_RX10_81 dX10_passes_122 ?_
      refine r_bi C dX10_passes_125 (by decide) ?_
      refine r_iln C dX10_passes_127 (k := 1) rfl ?_
      refine r_imul C dX10_passes_128 ?_
      refine r_il C dX10_passes_129 (k := 3) rfl ?_
      refine r_iadd C dX10_passes_131 ?_
      refine r_iald C km_70 dX10_passes_132 h (fun v2 h => ?_)
      refine r_is C (L1 := [(5, .int (qI v2)), (0, .ref (ad 0)), (1, .int (qI x1)), (3, .int (qI x3)), (4, .int (qI x4))]) dX10_passes_133 (by decide) rfl ?_
      refine r_aln C dX10_passes_135 (k := 1) rfl ?_
      refine r_iln C dX10_passes_136 (k := 2) rfl ?_
      refine r_il C dX10_passes_137 (k := 0) rfl ?_
      refine r_ic C dX10_passes_139 ?_
      obtain ⟨r3, M4, hy, h⟩ := q_call_some h
      refine r_cvv C (st := []) (c_X10_calls C.2.2.1 x1 v2 0 M r3 M4 hy) tm_RX10_352 mw_X10_calls ⟨rfl, rfl⟩ ⟨Nat.le_of_ble_eq_true rfl, Nat.le_of_ble_eq_true rfl⟩ km_0 clX10 rfl rfl (Nat.le_of_ble_eq_true rfl) dX10_passes_140 ?_
      refine r_aln C dX10_passes_143 (k := 1) rfl ?_
      refine r_gs C km_0 clX10 (f := 41) (by decide) rfl (t := 73) rfl tf_RX10_90 dX10_passes_144 ?_
      refine r_bi C dX10_passes_147 (by decide) ?_
      refine r_iln C dX10_passes_149 (k := 2) rfl ?_
      refine r_imul C dX10_passes_150 ?_
      refine r_il C dX10_passes_151 (k := 0) rfl ?_
      refine r_iadd C dX10_passes_153 ?_
      refine r_si C dX10_passes_154 (by decide) ?_
      refine r_aln C dX10_passes_157 (k := 1) rfl ?_
      refine r_gs C km_0 clX10 (f := 41) (by decide) rfl (t := 73) rfl tf_RX10_90 dX10_passes_158 ?_
      refine r_bi C dX10_passes_161 (by decide) ?_
      refine r_iln C dX10_passes_163 (k := 2) rfl ?_
      refine r_imul C dX10_passes_164 ?_
      refine r_il C dX10_passes_165 (k := 0) rfl ?_
      refine r_iadd C dX10_passes_167 ?_
      refine r_iald C km_73 dX10_passes_168 h (fun v5 h => ?_)
      refine r_aln C dX10_passes_169 (k := 1) rfl ?_
      refine r_ic C dX10_passes_170 ?_
      refine r_ic C dX10_passes_171 ?_
      refine r_bi C dX10_passes_172 (by decide) ?_
      refine r_ic C dX10_passes_174 ?_
      obtain ⟨r6, M7, hy, h⟩ := q_call_some h
      refine r_cvi C (st := [.int (qI v5), .int (qI 999), .int (qI ((8 * x1) + v2)), .ref (ad 73)]) (c_X10_within C.2.2.1 2 0 99 1 M4 r6 M7 hy) tm_RX10_366 mw_X10_within ⟨rfl, rfl⟩ ⟨Nat.le_of_ble_eq_true rfl, Nat.le_of_ble_eq_true rfl⟩ km_0 clX10 rfl rfl (Nat.le_of_ble_eq_true rfl) dX10_passes_175 ?_
      refine r_iadd C dX10_passes_178 ?_
      refine r_q_min C (st := [.int (qI ((8 * x1) + v2)), .ref (ad 73)]) tm_RX10_399 ⟨Nat.le_of_ble_eq_true rfl, Nat.le_of_ble_eq_true rfl⟩ dX10_passes_179 ?_
      refine r_iast C km_73 dX10_passes_182 h (fun M8 h => ?_)
      refine r_inc C (L1 := [(4, .int (qI (x4 + 1))), (5, .int (qI v2)), (0, .ref (ad 0)), (1, .int (qI x1)), (3, .int (qI x3))]) dX10_passes_183 (k := 4) rfl (by decide) rfl ?_
      refine r_goto C (tgt := 106) dX10_passes_186 (by decide) ?_
      refine r_drop [2, 3, 4, 0] rfl ?_
      exact ih106 (x4 + 1) M8 h
theorem w_X10_passes_L106 (C : Cx syM p m c cX10_passes 6 s args RX10 D ad cA) (hr : meth.sig.returnType = none) (hlk : meth.locks = false)  (x1 : Int) (x3 : Int)  (n : Nat) (x4 : Int) (M : Mem) (h : f_X10_passes_L106 x1 x3 n x4 M = some (r0, M0)) : WM syM p l e rm_X10_passes s m args below meth c 6 D ad cA (MQ below (q_Post syM D ad cA none M0) args s 0 0 (q_A syM ad)) M 106 [(0, .ref (ad 0)), (1, .int (qI x1)), (3, .int (qI x3)), (4, .int (qI x4))] [] :=
  qlm1_r (Wp := fun ux4 M => WM syM p l e rm_X10_passes s m args below meth c 6 D ad cA (MQ below (q_Post syM D ad cA none M0) args s 0 0 (q_A syM ad)) M 106 [(0, .ref (ad 0)), (1, .int (qI x1)), (3, .int (qI x3)), (4, .int (qI ux4))] []) (fun ux4 M g106 ih106 h => w_X10_passes_B106 C hr hlk x1 x3 ux4 M g106  ih106 h) n x4 M h
def f_X10_passes_B55 (x1 : Int) (x2 : Int) (x3 : Int) (M : Mem) (g55 : Int → Mem → Res) : Res :=
  q_al M 35 14 1 fun v1 =>
  if w32 v1 ≤ w32 x3 then (q_call (f_X10_doesRain x1 x2 M) fun r2 M3 =>
  q_al M3 35 14 3 fun v4 =>
  f_X10_passes_L106 x1 r2 q_N v4 M3)
  else (q_al M 67 23 x1 fun v5 =>
  q_calp (f_X10_isComing x3 v5 M) fun r6 =>
  if w32 r6 = 0 then (g55 (x3 + 1) M)
  else (q_call (f_X10_stops x1 x3 M) fun r7 M8 =>
  g55 (x3 + 1) M8))
def f_X10_passes_L55 (x1 : Int) (x2 : Int) (n : Nat) (x3 : Int) (M : Mem) : Res := qlm1 (fun x3 M g55 => f_X10_passes_B55 x1 x2 x3 M g55) n x3 M
theorem w_X10_passes_B55 (C : Cx syM p m c cX10_passes 6 s args RX10 D ad cA) (hr : meth.sig.returnType = none) (hlk : meth.locks = false)  (x1 : Int) (x2 : Int) (x3 : Int) (M : Mem) (g55 : Int → Mem → Res)  (ih55 : ∀ (ux3 : Int) (M : Mem), g55 ux3 M = some (r0, M0) → WM syM p l e rm_X10_passes s m args below meth c 6 D ad cA (MQ below (q_Post syM D ad cA none M0) args s 0 0 (q_A syM ad)) M 55 [(0, .ref (ad 0)), (1, .int (qI x1)), (2, .int (qI x2)), (3, .int (qI ux3))] []) (h : f_X10_passes_B55 x1 x2 x3 M g55 = some (r0, M0)) : WM syM p l e rm_X10_passes s m args below meth c 6 D ad cA (MQ below (q_Post syM D ad cA none M0) args s 0 0 (q_A syM ad)) M 55 [(0, .ref (ad 0)), (1, .int (qI x1)), (2, .int (qI x2)), (3, .int (qI x3))] [] := by
  unfold f_X10_passes_B55 at h
  refine r_iln C dX10_passes_55 (k := 3) rfl ?_
  refine r_aln C dX10_passes_56 (k := 0) rfl ?_
  refine r_gs C km_0 clX10 (f := 3) (by decide) rfl (t := 35) rfl tf_RX10_13 dX10_passes_57 ?_
  refine r_ic C dX10_passes_60 ?_
  refine r_iald C km_35 dX10_passes_61 h (fun v1 h => ?_)
  refine r_cge C (tgt := 91) dX10_passes_62 (by decide) h (fun h => ?_) (fun h => ?_)
  · refine r_aln C dX10_passes_91 (k := 0) rfl ?_
    refine r_iln C dX10_passes_92 (k := 1) rfl ?_
    refine r_iln C dX10_passes_93 (k := 2) rfl ?_
    obtain ⟨r2, M3, hy, h⟩ := q_call_some h
    refine r_cvi C (st := []) (c_X10_doesRain C.2.2.1 x1 x2 M r2 M3 hy) tm_RX10_395 mw_X10_doesRain ⟨rfl, rfl⟩ ⟨Nat.le_of_ble_eq_true rfl, Nat.le_of_ble_eq_true rfl⟩ km_0 clX10 rfl rfl (Nat.le_of_ble_eq_true rfl) dX10_passes_94 ?_
    refine r_isn C (L1 := [(3, .int (qI r2)), (0, .ref (ad 0)), (1, .int (qI x1)), (2, .int (qI x2))]) dX10_passes_97 (by decide) rfl ?_
    refine r_aln C dX10_passes_98 (k := 1) rfl ?_
    refine r_gs C km_0 clX10 (f := 3) (by decide) rfl (t := 35) rfl tf_RX10_13 dX10_passes_99 ?_
    refine r_ic C dX10_passes_102 ?_
    refine r_iald C km_35 dX10_passes_103 h (fun v4 h => ?_)
    refine r_is C (L1 := [(4, .int (qI v4)), (3, .int (qI r2)), (0, .ref (ad 0)), (1, .int (qI x1)), (2, .int (qI x2))]) dX10_passes_104 (by decide) rfl ?_
    refine r_drop [2, 3, 1, 0] rfl ?_
    exact w_X10_passes_L106 C hr hlk x1 r2  q_N v4 M3 h
  · refine r_aln C dX10_passes_65 (k := 0) rfl ?_
    refine r_iln C dX10_passes_66 (k := 3) rfl ?_
    refine r_aln C dX10_passes_67 (k := 0) rfl ?_
    refine r_gs C km_0 clX10 (f := 35) (by decide) rfl (t := 67) rfl tf_RX10_72 dX10_passes_68 ?_
    refine r_iln C dX10_passes_71 (k := 1) rfl ?_
    refine r_iald C km_67 dX10_passes_72 h (fun v5 h => ?_)
    obtain ⟨r6, hy, h⟩ := q_calp_some h
    refine r_cvi C (st := []) (c_X10_isComing C.2.2.1 x3 v5 M r6 hy) tm_RX10_388 mw_X10_isComing ⟨rfl, rfl⟩ ⟨Nat.le_of_ble_eq_true rfl, Nat.le_of_ble_eq_true rfl⟩ km_0 clX10 rfl rfl (Nat.le_of_ble_eq_true rfl) dX10_passes_73 ?_
    refine r_zeq C (tgt := 85) dX10_passes_76 (by decide) h (fun h => ?_) (fun h => ?_)
    · refine r_inc C (L1 := [(3, .int (qI (x3 + 1))), (0, .ref (ad 0)), (1, .int (qI x1)), (2, .int (qI x2))]) dX10_passes_85 (k := 3) rfl (by decide) rfl ?_
      refine r_goto C (tgt := 55) dX10_passes_88 (by decide) ?_
      refine r_drop [1, 2, 3, 0] rfl ?_
      exact ih55 (x3 + 1) M h
    · refine r_aln C dX10_passes_79 (k := 0) rfl ?_
      refine r_iln C dX10_passes_80 (k := 1) rfl ?_
      refine r_iln C dX10_passes_81 (k := 3) rfl ?_
      obtain ⟨r7, M8, hy, h⟩ := q_call_some h
      refine r_cvv C (st := []) (c_X10_stops C.2.2.1 x1 x3 M r7 M8 hy) tm_RX10_392 mw_X10_stops ⟨rfl, rfl⟩ ⟨Nat.le_of_ble_eq_true rfl, Nat.le_of_ble_eq_true rfl⟩ km_0 clX10 rfl rfl (Nat.le_of_ble_eq_true rfl) dX10_passes_82 ?_
      refine r_inc C (L1 := [(3, .int (qI (x3 + 1))), (0, .ref (ad 0)), (1, .int (qI x1)), (2, .int (qI x2))]) dX10_passes_85 (k := 3) rfl (by decide) rfl ?_
      refine r_goto C (tgt := 55) dX10_passes_88 (by decide) ?_
      refine r_drop [1, 2, 3, 0] rfl ?_
      exact ih55 (x3 + 1) M8 h
theorem w_X10_passes_L55 (C : Cx syM p m c cX10_passes 6 s args RX10 D ad cA) (hr : meth.sig.returnType = none) (hlk : meth.locks = false)  (x1 : Int) (x2 : Int)  (n : Nat) (x3 : Int) (M : Mem) (h : f_X10_passes_L55 x1 x2 n x3 M = some (r0, M0)) : WM syM p l e rm_X10_passes s m args below meth c 6 D ad cA (MQ below (q_Post syM D ad cA none M0) args s 0 0 (q_A syM ad)) M 55 [(0, .ref (ad 0)), (1, .int (qI x1)), (2, .int (qI x2)), (3, .int (qI x3))] [] :=
  qlm1_r (Wp := fun ux3 M => WM syM p l e rm_X10_passes s m args below meth c 6 D ad cA (MQ below (q_Post syM D ad cA none M0) args s 0 0 (q_A syM ad)) M 55 [(0, .ref (ad 0)), (1, .int (qI x1)), (2, .int (qI x2)), (3, .int (qI ux3))] []) (fun ux3 M g55 ih55 h => w_X10_passes_B55 C hr hlk x1 x2 ux3 M g55  ih55 h) n x3 M h
def f_X10_passes_B2 (x1 : Int) (x2 : Int) (x3 : Int) (M : Mem) (g2 : Int → Mem → Res) : Res :=
  q_al M 35 14 0 fun v1 =>
  if w32 v1 ≤ w32 x3 then (f_X10_passes_L55 x1 x2 q_N 0 M)
  else (q_al M 71 184 ((8 * x1) + x3) fun v2 =>
  if ¬ w32 v2 = 0 then (g2 (x3 + 1) M)
  else (q_al M 37 16 x3 fun v3 =>
  q_al M 67 23 x1 fun v4 =>
  if ¬ w32 v3 = w32 v4 then (g2 (x3 + 1) M)
  else (q_call (f_X10_joins x1 x3 M) fun r5 M6 =>
  g2 (x3 + 1) M6)))
def f_X10_passes_L2 (x1 : Int) (x2 : Int) (n : Nat) (x3 : Int) (M : Mem) : Res := qlm1 (fun x3 M g2 => f_X10_passes_B2 x1 x2 x3 M g2) n x3 M
theorem w_X10_passes_B2 (C : Cx syM p m c cX10_passes 6 s args RX10 D ad cA) (hr : meth.sig.returnType = none) (hlk : meth.locks = false)  (x1 : Int) (x2 : Int) (x3 : Int) (M : Mem) (g2 : Int → Mem → Res)  (ih2 : ∀ (ux3 : Int) (M : Mem), g2 ux3 M = some (r0, M0) → WM syM p l e rm_X10_passes s m args below meth c 6 D ad cA (MQ below (q_Post syM D ad cA none M0) args s 0 0 (q_A syM ad)) M 2 [(0, .ref (ad 0)), (1, .int (qI x1)), (2, .int (qI x2)), (3, .int (qI ux3))] []) (h : f_X10_passes_B2 x1 x2 x3 M g2 = some (r0, M0)) : WM syM p l e rm_X10_passes s m args below meth c 6 D ad cA (MQ below (q_Post syM D ad cA none M0) args s 0 0 (q_A syM ad)) M 2 [(0, .ref (ad 0)), (1, .int (qI x1)), (2, .int (qI x2)), (3, .int (qI x3))] [] := by
  unfold f_X10_passes_B2 at h
  refine r_iln C dX10_passes_2 (k := 3) rfl ?_
  refine r_aln C dX10_passes_3 (k := 0) rfl ?_
  refine r_gs C km_0 clX10 (f := 3) (by decide) rfl (t := 35) rfl tf_RX10_13 dX10_passes_4 ?_
  refine r_ic C dX10_passes_7 ?_
  refine r_iald C km_35 dX10_passes_8 h (fun v1 h => ?_)
  refine r_cge C (tgt := 53) dX10_passes_9 (by decide) h (fun h => ?_) (fun h => ?_)
  · refine r_ic C dX10_passes_53 ?_
    refine r_isn C (L1 := [(3, .int (qI 0)), (0, .ref (ad 0)), (1, .int (qI x1)), (2, .int (qI x2))]) dX10_passes_54 (by decide) rfl ?_
    refine r_drop [1, 2, 3, 0] rfl ?_
    exact w_X10_passes_L55 C hr hlk x1 x2  q_N 0 M h
  · refine r_aln C dX10_passes_12 (k := 0) rfl ?_
    refine r_gs C km_0 clX10 (f := 39) (by decide) rfl (t := 71) rfl tf_RX10_84 dX10_passes_13 ?_
    refine r_bi C dX10_passes_16 (by decide) ?_
    refine r_iln C dX10_passes_18 (k := 1) rfl ?_
    refine r_imul C dX10_passes_19 ?_
    refine r_iln C dX10_passes_20 (k := 3) rfl ?_
    refine r_iadd C dX10_passes_21 ?_
    refine r_iald C km_71 dX10_passes_22 h (fun v2 h => ?_)
    refine r_zne C (tgt := 47) dX10_passes_23 (by decide) h (fun h => ?_) (fun h => ?_)
    · refine r_inc C (L1 := [(3, .int (qI (x3 + 1))), (0, .ref (ad 0)), (1, .int (qI x1)), (2, .int (qI x2))]) dX10_passes_47 (k := 3) rfl (by decide) rfl ?_
      refine r_goto C (tgt := 2) dX10_passes_50 (by decide) ?_
      refine r_drop [1, 2, 3, 0] rfl ?_
      exact ih2 (x3 + 1) M h
    · refine r_aln C dX10_passes_26 (k := 0) rfl ?_
      refine r_gs C km_0 clX10 (f := 5) (by decide) rfl (t := 37) rfl tf_RX10_19 dX10_passes_27 ?_
      refine r_iln C dX10_passes_30 (k := 3) rfl ?_
      refine r_iald C km_37 dX10_passes_31 h (fun v3 h => ?_)
      refine r_aln C dX10_passes_32 (k := 0) rfl ?_
      refine r_gs C km_0 clX10 (f := 35) (by decide) rfl (t := 67) rfl tf_RX10_72 dX10_passes_33 ?_
      refine r_iln C dX10_passes_36 (k := 1) rfl ?_
      refine r_iald C km_67 dX10_passes_37 h (fun v4 h => ?_)
      refine r_cne C (tgt := 47) dX10_passes_38 (by decide) h (fun h => ?_) (fun h => ?_)
      · refine r_inc C (L1 := [(3, .int (qI (x3 + 1))), (0, .ref (ad 0)), (1, .int (qI x1)), (2, .int (qI x2))]) dX10_passes_47 (k := 3) rfl (by decide) rfl ?_
        refine r_goto C (tgt := 2) dX10_passes_50 (by decide) ?_
        refine r_drop [1, 2, 3, 0] rfl ?_
        exact ih2 (x3 + 1) M h
      · refine r_aln C dX10_passes_41 (k := 0) rfl ?_
        refine r_iln C dX10_passes_42 (k := 1) rfl ?_
        refine r_iln C dX10_passes_43 (k := 3) rfl ?_
        obtain ⟨r5, M6, hy, h⟩ := q_call_some h
        refine r_cvv C (st := []) (c_X10_joins C.2.2.1 x1 x3 M r5 M6 hy) tm_RX10_385 mw_X10_joins ⟨rfl, rfl⟩ ⟨Nat.le_of_ble_eq_true rfl, Nat.le_of_ble_eq_true rfl⟩ km_0 clX10 rfl rfl (Nat.le_of_ble_eq_true rfl) dX10_passes_44 ?_
        refine r_inc C (L1 := [(3, .int (qI (x3 + 1))), (0, .ref (ad 0)), (1, .int (qI x1)), (2, .int (qI x2))]) dX10_passes_47 (k := 3) rfl (by decide) rfl ?_
        refine r_goto C (tgt := 2) dX10_passes_50 (by decide) ?_
        refine r_drop [1, 2, 3, 0] rfl ?_
        exact ih2 (x3 + 1) M6 h
theorem w_X10_passes_L2 (C : Cx syM p m c cX10_passes 6 s args RX10 D ad cA) (hr : meth.sig.returnType = none) (hlk : meth.locks = false)  (x1 : Int) (x2 : Int)  (n : Nat) (x3 : Int) (M : Mem) (h : f_X10_passes_L2 x1 x2 n x3 M = some (r0, M0)) : WM syM p l e rm_X10_passes s m args below meth c 6 D ad cA (MQ below (q_Post syM D ad cA none M0) args s 0 0 (q_A syM ad)) M 2 [(0, .ref (ad 0)), (1, .int (qI x1)), (2, .int (qI x2)), (3, .int (qI x3))] [] :=
  qlm1_r (Wp := fun ux3 M => WM syM p l e rm_X10_passes s m args below meth c 6 D ad cA (MQ below (q_Post syM D ad cA none M0) args s 0 0 (q_A syM ad)) M 2 [(0, .ref (ad 0)), (1, .int (qI x1)), (2, .int (qI x2)), (3, .int (qI ux3))] []) (fun ux3 M g2 ih2 h => w_X10_passes_B2 C hr hlk x1 x2 ux3 M g2  ih2 h) n x3 M h
def f_X10_passes (a0 : Int) (a1 : Int) (M : Mem) : Res :=
  f_X10_passes_L2 a0 a1 q_N 0 M
theorem c_X10_passes {l : Launch} {D : va_G} {ad : Nat → Nat} {cA : Nat → ClassId} (hi : q_inj syM ad) (a0 : Int) (a1 : Int) (M : Mem) (r0 : Int) (M0 : Mem) (h : f_X10_passes a0 a1 M = some (r0, M0)) : q_Met l syM D ad cA yX10_passes cX10_passes 6 none rm_X10_passes [.ref (ad 0), .int (qI a0), .int (qI a1)] M none M0 := by
  refine q_met (L0 := [(0, .ref (ad 0)), (1, .int (qI a0)), (2, .int (qI a1))]) hi okM (by decide) (Nat.le_of_ble_eq_true rfl) rfl ?_
  intro p e s m args below meth c C hr hlk
  unfold f_X10_passes at h
  refine r_ic C dX10_passes_0 ?_
  refine r_isn C (L1 := [(3, .int (qI 0)), (0, .ref (ad 0)), (1, .int (qI a0)), (2, .int (qI a1))]) dX10_passes_1 (by decide) rfl ?_
  refine r_drop [1, 2, 3, 0] rfl ?_
  exact w_X10_passes_L2 C hr hlk a0 a1  q_N 0 M h
abbrev rm_X10_goesOn : Room := { frames := 6, cells := 0, slots := 0, locals := 145 }
theorem mw_X10_goesOn : q_mw RX10 yX10_goesOn cX10_goesOn 3 none 1 := ⟨⟨ti_X10_goesOn, tl_X10_goesOn, tn_RX10, td_X10_goesOn⟩, by decide +kernel⟩
def f_X10_goesOn_B2 (x1 : Int) (x2 : Int) (M : Mem) (g2 : Int → Mem → Res) : Res :=
  if w32 x1 ≤ w32 x2 then (some (0, M))
  else (q_call (f_X10_passes 1 0 M) fun r1 M2 =>
  g2 (x2 + 1) M2)
def f_X10_goesOn_L2 (x1 : Int) (n : Nat) (x2 : Int) (M : Mem) : Res := qlm1 (fun x2 M g2 => f_X10_goesOn_B2 x1 x2 M g2) n x2 M
theorem w_X10_goesOn_B2 (C : Cx syM p m c cX10_goesOn 3 s args RX10 D ad cA) (hr : meth.sig.returnType = none) (hlk : meth.locks = false)  (x1 : Int) (x2 : Int) (M : Mem) (g2 : Int → Mem → Res)  (ih2 : ∀ (ux2 : Int) (M : Mem), g2 ux2 M = some (r0, M0) → WM syM p l e rm_X10_goesOn s m args below meth c 3 D ad cA (MQ below (q_Post syM D ad cA none M0) args s 0 0 (q_A syM ad)) M 2 [(0, .ref (ad 0)), (1, .int (qI x1)), (2, .int (qI ux2))] []) (h : f_X10_goesOn_B2 x1 x2 M g2 = some (r0, M0)) : WM syM p l e rm_X10_goesOn s m args below meth c 3 D ad cA (MQ below (q_Post syM D ad cA none M0) args s 0 0 (q_A syM ad)) M 2 [(0, .ref (ad 0)), (1, .int (qI x1)), (2, .int (qI x2))] [] := by
  unfold f_X10_goesOn_B2 at h
  refine r_iln C dX10_goesOn_2 (k := 2) rfl ?_
  refine r_iln C dX10_goesOn_3 (k := 1) rfl ?_
  refine r_cge C (tgt := 19) dX10_goesOn_4 (by decide) h (fun h => ?_) (fun h => ?_)
  · exact r_vret C hr hlk dX10_goesOn_19 h
  · refine r_aln C dX10_goesOn_7 (k := 0) rfl ?_
    refine r_ic C dX10_goesOn_8 ?_
    refine r_ic C dX10_goesOn_9 ?_
    obtain ⟨r1, M2, hy, h⟩ := q_call_some h
    refine r_cvv C (st := []) (c_X10_passes C.2.2.1 1 0 M r1 M2 hy) tm_RX10_401 mw_X10_passes ⟨rfl, rfl⟩ ⟨Nat.le_of_ble_eq_true rfl, Nat.le_of_ble_eq_true rfl⟩ km_0 clX10 rfl rfl (Nat.le_of_ble_eq_true rfl) dX10_goesOn_10 ?_
    refine r_inc C (L1 := [(2, .int (qI (x2 + 1))), (0, .ref (ad 0)), (1, .int (qI x1))]) dX10_goesOn_13 (k := 2) rfl (by decide) rfl ?_
    refine r_goto C (tgt := 2) dX10_goesOn_16 (by decide) ?_
    refine r_drop [1, 2, 0] rfl ?_
    exact ih2 (x2 + 1) M2 h
theorem w_X10_goesOn_L2 (C : Cx syM p m c cX10_goesOn 3 s args RX10 D ad cA) (hr : meth.sig.returnType = none) (hlk : meth.locks = false)  (x1 : Int)  (n : Nat) (x2 : Int) (M : Mem) (h : f_X10_goesOn_L2 x1 n x2 M = some (r0, M0)) : WM syM p l e rm_X10_goesOn s m args below meth c 3 D ad cA (MQ below (q_Post syM D ad cA none M0) args s 0 0 (q_A syM ad)) M 2 [(0, .ref (ad 0)), (1, .int (qI x1)), (2, .int (qI x2))] [] :=
  qlm1_r (Wp := fun ux2 M => WM syM p l e rm_X10_goesOn s m args below meth c 3 D ad cA (MQ below (q_Post syM D ad cA none M0) args s 0 0 (q_A syM ad)) M 2 [(0, .ref (ad 0)), (1, .int (qI x1)), (2, .int (qI ux2))] []) (fun ux2 M g2 ih2 h => w_X10_goesOn_B2 C hr hlk x1 ux2 M g2  ih2 h) n x2 M h
def f_X10_goesOn (a0 : Int) (M : Mem) : Res :=
  f_X10_goesOn_L2 a0 q_N 0 M
theorem c_X10_goesOn {l : Launch} {D : va_G} {ad : Nat → Nat} {cA : Nat → ClassId} (hi : q_inj syM ad) (a0 : Int) (M : Mem) (r0 : Int) (M0 : Mem) (h : f_X10_goesOn a0 M = some (r0, M0)) : q_Met l syM D ad cA yX10_goesOn cX10_goesOn 3 none rm_X10_goesOn [.ref (ad 0), .int (qI a0)] M none M0 := by
  refine q_met (L0 := [(0, .ref (ad 0)), (1, .int (qI a0))]) hi okM (by decide) (Nat.le_of_ble_eq_true rfl) rfl ?_
  intro p e s m args below meth c C hr hlk
  unfold f_X10_goesOn at h
  refine r_ic C dX10_goesOn_0 ?_
  refine r_isn C (L1 := [(2, .int (qI 0)), (0, .ref (ad 0)), (1, .int (qI a0))]) dX10_goesOn_1 (by decide) rfl ?_
  refine r_drop [1, 2, 0] rfl ?_
  exact w_X10_goesOn_L2 C hr hlk a0  q_N 0 M h
abbrev rm_X10_runs : Room := { frames := 7, cells := 0, slots := 0, locals := 167 }
theorem mw_X10_runs : q_mw RX10 yX10_runs cX10_runs 2 none 1 := ⟨⟨ti_X10_runs, tl_X10_runs, tn_RX10, td_X10_runs⟩, by decide +kernel⟩
def f_X10_runs (a0 : Int) (M : Mem) : Res :=
  q_call (f_X10_copies 1 0 M) fun r1 M2 =>
  q_call (f_X10_goesOn a0 M2) fun r3 M4 =>
  some (0, M4)
theorem c_X10_runs {l : Launch} {D : va_G} {ad : Nat → Nat} {cA : Nat → ClassId} (hi : q_inj syM ad) (a0 : Int) (M : Mem) (r0 : Int) (M0 : Mem) (h : f_X10_runs a0 M = some (r0, M0)) : q_Met l syM D ad cA yX10_runs cX10_runs 2 none rm_X10_runs [.ref (ad 0), .int (qI a0)] M none M0 := by
  refine q_met (L0 := [(0, .ref (ad 0)), (1, .int (qI a0))]) hi okM (by decide) (Nat.le_of_ble_eq_true rfl) rfl ?_
  intro p e s m args below meth c C hr hlk
  unfold f_X10_runs at h
  refine r_aln C dX10_runs_0 (k := 0) rfl ?_
  refine r_ic C dX10_runs_1 ?_
  refine r_ic C dX10_runs_2 ?_
  obtain ⟨r1, M2, hy, h⟩ := q_call_some h
  refine r_cvv C (st := []) (c_X10_copies C.2.2.1 1 0 M r1 M2 hy) tm_RX10_405 mw_X10_copies ⟨rfl, rfl⟩ ⟨Nat.le_of_ble_eq_true rfl, Nat.le_of_ble_eq_true rfl⟩ km_0 clX10 rfl rfl (Nat.le_of_ble_eq_true rfl) dX10_runs_3 ?_
  refine r_aln C dX10_runs_6 (k := 0) rfl ?_
  refine r_iln C dX10_runs_7 (k := 1) rfl ?_
  obtain ⟨r3, M4, hy, h⟩ := q_call_some h
  refine r_cvv C (st := []) (c_X10_goesOn C.2.2.1 a0 M2 r3 M4 hy) tm_RX10_408 mw_X10_goesOn ⟨rfl, rfl⟩ ⟨Nat.le_of_ble_eq_true rfl, Nat.le_of_ble_eq_true rfl⟩ km_0 clX10 rfl rfl (Nat.le_of_ble_eq_true rfl) dX10_runs_8 ?_
  exact r_vret C hr hlk dX10_runs_11 h
abbrev rm_X10_soulsOf : Room := { frames := 0, cells := 0, slots := 0, locals := 0 }
theorem mw_X10_soulsOf : q_mw RX10 yX10_soulsOf cX10_soulsOf 5 (some .int) 2 := ⟨⟨ti_X10_soulsOf, tl_X10_soulsOf, tn_RX10, td_X10_soulsOf⟩, by decide +kernel⟩
def f_X10_soulsOf_B5 (x1 : Int) (x2 : Int) (M : Mem) (x3 : Int) (x4 : Int) (g5 : Int → Int → Option Int) : Option Int :=
  q_al M 35 14 0 fun v1 =>
  if w32 v1 ≤ w32 x4 then (some x3)
  else (q_al M 71 184 ((8 * x1) + x4) fun v2 =>
  if ¬ w32 v2 = w32 x2 then (g5 (x3 + 0) (x4 + 1))
  else (g5 (x3 + 1) (x4 + 1)))
def f_X10_soulsOf_L5 (x1 : Int) (x2 : Int) (M : Mem) (n : Nat) (x3 : Int) (x4 : Int) : Option Int := qlp2 (fun x3 x4 g5 => f_X10_soulsOf_B5 x1 x2 M x3 x4 g5) n x3 x4
theorem w_X10_soulsOf_B5 (C : Cx syM p m c cX10_soulsOf 5 s args RX10 D ad cA) (hr : meth.sig.returnType = (some .int)) (hlk : meth.locks = false)  (x1 : Int) (x2 : Int) (x3 : Int) (x4 : Int) (M : Mem) (g5 : Int → Int → Option Int)  (ih5 : ∀ (ux3 ux4 : Int) , g5 ux3 ux4  = some r0 → WM syM p l e rm_X10_soulsOf s m args below meth c 5 D ad cA (MQ below (q_Post syM D ad cA (some (.int (qI r0))) M) args s 0 0 (q_A syM ad)) M 5 [(0, .ref (ad 0)), (1, .int (qI x1)), (2, .int (qI x2)), (3, .int (qI ux3)), (4, .int (qI ux4))] []) (h : f_X10_soulsOf_B5 x1 x2 M x3 x4 g5 = some r0) : WM syM p l e rm_X10_soulsOf s m args below meth c 5 D ad cA (MQ below (q_Post syM D ad cA (some (.int (qI r0))) M) args s 0 0 (q_A syM ad)) M 5 [(0, .ref (ad 0)), (1, .int (qI x1)), (2, .int (qI x2)), (3, .int (qI x3)), (4, .int (qI x4))] [] := by
  unfold f_X10_soulsOf_B5 at h
  refine r_il C dX10_soulsOf_5 (k := 4) rfl ?_
  refine r_aln C dX10_soulsOf_7 (k := 0) rfl ?_
  refine r_gs C km_0 clX10 (f := 3) (by decide) rfl (t := 35) rfl tf_RX10_13 dX10_soulsOf_8 ?_
  refine r_ic C dX10_soulsOf_11 ?_
  refine r_iald C km_35 dX10_soulsOf_12 h (fun v1 h => ?_)
  refine r_cge C (tgt := 46) dX10_soulsOf_13 (by decide) h (fun h => ?_) (fun h => ?_)
  · refine r_iln C dX10_soulsOf_46 (k := 3) rfl ?_
    exact r_iretp C hr hlk dX10_soulsOf_47 h
  · refine r_iln C dX10_soulsOf_16 (k := 3) rfl ?_
    refine r_aln C dX10_soulsOf_17 (k := 0) rfl ?_
    refine r_gs C km_0 clX10 (f := 39) (by decide) rfl (t := 71) rfl tf_RX10_84 dX10_soulsOf_18 ?_
    refine r_bi C dX10_soulsOf_21 (by decide) ?_
    refine r_iln C dX10_soulsOf_23 (k := 1) rfl ?_
    refine r_imul C dX10_soulsOf_24 ?_
    refine r_il C dX10_soulsOf_25 (k := 4) rfl ?_
    refine r_iadd C dX10_soulsOf_27 ?_
    refine r_iald C km_71 dX10_soulsOf_28 h (fun v2 h => ?_)
    refine r_iln C dX10_soulsOf_29 (k := 2) rfl ?_
    refine r_cne C (tgt := 37) dX10_soulsOf_30 (by decide) h (fun h => ?_) (fun h => ?_)
    · refine r_ic C dX10_soulsOf_37 ?_
      refine r_iadd C dX10_soulsOf_38 ?_
      refine r_isn C (L1 := [(3, .int (qI (x3 + 0))), (0, .ref (ad 0)), (1, .int (qI x1)), (2, .int (qI x2)), (4, .int (qI x4))]) dX10_soulsOf_39 (by decide) rfl ?_
      refine r_inc C (L1 := [(4, .int (qI (x4 + 1))), (3, .int (qI (x3 + 0))), (0, .ref (ad 0)), (1, .int (qI x1)), (2, .int (qI x2))]) dX10_soulsOf_40 (k := 4) rfl (by decide) rfl ?_
      refine r_goto C (tgt := 5) dX10_soulsOf_43 (by decide) ?_
      refine r_drop [2, 3, 4, 1, 0] rfl ?_
      exact ih5 (x3 + 0) (x4 + 1)  h
    · refine r_ic C dX10_soulsOf_33 ?_
      refine r_goto C (tgt := 38) dX10_soulsOf_34 (by decide) ?_
      refine r_iadd C dX10_soulsOf_38 ?_
      refine r_isn C (L1 := [(3, .int (qI (x3 + 1))), (0, .ref (ad 0)), (1, .int (qI x1)), (2, .int (qI x2)), (4, .int (qI x4))]) dX10_soulsOf_39 (by decide) rfl ?_
      refine r_inc C (L1 := [(4, .int (qI (x4 + 1))), (3, .int (qI (x3 + 1))), (0, .ref (ad 0)), (1, .int (qI x1)), (2, .int (qI x2))]) dX10_soulsOf_40 (k := 4) rfl (by decide) rfl ?_
      refine r_goto C (tgt := 5) dX10_soulsOf_43 (by decide) ?_
      refine r_drop [2, 3, 4, 1, 0] rfl ?_
      exact ih5 (x3 + 1) (x4 + 1)  h
theorem w_X10_soulsOf_L5 (C : Cx syM p m c cX10_soulsOf 5 s args RX10 D ad cA) (hr : meth.sig.returnType = (some .int)) (hlk : meth.locks = false)  (x1 : Int) (x2 : Int) (M : Mem)  (n : Nat) (x3 : Int) (x4 : Int) (h : f_X10_soulsOf_L5 x1 x2 M n x3 x4 = some r0) : WM syM p l e rm_X10_soulsOf s m args below meth c 5 D ad cA (MQ below (q_Post syM D ad cA (some (.int (qI r0))) M) args s 0 0 (q_A syM ad)) M 5 [(0, .ref (ad 0)), (1, .int (qI x1)), (2, .int (qI x2)), (3, .int (qI x3)), (4, .int (qI x4))] [] :=
  qlp2_r (Wp := fun ux3 ux4 => WM syM p l e rm_X10_soulsOf s m args below meth c 5 D ad cA (MQ below (q_Post syM D ad cA (some (.int (qI r0))) M) args s 0 0 (q_A syM ad)) M 5 [(0, .ref (ad 0)), (1, .int (qI x1)), (2, .int (qI x2)), (3, .int (qI ux3)), (4, .int (qI ux4))] []) (fun ux3 ux4 g5 ih5 h => w_X10_soulsOf_B5 C hr hlk x1 x2 ux3 ux4 M g5  ih5 h) n x3 x4 h
def f_X10_soulsOf (a0 : Int) (a1 : Int) (M : Mem) : Option Int :=
  f_X10_soulsOf_L5 a0 a1 M q_N 0 0
theorem c_X10_soulsOf {l : Launch} {D : va_G} {ad : Nat → Nat} {cA : Nat → ClassId} (hi : q_inj syM ad) (a0 : Int) (a1 : Int) (M : Mem) (r0 : Int) (h : f_X10_soulsOf a0 a1 M = some r0) : q_Met l syM D ad cA yX10_soulsOf cX10_soulsOf 5 (some .int) rm_X10_soulsOf [.ref (ad 0), .int (qI a0), .int (qI a1)] M (some (.int (qI r0))) M := by
  refine q_met (L0 := [(0, .ref (ad 0)), (1, .int (qI a0)), (2, .int (qI a1))]) hi okM (by decide) (Nat.le_of_ble_eq_true rfl) rfl ?_
  intro p e s m args below meth c C hr hlk
  unfold f_X10_soulsOf at h
  refine r_ic C dX10_soulsOf_0 ?_
  refine r_isn C (L1 := [(3, .int (qI 0)), (0, .ref (ad 0)), (1, .int (qI a0)), (2, .int (qI a1))]) dX10_soulsOf_1 (by decide) rfl ?_
  refine r_ic C dX10_soulsOf_2 ?_
  refine r_is C (L1 := [(4, .int (qI 0)), (3, .int (qI 0)), (0, .ref (ad 0)), (1, .int (qI a0)), (2, .int (qI a1))]) dX10_soulsOf_3 (by decide) rfl ?_
  refine r_drop [2, 3, 4, 1, 0] rfl ?_
  exact w_X10_soulsOf_L5 C hr hlk a0 a1 M  q_N 0 0 h
abbrev rm_X10_kindness : Room := { frames := 0, cells := 0, slots := 0, locals := 0 }
theorem mw_X10_kindness : q_mw RX10 yX10_kindness cX10_kindness 4 (some .int) 1 := ⟨⟨ti_X10_kindness, tl_X10_kindness, tn_RX10, td_X10_kindness⟩, by decide +kernel⟩
def f_X10_kindness_B4 (x1 : Int) (M : Mem) (x2 : Int) (x3 : Int) (g4 : Int → Int → Option Int) : Option Int :=
  q_al M 35 14 0 fun v1 =>
  if w32 v1 ≤ w32 x3 then (some x2)
  else (q_al M 71 184 ((8 * x1) + x3) fun v2 =>
  if ¬ w32 v2 = w32 2 then (g4 (x2 + 0) (x3 + 1))
  else (q_al M 38 16 x3 fun v3 =>
  g4 (x2 + v3) (x3 + 1)))
def f_X10_kindness_L4 (x1 : Int) (M : Mem) (n : Nat) (x2 : Int) (x3 : Int) : Option Int := qlp2 (fun x2 x3 g4 => f_X10_kindness_B4 x1 M x2 x3 g4) n x2 x3
theorem w_X10_kindness_B4 (C : Cx syM p m c cX10_kindness 4 s args RX10 D ad cA) (hr : meth.sig.returnType = (some .int)) (hlk : meth.locks = false)  (x1 : Int) (x2 : Int) (x3 : Int) (M : Mem) (g4 : Int → Int → Option Int)  (ih4 : ∀ (ux2 ux3 : Int) , g4 ux2 ux3  = some r0 → WM syM p l e rm_X10_kindness s m args below meth c 4 D ad cA (MQ below (q_Post syM D ad cA (some (.int (qI r0))) M) args s 0 0 (q_A syM ad)) M 4 [(0, .ref (ad 0)), (1, .int (qI x1)), (2, .int (qI ux2)), (3, .int (qI ux3))] []) (h : f_X10_kindness_B4 x1 M x2 x3 g4 = some r0) : WM syM p l e rm_X10_kindness s m args below meth c 4 D ad cA (MQ below (q_Post syM D ad cA (some (.int (qI r0))) M) args s 0 0 (q_A syM ad)) M 4 [(0, .ref (ad 0)), (1, .int (qI x1)), (2, .int (qI x2)), (3, .int (qI x3))] [] := by
  unfold f_X10_kindness_B4 at h
  refine r_iln C dX10_kindness_4 (k := 3) rfl ?_
  refine r_aln C dX10_kindness_5 (k := 0) rfl ?_
  refine r_gs C km_0 clX10 (f := 3) (by decide) rfl (t := 35) rfl tf_RX10_13 dX10_kindness_6 ?_
  refine r_ic C dX10_kindness_9 ?_
  refine r_iald C km_35 dX10_kindness_10 h (fun v1 h => ?_)
  refine r_cge C (tgt := 48) dX10_kindness_11 (by decide) h (fun h => ?_) (fun h => ?_)
  · refine r_iln C dX10_kindness_48 (k := 2) rfl ?_
    exact r_iretp C hr hlk dX10_kindness_49 h
  · refine r_iln C dX10_kindness_14 (k := 2) rfl ?_
    refine r_aln C dX10_kindness_15 (k := 0) rfl ?_
    refine r_gs C km_0 clX10 (f := 39) (by decide) rfl (t := 71) rfl tf_RX10_84 dX10_kindness_16 ?_
    refine r_bi C dX10_kindness_19 (by decide) ?_
    refine r_iln C dX10_kindness_21 (k := 1) rfl ?_
    refine r_imul C dX10_kindness_22 ?_
    refine r_iln C dX10_kindness_23 (k := 3) rfl ?_
    refine r_iadd C dX10_kindness_24 ?_
    refine r_iald C km_71 dX10_kindness_25 h (fun v2 h => ?_)
    refine r_ic C dX10_kindness_26 ?_
    refine r_cne C (tgt := 39) dX10_kindness_27 (by decide) h (fun h => ?_) (fun h => ?_)
    · refine r_ic C dX10_kindness_39 ?_
      refine r_iadd C dX10_kindness_40 ?_
      refine r_isn C (L1 := [(2, .int (qI (x2 + 0))), (0, .ref (ad 0)), (1, .int (qI x1)), (3, .int (qI x3))]) dX10_kindness_41 (by decide) rfl ?_
      refine r_inc C (L1 := [(3, .int (qI (x3 + 1))), (2, .int (qI (x2 + 0))), (0, .ref (ad 0)), (1, .int (qI x1))]) dX10_kindness_42 (k := 3) rfl (by decide) rfl ?_
      refine r_goto C (tgt := 4) dX10_kindness_45 (by decide) ?_
      refine r_drop [2, 3, 1, 0] rfl ?_
      exact ih4 (x2 + 0) (x3 + 1)  h
    · refine r_aln C dX10_kindness_30 (k := 0) rfl ?_
      refine r_gs C km_0 clX10 (f := 6) (by decide) rfl (t := 38) rfl tf_RX10_22 dX10_kindness_31 ?_
      refine r_iln C dX10_kindness_34 (k := 3) rfl ?_
      refine r_iald C km_38 dX10_kindness_35 h (fun v3 h => ?_)
      refine r_goto C (tgt := 40) dX10_kindness_36 (by decide) ?_
      refine r_iadd C dX10_kindness_40 ?_
      refine r_isn C (L1 := [(2, .int (qI (x2 + v3))), (0, .ref (ad 0)), (1, .int (qI x1)), (3, .int (qI x3))]) dX10_kindness_41 (by decide) rfl ?_
      refine r_inc C (L1 := [(3, .int (qI (x3 + 1))), (2, .int (qI (x2 + v3))), (0, .ref (ad 0)), (1, .int (qI x1))]) dX10_kindness_42 (k := 3) rfl (by decide) rfl ?_
      refine r_goto C (tgt := 4) dX10_kindness_45 (by decide) ?_
      refine r_drop [2, 3, 1, 0] rfl ?_
      exact ih4 (x2 + v3) (x3 + 1)  h
theorem w_X10_kindness_L4 (C : Cx syM p m c cX10_kindness 4 s args RX10 D ad cA) (hr : meth.sig.returnType = (some .int)) (hlk : meth.locks = false)  (x1 : Int) (M : Mem)  (n : Nat) (x2 : Int) (x3 : Int) (h : f_X10_kindness_L4 x1 M n x2 x3 = some r0) : WM syM p l e rm_X10_kindness s m args below meth c 4 D ad cA (MQ below (q_Post syM D ad cA (some (.int (qI r0))) M) args s 0 0 (q_A syM ad)) M 4 [(0, .ref (ad 0)), (1, .int (qI x1)), (2, .int (qI x2)), (3, .int (qI x3))] [] :=
  qlp2_r (Wp := fun ux2 ux3 => WM syM p l e rm_X10_kindness s m args below meth c 4 D ad cA (MQ below (q_Post syM D ad cA (some (.int (qI r0))) M) args s 0 0 (q_A syM ad)) M 4 [(0, .ref (ad 0)), (1, .int (qI x1)), (2, .int (qI ux2)), (3, .int (qI ux3))] []) (fun ux2 ux3 g4 ih4 h => w_X10_kindness_B4 C hr hlk x1 ux2 ux3 M g4  ih4 h) n x2 x3 h
def f_X10_kindness (a0 : Int) (M : Mem) : Option Int :=
  f_X10_kindness_L4 a0 M q_N 0 0
theorem c_X10_kindness {l : Launch} {D : va_G} {ad : Nat → Nat} {cA : Nat → ClassId} (hi : q_inj syM ad) (a0 : Int) (M : Mem) (r0 : Int) (h : f_X10_kindness a0 M = some r0) : q_Met l syM D ad cA yX10_kindness cX10_kindness 4 (some .int) rm_X10_kindness [.ref (ad 0), .int (qI a0)] M (some (.int (qI r0))) M := by
  refine q_met (L0 := [(0, .ref (ad 0)), (1, .int (qI a0))]) hi okM (by decide) (Nat.le_of_ble_eq_true rfl) rfl ?_
  intro p e s m args below meth c C hr hlk
  unfold f_X10_kindness at h
  refine r_ic C dX10_kindness_0 ?_
  refine r_isn C (L1 := [(2, .int (qI 0)), (0, .ref (ad 0)), (1, .int (qI a0))]) dX10_kindness_1 (by decide) rfl ?_
  refine r_ic C dX10_kindness_2 ?_
  refine r_isn C (L1 := [(3, .int (qI 0)), (2, .int (qI 0)), (0, .ref (ad 0)), (1, .int (qI a0))]) dX10_kindness_3 (by decide) rfl ?_
  refine r_drop [2, 3, 1, 0] rfl ?_
  exact w_X10_kindness_L4 C hr hlk a0 M  q_N 0 0 h
abbrev rm_X10_allOf : Room := { frames := 0, cells := 0, slots := 0, locals := 0 }
theorem mw_X10_allOf : q_mw RX10 yX10_allOf cX10_allOf 5 (some .int) 2 := ⟨⟨ti_X10_allOf, tl_X10_allOf, tn_RX10, td_X10_allOf⟩, by decide +kernel⟩
def f_X10_allOf_B5 (n0 : Nat) (l0 : Nat) (x2 : Int) (M : Mem) (x3 : Int) (x4 : Int) (g5 : Int → Int → Option Int) : Option Int :=
  q_al M 35 14 0 fun v1 =>
  if w32 v1 ≤ w32 x4 then (some x3)
  else (q_al M n0 l0 ((8 * x2) + x4) fun v2 =>
  g5 (x3 + v2) (x4 + 1))
def f_X10_allOf_L5 (n0 : Nat) (l0 : Nat) (x2 : Int) (M : Mem) (n : Nat) (x3 : Int) (x4 : Int) : Option Int := qlp2 (fun x3 x4 g5 => f_X10_allOf_B5 n0 l0 x2 M x3 x4 g5) n x3 x4
theorem w_X10_allOf_B5 (C : Cx syM p m c cX10_allOf 5 s args RX10 D ad cA) (hr : meth.sig.returnType = (some .int)) (hlk : meth.locks = false) (n0 : Nat) (l0 : Nat) (hn0 : syM.1 n0 = (2, l0)) (x2 : Int) (x3 : Int) (x4 : Int) (M : Mem) (g5 : Int → Int → Option Int)  (ih5 : ∀ (ux3 ux4 : Int) , g5 ux3 ux4  = some r0 → WM syM p l e rm_X10_allOf s m args below meth c 5 D ad cA (MQ below (q_Post syM D ad cA (some (.int (qI r0))) M) args s 0 0 (q_A syM ad)) M 5 [(0, .ref (ad 0)), (1, .ref (ad n0)), (2, .int (qI x2)), (3, .int (qI ux3)), (4, .int (qI ux4))] []) (h : f_X10_allOf_B5 n0 l0 x2 M x3 x4 g5 = some r0) : WM syM p l e rm_X10_allOf s m args below meth c 5 D ad cA (MQ below (q_Post syM D ad cA (some (.int (qI r0))) M) args s 0 0 (q_A syM ad)) M 5 [(0, .ref (ad 0)), (1, .ref (ad n0)), (2, .int (qI x2)), (3, .int (qI x3)), (4, .int (qI x4))] [] := by
  unfold f_X10_allOf_B5 at h
  refine r_il C dX10_allOf_5 (k := 4) rfl ?_
  refine r_aln C dX10_allOf_7 (k := 0) rfl ?_
  refine r_gs C km_0 clX10 (f := 3) (by decide) rfl (t := 35) rfl tf_RX10_13 dX10_allOf_8 ?_
  refine r_ic C dX10_allOf_11 ?_
  refine r_iald C km_35 dX10_allOf_12 h (fun v1 h => ?_)
  refine r_cge C (tgt := 34) dX10_allOf_13 (by decide) h (fun h => ?_) (fun h => ?_)
  · refine r_iln C dX10_allOf_34 (k := 3) rfl ?_
    exact r_iretp C hr hlk dX10_allOf_35 h
  · refine r_iln C dX10_allOf_16 (k := 3) rfl ?_
    refine r_aln C dX10_allOf_17 (k := 1) rfl ?_
    refine r_bi C dX10_allOf_18 (by decide) ?_
    refine r_iln C dX10_allOf_20 (k := 2) rfl ?_
    refine r_imul C dX10_allOf_21 ?_
    refine r_il C dX10_allOf_22 (k := 4) rfl ?_
    refine r_iadd C dX10_allOf_24 ?_
    refine r_iald C hn0 dX10_allOf_25 h (fun v2 h => ?_)
    refine r_iadd C dX10_allOf_26 ?_
    refine r_isn C (L1 := [(3, .int (qI (x3 + v2))), (0, .ref (ad 0)), (1, .ref (ad n0)), (2, .int (qI x2)), (4, .int (qI x4))]) dX10_allOf_27 (by decide) rfl ?_
    refine r_inc C (L1 := [(4, .int (qI (x4 + 1))), (3, .int (qI (x3 + v2))), (0, .ref (ad 0)), (1, .ref (ad n0)), (2, .int (qI x2))]) dX10_allOf_28 (k := 4) rfl (by decide) rfl ?_
    refine r_goto C (tgt := 5) dX10_allOf_31 (by decide) ?_
    refine r_drop [2, 3, 4, 1, 0] rfl ?_
    exact ih5 (x3 + v2) (x4 + 1)  h
theorem w_X10_allOf_L5 (C : Cx syM p m c cX10_allOf 5 s args RX10 D ad cA) (hr : meth.sig.returnType = (some .int)) (hlk : meth.locks = false) (n0 : Nat) (l0 : Nat) (hn0 : syM.1 n0 = (2, l0)) (x2 : Int) (M : Mem)  (n : Nat) (x3 : Int) (x4 : Int) (h : f_X10_allOf_L5 n0 l0 x2 M n x3 x4 = some r0) : WM syM p l e rm_X10_allOf s m args below meth c 5 D ad cA (MQ below (q_Post syM D ad cA (some (.int (qI r0))) M) args s 0 0 (q_A syM ad)) M 5 [(0, .ref (ad 0)), (1, .ref (ad n0)), (2, .int (qI x2)), (3, .int (qI x3)), (4, .int (qI x4))] [] :=
  qlp2_r (Wp := fun ux3 ux4 => WM syM p l e rm_X10_allOf s m args below meth c 5 D ad cA (MQ below (q_Post syM D ad cA (some (.int (qI r0))) M) args s 0 0 (q_A syM ad)) M 5 [(0, .ref (ad 0)), (1, .ref (ad n0)), (2, .int (qI x2)), (3, .int (qI ux3)), (4, .int (qI ux4))] []) (fun ux3 ux4 g5 ih5 h => w_X10_allOf_B5 C hr hlk n0 l0 hn0 x2 ux3 ux4 M g5  ih5 h) n x3 x4 h
def f_X10_allOf (n0 : Nat) (l0 : Nat) (a1 : Int) (M : Mem) : Option Int :=
  f_X10_allOf_L5 n0 l0 a1 M q_N 0 0
theorem c_X10_allOf {l : Launch} {D : va_G} {ad : Nat → Nat} {cA : Nat → ClassId} (hi : q_inj syM ad) (n0 : Nat) (l0 : Nat) (hn0 : syM.1 n0 = (2, l0)) (a1 : Int) (M : Mem) (r0 : Int) (h : f_X10_allOf n0 l0 a1 M = some r0) : q_Met l syM D ad cA yX10_allOf cX10_allOf 5 (some .int) rm_X10_allOf [.ref (ad 0), .ref (ad n0), .int (qI a1)] M (some (.int (qI r0))) M := by
  refine q_met (L0 := [(0, .ref (ad 0)), (1, .ref (ad n0)), (2, .int (qI a1))]) hi okM (by decide) (Nat.le_of_ble_eq_true rfl) rfl ?_
  intro p e s m args below meth c C hr hlk
  unfold f_X10_allOf at h
  refine r_ic C dX10_allOf_0 ?_
  refine r_isn C (L1 := [(3, .int (qI 0)), (0, .ref (ad 0)), (1, .ref (ad n0)), (2, .int (qI a1))]) dX10_allOf_1 (by decide) rfl ?_
  refine r_ic C dX10_allOf_2 ?_
  refine r_is C (L1 := [(4, .int (qI 0)), (3, .int (qI 0)), (0, .ref (ad 0)), (1, .ref (ad n0)), (2, .int (qI a1))]) dX10_allOf_3 (by decide) rfl ?_
  refine r_drop [2, 3, 4, 1, 0] rfl ?_
  exact w_X10_allOf_L5 C hr hlk n0 l0 hn0 a1 M  q_N 0 0 h
abbrev rm_X10_ahead : Room := { frames := 8, cells := 0, slots := 0, locals := 188 }
theorem mw_X10_ahead : q_mw RX10 yX10_ahead cX10_ahead 4 (some .int) 3 := ⟨⟨ti_X10_ahead, tl_X10_ahead, tn_RX10, td_X10_ahead⟩, by decide +kernel⟩
def f_X10_ahead_J40 (x1 : Int) (x2 : Int) (x3 : Int) (M : Mem) : Res :=
  q_call (f_X10_runs x1 M) fun r1 M2 =>
  if w32 x2 = 0 then (q_calp (f_X10_soulsOf 1 2 M2) fun r3 =>
  some (r3, M2))
  else if w32 x2 = 1 then (q_calp (f_X10_kindness 1 M2) fun r4 =>
  some (r4, M2))
  else if w32 x2 = 2 then (q_calp (f_X10_allOf 74 184 1 M2) fun r5 =>
  q_calp (f_X10_allOf 74 184 0 M2) fun r6 =>
  some (r5 - r6, M2))
  else if w32 x2 = 3 then (q_al M2 73 184 (8 + x3) fun v7 =>
  some (v7, M2))
  else (q_al M2 69 23 1 fun v8 =>
  some (v8, M2))
theorem w_X10_ahead_J40 (C : Cx syM p m c cX10_ahead 4 s args RX10 D ad cA) (hr : meth.sig.returnType = (some .int)) (hlk : meth.locks = false) (x1 : Int) (x2 : Int) (x3 : Int) (M : Mem)  (h : f_X10_ahead_J40 x1 x2 x3 M = some (r0, M0)) : WM syM p l e rm_X10_ahead s m args below meth c 4 D ad cA (MQ below (q_Post syM D ad cA (some (.int (qI r0))) M0) args s 0 0 (q_A syM ad)) M 40 [(0, .ref (ad 0)), (1, .int (qI x1)), (2, .int (qI x2)), (3, .int (qI x3))] [] := by
  unfold f_X10_ahead_J40 at h
  refine r_aln C dX10_ahead_40 (k := 0) rfl ?_
  refine r_iln C dX10_ahead_41 (k := 1) rfl ?_
  obtain ⟨r1, M2, hy, h⟩ := q_call_some h
  refine r_cvv C (st := []) (c_X10_runs C.2.2.1 x1 M r1 M2 hy) tm_RX10_433 mw_X10_runs ⟨rfl, rfl⟩ ⟨Nat.le_of_ble_eq_true rfl, Nat.le_of_ble_eq_true rfl⟩ km_0 clX10 rfl rfl (Nat.le_of_ble_eq_true rfl) dX10_ahead_42 ?_
  refine r_iln C dX10_ahead_45 (k := 2) rfl ?_
  refine r_tc C h (fun e h => ?_) (fun ne0 h => ?_)
  · refine r_tin C (tgt := 76) dX10_ahead_46 e (by decide) rfl (by decide) ?_
    refine r_aln C dX10_ahead_76 (k := 0) rfl ?_
    refine r_ic C dX10_ahead_77 ?_
    refine r_ic C dX10_ahead_78 ?_
    obtain ⟨r3, hy, h⟩ := q_calp_some h
    refine r_cvi C (st := []) (c_X10_soulsOf C.2.2.1 1 2 M2 r3 hy) tm_RX10_436 mw_X10_soulsOf ⟨rfl, rfl⟩ ⟨Nat.le_of_ble_eq_true rfl, Nat.le_of_ble_eq_true rfl⟩ km_0 clX10 rfl rfl (Nat.le_of_ble_eq_true rfl) dX10_ahead_79 ?_
    exact r_iret C hr hlk dX10_ahead_82 h
  refine r_tc C h (fun e h => ?_) (fun ne1 h => ?_)
  · refine r_tin C (tgt := 83) dX10_ahead_46 e (by decide) rfl (by decide) ?_
    refine r_aln C dX10_ahead_83 (k := 0) rfl ?_
    refine r_ic C dX10_ahead_84 ?_
    obtain ⟨r4, hy, h⟩ := q_calp_some h
    refine r_cvi C (st := []) (c_X10_kindness C.2.2.1 1 M2 r4 hy) tm_RX10_439 mw_X10_kindness ⟨rfl, rfl⟩ ⟨Nat.le_of_ble_eq_true rfl, Nat.le_of_ble_eq_true rfl⟩ km_0 clX10 rfl rfl (Nat.le_of_ble_eq_true rfl) dX10_ahead_85 ?_
    exact r_iret C hr hlk dX10_ahead_88 h
  refine r_tc C h (fun e h => ?_) (fun ne2 h => ?_)
  · refine r_tin C (tgt := 89) dX10_ahead_46 e (by decide) rfl (by decide) ?_
    refine r_aln C dX10_ahead_89 (k := 0) rfl ?_
    refine r_aln C dX10_ahead_90 (k := 0) rfl ?_
    refine r_gs C km_0 clX10 (f := 42) (by decide) rfl (t := 74) rfl tf_RX10_93 dX10_ahead_91 ?_
    refine r_ic C dX10_ahead_94 ?_
    obtain ⟨r5, hy, h⟩ := q_calp_some h
    refine r_cvi C (st := []) (c_X10_allOf C.2.2.1 74 184 km_74 1 M2 r5 hy) tm_RX10_442 mw_X10_allOf ⟨rfl, rfl⟩ ⟨Nat.le_of_ble_eq_true rfl, Nat.le_of_ble_eq_true rfl⟩ km_0 clX10 rfl rfl (Nat.le_of_ble_eq_true rfl) dX10_ahead_95 ?_
    refine r_aln C dX10_ahead_98 (k := 0) rfl ?_
    refine r_aln C dX10_ahead_99 (k := 0) rfl ?_
    refine r_gs C km_0 clX10 (f := 42) (by decide) rfl (t := 74) rfl tf_RX10_93 dX10_ahead_100 ?_
    refine r_ic C dX10_ahead_103 ?_
    obtain ⟨r6, hy, h⟩ := q_calp_some h
    refine r_cvi C (st := [.int (qI r5)]) (c_X10_allOf C.2.2.1 74 184 km_74 0 M2 r6 hy) tm_RX10_442 mw_X10_allOf ⟨rfl, rfl⟩ ⟨Nat.le_of_ble_eq_true rfl, Nat.le_of_ble_eq_true rfl⟩ km_0 clX10 rfl rfl (Nat.le_of_ble_eq_true rfl) dX10_ahead_104 ?_
    refine r_isub C dX10_ahead_107 ?_
    exact r_iret C hr hlk dX10_ahead_108 h
  refine r_tc C h (fun e h => ?_) (fun ne3 h => ?_)
  · refine r_tin C (tgt := 109) dX10_ahead_46 e (by decide) rfl (by decide) ?_
    refine r_aln C dX10_ahead_109 (k := 0) rfl ?_
    refine r_gs C km_0 clX10 (f := 41) (by decide) rfl (t := 73) rfl tf_RX10_90 dX10_ahead_110 ?_
    refine r_bi C dX10_ahead_113 (by decide) ?_
    refine r_iln C dX10_ahead_115 (k := 3) rfl ?_
    refine r_iadd C dX10_ahead_116 ?_
    refine r_iald C km_73 dX10_ahead_117 h (fun v7 h => ?_)
    exact r_iret C hr hlk dX10_ahead_118 h
  refine r_tout C (tgt := 119) dX10_ahead_46 (by omega) (by decide) ?_
  refine r_aln C dX10_ahead_119 (k := 0) rfl ?_
  refine r_gs C km_0 clX10 (f := 37) (by decide) rfl (t := 69) rfl tf_RX10_78 dX10_ahead_120 ?_
  refine r_ic C dX10_ahead_123 ?_
  refine r_iald C km_69 dX10_ahead_124 h (fun v8 h => ?_)
  exact r_iret C hr hlk dX10_ahead_125 h
def f_X10_ahead (a0 : Int) (a1 : Int) (a2 : Int) (M : Mem) : Res :=
  q_pf M 0 0 0 fun M1 =>
  if w32 a0 < 0 then (some ((-1), M1))
  else (if w32 200 < w32 a0 then (some ((-1), M1))
  else (if w32 a1 < 0 then (some ((-1), M1))
  else (if w32 4 < w32 a1 then (some ((-1), M1))
  else (if ¬ w32 a1 = w32 3 then (f_X10_ahead_J40 a0 a1 a2 M1)
  else (q_calp (f_X10_isSoul a2 M1) fun r2 =>
  if ¬ w32 r2 = 0 then (f_X10_ahead_J40 a0 a1 a2 M1)
  else (some ((-1), M1)))))))
theorem c_X10_ahead {l : Launch} {D : va_G} {ad : Nat → Nat} {cA : Nat → ClassId} (hi : q_inj syM ad) (a0 : Int) (a1 : Int) (a2 : Int) (M : Mem) (r0 : Int) (M0 : Mem) (h : f_X10_ahead a0 a1 a2 M = some (r0, M0)) : q_Met l syM D ad cA yX10_ahead cX10_ahead 4 (some .int) rm_X10_ahead [.ref (ad 0), .int (qI a0), .int (qI a1), .int (qI a2)] M (some (.int (qI r0))) M0 := by
  refine q_met (L0 := [(0, .ref (ad 0)), (1, .int (qI a0)), (2, .int (qI a1)), (3, .int (qI a2))]) hi okM (by decide) (Nat.le_of_ble_eq_true rfl) rfl ?_
  intro p e s m args below meth c C hr hlk
  unfold f_X10_ahead at h
  refine r_aln C dX10_ahead_0 (k := 0) rfl ?_
  refine r_ic C dX10_ahead_1 ?_
  refine r_pf C km_0 clX10 (f := 0) (by decide) rfl q_dI rfl rfl tf_RX10_142 dX10_ahead_2 h (fun M1 h => ?_)
  refine r_iln C dX10_ahead_5 (k := 1) rfl ?_
  refine r_zlt C (tgt := 38) dX10_ahead_6 (by decide) h (fun h => ?_) (fun h => ?_)
  · refine r_ic C dX10_ahead_38 ?_
    exact r_iret C hr hlk dX10_ahead_39 h
  · refine r_iln C dX10_ahead_9 (k := 1) rfl ?_
    refine r_si C dX10_ahead_10 (by decide) ?_
    refine r_cgt C (tgt := 38) dX10_ahead_13 (by decide) h (fun h => ?_) (fun h => ?_)
    · refine r_ic C dX10_ahead_38 ?_
      exact r_iret C hr hlk dX10_ahead_39 h
    · refine r_iln C dX10_ahead_16 (k := 2) rfl ?_
      refine r_zlt C (tgt := 38) dX10_ahead_17 (by decide) h (fun h => ?_) (fun h => ?_)
      · refine r_ic C dX10_ahead_38 ?_
        exact r_iret C hr hlk dX10_ahead_39 h
      · refine r_iln C dX10_ahead_20 (k := 2) rfl ?_
        refine r_ic C dX10_ahead_21 ?_
        refine r_cgt C (tgt := 38) dX10_ahead_22 (by decide) h (fun h => ?_) (fun h => ?_)
        · refine r_ic C dX10_ahead_38 ?_
          exact r_iret C hr hlk dX10_ahead_39 h
        · refine r_iln C dX10_ahead_25 (k := 2) rfl ?_
          refine r_ic C dX10_ahead_26 ?_
          refine r_cne C (tgt := 40) dX10_ahead_27 (by decide) h (fun h => ?_) (fun h => ?_)
          · exact w_X10_ahead_J40 C hr hlk a0 a1 a2 M1  h
          · refine r_aln C dX10_ahead_30 (k := 0) rfl ?_
            refine r_iln C dX10_ahead_31 (k := 3) rfl ?_
            obtain ⟨r2, hy, h⟩ := q_calp_some h
            refine r_cvi C (st := []) (c_X10_isSoul C.2.2.1 a2 M1 r2 hy) tm_RX10_411 mw_X10_isSoul ⟨rfl, rfl⟩ ⟨Nat.le_of_ble_eq_true rfl, Nat.le_of_ble_eq_true rfl⟩ km_0 clX10 rfl rfl (Nat.le_of_ble_eq_true rfl) dX10_ahead_32 ?_
            refine r_zne C (tgt := 40) dX10_ahead_35 (by decide) h (fun h => ?_) (fun h => ?_)
            · exact w_X10_ahead_J40 C hr hlk a0 a1 a2 M1  h
            · refine r_ic C dX10_ahead_38 ?_
              exact r_iret C hr hlk dX10_ahead_39 h
abbrev rm_X10_areTwo : Room := { frames := 1, cells := 0, slots := 0, locals := 21 }
theorem mw_X10_areTwo : q_mw RX10 yX10_areTwo cX10_areTwo 3 (some .boolean) 2 := ⟨⟨ti_X10_areTwo, tl_X10_areTwo, tn_RX10, td_X10_areTwo⟩, by decide +kernel⟩
def f_X10_areTwo (a0 : Int) (a1 : Int) (M : Mem) : Option Int :=
  q_calp (f_X10_isSoul a0 M) fun r1 =>
  if w32 r1 = 0 then (some 0)
  else (q_calp (f_X10_isSoul a1 M) fun r2 =>
  if w32 r2 = 0 then (some 0)
  else (if w32 a0 = w32 a1 then (some 0)
  else (some 1)))
theorem c_X10_areTwo {l : Launch} {D : va_G} {ad : Nat → Nat} {cA : Nat → ClassId} (hi : q_inj syM ad) (a0 : Int) (a1 : Int) (M : Mem) (r0 : Int) (h : f_X10_areTwo a0 a1 M = some r0) : q_Met l syM D ad cA yX10_areTwo cX10_areTwo 3 (some .boolean) rm_X10_areTwo [.ref (ad 0), .int (qI a0), .int (qI a1)] M (some (.int (qI r0))) M := by
  refine q_met (L0 := [(0, .ref (ad 0)), (1, .int (qI a0)), (2, .int (qI a1))]) hi okM (by decide) (Nat.le_of_ble_eq_true rfl) rfl ?_
  intro p e s m args below meth c C hr hlk
  unfold f_X10_areTwo at h
  refine r_aln C dX10_areTwo_0 (k := 0) rfl ?_
  refine r_iln C dX10_areTwo_1 (k := 1) rfl ?_
  obtain ⟨r1, hy, h⟩ := q_calp_some h
  refine r_cvi C (st := []) (c_X10_isSoul C.2.2.1 a0 M r1 hy) tm_RX10_411 mw_X10_isSoul ⟨rfl, rfl⟩ ⟨Nat.le_of_ble_eq_true rfl, Nat.le_of_ble_eq_true rfl⟩ km_0 clX10 rfl rfl (Nat.le_of_ble_eq_true rfl) dX10_areTwo_2 ?_
  refine r_zeq C (tgt := 25) dX10_areTwo_5 (by decide) h (fun h => ?_) (fun h => ?_)
  · refine r_ic C dX10_areTwo_25 ?_
    exact r_zretp C (by decide) hr hlk dX10_areTwo_26 h
  · refine r_aln C dX10_areTwo_8 (k := 0) rfl ?_
    refine r_iln C dX10_areTwo_9 (k := 2) rfl ?_
    obtain ⟨r2, hy, h⟩ := q_calp_some h
    refine r_cvi C (st := []) (c_X10_isSoul C.2.2.1 a1 M r2 hy) tm_RX10_411 mw_X10_isSoul ⟨rfl, rfl⟩ ⟨Nat.le_of_ble_eq_true rfl, Nat.le_of_ble_eq_true rfl⟩ km_0 clX10 rfl rfl (Nat.le_of_ble_eq_true rfl) dX10_areTwo_10 ?_
    refine r_zeq C (tgt := 25) dX10_areTwo_13 (by decide) h (fun h => ?_) (fun h => ?_)
    · refine r_ic C dX10_areTwo_25 ?_
      exact r_zretp C (by decide) hr hlk dX10_areTwo_26 h
    · refine r_iln C dX10_areTwo_16 (k := 1) rfl ?_
      refine r_iln C dX10_areTwo_17 (k := 2) rfl ?_
      refine r_ceq C (tgt := 25) dX10_areTwo_18 (by decide) h (fun h => ?_) (fun h => ?_)
      · refine r_ic C dX10_areTwo_25 ?_
        exact r_zretp C (by decide) hr hlk dX10_areTwo_26 h
      · refine r_ic C dX10_areTwo_21 ?_
        refine r_goto C (tgt := 26) dX10_areTwo_22 (by decide) ?_
        exact r_zretp C (by decide) hr hlk dX10_areTwo_26 h
abbrev rm_X10_isBus : Room := { frames := 0, cells := 0, slots := 0, locals := 0 }
theorem mw_X10_isBus : q_mw RX10 yX10_isBus cX10_isBus 2 (some .boolean) 1 := ⟨⟨ti_X10_isBus, tl_X10_isBus, tn_RX10, td_X10_isBus⟩, by decide +kernel⟩
def f_X10_isBus (a0 : Int) (M : Mem) : Option Int :=
  if w32 a0 < 0 then (some 0)
  else (q_al M 35 14 1 fun v1 =>
  if w32 v1 ≤ w32 a0 then (some 0)
  else (some 1))
theorem c_X10_isBus {l : Launch} {D : va_G} {ad : Nat → Nat} {cA : Nat → ClassId} (hi : q_inj syM ad) (a0 : Int) (M : Mem) (r0 : Int) (h : f_X10_isBus a0 M = some r0) : q_Met l syM D ad cA yX10_isBus cX10_isBus 2 (some .boolean) rm_X10_isBus [.ref (ad 0), .int (qI a0)] M (some (.int (qI r0))) M := by
  refine q_met (L0 := [(0, .ref (ad 0)), (1, .int (qI a0))]) hi okM (by decide) (Nat.le_of_ble_eq_true rfl) rfl ?_
  intro p e s m args below meth c C hr hlk
  unfold f_X10_isBus at h
  refine r_iln C dX10_isBus_0 (k := 1) rfl ?_
  refine r_zlt C (tgt := 18) dX10_isBus_1 (by decide) h (fun h => ?_) (fun h => ?_)
  · refine r_ic C dX10_isBus_18 ?_
    exact r_zretp C (by decide) hr hlk dX10_isBus_19 h
  · refine r_iln C dX10_isBus_4 (k := 1) rfl ?_
    refine r_aln C dX10_isBus_5 (k := 0) rfl ?_
    refine r_gs C km_0 clX10 (f := 3) (by decide) rfl (t := 35) rfl tf_RX10_13 dX10_isBus_6 ?_
    refine r_ic C dX10_isBus_9 ?_
    refine r_iald C km_35 dX10_isBus_10 h (fun v1 h => ?_)
    refine r_cge C (tgt := 18) dX10_isBus_11 (by decide) h (fun h => ?_) (fun h => ?_)
    · refine r_ic C dX10_isBus_18 ?_
      exact r_zretp C (by decide) hr hlk dX10_isBus_19 h
    · refine r_ic C dX10_isBus_14 ?_
      refine r_goto C (tgt := 19) dX10_isBus_15 (by decide) ?_
      exact r_zretp C (by decide) hr hlk dX10_isBus_19 h
abbrev rm_X10_knownMany : Room := { frames := 0, cells := 0, slots := 0, locals := 0 }
theorem mw_X10_knownMany : q_mw RX10 yX10_knownMany cX10_knownMany 1 (some .int) 0 := ⟨⟨ti_X10_knownMany, tl_X10_knownMany, tn_RX10, td_X10_knownMany⟩, by decide +kernel⟩
def f_X10_knownMany  (M : Mem) : Option Int :=
  q_gf M 0 59 fun v1 =>
  if ¬ w32 v1 = w32 (-1) then (q_gf M 0 59 fun v2 =>
  some v2)
  else (q_gf M 0 58 fun v3 =>
  some v3)
theorem c_X10_knownMany {l : Launch} {D : va_G} {ad : Nat → Nat} {cA : Nat → ClassId} (hi : q_inj syM ad)  (M : Mem) (r0 : Int) (h : f_X10_knownMany  M = some r0) : q_Met l syM D ad cA yX10_knownMany cX10_knownMany 1 (some .int) rm_X10_knownMany [.ref (ad 0)] M (some (.int (qI r0))) M := by
  refine q_met (L0 := [(0, .ref (ad 0))]) hi okM (by decide) (Nat.le_of_ble_eq_true rfl) rfl ?_
  intro p e s m args below meth c C hr hlk
  unfold f_X10_knownMany at h
  refine r_aln C dX10_knownMany_0 (k := 0) rfl ?_
  refine r_gf C km_0 clX10 (f := 59) (by decide) rfl rfl rfl tf_RX10_120 dX10_knownMany_1 h (fun v1 h => ?_)
  refine r_ic C dX10_knownMany_4 ?_
  refine r_cne C (tgt := 15) dX10_knownMany_5 (by decide) h (fun h => ?_) (fun h => ?_)
  · refine r_aln C dX10_knownMany_15 (k := 0) rfl ?_
    refine r_gf C km_0 clX10 (f := 59) (by decide) rfl rfl rfl tf_RX10_120 dX10_knownMany_16 h (fun v2 h => ?_)
    exact r_iretp C hr hlk dX10_knownMany_19 h
  · refine r_aln C dX10_knownMany_8 (k := 0) rfl ?_
    refine r_gf C km_0 clX10 (f := 58) (by decide) rfl rfl rfl tf_RX10_295 dX10_knownMany_9 h (fun v3 h => ?_)
    refine r_goto C (tgt := 19) dX10_knownMany_12 (by decide) ?_
    exact r_iretp C hr hlk dX10_knownMany_19 h
abbrev rm_X10_starts : Room := { frames := 0, cells := 0, slots := 0, locals := 0 }
theorem mw_X10_starts : q_mw RX10 yX10_starts cX10_starts 4 none 1 := ⟨⟨ti_X10_starts, tl_X10_starts, tn_RX10, td_X10_starts⟩, by decide +kernel⟩
def f_X10_starts_J80 (g28 : Int → Mem → Res) (x1 : Int) (x2 : Int) (x3 : Int) (y0 : Int) (y1 : Int) (M : Mem) : Res :=
  q_as M 72 184 y1 y0 fun M1 =>
  q_as M1 73 184 x3 0 fun M2 =>
  q_as M2 74 184 x3 0 fun M3 =>
  q_as M3 75 184 x3 (-1) fun M4 =>
  q_as M4 76 184 x3 (-1) fun M5 =>
  g28 (x2 + 1) M5
theorem w_X10_starts_J80 (C : Cx syM p m c cX10_starts 4 s args RX10 D ad cA) (hr : meth.sig.returnType = none) (hlk : meth.locks = false) (g28 : Int → Mem → Res) (x1 : Int) (x2 : Int) (x3 : Int) (y0 : Int) (y1 : Int) (M : Mem) (ih28 : ∀ (ux2 : Int) (M : Mem), g28 ux2 M = some (r0, M0) → WM syM p l e rm_X10_starts s m args below meth c 4 D ad cA (MQ below (q_Post syM D ad cA none M0) args s 0 0 (q_A syM ad)) M 28 [(0, .ref (ad 0)), (1, .int (qI x1)), (2, .int (qI ux2))] []) (h : f_X10_starts_J80 g28 x1 x2 x3 y0 y1 M = some (r0, M0)) : WM syM p l e rm_X10_starts s m args below meth c 4 D ad cA (MQ below (q_Post syM D ad cA none M0) args s 0 0 (q_A syM ad)) M 80 [(0, .ref (ad 0)), (1, .int (qI x1)), (2, .int (qI x2)), (3, .int (qI x3))] [.int (qI y0), .int (qI y1), .ref (ad 72)] := by
  unfold f_X10_starts_J80 at h
  refine r_iast C km_72 dX10_starts_80 h (fun M1 h => ?_)
  refine r_aln C dX10_starts_81 (k := 0) rfl ?_
  refine r_gs C km_0 clX10 (f := 41) (by decide) rfl (t := 73) rfl tf_RX10_90 dX10_starts_82 ?_
  refine r_iln C dX10_starts_85 (k := 3) rfl ?_
  refine r_ic C dX10_starts_86 ?_
  refine r_iast C km_73 dX10_starts_87 h (fun M2 h => ?_)
  refine r_aln C dX10_starts_88 (k := 0) rfl ?_
  refine r_gs C km_0 clX10 (f := 42) (by decide) rfl (t := 74) rfl tf_RX10_93 dX10_starts_89 ?_
  refine r_iln C dX10_starts_92 (k := 3) rfl ?_
  refine r_ic C dX10_starts_93 ?_
  refine r_iast C km_74 dX10_starts_94 h (fun M3 h => ?_)
  refine r_aln C dX10_starts_95 (k := 0) rfl ?_
  refine r_gs C km_0 clX10 (f := 43) (by decide) rfl (t := 75) rfl tf_RX10_96 dX10_starts_96 ?_
  refine r_iln C dX10_starts_99 (k := 3) rfl ?_
  refine r_ic C dX10_starts_100 ?_
  refine r_iast C km_75 dX10_starts_101 h (fun M4 h => ?_)
  refine r_aln C dX10_starts_102 (k := 0) rfl ?_
  refine r_gs C km_0 clX10 (f := 44) (by decide) rfl (t := 76) rfl tf_RX10_99 dX10_starts_103 ?_
  refine r_iln C dX10_starts_106 (k := 3) rfl ?_
  refine r_ic C dX10_starts_107 ?_
  refine r_iast C km_76 dX10_starts_108 h (fun M5 h => ?_)
  refine r_inc C (L1 := [(2, .int (qI (x2 + 1))), (0, .ref (ad 0)), (1, .int (qI x1)), (3, .int (qI x3))]) dX10_starts_109 (k := 2) rfl (by decide) rfl ?_
  refine r_goto C (tgt := 28) dX10_starts_112 (by decide) ?_
  refine r_drop [1, 2, 0] rfl ?_
  exact ih28 (x2 + 1) M5 h
def f_X10_starts_B28 (x1 : Int) (x2 : Int) (M : Mem) (g28 : Int → Mem → Res) : Res :=
  if w32 8 ≤ w32 x2 then (some (0, M))
  else (q_as M 70 184 ((8 * x1) + x2) (-1) fun M1 =>
  q_as M1 71 184 ((8 * x1) + x2) 0 fun M2 =>
  q_al M2 35 14 0 fun v3 =>
  if w32 v3 ≤ w32 x2 then (f_X10_starts_J80 g28 x1 x2 ((8 * x1) + x2) 0 ((8 * x1) + x2) M2)
  else (q_al M2 39 16 x2 fun v4 =>
  f_X10_starts_J80 g28 x1 x2 ((8 * x1) + x2) v4 ((8 * x1) + x2) M2))
def f_X10_starts_L28 (x1 : Int) (n : Nat) (x2 : Int) (M : Mem) : Res := qlm1 (fun x2 M g28 => f_X10_starts_B28 x1 x2 M g28) n x2 M
theorem w_X10_starts_B28 (C : Cx syM p m c cX10_starts 4 s args RX10 D ad cA) (hr : meth.sig.returnType = none) (hlk : meth.locks = false)  (x1 : Int) (x2 : Int) (M : Mem) (g28 : Int → Mem → Res)  (ih28 : ∀ (ux2 : Int) (M : Mem), g28 ux2 M = some (r0, M0) → WM syM p l e rm_X10_starts s m args below meth c 4 D ad cA (MQ below (q_Post syM D ad cA none M0) args s 0 0 (q_A syM ad)) M 28 [(0, .ref (ad 0)), (1, .int (qI x1)), (2, .int (qI ux2))] []) (h : f_X10_starts_B28 x1 x2 M g28 = some (r0, M0)) : WM syM p l e rm_X10_starts s m args below meth c 4 D ad cA (MQ below (q_Post syM D ad cA none M0) args s 0 0 (q_A syM ad)) M 28 [(0, .ref (ad 0)), (1, .int (qI x1)), (2, .int (qI x2))] [] := by
  unfold f_X10_starts_B28 at h
  refine r_iln C dX10_starts_28 (k := 2) rfl ?_
  refine r_bi C dX10_starts_29 (by decide) ?_
  refine r_cge C (tgt := 115) dX10_starts_31 (by decide) h (fun h => ?_) (fun h => ?_)
  · exact r_vret C hr hlk dX10_starts_115 h
  · refine r_bi C dX10_starts_34 (by decide) ?_
    refine r_iln C dX10_starts_36 (k := 1) rfl ?_
    refine r_imul C dX10_starts_37 ?_
    refine r_iln C dX10_starts_38 (k := 2) rfl ?_
    refine r_iadd C dX10_starts_39 ?_
    refine r_isn C (L1 := [(3, .int (qI ((8 * x1) + x2))), (0, .ref (ad 0)), (1, .int (qI x1)), (2, .int (qI x2))]) dX10_starts_40 (by decide) rfl ?_
    refine r_aln C dX10_starts_41 (k := 1) rfl ?_
    refine r_gs C km_0 clX10 (f := 38) (by decide) rfl (t := 70) rfl tf_RX10_81 dX10_starts_42 ?_
    refine r_iln C dX10_starts_45 (k := 0) rfl ?_
    refine r_ic C dX10_starts_46 ?_
    refine r_iast C km_70 dX10_starts_47 h (fun M1 h => ?_)
    refine r_aln C dX10_starts_48 (k := 1) rfl ?_
    refine r_gs C km_0 clX10 (f := 39) (by decide) rfl (t := 71) rfl tf_RX10_84 dX10_starts_49 ?_
    refine r_iln C dX10_starts_52 (k := 0) rfl ?_
    refine r_ic C dX10_starts_53 ?_
    refine r_iast C km_71 dX10_starts_54 h (fun M2 h => ?_)
    refine r_aln C dX10_starts_55 (k := 1) rfl ?_
    refine r_gs C km_0 clX10 (f := 40) (by decide) rfl (t := 72) rfl tf_RX10_87 dX10_starts_56 ?_
    refine r_iln C dX10_starts_59 (k := 0) rfl ?_
    refine r_iln C dX10_starts_60 (k := 3) rfl ?_
    refine r_aln C dX10_starts_61 (k := 1) rfl ?_
    refine r_gs C km_0 clX10 (f := 3) (by decide) rfl (t := 35) rfl tf_RX10_13 dX10_starts_62 ?_
    refine r_ic C dX10_starts_65 ?_
    refine r_iald C km_35 dX10_starts_66 h (fun v3 h => ?_)
    refine r_cge C (tgt := 79) dX10_starts_67 (by decide) h (fun h => ?_) (fun h => ?_)
    · refine r_ic C dX10_starts_79 ?_
      refine r_drop [1, 2, 3, 0] rfl ?_
      exact w_X10_starts_J80 C hr hlk g28 x1 x2 ((8 * x1) + x2) 0 ((8 * x1) + x2) M2 ih28 h
    · refine r_aln C dX10_starts_70 (k := 1) rfl ?_
      refine r_gs C km_0 clX10 (f := 7) (by decide) rfl (t := 39) rfl tf_RX10_25 dX10_starts_71 ?_
      refine r_iln C dX10_starts_74 (k := 3) rfl ?_
      refine r_iald C km_39 dX10_starts_75 h (fun v4 h => ?_)
      refine r_goto C (tgt := 80) dX10_starts_76 (by decide) ?_
      refine r_drop [1, 2, 3, 0] rfl ?_
      exact w_X10_starts_J80 C hr hlk g28 x1 x2 ((8 * x1) + x2) v4 ((8 * x1) + x2) M2 ih28 h
theorem w_X10_starts_L28 (C : Cx syM p m c cX10_starts 4 s args RX10 D ad cA) (hr : meth.sig.returnType = none) (hlk : meth.locks = false)  (x1 : Int)  (n : Nat) (x2 : Int) (M : Mem) (h : f_X10_starts_L28 x1 n x2 M = some (r0, M0)) : WM syM p l e rm_X10_starts s m args below meth c 4 D ad cA (MQ below (q_Post syM D ad cA none M0) args s 0 0 (q_A syM ad)) M 28 [(0, .ref (ad 0)), (1, .int (qI x1)), (2, .int (qI x2))] [] :=
  qlm1_r (Wp := fun ux2 M => WM syM p l e rm_X10_starts s m args below meth c 4 D ad cA (MQ below (q_Post syM D ad cA none M0) args s 0 0 (q_A syM ad)) M 28 [(0, .ref (ad 0)), (1, .int (qI x1)), (2, .int (qI ux2))] []) (fun ux2 M g28 ih28 h => w_X10_starts_B28 C hr hlk x1 ux2 M g28  ih28 h) n x2 M h
def f_X10_starts (a0 : Int) (M : Mem) : Res :=
  q_as M 67 23 a0 0 fun M1 =>
  q_al M1 35 14 5 fun v2 =>
  q_as M1 68 23 a0 v2 fun M3 =>
  q_as M3 69 23 a0 0 fun M4 =>
  f_X10_starts_L28 a0 q_N 0 M4
theorem c_X10_starts {l : Launch} {D : va_G} {ad : Nat → Nat} {cA : Nat → ClassId} (hi : q_inj syM ad) (a0 : Int) (M : Mem) (r0 : Int) (M0 : Mem) (h : f_X10_starts a0 M = some (r0, M0)) : q_Met l syM D ad cA yX10_starts cX10_starts 4 none rm_X10_starts [.ref (ad 0), .int (qI a0)] M none M0 := by
  refine q_met (L0 := [(0, .ref (ad 0)), (1, .int (qI a0))]) hi okM (by decide) (Nat.le_of_ble_eq_true rfl) rfl ?_
  intro p e s m args below meth c C hr hlk
  unfold f_X10_starts at h
  refine r_aln C dX10_starts_0 (k := 0) rfl ?_
  refine r_gs C km_0 clX10 (f := 35) (by decide) rfl (t := 67) rfl tf_RX10_72 dX10_starts_1 ?_
  refine r_iln C dX10_starts_4 (k := 1) rfl ?_
  refine r_ic C dX10_starts_5 ?_
  refine r_iast C km_67 dX10_starts_6 h (fun M1 h => ?_)
  refine r_aln C dX10_starts_7 (k := 0) rfl ?_
  refine r_gs C km_0 clX10 (f := 36) (by decide) rfl (t := 68) rfl tf_RX10_75 dX10_starts_8 ?_
  refine r_iln C dX10_starts_11 (k := 1) rfl ?_
  refine r_aln C dX10_starts_12 (k := 0) rfl ?_
  refine r_gs C km_0 clX10 (f := 3) (by decide) rfl (t := 35) rfl tf_RX10_13 dX10_starts_13 ?_
  refine r_ic C dX10_starts_16 ?_
  refine r_iald C km_35 dX10_starts_17 h (fun v2 h => ?_)
  refine r_iast C km_68 dX10_starts_18 h (fun M3 h => ?_)
  refine r_aln C dX10_starts_19 (k := 0) rfl ?_
  refine r_gs C km_0 clX10 (f := 37) (by decide) rfl (t := 69) rfl tf_RX10_78 dX10_starts_20 ?_
  refine r_iln C dX10_starts_23 (k := 1) rfl ?_
  refine r_ic C dX10_starts_24 ?_
  refine r_iast C km_69 dX10_starts_25 h (fun M4 h => ?_)
  refine r_ic C dX10_starts_26 ?_
  refine r_isn C (L1 := [(2, .int (qI 0)), (0, .ref (ad 0)), (1, .int (qI a0))]) dX10_starts_27 (by decide) rfl ?_
  refine r_drop [1, 2, 0] rfl ?_
  exact w_X10_starts_L28 C hr hlk a0  q_N 0 M4 h
abbrev rm_X10_isSo : Room := { frames := 1, cells := 0, slots := 0, locals := 20 }
theorem mw_X10_isSo : q_mw RX10 yX10_isSo cX10_isSo 3 (some .boolean) 1 := ⟨⟨ti_X10_isSo, tl_X10_isSo, tn_RX10, td_X10_isSo⟩, by decide +kernel⟩
def f_X10_isSo_J65 (g2 : Int → Option Int) (x1 : Int) (x2 : Int) (y0 : Int) (M : Mem) : Option Int :=
  q_al M 94 24 x2 fun v1 =>
  if w32 y0 = w32 v1 then (g2 (x2 + 1))
  else (some 0)
theorem w_X10_isSo_J65 (C : Cx syM p m c cX10_isSo 3 s args RX10 D ad cA) (hr : meth.sig.returnType = (some .boolean)) (hlk : meth.locks = false) (g2 : Int → Option Int) (x1 : Int) (x2 : Int) (y0 : Int) (M : Mem) (ih2 : ∀ (ux2 : Int) , g2 ux2  = some r0 → WM syM p l e rm_X10_isSo s m args below meth c 3 D ad cA (MQ below (q_Post syM D ad cA (some (.int (qI r0))) M) args s 0 0 (q_A syM ad)) M 2 [(0, .ref (ad 0)), (1, .int (qI x1)), (2, .int (qI ux2))] []) (h : f_X10_isSo_J65 g2 x1 x2 y0 M = some r0) : WM syM p l e rm_X10_isSo s m args below meth c 3 D ad cA (MQ below (q_Post syM D ad cA (some (.int (qI r0))) M) args s 0 0 (q_A syM ad)) M 65 [(0, .ref (ad 0)), (1, .int (qI x1)), (2, .int (qI x2))] [.int (qI y0)] := by
  unfold f_X10_isSo_J65 at h
  refine r_aln C dX10_isSo_65 (k := 0) rfl ?_
  refine r_gs C km_0 clX10 (f := 62) (by decide) rfl (t := 94) rfl tf_RX10_129 dX10_isSo_66 ?_
  refine r_iln C dX10_isSo_69 (k := 2) rfl ?_
  refine r_zald C km_94 dX10_isSo_70 h (fun v1 h => ?_)
  refine r_ceq C (tgt := 76) dX10_isSo_71 (by decide) h (fun h => ?_) (fun h => ?_)
  · refine r_inc C (L1 := [(2, .int (qI (x2 + 1))), (0, .ref (ad 0)), (1, .int (qI x1))]) dX10_isSo_76 (k := 2) rfl (by decide) rfl ?_
    refine r_goto C (tgt := 2) dX10_isSo_79 (by decide) ?_
    refine r_drop [1, 2, 0] rfl ?_
    exact ih2 (x2 + 1)  h
  · refine r_ic C dX10_isSo_74 ?_
    exact r_zretp C (by decide) hr hlk dX10_isSo_75 h
def f_X10_isSo_B2 (x1 : Int) (M : Mem) (x2 : Int) (g2 : Int → Option Int) : Option Int :=
  q_calp (f_X10_knownMany  M) fun r1 =>
  if w32 r1 ≤ w32 x2 then (some 1)
  else (q_al M 96 24 x2 fun v2 =>
  if ¬ w32 v2 = 0 then (g2 (x2 + 1))
  else (q_al M 95 24 x2 fun v3 =>
  if ¬ w32 v3 = w32 (-1) then (g2 (x2 + 1))
  else (q_al M 92 24 x2 fun v4 =>
  if w32 v4 = w32 x1 then (q_al M 93 24 x2 fun v5 =>
  q_al M 71 184 (8 + v5) fun v6 =>
  if ¬ w32 v6 = w32 2 then (f_X10_isSo_J65 g2 x1 x2 0 M)
  else (f_X10_isSo_J65 g2 x1 x2 1 M))
  else (g2 (x2 + 1)))))
def f_X10_isSo_L2 (x1 : Int) (M : Mem) (n : Nat) (x2 : Int) : Option Int := qlp1 (fun x2 g2 => f_X10_isSo_B2 x1 M x2 g2) n x2
theorem w_X10_isSo_B2 (C : Cx syM p m c cX10_isSo 3 s args RX10 D ad cA) (hr : meth.sig.returnType = (some .boolean)) (hlk : meth.locks = false)  (x1 : Int) (x2 : Int) (M : Mem) (g2 : Int → Option Int)  (ih2 : ∀ (ux2 : Int) , g2 ux2  = some r0 → WM syM p l e rm_X10_isSo s m args below meth c 3 D ad cA (MQ below (q_Post syM D ad cA (some (.int (qI r0))) M) args s 0 0 (q_A syM ad)) M 2 [(0, .ref (ad 0)), (1, .int (qI x1)), (2, .int (qI ux2))] []) (h : f_X10_isSo_B2 x1 M x2 g2 = some r0) : WM syM p l e rm_X10_isSo s m args below meth c 3 D ad cA (MQ below (q_Post syM D ad cA (some (.int (qI r0))) M) args s 0 0 (q_A syM ad)) M 2 [(0, .ref (ad 0)), (1, .int (qI x1)), (2, .int (qI x2))] [] := by
  unfold f_X10_isSo_B2 at h
  refine r_iln C dX10_isSo_2 (k := 2) rfl ?_
  refine r_aln C dX10_isSo_3 (k := 0) rfl ?_
  obtain ⟨r1, hy, h⟩ := q_calp_some h
  refine r_cvi C (st := [.int (qI x2)]) (c_X10_knownMany C.2.2.1 M r1 hy) tm_RX10_481 mw_X10_knownMany ⟨rfl, rfl⟩ ⟨Nat.le_of_ble_eq_true rfl, Nat.le_of_ble_eq_true rfl⟩ km_0 clX10 rfl rfl (Nat.le_of_ble_eq_true rfl) dX10_isSo_4 ?_
  refine r_cge C (tgt := 82) dX10_isSo_7 (by decide) h (fun h => ?_) (fun h => ?_)
  · refine r_ic C dX10_isSo_82 ?_
    exact r_zretp C (by decide) hr hlk dX10_isSo_83 h
  · refine r_aln C dX10_isSo_10 (k := 0) rfl ?_
    refine r_gs C km_0 clX10 (f := 64) (by decide) rfl (t := 96) rfl tf_RX10_136 dX10_isSo_11 ?_
    refine r_iln C dX10_isSo_14 (k := 2) rfl ?_
    refine r_zald C km_96 dX10_isSo_15 h (fun v2 h => ?_)
    refine r_zne C (tgt := 76) dX10_isSo_16 (by decide) h (fun h => ?_) (fun h => ?_)
    · refine r_inc C (L1 := [(2, .int (qI (x2 + 1))), (0, .ref (ad 0)), (1, .int (qI x1))]) dX10_isSo_76 (k := 2) rfl (by decide) rfl ?_
      refine r_goto C (tgt := 2) dX10_isSo_79 (by decide) ?_
      refine r_drop [1, 2, 0] rfl ?_
      exact ih2 (x2 + 1)  h
    · refine r_aln C dX10_isSo_19 (k := 0) rfl ?_
      refine r_gs C km_0 clX10 (f := 63) (by decide) rfl (t := 95) rfl tf_RX10_133 dX10_isSo_20 ?_
      refine r_iln C dX10_isSo_23 (k := 2) rfl ?_
      refine r_iald C km_95 dX10_isSo_24 h (fun v3 h => ?_)
      refine r_ic C dX10_isSo_25 ?_
      refine r_cne C (tgt := 76) dX10_isSo_26 (by decide) h (fun h => ?_) (fun h => ?_)
      · refine r_inc C (L1 := [(2, .int (qI (x2 + 1))), (0, .ref (ad 0)), (1, .int (qI x1))]) dX10_isSo_76 (k := 2) rfl (by decide) rfl ?_
        refine r_goto C (tgt := 2) dX10_isSo_79 (by decide) ?_
        refine r_drop [1, 2, 0] rfl ?_
        exact ih2 (x2 + 1)  h
      · refine r_aln C dX10_isSo_29 (k := 0) rfl ?_
        refine r_gs C km_0 clX10 (f := 60) (by decide) rfl (t := 92) rfl tf_RX10_123 dX10_isSo_30 ?_
        refine r_iln C dX10_isSo_33 (k := 2) rfl ?_
        refine r_iald C km_92 dX10_isSo_34 h (fun v4 h => ?_)
        refine r_iln C dX10_isSo_35 (k := 1) rfl ?_
        refine r_ceq C (tgt := 42) dX10_isSo_36 (by decide) h (fun h => ?_) (fun h => ?_)
        · refine r_aln C dX10_isSo_42 (k := 0) rfl ?_
          refine r_gs C km_0 clX10 (f := 39) (by decide) rfl (t := 71) rfl tf_RX10_84 dX10_isSo_43 ?_
          refine r_bi C dX10_isSo_46 (by decide) ?_
          refine r_aln C dX10_isSo_48 (k := 0) rfl ?_
          refine r_gs C km_0 clX10 (f := 61) (by decide) rfl (t := 93) rfl tf_RX10_126 dX10_isSo_49 ?_
          refine r_iln C dX10_isSo_52 (k := 2) rfl ?_
          refine r_iald C km_93 dX10_isSo_53 h (fun v5 h => ?_)
          refine r_iadd C dX10_isSo_54 ?_
          refine r_iald C km_71 dX10_isSo_55 h (fun v6 h => ?_)
          refine r_ic C dX10_isSo_56 ?_
          refine r_cne C (tgt := 64) dX10_isSo_57 (by decide) h (fun h => ?_) (fun h => ?_)
          · refine r_ic C dX10_isSo_64 ?_
            exact w_X10_isSo_J65 C hr hlk g2 x1 x2 0 M ih2 h
          · refine r_ic C dX10_isSo_60 ?_
            refine r_goto C (tgt := 65) dX10_isSo_61 (by decide) ?_
            exact w_X10_isSo_J65 C hr hlk g2 x1 x2 1 M ih2 h
        · refine r_goto C (tgt := 76) dX10_isSo_39 (by decide) ?_
          refine r_inc C (L1 := [(2, .int (qI (x2 + 1))), (0, .ref (ad 0)), (1, .int (qI x1))]) dX10_isSo_76 (k := 2) rfl (by decide) rfl ?_
          refine r_goto C (tgt := 2) dX10_isSo_79 (by decide) ?_
          refine r_drop [1, 2, 0] rfl ?_
          exact ih2 (x2 + 1)  h
theorem w_X10_isSo_L2 (C : Cx syM p m c cX10_isSo 3 s args RX10 D ad cA) (hr : meth.sig.returnType = (some .boolean)) (hlk : meth.locks = false)  (x1 : Int) (M : Mem)  (n : Nat) (x2 : Int) (h : f_X10_isSo_L2 x1 M n x2 = some r0) : WM syM p l e rm_X10_isSo s m args below meth c 3 D ad cA (MQ below (q_Post syM D ad cA (some (.int (qI r0))) M) args s 0 0 (q_A syM ad)) M 2 [(0, .ref (ad 0)), (1, .int (qI x1)), (2, .int (qI x2))] [] :=
  qlp1_r (Wp := fun ux2 => WM syM p l e rm_X10_isSo s m args below meth c 3 D ad cA (MQ below (q_Post syM D ad cA (some (.int (qI r0))) M) args s 0 0 (q_A syM ad)) M 2 [(0, .ref (ad 0)), (1, .int (qI x1)), (2, .int (qI ux2))] []) (fun ux2 g2 ih2 h => w_X10_isSo_B2 C hr hlk x1 ux2 M g2  ih2 h) n x2 h
def f_X10_isSo (a0 : Int) (M : Mem) : Option Int :=
  f_X10_isSo_L2 a0 M q_N 0
theorem c_X10_isSo {l : Launch} {D : va_G} {ad : Nat → Nat} {cA : Nat → ClassId} (hi : q_inj syM ad) (a0 : Int) (M : Mem) (r0 : Int) (h : f_X10_isSo a0 M = some r0) : q_Met l syM D ad cA yX10_isSo cX10_isSo 3 (some .boolean) rm_X10_isSo [.ref (ad 0), .int (qI a0)] M (some (.int (qI r0))) M := by
  refine q_met (L0 := [(0, .ref (ad 0)), (1, .int (qI a0))]) hi okM (by decide) (Nat.le_of_ble_eq_true rfl) rfl ?_
  intro p e s m args below meth c C hr hlk
  unfold f_X10_isSo at h
  refine r_ic C dX10_isSo_0 ?_
  refine r_isn C (L1 := [(2, .int (qI 0)), (0, .ref (ad 0)), (1, .int (qI a0))]) dX10_isSo_1 (by decide) rfl ?_
  refine r_drop [1, 2, 0] rfl ?_
  exact w_X10_isSo_L2 C hr hlk a0 M  q_N 0 h
abbrev rm_X10_fitsEvery : Room := { frames := 6, cells := 0, slots := 0, locals := 145 }
theorem mw_X10_fitsEvery : q_mw RX10 yX10_fitsEvery cX10_fitsEvery 3 (some .boolean) 1 := ⟨⟨ti_X10_fitsEvery, tl_X10_fitsEvery, tn_RX10, td_X10_fitsEvery⟩, by decide +kernel⟩
def f_X10_fitsEvery_B7 (x1 : Int) (x2 : Int) (M : Mem) (g7 : Int → Mem → Res) : Res :=
  if w32 x1 < w32 x2 then (some (1, M))
  else (q_call (f_X10_passes 1 0 M) fun r1 M2 =>
  q_calp (f_X10_isSo x2 M2) fun r3 =>
  if ¬ w32 r3 = 0 then (g7 (x2 + 1) M2)
  else (some (0, M2)))
def f_X10_fitsEvery_L7 (x1 : Int) (n : Nat) (x2 : Int) (M : Mem) : Res := qlm1 (fun x2 M g7 => f_X10_fitsEvery_B7 x1 x2 M g7) n x2 M
theorem w_X10_fitsEvery_B7 (C : Cx syM p m c cX10_fitsEvery 3 s args RX10 D ad cA) (hr : meth.sig.returnType = (some .boolean)) (hlk : meth.locks = false)  (x1 : Int) (x2 : Int) (M : Mem) (g7 : Int → Mem → Res)  (ih7 : ∀ (ux2 : Int) (M : Mem), g7 ux2 M = some (r0, M0) → WM syM p l e rm_X10_fitsEvery s m args below meth c 3 D ad cA (MQ below (q_Post syM D ad cA (some (.int (qI r0))) M0) args s 0 0 (q_A syM ad)) M 7 [(0, .ref (ad 0)), (1, .int (qI x1)), (2, .int (qI ux2))] []) (h : f_X10_fitsEvery_B7 x1 x2 M g7 = some (r0, M0)) : WM syM p l e rm_X10_fitsEvery s m args below meth c 3 D ad cA (MQ below (q_Post syM D ad cA (some (.int (qI r0))) M0) args s 0 0 (q_A syM ad)) M 7 [(0, .ref (ad 0)), (1, .int (qI x1)), (2, .int (qI x2))] [] := by
  unfold f_X10_fitsEvery_B7 at h
  refine r_iln C dX10_fitsEvery_7 (k := 2) rfl ?_
  refine r_iln C dX10_fitsEvery_8 (k := 1) rfl ?_
  refine r_cgt C (tgt := 34) dX10_fitsEvery_9 (by decide) h (fun h => ?_) (fun h => ?_)
  · refine r_ic C dX10_fitsEvery_34 ?_
    exact r_zret C (by decide) hr hlk dX10_fitsEvery_35 h
  · refine r_aln C dX10_fitsEvery_12 (k := 0) rfl ?_
    refine r_ic C dX10_fitsEvery_13 ?_
    refine r_ic C dX10_fitsEvery_14 ?_
    obtain ⟨r1, M2, hy, h⟩ := q_call_some h
    refine r_cvv C (st := []) (c_X10_passes C.2.2.1 1 0 M r1 M2 hy) tm_RX10_401 mw_X10_passes ⟨rfl, rfl⟩ ⟨Nat.le_of_ble_eq_true rfl, Nat.le_of_ble_eq_true rfl⟩ km_0 clX10 rfl rfl (Nat.le_of_ble_eq_true rfl) dX10_fitsEvery_15 ?_
    refine r_aln C dX10_fitsEvery_18 (k := 0) rfl ?_
    refine r_iln C dX10_fitsEvery_19 (k := 2) rfl ?_
    obtain ⟨r3, hy, h⟩ := q_calp_some h
    refine r_cvi C (st := []) (c_X10_isSo C.2.2.1 x2 M2 r3 hy) tm_RX10_484 mw_X10_isSo ⟨rfl, rfl⟩ ⟨Nat.le_of_ble_eq_true rfl, Nat.le_of_ble_eq_true rfl⟩ km_0 clX10 rfl rfl (Nat.le_of_ble_eq_true rfl) dX10_fitsEvery_20 ?_
    refine r_zne C (tgt := 28) dX10_fitsEvery_23 (by decide) h (fun h => ?_) (fun h => ?_)
    · refine r_inc C (L1 := [(2, .int (qI (x2 + 1))), (0, .ref (ad 0)), (1, .int (qI x1))]) dX10_fitsEvery_28 (k := 2) rfl (by decide) rfl ?_
      refine r_goto C (tgt := 7) dX10_fitsEvery_31 (by decide) ?_
      refine r_drop [1, 2, 0] rfl ?_
      exact ih7 (x2 + 1) M2 h
    · refine r_ic C dX10_fitsEvery_26 ?_
      exact r_zret C (by decide) hr hlk dX10_fitsEvery_27 h
theorem w_X10_fitsEvery_L7 (C : Cx syM p m c cX10_fitsEvery 3 s args RX10 D ad cA) (hr : meth.sig.returnType = (some .boolean)) (hlk : meth.locks = false)  (x1 : Int)  (n : Nat) (x2 : Int) (M : Mem) (h : f_X10_fitsEvery_L7 x1 n x2 M = some (r0, M0)) : WM syM p l e rm_X10_fitsEvery s m args below meth c 3 D ad cA (MQ below (q_Post syM D ad cA (some (.int (qI r0))) M0) args s 0 0 (q_A syM ad)) M 7 [(0, .ref (ad 0)), (1, .int (qI x1)), (2, .int (qI x2))] [] :=
  qlm1_r (Wp := fun ux2 M => WM syM p l e rm_X10_fitsEvery s m args below meth c 3 D ad cA (MQ below (q_Post syM D ad cA (some (.int (qI r0))) M0) args s 0 0 (q_A syM ad)) M 7 [(0, .ref (ad 0)), (1, .int (qI x1)), (2, .int (qI ux2))] []) (fun ux2 M g7 ih7 h => w_X10_fitsEvery_B7 C hr hlk x1 ux2 M g7  ih7 h) n x2 M h
def f_X10_fitsEvery (a0 : Int) (M : Mem) : Res :=
  q_call (f_X10_starts 1 M) fun r1 M2 =>
  f_X10_fitsEvery_L7 a0 q_N 1 M2
theorem c_X10_fitsEvery {l : Launch} {D : va_G} {ad : Nat → Nat} {cA : Nat → ClassId} (hi : q_inj syM ad) (a0 : Int) (M : Mem) (r0 : Int) (M0 : Mem) (h : f_X10_fitsEvery a0 M = some (r0, M0)) : q_Met l syM D ad cA yX10_fitsEvery cX10_fitsEvery 3 (some .boolean) rm_X10_fitsEvery [.ref (ad 0), .int (qI a0)] M (some (.int (qI r0))) M0 := by
  refine q_met (L0 := [(0, .ref (ad 0)), (1, .int (qI a0))]) hi okM (by decide) (Nat.le_of_ble_eq_true rfl) rfl ?_
  intro p e s m args below meth c C hr hlk
  unfold f_X10_fitsEvery at h
  refine r_aln C dX10_fitsEvery_0 (k := 0) rfl ?_
  refine r_ic C dX10_fitsEvery_1 ?_
  obtain ⟨r1, M2, hy, h⟩ := q_call_some h
  refine r_cvv C (st := []) (c_X10_starts C.2.2.1 1 M r1 M2 hy) tm_RX10_325 mw_X10_starts ⟨rfl, rfl⟩ ⟨Nat.le_of_ble_eq_true rfl, Nat.le_of_ble_eq_true rfl⟩ km_0 clX10 rfl rfl (Nat.le_of_ble_eq_true rfl) dX10_fitsEvery_2 ?_
  refine r_ic C dX10_fitsEvery_5 ?_
  refine r_isn C (L1 := [(2, .int (qI 1)), (0, .ref (ad 0)), (1, .int (qI a0))]) dX10_fitsEvery_6 (by decide) rfl ?_
  refine r_drop [1, 2, 0] rfl ?_
  exact w_X10_fitsEvery_L7 C hr hlk a0  q_N 1 M2 h
abbrev rm_X10_everiesOf : Room := { frames := 7, cells := 0, slots := 0, locals := 167 }
theorem mw_X10_everiesOf : q_mw RX10 yX10_everiesOf cX10_everiesOf 5 (some .int) 1 := ⟨⟨ti_X10_everiesOf, tl_X10_everiesOf, tn_RX10, td_X10_everiesOf⟩, by decide +kernel⟩
def f_X10_everiesOf_B129 (x2 : Int) (x3 : Int) (x4 : Int) (M : Mem) (g129 : Int → Int → Mem → Res) : Res :=
  if w32 30 ≤ w32 x4 then (q_pf M 0 48 (-1) fun M1 =>
  some (x3, M1))
  else (q_pf M 0 49 (x4 + 1) fun M2 =>
  q_call (f_X10_fitsEvery x2 M2) fun r3 M4 =>
  if w32 r3 = 0 then (g129 (q_or x3 0) (x4 + 1) M4)
  else (g129 (q_or x3 (q_shl 1 x4)) (x4 + 1) M4))
def f_X10_everiesOf_L129 (x2 : Int) (n : Nat) (x3 : Int) (x4 : Int) (M : Mem) : Res := qlm2 (fun x3 x4 M g129 => f_X10_everiesOf_B129 x2 x3 x4 M g129) n x3 x4 M
theorem w_X10_everiesOf_B129 (C : Cx syM p m c cX10_everiesOf 5 s args RX10 D ad cA) (hr : meth.sig.returnType = (some .int)) (hlk : meth.locks = false)  (x2 : Int) (x3 : Int) (x4 : Int) (M : Mem) (g129 : Int → Int → Mem → Res)  (ih129 : ∀ (ux3 ux4 : Int) (M : Mem), g129 ux3 ux4 M = some (r0, M0) → WM syM p l e rm_X10_everiesOf s m args below meth c 5 D ad cA (MQ below (q_Post syM D ad cA (some (.int (qI r0))) M0) args s 0 0 (q_A syM ad)) M 129 [(0, .ref (ad 0)), (2, .int (qI x2)), (3, .int (qI ux3)), (4, .int (qI ux4))] []) (h : f_X10_everiesOf_B129 x2 x3 x4 M g129 = some (r0, M0)) : WM syM p l e rm_X10_everiesOf s m args below meth c 5 D ad cA (MQ below (q_Post syM D ad cA (some (.int (qI r0))) M0) args s 0 0 (q_A syM ad)) M 129 [(0, .ref (ad 0)), (2, .int (qI x2)), (3, .int (qI x3)), (4, .int (qI x4))] [] := by
  unfold f_X10_everiesOf_B129 at h
  refine r_il C dX10_everiesOf_129 (k := 3) rfl ?_
  refine r_bi C dX10_everiesOf_131 (by decide) ?_
  refine r_cge C (tgt := 169) dX10_everiesOf_133 (by decide) h (fun h => ?_) (fun h => ?_)
  · refine r_aln C dX10_everiesOf_169 (k := 0) rfl ?_
    refine r_ic C dX10_everiesOf_170 ?_
    refine r_pf C km_0 clX10 (f := 48) (by decide) rfl q_dI rfl rfl tf_RX10_102 dX10_everiesOf_171 h (fun M1 h => ?_)
    refine r_iln C dX10_everiesOf_174 (k := 2) rfl ?_
    exact r_iret C hr hlk dX10_everiesOf_175 h
  · refine r_aln C dX10_everiesOf_136 (k := 0) rfl ?_
    refine r_il C dX10_everiesOf_137 (k := 3) rfl ?_
    refine r_ic C dX10_everiesOf_139 ?_
    refine r_iadd C dX10_everiesOf_140 ?_
    refine r_pf C km_0 clX10 (f := 49) (by decide) rfl q_dI rfl rfl tf_RX10_331 dX10_everiesOf_141 h (fun M2 h => ?_)
    refine r_iln C dX10_everiesOf_144 (k := 2) rfl ?_
    refine r_aln C dX10_everiesOf_145 (k := 0) rfl ?_
    refine r_iln C dX10_everiesOf_146 (k := 1) rfl ?_
    obtain ⟨r3, M4, hy, h⟩ := q_call_some h
    refine r_cvi C (st := [.int (qI x3)]) (c_X10_fitsEvery C.2.2.1 x2 M2 r3 M4 hy) tm_RX10_487 mw_X10_fitsEvery ⟨rfl, rfl⟩ ⟨Nat.le_of_ble_eq_true rfl, Nat.le_of_ble_eq_true rfl⟩ km_0 clX10 rfl rfl (Nat.le_of_ble_eq_true rfl) dX10_everiesOf_147 ?_
    refine r_zeq C (tgt := 160) dX10_everiesOf_150 (by decide) h (fun h => ?_) (fun h => ?_)
    · refine r_ic C dX10_everiesOf_160 ?_
      refine r_ior C dX10_everiesOf_161 ?_
      refine r_isn C (L1 := [(3, .int (qI (q_or x3 0))), (0, .ref (ad 0)), (2, .int (qI x2)), (4, .int (qI x4))]) dX10_everiesOf_162 (by decide) rfl ?_
      refine r_inc C (L1 := [(4, .int (qI (x4 + 1))), (3, .int (qI (q_or x3 0))), (0, .ref (ad 0)), (2, .int (qI x2))]) dX10_everiesOf_163 (k := 3) rfl (by decide) rfl ?_
      refine r_goto C (tgt := 129) dX10_everiesOf_166 (by decide) ?_
      refine r_drop [2, 3, 1, 0] rfl ?_
      exact ih129 (q_or x3 0) (x4 + 1) M4 h
    · refine r_ic C dX10_everiesOf_153 ?_
      refine r_il C dX10_everiesOf_154 (k := 3) rfl ?_
      refine r_ishl C dX10_everiesOf_156 ?_
      refine r_goto C (tgt := 161) dX10_everiesOf_157 (by decide) ?_
      refine r_ior C dX10_everiesOf_161 ?_
      refine r_isn C (L1 := [(3, .int (qI (q_or x3 (q_shl 1 x4)))), (0, .ref (ad 0)), (2, .int (qI x2)), (4, .int (qI x4))]) dX10_everiesOf_162 (by decide) rfl ?_
      refine r_inc C (L1 := [(4, .int (qI (x4 + 1))), (3, .int (qI (q_or x3 (q_shl 1 x4)))), (0, .ref (ad 0)), (2, .int (qI x2))]) dX10_everiesOf_163 (k := 3) rfl (by decide) rfl ?_
      refine r_goto C (tgt := 129) dX10_everiesOf_166 (by decide) ?_
      refine r_drop [2, 3, 1, 0] rfl ?_
      exact ih129 (q_or x3 (q_shl 1 x4)) (x4 + 1) M4 h
theorem w_X10_everiesOf_L129 (C : Cx syM p m c cX10_everiesOf 5 s args RX10 D ad cA) (hr : meth.sig.returnType = (some .int)) (hlk : meth.locks = false)  (x2 : Int)  (n : Nat) (x3 : Int) (x4 : Int) (M : Mem) (h : f_X10_everiesOf_L129 x2 n x3 x4 M = some (r0, M0)) : WM syM p l e rm_X10_everiesOf s m args below meth c 5 D ad cA (MQ below (q_Post syM D ad cA (some (.int (qI r0))) M0) args s 0 0 (q_A syM ad)) M 129 [(0, .ref (ad 0)), (2, .int (qI x2)), (3, .int (qI x3)), (4, .int (qI x4))] [] :=
  qlm2_r (Wp := fun ux3 ux4 M => WM syM p l e rm_X10_everiesOf s m args below meth c 5 D ad cA (MQ below (q_Post syM D ad cA (some (.int (qI r0))) M0) args s 0 0 (q_A syM ad)) M 129 [(0, .ref (ad 0)), (2, .int (qI x2)), (3, .int (qI ux3)), (4, .int (qI ux4))] []) (fun ux3 ux4 M g129 ih129 h => w_X10_everiesOf_B129 C hr hlk x2 ux3 ux4 M g129  ih129 h) n x3 x4 M h
def f_X10_everiesOf_B75 (x1 : Int) (M : Mem) (x2 : Int) (x3 : Int) (g75 : Int → Int → Res) : Res :=
  q_calp (f_X10_knownMany  M) fun r1 =>
  if w32 r1 ≤ w32 x3 then (q_pf M 0 48 x1 fun M2 =>
  f_X10_everiesOf_L129 x2 q_N 0 0 M2)
  else (q_al M 96 24 x3 fun v3 =>
  if ¬ w32 v3 = 0 then (g75 x2 (x3 + 1))
  else (q_al M 95 24 x3 fun v4 =>
  if ¬ w32 v4 = w32 (-1) then (g75 x2 (x3 + 1))
  else (q_al M 92 24 x3 fun v5 =>
  g75 (q_max x2 v5) (x3 + 1))))
def f_X10_everiesOf_L75 (x1 : Int) (M : Mem) (n : Nat) (x2 : Int) (x3 : Int) : Res := qlp2 (fun x2 x3 g75 => f_X10_everiesOf_B75 x1 M x2 x3 g75) n x2 x3
theorem w_X10_everiesOf_B75 (C : Cx syM p m c cX10_everiesOf 5 s args RX10 D ad cA) (hr : meth.sig.returnType = (some .int)) (hlk : meth.locks = false)  (x1 : Int) (x2 : Int) (x3 : Int) (M : Mem) (g75 : Int → Int → Res)  (ih75 : ∀ (ux2 ux3 : Int) , g75 ux2 ux3  = some (r0, M0) → WM syM p l e rm_X10_everiesOf s m args below meth c 5 D ad cA (MQ below (q_Post syM D ad cA (some (.int (qI r0))) M0) args s 0 0 (q_A syM ad)) M 75 [(0, .ref (ad 0)), (1, .int (qI x1)), (2, .int (qI ux2)), (3, .int (qI ux3))] []) (h : f_X10_everiesOf_B75 x1 M x2 x3 g75 = some (r0, M0)) : WM syM p l e rm_X10_everiesOf s m args below meth c 5 D ad cA (MQ below (q_Post syM D ad cA (some (.int (qI r0))) M0) args s 0 0 (q_A syM ad)) M 75 [(0, .ref (ad 0)), (1, .int (qI x1)), (2, .int (qI x2)), (3, .int (qI x3))] [] := by
  unfold f_X10_everiesOf_B75 at h
  refine r_iln C dX10_everiesOf_75 (k := 3) rfl ?_
  refine r_aln C dX10_everiesOf_76 (k := 0) rfl ?_
  obtain ⟨r1, hy, h⟩ := q_calp_some h
  refine r_cvi C (st := [.int (qI x3)]) (c_X10_knownMany C.2.2.1 M r1 hy) tm_RX10_481 mw_X10_knownMany ⟨rfl, rfl⟩ ⟨Nat.le_of_ble_eq_true rfl, Nat.le_of_ble_eq_true rfl⟩ km_0 clX10 rfl rfl (Nat.le_of_ble_eq_true rfl) dX10_everiesOf_77 ?_
  refine r_cge C (tgt := 119) dX10_everiesOf_80 (by decide) h (fun h => ?_) (fun h => ?_)
  · refine r_ic C dX10_everiesOf_119 ?_
    refine r_isn C (L1 := [(3, .int (qI 0)), (0, .ref (ad 0)), (1, .int (qI x1)), (2, .int (qI x2))]) dX10_everiesOf_120 (by decide) rfl ?_
    refine r_aln C dX10_everiesOf_121 (k := 1) rfl ?_
    refine r_iln C dX10_everiesOf_122 (k := 2) rfl ?_
    refine r_pf C km_0 clX10 (f := 48) (by decide) rfl q_dI rfl rfl tf_RX10_102 dX10_everiesOf_123 h (fun M2 h => ?_)
    refine r_ic C dX10_everiesOf_126 ?_
    refine r_is C (L1 := [(4, .int (qI 0)), (3, .int (qI 0)), (0, .ref (ad 0)), (1, .int (qI x1)), (2, .int (qI x2))]) dX10_everiesOf_127 (by decide) rfl ?_
    refine r_drop [2, 4, 1, 0] rfl ?_
    exact w_X10_everiesOf_L129 C hr hlk x2  q_N 0 0 M2 h
  · refine r_aln C dX10_everiesOf_83 (k := 0) rfl ?_
    refine r_gs C km_0 clX10 (f := 64) (by decide) rfl (t := 96) rfl tf_RX10_136 dX10_everiesOf_84 ?_
    refine r_iln C dX10_everiesOf_87 (k := 3) rfl ?_
    refine r_zald C km_96 dX10_everiesOf_88 h (fun v3 h => ?_)
    refine r_zne C (tgt := 113) dX10_everiesOf_89 (by decide) h (fun h => ?_) (fun h => ?_)
    · refine r_inc C (L1 := [(3, .int (qI (x3 + 1))), (0, .ref (ad 0)), (1, .int (qI x1)), (2, .int (qI x2))]) dX10_everiesOf_113 (k := 3) rfl (by decide) rfl ?_
      refine r_goto C (tgt := 75) dX10_everiesOf_116 (by decide) ?_
      refine r_drop [1, 2, 3, 0] rfl ?_
      exact ih75 x2 (x3 + 1)  h
    · refine r_aln C dX10_everiesOf_92 (k := 0) rfl ?_
      refine r_gs C km_0 clX10 (f := 63) (by decide) rfl (t := 95) rfl tf_RX10_133 dX10_everiesOf_93 ?_
      refine r_iln C dX10_everiesOf_96 (k := 3) rfl ?_
      refine r_iald C km_95 dX10_everiesOf_97 h (fun v4 h => ?_)
      refine r_ic C dX10_everiesOf_98 ?_
      refine r_cne C (tgt := 113) dX10_everiesOf_99 (by decide) h (fun h => ?_) (fun h => ?_)
      · refine r_inc C (L1 := [(3, .int (qI (x3 + 1))), (0, .ref (ad 0)), (1, .int (qI x1)), (2, .int (qI x2))]) dX10_everiesOf_113 (k := 3) rfl (by decide) rfl ?_
        refine r_goto C (tgt := 75) dX10_everiesOf_116 (by decide) ?_
        refine r_drop [1, 2, 3, 0] rfl ?_
        exact ih75 x2 (x3 + 1)  h
      · refine r_iln C dX10_everiesOf_102 (k := 2) rfl ?_
        refine r_aln C dX10_everiesOf_103 (k := 0) rfl ?_
        refine r_gs C km_0 clX10 (f := 60) (by decide) rfl (t := 92) rfl tf_RX10_123 dX10_everiesOf_104 ?_
        refine r_iln C dX10_everiesOf_107 (k := 3) rfl ?_
        refine r_iald C km_92 dX10_everiesOf_108 h (fun v5 h => ?_)
        refine r_q_max C (st := []) tm_RX10_376 ⟨Nat.le_of_ble_eq_true rfl, Nat.le_of_ble_eq_true rfl⟩ dX10_everiesOf_109 ?_
        refine r_isn C (L1 := [(2, .int (qI (q_max x2 v5))), (0, .ref (ad 0)), (1, .int (qI x1)), (3, .int (qI x3))]) dX10_everiesOf_112 (by decide) rfl ?_
        refine r_inc C (L1 := [(3, .int (qI (x3 + 1))), (2, .int (qI (q_max x2 v5))), (0, .ref (ad 0)), (1, .int (qI x1))]) dX10_everiesOf_113 (k := 3) rfl (by decide) rfl ?_
        refine r_goto C (tgt := 75) dX10_everiesOf_116 (by decide) ?_
        refine r_drop [2, 3, 1, 0] rfl ?_
        exact ih75 (q_max x2 v5) (x3 + 1)  h
theorem w_X10_everiesOf_L75 (C : Cx syM p m c cX10_everiesOf 5 s args RX10 D ad cA) (hr : meth.sig.returnType = (some .int)) (hlk : meth.locks = false)  (x1 : Int) (M : Mem)  (n : Nat) (x2 : Int) (x3 : Int) (h : f_X10_everiesOf_L75 x1 M n x2 x3 = some (r0, M0)) : WM syM p l e rm_X10_everiesOf s m args below meth c 5 D ad cA (MQ below (q_Post syM D ad cA (some (.int (qI r0))) M0) args s 0 0 (q_A syM ad)) M 75 [(0, .ref (ad 0)), (1, .int (qI x1)), (2, .int (qI x2)), (3, .int (qI x3))] [] :=
  qlp2_r (Wp := fun ux2 ux3 => WM syM p l e rm_X10_everiesOf s m args below meth c 5 D ad cA (MQ below (q_Post syM D ad cA (some (.int (qI r0))) M0) args s 0 0 (q_A syM ad)) M 75 [(0, .ref (ad 0)), (1, .int (qI x1)), (2, .int (qI ux2)), (3, .int (qI ux3))] []) (fun ux2 ux3 g75 ih75 h => w_X10_everiesOf_B75 C hr hlk x1 ux2 ux3 M g75  ih75 h) n x2 x3 h
def f_X10_everiesOf_B32 (x1 : Int) (x2 : Int) (x3 : Int) (M : Mem) (g32 : Int → Mem → Res) : Res :=
  if w32 x3 < 0 then (f_X10_everiesOf_L75 x1 M q_N x2 0)
  else (q_al M 96 24 x3 fun v1 =>
  if ¬ w32 v1 = 0 then (g32 (x3 + (-1)) M)
  else (q_al M 95 24 x3 fun v2 =>
  if w32 v2 = w32 (-1) then (g32 (x3 + (-1)) M)
  else (q_al M 95 24 x3 fun v3 =>
  if 1 = 0 ∨ 1 = 1 then (q_as M 96 24 v3 1 fun M4 =>
  g32 (x3 + (-1)) M4) else none)))
def f_X10_everiesOf_L32 (x1 : Int) (x2 : Int) (n : Nat) (x3 : Int) (M : Mem) : Res := qlm1 (fun x3 M g32 => f_X10_everiesOf_B32 x1 x2 x3 M g32) n x3 M
theorem w_X10_everiesOf_B32 (C : Cx syM p m c cX10_everiesOf 5 s args RX10 D ad cA) (hr : meth.sig.returnType = (some .int)) (hlk : meth.locks = false)  (x1 : Int) (x2 : Int) (x3 : Int) (M : Mem) (g32 : Int → Mem → Res)  (ih32 : ∀ (ux3 : Int) (M : Mem), g32 ux3 M = some (r0, M0) → WM syM p l e rm_X10_everiesOf s m args below meth c 5 D ad cA (MQ below (q_Post syM D ad cA (some (.int (qI r0))) M0) args s 0 0 (q_A syM ad)) M 32 [(0, .ref (ad 0)), (1, .int (qI x1)), (2, .int (qI x2)), (3, .int (qI ux3))] []) (h : f_X10_everiesOf_B32 x1 x2 x3 M g32 = some (r0, M0)) : WM syM p l e rm_X10_everiesOf s m args below meth c 5 D ad cA (MQ below (q_Post syM D ad cA (some (.int (qI r0))) M0) args s 0 0 (q_A syM ad)) M 32 [(0, .ref (ad 0)), (1, .int (qI x1)), (2, .int (qI x2)), (3, .int (qI x3))] [] := by
  unfold f_X10_everiesOf_B32 at h
  refine r_iln C dX10_everiesOf_32 (k := 3) rfl ?_
  refine r_zlt C (tgt := 73) dX10_everiesOf_33 (by decide) h (fun h => ?_) (fun h => ?_)
  · refine r_ic C dX10_everiesOf_73 ?_
    refine r_isn C (L1 := [(3, .int (qI 0)), (0, .ref (ad 0)), (1, .int (qI x1)), (2, .int (qI x2))]) dX10_everiesOf_74 (by decide) rfl ?_
    refine r_drop [1, 2, 3, 0] rfl ?_
    exact w_X10_everiesOf_L75 C hr hlk x1 M  q_N x2 0 h
  · refine r_aln C dX10_everiesOf_36 (k := 0) rfl ?_
    refine r_gs C km_0 clX10 (f := 64) (by decide) rfl (t := 96) rfl tf_RX10_136 dX10_everiesOf_37 ?_
    refine r_iln C dX10_everiesOf_40 (k := 3) rfl ?_
    refine r_zald C km_96 dX10_everiesOf_41 h (fun v1 h => ?_)
    refine r_zne C (tgt := 67) dX10_everiesOf_42 (by decide) h (fun h => ?_) (fun h => ?_)
    · refine r_inc C (L1 := [(3, .int (qI (x3 + (-1)))), (0, .ref (ad 0)), (1, .int (qI x1)), (2, .int (qI x2))]) dX10_everiesOf_67 (k := 3) rfl (by decide) rfl ?_
      refine r_goto C (tgt := 32) dX10_everiesOf_70 (by decide) ?_
      refine r_drop [1, 2, 3, 0] rfl ?_
      exact ih32 (x3 + (-1)) M h
    · refine r_aln C dX10_everiesOf_45 (k := 0) rfl ?_
      refine r_gs C km_0 clX10 (f := 63) (by decide) rfl (t := 95) rfl tf_RX10_133 dX10_everiesOf_46 ?_
      refine r_iln C dX10_everiesOf_49 (k := 3) rfl ?_
      refine r_iald C km_95 dX10_everiesOf_50 h (fun v2 h => ?_)
      refine r_ic C dX10_everiesOf_51 ?_
      refine r_ceq C (tgt := 67) dX10_everiesOf_52 (by decide) h (fun h => ?_) (fun h => ?_)
      · refine r_inc C (L1 := [(3, .int (qI (x3 + (-1)))), (0, .ref (ad 0)), (1, .int (qI x1)), (2, .int (qI x2))]) dX10_everiesOf_67 (k := 3) rfl (by decide) rfl ?_
        refine r_goto C (tgt := 32) dX10_everiesOf_70 (by decide) ?_
        refine r_drop [1, 2, 3, 0] rfl ?_
        exact ih32 (x3 + (-1)) M h
      · refine r_aln C dX10_everiesOf_55 (k := 0) rfl ?_
        refine r_gs C km_0 clX10 (f := 64) (by decide) rfl (t := 96) rfl tf_RX10_136 dX10_everiesOf_56 ?_
        refine r_aln C dX10_everiesOf_59 (k := 0) rfl ?_
        refine r_gs C km_0 clX10 (f := 63) (by decide) rfl (t := 95) rfl tf_RX10_133 dX10_everiesOf_60 ?_
        refine r_iln C dX10_everiesOf_63 (k := 3) rfl ?_
        refine r_iald C km_95 dX10_everiesOf_64 h (fun v3 h => ?_)
        refine r_ic C dX10_everiesOf_65 ?_
        refine r_zast C km_96 dX10_everiesOf_66 h (fun M4 h => ?_)
        refine r_inc C (L1 := [(3, .int (qI (x3 + (-1)))), (0, .ref (ad 0)), (1, .int (qI x1)), (2, .int (qI x2))]) dX10_everiesOf_67 (k := 3) rfl (by decide) rfl ?_
        refine r_goto C (tgt := 32) dX10_everiesOf_70 (by decide) ?_
        refine r_drop [1, 2, 3, 0] rfl ?_
        exact ih32 (x3 + (-1)) M4 h
theorem w_X10_everiesOf_L32 (C : Cx syM p m c cX10_everiesOf 5 s args RX10 D ad cA) (hr : meth.sig.returnType = (some .int)) (hlk : meth.locks = false)  (x1 : Int) (x2 : Int)  (n : Nat) (x3 : Int) (M : Mem) (h : f_X10_everiesOf_L32 x1 x2 n x3 M = some (r0, M0)) : WM syM p l e rm_X10_everiesOf s m args below meth c 5 D ad cA (MQ below (q_Post syM D ad cA (some (.int (qI r0))) M0) args s 0 0 (q_A syM ad)) M 32 [(0, .ref (ad 0)), (1, .int (qI x1)), (2, .int (qI x2)), (3, .int (qI x3))] [] :=
  qlm1_r (Wp := fun ux3 M => WM syM p l e rm_X10_everiesOf s m args below meth c 5 D ad cA (MQ below (q_Post syM D ad cA (some (.int (qI r0))) M0) args s 0 0 (q_A syM ad)) M 32 [(0, .ref (ad 0)), (1, .int (qI x1)), (2, .int (qI x2)), (3, .int (qI ux3))] []) (fun ux3 M g32 ih32 h => w_X10_everiesOf_B32 C hr hlk x1 x2 ux3 M g32  ih32 h) n x3 M h
def f_X10_everiesOf_B4 (x1 : Int) (x2 : Int) (x3 : Int) (M : Mem) (g4 : Int → Mem → Res) : Res :=
  q_calp (f_X10_knownMany  M) fun r1 =>
  if w32 r1 ≤ w32 x3 then (q_calp (f_X10_knownMany  M) fun r2 =>
  f_X10_everiesOf_L32 x1 x2 q_N (r2 - 1) M)
  else (if 0 = 0 ∨ 0 = 1 then (q_as M 96 24 x3 0 fun M3 =>
  g4 (x3 + 1) M3) else none)
def f_X10_everiesOf_L4 (x1 : Int) (x2 : Int) (n : Nat) (x3 : Int) (M : Mem) : Res := qlm1 (fun x3 M g4 => f_X10_everiesOf_B4 x1 x2 x3 M g4) n x3 M
theorem w_X10_everiesOf_B4 (C : Cx syM p m c cX10_everiesOf 5 s args RX10 D ad cA) (hr : meth.sig.returnType = (some .int)) (hlk : meth.locks = false)  (x1 : Int) (x2 : Int) (x3 : Int) (M : Mem) (g4 : Int → Mem → Res)  (ih4 : ∀ (ux3 : Int) (M : Mem), g4 ux3 M = some (r0, M0) → WM syM p l e rm_X10_everiesOf s m args below meth c 5 D ad cA (MQ below (q_Post syM D ad cA (some (.int (qI r0))) M0) args s 0 0 (q_A syM ad)) M 4 [(0, .ref (ad 0)), (1, .int (qI x1)), (2, .int (qI x2)), (3, .int (qI ux3))] []) (h : f_X10_everiesOf_B4 x1 x2 x3 M g4 = some (r0, M0)) : WM syM p l e rm_X10_everiesOf s m args below meth c 5 D ad cA (MQ below (q_Post syM D ad cA (some (.int (qI r0))) M0) args s 0 0 (q_A syM ad)) M 4 [(0, .ref (ad 0)), (1, .int (qI x1)), (2, .int (qI x2)), (3, .int (qI x3))] [] := by
  unfold f_X10_everiesOf_B4 at h
  refine r_iln C dX10_everiesOf_4 (k := 3) rfl ?_
  refine r_aln C dX10_everiesOf_5 (k := 0) rfl ?_
  obtain ⟨r1, hy, h⟩ := q_calp_some h
  refine r_cvi C (st := [.int (qI x3)]) (c_X10_knownMany C.2.2.1 M r1 hy) tm_RX10_481 mw_X10_knownMany ⟨rfl, rfl⟩ ⟨Nat.le_of_ble_eq_true rfl, Nat.le_of_ble_eq_true rfl⟩ km_0 clX10 rfl rfl (Nat.le_of_ble_eq_true rfl) dX10_everiesOf_6 ?_
  refine r_cge C (tgt := 25) dX10_everiesOf_9 (by decide) h (fun h => ?_) (fun h => ?_)
  · refine r_aln C dX10_everiesOf_25 (k := 0) rfl ?_
    obtain ⟨r2, hy, h⟩ := q_calp_some h
    refine r_cvi C (st := []) (c_X10_knownMany C.2.2.1 M r2 hy) tm_RX10_481 mw_X10_knownMany ⟨rfl, rfl⟩ ⟨Nat.le_of_ble_eq_true rfl, Nat.le_of_ble_eq_true rfl⟩ km_0 clX10 rfl rfl (Nat.le_of_ble_eq_true rfl) dX10_everiesOf_26 ?_
    refine r_ic C dX10_everiesOf_29 ?_
    refine r_isub C dX10_everiesOf_30 ?_
    refine r_isn C (L1 := [(3, .int (qI (r2 - 1))), (0, .ref (ad 0)), (1, .int (qI x1)), (2, .int (qI x2))]) dX10_everiesOf_31 (by decide) rfl ?_
    refine r_drop [1, 2, 3, 0] rfl ?_
    exact w_X10_everiesOf_L32 C hr hlk x1 x2  q_N (r2 - 1) M h
  · refine r_aln C dX10_everiesOf_12 (k := 0) rfl ?_
    refine r_gs C km_0 clX10 (f := 64) (by decide) rfl (t := 96) rfl tf_RX10_136 dX10_everiesOf_13 ?_
    refine r_iln C dX10_everiesOf_16 (k := 3) rfl ?_
    refine r_ic C dX10_everiesOf_17 ?_
    refine r_zast C km_96 dX10_everiesOf_18 h (fun M3 h => ?_)
    refine r_inc C (L1 := [(3, .int (qI (x3 + 1))), (0, .ref (ad 0)), (1, .int (qI x1)), (2, .int (qI x2))]) dX10_everiesOf_19 (k := 3) rfl (by decide) rfl ?_
    refine r_goto C (tgt := 4) dX10_everiesOf_22 (by decide) ?_
    refine r_drop [1, 2, 3, 0] rfl ?_
    exact ih4 (x3 + 1) M3 h
theorem w_X10_everiesOf_L4 (C : Cx syM p m c cX10_everiesOf 5 s args RX10 D ad cA) (hr : meth.sig.returnType = (some .int)) (hlk : meth.locks = false)  (x1 : Int) (x2 : Int)  (n : Nat) (x3 : Int) (M : Mem) (h : f_X10_everiesOf_L4 x1 x2 n x3 M = some (r0, M0)) : WM syM p l e rm_X10_everiesOf s m args below meth c 5 D ad cA (MQ below (q_Post syM D ad cA (some (.int (qI r0))) M0) args s 0 0 (q_A syM ad)) M 4 [(0, .ref (ad 0)), (1, .int (qI x1)), (2, .int (qI x2)), (3, .int (qI x3))] [] :=
  qlm1_r (Wp := fun ux3 M => WM syM p l e rm_X10_everiesOf s m args below meth c 5 D ad cA (MQ below (q_Post syM D ad cA (some (.int (qI r0))) M0) args s 0 0 (q_A syM ad)) M 4 [(0, .ref (ad 0)), (1, .int (qI x1)), (2, .int (qI x2)), (3, .int (qI ux3))] []) (fun ux3 M g4 ih4 h => w_X10_everiesOf_B4 C hr hlk x1 x2 ux3 M g4  ih4 h) n x3 M h
def f_X10_everiesOf (a0 : Int) (M : Mem) : Res :=
  f_X10_everiesOf_L4 a0 0 q_N 0 M
theorem c_X10_everiesOf {l : Launch} {D : va_G} {ad : Nat → Nat} {cA : Nat → ClassId} (hi : q_inj syM ad) (a0 : Int) (M : Mem) (r0 : Int) (M0 : Mem) (h : f_X10_everiesOf a0 M = some (r0, M0)) : q_Met l syM D ad cA yX10_everiesOf cX10_everiesOf 5 (some .int) rm_X10_everiesOf [.ref (ad 0), .int (qI a0)] M (some (.int (qI r0))) M0 := by
  refine q_met (L0 := [(0, .ref (ad 0)), (1, .int (qI a0))]) hi okM (by decide) (Nat.le_of_ble_eq_true rfl) rfl ?_
  intro p e s m args below meth c C hr hlk
  unfold f_X10_everiesOf at h
  refine r_ic C dX10_everiesOf_0 ?_
  refine r_isn C (L1 := [(2, .int (qI 0)), (0, .ref (ad 0)), (1, .int (qI a0))]) dX10_everiesOf_1 (by decide) rfl ?_
  refine r_ic C dX10_everiesOf_2 ?_
  refine r_isn C (L1 := [(3, .int (qI 0)), (2, .int (qI 0)), (0, .ref (ad 0)), (1, .int (qI a0))]) dX10_everiesOf_3 (by decide) rfl ?_
  refine r_drop [2, 3, 1, 0] rfl ?_
  exact w_X10_everiesOf_L4 C hr hlk a0 0  q_N 0 M h
abbrev rm_X10_ask : Room := { frames := 8, cells := 0, slots := 0, locals := 191 }
theorem mw_X10_ask : q_mw RX10 yX10_ask cX10_ask 10 (some .int) 2 := ⟨⟨ti_X10_ask, tl_X10_ask, tn_RX10, td_X10_ask⟩, by decide +kernel⟩
def f_X10_ask_J142 (g39 : Int → Int → Int → Res) (x1 : Int) (x2 : Int) (x3 : Int) (x6 : Int) (x9 : Int) (M : Mem) : Res :=
  g39 x6 x9 (x6 + 1)
theorem w_X10_ask_J142 (C : Cx syM p m c cX10_ask 10 s args RX10 D ad cA) (hr : meth.sig.returnType = (some .int)) (hlk : meth.locks = false) (g39 : Int → Int → Int → Res) (x1 : Int) (x2 : Int) (x3 : Int) (x6 : Int) (x9 : Int) (M : Mem) (ih39 : ∀ (ux4 ux5 ux6 : Int) , g39 ux4 ux5 ux6  = some (r0, M0) → WM syM p l e rm_X10_ask s m args below meth c 10 D ad cA (MQ below (q_Post syM D ad cA (some (.int (qI r0))) M0) args s 0 0 (q_A syM ad)) M 39 [(0, .ref (ad 0)), (1, .int (qI x1)), (2, .int (qI x2)), (3, .int (qI x3)), (4, .int (qI ux4)), (5, .int (qI ux5)), (6, .int (qI ux6))] []) (h : f_X10_ask_J142 g39 x1 x2 x3 x6 x9 M = some (r0, M0)) : WM syM p l e rm_X10_ask s m args below meth c 10 D ad cA (MQ below (q_Post syM D ad cA (some (.int (qI r0))) M0) args s 0 0 (q_A syM ad)) M 142 [(0, .ref (ad 0)), (1, .int (qI x1)), (2, .int (qI x2)), (3, .int (qI x3)), (6, .int (qI x6)), (9, .int (qI x9))] [] := by
  unfold f_X10_ask_J142 at h
  refine r_il C dX10_ask_142 (k := 4) rfl ?_
  refine r_is C (L1 := [(4, .int (qI x6)), (0, .ref (ad 0)), (1, .int (qI x1)), (2, .int (qI x2)), (3, .int (qI x3)), (6, .int (qI x6)), (9, .int (qI x9))]) dX10_ask_144 (by decide) rfl ?_
  refine r_il C dX10_ask_146 (k := 6) rfl ?_
  refine r_is C (L1 := [(5, .int (qI x9)), (4, .int (qI x6)), (0, .ref (ad 0)), (1, .int (qI x1)), (2, .int (qI x2)), (3, .int (qI x3)), (6, .int (qI x6)), (9, .int (qI x9))]) dX10_ask_148 (by decide) rfl ?_
  refine r_inc C (L1 := [(6, .int (qI (x6 + 1))), (5, .int (qI x9)), (4, .int (qI x6)), (0, .ref (ad 0)), (1, .int (qI x1)), (2, .int (qI x2)), (3, .int (qI x3)), (9, .int (qI x9))]) dX10_ask_150 (k := 6) rfl (by decide) rfl ?_
  refine r_goto C (tgt := 39) dX10_ask_153 (by decide) ?_
  refine r_drop [3, 4, 5, 6, 2, 1, 0] rfl ?_
  exact ih39 x6 x9 (x6 + 1)  h
def f_X10_ask_B55 (g39 : Int → Int → Int → Res) (x1 : Int) (x2 : Int) (x3 : Int) (x4 : Int) (x5 : Int) (x6 : Int) (M : Mem) (x7 : Int) (x8 : Int) (x9 : Int) (g55 : Int → Int → Int → Res) : Res :=
  if w32 30 ≤ w32 x9 then (if w32 x4 = w32 (-1) then (f_X10_ask_J142 g39 x1 x2 x3 x6 (q_max x7 x8) M)
  else (if w32 (q_max x7 x8) < w32 x5 then (f_X10_ask_J142 g39 x1 x2 x3 x6 (q_max x7 x8) M)
  else (g39 x4 x5 (x6 + 1))))
  else (if ¬ w32 (q_and (q_shr x3 x9) 1) = 0 then (q_al M 41 8 x1 fun v1 =>
  if w32 x6 < w32 v1 then (g55 x7 (x8 + 1) (x9 + 1))
  else (q_al M 41 8 x1 fun v2 =>
  q_nz (x9 + 1) <| if ¬ w32 ((w32 (x6 - v2)).tmod (w32 (x9 + 1))) = 0 then (g55 x7 (x8 + 1) (x9 + 1))
  else (g55 (x7 + 1) x8 (x9 + 1))))
  else (g55 x7 x8 (x9 + 1)))
def f_X10_ask_L55 (g39 : Int → Int → Int → Res) (x1 : Int) (x2 : Int) (x3 : Int) (x4 : Int) (x5 : Int) (x6 : Int) (M : Mem) (n : Nat) (x7 : Int) (x8 : Int) (x9 : Int) : Res := qlp3 (fun x7 x8 x9 g55 => f_X10_ask_B55 g39 x1 x2 x3 x4 x5 x6 M x7 x8 x9 g55) n x7 x8 x9
theorem w_X10_ask_B55 (C : Cx syM p m c cX10_ask 10 s args RX10 D ad cA) (hr : meth.sig.returnType = (some .int)) (hlk : meth.locks = false) (g39 : Int → Int → Int → Res) (x1 : Int) (x2 : Int) (x3 : Int) (x4 : Int) (x5 : Int) (x6 : Int) (x7 : Int) (x8 : Int) (x9 : Int) (M : Mem) (g55 : Int → Int → Int → Res) (ih39 : ∀ (ux4 ux5 ux6 : Int) , g39 ux4 ux5 ux6  = some (r0, M0) → WM syM p l e rm_X10_ask s m args below meth c 10 D ad cA (MQ below (q_Post syM D ad cA (some (.int (qI r0))) M0) args s 0 0 (q_A syM ad)) M 39 [(0, .ref (ad 0)), (1, .int (qI x1)), (2, .int (qI x2)), (3, .int (qI x3)), (4, .int (qI ux4)), (5, .int (qI ux5)), (6, .int (qI ux6))] []) (ih55 : ∀ (ux7 ux8 ux9 : Int) , g55 ux7 ux8 ux9  = some (r0, M0) → WM syM p l e rm_X10_ask s m args below meth c 10 D ad cA (MQ below (q_Post syM D ad cA (some (.int (qI r0))) M0) args s 0 0 (q_A syM ad)) M 55 [(0, .ref (ad 0)), (1, .int (qI x1)), (2, .int (qI x2)), (3, .int (qI x3)), (4, .int (qI x4)), (5, .int (qI x5)), (6, .int (qI x6)), (7, .int (qI ux7)), (8, .int (qI ux8)), (9, .int (qI ux9))] []) (h : f_X10_ask_B55 g39 x1 x2 x3 x4 x5 x6 M x7 x8 x9 g55 = some (r0, M0)) : WM syM p l e rm_X10_ask s m args below meth c 10 D ad cA (MQ below (q_Post syM D ad cA (some (.int (qI r0))) M0) args s 0 0 (q_A syM ad)) M 55 [(0, .ref (ad 0)), (1, .int (qI x1)), (2, .int (qI x2)), (3, .int (qI x3)), (4, .int (qI x4)), (5, .int (qI x5)), (6, .int (qI x6)), (7, .int (qI x7)), (8, .int (qI x8)), (9, .int (qI x9))] [] := by
  unfold f_X10_ask_B55 at h
  refine r_il C dX10_ask_55 (k := 9) rfl ?_
  refine r_bi C dX10_ask_57 (by decide) ?_
  refine r_cge C (tgt := 117) dX10_ask_59 (by decide) h (fun h => ?_) (fun h => ?_)
  · refine r_il C dX10_ask_117 (k := 7) rfl ?_
    refine r_il C dX10_ask_119 (k := 8) rfl ?_
    refine r_q_max C (st := []) tm_RX10_376 ⟨Nat.le_of_ble_eq_true rfl, Nat.le_of_ble_eq_true rfl⟩ dX10_ask_121 ?_
    refine r_is C (L1 := [(9, .int (qI (q_max x7 x8))), (0, .ref (ad 0)), (1, .int (qI x1)), (2, .int (qI x2)), (3, .int (qI x3)), (4, .int (qI x4)), (5, .int (qI x5)), (6, .int (qI x6)), (7, .int (qI x7)), (8, .int (qI x8))]) dX10_ask_124 (by decide) rfl ?_
    refine r_il C dX10_ask_126 (k := 5) rfl ?_
    refine r_ic C dX10_ask_128 ?_
    refine r_ceq C (tgt := 142) dX10_ask_129 (by decide) h (fun h => ?_) (fun h => ?_)
    · refine r_drop [1, 2, 3, 4, 7, 0] rfl ?_
      exact w_X10_ask_J142 C hr hlk g39 x1 x2 x3 x6 (q_max x7 x8) M ih39 h
    · refine r_il C dX10_ask_132 (k := 0) rfl ?_
      refine r_il C dX10_ask_134 (k := 6) rfl ?_
      refine r_clt C (tgt := 142) dX10_ask_136 (by decide) h (fun h => ?_) (fun h => ?_)
      · refine r_drop [1, 2, 3, 4, 7, 0] rfl ?_
        exact w_X10_ask_J142 C hr hlk g39 x1 x2 x3 x6 (q_max x7 x8) M ih39 h
      · refine r_goto C (tgt := 150) dX10_ask_139 (by decide) ?_
        refine r_inc C (L1 := [(6, .int (qI (x6 + 1))), (9, .int (qI (q_max x7 x8))), (0, .ref (ad 0)), (1, .int (qI x1)), (2, .int (qI x2)), (3, .int (qI x3)), (4, .int (qI x4)), (5, .int (qI x5)), (7, .int (qI x7)), (8, .int (qI x8))]) dX10_ask_150 (k := 7) rfl (by decide) rfl ?_
        refine r_goto C (tgt := 39) dX10_ask_153 (by decide) ?_
        refine r_drop [2, 3, 4, 5, 6, 7, 0] rfl ?_
        exact ih39 x4 x5 (x6 + 1)  h
  · refine r_iln C dX10_ask_62 (k := 3) rfl ?_
    refine r_il C dX10_ask_63 (k := 9) rfl ?_
    refine r_ishr C dX10_ask_65 ?_
    refine r_ic C dX10_ask_66 ?_
    refine r_iand C dX10_ask_67 ?_
    refine r_zne C (tgt := 74) dX10_ask_68 (by decide) h (fun h => ?_) (fun h => ?_)
    · refine r_il C dX10_ask_74 (k := 6) rfl ?_
      refine r_aln C dX10_ask_76 (k := 0) rfl ?_
      refine r_gs C km_0 clX10 (f := 9) (by decide) rfl (t := 41) rfl tf_RX10_31 dX10_ask_77 ?_
      refine r_iln C dX10_ask_80 (k := 1) rfl ?_
      refine r_iald C km_41 dX10_ask_81 h (fun v1 h => ?_)
      refine r_clt C (tgt := 108) dX10_ask_82 (by decide) h (fun h => ?_) (fun h => ?_)
      · refine r_inc C (L1 := [(8, .int (qI (x8 + 1))), (0, .ref (ad 0)), (1, .int (qI x1)), (2, .int (qI x2)), (3, .int (qI x3)), (4, .int (qI x4)), (5, .int (qI x5)), (6, .int (qI x6)), (7, .int (qI x7)), (9, .int (qI x9))]) dX10_ask_108 (k := 8) rfl (by decide) rfl ?_
        refine r_inc C (L1 := [(9, .int (qI (x9 + 1))), (8, .int (qI (x8 + 1))), (0, .ref (ad 0)), (1, .int (qI x1)), (2, .int (qI x2)), (3, .int (qI x3)), (4, .int (qI x4)), (5, .int (qI x5)), (6, .int (qI x6)), (7, .int (qI x7))]) dX10_ask_111 (k := 9) rfl (by decide) rfl ?_
        refine r_goto C (tgt := 55) dX10_ask_114 (by decide) ?_
        refine r_drop [2, 3, 4, 5, 6, 7, 8, 9, 1, 0] rfl ?_
        exact ih55 x7 (x8 + 1) (x9 + 1)  h
      · refine r_il C dX10_ask_85 (k := 6) rfl ?_
        refine r_aln C dX10_ask_87 (k := 0) rfl ?_
        refine r_gs C km_0 clX10 (f := 9) (by decide) rfl (t := 41) rfl tf_RX10_31 dX10_ask_88 ?_
        refine r_iln C dX10_ask_91 (k := 1) rfl ?_
        refine r_iald C km_41 dX10_ask_92 h (fun v2 h => ?_)
        refine r_isub C dX10_ask_93 ?_
        refine r_il C dX10_ask_94 (k := 9) rfl ?_
        refine r_ic C dX10_ask_96 ?_
        refine r_iadd C dX10_ask_97 ?_
        refine r_irem C dX10_ask_98 h (fun h => ?_)
        refine r_zne C (tgt := 108) dX10_ask_99 (by decide) h (fun h => ?_) (fun h => ?_)
        · refine r_inc C (L1 := [(8, .int (qI (x8 + 1))), (0, .ref (ad 0)), (1, .int (qI x1)), (2, .int (qI x2)), (3, .int (qI x3)), (4, .int (qI x4)), (5, .int (qI x5)), (6, .int (qI x6)), (7, .int (qI x7)), (9, .int (qI x9))]) dX10_ask_108 (k := 8) rfl (by decide) rfl ?_
          refine r_inc C (L1 := [(9, .int (qI (x9 + 1))), (8, .int (qI (x8 + 1))), (0, .ref (ad 0)), (1, .int (qI x1)), (2, .int (qI x2)), (3, .int (qI x3)), (4, .int (qI x4)), (5, .int (qI x5)), (6, .int (qI x6)), (7, .int (qI x7))]) dX10_ask_111 (k := 9) rfl (by decide) rfl ?_
          refine r_goto C (tgt := 55) dX10_ask_114 (by decide) ?_
          refine r_drop [2, 3, 4, 5, 6, 7, 8, 9, 1, 0] rfl ?_
          exact ih55 x7 (x8 + 1) (x9 + 1)  h
        · refine r_inc C (L1 := [(7, .int (qI (x7 + 1))), (0, .ref (ad 0)), (1, .int (qI x1)), (2, .int (qI x2)), (3, .int (qI x3)), (4, .int (qI x4)), (5, .int (qI x5)), (6, .int (qI x6)), (8, .int (qI x8)), (9, .int (qI x9))]) dX10_ask_102 (k := 7) rfl (by decide) rfl ?_
          refine r_goto C (tgt := 111) dX10_ask_105 (by decide) ?_
          refine r_inc C (L1 := [(9, .int (qI (x9 + 1))), (7, .int (qI (x7 + 1))), (0, .ref (ad 0)), (1, .int (qI x1)), (2, .int (qI x2)), (3, .int (qI x3)), (4, .int (qI x4)), (5, .int (qI x5)), (6, .int (qI x6)), (8, .int (qI x8))]) dX10_ask_111 (k := 9) rfl (by decide) rfl ?_
          refine r_goto C (tgt := 55) dX10_ask_114 (by decide) ?_
          refine r_drop [2, 3, 4, 5, 6, 7, 8, 1, 9, 0] rfl ?_
          exact ih55 (x7 + 1) x8 (x9 + 1)  h
    · refine r_goto C (tgt := 111) dX10_ask_71 (by decide) ?_
      refine r_inc C (L1 := [(9, .int (qI (x9 + 1))), (0, .ref (ad 0)), (1, .int (qI x1)), (2, .int (qI x2)), (3, .int (qI x3)), (4, .int (qI x4)), (5, .int (qI x5)), (6, .int (qI x6)), (7, .int (qI x7)), (8, .int (qI x8))]) dX10_ask_111 (k := 9) rfl (by decide) rfl ?_
      refine r_goto C (tgt := 55) dX10_ask_114 (by decide) ?_
      refine r_drop [1, 2, 3, 4, 5, 6, 7, 8, 9, 0] rfl ?_
      exact ih55 x7 x8 (x9 + 1)  h
theorem w_X10_ask_L55 (C : Cx syM p m c cX10_ask 10 s args RX10 D ad cA) (hr : meth.sig.returnType = (some .int)) (hlk : meth.locks = false) (g39 : Int → Int → Int → Res) (x1 : Int) (x2 : Int) (x3 : Int) (x4 : Int) (x5 : Int) (x6 : Int) (M : Mem) (ih39 : ∀ (ux4 ux5 ux6 : Int) , g39 ux4 ux5 ux6  = some (r0, M0) → WM syM p l e rm_X10_ask s m args below meth c 10 D ad cA (MQ below (q_Post syM D ad cA (some (.int (qI r0))) M0) args s 0 0 (q_A syM ad)) M 39 [(0, .ref (ad 0)), (1, .int (qI x1)), (2, .int (qI x2)), (3, .int (qI x3)), (4, .int (qI ux4)), (5, .int (qI ux5)), (6, .int (qI ux6))] []) (n : Nat) (x7 : Int) (x8 : Int) (x9 : Int) (h : f_X10_ask_L55 g39 x1 x2 x3 x4 x5 x6 M n x7 x8 x9 = some (r0, M0)) : WM syM p l e rm_X10_ask s m args below meth c 10 D ad cA (MQ below (q_Post syM D ad cA (some (.int (qI r0))) M0) args s 0 0 (q_A syM ad)) M 55 [(0, .ref (ad 0)), (1, .int (qI x1)), (2, .int (qI x2)), (3, .int (qI x3)), (4, .int (qI x4)), (5, .int (qI x5)), (6, .int (qI x6)), (7, .int (qI x7)), (8, .int (qI x8)), (9, .int (qI x9))] [] :=
  qlp3_r (Wp := fun ux7 ux8 ux9 => WM syM p l e rm_X10_ask s m args below meth c 10 D ad cA (MQ below (q_Post syM D ad cA (some (.int (qI r0))) M0) args s 0 0 (q_A syM ad)) M 55 [(0, .ref (ad 0)), (1, .int (qI x1)), (2, .int (qI x2)), (3, .int (qI x3)), (4, .int (qI x4)), (5, .int (qI x5)), (6, .int (qI x6)), (7, .int (qI ux7)), (8, .int (qI ux8)), (9, .int (qI ux9))] []) (fun ux7 ux8 ux9 g55 ih55 h => w_X10_ask_B55 C hr hlk g39 x1 x2 x3 x4 x5 x6 ux7 ux8 ux9 M g55 ih39 ih55 h) n x7 x8 x9 h
def f_X10_ask_B39 (x1 : Int) (x2 : Int) (x3 : Int) (M : Mem) (x4 : Int) (x5 : Int) (x6 : Int) (g39 : Int → Int → Int → Res) : Res :=
  if w32 60 < w32 x6 then (if ¬ w32 x2 = 0 then (some (x5, M))
  else (some (x4, M)))
  else (f_X10_ask_L55 g39 x1 x2 x3 x4 x5 x6 M q_N 0 0 0)
def f_X10_ask_L39 (x1 : Int) (x2 : Int) (x3 : Int) (M : Mem) (n : Nat) (x4 : Int) (x5 : Int) (x6 : Int) : Res := qlp3 (fun x4 x5 x6 g39 => f_X10_ask_B39 x1 x2 x3 M x4 x5 x6 g39) n x4 x5 x6
theorem w_X10_ask_B39 (C : Cx syM p m c cX10_ask 10 s args RX10 D ad cA) (hr : meth.sig.returnType = (some .int)) (hlk : meth.locks = false)  (x1 : Int) (x2 : Int) (x3 : Int) (x4 : Int) (x5 : Int) (x6 : Int) (M : Mem) (g39 : Int → Int → Int → Res)  (ih39 : ∀ (ux4 ux5 ux6 : Int) , g39 ux4 ux5 ux6  = some (r0, M0) → WM syM p l e rm_X10_ask s m args below meth c 10 D ad cA (MQ below (q_Post syM D ad cA (some (.int (qI r0))) M0) args s 0 0 (q_A syM ad)) M 39 [(0, .ref (ad 0)), (1, .int (qI x1)), (2, .int (qI x2)), (3, .int (qI x3)), (4, .int (qI ux4)), (5, .int (qI ux5)), (6, .int (qI ux6))] []) (h : f_X10_ask_B39 x1 x2 x3 M x4 x5 x6 g39 = some (r0, M0)) : WM syM p l e rm_X10_ask s m args below meth c 10 D ad cA (MQ below (q_Post syM D ad cA (some (.int (qI r0))) M0) args s 0 0 (q_A syM ad)) M 39 [(0, .ref (ad 0)), (1, .int (qI x1)), (2, .int (qI x2)), (3, .int (qI x3)), (4, .int (qI x4)), (5, .int (qI x5)), (6, .int (qI x6))] [] := by
  unfold f_X10_ask_B39 at h
  refine r_il C dX10_ask_39 (k := 6) rfl ?_
  refine r_bi C dX10_ask_41 (by decide) ?_
  refine r_cgt C (tgt := 156) dX10_ask_43 (by decide) h (fun h => ?_) (fun h => ?_)
  · refine r_iln C dX10_ask_156 (k := 2) rfl ?_
    refine r_zne C (tgt := 165) dX10_ask_157 (by decide) h (fun h => ?_) (fun h => ?_)
    · refine r_il C dX10_ask_165 (k := 5) rfl ?_
      exact r_iret C hr hlk dX10_ask_167 h
    · refine r_il C dX10_ask_160 (k := 4) rfl ?_
      refine r_goto C (tgt := 167) dX10_ask_162 (by decide) ?_
      exact r_iret C hr hlk dX10_ask_167 h
  · refine r_ic C dX10_ask_46 ?_
    refine r_is C (L1 := [(7, .int (qI 0)), (0, .ref (ad 0)), (1, .int (qI x1)), (2, .int (qI x2)), (3, .int (qI x3)), (4, .int (qI x4)), (5, .int (qI x5)), (6, .int (qI x6))]) dX10_ask_47 (by decide) rfl ?_
    refine r_ic C dX10_ask_49 ?_
    refine r_is C (L1 := [(8, .int (qI 0)), (7, .int (qI 0)), (0, .ref (ad 0)), (1, .int (qI x1)), (2, .int (qI x2)), (3, .int (qI x3)), (4, .int (qI x4)), (5, .int (qI x5)), (6, .int (qI x6))]) dX10_ask_50 (by decide) rfl ?_
    refine r_ic C dX10_ask_52 ?_
    refine r_is C (L1 := [(9, .int (qI 0)), (8, .int (qI 0)), (7, .int (qI 0)), (0, .ref (ad 0)), (1, .int (qI x1)), (2, .int (qI x2)), (3, .int (qI x3)), (4, .int (qI x4)), (5, .int (qI x5)), (6, .int (qI x6))]) dX10_ask_53 (by decide) rfl ?_
    refine r_drop [3, 4, 5, 6, 7, 8, 9, 2, 1, 0] rfl ?_
    exact w_X10_ask_L55 C hr hlk g39 x1 x2 x3 x4 x5 x6 M ih39 q_N 0 0 0 h
theorem w_X10_ask_L39 (C : Cx syM p m c cX10_ask 10 s args RX10 D ad cA) (hr : meth.sig.returnType = (some .int)) (hlk : meth.locks = false)  (x1 : Int) (x2 : Int) (x3 : Int) (M : Mem)  (n : Nat) (x4 : Int) (x5 : Int) (x6 : Int) (h : f_X10_ask_L39 x1 x2 x3 M n x4 x5 x6 = some (r0, M0)) : WM syM p l e rm_X10_ask s m args below meth c 10 D ad cA (MQ below (q_Post syM D ad cA (some (.int (qI r0))) M0) args s 0 0 (q_A syM ad)) M 39 [(0, .ref (ad 0)), (1, .int (qI x1)), (2, .int (qI x2)), (3, .int (qI x3)), (4, .int (qI x4)), (5, .int (qI x5)), (6, .int (qI x6))] [] :=
  qlp3_r (Wp := fun ux4 ux5 ux6 => WM syM p l e rm_X10_ask s m args below meth c 10 D ad cA (MQ below (q_Post syM D ad cA (some (.int (qI r0))) M0) args s 0 0 (q_A syM ad)) M 39 [(0, .ref (ad 0)), (1, .int (qI x1)), (2, .int (qI x2)), (3, .int (qI x3)), (4, .int (qI ux4)), (5, .int (qI ux5)), (6, .int (qI ux6))] []) (fun ux4 ux5 ux6 g39 ih39 h => w_X10_ask_B39 C hr hlk x1 x2 x3 ux4 ux5 ux6 M g39  ih39 h) n x4 x5 x6 h
def f_X10_ask (a0 : Int) (a1 : Int) (M : Mem) : Res :=
  q_pf M 0 0 0 fun M1 =>
  q_calp (f_X10_isBus a0 M1) fun r2 =>
  if w32 r2 = 0 then (some ((-1), M1))
  else (if w32 a1 < 0 then (some ((-1), M1))
  else (if w32 a1 ≤ w32 1 then (q_call (f_X10_everiesOf a0 M1) fun r3 M4 =>
  f_X10_ask_L39 a0 a1 r3 M4 q_N (-1) 0 0)
  else (some ((-1), M1))))
theorem c_X10_ask {l : Launch} {D : va_G} {ad : Nat → Nat} {cA : Nat → ClassId} (hi : q_inj syM ad) (a0 : Int) (a1 : Int) (M : Mem) (r0 : Int) (M0 : Mem) (h : f_X10_ask a0 a1 M = some (r0, M0)) : q_Met l syM D ad cA yX10_ask cX10_ask 10 (some .int) rm_X10_ask [.ref (ad 0), .int (qI a0), .int (qI a1)] M (some (.int (qI r0))) M0 := by
  refine q_met (L0 := [(0, .ref (ad 0)), (1, .int (qI a0)), (2, .int (qI a1))]) hi okM (by decide) (Nat.le_of_ble_eq_true rfl) rfl ?_
  intro p e s m args below meth c C hr hlk
  unfold f_X10_ask at h
  refine r_aln C dX10_ask_0 (k := 0) rfl ?_
  refine r_ic C dX10_ask_1 ?_
  refine r_pf C km_0 clX10 (f := 0) (by decide) rfl q_dI rfl rfl tf_RX10_142 dX10_ask_2 h (fun M1 h => ?_)
  refine r_aln C dX10_ask_5 (k := 0) rfl ?_
  refine r_iln C dX10_ask_6 (k := 1) rfl ?_
  obtain ⟨r2, hy, h⟩ := q_calp_some h
  refine r_cvi C (st := []) (c_X10_isBus C.2.2.1 a0 M1 r2 hy) tm_RX10_420 mw_X10_isBus ⟨rfl, rfl⟩ ⟨Nat.le_of_ble_eq_true rfl, Nat.le_of_ble_eq_true rfl⟩ km_0 clX10 rfl rfl (Nat.le_of_ble_eq_true rfl) dX10_ask_7 ?_
  refine r_zeq C (tgt := 22) dX10_ask_10 (by decide) h (fun h => ?_) (fun h => ?_)
  · refine r_ic C dX10_ask_22 ?_
    exact r_iret C hr hlk dX10_ask_23 h
  · refine r_iln C dX10_ask_13 (k := 2) rfl ?_
    refine r_zlt C (tgt := 22) dX10_ask_14 (by decide) h (fun h => ?_) (fun h => ?_)
    · refine r_ic C dX10_ask_22 ?_
      exact r_iret C hr hlk dX10_ask_23 h
    · refine r_iln C dX10_ask_17 (k := 2) rfl ?_
      refine r_ic C dX10_ask_18 ?_
      refine r_cle C (tgt := 24) dX10_ask_19 (by decide) h (fun h => ?_) (fun h => ?_)
      · refine r_aln C dX10_ask_24 (k := 0) rfl ?_
        refine r_iln C dX10_ask_25 (k := 1) rfl ?_
        obtain ⟨r3, M4, hy, h⟩ := q_call_some h
        refine r_cvi C (st := []) (c_X10_everiesOf C.2.2.1 a0 M1 r3 M4 hy) tm_RX10_490 mw_X10_everiesOf ⟨rfl, rfl⟩ ⟨Nat.le_of_ble_eq_true rfl, Nat.le_of_ble_eq_true rfl⟩ km_0 clX10 rfl rfl (Nat.le_of_ble_eq_true rfl) dX10_ask_26 ?_
        refine r_isn C (L1 := [(3, .int (qI r3)), (0, .ref (ad 0)), (1, .int (qI a0)), (2, .int (qI a1))]) dX10_ask_29 (by decide) rfl ?_
        refine r_ic C dX10_ask_30 ?_
        refine r_is C (L1 := [(4, .int (qI (-1))), (3, .int (qI r3)), (0, .ref (ad 0)), (1, .int (qI a0)), (2, .int (qI a1))]) dX10_ask_31 (by decide) rfl ?_
        refine r_ic C dX10_ask_33 ?_
        refine r_is C (L1 := [(5, .int (qI 0)), (4, .int (qI (-1))), (3, .int (qI r3)), (0, .ref (ad 0)), (1, .int (qI a0)), (2, .int (qI a1))]) dX10_ask_34 (by decide) rfl ?_
        refine r_ic C dX10_ask_36 ?_
        refine r_is C (L1 := [(6, .int (qI 0)), (5, .int (qI 0)), (4, .int (qI (-1))), (3, .int (qI r3)), (0, .ref (ad 0)), (1, .int (qI a0)), (2, .int (qI a1))]) dX10_ask_37 (by decide) rfl ?_
        refine r_drop [4, 5, 6, 3, 2, 1, 0] rfl ?_
        exact w_X10_ask_L39 C hr hlk a0 a1 r3 M4  q_N (-1) 0 0 h
      · refine r_ic C dX10_ask_22 ?_
        exact r_iret C hr hlk dX10_ask_23 h
abbrev rm_X10_back : Room := { frames := 1, cells := 0, slots := 0, locals := 25 }
theorem mw_X10_back : q_mw RX10 yX10_back cX10_back 1 (some .int) 0 := ⟨⟨ti_X10_back, tl_X10_back, tn_RX10, td_X10_back⟩, by decide +kernel⟩
def f_X10_back  (M : Mem) : Res :=
  q_pf M 0 0 0 fun M1 =>
  q_gf M1 0 45 fun v2 =>
  if ¬ w32 v2 = 0 then (q_call (f_X10_copies 0 2 M1) fun r3 M4 =>
  q_pf M4 0 46 0 fun M5 =>
  q_al M5 67 23 0 fun v6 =>
  some (v6, M5))
  else (some ((-1), M1))
theorem c_X10_back {l : Launch} {D : va_G} {ad : Nat → Nat} {cA : Nat → ClassId} (hi : q_inj syM ad)  (M : Mem) (r0 : Int) (M0 : Mem) (h : f_X10_back  M = some (r0, M0)) : q_Met l syM D ad cA yX10_back cX10_back 1 (some .int) rm_X10_back [.ref (ad 0)] M (some (.int (qI r0))) M0 := by
  refine q_met (L0 := [(0, .ref (ad 0))]) hi okM (by decide) (Nat.le_of_ble_eq_true rfl) rfl ?_
  intro p e s m args below meth c C hr hlk
  unfold f_X10_back at h
  refine r_aln C dX10_back_0 (k := 0) rfl ?_
  refine r_ic C dX10_back_1 ?_
  refine r_pf C km_0 clX10 (f := 0) (by decide) rfl q_dI rfl rfl tf_RX10_142 dX10_back_2 h (fun M1 h => ?_)
  refine r_aln C dX10_back_5 (k := 0) rfl ?_
  refine r_gf C km_0 clX10 (f := 45) (by decide) rfl rfl rfl tf_RX10_298 dX10_back_6 h (fun v2 h => ?_)
  refine r_zne C (tgt := 14) dX10_back_9 (by decide) h (fun h => ?_) (fun h => ?_)
  · refine r_aln C dX10_back_14 (k := 0) rfl ?_
    refine r_ic C dX10_back_15 ?_
    refine r_ic C dX10_back_16 ?_
    obtain ⟨r3, M4, hy, h⟩ := q_call_some h
    refine r_cvv C (st := []) (c_X10_copies C.2.2.1 0 2 M1 r3 M4 hy) tm_RX10_405 mw_X10_copies ⟨rfl, rfl⟩ ⟨Nat.le_of_ble_eq_true rfl, Nat.le_of_ble_eq_true rfl⟩ km_0 clX10 rfl rfl (Nat.le_of_ble_eq_true rfl) dX10_back_17 ?_
    refine r_aln C dX10_back_20 (k := 0) rfl ?_
    refine r_ic C dX10_back_21 ?_
    refine r_pf C km_0 clX10 (f := 46) (by decide) rfl q_dI rfl rfl tf_RX10_302 dX10_back_22 h (fun M5 h => ?_)
    refine r_aln C dX10_back_25 (k := 0) rfl ?_
    refine r_gs C km_0 clX10 (f := 35) (by decide) rfl (t := 67) rfl tf_RX10_72 dX10_back_26 ?_
    refine r_ic C dX10_back_29 ?_
    refine r_iald C km_67 dX10_back_30 h (fun v6 h => ?_)
    exact r_iret C hr hlk dX10_back_31 h
  · refine r_ic C dX10_back_12 ?_
    exact r_iret C hr hlk dX10_back_13 h
end P13b
