section P13d
variable {p : Program} {l : Launch} {e : Env} {s : State} {m : MethodId} {args : Array Value} {below : List Frame} {meth : Method} {c : Code} {D : va_G} {ad : Nat → Nat} {cA : Nat → ClassId} {r0 : Int} {M0 : Mem}
abbrev rm_X10_feed : Room := { frames := 0, cells := 0, slots := 0, locals := 0 }
theorem mw_X10_feed : q_mw RX10 yX10_feed cX10_feed 8 (some .int) 5 := ⟨⟨ti_X10_feed, tl_X10_feed, tn_RX10, td_X10_feed⟩, by decide +kernel⟩
def f_X10_feed_J73 (g20 : Int → Mem → Res) (x1 : Int) (x2 : Int) (x3 : Int) (x4 : Int) (x5 : Int) (x6 : Int) (y0 : Int) (M : Mem) : Res :=
  q_gf M 0 2 fun v1 =>
  q_nz 4 <| q_as M 33 700 (v1 + x6) (q_and (q_shr y0 (24 - (8 * ((w32 x6).tmod (w32 4))))) 255) fun M2 =>
  g20 (x6 + 1) M2
theorem w_X10_feed_J73 (C : Cx syM p m c cX10_feed 8 s args RX10 D ad cA) (hr : meth.sig.returnType = (some .int)) (hlk : meth.locks = false) (g20 : Int → Mem → Res) (x1 : Int) (x2 : Int) (x3 : Int) (x4 : Int) (x5 : Int) (x6 : Int) (y0 : Int) (M : Mem) (ih20 : ∀ (ux6 : Int) (M : Mem), g20 ux6 M = some (r0, M0) → WM syM p l e rm_X10_feed s m args below meth c 8 D ad cA (MQ below (q_Post syM D ad cA (some (.int (qI r0))) M0) args s 0 0 (q_A syM ad)) M 20 [(0, .ref (ad 0)), (1, .int (qI x1)), (2, .int (qI x2)), (3, .int (qI x3)), (4, .int (qI x4)), (5, .int (qI x5)), (6, .int (qI ux6))] []) (h : f_X10_feed_J73 g20 x1 x2 x3 x4 x5 x6 y0 M = some (r0, M0)) : WM syM p l e rm_X10_feed s m args below meth c 8 D ad cA (MQ below (q_Post syM D ad cA (some (.int (qI r0))) M0) args s 0 0 (q_A syM ad)) M 73 [(0, .ref (ad 0)), (1, .int (qI x1)), (2, .int (qI x2)), (3, .int (qI x3)), (4, .int (qI x4)), (5, .int (qI x5)), (6, .int (qI x6))] [.int (qI y0)] := by
  unfold f_X10_feed_J73 at h
  refine r_is C (L1 := [(7, .int (qI y0)), (0, .ref (ad 0)), (1, .int (qI x1)), (2, .int (qI x2)), (3, .int (qI x3)), (4, .int (qI x4)), (5, .int (qI x5)), (6, .int (qI x6))]) dX10_feed_73 (by decide) rfl ?_
  refine r_aln C dX10_feed_75 (k := 1) rfl ?_
  refine r_gs C km_0 clX10 (f := 1) (by decide) rfl (t := 33) rfl tf_RX10_7 dX10_feed_76 ?_
  refine r_aln C dX10_feed_79 (k := 1) rfl ?_
  refine r_gf C km_0 clX10 (f := 2) (by decide) rfl rfl rfl tf_RX10_145 dX10_feed_80 h (fun v1 h => ?_)
  refine r_il C dX10_feed_83 (k := 7) rfl ?_
  refine r_iadd C dX10_feed_85 ?_
  refine r_il C dX10_feed_86 (k := 0) rfl ?_
  refine r_bi C dX10_feed_88 (by decide) ?_
  refine r_bi C dX10_feed_90 (by decide) ?_
  refine r_il C dX10_feed_92 (k := 7) rfl ?_
  refine r_ic C dX10_feed_94 ?_
  refine r_irem C dX10_feed_95 h (fun h => ?_)
  refine r_imul C dX10_feed_96 ?_
  refine r_isub C dX10_feed_97 ?_
  refine r_ishr C dX10_feed_98 ?_
  refine r_si C dX10_feed_99 (by decide) ?_
  refine r_iand C dX10_feed_102 ?_
  refine r_iast C km_33 dX10_feed_103 h (fun M2 h => ?_)
  refine r_inc C (L1 := [(6, .int (qI (x6 + 1))), (7, .int (qI y0)), (0, .ref (ad 0)), (1, .int (qI x1)), (2, .int (qI x2)), (3, .int (qI x3)), (4, .int (qI x4)), (5, .int (qI x5))]) dX10_feed_104 (k := 7) rfl (by decide) rfl ?_
  refine r_goto C (tgt := 20) dX10_feed_107 (by decide) ?_
  refine r_drop [2, 3, 4, 5, 6, 7, 0] rfl ?_
  exact ih20 (x6 + 1) M2 h
def f_X10_feed_B20 (x1 : Int) (x2 : Int) (x3 : Int) (x4 : Int) (x5 : Int) (x6 : Int) (M : Mem) (g20 : Int → Mem → Res) : Res :=
  if w32 20 ≤ w32 x6 then (q_gf M 0 2 fun v1 =>
  q_pf M 0 2 (v1 + 20) fun M2 =>
  q_gf M2 0 2 fun v3 =>
  some (v3, M2))
  else (if w32 4 ≤ w32 x6 then (if w32 8 ≤ w32 x6 then (if w32 12 ≤ w32 x6 then (if w32 16 ≤ w32 x6 then (f_X10_feed_J73 g20 x1 x2 x3 x4 x5 x6 x5 M)
  else (f_X10_feed_J73 g20 x1 x2 x3 x4 x5 x6 x4 M))
  else (f_X10_feed_J73 g20 x1 x2 x3 x4 x5 x6 x3 M))
  else (f_X10_feed_J73 g20 x1 x2 x3 x4 x5 x6 x2 M))
  else (f_X10_feed_J73 g20 x1 x2 x3 x4 x5 x6 x1 M))
def f_X10_feed_L20 (x1 : Int) (x2 : Int) (x3 : Int) (x4 : Int) (x5 : Int) (n : Nat) (x6 : Int) (M : Mem) : Res := qlm1 (fun x6 M g20 => f_X10_feed_B20 x1 x2 x3 x4 x5 x6 M g20) n x6 M
theorem w_X10_feed_B20 (C : Cx syM p m c cX10_feed 8 s args RX10 D ad cA) (hr : meth.sig.returnType = (some .int)) (hlk : meth.locks = false)  (x1 : Int) (x2 : Int) (x3 : Int) (x4 : Int) (x5 : Int) (x6 : Int) (M : Mem) (g20 : Int → Mem → Res)  (ih20 : ∀ (ux6 : Int) (M : Mem), g20 ux6 M = some (r0, M0) → WM syM p l e rm_X10_feed s m args below meth c 8 D ad cA (MQ below (q_Post syM D ad cA (some (.int (qI r0))) M0) args s 0 0 (q_A syM ad)) M 20 [(0, .ref (ad 0)), (1, .int (qI x1)), (2, .int (qI x2)), (3, .int (qI x3)), (4, .int (qI x4)), (5, .int (qI x5)), (6, .int (qI ux6))] []) (h : f_X10_feed_B20 x1 x2 x3 x4 x5 x6 M g20 = some (r0, M0)) : WM syM p l e rm_X10_feed s m args below meth c 8 D ad cA (MQ below (q_Post syM D ad cA (some (.int (qI r0))) M0) args s 0 0 (q_A syM ad)) M 20 [(0, .ref (ad 0)), (1, .int (qI x1)), (2, .int (qI x2)), (3, .int (qI x3)), (4, .int (qI x4)), (5, .int (qI x5)), (6, .int (qI x6))] [] := by
  unfold f_X10_feed_B20 at h
  refine r_il C dX10_feed_20 (k := 6) rfl ?_
  refine r_bi C dX10_feed_22 (by decide) ?_
  refine r_cge C (tgt := 110) dX10_feed_24 (by decide) h (fun h => ?_) (fun h => ?_)
  · refine r_aln C dX10_feed_110 (k := 0) rfl ?_
    refine r_dup C rfl dX10_feed_111 ?_
    refine r_gf C km_0 clX10 (f := 2) (by decide) rfl rfl rfl tf_RX10_145 dX10_feed_112 h (fun v1 h => ?_)
    refine r_bi C dX10_feed_115 (by decide) ?_
    refine r_iadd C dX10_feed_117 ?_
    refine r_pf C km_0 clX10 (f := 2) (by decide) rfl q_dI rfl rfl tf_RX10_145 dX10_feed_118 h (fun M2 h => ?_)
    refine r_aln C dX10_feed_121 (k := 0) rfl ?_
    refine r_gf C km_0 clX10 (f := 2) (by decide) rfl rfl rfl tf_RX10_145 dX10_feed_122 h (fun v3 h => ?_)
    exact r_iret C hr hlk dX10_feed_125 h
  · refine r_il C dX10_feed_27 (k := 6) rfl ?_
    refine r_ic C dX10_feed_29 ?_
    refine r_cge C (tgt := 37) dX10_feed_30 (by decide) h (fun h => ?_) (fun h => ?_)
    · refine r_il C dX10_feed_37 (k := 6) rfl ?_
      refine r_bi C dX10_feed_39 (by decide) ?_
      refine r_cge C (tgt := 48) dX10_feed_41 (by decide) h (fun h => ?_) (fun h => ?_)
      · refine r_il C dX10_feed_48 (k := 6) rfl ?_
        refine r_bi C dX10_feed_50 (by decide) ?_
        refine r_cge C (tgt := 59) dX10_feed_52 (by decide) h (fun h => ?_) (fun h => ?_)
        · refine r_il C dX10_feed_59 (k := 6) rfl ?_
          refine r_bi C dX10_feed_61 (by decide) ?_
          refine r_cge C (tgt := 71) dX10_feed_63 (by decide) h (fun h => ?_) (fun h => ?_)
          · refine r_il C dX10_feed_71 (k := 5) rfl ?_
            exact w_X10_feed_J73 C hr hlk g20 x1 x2 x3 x4 x5 x6 x5 M ih20 h
          · refine r_il C dX10_feed_66 (k := 4) rfl ?_
            refine r_goto C (tgt := 73) dX10_feed_68 (by decide) ?_
            exact w_X10_feed_J73 C hr hlk g20 x1 x2 x3 x4 x5 x6 x4 M ih20 h
        · refine r_iln C dX10_feed_55 (k := 3) rfl ?_
          refine r_goto C (tgt := 73) dX10_feed_56 (by decide) ?_
          exact w_X10_feed_J73 C hr hlk g20 x1 x2 x3 x4 x5 x6 x3 M ih20 h
      · refine r_iln C dX10_feed_44 (k := 2) rfl ?_
        refine r_goto C (tgt := 73) dX10_feed_45 (by decide) ?_
        exact w_X10_feed_J73 C hr hlk g20 x1 x2 x3 x4 x5 x6 x2 M ih20 h
    · refine r_iln C dX10_feed_33 (k := 1) rfl ?_
      refine r_goto C (tgt := 73) dX10_feed_34 (by decide) ?_
      exact w_X10_feed_J73 C hr hlk g20 x1 x2 x3 x4 x5 x6 x1 M ih20 h
theorem w_X10_feed_L20 (C : Cx syM p m c cX10_feed 8 s args RX10 D ad cA) (hr : meth.sig.returnType = (some .int)) (hlk : meth.locks = false)  (x1 : Int) (x2 : Int) (x3 : Int) (x4 : Int) (x5 : Int)  (n : Nat) (x6 : Int) (M : Mem) (h : f_X10_feed_L20 x1 x2 x3 x4 x5 n x6 M = some (r0, M0)) : WM syM p l e rm_X10_feed s m args below meth c 8 D ad cA (MQ below (q_Post syM D ad cA (some (.int (qI r0))) M0) args s 0 0 (q_A syM ad)) M 20 [(0, .ref (ad 0)), (1, .int (qI x1)), (2, .int (qI x2)), (3, .int (qI x3)), (4, .int (qI x4)), (5, .int (qI x5)), (6, .int (qI x6))] [] :=
  qlm1_r (Wp := fun ux6 M => WM syM p l e rm_X10_feed s m args below meth c 8 D ad cA (MQ below (q_Post syM D ad cA (some (.int (qI r0))) M0) args s 0 0 (q_A syM ad)) M 20 [(0, .ref (ad 0)), (1, .int (qI x1)), (2, .int (qI x2)), (3, .int (qI x3)), (4, .int (qI x4)), (5, .int (qI x5)), (6, .int (qI ux6))] []) (fun ux6 M g20 ih20 h => w_X10_feed_B20 C hr hlk x1 x2 x3 x4 x5 ux6 M g20  ih20 h) n x6 M h
def f_X10_feed (a0 : Int) (a1 : Int) (a2 : Int) (a3 : Int) (a4 : Int) (M : Mem) : Res :=
  q_pf M 0 0 0 fun M1 =>
  q_gf M1 0 2 fun v2 =>
  if w32 v2 ≤ w32 680 then (f_X10_feed_L20 a0 a1 a2 a3 a4 q_N 0 M1)
  else (some ((-1), M1))
theorem c_X10_feed {l : Launch} {D : va_G} {ad : Nat → Nat} {cA : Nat → ClassId} (hi : q_inj syM ad) (a0 : Int) (a1 : Int) (a2 : Int) (a3 : Int) (a4 : Int) (M : Mem) (r0 : Int) (M0 : Mem) (h : f_X10_feed a0 a1 a2 a3 a4 M = some (r0, M0)) : q_Met l syM D ad cA yX10_feed cX10_feed 8 (some .int) rm_X10_feed [.ref (ad 0), .int (qI a0), .int (qI a1), .int (qI a2), .int (qI a3), .int (qI a4)] M (some (.int (qI r0))) M0 := by
  refine q_met (L0 := [(0, .ref (ad 0)), (1, .int (qI a0)), (2, .int (qI a1)), (3, .int (qI a2)), (4, .int (qI a3)), (5, .int (qI a4))]) hi okM (by decide) (Nat.le_of_ble_eq_true rfl) rfl ?_
  intro p e s m args below meth c C hr hlk
  unfold f_X10_feed at h
  refine r_aln C dX10_feed_0 (k := 0) rfl ?_
  refine r_ic C dX10_feed_1 ?_
  refine r_pf C km_0 clX10 (f := 0) (by decide) rfl q_dI rfl rfl tf_RX10_142 dX10_feed_2 h (fun M1 h => ?_)
  refine r_aln C dX10_feed_5 (k := 0) rfl ?_
  refine r_gf C km_0 clX10 (f := 2) (by decide) rfl rfl rfl tf_RX10_145 dX10_feed_6 h (fun v2 h => ?_)
  refine r_si C dX10_feed_9 (by decide) ?_
  refine r_cle C (tgt := 17) dX10_feed_12 (by decide) h (fun h => ?_) (fun h => ?_)
  · refine r_ic C dX10_feed_17 ?_
    refine r_is C (L1 := [(6, .int (qI 0)), (0, .ref (ad 0)), (1, .int (qI a0)), (2, .int (qI a1)), (3, .int (qI a2)), (4, .int (qI a3)), (5, .int (qI a4))]) dX10_feed_18 (by decide) rfl ?_
    refine r_drop [1, 2, 3, 4, 5, 6, 0] rfl ?_
    exact w_X10_feed_L20 C hr hlk a0 a1 a2 a3 a4  q_N 0 M1 h
  · refine r_ic C dX10_feed_15 ?_
    exact r_iret C hr hlk dX10_feed_16 h
abbrev rm_X10_found : Room := { frames := 0, cells := 0, slots := 0, locals := 0 }
theorem mw_X10_found : q_ms yX10_found cX10_found 5 (some .int) 4 := ⟨⟨ts_X10_found, tn_RX10, td_X10_found⟩, by decide +kernel⟩
def f_X10_found_B3 (n0 : Nat) (l0 : Nat) (x1 : Int) (x2 : Int) (x3 : Int) (M : Mem) (x4 : Int) (g3 : Int → Option Int) : Option Int :=
  if w32 x2 ≤ w32 x4 then (some (-1))
  else (q_al M n0 l0 (x1 + x4) fun v1 =>
  if ¬ w32 v1 = w32 x3 then (g3 (x4 + 1))
  else (some x4))
def f_X10_found_L3 (n0 : Nat) (l0 : Nat) (x1 : Int) (x2 : Int) (x3 : Int) (M : Mem) (n : Nat) (x4 : Int) : Option Int := qlp1 (fun x4 g3 => f_X10_found_B3 n0 l0 x1 x2 x3 M x4 g3) n x4
theorem w_X10_found_B3 (C : Cx syM p m c cX10_found 5 s args RX10 D ad cA) (hr : meth.sig.returnType = (some .int)) (hlk : meth.locks = false) (n0 : Nat) (l0 : Nat) (hn0 : syM.1 n0 = (2, l0)) (x1 : Int) (x2 : Int) (x3 : Int) (x4 : Int) (M : Mem) (g3 : Int → Option Int)  (ih3 : ∀ (ux4 : Int) , g3 ux4  = some r0 → WM syM p l e rm_X10_found s m args below meth c 5 D ad cA (MQ below (q_Post syM D ad cA (some (.int (qI r0))) M) args s 0 0 (q_A syM ad)) M 3 [(0, .ref (ad n0)), (1, .int (qI x1)), (2, .int (qI x2)), (3, .int (qI x3)), (4, .int (qI ux4))] []) (h : f_X10_found_B3 n0 l0 x1 x2 x3 M x4 g3 = some r0) : WM syM p l e rm_X10_found s m args below meth c 5 D ad cA (MQ below (q_Post syM D ad cA (some (.int (qI r0))) M) args s 0 0 (q_A syM ad)) M 3 [(0, .ref (ad n0)), (1, .int (qI x1)), (2, .int (qI x2)), (3, .int (qI x3)), (4, .int (qI x4))] [] := by
  unfold f_X10_found_B3 at h
  refine r_il C dX10_found_3 (k := 4) rfl ?_
  refine r_iln C dX10_found_5 (k := 2) rfl ?_
  refine r_cge C (tgt := 28) dX10_found_6 (by decide) h (fun h => ?_) (fun h => ?_)
  · refine r_ic C dX10_found_28 ?_
    exact r_iretp C hr hlk dX10_found_29 h
  · refine r_aln C dX10_found_9 (k := 0) rfl ?_
    refine r_iln C dX10_found_10 (k := 1) rfl ?_
    refine r_il C dX10_found_11 (k := 4) rfl ?_
    refine r_iadd C dX10_found_13 ?_
    refine r_iald C hn0 dX10_found_14 h (fun v1 h => ?_)
    refine r_iln C dX10_found_15 (k := 3) rfl ?_
    refine r_cne C (tgt := 22) dX10_found_16 (by decide) h (fun h => ?_) (fun h => ?_)
    · refine r_inc C (L1 := [(4, .int (qI (x4 + 1))), (0, .ref (ad n0)), (1, .int (qI x1)), (2, .int (qI x2)), (3, .int (qI x3))]) dX10_found_22 (k := 4) rfl (by decide) rfl ?_
      refine r_goto C (tgt := 3) dX10_found_25 (by decide) ?_
      refine r_drop [1, 2, 3, 4, 0] rfl ?_
      exact ih3 (x4 + 1)  h
    · refine r_il C dX10_found_19 (k := 4) rfl ?_
      exact r_iretp C hr hlk dX10_found_21 h
theorem w_X10_found_L3 (C : Cx syM p m c cX10_found 5 s args RX10 D ad cA) (hr : meth.sig.returnType = (some .int)) (hlk : meth.locks = false) (n0 : Nat) (l0 : Nat) (hn0 : syM.1 n0 = (2, l0)) (x1 : Int) (x2 : Int) (x3 : Int) (M : Mem)  (n : Nat) (x4 : Int) (h : f_X10_found_L3 n0 l0 x1 x2 x3 M n x4 = some r0) : WM syM p l e rm_X10_found s m args below meth c 5 D ad cA (MQ below (q_Post syM D ad cA (some (.int (qI r0))) M) args s 0 0 (q_A syM ad)) M 3 [(0, .ref (ad n0)), (1, .int (qI x1)), (2, .int (qI x2)), (3, .int (qI x3)), (4, .int (qI x4))] [] :=
  qlp1_r (Wp := fun ux4 => WM syM p l e rm_X10_found s m args below meth c 5 D ad cA (MQ below (q_Post syM D ad cA (some (.int (qI r0))) M) args s 0 0 (q_A syM ad)) M 3 [(0, .ref (ad n0)), (1, .int (qI x1)), (2, .int (qI x2)), (3, .int (qI x3)), (4, .int (qI ux4))] []) (fun ux4 g3 ih3 h => w_X10_found_B3 C hr hlk n0 l0 hn0 x1 x2 x3 ux4 M g3  ih3 h) n x4 h
def f_X10_found (n0 : Nat) (l0 : Nat) (a1 : Int) (a2 : Int) (a3 : Int) (M : Mem) : Option Int :=
  f_X10_found_L3 n0 l0 a1 a2 a3 M q_N 0
theorem c_X10_found {l : Launch} {D : va_G} {ad : Nat → Nat} {cA : Nat → ClassId} (hi : q_inj syM ad) (n0 : Nat) (l0 : Nat) (hn0 : syM.1 n0 = (2, l0)) (a1 : Int) (a2 : Int) (a3 : Int) (M : Mem) (r0 : Int) (h : f_X10_found n0 l0 a1 a2 a3 M = some r0) : q_Met l syM D ad cA yX10_found cX10_found 5 (some .int) rm_X10_found [.ref (ad n0), .int (qI a1), .int (qI a2), .int (qI a3)] M (some (.int (qI r0))) M := by
  refine q_met (L0 := [(0, .ref (ad n0)), (1, .int (qI a1)), (2, .int (qI a2)), (3, .int (qI a3))]) hi okM (by decide) (Nat.le_of_ble_eq_true rfl) rfl ?_
  intro p e s m args below meth c C hr hlk
  unfold f_X10_found at h
  refine r_ic C dX10_found_0 ?_
  refine r_is C (L1 := [(4, .int (qI 0)), (0, .ref (ad n0)), (1, .int (qI a1)), (2, .int (qI a2)), (3, .int (qI a3))]) dX10_found_1 (by decide) rfl ?_
  refine r_drop [1, 2, 3, 4, 0] rfl ?_
  exact w_X10_found_L3 C hr hlk n0 l0 hn0 a1 a2 a3 M  q_N 0 h
abbrev rm_X10_fresh : Room := { frames := 8, cells := 0, slots := 0, locals := 344 }
theorem mw_X10_fresh : q_mw RX10 yX10_fresh cX10_fresh 5 (some .int) 3 := ⟨⟨ti_X10_fresh, tl_X10_fresh, tn_RX10, td_X10_fresh⟩, by decide +kernel⟩
def f_X10_fresh_J44 (n0 : Nat) (l0 : Nat) (M : Mem) : Res :=
  q_gf M 0 26 fun v1 =>
  if w32 v1 = 0 then (q_gf M 0 25 fun v2 =>
  q_call (f_X10_token  M) fun r3 M4 =>
  some (v2, M4))
  else (some (0, M))
theorem w_X10_fresh_J44 (C : Cx syM p m c cX10_fresh 5 s args RX10 D ad cA) (hr : meth.sig.returnType = (some .int)) (hlk : meth.locks = false) (n0 : Nat) (l0 : Nat) (hn0 : syM.1 n0 = (2, l0)) (M : Mem)  (h : f_X10_fresh_J44 n0 l0 M = some (r0, M0)) : WM syM p l e rm_X10_fresh s m args below meth c 5 D ad cA (MQ below (q_Post syM D ad cA (some (.int (qI r0))) M0) args s 0 0 (q_A syM ad)) M 44 [(0, .ref (ad 0))] [] := by
  unfold f_X10_fresh_J44 at h
  refine r_aln C dX10_fresh_44 (k := 0) rfl ?_
  refine r_gf C km_0 clX10 (f := 26) (by decide) rfl rfl rfl tf_RX10_196 dX10_fresh_45 h (fun v1 h => ?_)
  refine r_zeq C (tgt := 53) dX10_fresh_48 (by decide) h (fun h => ?_) (fun h => ?_)
  · refine r_aln C dX10_fresh_53 (k := 0) rfl ?_
    refine r_gf C km_0 clX10 (f := 25) (by decide) rfl rfl rfl tf_RX10_171 dX10_fresh_54 h (fun v2 h => ?_)
    refine r_is C (L1 := [(4, .int (qI v2)), (0, .ref (ad 0))]) dX10_fresh_57 (by decide) rfl ?_
    refine r_aln C dX10_fresh_59 (k := 1) rfl ?_
    obtain ⟨r3, M4, hy, h⟩ := q_call_some h
    refine r_cvv C (st := []) (c_X10_token C.2.2.1 M r3 M4 hy) tm_RX10_202 mw_X10_token ⟨rfl, rfl⟩ ⟨Nat.le_of_ble_eq_true rfl, Nat.le_of_ble_eq_true rfl⟩ km_0 clX10 rfl rfl (Nat.le_of_ble_eq_true rfl) dX10_fresh_60 ?_
    refine r_il C dX10_fresh_63 (k := 0) rfl ?_
    exact r_iret C hr hlk dX10_fresh_65 h
  · refine r_ic C dX10_fresh_51 ?_
    exact r_iret C hr hlk dX10_fresh_52 h
def f_X10_fresh (n0 : Nat) (l0 : Nat) (a1 : Int) (a2 : Int) (M : Mem) : Res :=
  q_gf M 0 26 fun v1 =>
  if w32 v1 = 0 then (q_gf M 0 24 fun v2 =>
  if w32 v2 = w32 1 then (q_gf M 0 25 fun v3 =>
  q_calp (f_X10_found n0 l0 a1 a2 v3 M) fun r4 =>
  if w32 r4 = w32 (-1) then (f_X10_fresh_J44 n0 l0 M)
  else (q_call (f_X10_wrong 3 M) fun r5 M6 =>
  f_X10_fresh_J44 n0 l0 M6))
  else (q_call (f_X10_wrong 1 M) fun r7 M8 =>
  f_X10_fresh_J44 n0 l0 M8))
  else (some (0, M))
theorem c_X10_fresh {l : Launch} {D : va_G} {ad : Nat → Nat} {cA : Nat → ClassId} (hi : q_inj syM ad) (n0 : Nat) (l0 : Nat) (hn0 : syM.1 n0 = (2, l0)) (a1 : Int) (a2 : Int) (M : Mem) (r0 : Int) (M0 : Mem) (h : f_X10_fresh n0 l0 a1 a2 M = some (r0, M0)) : q_Met l syM D ad cA yX10_fresh cX10_fresh 5 (some .int) rm_X10_fresh [.ref (ad 0), .ref (ad n0), .int (qI a1), .int (qI a2)] M (some (.int (qI r0))) M0 := by
  refine q_met (L0 := [(0, .ref (ad 0)), (1, .ref (ad n0)), (2, .int (qI a1)), (3, .int (qI a2))]) hi okM (by decide) (Nat.le_of_ble_eq_true rfl) rfl ?_
  intro p e s m args below meth c C hr hlk
  unfold f_X10_fresh at h
  refine r_aln C dX10_fresh_0 (k := 0) rfl ?_
  refine r_gf C km_0 clX10 (f := 26) (by decide) rfl rfl rfl tf_RX10_196 dX10_fresh_1 h (fun v1 h => ?_)
  refine r_zeq C (tgt := 9) dX10_fresh_4 (by decide) h (fun h => ?_) (fun h => ?_)
  · refine r_aln C dX10_fresh_9 (k := 0) rfl ?_
    refine r_gf C km_0 clX10 (f := 24) (by decide) rfl rfl rfl tf_RX10_161 dX10_fresh_10 h (fun v2 h => ?_)
    refine r_ic C dX10_fresh_13 ?_
    refine r_ceq C (tgt := 25) dX10_fresh_14 (by decide) h (fun h => ?_) (fun h => ?_)
    · refine r_aln C dX10_fresh_25 (k := 1) rfl ?_
      refine r_iln C dX10_fresh_26 (k := 2) rfl ?_
      refine r_iln C dX10_fresh_27 (k := 3) rfl ?_
      refine r_aln C dX10_fresh_28 (k := 0) rfl ?_
      refine r_gf C km_0 clX10 (f := 25) (by decide) rfl rfl rfl tf_RX10_171 dX10_fresh_29 h (fun v3 h => ?_)
      obtain ⟨r4, hy, h⟩ := q_calp_some h
      refine r_csi C (st := []) (c_X10_found C.2.2.1 n0 l0 hn0 a1 a2 v3 M r4 hy) tm_RX10_208 mw_X10_found ⟨rfl, rfl⟩ ⟨Nat.le_of_ble_eq_true rfl, Nat.le_of_ble_eq_true rfl⟩ rfl rfl (Nat.le_of_ble_eq_true rfl) dX10_fresh_32 ?_
      refine r_ic C dX10_fresh_35 ?_
      refine r_ceq C (tgt := 44) dX10_fresh_36 (by decide) h (fun h => ?_) (fun h => ?_)
      · refine r_drop [0] rfl ?_
        exact w_X10_fresh_J44 C hr hlk n0 l0 hn0 M  h
      · refine r_aln C dX10_fresh_39 (k := 0) rfl ?_
        refine r_ic C dX10_fresh_40 ?_
        obtain ⟨r5, M6, hy, h⟩ := q_call_some h
        refine r_cvv C (st := []) (c_X10_wrong C.2.2.1 3 M r5 M6 hy) tm_RX10_205 mw_X10_wrong ⟨rfl, rfl⟩ ⟨Nat.le_of_ble_eq_true rfl, Nat.le_of_ble_eq_true rfl⟩ km_0 clX10 rfl rfl (Nat.le_of_ble_eq_true rfl) dX10_fresh_41 ?_
        refine r_drop [0] rfl ?_
        exact w_X10_fresh_J44 C hr hlk n0 l0 hn0 M6  h
    · refine r_aln C dX10_fresh_17 (k := 0) rfl ?_
      refine r_ic C dX10_fresh_18 ?_
      obtain ⟨r7, M8, hy, h⟩ := q_call_some h
      refine r_cvv C (st := []) (c_X10_wrong C.2.2.1 1 M r7 M8 hy) tm_RX10_205 mw_X10_wrong ⟨rfl, rfl⟩ ⟨Nat.le_of_ble_eq_true rfl, Nat.le_of_ble_eq_true rfl⟩ km_0 clX10 rfl rfl (Nat.le_of_ble_eq_true rfl) dX10_fresh_19 ?_
      refine r_goto C (tgt := 44) dX10_fresh_22 (by decide) ?_
      refine r_drop [0] rfl ?_
      exact w_X10_fresh_J44 C hr hlk n0 l0 hn0 M8  h
  · refine r_ic C dX10_fresh_7 ?_
    exact r_iret C hr hlk dX10_fresh_8 h
abbrev rm_X10_keepNow : Room := { frames := 1, cells := 0, slots := 0, locals := 25 }
theorem mw_X10_keepNow : q_mw RX10 yX10_keepNow cX10_keepNow 2 none 0 := ⟨⟨ti_X10_keepNow, tl_X10_keepNow, tn_RX10, td_X10_keepNow⟩, by decide +kernel⟩
def f_X10_keepNow_J45  (M : Mem) : Res :=
  q_gf M 0 46 fun v1 =>
  q_call (f_X10_copies (3 + v1) 0 M) fun r2 M3 =>
  q_gf M3 0 46 fun v4 =>
  q_pf M3 0 46 (v4 + 1) fun M5 =>
  some (0, M5)
theorem w_X10_keepNow_J45 (C : Cx syM p m c cX10_keepNow 2 s args RX10 D ad cA) (hr : meth.sig.returnType = none) (hlk : meth.locks = false)  (M : Mem)  (h : f_X10_keepNow_J45  M = some (r0, M0)) : WM syM p l e rm_X10_keepNow s m args below meth c 2 D ad cA (MQ below (q_Post syM D ad cA none M0) args s 0 0 (q_A syM ad)) M 45 [(0, .ref (ad 0))] [] := by
  unfold f_X10_keepNow_J45 at h
  refine r_aln C dX10_keepNow_45 (k := 0) rfl ?_
  refine r_ic C dX10_keepNow_46 ?_
  refine r_aln C dX10_keepNow_47 (k := 0) rfl ?_
  refine r_gf C km_0 clX10 (f := 46) (by decide) rfl rfl rfl tf_RX10_302 dX10_keepNow_48 h (fun v1 h => ?_)
  refine r_iadd C dX10_keepNow_51 ?_
  refine r_ic C dX10_keepNow_52 ?_
  obtain ⟨r2, M3, hy, h⟩ := q_call_some h
  refine r_cvv C (st := []) (c_X10_copies C.2.2.1 (3 + v1) 0 M r2 M3 hy) tm_RX10_405 mw_X10_copies ⟨rfl, rfl⟩ ⟨Nat.le_of_ble_eq_true rfl, Nat.le_of_ble_eq_true rfl⟩ km_0 clX10 rfl rfl (Nat.le_of_ble_eq_true rfl) dX10_keepNow_53 ?_
  refine r_aln C dX10_keepNow_56 (k := 0) rfl ?_
  refine r_dup C rfl dX10_keepNow_57 ?_
  refine r_gf C km_0 clX10 (f := 46) (by decide) rfl rfl rfl tf_RX10_302 dX10_keepNow_58 h (fun v4 h => ?_)
  refine r_ic C dX10_keepNow_61 ?_
  refine r_iadd C dX10_keepNow_62 ?_
  refine r_pf C km_0 clX10 (f := 46) (by decide) rfl q_dI rfl rfl tf_RX10_302 dX10_keepNow_63 h (fun M5 h => ?_)
  exact r_vret C hr hlk dX10_keepNow_66 h
def f_X10_keepNow_B11  (x1 : Int) (M : Mem) (g11 : Int → Mem → Res) : Res :=
  if w32 20 ≤ w32 x1 then (q_gf M 0 46 fun v1 =>
  q_pf M 0 46 (v1 - 1) fun M2 =>
  f_X10_keepNow_J45  M2)
  else (q_call (f_X10_copies ((3 + x1) - 1) (3 + x1) M) fun r3 M4 =>
  g11 (x1 + 1) M4)
def f_X10_keepNow_L11  (n : Nat) (x1 : Int) (M : Mem) : Res := qlm1 (fun x1 M g11 => f_X10_keepNow_B11  x1 M g11) n x1 M
theorem w_X10_keepNow_B11 (C : Cx syM p m c cX10_keepNow 2 s args RX10 D ad cA) (hr : meth.sig.returnType = none) (hlk : meth.locks = false)  (x1 : Int) (M : Mem) (g11 : Int → Mem → Res)  (ih11 : ∀ (ux1 : Int) (M : Mem), g11 ux1 M = some (r0, M0) → WM syM p l e rm_X10_keepNow s m args below meth c 2 D ad cA (MQ below (q_Post syM D ad cA none M0) args s 0 0 (q_A syM ad)) M 11 [(0, .ref (ad 0)), (1, .int (qI ux1))] []) (h : f_X10_keepNow_B11  x1 M g11 = some (r0, M0)) : WM syM p l e rm_X10_keepNow s m args below meth c 2 D ad cA (MQ below (q_Post syM D ad cA none M0) args s 0 0 (q_A syM ad)) M 11 [(0, .ref (ad 0)), (1, .int (qI x1))] [] := by
  unfold f_X10_keepNow_B11 at h
  refine r_iln C dX10_keepNow_11 (k := 1) rfl ?_
  refine r_bi C dX10_keepNow_12 (by decide) ?_
  refine r_cge C (tgt := 35) dX10_keepNow_14 (by decide) h (fun h => ?_) (fun h => ?_)
  · refine r_aln C dX10_keepNow_35 (k := 0) rfl ?_
    refine r_dup C rfl dX10_keepNow_36 ?_
    refine r_gf C km_0 clX10 (f := 46) (by decide) rfl rfl rfl tf_RX10_302 dX10_keepNow_37 h (fun v1 h => ?_)
    refine r_ic C dX10_keepNow_40 ?_
    refine r_isub C dX10_keepNow_41 ?_
    refine r_pf C km_0 clX10 (f := 46) (by decide) rfl q_dI rfl rfl tf_RX10_302 dX10_keepNow_42 h (fun M2 h => ?_)
    refine r_drop [0] rfl ?_
    exact w_X10_keepNow_J45 C hr hlk  M2  h
  · refine r_aln C dX10_keepNow_17 (k := 0) rfl ?_
    refine r_ic C dX10_keepNow_18 ?_
    refine r_iln C dX10_keepNow_19 (k := 1) rfl ?_
    refine r_iadd C dX10_keepNow_20 ?_
    refine r_ic C dX10_keepNow_21 ?_
    refine r_isub C dX10_keepNow_22 ?_
    refine r_ic C dX10_keepNow_23 ?_
    refine r_iln C dX10_keepNow_24 (k := 1) rfl ?_
    refine r_iadd C dX10_keepNow_25 ?_
    obtain ⟨r3, M4, hy, h⟩ := q_call_some h
    refine r_cvv C (st := []) (c_X10_copies C.2.2.1 ((3 + x1) - 1) (3 + x1) M r3 M4 hy) tm_RX10_405 mw_X10_copies ⟨rfl, rfl⟩ ⟨Nat.le_of_ble_eq_true rfl, Nat.le_of_ble_eq_true rfl⟩ km_0 clX10 rfl rfl (Nat.le_of_ble_eq_true rfl) dX10_keepNow_26 ?_
    refine r_inc C (L1 := [(1, .int (qI (x1 + 1))), (0, .ref (ad 0))]) dX10_keepNow_29 (k := 1) rfl (by decide) rfl ?_
    refine r_goto C (tgt := 11) dX10_keepNow_32 (by decide) ?_
    refine r_drop [1, 0] rfl ?_
    exact ih11 (x1 + 1) M4 h
theorem w_X10_keepNow_L11 (C : Cx syM p m c cX10_keepNow 2 s args RX10 D ad cA) (hr : meth.sig.returnType = none) (hlk : meth.locks = false)    (n : Nat) (x1 : Int) (M : Mem) (h : f_X10_keepNow_L11  n x1 M = some (r0, M0)) : WM syM p l e rm_X10_keepNow s m args below meth c 2 D ad cA (MQ below (q_Post syM D ad cA none M0) args s 0 0 (q_A syM ad)) M 11 [(0, .ref (ad 0)), (1, .int (qI x1))] [] :=
  qlm1_r (Wp := fun ux1 M => WM syM p l e rm_X10_keepNow s m args below meth c 2 D ad cA (MQ below (q_Post syM D ad cA none M0) args s 0 0 (q_A syM ad)) M 11 [(0, .ref (ad 0)), (1, .int (qI ux1))] []) (fun ux1 M g11 ih11 h => w_X10_keepNow_B11 C hr hlk  ux1 M g11  ih11 h) n x1 M h
def f_X10_keepNow  (M : Mem) : Res :=
  q_gf M 0 46 fun v1 =>
  if ¬ w32 v1 = w32 20 then (f_X10_keepNow_J45  M)
  else (f_X10_keepNow_L11  q_N 1 M)
theorem c_X10_keepNow {l : Launch} {D : va_G} {ad : Nat → Nat} {cA : Nat → ClassId} (hi : q_inj syM ad)  (M : Mem) (r0 : Int) (M0 : Mem) (h : f_X10_keepNow  M = some (r0, M0)) : q_Met l syM D ad cA yX10_keepNow cX10_keepNow 2 none rm_X10_keepNow [.ref (ad 0)] M none M0 := by
  refine q_met (L0 := [(0, .ref (ad 0))]) hi okM (by decide) (Nat.le_of_ble_eq_true rfl) rfl ?_
  intro p e s m args below meth c C hr hlk
  unfold f_X10_keepNow at h
  refine r_aln C dX10_keepNow_0 (k := 0) rfl ?_
  refine r_gf C km_0 clX10 (f := 46) (by decide) rfl rfl rfl tf_RX10_302 dX10_keepNow_1 h (fun v1 h => ?_)
  refine r_bi C dX10_keepNow_4 (by decide) ?_
  refine r_cne C (tgt := 45) dX10_keepNow_6 (by decide) h (fun h => ?_) (fun h => ?_)
  · exact w_X10_keepNow_J45 C hr hlk  M  h
  · refine r_ic C dX10_keepNow_9 ?_
    refine r_isn C (L1 := [(1, .int (qI 1)), (0, .ref (ad 0))]) dX10_keepNow_10 (by decide) rfl ?_
    refine r_drop [1, 0] rfl ?_
    exact w_X10_keepNow_L11 C hr hlk   q_N 1 M h
abbrev rm_X10_give : Room := { frames := 2, cells := 0, slots := 0, locals := 46 }
theorem mw_X10_give : q_mw RX10 yX10_give cX10_give 3 (some .int) 2 := ⟨⟨ti_X10_give, tl_X10_give, tn_RX10, td_X10_give⟩, by decide +kernel⟩
def f_X10_give (a0 : Int) (a1 : Int) (M : Mem) : Res :=
  q_pf M 0 0 0 fun M1 =>
  q_calp (f_X10_isSoul a0 M1) fun r2 =>
  if w32 r2 = 0 then (some ((-1), M1))
  else (if w32 a1 < w32 1 then (some ((-1), M1))
  else (if w32 99 < w32 a1 then (some ((-1), M1))
  else (q_al M1 71 184 a0 fun v3 =>
  if w32 v3 ≤ w32 1 then (q_call (f_X10_keepNow  M1) fun r4 M5 =>
  q_al M5 72 184 a0 fun v6 =>
  q_as M5 72 184 a0 (q_min 99 (v6 + a1)) fun M7 =>
  q_al M7 72 184 a0 fun v8 =>
  some (v8, M7))
  else (some ((-1), M1)))))
theorem c_X10_give {l : Launch} {D : va_G} {ad : Nat → Nat} {cA : Nat → ClassId} (hi : q_inj syM ad) (a0 : Int) (a1 : Int) (M : Mem) (r0 : Int) (M0 : Mem) (h : f_X10_give a0 a1 M = some (r0, M0)) : q_Met l syM D ad cA yX10_give cX10_give 3 (some .int) rm_X10_give [.ref (ad 0), .int (qI a0), .int (qI a1)] M (some (.int (qI r0))) M0 := by
  refine q_met (L0 := [(0, .ref (ad 0)), (1, .int (qI a0)), (2, .int (qI a1))]) hi okM (by decide) (Nat.le_of_ble_eq_true rfl) rfl ?_
  intro p e s m args below meth c C hr hlk
  unfold f_X10_give at h
  refine r_aln C dX10_give_0 (k := 0) rfl ?_
  refine r_ic C dX10_give_1 ?_
  refine r_pf C km_0 clX10 (f := 0) (by decide) rfl q_dI rfl rfl tf_RX10_142 dX10_give_2 h (fun M1 h => ?_)
  refine r_aln C dX10_give_5 (k := 0) rfl ?_
  refine r_iln C dX10_give_6 (k := 1) rfl ?_
  obtain ⟨r2, hy, h⟩ := q_calp_some h
  refine r_cvi C (st := []) (c_X10_isSoul C.2.2.1 a0 M1 r2 hy) tm_RX10_411 mw_X10_isSoul ⟨rfl, rfl⟩ ⟨Nat.le_of_ble_eq_true rfl, Nat.le_of_ble_eq_true rfl⟩ km_0 clX10 rfl rfl (Nat.le_of_ble_eq_true rfl) dX10_give_7 ?_
  refine r_zeq C (tgt := 34) dX10_give_10 (by decide) h (fun h => ?_) (fun h => ?_)
  · refine r_ic C dX10_give_34 ?_
    exact r_iret C hr hlk dX10_give_35 h
  · refine r_iln C dX10_give_13 (k := 2) rfl ?_
    refine r_ic C dX10_give_14 ?_
    refine r_clt C (tgt := 34) dX10_give_15 (by decide) h (fun h => ?_) (fun h => ?_)
    · refine r_ic C dX10_give_34 ?_
      exact r_iret C hr hlk dX10_give_35 h
    · refine r_iln C dX10_give_18 (k := 2) rfl ?_
      refine r_bi C dX10_give_19 (by decide) ?_
      refine r_cgt C (tgt := 34) dX10_give_21 (by decide) h (fun h => ?_) (fun h => ?_)
      · refine r_ic C dX10_give_34 ?_
        exact r_iret C hr hlk dX10_give_35 h
      · refine r_aln C dX10_give_24 (k := 0) rfl ?_
        refine r_gs C km_0 clX10 (f := 39) (by decide) rfl (t := 71) rfl tf_RX10_84 dX10_give_25 ?_
        refine r_iln C dX10_give_28 (k := 1) rfl ?_
        refine r_iald C km_71 dX10_give_29 h (fun v3 h => ?_)
        refine r_ic C dX10_give_30 ?_
        refine r_cle C (tgt := 36) dX10_give_31 (by decide) h (fun h => ?_) (fun h => ?_)
        · refine r_aln C dX10_give_36 (k := 0) rfl ?_
          obtain ⟨r4, M5, hy, h⟩ := q_call_some h
          refine r_cvv C (st := []) (c_X10_keepNow C.2.2.1 M1 r4 M5 hy) tm_RX10_430 mw_X10_keepNow ⟨rfl, rfl⟩ ⟨Nat.le_of_ble_eq_true rfl, Nat.le_of_ble_eq_true rfl⟩ km_0 clX10 rfl rfl (Nat.le_of_ble_eq_true rfl) dX10_give_37 ?_
          refine r_aln C dX10_give_40 (k := 0) rfl ?_
          refine r_gs C km_0 clX10 (f := 40) (by decide) rfl (t := 72) rfl tf_RX10_87 dX10_give_41 ?_
          refine r_iln C dX10_give_44 (k := 1) rfl ?_
          refine r_bi C dX10_give_45 (by decide) ?_
          refine r_aln C dX10_give_47 (k := 0) rfl ?_
          refine r_gs C km_0 clX10 (f := 40) (by decide) rfl (t := 72) rfl tf_RX10_87 dX10_give_48 ?_
          refine r_iln C dX10_give_51 (k := 1) rfl ?_
          refine r_iald C km_72 dX10_give_52 h (fun v6 h => ?_)
          refine r_iln C dX10_give_53 (k := 2) rfl ?_
          refine r_iadd C dX10_give_54 ?_
          refine r_q_min C (st := [.int (qI a0), .ref (ad 72)]) tm_RX10_399 ⟨Nat.le_of_ble_eq_true rfl, Nat.le_of_ble_eq_true rfl⟩ dX10_give_55 ?_
          refine r_iast C km_72 dX10_give_58 h (fun M7 h => ?_)
          refine r_aln C dX10_give_59 (k := 0) rfl ?_
          refine r_gs C km_0 clX10 (f := 40) (by decide) rfl (t := 72) rfl tf_RX10_87 dX10_give_60 ?_
          refine r_iln C dX10_give_63 (k := 1) rfl ?_
          refine r_iald C km_72 dX10_give_64 h (fun v8 h => ?_)
          exact r_iret C hr hlk dX10_give_65 h
        · refine r_ic C dX10_give_34 ?_
          exact r_iret C hr hlk dX10_give_35 h
abbrev rm_X10_go : Room := { frames := 6, cells := 0, slots := 0, locals := 145 }
theorem mw_X10_go : q_mw RX10 yX10_go cX10_go 3 (some .int) 1 := ⟨⟨ti_X10_go, tl_X10_go, tn_RX10, td_X10_go⟩, by decide +kernel⟩
def f_X10_go_B43 (x1 : Int) (x2 : Int) (M : Mem) (g43 : Int → Mem → Res) : Res :=
  if w32 x1 ≤ w32 x2 then (q_al M 67 23 0 fun v1 =>
  some (v1, M))
  else (q_call (f_X10_passes 0 1 M) fun r2 M3 =>
  g43 (x2 + 1) M3)
def f_X10_go_L43 (x1 : Int) (n : Nat) (x2 : Int) (M : Mem) : Res := qlm1 (fun x2 M g43 => f_X10_go_B43 x1 x2 M g43) n x2 M
theorem w_X10_go_B43 (C : Cx syM p m c cX10_go 3 s args RX10 D ad cA) (hr : meth.sig.returnType = (some .int)) (hlk : meth.locks = false)  (x1 : Int) (x2 : Int) (M : Mem) (g43 : Int → Mem → Res)  (ih43 : ∀ (ux2 : Int) (M : Mem), g43 ux2 M = some (r0, M0) → WM syM p l e rm_X10_go s m args below meth c 3 D ad cA (MQ below (q_Post syM D ad cA (some (.int (qI r0))) M0) args s 0 0 (q_A syM ad)) M 43 [(0, .ref (ad 0)), (1, .int (qI x1)), (2, .int (qI ux2))] []) (h : f_X10_go_B43 x1 x2 M g43 = some (r0, M0)) : WM syM p l e rm_X10_go s m args below meth c 3 D ad cA (MQ below (q_Post syM D ad cA (some (.int (qI r0))) M0) args s 0 0 (q_A syM ad)) M 43 [(0, .ref (ad 0)), (1, .int (qI x1)), (2, .int (qI x2))] [] := by
  unfold f_X10_go_B43 at h
  refine r_iln C dX10_go_43 (k := 2) rfl ?_
  refine r_iln C dX10_go_44 (k := 1) rfl ?_
  refine r_cge C (tgt := 60) dX10_go_45 (by decide) h (fun h => ?_) (fun h => ?_)
  · refine r_aln C dX10_go_60 (k := 0) rfl ?_
    refine r_gs C km_0 clX10 (f := 35) (by decide) rfl (t := 67) rfl tf_RX10_72 dX10_go_61 ?_
    refine r_ic C dX10_go_64 ?_
    refine r_iald C km_67 dX10_go_65 h (fun v1 h => ?_)
    exact r_iret C hr hlk dX10_go_66 h
  · refine r_aln C dX10_go_48 (k := 0) rfl ?_
    refine r_ic C dX10_go_49 ?_
    refine r_ic C dX10_go_50 ?_
    obtain ⟨r2, M3, hy, h⟩ := q_call_some h
    refine r_cvv C (st := []) (c_X10_passes C.2.2.1 0 1 M r2 M3 hy) tm_RX10_401 mw_X10_passes ⟨rfl, rfl⟩ ⟨Nat.le_of_ble_eq_true rfl, Nat.le_of_ble_eq_true rfl⟩ km_0 clX10 rfl rfl (Nat.le_of_ble_eq_true rfl) dX10_go_51 ?_
    refine r_inc C (L1 := [(2, .int (qI (x2 + 1))), (0, .ref (ad 0)), (1, .int (qI x1))]) dX10_go_54 (k := 2) rfl (by decide) rfl ?_
    refine r_goto C (tgt := 43) dX10_go_57 (by decide) ?_
    refine r_drop [1, 2, 0] rfl ?_
    exact ih43 (x2 + 1) M3 h
theorem w_X10_go_L43 (C : Cx syM p m c cX10_go 3 s args RX10 D ad cA) (hr : meth.sig.returnType = (some .int)) (hlk : meth.locks = false)  (x1 : Int)  (n : Nat) (x2 : Int) (M : Mem) (h : f_X10_go_L43 x1 n x2 M = some (r0, M0)) : WM syM p l e rm_X10_go s m args below meth c 3 D ad cA (MQ below (q_Post syM D ad cA (some (.int (qI r0))) M0) args s 0 0 (q_A syM ad)) M 43 [(0, .ref (ad 0)), (1, .int (qI x1)), (2, .int (qI x2))] [] :=
  qlm1_r (Wp := fun ux2 M => WM syM p l e rm_X10_go s m args below meth c 3 D ad cA (MQ below (q_Post syM D ad cA (some (.int (qI r0))) M0) args s 0 0 (q_A syM ad)) M 43 [(0, .ref (ad 0)), (1, .int (qI x1)), (2, .int (qI ux2))] []) (fun ux2 M g43 ih43 h => w_X10_go_B43 C hr hlk x1 ux2 M g43  ih43 h) n x2 M h
def f_X10_go_J41 (x1 : Int) (M : Mem) : Res :=
  f_X10_go_L43 x1 q_N 0 M
theorem w_X10_go_J41 (C : Cx syM p m c cX10_go 3 s args RX10 D ad cA) (hr : meth.sig.returnType = (some .int)) (hlk : meth.locks = false) (x1 : Int) (M : Mem)  (h : f_X10_go_J41 x1 M = some (r0, M0)) : WM syM p l e rm_X10_go s m args below meth c 3 D ad cA (MQ below (q_Post syM D ad cA (some (.int (qI r0))) M0) args s 0 0 (q_A syM ad)) M 41 [(0, .ref (ad 0)), (1, .int (qI x1))] [] := by
  unfold f_X10_go_J41 at h
  refine r_ic C dX10_go_41 ?_
  refine r_isn C (L1 := [(2, .int (qI 0)), (0, .ref (ad 0)), (1, .int (qI x1))]) dX10_go_42 (by decide) rfl ?_
  refine r_drop [1, 2, 0] rfl ?_
  exact w_X10_go_L43 C hr hlk x1  q_N 0 M h
def f_X10_go (a0 : Int) (M : Mem) : Res :=
  q_pf M 0 0 0 fun M1 =>
  if w32 a0 < 0 then (some ((-1), M1))
  else (if w32 200 < w32 a0 then (some ((-1), M1))
  else (q_al M1 67 23 0 fun v2 =>
  if w32 (v2 + a0) ≤ w32 9800 then (if w32 a0 ≤ 0 then (f_X10_go_J41 a0 M1)
  else (q_pf M1 0 46 0 fun M3 =>
  f_X10_go_J41 a0 M3))
  else (some ((-1), M1))))
theorem c_X10_go {l : Launch} {D : va_G} {ad : Nat → Nat} {cA : Nat → ClassId} (hi : q_inj syM ad) (a0 : Int) (M : Mem) (r0 : Int) (M0 : Mem) (h : f_X10_go a0 M = some (r0, M0)) : q_Met l syM D ad cA yX10_go cX10_go 3 (some .int) rm_X10_go [.ref (ad 0), .int (qI a0)] M (some (.int (qI r0))) M0 := by
  refine q_met (L0 := [(0, .ref (ad 0)), (1, .int (qI a0))]) hi okM (by decide) (Nat.le_of_ble_eq_true rfl) rfl ?_
  intro p e s m args below meth c C hr hlk
  unfold f_X10_go at h
  refine r_aln C dX10_go_0 (k := 0) rfl ?_
  refine r_ic C dX10_go_1 ?_
  refine r_pf C km_0 clX10 (f := 0) (by decide) rfl q_dI rfl rfl tf_RX10_142 dX10_go_2 h (fun M1 h => ?_)
  refine r_iln C dX10_go_5 (k := 1) rfl ?_
  refine r_zlt C (tgt := 30) dX10_go_6 (by decide) h (fun h => ?_) (fun h => ?_)
  · refine r_ic C dX10_go_30 ?_
    exact r_iret C hr hlk dX10_go_31 h
  · refine r_iln C dX10_go_9 (k := 1) rfl ?_
    refine r_si C dX10_go_10 (by decide) ?_
    refine r_cgt C (tgt := 30) dX10_go_13 (by decide) h (fun h => ?_) (fun h => ?_)
    · refine r_ic C dX10_go_30 ?_
      exact r_iret C hr hlk dX10_go_31 h
    · refine r_aln C dX10_go_16 (k := 0) rfl ?_
      refine r_gs C km_0 clX10 (f := 35) (by decide) rfl (t := 67) rfl tf_RX10_72 dX10_go_17 ?_
      refine r_ic C dX10_go_20 ?_
      refine r_iald C km_67 dX10_go_21 h (fun v2 h => ?_)
      refine r_iln C dX10_go_22 (k := 1) rfl ?_
      refine r_iadd C dX10_go_23 ?_
      refine r_si C dX10_go_24 (by decide) ?_
      refine r_cle C (tgt := 32) dX10_go_27 (by decide) h (fun h => ?_) (fun h => ?_)
      · refine r_iln C dX10_go_32 (k := 1) rfl ?_
        refine r_zle C (tgt := 41) dX10_go_33 (by decide) h (fun h => ?_) (fun h => ?_)
        · exact w_X10_go_J41 C hr hlk a0 M1  h
        · refine r_aln C dX10_go_36 (k := 0) rfl ?_
          refine r_ic C dX10_go_37 ?_
          refine r_pf C km_0 clX10 (f := 46) (by decide) rfl q_dI rfl rfl tf_RX10_302 dX10_go_38 h (fun M3 h => ?_)
          exact w_X10_go_J41 C hr hlk a0 M3  h
      · refine r_ic C dX10_go_30 ?_
        exact r_iret C hr hlk dX10_go_31 h
abbrev rm_X10_goes : Room := { frames := 6, cells := 0, slots := 0, locals := 145 }
theorem mw_X10_goes : q_mw RX10 yX10_goes cX10_goes 3 (some .int) 1 := ⟨⟨ti_X10_goes, tl_X10_goes, tn_RX10, td_X10_goes⟩, by decide +kernel⟩
def f_X10_goes_B23 (x1 : Int) (x2 : Int) (M : Mem) (g23 : Int → Mem → Res) : Res :=
  if w32 199 < w32 x2 then (some ((-2), M))
  else (q_al M 71 184 (8 + x1) fun v1 =>
  if ¬ w32 v1 = w32 2 then (q_call (f_X10_passes 1 0 M) fun r2 M3 =>
  g23 (x2 + 1) M3)
  else (some (x2, M)))
def f_X10_goes_L23 (x1 : Int) (n : Nat) (x2 : Int) (M : Mem) : Res := qlm1 (fun x2 M g23 => f_X10_goes_B23 x1 x2 M g23) n x2 M
theorem w_X10_goes_B23 (C : Cx syM p m c cX10_goes 3 s args RX10 D ad cA) (hr : meth.sig.returnType = (some .int)) (hlk : meth.locks = false)  (x1 : Int) (x2 : Int) (M : Mem) (g23 : Int → Mem → Res)  (ih23 : ∀ (ux2 : Int) (M : Mem), g23 ux2 M = some (r0, M0) → WM syM p l e rm_X10_goes s m args below meth c 3 D ad cA (MQ below (q_Post syM D ad cA (some (.int (qI r0))) M0) args s 0 0 (q_A syM ad)) M 23 [(0, .ref (ad 0)), (1, .int (qI x1)), (2, .int (qI ux2))] []) (h : f_X10_goes_B23 x1 x2 M g23 = some (r0, M0)) : WM syM p l e rm_X10_goes s m args below meth c 3 D ad cA (MQ below (q_Post syM D ad cA (some (.int (qI r0))) M0) args s 0 0 (q_A syM ad)) M 23 [(0, .ref (ad 0)), (1, .int (qI x1)), (2, .int (qI x2))] [] := by
  unfold f_X10_goes_B23 at h
  refine r_iln C dX10_goes_23 (k := 2) rfl ?_
  refine r_si C dX10_goes_24 (by decide) ?_
  refine r_cgt C (tgt := 57) dX10_goes_27 (by decide) h (fun h => ?_) (fun h => ?_)
  · refine r_bi C dX10_goes_57 (by decide) ?_
    exact r_iret C hr hlk dX10_goes_59 h
  · refine r_aln C dX10_goes_30 (k := 0) rfl ?_
    refine r_gs C km_0 clX10 (f := 39) (by decide) rfl (t := 71) rfl tf_RX10_84 dX10_goes_31 ?_
    refine r_bi C dX10_goes_34 (by decide) ?_
    refine r_iln C dX10_goes_36 (k := 1) rfl ?_
    refine r_iadd C dX10_goes_37 ?_
    refine r_iald C km_71 dX10_goes_38 h (fun v1 h => ?_)
    refine r_ic C dX10_goes_39 ?_
    refine r_cne C (tgt := 45) dX10_goes_40 (by decide) h (fun h => ?_) (fun h => ?_)
    · refine r_aln C dX10_goes_45 (k := 0) rfl ?_
      refine r_ic C dX10_goes_46 ?_
      refine r_ic C dX10_goes_47 ?_
      obtain ⟨r2, M3, hy, h⟩ := q_call_some h
      refine r_cvv C (st := []) (c_X10_passes C.2.2.1 1 0 M r2 M3 hy) tm_RX10_401 mw_X10_passes ⟨rfl, rfl⟩ ⟨Nat.le_of_ble_eq_true rfl, Nat.le_of_ble_eq_true rfl⟩ km_0 clX10 rfl rfl (Nat.le_of_ble_eq_true rfl) dX10_goes_48 ?_
      refine r_inc C (L1 := [(2, .int (qI (x2 + 1))), (0, .ref (ad 0)), (1, .int (qI x1))]) dX10_goes_51 (k := 2) rfl (by decide) rfl ?_
      refine r_goto C (tgt := 23) dX10_goes_54 (by decide) ?_
      refine r_drop [1, 2, 0] rfl ?_
      exact ih23 (x2 + 1) M3 h
    · refine r_iln C dX10_goes_43 (k := 2) rfl ?_
      exact r_iret C hr hlk dX10_goes_44 h
theorem w_X10_goes_L23 (C : Cx syM p m c cX10_goes 3 s args RX10 D ad cA) (hr : meth.sig.returnType = (some .int)) (hlk : meth.locks = false)  (x1 : Int)  (n : Nat) (x2 : Int) (M : Mem) (h : f_X10_goes_L23 x1 n x2 M = some (r0, M0)) : WM syM p l e rm_X10_goes s m args below meth c 3 D ad cA (MQ below (q_Post syM D ad cA (some (.int (qI r0))) M0) args s 0 0 (q_A syM ad)) M 23 [(0, .ref (ad 0)), (1, .int (qI x1)), (2, .int (qI x2))] [] :=
  qlm1_r (Wp := fun ux2 M => WM syM p l e rm_X10_goes s m args below meth c 3 D ad cA (MQ below (q_Post syM D ad cA (some (.int (qI r0))) M0) args s 0 0 (q_A syM ad)) M 23 [(0, .ref (ad 0)), (1, .int (qI x1)), (2, .int (qI ux2))] []) (fun ux2 M g23 ih23 h => w_X10_goes_B23 C hr hlk x1 ux2 M g23  ih23 h) n x2 M h
def f_X10_goes (a0 : Int) (M : Mem) : Res :=
  q_pf M 0 0 0 fun M1 =>
  q_calp (f_X10_isSoul a0 M1) fun r2 =>
  if ¬ w32 r2 = 0 then (q_call (f_X10_copies 1 0 M1) fun r3 M4 =>
  f_X10_goes_L23 a0 q_N 0 M4)
  else (some ((-1), M1))
theorem c_X10_goes {l : Launch} {D : va_G} {ad : Nat → Nat} {cA : Nat → ClassId} (hi : q_inj syM ad) (a0 : Int) (M : Mem) (r0 : Int) (M0 : Mem) (h : f_X10_goes a0 M = some (r0, M0)) : q_Met l syM D ad cA yX10_goes cX10_goes 3 (some .int) rm_X10_goes [.ref (ad 0), .int (qI a0)] M (some (.int (qI r0))) M0 := by
  refine q_met (L0 := [(0, .ref (ad 0)), (1, .int (qI a0))]) hi okM (by decide) (Nat.le_of_ble_eq_true rfl) rfl ?_
  intro p e s m args below meth c C hr hlk
  unfold f_X10_goes at h
  refine r_aln C dX10_goes_0 (k := 0) rfl ?_
  refine r_ic C dX10_goes_1 ?_
  refine r_pf C km_0 clX10 (f := 0) (by decide) rfl q_dI rfl rfl tf_RX10_142 dX10_goes_2 h (fun M1 h => ?_)
  refine r_aln C dX10_goes_5 (k := 0) rfl ?_
  refine r_iln C dX10_goes_6 (k := 1) rfl ?_
  obtain ⟨r2, hy, h⟩ := q_calp_some h
  refine r_cvi C (st := []) (c_X10_isSoul C.2.2.1 a0 M1 r2 hy) tm_RX10_411 mw_X10_isSoul ⟨rfl, rfl⟩ ⟨Nat.le_of_ble_eq_true rfl, Nat.le_of_ble_eq_true rfl⟩ km_0 clX10 rfl rfl (Nat.le_of_ble_eq_true rfl) dX10_goes_7 ?_
  refine r_zne C (tgt := 15) dX10_goes_10 (by decide) h (fun h => ?_) (fun h => ?_)
  · refine r_aln C dX10_goes_15 (k := 0) rfl ?_
    refine r_ic C dX10_goes_16 ?_
    refine r_ic C dX10_goes_17 ?_
    obtain ⟨r3, M4, hy, h⟩ := q_call_some h
    refine r_cvv C (st := []) (c_X10_copies C.2.2.1 1 0 M1 r3 M4 hy) tm_RX10_405 mw_X10_copies ⟨rfl, rfl⟩ ⟨Nat.le_of_ble_eq_true rfl, Nat.le_of_ble_eq_true rfl⟩ km_0 clX10 rfl rfl (Nat.le_of_ble_eq_true rfl) dX10_goes_18 ?_
    refine r_ic C dX10_goes_21 ?_
    refine r_isn C (L1 := [(2, .int (qI 0)), (0, .ref (ad 0)), (1, .int (qI a0))]) dX10_goes_22 (by decide) rfl ?_
    refine r_drop [1, 2, 0] rfl ?_
    exact w_X10_goes_L23 C hr hlk a0  q_N 0 M4 h
  · refine r_ic C dX10_goes_13 ?_
    exact r_iret C hr hlk dX10_goes_14 h
abbrev rm_X10_half : Room := { frames := 0, cells := 0, slots := 0, locals := 0 }
theorem mw_X10_half : q_ms yX10_half cX10_half 3 none 1 := ⟨⟨ts_X10_half, tn_RX10, td_X10_half⟩, by decide +kernel⟩
def f_X10_half_B7 (n0 : Nat) (l0 : Nat) (x1 : Int) (x2 : Int) (M : Mem) (g7 : Int → Mem → Res) : Res :=
  if w32 x1 ≤ w32 x2 then (some (0, M))
  else (q_al M n0 l0 (x1 + x2) fun v1 =>
  q_as M n0 l0 x2 v1 fun M2 =>
  g7 (x2 + 1) M2)
def f_X10_half_L7 (n0 : Nat) (l0 : Nat) (x1 : Int) (n : Nat) (x2 : Int) (M : Mem) : Res := qlm1 (fun x2 M g7 => f_X10_half_B7 n0 l0 x1 x2 M g7) n x2 M
theorem w_X10_half_B7 (C : Cx syM p m c cX10_half 3 s args RX10 D ad cA) (hr : meth.sig.returnType = none) (hlk : meth.locks = false) (n0 : Nat) (l0 : Nat) (hn0 : syM.1 n0 = (2, l0)) (x1 : Int) (x2 : Int) (M : Mem) (g7 : Int → Mem → Res)  (ih7 : ∀ (ux2 : Int) (M : Mem), g7 ux2 M = some (r0, M0) → WM syM p l e rm_X10_half s m args below meth c 3 D ad cA (MQ below (q_Post syM D ad cA none M0) args s 0 0 (q_A syM ad)) M 7 [(0, .ref (ad n0)), (1, .int (qI x1)), (2, .int (qI ux2))] []) (h : f_X10_half_B7 n0 l0 x1 x2 M g7 = some (r0, M0)) : WM syM p l e rm_X10_half s m args below meth c 3 D ad cA (MQ below (q_Post syM D ad cA none M0) args s 0 0 (q_A syM ad)) M 7 [(0, .ref (ad n0)), (1, .int (qI x1)), (2, .int (qI x2))] [] := by
  unfold f_X10_half_B7 at h
  refine r_iln C dX10_half_7 (k := 2) rfl ?_
  refine r_iln C dX10_half_8 (k := 1) rfl ?_
  refine r_cge C (tgt := 26) dX10_half_9 (by decide) h (fun h => ?_) (fun h => ?_)
  · exact r_vret C hr hlk dX10_half_26 h
  · refine r_aln C dX10_half_12 (k := 0) rfl ?_
    refine r_iln C dX10_half_13 (k := 2) rfl ?_
    refine r_aln C dX10_half_14 (k := 0) rfl ?_
    refine r_iln C dX10_half_15 (k := 1) rfl ?_
    refine r_iln C dX10_half_16 (k := 2) rfl ?_
    refine r_iadd C dX10_half_17 ?_
    refine r_iald C hn0 dX10_half_18 h (fun v1 h => ?_)
    refine r_iast C hn0 dX10_half_19 h (fun M2 h => ?_)
    refine r_inc C (L1 := [(2, .int (qI (x2 + 1))), (0, .ref (ad n0)), (1, .int (qI x1))]) dX10_half_20 (k := 2) rfl (by decide) rfl ?_
    refine r_goto C (tgt := 7) dX10_half_23 (by decide) ?_
    refine r_drop [1, 2, 0] rfl ?_
    exact ih7 (x2 + 1) M2 h
theorem w_X10_half_L7 (C : Cx syM p m c cX10_half 3 s args RX10 D ad cA) (hr : meth.sig.returnType = none) (hlk : meth.locks = false) (n0 : Nat) (l0 : Nat) (hn0 : syM.1 n0 = (2, l0)) (x1 : Int)  (n : Nat) (x2 : Int) (M : Mem) (h : f_X10_half_L7 n0 l0 x1 n x2 M = some (r0, M0)) : WM syM p l e rm_X10_half s m args below meth c 3 D ad cA (MQ below (q_Post syM D ad cA none M0) args s 0 0 (q_A syM ad)) M 7 [(0, .ref (ad n0)), (1, .int (qI x1)), (2, .int (qI x2))] [] :=
  qlm1_r (Wp := fun ux2 M => WM syM p l e rm_X10_half s m args below meth c 3 D ad cA (MQ below (q_Post syM D ad cA none M0) args s 0 0 (q_A syM ad)) M 7 [(0, .ref (ad n0)), (1, .int (qI x1)), (2, .int (qI ux2))] []) (fun ux2 M g7 ih7 h => w_X10_half_B7 C hr hlk n0 l0 hn0 x1 ux2 M g7  ih7 h) n x2 M h
def f_X10_half (n0 : Nat) (l0 : Nat) (M : Mem) : Res :=
  q_nz 2 <| f_X10_half_L7 n0 l0 ((w32 ((l0 : Nat) : Int)).tdiv (w32 2)) q_N 0 M
theorem c_X10_half {l : Launch} {D : va_G} {ad : Nat → Nat} {cA : Nat → ClassId} (hi : q_inj syM ad) (n0 : Nat) (l0 : Nat) (hn0 : syM.1 n0 = (2, l0)) (M : Mem) (r0 : Int) (M0 : Mem) (h : f_X10_half n0 l0 M = some (r0, M0)) : q_Met l syM D ad cA yX10_half cX10_half 3 none rm_X10_half [.ref (ad n0)] M none M0 := by
  refine q_met (L0 := [(0, .ref (ad n0))]) hi okM (by decide) (Nat.le_of_ble_eq_true rfl) rfl ?_
  intro p e s m args below meth c C hr hlk
  unfold f_X10_half at h
  refine r_aln C dX10_half_0 (k := 0) rfl ?_
  refine r_alen C hn0 (by decide) (by decide) (by decide) (t0 := 0) rfl dX10_half_1 ?_
  refine r_ic C dX10_half_2 ?_
  refine r_idiv C dX10_half_3 h (fun h => ?_)
  refine r_isn C (L1 := [(1, .int (qI ((w32 ((l0 : Nat) : Int)).tdiv (w32 2)))), (0, .ref (ad n0))]) dX10_half_4 (by decide) rfl ?_
  refine r_ic C dX10_half_5 ?_
  refine r_isn C (L1 := [(2, .int (qI 0)), (1, .int (qI ((w32 ((l0 : Nat) : Int)).tdiv (w32 2)))), (0, .ref (ad n0))]) dX10_half_6 (by decide) rfl ?_
  refine r_drop [2, 1, 0] rfl ?_
  exact w_X10_half_L7 C hr hlk n0 l0 hn0 ((w32 ((l0 : Nat) : Int)).tdiv (w32 2))  q_N 0 M h
abbrev rm_X10_hasOf : Room := { frames := 0, cells := 0, slots := 0, locals := 0 }
theorem mw_X10_hasOf : q_mw RX10 yX10_hasOf cX10_hasOf 5 (some .int) 4 := ⟨⟨ti_X10_hasOf, tl_X10_hasOf, tn_RX10, td_X10_hasOf⟩, by decide +kernel⟩
def f_X10_hasOf (a0 : Int) (a1 : Int) (a2 : Int) (a3 : Int) (M : Mem) : Option Int :=
  if ¬ w32 a2 = 0 then (if ¬ w32 a3 = 0 then (q_al M 72 184 a0 fun v1 =>
  q_al M 38 16 a1 fun v2 =>
  some (v1 - v2))
  else (q_al M 38 16 a0 fun v3 =>
  q_al M 72 184 a0 fun v4 =>
  some (v3 + v4)))
  else (if ¬ w32 a3 = 0 then (q_al M 38 16 a0 fun v5 =>
  some v5)
  else (q_al M 38 16 a0 fun v6 =>
  q_nz 2 <| some ((w32 v6).tdiv (w32 2))))
theorem c_X10_hasOf {l : Launch} {D : va_G} {ad : Nat → Nat} {cA : Nat → ClassId} (hi : q_inj syM ad) (a0 : Int) (a1 : Int) (a2 : Int) (a3 : Int) (M : Mem) (r0 : Int) (h : f_X10_hasOf a0 a1 a2 a3 M = some r0) : q_Met l syM D ad cA yX10_hasOf cX10_hasOf 5 (some .int) rm_X10_hasOf [.ref (ad 0), .int (qI a0), .int (qI a1), .int (qI a2), .int (qI a3)] M (some (.int (qI r0))) M := by
  refine q_met (L0 := [(0, .ref (ad 0)), (1, .int (qI a0)), (2, .int (qI a1)), (3, .int (qI a2)), (4, .int (qI a3))]) hi okM (by decide) (Nat.le_of_ble_eq_true rfl) rfl ?_
  intro p e s m args below meth c C hr hlk
  unfold f_X10_hasOf at h
  refine r_iln C dX10_hasOf_0 (k := 3) rfl ?_
  refine r_zne C (tgt := 27) dX10_hasOf_1 (by decide) h (fun h => ?_) (fun h => ?_)
  · refine r_il C dX10_hasOf_27 (k := 4) rfl ?_
    refine r_zne C (tgt := 48) dX10_hasOf_29 (by decide) h (fun h => ?_) (fun h => ?_)
    · refine r_aln C dX10_hasOf_48 (k := 0) rfl ?_
      refine r_gs C km_0 clX10 (f := 40) (by decide) rfl (t := 72) rfl tf_RX10_87 dX10_hasOf_49 ?_
      refine r_iln C dX10_hasOf_52 (k := 1) rfl ?_
      refine r_iald C km_72 dX10_hasOf_53 h (fun v1 h => ?_)
      refine r_aln C dX10_hasOf_54 (k := 0) rfl ?_
      refine r_gs C km_0 clX10 (f := 6) (by decide) rfl (t := 38) rfl tf_RX10_22 dX10_hasOf_55 ?_
      refine r_iln C dX10_hasOf_58 (k := 2) rfl ?_
      refine r_iald C km_38 dX10_hasOf_59 h (fun v2 h => ?_)
      refine r_isub C dX10_hasOf_60 ?_
      exact r_iretp C hr hlk dX10_hasOf_61 h
    · refine r_aln C dX10_hasOf_32 (k := 0) rfl ?_
      refine r_gs C km_0 clX10 (f := 6) (by decide) rfl (t := 38) rfl tf_RX10_22 dX10_hasOf_33 ?_
      refine r_iln C dX10_hasOf_36 (k := 1) rfl ?_
      refine r_iald C km_38 dX10_hasOf_37 h (fun v3 h => ?_)
      refine r_aln C dX10_hasOf_38 (k := 0) rfl ?_
      refine r_gs C km_0 clX10 (f := 40) (by decide) rfl (t := 72) rfl tf_RX10_87 dX10_hasOf_39 ?_
      refine r_iln C dX10_hasOf_42 (k := 1) rfl ?_
      refine r_iald C km_72 dX10_hasOf_43 h (fun v4 h => ?_)
      refine r_iadd C dX10_hasOf_44 ?_
      refine r_goto C (tgt := 61) dX10_hasOf_45 (by decide) ?_
      exact r_iretp C hr hlk dX10_hasOf_61 h
  · refine r_il C dX10_hasOf_4 (k := 4) rfl ?_
    refine r_zne C (tgt := 20) dX10_hasOf_6 (by decide) h (fun h => ?_) (fun h => ?_)
    · refine r_aln C dX10_hasOf_20 (k := 0) rfl ?_
      refine r_gs C km_0 clX10 (f := 6) (by decide) rfl (t := 38) rfl tf_RX10_22 dX10_hasOf_21 ?_
      refine r_iln C dX10_hasOf_24 (k := 1) rfl ?_
      refine r_iald C km_38 dX10_hasOf_25 h (fun v5 h => ?_)
      exact r_iretp C hr hlk dX10_hasOf_26 h
    · refine r_aln C dX10_hasOf_9 (k := 0) rfl ?_
      refine r_gs C km_0 clX10 (f := 6) (by decide) rfl (t := 38) rfl tf_RX10_22 dX10_hasOf_10 ?_
      refine r_iln C dX10_hasOf_13 (k := 1) rfl ?_
      refine r_iald C km_38 dX10_hasOf_14 h (fun v6 h => ?_)
      refine r_ic C dX10_hasOf_15 ?_
      refine r_idiv C dX10_hasOf_16 h (fun h => ?_)
      refine r_goto C (tgt := 26) dX10_hasOf_17 (by decide) ?_
      exact r_iretp C hr hlk dX10_hasOf_26 h
abbrev rm_X10_isFull : Room := { frames := 1, cells := 0, slots := 0, locals := 21 }
theorem mw_X10_isFull : q_mw RX10 yX10_isFull cX10_isFull 2 (some .boolean) 1 := ⟨⟨ti_X10_isFull, tl_X10_isFull, tn_RX10, td_X10_isFull⟩, by decide +kernel⟩
def f_X10_isFull_J28 (x1 : Int) (M : Mem) : Option Int :=
  if ¬ w32 x1 = w32 2 then (some 0)
  else (q_calp (f_X10_fresher 2 M) fun r1 =>
  if ¬ w32 r1 = w32 8 then (some 0)
  else (some 1))
theorem w_X10_isFull_J28 (C : Cx syM p m c cX10_isFull 2 s args RX10 D ad cA) (hr : meth.sig.returnType = (some .boolean)) (hlk : meth.locks = false) (x1 : Int) (M : Mem)  (h : f_X10_isFull_J28 x1 M = some r0) : WM syM p l e rm_X10_isFull s m args below meth c 2 D ad cA (MQ below (q_Post syM D ad cA (some (.int (qI r0))) M) args s 0 0 (q_A syM ad)) M 28 [(0, .ref (ad 0)), (1, .int (qI x1))] [] := by
  unfold f_X10_isFull_J28 at h
  refine r_iln C dX10_isFull_28 (k := 1) rfl ?_
  refine r_ic C dX10_isFull_29 ?_
  refine r_cne C (tgt := 47) dX10_isFull_30 (by decide) h (fun h => ?_) (fun h => ?_)
  · refine r_ic C dX10_isFull_47 ?_
    exact r_zretp C (by decide) hr hlk dX10_isFull_48 h
  · refine r_aln C dX10_isFull_33 (k := 0) rfl ?_
    refine r_ic C dX10_isFull_34 ?_
    obtain ⟨r1, hy, h⟩ := q_calp_some h
    refine r_cvi C (st := []) (c_X10_fresher C.2.2.1 2 M r1 hy) tm_RX10_212 mw_X10_fresher ⟨rfl, rfl⟩ ⟨Nat.le_of_ble_eq_true rfl, Nat.le_of_ble_eq_true rfl⟩ km_0 clX10 rfl rfl (Nat.le_of_ble_eq_true rfl) dX10_isFull_35 ?_
    refine r_bi C dX10_isFull_38 (by decide) ?_
    refine r_cne C (tgt := 47) dX10_isFull_40 (by decide) h (fun h => ?_) (fun h => ?_)
    · refine r_ic C dX10_isFull_47 ?_
      exact r_zretp C (by decide) hr hlk dX10_isFull_48 h
    · refine r_ic C dX10_isFull_43 ?_
      refine r_goto C (tgt := 48) dX10_isFull_44 (by decide) ?_
      exact r_zretp C (by decide) hr hlk dX10_isFull_48 h
def f_X10_isFull_J14 (x1 : Int) (M : Mem) : Option Int :=
  if ¬ w32 x1 = w32 1 then (f_X10_isFull_J28 x1 M)
  else (q_calp (f_X10_fresher 1 M) fun r1 =>
  if w32 r1 = w32 4 then (some 1)
  else (f_X10_isFull_J28 x1 M))
theorem w_X10_isFull_J14 (C : Cx syM p m c cX10_isFull 2 s args RX10 D ad cA) (hr : meth.sig.returnType = (some .boolean)) (hlk : meth.locks = false) (x1 : Int) (M : Mem)  (h : f_X10_isFull_J14 x1 M = some r0) : WM syM p l e rm_X10_isFull s m args below meth c 2 D ad cA (MQ below (q_Post syM D ad cA (some (.int (qI r0))) M) args s 0 0 (q_A syM ad)) M 14 [(0, .ref (ad 0)), (1, .int (qI x1))] [] := by
  unfold f_X10_isFull_J14 at h
  refine r_iln C dX10_isFull_14 (k := 1) rfl ?_
  refine r_ic C dX10_isFull_15 ?_
  refine r_cne C (tgt := 28) dX10_isFull_16 (by decide) h (fun h => ?_) (fun h => ?_)
  · exact w_X10_isFull_J28 C hr hlk x1 M  h
  · refine r_aln C dX10_isFull_19 (k := 0) rfl ?_
    refine r_ic C dX10_isFull_20 ?_
    obtain ⟨r1, hy, h⟩ := q_calp_some h
    refine r_cvi C (st := []) (c_X10_fresher C.2.2.1 1 M r1 hy) tm_RX10_212 mw_X10_fresher ⟨rfl, rfl⟩ ⟨Nat.le_of_ble_eq_true rfl, Nat.le_of_ble_eq_true rfl⟩ km_0 clX10 rfl rfl (Nat.le_of_ble_eq_true rfl) dX10_isFull_21 ?_
    refine r_ic C dX10_isFull_24 ?_
    refine r_ceq C (tgt := 43) dX10_isFull_25 (by decide) h (fun h => ?_) (fun h => ?_)
    · refine r_ic C dX10_isFull_43 ?_
      refine r_goto C (tgt := 48) dX10_isFull_44 (by decide) ?_
      exact r_zretp C (by decide) hr hlk dX10_isFull_48 h
    · exact w_X10_isFull_J28 C hr hlk x1 M  h
def f_X10_isFull (a0 : Int) (M : Mem) : Option Int :=
  if ¬ w32 a0 = 0 then (f_X10_isFull_J14 a0 M)
  else (q_calp (f_X10_fresher 0 M) fun r1 =>
  if w32 r1 = w32 8 then (some 1)
  else (f_X10_isFull_J14 a0 M))
theorem c_X10_isFull {l : Launch} {D : va_G} {ad : Nat → Nat} {cA : Nat → ClassId} (hi : q_inj syM ad) (a0 : Int) (M : Mem) (r0 : Int) (h : f_X10_isFull a0 M = some r0) : q_Met l syM D ad cA yX10_isFull cX10_isFull 2 (some .boolean) rm_X10_isFull [.ref (ad 0), .int (qI a0)] M (some (.int (qI r0))) M := by
  refine q_met (L0 := [(0, .ref (ad 0)), (1, .int (qI a0))]) hi okM (by decide) (Nat.le_of_ble_eq_true rfl) rfl ?_
  intro p e s m args below meth c C hr hlk
  unfold f_X10_isFull at h
  refine r_iln C dX10_isFull_0 (k := 1) rfl ?_
  refine r_zne C (tgt := 14) dX10_isFull_1 (by decide) h (fun h => ?_) (fun h => ?_)
  · exact w_X10_isFull_J14 C hr hlk a0 M  h
  · refine r_aln C dX10_isFull_4 (k := 0) rfl ?_
    refine r_ic C dX10_isFull_5 ?_
    obtain ⟨r1, hy, h⟩ := q_calp_some h
    refine r_cvi C (st := []) (c_X10_fresher C.2.2.1 0 M r1 hy) tm_RX10_212 mw_X10_fresher ⟨rfl, rfl⟩ ⟨Nat.le_of_ble_eq_true rfl, Nat.le_of_ble_eq_true rfl⟩ km_0 clX10 rfl rfl (Nat.le_of_ble_eq_true rfl) dX10_isFull_6 ?_
    refine r_bi C dX10_isFull_9 (by decide) ?_
    refine r_ceq C (tgt := 43) dX10_isFull_11 (by decide) h (fun h => ?_) (fun h => ?_)
    · refine r_ic C dX10_isFull_43 ?_
      refine r_goto C (tgt := 48) dX10_isFull_44 (by decide) ?_
      exact r_zretp C (by decide) hr hlk dX10_isFull_48 h
    · exact w_X10_isFull_J14 C hr hlk a0 M  h
abbrev rm_X10_isRest : Room := { frames := 1, cells := 0, slots := 0, locals := 24 }
theorem mw_X10_isRest : q_mw RX10 yX10_isRest cX10_isRest 6 (some .boolean) 3 := ⟨⟨ti_X10_isRest, tl_X10_isRest, tn_RX10, td_X10_isRest⟩, by decide +kernel⟩
def f_X10_isRest (a0 : Int) (a1 : Int) (a2 : Int) (M : Mem) : Option Int :=
  q_nz 2 <| q_nz 2 <| q_calp (f_X10_hasOf a0 a1 (1 - ((w32 a2).tdiv (w32 2))) ((w32 a2).tmod (w32 2)) M) fun r1 =>
  q_calp (f_X10_hasOf a0 a1 ((w32 a2).tdiv (w32 2)) ((w32 a2).tmod (w32 2)) M) fun r2 =>
  if w32 r2 < w32 r1 then (some 0)
  else (q_calp (f_X10_hasOf a1 a0 (1 - ((w32 a2).tmod (w32 2))) ((w32 a2).tdiv (w32 2)) M) fun r3 =>
  q_calp (f_X10_hasOf a1 a0 ((w32 a2).tmod (w32 2)) ((w32 a2).tdiv (w32 2)) M) fun r4 =>
  if w32 r4 < w32 r3 then (some 0)
  else (some 1))
theorem c_X10_isRest {l : Launch} {D : va_G} {ad : Nat → Nat} {cA : Nat → ClassId} (hi : q_inj syM ad) (a0 : Int) (a1 : Int) (a2 : Int) (M : Mem) (r0 : Int) (h : f_X10_isRest a0 a1 a2 M = some r0) : q_Met l syM D ad cA yX10_isRest cX10_isRest 6 (some .boolean) rm_X10_isRest [.ref (ad 0), .int (qI a0), .int (qI a1), .int (qI a2)] M (some (.int (qI r0))) M := by
  refine q_met (L0 := [(0, .ref (ad 0)), (1, .int (qI a0)), (2, .int (qI a1)), (3, .int (qI a2))]) hi okM (by decide) (Nat.le_of_ble_eq_true rfl) rfl ?_
  intro p e s m args below meth c C hr hlk
  unfold f_X10_isRest at h
  refine r_iln C dX10_isRest_0 (k := 3) rfl ?_
  refine r_ic C dX10_isRest_1 ?_
  refine r_idiv C dX10_isRest_2 h (fun h => ?_)
  refine r_is C (L1 := [(4, .int (qI ((w32 a2).tdiv (w32 2)))), (0, .ref (ad 0)), (1, .int (qI a0)), (2, .int (qI a1)), (3, .int (qI a2))]) dX10_isRest_3 (by decide) rfl ?_
  refine r_iln C dX10_isRest_5 (k := 4) rfl ?_
  refine r_ic C dX10_isRest_6 ?_
  refine r_irem C dX10_isRest_7 h (fun h => ?_)
  refine r_is C (L1 := [(5, .int (qI ((w32 a2).tmod (w32 2)))), (4, .int (qI ((w32 a2).tdiv (w32 2)))), (0, .ref (ad 0)), (1, .int (qI a0)), (2, .int (qI a1)), (3, .int (qI a2))]) dX10_isRest_8 (by decide) rfl ?_
  refine r_aln C dX10_isRest_10 (k := 2) rfl ?_
  refine r_iln C dX10_isRest_11 (k := 3) rfl ?_
  refine r_iln C dX10_isRest_12 (k := 4) rfl ?_
  refine r_ic C dX10_isRest_13 ?_
  refine r_il C dX10_isRest_14 (k := 1) rfl ?_
  refine r_isub C dX10_isRest_16 ?_
  refine r_il C dX10_isRest_17 (k := 0) rfl ?_
  obtain ⟨r1, hy, h⟩ := q_calp_some h
  refine r_cvi C (st := []) (c_X10_hasOf C.2.2.1 a0 a1 (1 - ((w32 a2).tdiv (w32 2))) ((w32 a2).tmod (w32 2)) M r1 hy) tm_RX10_461 mw_X10_hasOf ⟨rfl, rfl⟩ ⟨Nat.le_of_ble_eq_true rfl, Nat.le_of_ble_eq_true rfl⟩ km_0 clX10 rfl rfl (Nat.le_of_ble_eq_true rfl) dX10_isRest_19 ?_
  refine r_aln C dX10_isRest_22 (k := 2) rfl ?_
  refine r_iln C dX10_isRest_23 (k := 3) rfl ?_
  refine r_iln C dX10_isRest_24 (k := 4) rfl ?_
  refine r_il C dX10_isRest_25 (k := 1) rfl ?_
  refine r_il C dX10_isRest_27 (k := 0) rfl ?_
  obtain ⟨r2, hy, h⟩ := q_calp_some h
  refine r_cvi C (st := [.int (qI r1)]) (c_X10_hasOf C.2.2.1 a0 a1 ((w32 a2).tdiv (w32 2)) ((w32 a2).tmod (w32 2)) M r2 hy) tm_RX10_461 mw_X10_hasOf ⟨rfl, rfl⟩ ⟨Nat.le_of_ble_eq_true rfl, Nat.le_of_ble_eq_true rfl⟩ km_0 clX10 rfl rfl (Nat.le_of_ble_eq_true rfl) dX10_isRest_29 ?_
  refine r_cgt C (tgt := 64) dX10_isRest_32 (by decide) h (fun h => ?_) (fun h => ?_)
  · refine r_ic C dX10_isRest_64 ?_
    exact r_zretp C (by decide) hr hlk dX10_isRest_65 h
  · refine r_aln C dX10_isRest_35 (k := 2) rfl ?_
    refine r_iln C dX10_isRest_36 (k := 4) rfl ?_
    refine r_iln C dX10_isRest_37 (k := 3) rfl ?_
    refine r_ic C dX10_isRest_38 ?_
    refine r_il C dX10_isRest_39 (k := 0) rfl ?_
    refine r_isub C dX10_isRest_41 ?_
    refine r_il C dX10_isRest_42 (k := 1) rfl ?_
    obtain ⟨r3, hy, h⟩ := q_calp_some h
    refine r_cvi C (st := []) (c_X10_hasOf C.2.2.1 a1 a0 (1 - ((w32 a2).tmod (w32 2))) ((w32 a2).tdiv (w32 2)) M r3 hy) tm_RX10_461 mw_X10_hasOf ⟨rfl, rfl⟩ ⟨Nat.le_of_ble_eq_true rfl, Nat.le_of_ble_eq_true rfl⟩ km_0 clX10 rfl rfl (Nat.le_of_ble_eq_true rfl) dX10_isRest_44 ?_
    refine r_aln C dX10_isRest_47 (k := 2) rfl ?_
    refine r_iln C dX10_isRest_48 (k := 4) rfl ?_
    refine r_iln C dX10_isRest_49 (k := 3) rfl ?_
    refine r_il C dX10_isRest_50 (k := 0) rfl ?_
    refine r_il C dX10_isRest_52 (k := 1) rfl ?_
    obtain ⟨r4, hy, h⟩ := q_calp_some h
    refine r_cvi C (st := [.int (qI r3)]) (c_X10_hasOf C.2.2.1 a1 a0 ((w32 a2).tmod (w32 2)) ((w32 a2).tdiv (w32 2)) M r4 hy) tm_RX10_461 mw_X10_hasOf ⟨rfl, rfl⟩ ⟨Nat.le_of_ble_eq_true rfl, Nat.le_of_ble_eq_true rfl⟩ km_0 clX10 rfl rfl (Nat.le_of_ble_eq_true rfl) dX10_isRest_54 ?_
    refine r_cgt C (tgt := 64) dX10_isRest_57 (by decide) h (fun h => ?_) (fun h => ?_)
    · refine r_ic C dX10_isRest_64 ?_
      exact r_zretp C (by decide) hr hlk dX10_isRest_65 h
    · refine r_ic C dX10_isRest_60 ?_
      refine r_goto C (tgt := 65) dX10_isRest_61 (by decide) ?_
      exact r_zretp C (by decide) hr hlk dX10_isRest_65 h
abbrev rm_X10_isSign : Room := { frames := 0, cells := 0, slots := 0, locals := 0 }
theorem mw_X10_isSign : q_mw RX10 yX10_isSign cX10_isSign 2 (some .boolean) 1 := ⟨⟨ti_X10_isSign, tl_X10_isSign, tn_RX10, td_X10_isSign⟩, by decide +kernel⟩
def f_X10_isSign (a0 : Int) (M : Mem) : Option Int :=
  q_gf M 0 26 fun v1 =>
  if ¬ w32 v1 = 0 then (some 0)
  else (q_gf M 0 24 fun v2 =>
  if ¬ w32 v2 = w32 3 then (some 0)
  else (q_gf M 0 25 fun v3 =>
  if ¬ w32 v3 = w32 a0 then (some 0)
  else (some 1)))
theorem c_X10_isSign {l : Launch} {D : va_G} {ad : Nat → Nat} {cA : Nat → ClassId} (hi : q_inj syM ad) (a0 : Int) (M : Mem) (r0 : Int) (h : f_X10_isSign a0 M = some r0) : q_Met l syM D ad cA yX10_isSign cX10_isSign 2 (some .boolean) rm_X10_isSign [.ref (ad 0), .int (qI a0)] M (some (.int (qI r0))) M := by
  refine q_met (L0 := [(0, .ref (ad 0)), (1, .int (qI a0))]) hi okM (by decide) (Nat.le_of_ble_eq_true rfl) rfl ?_
  intro p e s m args below meth c C hr hlk
  unfold f_X10_isSign at h
  refine r_aln C dX10_isSign_0 (k := 0) rfl ?_
  refine r_gf C km_0 clX10 (f := 26) (by decide) rfl rfl rfl tf_RX10_196 dX10_isSign_1 h (fun v1 h => ?_)
  refine r_zne C (tgt := 27) dX10_isSign_4 (by decide) h (fun h => ?_) (fun h => ?_)
  · refine r_ic C dX10_isSign_27 ?_
    exact r_zretp C (by decide) hr hlk dX10_isSign_28 h
  · refine r_aln C dX10_isSign_7 (k := 0) rfl ?_
    refine r_gf C km_0 clX10 (f := 24) (by decide) rfl rfl rfl tf_RX10_161 dX10_isSign_8 h (fun v2 h => ?_)
    refine r_ic C dX10_isSign_11 ?_
    refine r_cne C (tgt := 27) dX10_isSign_12 (by decide) h (fun h => ?_) (fun h => ?_)
    · refine r_ic C dX10_isSign_27 ?_
      exact r_zretp C (by decide) hr hlk dX10_isSign_28 h
    · refine r_aln C dX10_isSign_15 (k := 0) rfl ?_
      refine r_gf C km_0 clX10 (f := 25) (by decide) rfl rfl rfl tf_RX10_171 dX10_isSign_16 h (fun v3 h => ?_)
      refine r_iln C dX10_isSign_19 (k := 1) rfl ?_
      refine r_cne C (tgt := 27) dX10_isSign_20 (by decide) h (fun h => ?_) (fun h => ?_)
      · refine r_ic C dX10_isSign_27 ?_
        exact r_zretp C (by decide) hr hlk dX10_isSign_28 h
      · refine r_ic C dX10_isSign_23 ?_
        refine r_goto C (tgt := 28) dX10_isSign_24 (by decide) ?_
        exact r_zretp C (by decide) hr hlk dX10_isSign_28 h
abbrev rm_X10_keep : Room := { frames := 1, cells := 0, slots := 0, locals := 25 }
theorem mw_X10_keep : q_mw RX10 yX10_keep cX10_keep 1 (some .int) 0 := ⟨⟨ti_X10_keep, tl_X10_keep, tn_RX10, td_X10_keep⟩, by decide +kernel⟩
def f_X10_keep  (M : Mem) : Res :=
  q_pf M 0 0 0 fun M1 =>
  q_call (f_X10_copies 2 0 M1) fun r2 M3 =>
  q_pz M3 0 45 1 fun M4 =>
  q_al M4 67 23 0 fun v5 =>
  some (v5, M4)
theorem c_X10_keep {l : Launch} {D : va_G} {ad : Nat → Nat} {cA : Nat → ClassId} (hi : q_inj syM ad)  (M : Mem) (r0 : Int) (M0 : Mem) (h : f_X10_keep  M = some (r0, M0)) : q_Met l syM D ad cA yX10_keep cX10_keep 1 (some .int) rm_X10_keep [.ref (ad 0)] M (some (.int (qI r0))) M0 := by
  refine q_met (L0 := [(0, .ref (ad 0))]) hi okM (by decide) (Nat.le_of_ble_eq_true rfl) rfl ?_
  intro p e s m args below meth c C hr hlk
  unfold f_X10_keep at h
  refine r_aln C dX10_keep_0 (k := 0) rfl ?_
  refine r_ic C dX10_keep_1 ?_
  refine r_pf C km_0 clX10 (f := 0) (by decide) rfl q_dI rfl rfl tf_RX10_142 dX10_keep_2 h (fun M1 h => ?_)
  refine r_aln C dX10_keep_5 (k := 0) rfl ?_
  refine r_ic C dX10_keep_6 ?_
  refine r_ic C dX10_keep_7 ?_
  obtain ⟨r2, M3, hy, h⟩ := q_call_some h
  refine r_cvv C (st := []) (c_X10_copies C.2.2.1 2 0 M1 r2 M3 hy) tm_RX10_405 mw_X10_copies ⟨rfl, rfl⟩ ⟨Nat.le_of_ble_eq_true rfl, Nat.le_of_ble_eq_true rfl⟩ km_0 clX10 rfl rfl (Nat.le_of_ble_eq_true rfl) dX10_keep_8 ?_
  refine r_aln C dX10_keep_11 (k := 0) rfl ?_
  refine r_ic C dX10_keep_12 ?_
  refine r_pz C km_0 clX10 (f := 45) (by decide) rfl q_dZ rfl rfl tf_RX10_298 dX10_keep_13 h (fun M4 h => ?_)
  refine r_aln C dX10_keep_16 (k := 0) rfl ?_
  refine r_gs C km_0 clX10 (f := 35) (by decide) rfl (t := 67) rfl tf_RX10_72 dX10_keep_17 ?_
  refine r_ic C dX10_keep_20 ?_
  refine r_iald C km_67 dX10_keep_21 h (fun v5 h => ?_)
  exact r_iret C hr hlk dX10_keep_22 h
abbrev rm_X10_known : Room := { frames := 0, cells := 0, slots := 0, locals := 0 }
theorem mw_X10_known : q_mw RX10 yX10_known cX10_known 2 (some .boolean) 1 := ⟨⟨ti_X10_known, tl_X10_known, tn_RX10, td_X10_known⟩, by decide +kernel⟩
def f_X10_known (a0 : Int) (M : Mem) : Res :=
  q_pf M 0 0 0 fun M1 =>
  if w32 a0 < w32 (-1) then (some (0, M1))
  else (q_gf M1 0 58 fun v2 =>
  if w32 a0 ≤ w32 v2 then (q_pf M1 0 59 a0 fun M3 =>
  some (1, M3))
  else (some (0, M1)))
theorem c_X10_known {l : Launch} {D : va_G} {ad : Nat → Nat} {cA : Nat → ClassId} (hi : q_inj syM ad) (a0 : Int) (M : Mem) (r0 : Int) (M0 : Mem) (h : f_X10_known a0 M = some (r0, M0)) : q_Met l syM D ad cA yX10_known cX10_known 2 (some .boolean) rm_X10_known [.ref (ad 0), .int (qI a0)] M (some (.int (qI r0))) M0 := by
  refine q_met (L0 := [(0, .ref (ad 0)), (1, .int (qI a0))]) hi okM (by decide) (Nat.le_of_ble_eq_true rfl) rfl ?_
  intro p e s m args below meth c C hr hlk
  unfold f_X10_known at h
  refine r_aln C dX10_known_0 (k := 0) rfl ?_
  refine r_ic C dX10_known_1 ?_
  refine r_pf C km_0 clX10 (f := 0) (by decide) rfl q_dI rfl rfl tf_RX10_142 dX10_known_2 h (fun M1 h => ?_)
  refine r_iln C dX10_known_5 (k := 1) rfl ?_
  refine r_ic C dX10_known_6 ?_
  refine r_clt C (tgt := 18) dX10_known_7 (by decide) h (fun h => ?_) (fun h => ?_)
  · refine r_ic C dX10_known_18 ?_
    exact r_zret C (by decide) hr hlk dX10_known_19 h
  · refine r_iln C dX10_known_10 (k := 1) rfl ?_
    refine r_aln C dX10_known_11 (k := 0) rfl ?_
    refine r_gf C km_0 clX10 (f := 58) (by decide) rfl rfl rfl tf_RX10_295 dX10_known_12 h (fun v2 h => ?_)
    refine r_cle C (tgt := 20) dX10_known_15 (by decide) h (fun h => ?_) (fun h => ?_)
    · refine r_aln C dX10_known_20 (k := 0) rfl ?_
      refine r_iln C dX10_known_21 (k := 1) rfl ?_
      refine r_pf C km_0 clX10 (f := 59) (by decide) rfl q_dI rfl rfl tf_RX10_120 dX10_known_22 h (fun M3 h => ?_)
      refine r_ic C dX10_known_25 ?_
      exact r_zret C (by decide) hr hlk dX10_known_26 h
    · refine r_ic C dX10_known_18 ?_
      exact r_zret C (by decide) hr hlk dX10_known_19 h
abbrev rm_X10_law : Room := { frames := 3, cells := 0, slots := 0, locals := 72 }
theorem mw_X10_law : q_mw RX10 yX10_law cX10_law 4 (some .long) 3 := ⟨⟨ti_X10_law, tl_X10_law, tn_RX10, td_X10_law⟩, by decide +kernel⟩
def f_X10_law_J65 (x1 : Int) (y0 : Int) (y1 : Int) (y2 : Int) (M : Mem) : Res :=
  q_call (f_X10_calls y2 y1 y0 M) fun r1 M2 =>
  q_call (f_X10_comesOut x1 M2) fun r3 M4 =>
  if w32 r3 = 0 then (some ((-9223372036854775808), M4))
  else (q_al M4 65 64 0 fun v5 =>
  some (v5, M4))
theorem w_X10_law_J65 (C : Cx syM p m c cX10_law 4 s args RX10 D ad cA) (hr : meth.sig.returnType = (some .long)) (hlk : meth.locks = false) (x1 : Int) (y0 : Int) (y1 : Int) (y2 : Int) (M : Mem)  (h : f_X10_law_J65 x1 y0 y1 y2 M = some (r0, M0)) : WM syM p l e rm_X10_law s m args below meth c 4 D ad cA (MQ below (q_Post syM D ad cA (some (.long (qJ r0))) M0) args s 0 0 (q_A syM ad)) M 65 [(0, .ref (ad 0)), (1, .int (qI x1))] [.int (qI y0), .int (qI y1), .int (qI y2), .ref (ad 0)] := by
  unfold f_X10_law_J65 at h
  obtain ⟨r1, M2, hy, h⟩ := q_call_some h
  refine r_cvv C (st := []) (c_X10_calls C.2.2.1 y2 y1 y0 M r1 M2 hy) tm_RX10_352 mw_X10_calls ⟨rfl, rfl⟩ ⟨Nat.le_of_ble_eq_true rfl, Nat.le_of_ble_eq_true rfl⟩ km_0 clX10 rfl rfl (Nat.le_of_ble_eq_true rfl) dX10_law_65 ?_
  refine r_aln C dX10_law_68 (k := 0) rfl ?_
  refine r_iln C dX10_law_69 (k := 1) rfl ?_
  obtain ⟨r3, M4, hy, h⟩ := q_call_some h
  refine r_cvi C (st := []) (c_X10_comesOut C.2.2.1 x1 M2 r3 M4 hy) tm_RX10_339 mw_X10_comesOut ⟨rfl, rfl⟩ ⟨Nat.le_of_ble_eq_true rfl, Nat.le_of_ble_eq_true rfl⟩ km_0 clX10 rfl rfl (Nat.le_of_ble_eq_true rfl) dX10_law_70 ?_
  refine r_zeq C (tgt := 85) dX10_law_73 (by decide) h (fun h => ?_) (fun h => ?_)
  · refine r_ldc2 C (x := (-9223372036854775808)) tc_RX10_428 (by decide) dX10_law_85 ?_
    exact r_lret C hr hlk dX10_law_88 h
  · refine r_aln C dX10_law_76 (k := 0) rfl ?_
    refine r_gs C km_0 clX10 (f := 33) (by decide) rfl (t := 65) rfl tf_RX10_69 dX10_law_77 ?_
    refine r_ic C dX10_law_80 ?_
    refine r_lald C km_65 dX10_law_81 h (fun v5 h => ?_)
    refine r_goto C (tgt := 88) dX10_law_82 (by decide) ?_
    exact r_lret C hr hlk dX10_law_88 h
def f_X10_law_J47 (x1 : Int) (x2 : Int) (x3 : Int) (M : Mem) : Res :=
  if ¬ w32 x1 = w32 2 then (q_al M 44 8 x3 fun v1 =>
  f_X10_law_J65 x1 v1 x2 0 M)
  else (f_X10_law_J65 x1 0 x2 0 M)
theorem w_X10_law_J47 (C : Cx syM p m c cX10_law 4 s args RX10 D ad cA) (hr : meth.sig.returnType = (some .long)) (hlk : meth.locks = false) (x1 : Int) (x2 : Int) (x3 : Int) (M : Mem)  (h : f_X10_law_J47 x1 x2 x3 M = some (r0, M0)) : WM syM p l e rm_X10_law s m args below meth c 4 D ad cA (MQ below (q_Post syM D ad cA (some (.long (qJ r0))) M0) args s 0 0 (q_A syM ad)) M 47 [(0, .ref (ad 0)), (1, .int (qI x1)), (2, .int (qI x2)), (3, .int (qI x3))] [] := by
  unfold f_X10_law_J47 at h
  refine r_aln C dX10_law_47 (k := 0) rfl ?_
  refine r_ic C dX10_law_48 ?_
  refine r_iln C dX10_law_49 (k := 2) rfl ?_
  refine r_iln C dX10_law_50 (k := 1) rfl ?_
  refine r_ic C dX10_law_51 ?_
  refine r_cne C (tgt := 59) dX10_law_52 (by decide) h (fun h => ?_) (fun h => ?_)
  · refine r_aln C dX10_law_59 (k := 0) rfl ?_
    refine r_gs C km_0 clX10 (f := 12) (by decide) rfl (t := 44) rfl tf_RX10_40 dX10_law_60 ?_
    refine r_iln C dX10_law_63 (k := 3) rfl ?_
    refine r_iald C km_44 dX10_law_64 h (fun v1 h => ?_)
    refine r_drop [0, 1] rfl ?_
    exact w_X10_law_J65 C hr hlk x1 v1 x2 0 M  h
  · refine r_ic C dX10_law_55 ?_
    refine r_goto C (tgt := 65) dX10_law_56 (by decide) ?_
    refine r_drop [0, 1] rfl ?_
    exact w_X10_law_J65 C hr hlk x1 0 x2 0 M  h
def f_X10_law (a0 : Int) (a1 : Int) (a2 : Int) (M : Mem) : Res :=
  q_pf M 0 0 0 fun M1 =>
  if w32 a0 < 0 then (some ((-9223372036854775808), M1))
  else (if w32 2 < w32 a0 then (some ((-9223372036854775808), M1))
  else (q_calp (f_X10_hasLaw a0 M1) fun r2 =>
  if w32 r2 = 0 then (some ((-9223372036854775808), M1))
  else (q_calp (f_X10_isSoul a1 M1) fun r3 =>
  if w32 r3 = 0 then (some ((-9223372036854775808), M1))
  else (if w32 a0 = w32 2 then (f_X10_law_J47 a0 a1 a2 M1)
  else (q_calp (f_X10_isBus a2 M1) fun r4 =>
  if ¬ w32 r4 = 0 then (f_X10_law_J47 a0 a1 a2 M1)
  else (some ((-9223372036854775808), M1)))))))
theorem c_X10_law {l : Launch} {D : va_G} {ad : Nat → Nat} {cA : Nat → ClassId} (hi : q_inj syM ad) (a0 : Int) (a1 : Int) (a2 : Int) (M : Mem) (r0 : Int) (M0 : Mem) (h : f_X10_law a0 a1 a2 M = some (r0, M0)) : q_Met l syM D ad cA yX10_law cX10_law 4 (some .long) rm_X10_law [.ref (ad 0), .int (qI a0), .int (qI a1), .int (qI a2)] M (some (.long (qJ r0))) M0 := by
  refine q_met (L0 := [(0, .ref (ad 0)), (1, .int (qI a0)), (2, .int (qI a1)), (3, .int (qI a2))]) hi okM (by decide) (Nat.le_of_ble_eq_true rfl) rfl ?_
  intro p e s m args below meth c C hr hlk
  unfold f_X10_law at h
  refine r_aln C dX10_law_0 (k := 0) rfl ?_
  refine r_ic C dX10_law_1 ?_
  refine r_pf C km_0 clX10 (f := 0) (by decide) rfl q_dI rfl rfl tf_RX10_142 dX10_law_2 h (fun M1 h => ?_)
  refine r_iln C dX10_law_5 (k := 1) rfl ?_
  refine r_zlt C (tgt := 43) dX10_law_6 (by decide) h (fun h => ?_) (fun h => ?_)
  · refine r_ldc2 C (x := (-9223372036854775808)) tc_RX10_428 (by decide) dX10_law_43 ?_
    exact r_lret C hr hlk dX10_law_46 h
  · refine r_iln C dX10_law_9 (k := 1) rfl ?_
    refine r_ic C dX10_law_10 ?_
    refine r_cgt C (tgt := 43) dX10_law_11 (by decide) h (fun h => ?_) (fun h => ?_)
    · refine r_ldc2 C (x := (-9223372036854775808)) tc_RX10_428 (by decide) dX10_law_43 ?_
      exact r_lret C hr hlk dX10_law_46 h
    · refine r_aln C dX10_law_14 (k := 0) rfl ?_
      refine r_iln C dX10_law_15 (k := 1) rfl ?_
      obtain ⟨r2, hy, h⟩ := q_calp_some h
      refine r_cvi C (st := []) (c_X10_hasLaw C.2.2.1 a0 M1 r2 hy) tm_RX10_336 mw_X10_hasLaw ⟨rfl, rfl⟩ ⟨Nat.le_of_ble_eq_true rfl, Nat.le_of_ble_eq_true rfl⟩ km_0 clX10 rfl rfl (Nat.le_of_ble_eq_true rfl) dX10_law_16 ?_
      refine r_zeq C (tgt := 43) dX10_law_19 (by decide) h (fun h => ?_) (fun h => ?_)
      · refine r_ldc2 C (x := (-9223372036854775808)) tc_RX10_428 (by decide) dX10_law_43 ?_
        exact r_lret C hr hlk dX10_law_46 h
      · refine r_aln C dX10_law_22 (k := 0) rfl ?_
        refine r_iln C dX10_law_23 (k := 2) rfl ?_
        obtain ⟨r3, hy, h⟩ := q_calp_some h
        refine r_cvi C (st := []) (c_X10_isSoul C.2.2.1 a1 M1 r3 hy) tm_RX10_411 mw_X10_isSoul ⟨rfl, rfl⟩ ⟨Nat.le_of_ble_eq_true rfl, Nat.le_of_ble_eq_true rfl⟩ km_0 clX10 rfl rfl (Nat.le_of_ble_eq_true rfl) dX10_law_24 ?_
        refine r_zeq C (tgt := 43) dX10_law_27 (by decide) h (fun h => ?_) (fun h => ?_)
        · refine r_ldc2 C (x := (-9223372036854775808)) tc_RX10_428 (by decide) dX10_law_43 ?_
          exact r_lret C hr hlk dX10_law_46 h
        · refine r_iln C dX10_law_30 (k := 1) rfl ?_
          refine r_ic C dX10_law_31 ?_
          refine r_ceq C (tgt := 47) dX10_law_32 (by decide) h (fun h => ?_) (fun h => ?_)
          · exact w_X10_law_J47 C hr hlk a0 a1 a2 M1  h
          · refine r_aln C dX10_law_35 (k := 0) rfl ?_
            refine r_iln C dX10_law_36 (k := 3) rfl ?_
            obtain ⟨r4, hy, h⟩ := q_calp_some h
            refine r_cvi C (st := []) (c_X10_isBus C.2.2.1 a2 M1 r4 hy) tm_RX10_420 mw_X10_isBus ⟨rfl, rfl⟩ ⟨Nat.le_of_ble_eq_true rfl, Nat.le_of_ble_eq_true rfl⟩ km_0 clX10 rfl rfl (Nat.le_of_ble_eq_true rfl) dX10_law_37 ?_
            refine r_zne C (tgt := 47) dX10_law_40 (by decide) h (fun h => ?_) (fun h => ?_)
            · exact w_X10_law_J47 C hr hlk a0 a1 a2 M1  h
            · refine r_ldc2 C (x := (-9223372036854775808)) tc_RX10_428 (by decide) dX10_law_43 ?_
              exact r_lret C hr hlk dX10_law_46 h
def f_X10_negation_J87 (F_X10_negation : Mem → Res) (F_X10_sum : Mem → Res) (M : Mem) : Res :=
  q_gf M 0 25 fun v1 =>
  q_call (f_X10_knot  M) fun r2 M3 =>
  q_call (f_X10_goOn  M3) fun r4 M5 =>
  q_call (F_X10_sum  M5) fun r6 M7 =>
  q_call (f_X10_puts 2 v1 M7) fun r8 M9 =>
  some (0, M9)
theorem w_X10_negation_J87 (C : Cx syM p m c cX10_negation 2 s args RX10 D ad cA) (hr : meth.sig.returnType = none) (hlk : meth.locks = false) (F_X10_negation : Mem → Res) (F_X10_sum : Mem → Res) (d : Nat) (HF_X10_negation : ∀ (M : Mem) (r0 : Int) (M0 : Mem), F_X10_negation  M = some (r0, M0) → q_Met l syM D ad cA yX10_negation cX10_negation 2 none (rg_E d) [.ref (ad 0)] M none M0) (HF_X10_sum : ∀ (M : Mem) (r0 : Int) (M0 : Mem), F_X10_sum  M = some (r0, M0) → q_Met l syM D ad cA yX10_sum cX10_sum 2 none (rg_E d) [.ref (ad 0)] M none M0) (M : Mem)  (h : f_X10_negation_J87 F_X10_negation F_X10_sum M = some (r0, M0)) : WM syM p l e (rg_E (d + 1)) s m args below meth c 2 D ad cA (MQ below (q_Post syM D ad cA none M0) args s 0 0 (q_A syM ad)) M 87 [(0, .ref (ad 0))] [] := by
  unfold f_X10_negation_J87 at h
  refine r_aln C dX10_negation_87 (k := 0) rfl ?_
  refine r_gf C km_0 clX10 (f := 25) (by decide) rfl rfl rfl tf_RX10_171 dX10_negation_88 h (fun v1 h => ?_)
  refine r_isn C (L1 := [(1, .int (qI v1)), (0, .ref (ad 0))]) dX10_negation_91 (by decide) rfl ?_
  refine r_aln C dX10_negation_92 (k := 1) rfl ?_
  obtain ⟨r2, M3, hy, h⟩ := q_call_some h
  refine r_cvv C (st := []) (c_X10_knot C.2.2.1 M r2 M3 hy) tm_RX10_264 mw_X10_knot ⟨rfl, rfl⟩ ⟨by simp only [rm_X10_knot, rg_E]; omega, by simp only [rm_X10_knot, rg_E]; omega⟩ km_0 clX10 rfl rfl (Nat.le_of_ble_eq_true rfl) dX10_negation_93 ?_
  refine r_aln C dX10_negation_96 (k := 1) rfl ?_
  obtain ⟨r4, M5, hy, h⟩ := q_call_some h
  refine r_cvv C (st := []) (c_X10_goOn C.2.2.1 M3 r4 M5 hy) tm_RX10_249 mw_X10_goOn ⟨rfl, rfl⟩ ⟨by simp only [rm_X10_goOn, rg_E]; omega, by simp only [rm_X10_goOn, rg_E]; omega⟩ km_0 clX10 rfl rfl (Nat.le_of_ble_eq_true rfl) dX10_negation_97 ?_
  refine r_aln C dX10_negation_100 (k := 1) rfl ?_
  obtain ⟨r6, M7, hy, h⟩ := q_call_some h
  refine r_cvv C (st := []) (HF_X10_sum  M5 r6 M7 hy) tm_RX10_273 mw_X10_sum ⟨rfl, rfl⟩ ⟨by simp only [rg_E]; omega, by simp only [rg_E]; omega⟩ km_0 clX10 rfl rfl (Nat.le_of_ble_eq_true rfl) dX10_negation_101 ?_
  refine r_aln C dX10_negation_104 (k := 1) rfl ?_
  refine r_ic C dX10_negation_105 ?_
  refine r_iln C dX10_negation_106 (k := 0) rfl ?_
  obtain ⟨r8, M9, hy, h⟩ := q_call_some h
  refine r_cvv C (st := []) (c_X10_puts C.2.2.1 2 v1 M7 r8 M9 hy) tm_RX10_267 mw_X10_puts ⟨rfl, rfl⟩ ⟨by simp only [rm_X10_puts, rg_E]; omega, by simp only [rm_X10_puts, rg_E]; omega⟩ km_0 clX10 rfl rfl (Nat.le_of_ble_eq_true rfl) dX10_negation_107 ?_
  exact r_vret C hr hlk dX10_negation_110 h
def f_X10_negation_G (F_X10_negation : Mem → Res) (F_X10_sum : Mem → Res) (M : Mem) : Res :=
  q_calp (f_X10_isWord 12 M) fun r1 =>
  if w32 r1 = 0 then (q_call (F_X10_sum  M) fun r2 M3 =>
  q_gf M3 0 26 fun v4 =>
  if ¬ w32 v4 = 0 then (some (0, M3))
  else (q_gf M3 0 24 fun v5 =>
  if ¬ w32 v5 = w32 3 then (some (0, M3))
  else (q_gf M3 0 25 fun v6 =>
  if w32 v6 = w32 60 then (f_X10_negation_J87 F_X10_negation F_X10_sum M3)
  else (q_gf M3 0 25 fun v7 =>
  if w32 v7 = w32 62 then (f_X10_negation_J87 F_X10_negation F_X10_sum M3)
  else (q_gf M3 0 25 fun v8 =>
  if w32 v8 = w32 61 then (f_X10_negation_J87 F_X10_negation F_X10_sum M3)
  else (q_gf M3 0 25 fun v9 =>
  if w32 256 ≤ w32 v9 then (f_X10_negation_J87 F_X10_negation F_X10_sum M3)
  else (some (0, M3))))))))
  else (q_call (f_X10_knot  M) fun r10 M11 =>
  q_call (f_X10_goOn  M11) fun r12 M13 =>
  q_call (F_X10_negation  M13) fun r14 M15 =>
  q_call (f_X10_puts 2 260 M15) fun r16 M17 =>
  some (0, M17))
theorem c_X10_negation_G {l : Launch} {D : va_G} {ad : Nat → Nat} {cA : Nat → ClassId} (hi : q_inj syM ad) (F_X10_negation : Mem → Res) (F_X10_sum : Mem → Res) (d : Nat) (HF_X10_negation : ∀ (M : Mem) (r0 : Int) (M0 : Mem), F_X10_negation  M = some (r0, M0) → q_Met l syM D ad cA yX10_negation cX10_negation 2 none (rg_E d) [.ref (ad 0)] M none M0) (HF_X10_sum : ∀ (M : Mem) (r0 : Int) (M0 : Mem), F_X10_sum  M = some (r0, M0) → q_Met l syM D ad cA yX10_sum cX10_sum 2 none (rg_E d) [.ref (ad 0)] M none M0) (M : Mem) (r0 : Int) (M0 : Mem) (h : f_X10_negation_G F_X10_negation F_X10_sum M = some (r0, M0)) : q_Met l syM D ad cA yX10_negation cX10_negation 2 none (rg_E (d + 1)) [.ref (ad 0)] M none M0 := by
  refine q_met (L0 := [(0, .ref (ad 0))]) hi okM (by decide) (Nat.le_of_ble_eq_true rfl) rfl ?_
  intro p e s m args below meth c C hr hlk
  unfold f_X10_negation_G at h
  refine r_aln C dX10_negation_0 (k := 0) rfl ?_
  refine r_bi C dX10_negation_1 (by decide) ?_
  obtain ⟨r1, hy, h⟩ := q_calp_some h
  refine r_cvi C (st := []) (c_X10_isWord C.2.2.1 12 M r1 hy) tm_RX10_261 mw_X10_isWord ⟨rfl, rfl⟩ ⟨by simp only [rm_X10_isWord, rg_E]; omega, by simp only [rm_X10_isWord, rg_E]; omega⟩ km_0 clX10 rfl rfl (Nat.le_of_ble_eq_true rfl) dX10_negation_3 ?_
  refine r_zeq C (tgt := 30) dX10_negation_6 (by decide) h (fun h => ?_) (fun h => ?_)
  · refine r_aln C dX10_negation_30 (k := 0) rfl ?_
    obtain ⟨r2, M3, hy, h⟩ := q_call_some h
    refine r_cvv C (st := []) (HF_X10_sum  M r2 M3 hy) tm_RX10_273 mw_X10_sum ⟨rfl, rfl⟩ ⟨by simp only [rg_E]; omega, by simp only [rg_E]; omega⟩ km_0 clX10 rfl rfl (Nat.le_of_ble_eq_true rfl) dX10_negation_31 ?_
    refine r_aln C dX10_negation_34 (k := 0) rfl ?_
    refine r_gf C km_0 clX10 (f := 26) (by decide) rfl rfl rfl tf_RX10_196 dX10_negation_35 h (fun v4 h => ?_)
    refine r_zne C (tgt := 86) dX10_negation_38 (by decide) h (fun h => ?_) (fun h => ?_)
    · exact r_vret C hr hlk dX10_negation_86 h
    · refine r_aln C dX10_negation_41 (k := 0) rfl ?_
      refine r_gf C km_0 clX10 (f := 24) (by decide) rfl rfl rfl tf_RX10_161 dX10_negation_42 h (fun v5 h => ?_)
      refine r_ic C dX10_negation_45 ?_
      refine r_cne C (tgt := 86) dX10_negation_46 (by decide) h (fun h => ?_) (fun h => ?_)
      · exact r_vret C hr hlk dX10_negation_86 h
      · refine r_aln C dX10_negation_49 (k := 0) rfl ?_
        refine r_gf C km_0 clX10 (f := 25) (by decide) rfl rfl rfl tf_RX10_171 dX10_negation_50 h (fun v6 h => ?_)
        refine r_bi C dX10_negation_53 (by decide) ?_
        refine r_ceq C (tgt := 87) dX10_negation_55 (by decide) h (fun h => ?_) (fun h => ?_)
        · exact w_X10_negation_J87 C hr hlk F_X10_negation F_X10_sum d HF_X10_negation HF_X10_sum M3  h
        · refine r_aln C dX10_negation_58 (k := 0) rfl ?_
          refine r_gf C km_0 clX10 (f := 25) (by decide) rfl rfl rfl tf_RX10_171 dX10_negation_59 h (fun v7 h => ?_)
          refine r_bi C dX10_negation_62 (by decide) ?_
          refine r_ceq C (tgt := 87) dX10_negation_64 (by decide) h (fun h => ?_) (fun h => ?_)
          · exact w_X10_negation_J87 C hr hlk F_X10_negation F_X10_sum d HF_X10_negation HF_X10_sum M3  h
          · refine r_aln C dX10_negation_67 (k := 0) rfl ?_
            refine r_gf C km_0 clX10 (f := 25) (by decide) rfl rfl rfl tf_RX10_171 dX10_negation_68 h (fun v8 h => ?_)
            refine r_bi C dX10_negation_71 (by decide) ?_
            refine r_ceq C (tgt := 87) dX10_negation_73 (by decide) h (fun h => ?_) (fun h => ?_)
            · exact w_X10_negation_J87 C hr hlk F_X10_negation F_X10_sum d HF_X10_negation HF_X10_sum M3  h
            · refine r_aln C dX10_negation_76 (k := 0) rfl ?_
              refine r_gf C km_0 clX10 (f := 25) (by decide) rfl rfl rfl tf_RX10_171 dX10_negation_77 h (fun v9 h => ?_)
              refine r_si C dX10_negation_80 (by decide) ?_
              refine r_cge C (tgt := 87) dX10_negation_83 (by decide) h (fun h => ?_) (fun h => ?_)
              · exact w_X10_negation_J87 C hr hlk F_X10_negation F_X10_sum d HF_X10_negation HF_X10_sum M3  h
              · exact r_vret C hr hlk dX10_negation_86 h
  · refine r_aln C dX10_negation_9 (k := 0) rfl ?_
    obtain ⟨r10, M11, hy, h⟩ := q_call_some h
    refine r_cvv C (st := []) (c_X10_knot C.2.2.1 M r10 M11 hy) tm_RX10_264 mw_X10_knot ⟨rfl, rfl⟩ ⟨by simp only [rm_X10_knot, rg_E]; omega, by simp only [rm_X10_knot, rg_E]; omega⟩ km_0 clX10 rfl rfl (Nat.le_of_ble_eq_true rfl) dX10_negation_10 ?_
    refine r_aln C dX10_negation_13 (k := 0) rfl ?_
    obtain ⟨r12, M13, hy, h⟩ := q_call_some h
    refine r_cvv C (st := []) (c_X10_goOn C.2.2.1 M11 r12 M13 hy) tm_RX10_249 mw_X10_goOn ⟨rfl, rfl⟩ ⟨by simp only [rm_X10_goOn, rg_E]; omega, by simp only [rm_X10_goOn, rg_E]; omega⟩ km_0 clX10 rfl rfl (Nat.le_of_ble_eq_true rfl) dX10_negation_14 ?_
    refine r_aln C dX10_negation_17 (k := 0) rfl ?_
    obtain ⟨r14, M15, hy, h⟩ := q_call_some h
    refine r_cvv C (st := []) (HF_X10_negation  M13 r14 M15 hy) tm_RX10_270 mw_X10_negation ⟨rfl, rfl⟩ ⟨by simp only [rg_E]; omega, by simp only [rg_E]; omega⟩ km_0 clX10 rfl rfl (Nat.le_of_ble_eq_true rfl) dX10_negation_18 ?_
    refine r_aln C dX10_negation_21 (k := 0) rfl ?_
    refine r_ic C dX10_negation_22 ?_
    refine r_si C dX10_negation_23 (by decide) ?_
    obtain ⟨r16, M17, hy, h⟩ := q_call_some h
    refine r_cvv C (st := []) (c_X10_puts C.2.2.1 2 260 M15 r16 M17 hy) tm_RX10_267 mw_X10_puts ⟨rfl, rfl⟩ ⟨by simp only [rm_X10_puts, rg_E]; omega, by simp only [rm_X10_puts, rg_E]; omega⟩ km_0 clX10 rfl rfl (Nat.le_of_ble_eq_true rfl) dX10_negation_26 ?_
    exact r_vret C hr hlk dX10_negation_29 h
def f_X10_sum_J22 (F_X10_product : Mem → Res) (g4 : Mem → Res) (M : Mem) : Res :=
  q_gf M 0 25 fun v1 =>
  q_call (f_X10_knot  M) fun r2 M3 =>
  q_call (f_X10_goOn  M3) fun r4 M5 =>
  q_call (F_X10_product  M5) fun r6 M7 =>
  q_call (f_X10_puts 2 v1 M7) fun r8 M9 =>
  g4  M9
theorem w_X10_sum_J22 (C : Cx syM p m c cX10_sum 2 s args RX10 D ad cA) (hr : meth.sig.returnType = none) (hlk : meth.locks = false) (F_X10_product : Mem → Res) (d : Nat) (HF_X10_product : ∀ (M : Mem) (r0 : Int) (M0 : Mem), F_X10_product  M = some (r0, M0) → q_Met l syM D ad cA yX10_product cX10_product 2 none (rg_E d) [.ref (ad 0)] M none M0) (g4 : Mem → Res) (M : Mem) (ih4 : ∀  (M : Mem), g4  M = some (r0, M0) → WM syM p l e (rg_E (d + 1)) s m args below meth c 2 D ad cA (MQ below (q_Post syM D ad cA none M0) args s 0 0 (q_A syM ad)) M 4 [(0, .ref (ad 0))] []) (h : f_X10_sum_J22 F_X10_product g4 M = some (r0, M0)) : WM syM p l e (rg_E (d + 1)) s m args below meth c 2 D ad cA (MQ below (q_Post syM D ad cA none M0) args s 0 0 (q_A syM ad)) M 22 [(0, .ref (ad 0))] [] := by
  unfold f_X10_sum_J22 at h
  refine r_aln C dX10_sum_22 (k := 0) rfl ?_
  refine r_gf C km_0 clX10 (f := 25) (by decide) rfl rfl rfl tf_RX10_171 dX10_sum_23 h (fun v1 h => ?_)
  refine r_isn C (L1 := [(1, .int (qI v1)), (0, .ref (ad 0))]) dX10_sum_26 (by decide) rfl ?_
  refine r_aln C dX10_sum_27 (k := 1) rfl ?_
  obtain ⟨r2, M3, hy, h⟩ := q_call_some h
  refine r_cvv C (st := []) (c_X10_knot C.2.2.1 M r2 M3 hy) tm_RX10_264 mw_X10_knot ⟨rfl, rfl⟩ ⟨by simp only [rm_X10_knot, rg_E]; omega, by simp only [rm_X10_knot, rg_E]; omega⟩ km_0 clX10 rfl rfl (Nat.le_of_ble_eq_true rfl) dX10_sum_28 ?_
  refine r_aln C dX10_sum_31 (k := 1) rfl ?_
  obtain ⟨r4, M5, hy, h⟩ := q_call_some h
  refine r_cvv C (st := []) (c_X10_goOn C.2.2.1 M3 r4 M5 hy) tm_RX10_249 mw_X10_goOn ⟨rfl, rfl⟩ ⟨by simp only [rm_X10_goOn, rg_E]; omega, by simp only [rm_X10_goOn, rg_E]; omega⟩ km_0 clX10 rfl rfl (Nat.le_of_ble_eq_true rfl) dX10_sum_32 ?_
  refine r_aln C dX10_sum_35 (k := 1) rfl ?_
  obtain ⟨r6, M7, hy, h⟩ := q_call_some h
  refine r_cvv C (st := []) (HF_X10_product  M5 r6 M7 hy) tm_RX10_276 mw_X10_product ⟨rfl, rfl⟩ ⟨by simp only [rg_E]; omega, by simp only [rg_E]; omega⟩ km_0 clX10 rfl rfl (Nat.le_of_ble_eq_true rfl) dX10_sum_36 ?_
  refine r_aln C dX10_sum_39 (k := 1) rfl ?_
  refine r_ic C dX10_sum_40 ?_
  refine r_iln C dX10_sum_41 (k := 0) rfl ?_
  obtain ⟨r8, M9, hy, h⟩ := q_call_some h
  refine r_cvv C (st := []) (c_X10_puts C.2.2.1 2 v1 M7 r8 M9 hy) tm_RX10_267 mw_X10_puts ⟨rfl, rfl⟩ ⟨by simp only [rm_X10_puts, rg_E]; omega, by simp only [rm_X10_puts, rg_E]; omega⟩ km_0 clX10 rfl rfl (Nat.le_of_ble_eq_true rfl) dX10_sum_42 ?_
  refine r_goto C (tgt := 4) dX10_sum_45 (by decide) ?_
  refine r_drop [1] rfl ?_
  exact ih4  M9 h
def f_X10_sum_B4 (F_X10_product : Mem → Res)  (M : Mem) (g4 : Mem → Res) : Res :=
  q_calp (f_X10_isSign 43 M) fun r1 =>
  if ¬ w32 r1 = 0 then (f_X10_sum_J22 F_X10_product g4 M)
  else (q_calp (f_X10_isSign 45 M) fun r2 =>
  if w32 r2 = 0 then (some (0, M))
  else (f_X10_sum_J22 F_X10_product g4 M))
def f_X10_sum_L4 (F_X10_product : Mem → Res) (n : Nat)  (M : Mem) : Res := qlm0 (fun  M g4 => f_X10_sum_B4 F_X10_product  M g4) n  M
theorem w_X10_sum_B4 (C : Cx syM p m c cX10_sum 2 s args RX10 D ad cA) (hr : meth.sig.returnType = none) (hlk : meth.locks = false) (F_X10_product : Mem → Res) (d : Nat) (HF_X10_product : ∀ (M : Mem) (r0 : Int) (M0 : Mem), F_X10_product  M = some (r0, M0) → q_Met l syM D ad cA yX10_product cX10_product 2 none (rg_E d) [.ref (ad 0)] M none M0)  (M : Mem) (g4 : Mem → Res)  (ih4 : ∀  (M : Mem), g4  M = some (r0, M0) → WM syM p l e (rg_E (d + 1)) s m args below meth c 2 D ad cA (MQ below (q_Post syM D ad cA none M0) args s 0 0 (q_A syM ad)) M 4 [(0, .ref (ad 0))] []) (h : f_X10_sum_B4 F_X10_product  M g4 = some (r0, M0)) : WM syM p l e (rg_E (d + 1)) s m args below meth c 2 D ad cA (MQ below (q_Post syM D ad cA none M0) args s 0 0 (q_A syM ad)) M 4 [(0, .ref (ad 0))] [] := by
  unfold f_X10_sum_B4 at h
  refine r_aln C dX10_sum_4 (k := 0) rfl ?_
  refine r_bi C dX10_sum_5 (by decide) ?_
  obtain ⟨r1, hy, h⟩ := q_calp_some h
  refine r_cvi C (st := []) (c_X10_isSign C.2.2.1 43 M r1 hy) tm_RX10_240 mw_X10_isSign ⟨rfl, rfl⟩ ⟨by simp only [rm_X10_isSign, rg_E]; omega, by simp only [rm_X10_isSign, rg_E]; omega⟩ km_0 clX10 rfl rfl (Nat.le_of_ble_eq_true rfl) dX10_sum_7 ?_
  refine r_zne C (tgt := 22) dX10_sum_10 (by decide) h (fun h => ?_) (fun h => ?_)
  · exact w_X10_sum_J22 C hr hlk F_X10_product d HF_X10_product g4 M ih4 h
  · refine r_aln C dX10_sum_13 (k := 0) rfl ?_
    refine r_bi C dX10_sum_14 (by decide) ?_
    obtain ⟨r2, hy, h⟩ := q_calp_some h
    refine r_cvi C (st := []) (c_X10_isSign C.2.2.1 45 M r2 hy) tm_RX10_240 mw_X10_isSign ⟨rfl, rfl⟩ ⟨by simp only [rm_X10_isSign, rg_E]; omega, by simp only [rm_X10_isSign, rg_E]; omega⟩ km_0 clX10 rfl rfl (Nat.le_of_ble_eq_true rfl) dX10_sum_16 ?_
    refine r_zeq C (tgt := 48) dX10_sum_19 (by decide) h (fun h => ?_) (fun h => ?_)
    · exact r_vret C hr hlk dX10_sum_48 h
    · exact w_X10_sum_J22 C hr hlk F_X10_product d HF_X10_product g4 M ih4 h
theorem w_X10_sum_L4 (C : Cx syM p m c cX10_sum 2 s args RX10 D ad cA) (hr : meth.sig.returnType = none) (hlk : meth.locks = false) (F_X10_product : Mem → Res) (d : Nat) (HF_X10_product : ∀ (M : Mem) (r0 : Int) (M0 : Mem), F_X10_product  M = some (r0, M0) → q_Met l syM D ad cA yX10_product cX10_product 2 none (rg_E d) [.ref (ad 0)] M none M0)   (n : Nat)  (M : Mem) (h : f_X10_sum_L4 F_X10_product n  M = some (r0, M0)) : WM syM p l e (rg_E (d + 1)) s m args below meth c 2 D ad cA (MQ below (q_Post syM D ad cA none M0) args s 0 0 (q_A syM ad)) M 4 [(0, .ref (ad 0))] [] :=
  qlm0_r (Wp := fun  M => WM syM p l e (rg_E (d + 1)) s m args below meth c 2 D ad cA (MQ below (q_Post syM D ad cA none M0) args s 0 0 (q_A syM ad)) M 4 [(0, .ref (ad 0))] []) (fun  M g4 ih4 h => w_X10_sum_B4 C hr hlk F_X10_product d HF_X10_product  M g4  ih4 h) n  M h
def f_X10_sum_G (F_X10_product : Mem → Res) (M : Mem) : Res :=
  q_call (F_X10_product  M) fun r1 M2 =>
  f_X10_sum_L4 F_X10_product q_N  M2
theorem c_X10_sum_G {l : Launch} {D : va_G} {ad : Nat → Nat} {cA : Nat → ClassId} (hi : q_inj syM ad) (F_X10_product : Mem → Res) (d : Nat) (HF_X10_product : ∀ (M : Mem) (r0 : Int) (M0 : Mem), F_X10_product  M = some (r0, M0) → q_Met l syM D ad cA yX10_product cX10_product 2 none (rg_E d) [.ref (ad 0)] M none M0) (M : Mem) (r0 : Int) (M0 : Mem) (h : f_X10_sum_G F_X10_product M = some (r0, M0)) : q_Met l syM D ad cA yX10_sum cX10_sum 2 none (rg_E (d + 1)) [.ref (ad 0)] M none M0 := by
  refine q_met (L0 := [(0, .ref (ad 0))]) hi okM (by decide) (Nat.le_of_ble_eq_true rfl) rfl ?_
  intro p e s m args below meth c C hr hlk
  unfold f_X10_sum_G at h
  refine r_aln C dX10_sum_0 (k := 0) rfl ?_
  obtain ⟨r1, M2, hy, h⟩ := q_call_some h
  refine r_cvv C (st := []) (HF_X10_product  M r1 M2 hy) tm_RX10_276 mw_X10_product ⟨rfl, rfl⟩ ⟨by simp only [rg_E]; omega, by simp only [rg_E]; omega⟩ km_0 clX10 rfl rfl (Nat.le_of_ble_eq_true rfl) dX10_sum_1 ?_
  exact w_X10_sum_L4 C hr hlk F_X10_product d HF_X10_product  q_N  M2 h
def f_X10_product_J22 (F_X10_primary : Mem → Res) (g4 : Mem → Res) (M : Mem) : Res :=
  q_gf M 0 25 fun v1 =>
  q_call (f_X10_knot  M) fun r2 M3 =>
  q_call (f_X10_goOn  M3) fun r4 M5 =>
  q_call (F_X10_primary  M5) fun r6 M7 =>
  q_call (f_X10_puts 2 v1 M7) fun r8 M9 =>
  g4  M9
theorem w_X10_product_J22 (C : Cx syM p m c cX10_product 2 s args RX10 D ad cA) (hr : meth.sig.returnType = none) (hlk : meth.locks = false) (F_X10_primary : Mem → Res) (d : Nat) (HF_X10_primary : ∀ (M : Mem) (r0 : Int) (M0 : Mem), F_X10_primary  M = some (r0, M0) → q_Met l syM D ad cA yX10_primary cX10_primary 2 none (rg_E d) [.ref (ad 0)] M none M0) (g4 : Mem → Res) (M : Mem) (ih4 : ∀  (M : Mem), g4  M = some (r0, M0) → WM syM p l e (rg_E (d + 1)) s m args below meth c 2 D ad cA (MQ below (q_Post syM D ad cA none M0) args s 0 0 (q_A syM ad)) M 4 [(0, .ref (ad 0))] []) (h : f_X10_product_J22 F_X10_primary g4 M = some (r0, M0)) : WM syM p l e (rg_E (d + 1)) s m args below meth c 2 D ad cA (MQ below (q_Post syM D ad cA none M0) args s 0 0 (q_A syM ad)) M 22 [(0, .ref (ad 0))] [] := by
  unfold f_X10_product_J22 at h
  refine r_aln C dX10_product_22 (k := 0) rfl ?_
  refine r_gf C km_0 clX10 (f := 25) (by decide) rfl rfl rfl tf_RX10_171 dX10_product_23 h (fun v1 h => ?_)
  refine r_isn C (L1 := [(1, .int (qI v1)), (0, .ref (ad 0))]) dX10_product_26 (by decide) rfl ?_
  refine r_aln C dX10_product_27 (k := 1) rfl ?_
  obtain ⟨r2, M3, hy, h⟩ := q_call_some h
  refine r_cvv C (st := []) (c_X10_knot C.2.2.1 M r2 M3 hy) tm_RX10_264 mw_X10_knot ⟨rfl, rfl⟩ ⟨by simp only [rm_X10_knot, rg_E]; omega, by simp only [rm_X10_knot, rg_E]; omega⟩ km_0 clX10 rfl rfl (Nat.le_of_ble_eq_true rfl) dX10_product_28 ?_
  refine r_aln C dX10_product_31 (k := 1) rfl ?_
  obtain ⟨r4, M5, hy, h⟩ := q_call_some h
  refine r_cvv C (st := []) (c_X10_goOn C.2.2.1 M3 r4 M5 hy) tm_RX10_249 mw_X10_goOn ⟨rfl, rfl⟩ ⟨by simp only [rm_X10_goOn, rg_E]; omega, by simp only [rm_X10_goOn, rg_E]; omega⟩ km_0 clX10 rfl rfl (Nat.le_of_ble_eq_true rfl) dX10_product_32 ?_
  refine r_aln C dX10_product_35 (k := 1) rfl ?_
  obtain ⟨r6, M7, hy, h⟩ := q_call_some h
  refine r_cvv C (st := []) (HF_X10_primary  M5 r6 M7 hy) tm_RX10_279 mw_X10_primary ⟨rfl, rfl⟩ ⟨by simp only [rg_E]; omega, by simp only [rg_E]; omega⟩ km_0 clX10 rfl rfl (Nat.le_of_ble_eq_true rfl) dX10_product_36 ?_
  refine r_aln C dX10_product_39 (k := 1) rfl ?_
  refine r_ic C dX10_product_40 ?_
  refine r_iln C dX10_product_41 (k := 0) rfl ?_
  obtain ⟨r8, M9, hy, h⟩ := q_call_some h
  refine r_cvv C (st := []) (c_X10_puts C.2.2.1 2 v1 M7 r8 M9 hy) tm_RX10_267 mw_X10_puts ⟨rfl, rfl⟩ ⟨by simp only [rm_X10_puts, rg_E]; omega, by simp only [rm_X10_puts, rg_E]; omega⟩ km_0 clX10 rfl rfl (Nat.le_of_ble_eq_true rfl) dX10_product_42 ?_
  refine r_goto C (tgt := 4) dX10_product_45 (by decide) ?_
  refine r_drop [1] rfl ?_
  exact ih4  M9 h
def f_X10_product_B4 (F_X10_primary : Mem → Res)  (M : Mem) (g4 : Mem → Res) : Res :=
  q_calp (f_X10_isSign 42 M) fun r1 =>
  if ¬ w32 r1 = 0 then (f_X10_product_J22 F_X10_primary g4 M)
  else (q_calp (f_X10_isSign 47 M) fun r2 =>
  if w32 r2 = 0 then (some (0, M))
  else (f_X10_product_J22 F_X10_primary g4 M))
def f_X10_product_L4 (F_X10_primary : Mem → Res) (n : Nat)  (M : Mem) : Res := qlm0 (fun  M g4 => f_X10_product_B4 F_X10_primary  M g4) n  M
theorem w_X10_product_B4 (C : Cx syM p m c cX10_product 2 s args RX10 D ad cA) (hr : meth.sig.returnType = none) (hlk : meth.locks = false) (F_X10_primary : Mem → Res) (d : Nat) (HF_X10_primary : ∀ (M : Mem) (r0 : Int) (M0 : Mem), F_X10_primary  M = some (r0, M0) → q_Met l syM D ad cA yX10_primary cX10_primary 2 none (rg_E d) [.ref (ad 0)] M none M0)  (M : Mem) (g4 : Mem → Res)  (ih4 : ∀  (M : Mem), g4  M = some (r0, M0) → WM syM p l e (rg_E (d + 1)) s m args below meth c 2 D ad cA (MQ below (q_Post syM D ad cA none M0) args s 0 0 (q_A syM ad)) M 4 [(0, .ref (ad 0))] []) (h : f_X10_product_B4 F_X10_primary  M g4 = some (r0, M0)) : WM syM p l e (rg_E (d + 1)) s m args below meth c 2 D ad cA (MQ below (q_Post syM D ad cA none M0) args s 0 0 (q_A syM ad)) M 4 [(0, .ref (ad 0))] [] := by
  unfold f_X10_product_B4 at h
  refine r_aln C dX10_product_4 (k := 0) rfl ?_
  refine r_bi C dX10_product_5 (by decide) ?_
  obtain ⟨r1, hy, h⟩ := q_calp_some h
  refine r_cvi C (st := []) (c_X10_isSign C.2.2.1 42 M r1 hy) tm_RX10_240 mw_X10_isSign ⟨rfl, rfl⟩ ⟨by simp only [rm_X10_isSign, rg_E]; omega, by simp only [rm_X10_isSign, rg_E]; omega⟩ km_0 clX10 rfl rfl (Nat.le_of_ble_eq_true rfl) dX10_product_7 ?_
  refine r_zne C (tgt := 22) dX10_product_10 (by decide) h (fun h => ?_) (fun h => ?_)
  · exact w_X10_product_J22 C hr hlk F_X10_primary d HF_X10_primary g4 M ih4 h
  · refine r_aln C dX10_product_13 (k := 0) rfl ?_
    refine r_bi C dX10_product_14 (by decide) ?_
    obtain ⟨r2, hy, h⟩ := q_calp_some h
    refine r_cvi C (st := []) (c_X10_isSign C.2.2.1 47 M r2 hy) tm_RX10_240 mw_X10_isSign ⟨rfl, rfl⟩ ⟨by simp only [rm_X10_isSign, rg_E]; omega, by simp only [rm_X10_isSign, rg_E]; omega⟩ km_0 clX10 rfl rfl (Nat.le_of_ble_eq_true rfl) dX10_product_16 ?_
    refine r_zeq C (tgt := 48) dX10_product_19 (by decide) h (fun h => ?_) (fun h => ?_)
    · exact r_vret C hr hlk dX10_product_48 h
    · exact w_X10_product_J22 C hr hlk F_X10_primary d HF_X10_primary g4 M ih4 h
theorem w_X10_product_L4 (C : Cx syM p m c cX10_product 2 s args RX10 D ad cA) (hr : meth.sig.returnType = none) (hlk : meth.locks = false) (F_X10_primary : Mem → Res) (d : Nat) (HF_X10_primary : ∀ (M : Mem) (r0 : Int) (M0 : Mem), F_X10_primary  M = some (r0, M0) → q_Met l syM D ad cA yX10_primary cX10_primary 2 none (rg_E d) [.ref (ad 0)] M none M0)   (n : Nat)  (M : Mem) (h : f_X10_product_L4 F_X10_primary n  M = some (r0, M0)) : WM syM p l e (rg_E (d + 1)) s m args below meth c 2 D ad cA (MQ below (q_Post syM D ad cA none M0) args s 0 0 (q_A syM ad)) M 4 [(0, .ref (ad 0))] [] :=
  qlm0_r (Wp := fun  M => WM syM p l e (rg_E (d + 1)) s m args below meth c 2 D ad cA (MQ below (q_Post syM D ad cA none M0) args s 0 0 (q_A syM ad)) M 4 [(0, .ref (ad 0))] []) (fun  M g4 ih4 h => w_X10_product_B4 C hr hlk F_X10_primary d HF_X10_primary  M g4  ih4 h) n  M h
def f_X10_product_G (F_X10_primary : Mem → Res) (M : Mem) : Res :=
  q_call (F_X10_primary  M) fun r1 M2 =>
  f_X10_product_L4 F_X10_primary q_N  M2
theorem c_X10_product_G {l : Launch} {D : va_G} {ad : Nat → Nat} {cA : Nat → ClassId} (hi : q_inj syM ad) (F_X10_primary : Mem → Res) (d : Nat) (HF_X10_primary : ∀ (M : Mem) (r0 : Int) (M0 : Mem), F_X10_primary  M = some (r0, M0) → q_Met l syM D ad cA yX10_primary cX10_primary 2 none (rg_E d) [.ref (ad 0)] M none M0) (M : Mem) (r0 : Int) (M0 : Mem) (h : f_X10_product_G F_X10_primary M = some (r0, M0)) : q_Met l syM D ad cA yX10_product cX10_product 2 none (rg_E (d + 1)) [.ref (ad 0)] M none M0 := by
  refine q_met (L0 := [(0, .ref (ad 0))]) hi okM (by decide) (Nat.le_of_ble_eq_true rfl) rfl ?_
  intro p e s m args below meth c C hr hlk
  unfold f_X10_product_G at h
  refine r_aln C dX10_product_0 (k := 0) rfl ?_
  obtain ⟨r1, M2, hy, h⟩ := q_call_some h
  refine r_cvv C (st := []) (HF_X10_primary  M r1 M2 hy) tm_RX10_279 mw_X10_primary ⟨rfl, rfl⟩ ⟨by simp only [rg_E]; omega, by simp only [rg_E]; omega⟩ km_0 clX10 rfl rfl (Nat.le_of_ble_eq_true rfl) dX10_product_1 ?_
  exact w_X10_product_L4 C hr hlk F_X10_primary d HF_X10_primary  q_N  M2 h
def f_X10_primary_J194 (F_X10_expression : Mem → Res) (y0 : Int) (y1 : Int) (M : Mem) : Res :=
  q_call (f_X10_puts y1 y0 M) fun r1 M2 =>
  q_call (f_X10_goOn  M2) fun r3 M4 =>
  some (0, M4)
theorem w_X10_primary_J194 (C : Cx syM p m c cX10_primary 2 s args RX10 D ad cA) (hr : meth.sig.returnType = none) (hlk : meth.locks = false) (F_X10_expression : Mem → Res) (d : Nat) (HF_X10_expression : ∀ (M : Mem) (r0 : Int) (M0 : Mem), F_X10_expression  M = some (r0, M0) → q_Met l syM D ad cA yX10_expression cX10_expression 1 none (rg_E d) [.ref (ad 0)] M none M0) (y0 : Int) (y1 : Int) (M : Mem)  (h : f_X10_primary_J194 F_X10_expression y0 y1 M = some (r0, M0)) : WM syM p l e (rg_E (d + 1)) s m args below meth c 2 D ad cA (MQ below (q_Post syM D ad cA none M0) args s 0 0 (q_A syM ad)) M 194 [(0, .ref (ad 0))] [.int (qI y0), .int (qI y1), .ref (ad 0)] := by
  unfold f_X10_primary_J194 at h
  obtain ⟨r1, M2, hy, h⟩ := q_call_some h
  refine r_cvv C (st := []) (c_X10_puts C.2.2.1 y1 y0 M r1 M2 hy) tm_RX10_267 mw_X10_puts ⟨rfl, rfl⟩ ⟨by simp only [rm_X10_puts, rg_E]; omega, by simp only [rm_X10_puts, rg_E]; omega⟩ km_0 clX10 rfl rfl (Nat.le_of_ble_eq_true rfl) dX10_primary_194 ?_
  refine r_aln C dX10_primary_197 (k := 0) rfl ?_
  obtain ⟨r3, M4, hy, h⟩ := q_call_some h
  refine r_cvv C (st := []) (c_X10_goOn C.2.2.1 M2 r3 M4 hy) tm_RX10_249 mw_X10_goOn ⟨rfl, rfl⟩ ⟨by simp only [rm_X10_goOn, rg_E]; omega, by simp only [rm_X10_goOn, rg_E]; omega⟩ km_0 clX10 rfl rfl (Nat.le_of_ble_eq_true rfl) dX10_primary_198 ?_
  exact r_vret C hr hlk dX10_primary_201 h
def f_X10_primary_J176 (F_X10_expression : Mem → Res) (x1 : Int) (y0 : Int) (M : Mem) : Res :=
  if w32 x1 = 0 then (q_gf M 0 25 fun v1 =>
  f_X10_primary_J194 F_X10_expression (v1 - 13) y0 M)
  else (q_gf M 0 25 fun v2 =>
  f_X10_primary_J194 F_X10_expression v2 y0 M)
theorem w_X10_primary_J176 (C : Cx syM p m c cX10_primary 2 s args RX10 D ad cA) (hr : meth.sig.returnType = none) (hlk : meth.locks = false) (F_X10_expression : Mem → Res) (d : Nat) (HF_X10_expression : ∀ (M : Mem) (r0 : Int) (M0 : Mem), F_X10_expression  M = some (r0, M0) → q_Met l syM D ad cA yX10_expression cX10_expression 1 none (rg_E d) [.ref (ad 0)] M none M0) (x1 : Int) (y0 : Int) (M : Mem)  (h : f_X10_primary_J176 F_X10_expression x1 y0 M = some (r0, M0)) : WM syM p l e (rg_E (d + 1)) s m args below meth c 2 D ad cA (MQ below (q_Post syM D ad cA none M0) args s 0 0 (q_A syM ad)) M 176 [(0, .ref (ad 0)), (1, .int (qI x1))] [.int (qI y0), .ref (ad 0)] := by
  unfold f_X10_primary_J176 at h
  refine r_iln C dX10_primary_176 (k := 1) rfl ?_
  refine r_zeq C (tgt := 187) dX10_primary_177 (by decide) h (fun h => ?_) (fun h => ?_)
  · refine r_aln C dX10_primary_187 (k := 0) rfl ?_
    refine r_gf C km_0 clX10 (f := 25) (by decide) rfl rfl rfl tf_RX10_171 dX10_primary_188 h (fun v1 h => ?_)
    refine r_bi C dX10_primary_191 (by decide) ?_
    refine r_isub C dX10_primary_193 ?_
    refine r_drop [0] rfl ?_
    exact w_X10_primary_J194 C hr hlk F_X10_expression d HF_X10_expression (v1 - 13) y0 M  h
  · refine r_aln C dX10_primary_180 (k := 0) rfl ?_
    refine r_gf C km_0 clX10 (f := 25) (by decide) rfl rfl rfl tf_RX10_171 dX10_primary_181 h (fun v2 h => ?_)
    refine r_goto C (tgt := 194) dX10_primary_184 (by decide) ?_
    refine r_drop [0] rfl ?_
    exact w_X10_primary_J194 C hr hlk F_X10_expression d HF_X10_expression v2 y0 M  h
def f_X10_primary_J162 (F_X10_expression : Mem → Res) (x1 : Int) (M : Mem) : Res :=
  q_call (f_X10_knot  M) fun r1 M2 =>
  if w32 x1 = 0 then (f_X10_primary_J176 F_X10_expression x1 1 M2)
  else (f_X10_primary_J176 F_X10_expression x1 0 M2)
theorem w_X10_primary_J162 (C : Cx syM p m c cX10_primary 2 s args RX10 D ad cA) (hr : meth.sig.returnType = none) (hlk : meth.locks = false) (F_X10_expression : Mem → Res) (d : Nat) (HF_X10_expression : ∀ (M : Mem) (r0 : Int) (M0 : Mem), F_X10_expression  M = some (r0, M0) → q_Met l syM D ad cA yX10_expression cX10_expression 1 none (rg_E d) [.ref (ad 0)] M none M0) (x1 : Int) (M : Mem)  (h : f_X10_primary_J162 F_X10_expression x1 M = some (r0, M0)) : WM syM p l e (rg_E (d + 1)) s m args below meth c 2 D ad cA (MQ below (q_Post syM D ad cA none M0) args s 0 0 (q_A syM ad)) M 162 [(0, .ref (ad 0)), (1, .int (qI x1))] [] := by
  unfold f_X10_primary_J162 at h
  refine r_aln C dX10_primary_162 (k := 0) rfl ?_
  obtain ⟨r1, M2, hy, h⟩ := q_call_some h
  refine r_cvv C (st := []) (c_X10_knot C.2.2.1 M r1 M2 hy) tm_RX10_264 mw_X10_knot ⟨rfl, rfl⟩ ⟨by simp only [rm_X10_knot, rg_E]; omega, by simp only [rm_X10_knot, rg_E]; omega⟩ km_0 clX10 rfl rfl (Nat.le_of_ble_eq_true rfl) dX10_primary_163 ?_
  refine r_aln C dX10_primary_166 (k := 0) rfl ?_
  refine r_iln C dX10_primary_167 (k := 1) rfl ?_
  refine r_zeq C (tgt := 175) dX10_primary_168 (by decide) h (fun h => ?_) (fun h => ?_)
  · refine r_ic C dX10_primary_175 ?_
    exact w_X10_primary_J176 C hr hlk F_X10_expression d HF_X10_expression x1 1 M2  h
  · refine r_ic C dX10_primary_171 ?_
    refine r_goto C (tgt := 176) dX10_primary_172 (by decide) ?_
    exact w_X10_primary_J176 C hr hlk F_X10_expression d HF_X10_expression x1 0 M2  h
def f_X10_primary_J157 (F_X10_expression : Mem → Res) (x1 : Int) (M : Mem) : Res :=
  q_call (f_X10_wrong 1 M) fun r1 M2 =>
  f_X10_primary_J162 F_X10_expression x1 M2
theorem w_X10_primary_J157 (C : Cx syM p m c cX10_primary 2 s args RX10 D ad cA) (hr : meth.sig.returnType = none) (hlk : meth.locks = false) (F_X10_expression : Mem → Res) (d : Nat) (HF_X10_expression : ∀ (M : Mem) (r0 : Int) (M0 : Mem), F_X10_expression  M = some (r0, M0) → q_Met l syM D ad cA yX10_expression cX10_expression 1 none (rg_E d) [.ref (ad 0)] M none M0) (x1 : Int) (M : Mem)  (h : f_X10_primary_J157 F_X10_expression x1 M = some (r0, M0)) : WM syM p l e (rg_E (d + 1)) s m args below meth c 2 D ad cA (MQ below (q_Post syM D ad cA none M0) args s 0 0 (q_A syM ad)) M 157 [(0, .ref (ad 0)), (1, .int (qI x1))] [] := by
  unfold f_X10_primary_J157 at h
  refine r_aln C dX10_primary_157 (k := 0) rfl ?_
  refine r_ic C dX10_primary_158 ?_
  obtain ⟨r1, M2, hy, h⟩ := q_call_some h
  refine r_cvv C (st := []) (c_X10_wrong C.2.2.1 1 M r1 M2 hy) tm_RX10_205 mw_X10_wrong ⟨rfl, rfl⟩ ⟨by simp only [rm_X10_wrong, rg_E]; omega, by simp only [rm_X10_wrong, rg_E]; omega⟩ km_0 clX10 rfl rfl (Nat.le_of_ble_eq_true rfl) dX10_primary_159 ?_
  exact w_X10_primary_J162 C hr hlk F_X10_expression d HF_X10_expression x1 M2  h
def f_X10_primary_J137 (F_X10_expression : Mem → Res) (x1 : Int) (M : Mem) : Res :=
  if ¬ w32 x1 = 0 then (f_X10_primary_J162 F_X10_expression x1 M)
  else (q_gf M 0 24 fun v1 =>
  if ¬ w32 v1 = 0 then (f_X10_primary_J157 F_X10_expression x1 M)
  else (q_gf M 0 25 fun v2 =>
  if w32 13 ≤ w32 v2 then (f_X10_primary_J162 F_X10_expression x1 M)
  else (f_X10_primary_J157 F_X10_expression x1 M)))
theorem w_X10_primary_J137 (C : Cx syM p m c cX10_primary 2 s args RX10 D ad cA) (hr : meth.sig.returnType = none) (hlk : meth.locks = false) (F_X10_expression : Mem → Res) (d : Nat) (HF_X10_expression : ∀ (M : Mem) (r0 : Int) (M0 : Mem), F_X10_expression  M = some (r0, M0) → q_Met l syM D ad cA yX10_expression cX10_expression 1 none (rg_E d) [.ref (ad 0)] M none M0) (x1 : Int) (M : Mem)  (h : f_X10_primary_J137 F_X10_expression x1 M = some (r0, M0)) : WM syM p l e (rg_E (d + 1)) s m args below meth c 2 D ad cA (MQ below (q_Post syM D ad cA none M0) args s 0 0 (q_A syM ad)) M 137 [(0, .ref (ad 0)), (1, .int (qI x1))] [] := by
  unfold f_X10_primary_J137 at h
  refine r_iln C dX10_primary_137 (k := 1) rfl ?_
  refine r_zne C (tgt := 162) dX10_primary_138 (by decide) h (fun h => ?_) (fun h => ?_)
  · exact w_X10_primary_J162 C hr hlk F_X10_expression d HF_X10_expression x1 M  h
  · refine r_aln C dX10_primary_141 (k := 0) rfl ?_
    refine r_gf C km_0 clX10 (f := 24) (by decide) rfl rfl rfl tf_RX10_161 dX10_primary_142 h (fun v1 h => ?_)
    refine r_zne C (tgt := 157) dX10_primary_145 (by decide) h (fun h => ?_) (fun h => ?_)
    · exact w_X10_primary_J157 C hr hlk F_X10_expression d HF_X10_expression x1 M  h
    · refine r_aln C dX10_primary_148 (k := 0) rfl ?_
      refine r_gf C km_0 clX10 (f := 25) (by decide) rfl rfl rfl tf_RX10_171 dX10_primary_149 h (fun v2 h => ?_)
      refine r_bi C dX10_primary_152 (by decide) ?_
      refine r_cge C (tgt := 162) dX10_primary_154 (by decide) h (fun h => ?_) (fun h => ?_)
      · exact w_X10_primary_J162 C hr hlk F_X10_expression d HF_X10_expression x1 M  h
      · exact w_X10_primary_J157 C hr hlk F_X10_expression d HF_X10_expression x1 M  h
def f_X10_primary_J114 (F_X10_expression : Mem → Res) (y0 : Int) (M : Mem) : Res :=
  if w32 y0 = 0 then (f_X10_primary_J137 F_X10_expression y0 M)
  else (q_gf M 0 25 fun v1 =>
  if w32 v1 ≤ w32 9999 then (f_X10_primary_J137 F_X10_expression y0 M)
  else (q_call (f_X10_wrong 2 M) fun r2 M3 =>
  f_X10_primary_J162 F_X10_expression y0 M3))
theorem w_X10_primary_J114 (C : Cx syM p m c cX10_primary 2 s args RX10 D ad cA) (hr : meth.sig.returnType = none) (hlk : meth.locks = false) (F_X10_expression : Mem → Res) (d : Nat) (HF_X10_expression : ∀ (M : Mem) (r0 : Int) (M0 : Mem), F_X10_expression  M = some (r0, M0) → q_Met l syM D ad cA yX10_expression cX10_expression 1 none (rg_E d) [.ref (ad 0)] M none M0) (y0 : Int) (M : Mem)  (h : f_X10_primary_J114 F_X10_expression y0 M = some (r0, M0)) : WM syM p l e (rg_E (d + 1)) s m args below meth c 2 D ad cA (MQ below (q_Post syM D ad cA none M0) args s 0 0 (q_A syM ad)) M 114 [(0, .ref (ad 0))] [.int (qI y0)] := by
  unfold f_X10_primary_J114 at h
  refine r_isn C (L1 := [(1, .int (qI y0)), (0, .ref (ad 0))]) dX10_primary_114 (by decide) rfl ?_
  refine r_iln C dX10_primary_115 (k := 0) rfl ?_
  refine r_zeq C (tgt := 137) dX10_primary_116 (by decide) h (fun h => ?_) (fun h => ?_)
  · refine r_drop [1, 0] rfl ?_
    exact w_X10_primary_J137 C hr hlk F_X10_expression d HF_X10_expression y0 M  h
  · refine r_aln C dX10_primary_119 (k := 1) rfl ?_
    refine r_gf C km_0 clX10 (f := 25) (by decide) rfl rfl rfl tf_RX10_171 dX10_primary_120 h (fun v1 h => ?_)
    refine r_si C dX10_primary_123 (by decide) ?_
    refine r_cle C (tgt := 137) dX10_primary_126 (by decide) h (fun h => ?_) (fun h => ?_)
    · refine r_drop [1, 0] rfl ?_
      exact w_X10_primary_J137 C hr hlk F_X10_expression d HF_X10_expression y0 M  h
    · refine r_aln C dX10_primary_129 (k := 1) rfl ?_
      refine r_ic C dX10_primary_130 ?_
      obtain ⟨r2, M3, hy, h⟩ := q_call_some h
      refine r_cvv C (st := []) (c_X10_wrong C.2.2.1 2 M r2 M3 hy) tm_RX10_205 mw_X10_wrong ⟨rfl, rfl⟩ ⟨by simp only [rm_X10_wrong, rg_E]; omega, by simp only [rm_X10_wrong, rg_E]; omega⟩ km_0 clX10 rfl rfl (Nat.le_of_ble_eq_true rfl) dX10_primary_131 ?_
      refine r_goto C (tgt := 162) dX10_primary_134 (by decide) ?_
      refine r_drop [1, 0] rfl ?_
      exact w_X10_primary_J162 C hr hlk F_X10_expression d HF_X10_expression y0 M3  h
def f_X10_primary_J78 (F_X10_expression : Mem → Res) (M : Mem) : Res :=
  q_gf M 0 26 fun v1 =>
  if w32 v1 = 0 then (q_gf M 0 30 fun v2 =>
  q_pf M 0 30 (v2 - 1) fun M3 =>
  q_call (f_X10_token  M3) fun r4 M5 =>
  some (0, M5))
  else (some (0, M))
theorem w_X10_primary_J78 (C : Cx syM p m c cX10_primary 2 s args RX10 D ad cA) (hr : meth.sig.returnType = none) (hlk : meth.locks = false) (F_X10_expression : Mem → Res) (d : Nat) (HF_X10_expression : ∀ (M : Mem) (r0 : Int) (M0 : Mem), F_X10_expression  M = some (r0, M0) → q_Met l syM D ad cA yX10_expression cX10_expression 1 none (rg_E d) [.ref (ad 0)] M none M0) (M : Mem)  (h : f_X10_primary_J78 F_X10_expression M = some (r0, M0)) : WM syM p l e (rg_E (d + 1)) s m args below meth c 2 D ad cA (MQ below (q_Post syM D ad cA none M0) args s 0 0 (q_A syM ad)) M 78 [(0, .ref (ad 0))] [] := by
  unfold f_X10_primary_J78 at h
  refine r_aln C dX10_primary_78 (k := 0) rfl ?_
  refine r_gf C km_0 clX10 (f := 26) (by decide) rfl rfl rfl tf_RX10_196 dX10_primary_79 h (fun v1 h => ?_)
  refine r_zeq C (tgt := 86) dX10_primary_82 (by decide) h (fun h => ?_) (fun h => ?_)
  · refine r_aln C dX10_primary_86 (k := 0) rfl ?_
    refine r_dup C rfl dX10_primary_87 ?_
    refine r_gf C km_0 clX10 (f := 30) (by decide) rfl rfl rfl tf_RX10_282 dX10_primary_88 h (fun v2 h => ?_)
    refine r_ic C dX10_primary_91 ?_
    refine r_isub C dX10_primary_92 ?_
    refine r_pf C km_0 clX10 (f := 30) (by decide) rfl q_dI rfl rfl tf_RX10_282 dX10_primary_93 h (fun M3 h => ?_)
    refine r_aln C dX10_primary_96 (k := 0) rfl ?_
    obtain ⟨r4, M5, hy, h⟩ := q_call_some h
    refine r_cvv C (st := []) (c_X10_token C.2.2.1 M3 r4 M5 hy) tm_RX10_202 mw_X10_token ⟨rfl, rfl⟩ ⟨by simp only [rm_X10_token, rg_E]; omega, by simp only [rm_X10_token, rg_E]; omega⟩ km_0 clX10 rfl rfl (Nat.le_of_ble_eq_true rfl) dX10_primary_97 ?_
    exact r_vret C hr hlk dX10_primary_100 h
  · exact r_vret C hr hlk dX10_primary_85 h
def f_X10_primary_J31 (F_X10_expression : Mem → Res) (M : Mem) : Res :=
  q_gf M 0 26 fun v1 =>
  if w32 v1 = 0 then (q_gf M 0 30 fun v2 =>
  q_pf M 0 30 (v2 + 1) fun M3 =>
  q_call (f_X10_token  M3) fun r4 M5 =>
  q_call (F_X10_expression  M5) fun r6 M7 =>
  q_gf M7 0 26 fun v8 =>
  if ¬ w32 v8 = 0 then (f_X10_primary_J78 F_X10_expression M7)
  else (q_calp (f_X10_isSign 41 M7) fun r9 =>
  if ¬ w32 r9 = 0 then (f_X10_primary_J78 F_X10_expression M7)
  else (q_call (f_X10_wrong 1 M7) fun r10 M11 =>
  f_X10_primary_J78 F_X10_expression M11)))
  else (some (0, M))
theorem w_X10_primary_J31 (C : Cx syM p m c cX10_primary 2 s args RX10 D ad cA) (hr : meth.sig.returnType = none) (hlk : meth.locks = false) (F_X10_expression : Mem → Res) (d : Nat) (HF_X10_expression : ∀ (M : Mem) (r0 : Int) (M0 : Mem), F_X10_expression  M = some (r0, M0) → q_Met l syM D ad cA yX10_expression cX10_expression 1 none (rg_E d) [.ref (ad 0)] M none M0) (M : Mem)  (h : f_X10_primary_J31 F_X10_expression M = some (r0, M0)) : WM syM p l e (rg_E (d + 1)) s m args below meth c 2 D ad cA (MQ below (q_Post syM D ad cA none M0) args s 0 0 (q_A syM ad)) M 31 [(0, .ref (ad 0))] [] := by
  unfold f_X10_primary_J31 at h
  refine r_aln C dX10_primary_31 (k := 0) rfl ?_
  refine r_gf C km_0 clX10 (f := 26) (by decide) rfl rfl rfl tf_RX10_196 dX10_primary_32 h (fun v1 h => ?_)
  refine r_zeq C (tgt := 39) dX10_primary_35 (by decide) h (fun h => ?_) (fun h => ?_)
  · refine r_aln C dX10_primary_39 (k := 0) rfl ?_
    refine r_dup C rfl dX10_primary_40 ?_
    refine r_gf C km_0 clX10 (f := 30) (by decide) rfl rfl rfl tf_RX10_282 dX10_primary_41 h (fun v2 h => ?_)
    refine r_ic C dX10_primary_44 ?_
    refine r_iadd C dX10_primary_45 ?_
    refine r_pf C km_0 clX10 (f := 30) (by decide) rfl q_dI rfl rfl tf_RX10_282 dX10_primary_46 h (fun M3 h => ?_)
    refine r_aln C dX10_primary_49 (k := 0) rfl ?_
    obtain ⟨r4, M5, hy, h⟩ := q_call_some h
    refine r_cvv C (st := []) (c_X10_token C.2.2.1 M3 r4 M5 hy) tm_RX10_202 mw_X10_token ⟨rfl, rfl⟩ ⟨by simp only [rm_X10_token, rg_E]; omega, by simp only [rm_X10_token, rg_E]; omega⟩ km_0 clX10 rfl rfl (Nat.le_of_ble_eq_true rfl) dX10_primary_50 ?_
    refine r_aln C dX10_primary_53 (k := 0) rfl ?_
    obtain ⟨r6, M7, hy, h⟩ := q_call_some h
    refine r_cvv C (st := []) (HF_X10_expression  M5 r6 M7 hy) tm_RX10_252 mw_X10_expression ⟨rfl, rfl⟩ ⟨by simp only [rg_E]; omega, by simp only [rg_E]; omega⟩ km_0 clX10 rfl rfl (Nat.le_of_ble_eq_true rfl) dX10_primary_54 ?_
    refine r_aln C dX10_primary_57 (k := 0) rfl ?_
    refine r_gf C km_0 clX10 (f := 26) (by decide) rfl rfl rfl tf_RX10_196 dX10_primary_58 h (fun v8 h => ?_)
    refine r_zne C (tgt := 78) dX10_primary_61 (by decide) h (fun h => ?_) (fun h => ?_)
    · exact w_X10_primary_J78 C hr hlk F_X10_expression d HF_X10_expression M7  h
    · refine r_aln C dX10_primary_64 (k := 0) rfl ?_
      refine r_bi C dX10_primary_65 (by decide) ?_
      obtain ⟨r9, hy, h⟩ := q_calp_some h
      refine r_cvi C (st := []) (c_X10_isSign C.2.2.1 41 M7 r9 hy) tm_RX10_240 mw_X10_isSign ⟨rfl, rfl⟩ ⟨by simp only [rm_X10_isSign, rg_E]; omega, by simp only [rm_X10_isSign, rg_E]; omega⟩ km_0 clX10 rfl rfl (Nat.le_of_ble_eq_true rfl) dX10_primary_67 ?_
      refine r_zne C (tgt := 78) dX10_primary_70 (by decide) h (fun h => ?_) (fun h => ?_)
      · exact w_X10_primary_J78 C hr hlk F_X10_expression d HF_X10_expression M7  h
      · refine r_aln C dX10_primary_73 (k := 0) rfl ?_
        refine r_ic C dX10_primary_74 ?_
        obtain ⟨r10, M11, hy, h⟩ := q_call_some h
        refine r_cvv C (st := []) (c_X10_wrong C.2.2.1 1 M7 r10 M11 hy) tm_RX10_205 mw_X10_wrong ⟨rfl, rfl⟩ ⟨by simp only [rm_X10_wrong, rg_E]; omega, by simp only [rm_X10_wrong, rg_E]; omega⟩ km_0 clX10 rfl rfl (Nat.le_of_ble_eq_true rfl) dX10_primary_75 ?_
        exact w_X10_primary_J78 C hr hlk F_X10_expression d HF_X10_expression M11  h
  · exact r_vret C hr hlk dX10_primary_38 h
def f_X10_primary_G (F_X10_expression : Mem → Res) (M : Mem) : Res :=
  q_gf M 0 26 fun v1 =>
  if w32 v1 = 0 then (q_calp (f_X10_isSign 40 M) fun r2 =>
  if w32 r2 = 0 then (q_gf M 0 24 fun v3 =>
  if ¬ w32 v3 = w32 2 then (f_X10_primary_J114 F_X10_expression 0 M)
  else (f_X10_primary_J114 F_X10_expression 1 M))
  else (q_gf M 0 30 fun v4 =>
  if ¬ w32 v4 = w32 8 then (f_X10_primary_J31 F_X10_expression M)
  else (q_call (f_X10_wrong 2 M) fun r5 M6 =>
  f_X10_primary_J31 F_X10_expression M6)))
  else (some (0, M))
theorem c_X10_primary_G {l : Launch} {D : va_G} {ad : Nat → Nat} {cA : Nat → ClassId} (hi : q_inj syM ad) (F_X10_expression : Mem → Res) (d : Nat) (HF_X10_expression : ∀ (M : Mem) (r0 : Int) (M0 : Mem), F_X10_expression  M = some (r0, M0) → q_Met l syM D ad cA yX10_expression cX10_expression 1 none (rg_E d) [.ref (ad 0)] M none M0) (M : Mem) (r0 : Int) (M0 : Mem) (h : f_X10_primary_G F_X10_expression M = some (r0, M0)) : q_Met l syM D ad cA yX10_primary cX10_primary 2 none (rg_E (d + 1)) [.ref (ad 0)] M none M0 := by
  refine q_met (L0 := [(0, .ref (ad 0))]) hi okM (by decide) (Nat.le_of_ble_eq_true rfl) rfl ?_
  intro p e s m args below meth c C hr hlk
  unfold f_X10_primary_G at h
  refine r_aln C dX10_primary_0 (k := 0) rfl ?_
  refine r_gf C km_0 clX10 (f := 26) (by decide) rfl rfl rfl tf_RX10_196 dX10_primary_1 h (fun v1 h => ?_)
  refine r_zeq C (tgt := 8) dX10_primary_4 (by decide) h (fun h => ?_) (fun h => ?_)
  · refine r_aln C dX10_primary_8 (k := 0) rfl ?_
    refine r_bi C dX10_primary_9 (by decide) ?_
    obtain ⟨r2, hy, h⟩ := q_calp_some h
    refine r_cvi C (st := []) (c_X10_isSign C.2.2.1 40 M r2 hy) tm_RX10_240 mw_X10_isSign ⟨rfl, rfl⟩ ⟨by simp only [rm_X10_isSign, rg_E]; omega, by simp only [rm_X10_isSign, rg_E]; omega⟩ km_0 clX10 rfl rfl (Nat.le_of_ble_eq_true rfl) dX10_primary_11 ?_
    refine r_zeq C (tgt := 101) dX10_primary_14 (by decide) h (fun h => ?_) (fun h => ?_)
    · refine r_aln C dX10_primary_101 (k := 0) rfl ?_
      refine r_gf C km_0 clX10 (f := 24) (by decide) rfl rfl rfl tf_RX10_161 dX10_primary_102 h (fun v3 h => ?_)
      refine r_ic C dX10_primary_105 ?_
      refine r_cne C (tgt := 113) dX10_primary_106 (by decide) h (fun h => ?_) (fun h => ?_)
      · refine r_ic C dX10_primary_113 ?_
        exact w_X10_primary_J114 C hr hlk F_X10_expression d HF_X10_expression 0 M  h
      · refine r_ic C dX10_primary_109 ?_
        refine r_goto C (tgt := 114) dX10_primary_110 (by decide) ?_
        exact w_X10_primary_J114 C hr hlk F_X10_expression d HF_X10_expression 1 M  h
    · refine r_aln C dX10_primary_17 (k := 0) rfl ?_
      refine r_gf C km_0 clX10 (f := 30) (by decide) rfl rfl rfl tf_RX10_282 dX10_primary_18 h (fun v4 h => ?_)
      refine r_bi C dX10_primary_21 (by decide) ?_
      refine r_cne C (tgt := 31) dX10_primary_23 (by decide) h (fun h => ?_) (fun h => ?_)
      · exact w_X10_primary_J31 C hr hlk F_X10_expression d HF_X10_expression M  h
      · refine r_aln C dX10_primary_26 (k := 0) rfl ?_
        refine r_ic C dX10_primary_27 ?_
        obtain ⟨r5, M6, hy, h⟩ := q_call_some h
        refine r_cvv C (st := []) (c_X10_wrong C.2.2.1 2 M r5 M6 hy) tm_RX10_205 mw_X10_wrong ⟨rfl, rfl⟩ ⟨by simp only [rm_X10_wrong, rg_E]; omega, by simp only [rm_X10_wrong, rg_E]; omega⟩ km_0 clX10 rfl rfl (Nat.le_of_ble_eq_true rfl) dX10_primary_28 ?_
        exact w_X10_primary_J31 C hr hlk F_X10_expression d HF_X10_expression M6  h
  · exact r_vret C hr hlk dX10_primary_7 h
def f_E : Nat → Nat → Mem → Res
  | 0, _, _ => none
  | d + 1, 0, M => f_X10_expression_G (f_E d 1) M
  | d + 1, 1, M => f_X10_conjunction_G (f_E d 2) M
  | d + 1, 2, M => f_X10_negation_G (f_E d 2) (f_E d 3) M
  | d + 1, 3, M => f_X10_sum_G (f_E d 4) M
  | d + 1, 4, M => f_X10_product_G (f_E d 5) M
  | d + 1, 5, M => f_X10_primary_G (f_E d 0) M
  | _ + 1, _, _ => none
theorem c_E (hi : q_inj syM ad) : ∀ d, (∀ (M : Mem) (r0 : Int) (M0 : Mem), f_E d 0  M = some (r0, M0) → q_Met l syM D ad cA yX10_expression cX10_expression 1 none (rg_E d) [.ref (ad 0)] M none M0) ∧ (∀ (M : Mem) (r0 : Int) (M0 : Mem), f_E d 1  M = some (r0, M0) → q_Met l syM D ad cA yX10_conjunction cX10_conjunction 1 none (rg_E d) [.ref (ad 0)] M none M0) ∧ (∀ (M : Mem) (r0 : Int) (M0 : Mem), f_E d 2  M = some (r0, M0) → q_Met l syM D ad cA yX10_negation cX10_negation 2 none (rg_E d) [.ref (ad 0)] M none M0) ∧ (∀ (M : Mem) (r0 : Int) (M0 : Mem), f_E d 3  M = some (r0, M0) → q_Met l syM D ad cA yX10_sum cX10_sum 2 none (rg_E d) [.ref (ad 0)] M none M0) ∧ (∀ (M : Mem) (r0 : Int) (M0 : Mem), f_E d 4  M = some (r0, M0) → q_Met l syM D ad cA yX10_product cX10_product 2 none (rg_E d) [.ref (ad 0)] M none M0) ∧ (∀ (M : Mem) (r0 : Int) (M0 : Mem), f_E d 5  M = some (r0, M0) → q_Met l syM D ad cA yX10_primary cX10_primary 2 none (rg_E d) [.ref (ad 0)] M none M0) := by
  intro d
  induction d with
  | zero => refine ⟨?_, ?_, ?_, ?_, ?_, ?_⟩ <;> (intros; rename_i h; cases h)
  | succ d ih =>
    obtain ⟨ih0, ih1, ih2, ih3, ih4, ih5⟩ := ih
    refine ⟨?_, ?_, ?_, ?_, ?_, ?_⟩
    · intro  M r0 M0 h
      exact c_X10_expression_G hi (f_E d 1) d ih1  M r0 M0 h
    · intro  M r0 M0 h
      exact c_X10_conjunction_G hi (f_E d 2) d ih2  M r0 M0 h
    · intro  M r0 M0 h
      exact c_X10_negation_G hi (f_E d 2) (f_E d 3) d ih2 ih3  M r0 M0 h
    · intro  M r0 M0 h
      exact c_X10_sum_G hi (f_E d 4) d ih4  M r0 M0 h
    · intro  M r0 M0 h
      exact c_X10_product_G hi (f_E d 5) d ih5  M r0 M0 h
    · intro  M r0 M0 h
      exact c_X10_primary_G hi (f_E d 0) d ih0  M r0 M0 h
abbrev rm_X10_expression : Room := { frames := 209, cells := 0, slots := 0, locals := 4564 }
def f_X10_expression (M : Mem) : Res := f_E q_D 0  M
theorem c_X10_expression (hi : q_inj syM ad) (M : Mem) (r0 : Int) (M0 : Mem) (h : f_X10_expression  M = some (r0, M0)) : q_Met l syM D ad cA yX10_expression cX10_expression 1 none rm_X10_expression [.ref (ad 0)] M none M0 := (c_E hi q_D).1  M r0 M0 h
abbrev rm_X10_conjunction : Room := { frames := 209, cells := 0, slots := 0, locals := 4564 }
def f_X10_conjunction (M : Mem) : Res := f_E q_D 1  M
theorem c_X10_conjunction (hi : q_inj syM ad) (M : Mem) (r0 : Int) (M0 : Mem) (h : f_X10_conjunction  M = some (r0, M0)) : q_Met l syM D ad cA yX10_conjunction cX10_conjunction 1 none rm_X10_conjunction [.ref (ad 0)] M none M0 := (c_E hi q_D).2.1  M r0 M0 h
abbrev rm_X10_negation : Room := { frames := 209, cells := 0, slots := 0, locals := 4564 }
def f_X10_negation (M : Mem) : Res := f_E q_D 2  M
theorem c_X10_negation (hi : q_inj syM ad) (M : Mem) (r0 : Int) (M0 : Mem) (h : f_X10_negation  M = some (r0, M0)) : q_Met l syM D ad cA yX10_negation cX10_negation 2 none rm_X10_negation [.ref (ad 0)] M none M0 := (c_E hi q_D).2.2.1  M r0 M0 h
abbrev rm_X10_sum : Room := { frames := 209, cells := 0, slots := 0, locals := 4564 }
def f_X10_sum (M : Mem) : Res := f_E q_D 3  M
theorem c_X10_sum (hi : q_inj syM ad) (M : Mem) (r0 : Int) (M0 : Mem) (h : f_X10_sum  M = some (r0, M0)) : q_Met l syM D ad cA yX10_sum cX10_sum 2 none rm_X10_sum [.ref (ad 0)] M none M0 := (c_E hi q_D).2.2.2.1  M r0 M0 h
abbrev rm_X10_product : Room := { frames := 209, cells := 0, slots := 0, locals := 4564 }
def f_X10_product (M : Mem) : Res := f_E q_D 4  M
theorem c_X10_product (hi : q_inj syM ad) (M : Mem) (r0 : Int) (M0 : Mem) (h : f_X10_product  M = some (r0, M0)) : q_Met l syM D ad cA yX10_product cX10_product 2 none rm_X10_product [.ref (ad 0)] M none M0 := (c_E hi q_D).2.2.2.2.1  M r0 M0 h
abbrev rm_X10_primary : Room := { frames := 209, cells := 0, slots := 0, locals := 4564 }
def f_X10_primary (M : Mem) : Res := f_E q_D 5  M
theorem c_X10_primary (hi : q_inj syM ad) (M : Mem) (r0 : Int) (M0 : Mem) (h : f_X10_primary  M = some (r0, M0)) : q_Met l syM D ad cA yX10_primary cX10_primary 2 none rm_X10_primary [.ref (ad 0)] M none M0 := (c_E hi q_D).2.2.2.2.2  M r0 M0 h
abbrev rm_X10_lawLine : Room := { frames := 210, cells := 0, slots := 0, locals := 4584 }
theorem mw_X10_lawLine : q_mw RX10 yX10_lawLine cX10_lawLine 2 none 0 := ⟨⟨ti_X10_lawLine, tl_X10_lawLine, tn_RX10, td_X10_lawLine⟩, by decide +kernel⟩
def f_X10_lawLine_J65 (x1 : Int) (M : Mem) : Res :=
  q_gf M 0 26 fun v1 =>
  if w32 v1 = 0 then (q_gf M 0 19 fun v2 =>
  q_pf M 0 19 (q_or v2 (q_shl 1 (16 + x1))) fun M3 =>
  q_call (f_X10_token  M3) fun r4 M5 =>
  q_calp (f_X10_fresher 6 M5) fun r6 =>
  q_as M5 47 6 (3 + x1) r6 fun M7 =>
  q_call (f_X10_expression  M7) fun r8 M9 =>
  q_calp (f_X10_fresher 6 M9) fun r10 =>
  q_as M9 48 6 (3 + x1) r10 fun M11 =>
  some (0, M11))
  else (some (0, M))
theorem w_X10_lawLine_J65 (C : Cx syM p m c cX10_lawLine 2 s args RX10 D ad cA) (hr : meth.sig.returnType = none) (hlk : meth.locks = false) (x1 : Int) (M : Mem)  (h : f_X10_lawLine_J65 x1 M = some (r0, M0)) : WM syM p l e rm_X10_lawLine s m args below meth c 2 D ad cA (MQ below (q_Post syM D ad cA none M0) args s 0 0 (q_A syM ad)) M 65 [(0, .ref (ad 0)), (1, .int (qI x1))] [] := by
  unfold f_X10_lawLine_J65 at h
  refine r_aln C dX10_lawLine_65 (k := 0) rfl ?_
  refine r_gf C km_0 clX10 (f := 26) (by decide) rfl rfl rfl tf_RX10_196 dX10_lawLine_66 h (fun v1 h => ?_)
  refine r_zeq C (tgt := 73) dX10_lawLine_69 (by decide) h (fun h => ?_) (fun h => ?_)
  · refine r_aln C dX10_lawLine_73 (k := 0) rfl ?_
    refine r_dup C rfl dX10_lawLine_74 ?_
    refine r_gf C km_0 clX10 (f := 19) (by decide) rfl rfl rfl tf_RX10_219 dX10_lawLine_75 h (fun v2 h => ?_)
    refine r_ic C dX10_lawLine_78 ?_
    refine r_bi C dX10_lawLine_79 (by decide) ?_
    refine r_iln C dX10_lawLine_81 (k := 1) rfl ?_
    refine r_iadd C dX10_lawLine_82 ?_
    refine r_ishl C dX10_lawLine_83 ?_
    refine r_ior C dX10_lawLine_84 ?_
    refine r_pf C km_0 clX10 (f := 19) (by decide) rfl q_dI rfl rfl tf_RX10_219 dX10_lawLine_85 h (fun M3 h => ?_)
    refine r_aln C dX10_lawLine_88 (k := 0) rfl ?_
    obtain ⟨r4, M5, hy, h⟩ := q_call_some h
    refine r_cvv C (st := []) (c_X10_token C.2.2.1 M3 r4 M5 hy) tm_RX10_202 mw_X10_token ⟨rfl, rfl⟩ ⟨Nat.le_of_ble_eq_true rfl, Nat.le_of_ble_eq_true rfl⟩ km_0 clX10 rfl rfl (Nat.le_of_ble_eq_true rfl) dX10_lawLine_89 ?_
    refine r_aln C dX10_lawLine_92 (k := 0) rfl ?_
    refine r_gs C km_0 clX10 (f := 15) (by decide) rfl (t := 47) rfl tf_RX10_49 dX10_lawLine_93 ?_
    refine r_ic C dX10_lawLine_96 ?_
    refine r_iln C dX10_lawLine_97 (k := 1) rfl ?_
    refine r_iadd C dX10_lawLine_98 ?_
    refine r_aln C dX10_lawLine_99 (k := 0) rfl ?_
    refine r_bi C dX10_lawLine_100 (by decide) ?_
    obtain ⟨r6, hy, h⟩ := q_calp_some h
    refine r_cvi C (st := [.int (qI (3 + x1)), .ref (ad 47)]) (c_X10_fresher C.2.2.1 6 M5 r6 hy) tm_RX10_212 mw_X10_fresher ⟨rfl, rfl⟩ ⟨Nat.le_of_ble_eq_true rfl, Nat.le_of_ble_eq_true rfl⟩ km_0 clX10 rfl rfl (Nat.le_of_ble_eq_true rfl) dX10_lawLine_102 ?_
    refine r_iast C km_47 dX10_lawLine_105 h (fun M7 h => ?_)
    refine r_aln C dX10_lawLine_106 (k := 0) rfl ?_
    obtain ⟨r8, M9, hy, h⟩ := q_call_some h
    refine r_cvv C (st := []) (c_X10_expression C.2.2.1 M7 r8 M9 hy) tm_RX10_252 mw_X10_expression ⟨rfl, rfl⟩ ⟨Nat.le_of_ble_eq_true rfl, Nat.le_of_ble_eq_true rfl⟩ km_0 clX10 rfl rfl (Nat.le_of_ble_eq_true rfl) dX10_lawLine_107 ?_
    refine r_aln C dX10_lawLine_110 (k := 0) rfl ?_
    refine r_gs C km_0 clX10 (f := 16) (by decide) rfl (t := 48) rfl tf_RX10_52 dX10_lawLine_111 ?_
    refine r_ic C dX10_lawLine_114 ?_
    refine r_iln C dX10_lawLine_115 (k := 1) rfl ?_
    refine r_iadd C dX10_lawLine_116 ?_
    refine r_aln C dX10_lawLine_117 (k := 0) rfl ?_
    refine r_bi C dX10_lawLine_118 (by decide) ?_
    obtain ⟨r10, hy, h⟩ := q_calp_some h
    refine r_cvi C (st := [.int (qI (3 + x1)), .ref (ad 48)]) (c_X10_fresher C.2.2.1 6 M9 r10 hy) tm_RX10_212 mw_X10_fresher ⟨rfl, rfl⟩ ⟨Nat.le_of_ble_eq_true rfl, Nat.le_of_ble_eq_true rfl⟩ km_0 clX10 rfl rfl (Nat.le_of_ble_eq_true rfl) dX10_lawLine_120 ?_
    refine r_iast C km_48 dX10_lawLine_123 h (fun M11 h => ?_)
    exact r_vret C hr hlk dX10_lawLine_124 h
  · exact r_vret C hr hlk dX10_lawLine_72 h
def f_X10_lawLine_J30  (M : Mem) : Res :=
  q_gf M 0 25 fun v1 =>
  q_gf M 0 26 fun v2 =>
  if ¬ w32 v2 = 0 then (f_X10_lawLine_J65 (v1 - 7) M)
  else (q_gf M 0 19 fun v3 =>
  if ¬ w32 (q_and (q_shr v3 (16 + (v1 - 7))) 1) = w32 1 then (f_X10_lawLine_J65 (v1 - 7) M)
  else (q_call (f_X10_wrong 3 M) fun r4 M5 =>
  f_X10_lawLine_J65 (v1 - 7) M5))
theorem w_X10_lawLine_J30 (C : Cx syM p m c cX10_lawLine 2 s args RX10 D ad cA) (hr : meth.sig.returnType = none) (hlk : meth.locks = false)  (M : Mem)  (h : f_X10_lawLine_J30  M = some (r0, M0)) : WM syM p l e rm_X10_lawLine s m args below meth c 2 D ad cA (MQ below (q_Post syM D ad cA none M0) args s 0 0 (q_A syM ad)) M 30 [(0, .ref (ad 0))] [] := by
  unfold f_X10_lawLine_J30 at h
  refine r_aln C dX10_lawLine_30 (k := 0) rfl ?_
  refine r_gf C km_0 clX10 (f := 25) (by decide) rfl rfl rfl tf_RX10_171 dX10_lawLine_31 h (fun v1 h => ?_)
  refine r_bi C dX10_lawLine_34 (by decide) ?_
  refine r_isub C dX10_lawLine_36 ?_
  refine r_isn C (L1 := [(1, .int (qI (v1 - 7))), (0, .ref (ad 0))]) dX10_lawLine_37 (by decide) rfl ?_
  refine r_aln C dX10_lawLine_38 (k := 1) rfl ?_
  refine r_gf C km_0 clX10 (f := 26) (by decide) rfl rfl rfl tf_RX10_196 dX10_lawLine_39 h (fun v2 h => ?_)
  refine r_zne C (tgt := 65) dX10_lawLine_42 (by decide) h (fun h => ?_) (fun h => ?_)
  · refine r_drop [1, 0] rfl ?_
    exact w_X10_lawLine_J65 C hr hlk (v1 - 7) M  h
  · refine r_aln C dX10_lawLine_45 (k := 1) rfl ?_
    refine r_gf C km_0 clX10 (f := 19) (by decide) rfl rfl rfl tf_RX10_219 dX10_lawLine_46 h (fun v3 h => ?_)
    refine r_bi C dX10_lawLine_49 (by decide) ?_
    refine r_iln C dX10_lawLine_51 (k := 0) rfl ?_
    refine r_iadd C dX10_lawLine_52 ?_
    refine r_ishr C dX10_lawLine_53 ?_
    refine r_ic C dX10_lawLine_54 ?_
    refine r_iand C dX10_lawLine_55 ?_
    refine r_ic C dX10_lawLine_56 ?_
    refine r_cne C (tgt := 65) dX10_lawLine_57 (by decide) h (fun h => ?_) (fun h => ?_)
    · refine r_drop [1, 0] rfl ?_
      exact w_X10_lawLine_J65 C hr hlk (v1 - 7) M  h
    · refine r_aln C dX10_lawLine_60 (k := 1) rfl ?_
      refine r_ic C dX10_lawLine_61 ?_
      obtain ⟨r4, M5, hy, h⟩ := q_call_some h
      refine r_cvv C (st := []) (c_X10_wrong C.2.2.1 3 M r4 M5 hy) tm_RX10_205 mw_X10_wrong ⟨rfl, rfl⟩ ⟨Nat.le_of_ble_eq_true rfl, Nat.le_of_ble_eq_true rfl⟩ km_0 clX10 rfl rfl (Nat.le_of_ble_eq_true rfl) dX10_lawLine_62 ?_
      refine r_drop [1, 0] rfl ?_
      exact w_X10_lawLine_J65 C hr hlk (v1 - 7) M5  h
def f_X10_lawLine_J25  (M : Mem) : Res :=
  q_call (f_X10_wrong 1 M) fun r1 M2 =>
  f_X10_lawLine_J30  M2
theorem w_X10_lawLine_J25 (C : Cx syM p m c cX10_lawLine 2 s args RX10 D ad cA) (hr : meth.sig.returnType = none) (hlk : meth.locks = false)  (M : Mem)  (h : f_X10_lawLine_J25  M = some (r0, M0)) : WM syM p l e rm_X10_lawLine s m args below meth c 2 D ad cA (MQ below (q_Post syM D ad cA none M0) args s 0 0 (q_A syM ad)) M 25 [(0, .ref (ad 0))] [] := by
  unfold f_X10_lawLine_J25 at h
  refine r_aln C dX10_lawLine_25 (k := 0) rfl ?_
  refine r_ic C dX10_lawLine_26 ?_
  obtain ⟨r1, M2, hy, h⟩ := q_call_some h
  refine r_cvv C (st := []) (c_X10_wrong C.2.2.1 1 M r1 M2 hy) tm_RX10_205 mw_X10_wrong ⟨rfl, rfl⟩ ⟨Nat.le_of_ble_eq_true rfl, Nat.le_of_ble_eq_true rfl⟩ km_0 clX10 rfl rfl (Nat.le_of_ble_eq_true rfl) dX10_lawLine_27 ?_
  exact w_X10_lawLine_J30 C hr hlk  M2  h
def f_X10_lawLine  (M : Mem) : Res :=
  q_gf M 0 24 fun v1 =>
  if ¬ w32 v1 = 0 then (f_X10_lawLine_J25  M)
  else (q_gf M 0 25 fun v2 =>
  if w32 v2 < w32 7 then (f_X10_lawLine_J25  M)
  else (q_gf M 0 25 fun v3 =>
  if w32 v3 ≤ w32 9 then (f_X10_lawLine_J30  M)
  else (f_X10_lawLine_J25  M)))
theorem c_X10_lawLine {l : Launch} {D : va_G} {ad : Nat → Nat} {cA : Nat → ClassId} (hi : q_inj syM ad)  (M : Mem) (r0 : Int) (M0 : Mem) (h : f_X10_lawLine  M = some (r0, M0)) : q_Met l syM D ad cA yX10_lawLine cX10_lawLine 2 none rm_X10_lawLine [.ref (ad 0)] M none M0 := by
  refine q_met (L0 := [(0, .ref (ad 0))]) hi okM (by decide) (Nat.le_of_ble_eq_true rfl) rfl ?_
  intro p e s m args below meth c C hr hlk
  unfold f_X10_lawLine at h
  refine r_aln C dX10_lawLine_0 (k := 0) rfl ?_
  refine r_gf C km_0 clX10 (f := 24) (by decide) rfl rfl rfl tf_RX10_161 dX10_lawLine_1 h (fun v1 h => ?_)
  refine r_zne C (tgt := 25) dX10_lawLine_4 (by decide) h (fun h => ?_) (fun h => ?_)
  · exact w_X10_lawLine_J25 C hr hlk  M  h
  · refine r_aln C dX10_lawLine_7 (k := 0) rfl ?_
    refine r_gf C km_0 clX10 (f := 25) (by decide) rfl rfl rfl tf_RX10_171 dX10_lawLine_8 h (fun v2 h => ?_)
    refine r_bi C dX10_lawLine_11 (by decide) ?_
    refine r_clt C (tgt := 25) dX10_lawLine_13 (by decide) h (fun h => ?_) (fun h => ?_)
    · exact w_X10_lawLine_J25 C hr hlk  M  h
    · refine r_aln C dX10_lawLine_16 (k := 0) rfl ?_
      refine r_gf C km_0 clX10 (f := 25) (by decide) rfl rfl rfl tf_RX10_171 dX10_lawLine_17 h (fun v3 h => ?_)
      refine r_bi C dX10_lawLine_20 (by decide) ?_
      refine r_cle C (tgt := 30) dX10_lawLine_22 (by decide) h (fun h => ?_) (fun h => ?_)
      · exact w_X10_lawLine_J30 C hr hlk  M  h
      · exact w_X10_lawLine_J25 C hr hlk  M  h
abbrev rm_X10_lets : Room := { frames := 1, cells := 0, slots := 0, locals := 21 }
theorem mw_X10_lets : q_mw RX10 yX10_lets cX10_lets 4 (some .int) 1 := ⟨⟨ti_X10_lets, tl_X10_lets, tn_RX10, td_X10_lets⟩, by decide +kernel⟩
def f_X10_lets_B19 (x1 : Int) (M : Mem) (x2 : Int) (x3 : Int) (g19 : Int → Int → Res) : Res :=
  q_al M 35 14 2 fun v1 =>
  if w32 v1 ≤ w32 x3 then (some (x2, M))
  else (q_al M 45 16 x3 fun v2 =>
  if ¬ w32 v2 = w32 x1 then (g19 (q_or x2 0) (x3 + 1))
  else (q_al M 46 16 x3 fun v3 =>
  g19 (q_or x2 (q_shl 1 v3)) (x3 + 1)))
def f_X10_lets_L19 (x1 : Int) (M : Mem) (n : Nat) (x2 : Int) (x3 : Int) : Res := qlp2 (fun x2 x3 g19 => f_X10_lets_B19 x1 M x2 x3 g19) n x2 x3
theorem w_X10_lets_B19 (C : Cx syM p m c cX10_lets 4 s args RX10 D ad cA) (hr : meth.sig.returnType = (some .int)) (hlk : meth.locks = false)  (x1 : Int) (x2 : Int) (x3 : Int) (M : Mem) (g19 : Int → Int → Res)  (ih19 : ∀ (ux2 ux3 : Int) , g19 ux2 ux3  = some (r0, M0) → WM syM p l e rm_X10_lets s m args below meth c 4 D ad cA (MQ below (q_Post syM D ad cA (some (.int (qI r0))) M0) args s 0 0 (q_A syM ad)) M 19 [(0, .ref (ad 0)), (1, .int (qI x1)), (2, .int (qI ux2)), (3, .int (qI ux3))] []) (h : f_X10_lets_B19 x1 M x2 x3 g19 = some (r0, M0)) : WM syM p l e rm_X10_lets s m args below meth c 4 D ad cA (MQ below (q_Post syM D ad cA (some (.int (qI r0))) M0) args s 0 0 (q_A syM ad)) M 19 [(0, .ref (ad 0)), (1, .int (qI x1)), (2, .int (qI x2)), (3, .int (qI x3))] [] := by
  unfold f_X10_lets_B19 at h
  refine r_iln C dX10_lets_19 (k := 3) rfl ?_
  refine r_aln C dX10_lets_20 (k := 0) rfl ?_
  refine r_gs C km_0 clX10 (f := 3) (by decide) rfl (t := 35) rfl tf_RX10_13 dX10_lets_21 ?_
  refine r_ic C dX10_lets_24 ?_
  refine r_iald C km_35 dX10_lets_25 h (fun v1 h => ?_)
  refine r_cge C (tgt := 60) dX10_lets_26 (by decide) h (fun h => ?_) (fun h => ?_)
  · refine r_iln C dX10_lets_60 (k := 2) rfl ?_
    exact r_iret C hr hlk dX10_lets_61 h
  · refine r_iln C dX10_lets_29 (k := 2) rfl ?_
    refine r_aln C dX10_lets_30 (k := 0) rfl ?_
    refine r_gs C km_0 clX10 (f := 13) (by decide) rfl (t := 45) rfl tf_RX10_43 dX10_lets_31 ?_
    refine r_iln C dX10_lets_34 (k := 3) rfl ?_
    refine r_iald C km_45 dX10_lets_35 h (fun v2 h => ?_)
    refine r_iln C dX10_lets_36 (k := 1) rfl ?_
    refine r_cne C (tgt := 51) dX10_lets_37 (by decide) h (fun h => ?_) (fun h => ?_)
    · refine r_ic C dX10_lets_51 ?_
      refine r_ior C dX10_lets_52 ?_
      refine r_isn C (L1 := [(2, .int (qI (q_or x2 0))), (0, .ref (ad 0)), (1, .int (qI x1)), (3, .int (qI x3))]) dX10_lets_53 (by decide) rfl ?_
      refine r_inc C (L1 := [(3, .int (qI (x3 + 1))), (2, .int (qI (q_or x2 0))), (0, .ref (ad 0)), (1, .int (qI x1))]) dX10_lets_54 (k := 3) rfl (by decide) rfl ?_
      refine r_goto C (tgt := 19) dX10_lets_57 (by decide) ?_
      refine r_drop [2, 3, 1, 0] rfl ?_
      exact ih19 (q_or x2 0) (x3 + 1)  h
    · refine r_ic C dX10_lets_40 ?_
      refine r_aln C dX10_lets_41 (k := 0) rfl ?_
      refine r_gs C km_0 clX10 (f := 14) (by decide) rfl (t := 46) rfl tf_RX10_46 dX10_lets_42 ?_
      refine r_iln C dX10_lets_45 (k := 3) rfl ?_
      refine r_iald C km_46 dX10_lets_46 h (fun v3 h => ?_)
      refine r_ishl C dX10_lets_47 ?_
      refine r_goto C (tgt := 52) dX10_lets_48 (by decide) ?_
      refine r_ior C dX10_lets_52 ?_
      refine r_isn C (L1 := [(2, .int (qI (q_or x2 (q_shl 1 v3)))), (0, .ref (ad 0)), (1, .int (qI x1)), (3, .int (qI x3))]) dX10_lets_53 (by decide) rfl ?_
      refine r_inc C (L1 := [(3, .int (qI (x3 + 1))), (2, .int (qI (q_or x2 (q_shl 1 v3)))), (0, .ref (ad 0)), (1, .int (qI x1))]) dX10_lets_54 (k := 3) rfl (by decide) rfl ?_
      refine r_goto C (tgt := 19) dX10_lets_57 (by decide) ?_
      refine r_drop [2, 3, 1, 0] rfl ?_
      exact ih19 (q_or x2 (q_shl 1 v3)) (x3 + 1)  h
theorem w_X10_lets_L19 (C : Cx syM p m c cX10_lets 4 s args RX10 D ad cA) (hr : meth.sig.returnType = (some .int)) (hlk : meth.locks = false)  (x1 : Int) (M : Mem)  (n : Nat) (x2 : Int) (x3 : Int) (h : f_X10_lets_L19 x1 M n x2 x3 = some (r0, M0)) : WM syM p l e rm_X10_lets s m args below meth c 4 D ad cA (MQ below (q_Post syM D ad cA (some (.int (qI r0))) M0) args s 0 0 (q_A syM ad)) M 19 [(0, .ref (ad 0)), (1, .int (qI x1)), (2, .int (qI x2)), (3, .int (qI x3))] [] :=
  qlp2_r (Wp := fun ux2 ux3 => WM syM p l e rm_X10_lets s m args below meth c 4 D ad cA (MQ below (q_Post syM D ad cA (some (.int (qI r0))) M0) args s 0 0 (q_A syM ad)) M 19 [(0, .ref (ad 0)), (1, .int (qI x1)), (2, .int (qI ux2)), (3, .int (qI ux3))] []) (fun ux2 ux3 g19 ih19 h => w_X10_lets_B19 C hr hlk x1 ux2 ux3 M g19  ih19 h) n x2 x3 h
def f_X10_lets (a0 : Int) (M : Mem) : Res :=
  q_pf M 0 0 0 fun M1 =>
  q_calp (f_X10_isSoul a0 M1) fun r2 =>
  if ¬ w32 r2 = 0 then (f_X10_lets_L19 a0 M1 q_N 0 0)
  else (some ((-1), M1))
theorem c_X10_lets {l : Launch} {D : va_G} {ad : Nat → Nat} {cA : Nat → ClassId} (hi : q_inj syM ad) (a0 : Int) (M : Mem) (r0 : Int) (M0 : Mem) (h : f_X10_lets a0 M = some (r0, M0)) : q_Met l syM D ad cA yX10_lets cX10_lets 4 (some .int) rm_X10_lets [.ref (ad 0), .int (qI a0)] M (some (.int (qI r0))) M0 := by
  refine q_met (L0 := [(0, .ref (ad 0)), (1, .int (qI a0))]) hi okM (by decide) (Nat.le_of_ble_eq_true rfl) rfl ?_
  intro p e s m args below meth c C hr hlk
  unfold f_X10_lets at h
  refine r_aln C dX10_lets_0 (k := 0) rfl ?_
  refine r_ic C dX10_lets_1 ?_
  refine r_pf C km_0 clX10 (f := 0) (by decide) rfl q_dI rfl rfl tf_RX10_142 dX10_lets_2 h (fun M1 h => ?_)
  refine r_aln C dX10_lets_5 (k := 0) rfl ?_
  refine r_iln C dX10_lets_6 (k := 1) rfl ?_
  obtain ⟨r2, hy, h⟩ := q_calp_some h
  refine r_cvi C (st := []) (c_X10_isSoul C.2.2.1 a0 M1 r2 hy) tm_RX10_411 mw_X10_isSoul ⟨rfl, rfl⟩ ⟨Nat.le_of_ble_eq_true rfl, Nat.le_of_ble_eq_true rfl⟩ km_0 clX10 rfl rfl (Nat.le_of_ble_eq_true rfl) dX10_lets_7 ?_
  refine r_zne C (tgt := 15) dX10_lets_10 (by decide) h (fun h => ?_) (fun h => ?_)
  · refine r_ic C dX10_lets_15 ?_
    refine r_isn C (L1 := [(2, .int (qI 0)), (0, .ref (ad 0)), (1, .int (qI a0))]) dX10_lets_16 (by decide) rfl ?_
    refine r_ic C dX10_lets_17 ?_
    refine r_isn C (L1 := [(3, .int (qI 0)), (2, .int (qI 0)), (0, .ref (ad 0)), (1, .int (qI a0))]) dX10_lets_18 (by decide) rfl ?_
    refine r_drop [2, 3, 1, 0] rfl ?_
    exact w_X10_lets_L19 C hr hlk a0 M1  q_N 0 0 h
  · refine r_ic C dX10_lets_13 ?_
    exact r_iret C hr hlk dX10_lets_14 h
abbrev rm_X10_soulAtHand : Room := { frames := 1, cells := 0, slots := 0, locals := 24 }
theorem mw_X10_soulAtHand : q_mw RX10 yX10_soulAtHand cX10_soulAtHand 2 (some .int) 0 := ⟨⟨ti_X10_soulAtHand, tl_X10_soulAtHand, tn_RX10, td_X10_soulAtHand⟩, by decide +kernel⟩
def f_X10_soulAtHand_J69 (x1 : Int) (M : Mem) : Res :=
  q_gf M 0 26 fun v1 =>
  if w32 v1 = 0 then (some (x1, M))
  else (some (0, M))
theorem w_X10_soulAtHand_J69 (C : Cx syM p m c cX10_soulAtHand 2 s args RX10 D ad cA) (hr : meth.sig.returnType = (some .int)) (hlk : meth.locks = false) (x1 : Int) (M : Mem)  (h : f_X10_soulAtHand_J69 x1 M = some (r0, M0)) : WM syM p l e rm_X10_soulAtHand s m args below meth c 2 D ad cA (MQ below (q_Post syM D ad cA (some (.int (qI r0))) M0) args s 0 0 (q_A syM ad)) M 69 [(0, .ref (ad 0)), (1, .int (qI x1))] [] := by
  unfold f_X10_soulAtHand_J69 at h
  refine r_aln C dX10_soulAtHand_69 (k := 0) rfl ?_
  refine r_gf C km_0 clX10 (f := 26) (by decide) rfl rfl rfl tf_RX10_196 dX10_soulAtHand_70 h (fun v1 h => ?_)
  refine r_zeq C (tgt := 80) dX10_soulAtHand_73 (by decide) h (fun h => ?_) (fun h => ?_)
  · refine r_iln C dX10_soulAtHand_80 (k := 1) rfl ?_
    exact r_iret C hr hlk dX10_soulAtHand_81 h
  · refine r_ic C dX10_soulAtHand_76 ?_
    refine r_goto C (tgt := 81) dX10_soulAtHand_77 (by decide) ?_
    exact r_iret C hr hlk dX10_soulAtHand_81 h
def f_X10_soulAtHand_J51 (y0 : Int) (M : Mem) : Res :=
  q_gf M 0 26 fun v1 =>
  if ¬ w32 v1 = 0 then (f_X10_soulAtHand_J69 y0 M)
  else (if ¬ w32 y0 = w32 (-1) then (f_X10_soulAtHand_J69 y0 M)
  else (q_call (f_X10_wrong 4 M) fun r2 M3 =>
  f_X10_soulAtHand_J69 y0 M3))
theorem w_X10_soulAtHand_J51 (C : Cx syM p m c cX10_soulAtHand 2 s args RX10 D ad cA) (hr : meth.sig.returnType = (some .int)) (hlk : meth.locks = false) (y0 : Int) (M : Mem)  (h : f_X10_soulAtHand_J51 y0 M = some (r0, M0)) : WM syM p l e rm_X10_soulAtHand s m args below meth c 2 D ad cA (MQ below (q_Post syM D ad cA (some (.int (qI r0))) M0) args s 0 0 (q_A syM ad)) M 51 [(0, .ref (ad 0))] [.int (qI y0)] := by
  unfold f_X10_soulAtHand_J51 at h
  refine r_isn C (L1 := [(1, .int (qI y0)), (0, .ref (ad 0))]) dX10_soulAtHand_51 (by decide) rfl ?_
  refine r_aln C dX10_soulAtHand_52 (k := 1) rfl ?_
  refine r_gf C km_0 clX10 (f := 26) (by decide) rfl rfl rfl tf_RX10_196 dX10_soulAtHand_53 h (fun v1 h => ?_)
  refine r_zne C (tgt := 69) dX10_soulAtHand_56 (by decide) h (fun h => ?_) (fun h => ?_)
  · refine r_drop [1, 0] rfl ?_
    exact w_X10_soulAtHand_J69 C hr hlk y0 M  h
  · refine r_iln C dX10_soulAtHand_59 (k := 0) rfl ?_
    refine r_ic C dX10_soulAtHand_60 ?_
    refine r_cne C (tgt := 69) dX10_soulAtHand_61 (by decide) h (fun h => ?_) (fun h => ?_)
    · refine r_drop [1, 0] rfl ?_
      exact w_X10_soulAtHand_J69 C hr hlk y0 M  h
    · refine r_aln C dX10_soulAtHand_64 (k := 1) rfl ?_
      refine r_ic C dX10_soulAtHand_65 ?_
      obtain ⟨r2, M3, hy, h⟩ := q_call_some h
      refine r_cvv C (st := []) (c_X10_wrong C.2.2.1 4 M r2 M3 hy) tm_RX10_205 mw_X10_wrong ⟨rfl, rfl⟩ ⟨Nat.le_of_ble_eq_true rfl, Nat.le_of_ble_eq_true rfl⟩ km_0 clX10 rfl rfl (Nat.le_of_ble_eq_true rfl) dX10_soulAtHand_66 ?_
      refine r_drop [1, 0] rfl ?_
      exact w_X10_soulAtHand_J69 C hr hlk y0 M3  h
def f_X10_soulAtHand_J22  (M : Mem) : Res :=
  q_gf M 0 26 fun v1 =>
  if ¬ w32 v1 = 0 then (f_X10_soulAtHand_J51 0 M)
  else (q_calp (f_X10_fresher 0 M) fun r2 =>
  q_gf M 0 25 fun v3 =>
  q_calp (f_X10_found 36 16 8 r2 v3 M) fun r4 =>
  f_X10_soulAtHand_J51 r4 M)
theorem w_X10_soulAtHand_J22 (C : Cx syM p m c cX10_soulAtHand 2 s args RX10 D ad cA) (hr : meth.sig.returnType = (some .int)) (hlk : meth.locks = false)  (M : Mem)  (h : f_X10_soulAtHand_J22  M = some (r0, M0)) : WM syM p l e rm_X10_soulAtHand s m args below meth c 2 D ad cA (MQ below (q_Post syM D ad cA (some (.int (qI r0))) M0) args s 0 0 (q_A syM ad)) M 22 [(0, .ref (ad 0))] [] := by
  unfold f_X10_soulAtHand_J22 at h
  refine r_aln C dX10_soulAtHand_22 (k := 0) rfl ?_
  refine r_gf C km_0 clX10 (f := 26) (by decide) rfl rfl rfl tf_RX10_196 dX10_soulAtHand_23 h (fun v1 h => ?_)
  refine r_zne C (tgt := 50) dX10_soulAtHand_26 (by decide) h (fun h => ?_) (fun h => ?_)
  · refine r_ic C dX10_soulAtHand_50 ?_
    exact w_X10_soulAtHand_J51 C hr hlk 0 M  h
  · refine r_aln C dX10_soulAtHand_29 (k := 0) rfl ?_
    refine r_gs C km_0 clX10 (f := 4) (by decide) rfl (t := 36) rfl tf_RX10_16 dX10_soulAtHand_30 ?_
    refine r_bi C dX10_soulAtHand_33 (by decide) ?_
    refine r_aln C dX10_soulAtHand_35 (k := 0) rfl ?_
    refine r_ic C dX10_soulAtHand_36 ?_
    obtain ⟨r2, hy, h⟩ := q_calp_some h
    refine r_cvi C (st := [.int (qI 8), .ref (ad 36)]) (c_X10_fresher C.2.2.1 0 M r2 hy) tm_RX10_212 mw_X10_fresher ⟨rfl, rfl⟩ ⟨Nat.le_of_ble_eq_true rfl, Nat.le_of_ble_eq_true rfl⟩ km_0 clX10 rfl rfl (Nat.le_of_ble_eq_true rfl) dX10_soulAtHand_37 ?_
    refine r_aln C dX10_soulAtHand_40 (k := 0) rfl ?_
    refine r_gf C km_0 clX10 (f := 25) (by decide) rfl rfl rfl tf_RX10_171 dX10_soulAtHand_41 h (fun v3 h => ?_)
    obtain ⟨r4, hy, h⟩ := q_calp_some h
    refine r_csi C (st := []) (c_X10_found C.2.2.1 36 16 km_36 8 r2 v3 M r4 hy) tm_RX10_208 mw_X10_found ⟨rfl, rfl⟩ ⟨Nat.le_of_ble_eq_true rfl, Nat.le_of_ble_eq_true rfl⟩ rfl rfl (Nat.le_of_ble_eq_true rfl) dX10_soulAtHand_44 ?_
    refine r_goto C (tgt := 51) dX10_soulAtHand_47 (by decide) ?_
    exact w_X10_soulAtHand_J51 C hr hlk r4 M  h
def f_X10_soulAtHand  (M : Mem) : Res :=
  q_gf M 0 26 fun v1 =>
  if w32 v1 = 0 then (q_gf M 0 24 fun v2 =>
  if w32 v2 = w32 1 then (f_X10_soulAtHand_J22  M)
  else (q_call (f_X10_wrong 1 M) fun r3 M4 =>
  f_X10_soulAtHand_J22  M4))
  else (some (0, M))
theorem c_X10_soulAtHand {l : Launch} {D : va_G} {ad : Nat → Nat} {cA : Nat → ClassId} (hi : q_inj syM ad)  (M : Mem) (r0 : Int) (M0 : Mem) (h : f_X10_soulAtHand  M = some (r0, M0)) : q_Met l syM D ad cA yX10_soulAtHand cX10_soulAtHand 2 (some .int) rm_X10_soulAtHand [.ref (ad 0)] M (some (.int (qI r0))) M0 := by
  refine q_met (L0 := [(0, .ref (ad 0))]) hi okM (by decide) (Nat.le_of_ble_eq_true rfl) rfl ?_
  intro p e s m args below meth c C hr hlk
  unfold f_X10_soulAtHand at h
  refine r_aln C dX10_soulAtHand_0 (k := 0) rfl ?_
  refine r_gf C km_0 clX10 (f := 26) (by decide) rfl rfl rfl tf_RX10_196 dX10_soulAtHand_1 h (fun v1 h => ?_)
  refine r_zeq C (tgt := 9) dX10_soulAtHand_4 (by decide) h (fun h => ?_) (fun h => ?_)
  · refine r_aln C dX10_soulAtHand_9 (k := 0) rfl ?_
    refine r_gf C km_0 clX10 (f := 24) (by decide) rfl rfl rfl tf_RX10_161 dX10_soulAtHand_10 h (fun v2 h => ?_)
    refine r_ic C dX10_soulAtHand_13 ?_
    refine r_ceq C (tgt := 22) dX10_soulAtHand_14 (by decide) h (fun h => ?_) (fun h => ?_)
    · exact w_X10_soulAtHand_J22 C hr hlk  M  h
    · refine r_aln C dX10_soulAtHand_17 (k := 0) rfl ?_
      refine r_ic C dX10_soulAtHand_18 ?_
      obtain ⟨r3, M4, hy, h⟩ := q_call_some h
      refine r_cvv C (st := []) (c_X10_wrong C.2.2.1 1 M r3 M4 hy) tm_RX10_205 mw_X10_wrong ⟨rfl, rfl⟩ ⟨Nat.le_of_ble_eq_true rfl, Nat.le_of_ble_eq_true rfl⟩ km_0 clX10 rfl rfl (Nat.le_of_ble_eq_true rfl) dX10_soulAtHand_19 ?_
      exact w_X10_soulAtHand_J22 C hr hlk  M4  h
  · refine r_ic C dX10_soulAtHand_7 ?_
    exact r_iret C hr hlk dX10_soulAtHand_8 h
end P13d
