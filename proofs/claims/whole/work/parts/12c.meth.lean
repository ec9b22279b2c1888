section P12c
variable {p : Program} {l : Launch} {e : Env} {s : State} {m : MethodId} {args : Array Value} {below : List Frame} {meth : Method} {c : Code} {D : va_G} {ad : Nat → Nat} {cA : Nat → ClassId} {r0 : Int} {M0 : Mem}
abbrev rm_X3_rains : Room := { frames := 0, cells := 0, slots := 0, locals := 0 }
theorem mw_X3_rains : q_mw RX3 yX3_rains cX3_rains 1 (some .boolean) 0 := ⟨⟨ti_X3_rains, tl_X3_rains, tn_RX3, td_X3_rains⟩, by decide +kernel⟩
def f_X3_rains_J47  (M : Mem) : Res :=
  q_gr M 7 0 fun t1 =>
  q_gf M t1 14 fun v2 =>
  if ¬ w32 v2 = w32 100 then (some (0, M))
  else (some (1, M))
theorem w_X3_rains_J47 (C : Cx syC p m c cX3_rains 1 s args RX3 D ad cA) (hr : meth.sig.returnType = (some .boolean)) (hlk : meth.locks = false)  (M : Mem)  (h : f_X3_rains_J47  M = some (r0, M0)) : WM syC p l e rm_X3_rains s m args below meth c 1 D ad cA (MQ below (q_Post syC D ad cA (some (.int (qI r0))) M0) args s 0 0 (q_A syC ad)) M 47 [(0, .ref (ad 7))] [] := by
  unfold f_X3_rains_J47 at h
  refine r_aln C dX3_rains_47 (k := 0) rfl ?_
  refine r_gr C kc_7 clX3 (f := 0) (fz := 0) (Pp := isT) (by decide) rfl rfl (fun q => q.2.2.1) tf_RX3_33 dX3_rains_48 h (fun t1 ht1 h => ?_)
  refine r_gf C (kT ht1) clX8 (f := 14) (by decide) rfl rfl rfl tf_RX3_163 dX3_rains_51 h (fun v2 h => ?_)
  refine r_bi C dX3_rains_54 (by decide) ?_
  refine r_cne C (tgt := 63) dX3_rains_56 (by decide) h (fun h => ?_) (fun h => ?_)
  · refine r_ic C dX3_rains_63 ?_
    exact r_zret C (by decide) hr hlk dX3_rains_64 h
  · refine r_ic C dX3_rains_59 ?_
    refine r_goto C (tgt := 64) dX3_rains_60 (by decide) ?_
    exact r_zret C (by decide) hr hlk dX3_rains_64 h
def f_X3_rains  (M : Mem) : Res :=
  q_gf M 7 2 fun v1 =>
  if ¬ w32 v1 = 0 then (q_gr M 7 0 fun t2 =>
  q_gf M t2 14 fun v3 =>
  if w32 v3 = 0 then (f_X3_rains_J47  M)
  else (q_gr M 7 0 fun t4 =>
  q_gf M t4 14 fun v5 =>
  if ¬ w32 v5 = w32 100 then (q_gr M 7 1 fun t6 =>
  q_gr M 7 1 fun t7 =>
  q_gf M t7 1 fun v8 =>
  q_pf M t6 1 (q_land (((w32 v8) * 1103515245) + 12345) 2147483647) fun M9 =>
  q_gr M9 7 1 fun t10 =>
  q_gf M9 t10 1 fun v11 =>
  q_nz 65536 <| q_nz 100 <| q_gr M9 7 0 fun t12 =>
  q_gf M9 t12 14 fun v13 =>
  if w32 v13 ≤ w32 ((w32 ((w32 v11).tdiv (w32 65536))).tmod (w32 100)) then (some (0, M9))
  else (some (1, M9)))
  else (f_X3_rains_J47  M)))
  else (q_gr M 7 0 fun t14 =>
  q_gf M t14 14 fun v15 =>
  if w32 v15 < w32 50 then (some (0, M))
  else (some (1, M)))
theorem c_X3_rains {l : Launch} {D : va_G} {ad : Nat → Nat} {cA : Nat → ClassId} (hi : q_inj syC ad)  (M : Mem) (r0 : Int) (M0 : Mem) (h : f_X3_rains  M = some (r0, M0)) : q_Met l syC D ad cA yX3_rains cX3_rains 1 (some .boolean) rm_X3_rains [.ref (ad 7)] M (some (.int (qI r0))) M0 := by
  refine q_met (L0 := [(0, .ref (ad 7))]) hi okC (by decide) (Nat.le_of_ble_eq_true rfl) rfl ?_
  intro p e s m args below meth c C hr hlk
  unfold f_X3_rains at h
  refine r_aln C dX3_rains_0 (k := 0) rfl ?_
  refine r_gf C kc_7 clX3 (f := 2) (by decide) rfl rfl rfl tf_RX3_9 dX3_rains_1 h (fun v1 h => ?_)
  refine r_zne C (tgt := 25) dX3_rains_4 (by decide) h (fun h => ?_) (fun h => ?_)
  · refine r_aln C dX3_rains_25 (k := 0) rfl ?_
    refine r_gr C kc_7 clX3 (f := 0) (fz := 0) (Pp := isT) (by decide) rfl rfl (fun q => q.2.2.1) tf_RX3_33 dX3_rains_26 h (fun t2 ht2 h => ?_)
    refine r_gf C (kT ht2) clX8 (f := 14) (by decide) rfl rfl rfl tf_RX3_163 dX3_rains_29 h (fun v3 h => ?_)
    refine r_zeq C (tgt := 47) dX3_rains_32 (by decide) h (fun h => ?_) (fun h => ?_)
    · exact w_X3_rains_J47 C hr hlk  M  h
    · refine r_aln C dX3_rains_35 (k := 0) rfl ?_
      refine r_gr C kc_7 clX3 (f := 0) (fz := 0) (Pp := isT) (by decide) rfl rfl (fun q => q.2.2.1) tf_RX3_33 dX3_rains_36 h (fun t4 ht4 h => ?_)
      refine r_gf C (kT ht4) clX8 (f := 14) (by decide) rfl rfl rfl tf_RX3_163 dX3_rains_39 h (fun v5 h => ?_)
      refine r_bi C dX3_rains_42 (by decide) ?_
      refine r_cne C (tgt := 65) dX3_rains_44 (by decide) h (fun h => ?_) (fun h => ?_)
      · refine r_aln C dX3_rains_65 (k := 0) rfl ?_
        refine r_gr C kc_7 clX3 (f := 1) (fz := 1) (Pp := isS) (by decide) rfl rfl (fun q => q.2.2.2) tf_RX3_37 dX3_rains_66 h (fun t6 ht6 h => ?_)
        refine r_aln C dX3_rains_69 (k := 0) rfl ?_
        refine r_gr C kc_7 clX3 (f := 1) (fz := 1) (Pp := isS) (by decide) rfl rfl (fun q => q.2.2.2) tf_RX3_37 dX3_rains_70 h (fun t7 ht7 h => ?_)
        refine r_gf C (kS ht7) clX6 (f := 1) (by decide) rfl rfl rfl tf_RX3_166 dX3_rains_73 h (fun v8 h => ?_)
        refine r_i2l C dX3_rains_76 ?_
        refine r_ldc2 C (x := 1103515245) tc_RX3_169 (by decide) dX3_rains_77 ?_
        refine r_lmul C dX3_rains_80 ?_
        refine r_ldc2 C (x := 12345) tc_RX3_171 (by decide) dX3_rains_81 ?_
        refine r_ladd C dX3_rains_84 ?_
        refine r_ldc2 C (x := 2147483647) tc_RX3_173 (by decide) dX3_rains_85 ?_
        refine r_land C dX3_rains_88 ?_
        refine r_l2i C dX3_rains_89 ?_
        refine r_pf C (kS ht6) clX6 (f := 1) (by decide) rfl q_dI rfl rfl tf_RX3_166 dX3_rains_90 h (fun M9 h => ?_)
        refine r_aln C dX3_rains_93 (k := 0) rfl ?_
        refine r_gr C kc_7 clX3 (f := 1) (fz := 1) (Pp := isS) (by decide) rfl rfl (fun q => q.2.2.2) tf_RX3_37 dX3_rains_94 h (fun t10 ht10 h => ?_)
        refine r_gf C (kS ht10) clX6 (f := 1) (by decide) rfl rfl rfl tf_RX3_166 dX3_rains_97 h (fun v11 h => ?_)
        refine r_ldc C (x := 65536) tc_RX3_175 (by decide) dX3_rains_100 ?_
        refine r_idiv C dX3_rains_102 h (fun h => ?_)
        refine r_bi C dX3_rains_103 (by decide) ?_
        refine r_irem C dX3_rains_105 h (fun h => ?_)
        refine r_aln C dX3_rains_106 (k := 0) rfl ?_
        refine r_gr C kc_7 clX3 (f := 0) (fz := 0) (Pp := isT) (by decide) rfl rfl (fun q => q.2.2.1) tf_RX3_33 dX3_rains_107 h (fun t12 ht12 h => ?_)
        refine r_gf C (kT ht12) clX8 (f := 14) (by decide) rfl rfl rfl tf_RX3_163 dX3_rains_110 h (fun v13 h => ?_)
        refine r_cge C (tgt := 120) dX3_rains_113 (by decide) h (fun h => ?_) (fun h => ?_)
        · refine r_ic C dX3_rains_120 ?_
          exact r_zret C (by decide) hr hlk dX3_rains_121 h
        · refine r_ic C dX3_rains_116 ?_
          refine r_goto C (tgt := 121) dX3_rains_117 (by decide) ?_
          exact r_zret C (by decide) hr hlk dX3_rains_121 h
      · exact w_X3_rains_J47 C hr hlk  M  h
  · refine r_aln C dX3_rains_7 (k := 0) rfl ?_
    refine r_gr C kc_7 clX3 (f := 0) (fz := 0) (Pp := isT) (by decide) rfl rfl (fun q => q.2.2.1) tf_RX3_33 dX3_rains_8 h (fun t14 ht14 h => ?_)
    refine r_gf C (kT ht14) clX8 (f := 14) (by decide) rfl rfl rfl tf_RX3_163 dX3_rains_11 h (fun v15 h => ?_)
    refine r_bi C dX3_rains_14 (by decide) ?_
    refine r_clt C (tgt := 23) dX3_rains_16 (by decide) h (fun h => ?_) (fun h => ?_)
    · refine r_ic C dX3_rains_23 ?_
      exact r_zret C (by decide) hr hlk dX3_rains_24 h
    · refine r_ic C dX3_rains_19 ?_
      refine r_goto C (tgt := 24) dX3_rains_20 (by decide) ?_
      exact r_zret C (by decide) hr hlk dX3_rains_24 h
abbrev rm_X3_soak : Room := { frames := 2, cells := 0, slots := 0, locals := 53 }
theorem mw_X3_soak : q_mw RX3 yX3_soak cX3_soak 6 none 0 := ⟨⟨ti_X3_soak, tl_X3_soak, tn_RX3, td_X3_soak⟩, by decide +kernel⟩
def f_X3_soak_J76 (g8 : Int → Mem → Res) (x1 : Int) (x2 : Int) (y0 : Int) (M : Mem) : Res :=
  q_gr M 7 1 fun t1 =>
  q_gr M 7 1 fun t2 =>
  q_al M (32 * (t2 + 1) + 4) 8 x2 fun v3 =>
  q_as M (32 * (t1 + 1) + 4) 8 x2 (q_min (v3 + y0) 999) fun M4 =>
  g8 (x1 + 1) M4
theorem w_X3_soak_J76 (C : Cx syC p m c cX3_soak 6 s args RX3 D ad cA) (hr : meth.sig.returnType = none) (hlk : meth.locks = false) (g8 : Int → Mem → Res) (x1 : Int) (x2 : Int) (y0 : Int) (M : Mem) (ih8 : ∀ (ux1 : Int) (M : Mem), g8 ux1 M = some (r0, M0) → WM syC p l e rm_X3_soak s m args below meth c 6 D ad cA (MQ below (q_Post syC D ad cA none M0) args s 0 0 (q_A syC ad)) M 8 [(0, .ref (ad 7)), (1, .int (qI ux1))] []) (h : f_X3_soak_J76 g8 x1 x2 y0 M = some (r0, M0)) : WM syC p l e rm_X3_soak s m args below meth c 6 D ad cA (MQ below (q_Post syC D ad cA none M0) args s 0 0 (q_A syC ad)) M 76 [(0, .ref (ad 7)), (1, .int (qI x1)), (2, .int (qI x2))] [.int (qI y0)] := by
  unfold f_X3_soak_J76 at h
  refine r_is C (L1 := [(5, .int (qI y0)), (0, .ref (ad 7)), (1, .int (qI x1)), (2, .int (qI x2))]) dX3_soak_76 (by decide) rfl ?_
  refine r_aln C dX3_soak_78 (k := 1) rfl ?_
  refine r_gr C kc_7 clX3 (f := 1) (fz := 1) (Pp := isS) (by decide) rfl rfl (fun q => q.2.2.2) tf_RX3_37 dX3_soak_79 h (fun t1 ht1 h => ?_)
  refine r_gs C (kS ht1) clX6 (f := 4) (by decide) rfl (t := (32 * (t1 + 1) + 4)) rfl tf_RX3_181 dX3_soak_82 ?_
  refine r_iln C dX3_soak_85 (k := 3) rfl ?_
  refine r_aln C dX3_soak_86 (k := 1) rfl ?_
  refine r_gr C kc_7 clX3 (f := 1) (fz := 1) (Pp := isS) (by decide) rfl rfl (fun q => q.2.2.2) tf_RX3_37 dX3_soak_87 h (fun t2 ht2 h => ?_)
  refine r_gs C (kS ht2) clX6 (f := 4) (by decide) rfl (t := (32 * (t2 + 1) + 4)) rfl tf_RX3_181 dX3_soak_90 ?_
  refine r_iln C dX3_soak_93 (k := 3) rfl ?_
  refine r_iald C (kS_4 ht2) dX3_soak_94 h (fun v3 h => ?_)
  refine r_il C dX3_soak_95 (k := 0) rfl ?_
  refine r_iadd C dX3_soak_97 ?_
  refine r_si C dX3_soak_98 (by decide) ?_
  refine r_q_min C (st := [.int (qI x2), .ref (ad (32 * (t1 + 1) + 4))]) tm_RX3_184 ⟨Nat.le_of_ble_eq_true rfl, Nat.le_of_ble_eq_true rfl⟩ dX3_soak_101 ?_
  refine r_iast C (kS_4 ht1) dX3_soak_104 h (fun M4 h => ?_)
  refine r_inc C (L1 := [(1, .int (qI (x1 + 1))), (5, .int (qI y0)), (0, .ref (ad 7)), (2, .int (qI x2))]) dX3_soak_105 (k := 2) rfl (by decide) rfl ?_
  refine r_goto C (tgt := 8) dX3_soak_108 (by decide) ?_
  refine r_drop [2, 0] rfl ?_
  exact ih8 (x1 + 1) M4 h
def f_X3_soak_B8  (x1 : Int) (M : Mem) (g8 : Int → Mem → Res) : Res :=
  q_gr M 7 1 fun t1 =>
  q_gf M t1 9 fun v2 =>
  if w32 v2 ≤ w32 x1 then (some (0, M))
  else (q_gr M 7 1 fun t3 =>
  q_al M (32 * (t3 + 1) + 8) 8 x1 fun v4 =>
  q_call (f_X3_look v4 x1 0 M) fun r5 M6 =>
  q_gr M6 7 0 fun t7 =>
  q_call (f_X2_worth (t7 + 10) 262 7 2 M6) fun r8 M9 =>
  if ¬ w32 (q_cmp r8 (-9223372036854775808)) = 0 then (f_X3_soak_J76 g8 x1 v4 (q_maxl 0 (q_minl 99 r8)) M9)
  else (f_X3_soak_J76 g8 x1 v4 1 M9))
def f_X3_soak_L8  (n : Nat) (x1 : Int) (M : Mem) : Res := qlm1 (fun x1 M g8 => f_X3_soak_B8  x1 M g8) n x1 M
theorem w_X3_soak_B8 (C : Cx syC p m c cX3_soak 6 s args RX3 D ad cA) (hr : meth.sig.returnType = none) (hlk : meth.locks = false)  (x1 : Int) (M : Mem) (g8 : Int → Mem → Res)  (ih8 : ∀ (ux1 : Int) (M : Mem), g8 ux1 M = some (r0, M0) → WM syC p l e rm_X3_soak s m args below meth c 6 D ad cA (MQ below (q_Post syC D ad cA none M0) args s 0 0 (q_A syC ad)) M 8 [(0, .ref (ad 7)), (1, .int (qI ux1))] []) (h : f_X3_soak_B8  x1 M g8 = some (r0, M0)) : WM syC p l e rm_X3_soak s m args below meth c 6 D ad cA (MQ below (q_Post syC D ad cA none M0) args s 0 0 (q_A syC ad)) M 8 [(0, .ref (ad 7)), (1, .int (qI x1))] [] := by
  unfold f_X3_soak_B8 at h
  refine r_iln C dX3_soak_8 (k := 1) rfl ?_
  refine r_aln C dX3_soak_9 (k := 0) rfl ?_
  refine r_gr C kc_7 clX3 (f := 1) (fz := 1) (Pp := isS) (by decide) rfl rfl (fun q => q.2.2.2) tf_RX3_37 dX3_soak_10 h (fun t1 ht1 h => ?_)
  refine r_gf C (kS ht1) clX6 (f := 9) (by decide) rfl rfl rfl tf_RX3_81 dX3_soak_13 h (fun v2 h => ?_)
  refine r_cge C (tgt := 111) dX3_soak_16 (by decide) h (fun h => ?_) (fun h => ?_)
  · exact r_vret C hr hlk dX3_soak_111 h
  · refine r_aln C dX3_soak_19 (k := 0) rfl ?_
    refine r_gr C kc_7 clX3 (f := 1) (fz := 1) (Pp := isS) (by decide) rfl rfl (fun q => q.2.2.2) tf_RX3_37 dX3_soak_20 h (fun t3 ht3 h => ?_)
    refine r_gs C (kS ht3) clX6 (f := 8) (by decide) rfl (t := (32 * (t3 + 1) + 8)) rfl tf_RX3_107 dX3_soak_23 ?_
    refine r_iln C dX3_soak_26 (k := 1) rfl ?_
    refine r_iald C (kS_8 ht3) dX3_soak_27 h (fun v4 h => ?_)
    refine r_isn C (L1 := [(2, .int (qI v4)), (0, .ref (ad 7)), (1, .int (qI x1))]) dX3_soak_28 (by decide) rfl ?_
    refine r_aln C dX3_soak_29 (k := 1) rfl ?_
    refine r_iln C dX3_soak_30 (k := 0) rfl ?_
    refine r_iln C dX3_soak_31 (k := 2) rfl ?_
    refine r_ic C dX3_soak_32 ?_
    obtain ⟨r5, M6, hy, h⟩ := q_call_some h
    refine r_cvv C (st := []) (c_X3_look C.2.2.1 v4 x1 0 M r5 M6 hy) tm_RX3_134 mw_X3_look ⟨rfl, rfl⟩ ⟨Nat.le_of_ble_eq_true rfl, Nat.le_of_ble_eq_true rfl⟩ kc_7 clX3 rfl rfl (Nat.le_of_ble_eq_true rfl) dX3_soak_33 ?_
    refine r_aln C dX3_soak_36 (k := 1) rfl ?_
    refine r_gr C kc_7 clX3 (f := 0) (fz := 0) (Pp := isT) (by decide) rfl rfl (fun q => q.2.2.1) tf_RX3_33 dX3_soak_37 h (fun t7 ht7 h => ?_)
    refine r_gs C (kT ht7) clX8 (f := 16) (by decide) rfl (t := (t7 + 10)) rfl tf_RX3_138 dX3_soak_40 ?_
    refine r_ic C dX3_soak_43 ?_
    refine r_aln C dX3_soak_44 (k := 1) rfl ?_
    refine r_gs C kc_7 clX3 (f := 6) (by decide) rfl (t := 262) rfl tf_RX3_25 dX3_soak_45 ?_
    obtain ⟨r8, M9, hy, h⟩ := q_call_some h
    refine r_cvl C (st := []) (c_X2_worth C.2.2.1 (t7 + 10) 262 7 (kTL ht7) kc_262 2 M6 r8 M9 hy) tm_RX3_142 mw_X2_worth ⟨rfl, rfl⟩ ⟨Nat.le_of_ble_eq_true rfl, Nat.le_of_ble_eq_true rfl⟩ (kL (kTL ht7)) clX2 rfl rfl (Nat.le_of_ble_eq_true rfl) dX3_soak_48 ?_
    refine r_lsn C (L1 := [(3, .long (qJ r8)), (2, .int (qI v4)), (0, .ref (ad 7)), (1, .int (qI x1))]) dX3_soak_51 (by decide) rfl ?_
    refine r_lln C dX3_soak_52 (k := 0) rfl ?_
    refine r_ldc2 C (x := (-9223372036854775808)) tc_RX3_148 (by decide) dX3_soak_53 ?_
    refine r_lcmp C dX3_soak_56 ?_
    refine r_zne C (tgt := 64) dX3_soak_57 (by decide) h (fun h => ?_) (fun h => ?_)
    · refine r_lc C (x := 0) dX3_soak_64 (by decide) ?_
      refine r_ldc2 C (x := 99) tc_RX3_179 (by decide) dX3_soak_65 ?_
      refine r_lln C dX3_soak_68 (k := 0) rfl ?_
      refine r_q_minl C (st := [.long (qJ 0)]) tm_RX3_154 ⟨Nat.le_of_ble_eq_true rfl, Nat.le_of_ble_eq_true rfl⟩ dX3_soak_69 ?_
      refine r_q_maxl C (st := []) tm_RX3_158 ⟨Nat.le_of_ble_eq_true rfl, Nat.le_of_ble_eq_true rfl⟩ dX3_soak_72 ?_
      refine r_l2i C dX3_soak_75 ?_
      refine r_drop [2, 3, 1] rfl ?_
      exact w_X3_soak_J76 C hr hlk g8 x1 v4 (q_maxl 0 (q_minl 99 r8)) M9 ih8 h
    · refine r_ic C dX3_soak_60 ?_
      refine r_goto C (tgt := 76) dX3_soak_61 (by decide) ?_
      refine r_drop [2, 3, 1] rfl ?_
      exact w_X3_soak_J76 C hr hlk g8 x1 v4 1 M9 ih8 h
theorem w_X3_soak_L8 (C : Cx syC p m c cX3_soak 6 s args RX3 D ad cA) (hr : meth.sig.returnType = none) (hlk : meth.locks = false)    (n : Nat) (x1 : Int) (M : Mem) (h : f_X3_soak_L8  n x1 M = some (r0, M0)) : WM syC p l e rm_X3_soak s m args below meth c 6 D ad cA (MQ below (q_Post syC D ad cA none M0) args s 0 0 (q_A syC ad)) M 8 [(0, .ref (ad 7)), (1, .int (qI x1))] [] :=
  qlm1_r (Wp := fun ux1 M => WM syC p l e rm_X3_soak s m args below meth c 6 D ad cA (MQ below (q_Post syC D ad cA none M0) args s 0 0 (q_A syC ad)) M 8 [(0, .ref (ad 7)), (1, .int (qI ux1))] []) (fun ux1 M g8 ih8 h => w_X3_soak_B8 C hr hlk  ux1 M g8  ih8 h) n x1 M h
def f_X3_soak  (M : Mem) : Res :=
  q_gr M 7 0 fun t1 =>
  q_gf M t1 13 fun v2 =>
  f_X3_soak_L8  q_N v2 M
theorem c_X3_soak {l : Launch} {D : va_G} {ad : Nat → Nat} {cA : Nat → ClassId} (hi : q_inj syC ad)  (M : Mem) (r0 : Int) (M0 : Mem) (h : f_X3_soak  M = some (r0, M0)) : q_Met l syC D ad cA yX3_soak cX3_soak 6 none rm_X3_soak [.ref (ad 7)] M none M0 := by
  refine q_met (L0 := [(0, .ref (ad 7))]) hi okC (by decide) (Nat.le_of_ble_eq_true rfl) rfl ?_
  intro p e s m args below meth c C hr hlk
  unfold f_X3_soak at h
  refine r_aln C dX3_soak_0 (k := 0) rfl ?_
  refine r_gr C kc_7 clX3 (f := 0) (fz := 0) (Pp := isT) (by decide) rfl rfl (fun q => q.2.2.1) tf_RX3_33 dX3_soak_1 h (fun t1 ht1 h => ?_)
  refine r_gf C (kT ht1) clX8 (f := 13) (by decide) rfl rfl rfl tf_RX3_176 dX3_soak_4 h (fun v2 h => ?_)
  refine r_isn C (L1 := [(1, .int (qI v2)), (0, .ref (ad 7))]) dX3_soak_7 (by decide) rfl ?_
  refine r_drop [1, 0] rfl ?_
  exact w_X3_soak_L8 C hr hlk   q_N v2 M h
abbrev rm_X3_pass : Room := { frames := 4, cells := 0, slots := 0, locals := 105 }
theorem mw_X3_pass : q_mw RX3 yX3_pass cX3_pass 4 none 1 := ⟨⟨ti_X3_pass, tl_X3_pass, tn_RX3, td_X3_pass⟩, by decide +kernel⟩
def f_X3_pass_J54 (g2 : Int → Mem → Res) (x1 : Int) (x2 : Int) (M : Mem) : Res :=
  q_gr M 7 1 fun t1 =>
  q_gf M t1 0 fun v2 =>
  q_pf M t1 0 (v2 + 1) fun M3 =>
  g2 (x2 + 1) M3
theorem w_X3_pass_J54 (C : Cx syC p m c cX3_pass 4 s args RX3 D ad cA) (hr : meth.sig.returnType = none) (hlk : meth.locks = false) (g2 : Int → Mem → Res) (x1 : Int) (x2 : Int) (M : Mem) (ih2 : ∀ (ux2 : Int) (M : Mem), g2 ux2 M = some (r0, M0) → WM syC p l e rm_X3_pass s m args below meth c 4 D ad cA (MQ below (q_Post syC D ad cA none M0) args s 0 0 (q_A syC ad)) M 2 [(0, .ref (ad 7)), (1, .int (qI x1)), (2, .int (qI ux2))] []) (h : f_X3_pass_J54 g2 x1 x2 M = some (r0, M0)) : WM syC p l e rm_X3_pass s m args below meth c 4 D ad cA (MQ below (q_Post syC D ad cA none M0) args s 0 0 (q_A syC ad)) M 54 [(0, .ref (ad 7)), (1, .int (qI x1)), (2, .int (qI x2))] [] := by
  unfold f_X3_pass_J54 at h
  refine r_aln C dX3_pass_54 (k := 0) rfl ?_
  refine r_gr C kc_7 clX3 (f := 1) (fz := 1) (Pp := isS) (by decide) rfl rfl (fun q => q.2.2.2) tf_RX3_37 dX3_pass_55 h (fun t1 ht1 h => ?_)
  refine r_dup C rfl dX3_pass_58 ?_
  refine r_gf C (kS ht1) clX6 (f := 0) (by decide) rfl rfl rfl tf_RX3_64 dX3_pass_59 h (fun v2 h => ?_)
  refine r_ic C dX3_pass_62 ?_
  refine r_iadd C dX3_pass_63 ?_
  refine r_pf C (kS ht1) clX6 (f := 0) (by decide) rfl q_dI rfl rfl tf_RX3_64 dX3_pass_64 h (fun M3 h => ?_)
  refine r_inc C (L1 := [(2, .int (qI (x2 + 1))), (0, .ref (ad 7)), (1, .int (qI x1))]) dX3_pass_67 (k := 2) rfl (by decide) rfl ?_
  refine r_goto C (tgt := 2) dX3_pass_70 (by decide) ?_
  refine r_drop [1, 2, 0] rfl ?_
  exact ih2 (x2 + 1) M3 h
def f_X3_pass_B13 (g2 : Int → Mem → Res) (x1 : Int) (x2 : Int) (x3 : Int) (M : Mem) (g13 : Int → Mem → Res) : Res :=
  q_gr M 7 0 fun t1 =>
  q_gf M t1 7 fun v2 =>
  if w32 v2 ≤ w32 x3 then (q_call (f_X3_rains  M) fun r3 M4 =>
  if w32 r3 = 0 then (f_X3_pass_J54 g2 x1 x2 M4)
  else (q_call (f_X3_soak  M4) fun r5 M6 =>
  f_X3_pass_J54 g2 x1 x2 M6))
  else (q_calp (f_X3_comes x3 M) fun r7 =>
  if w32 r7 = 0 then (g13 (x3 + 1) M)
  else (q_call (f_X3_board x3 M) fun r8 M9 =>
  g13 (x3 + 1) M9))
def f_X3_pass_L13 (g2 : Int → Mem → Res) (x1 : Int) (x2 : Int) (n : Nat) (x3 : Int) (M : Mem) : Res := qlm1 (fun x3 M g13 => f_X3_pass_B13 g2 x1 x2 x3 M g13) n x3 M
theorem w_X3_pass_B13 (C : Cx syC p m c cX3_pass 4 s args RX3 D ad cA) (hr : meth.sig.returnType = none) (hlk : meth.locks = false) (g2 : Int → Mem → Res) (x1 : Int) (x2 : Int) (x3 : Int) (M : Mem) (g13 : Int → Mem → Res) (ih2 : ∀ (ux2 : Int) (M : Mem), g2 ux2 M = some (r0, M0) → WM syC p l e rm_X3_pass s m args below meth c 4 D ad cA (MQ below (q_Post syC D ad cA none M0) args s 0 0 (q_A syC ad)) M 2 [(0, .ref (ad 7)), (1, .int (qI x1)), (2, .int (qI ux2))] []) (ih13 : ∀ (ux3 : Int) (M : Mem), g13 ux3 M = some (r0, M0) → WM syC p l e rm_X3_pass s m args below meth c 4 D ad cA (MQ below (q_Post syC D ad cA none M0) args s 0 0 (q_A syC ad)) M 13 [(0, .ref (ad 7)), (1, .int (qI x1)), (2, .int (qI x2)), (3, .int (qI ux3))] []) (h : f_X3_pass_B13 g2 x1 x2 x3 M g13 = some (r0, M0)) : WM syC p l e rm_X3_pass s m args below meth c 4 D ad cA (MQ below (q_Post syC D ad cA none M0) args s 0 0 (q_A syC ad)) M 13 [(0, .ref (ad 7)), (1, .int (qI x1)), (2, .int (qI x2)), (3, .int (qI x3))] [] := by
  unfold f_X3_pass_B13 at h
  refine r_iln C dX3_pass_13 (k := 3) rfl ?_
  refine r_aln C dX3_pass_14 (k := 0) rfl ?_
  refine r_gr C kc_7 clX3 (f := 0) (fz := 0) (Pp := isT) (by decide) rfl rfl (fun q => q.2.2.1) tf_RX3_33 dX3_pass_15 h (fun t1 ht1 h => ?_)
  refine r_gf C (kT ht1) clX8 (f := 7) (by decide) rfl rfl rfl tf_RX3_44 dX3_pass_18 h (fun v2 h => ?_)
  refine r_cge C (tgt := 43) dX3_pass_21 (by decide) h (fun h => ?_) (fun h => ?_)
  · refine r_aln C dX3_pass_43 (k := 0) rfl ?_
    obtain ⟨r3, M4, hy, h⟩ := q_call_some h
    refine r_cvi C (st := []) (c_X3_rains C.2.2.1 M r3 M4 hy) tm_RX3_57 mw_X3_rains ⟨rfl, rfl⟩ ⟨Nat.le_of_ble_eq_true rfl, Nat.le_of_ble_eq_true rfl⟩ kc_7 clX3 rfl rfl (Nat.le_of_ble_eq_true rfl) dX3_pass_44 ?_
    refine r_zeq C (tgt := 54) dX3_pass_47 (by decide) h (fun h => ?_) (fun h => ?_)
    · refine r_drop [0, 1, 2] rfl ?_
      exact w_X3_pass_J54 C hr hlk g2 x1 x2 M4 ih2 h
    · refine r_aln C dX3_pass_50 (k := 0) rfl ?_
      obtain ⟨r5, M6, hy, h⟩ := q_call_some h
      refine r_cvv C (st := []) (c_X3_soak C.2.2.1 M4 r5 M6 hy) tm_RX3_61 mw_X3_soak ⟨rfl, rfl⟩ ⟨Nat.le_of_ble_eq_true rfl, Nat.le_of_ble_eq_true rfl⟩ kc_7 clX3 rfl rfl (Nat.le_of_ble_eq_true rfl) dX3_pass_51 ?_
      refine r_drop [0, 1, 2] rfl ?_
      exact w_X3_pass_J54 C hr hlk g2 x1 x2 M6 ih2 h
  · refine r_aln C dX3_pass_24 (k := 0) rfl ?_
    refine r_iln C dX3_pass_25 (k := 3) rfl ?_
    obtain ⟨r7, hy, h⟩ := q_calp_some h
    refine r_cvi C (st := []) (c_X3_comes C.2.2.1 x3 M r7 hy) tm_RX3_49 mw_X3_comes ⟨rfl, rfl⟩ ⟨Nat.le_of_ble_eq_true rfl, Nat.le_of_ble_eq_true rfl⟩ kc_7 clX3 rfl rfl (Nat.le_of_ble_eq_true rfl) dX3_pass_26 ?_
    refine r_zeq C (tgt := 37) dX3_pass_29 (by decide) h (fun h => ?_) (fun h => ?_)
    · refine r_inc C (L1 := [(3, .int (qI (x3 + 1))), (0, .ref (ad 7)), (1, .int (qI x1)), (2, .int (qI x2))]) dX3_pass_37 (k := 3) rfl (by decide) rfl ?_
      refine r_goto C (tgt := 13) dX3_pass_40 (by decide) ?_
      refine r_drop [1, 2, 3, 0] rfl ?_
      exact ih13 (x3 + 1) M h
    · refine r_aln C dX3_pass_32 (k := 0) rfl ?_
      refine r_iln C dX3_pass_33 (k := 3) rfl ?_
      obtain ⟨r8, M9, hy, h⟩ := q_call_some h
      refine r_cvv C (st := []) (c_X3_board C.2.2.1 x3 M r8 M9 hy) tm_RX3_53 mw_X3_board ⟨rfl, rfl⟩ ⟨Nat.le_of_ble_eq_true rfl, Nat.le_of_ble_eq_true rfl⟩ kc_7 clX3 rfl rfl (Nat.le_of_ble_eq_true rfl) dX3_pass_34 ?_
      refine r_inc C (L1 := [(3, .int (qI (x3 + 1))), (0, .ref (ad 7)), (1, .int (qI x1)), (2, .int (qI x2))]) dX3_pass_37 (k := 3) rfl (by decide) rfl ?_
      refine r_goto C (tgt := 13) dX3_pass_40 (by decide) ?_
      refine r_drop [1, 2, 3, 0] rfl ?_
      exact ih13 (x3 + 1) M9 h
theorem w_X3_pass_L13 (C : Cx syC p m c cX3_pass 4 s args RX3 D ad cA) (hr : meth.sig.returnType = none) (hlk : meth.locks = false) (g2 : Int → Mem → Res) (x1 : Int) (x2 : Int) (ih2 : ∀ (ux2 : Int) (M : Mem), g2 ux2 M = some (r0, M0) → WM syC p l e rm_X3_pass s m args below meth c 4 D ad cA (MQ below (q_Post syC D ad cA none M0) args s 0 0 (q_A syC ad)) M 2 [(0, .ref (ad 7)), (1, .int (qI x1)), (2, .int (qI ux2))] []) (n : Nat) (x3 : Int) (M : Mem) (h : f_X3_pass_L13 g2 x1 x2 n x3 M = some (r0, M0)) : WM syC p l e rm_X3_pass s m args below meth c 4 D ad cA (MQ below (q_Post syC D ad cA none M0) args s 0 0 (q_A syC ad)) M 13 [(0, .ref (ad 7)), (1, .int (qI x1)), (2, .int (qI x2)), (3, .int (qI x3))] [] :=
  qlm1_r (Wp := fun ux3 M => WM syC p l e rm_X3_pass s m args below meth c 4 D ad cA (MQ below (q_Post syC D ad cA none M0) args s 0 0 (q_A syC ad)) M 13 [(0, .ref (ad 7)), (1, .int (qI x1)), (2, .int (qI x2)), (3, .int (qI ux3))] []) (fun ux3 M g13 ih13 h => w_X3_pass_B13 C hr hlk g2 x1 x2 ux3 M g13 ih2 ih13 h) n x3 M h
def f_X3_pass_B2 (x1 : Int) (x2 : Int) (M : Mem) (g2 : Int → Mem → Res) : Res :=
  if w32 x1 ≤ w32 x2 then (some (0, M))
  else (q_call (f_X3_letCome  M) fun r1 M2 =>
  f_X3_pass_L13 g2 x1 x2 q_N 0 M2)
def f_X3_pass_L2 (x1 : Int) (n : Nat) (x2 : Int) (M : Mem) : Res := qlm1 (fun x2 M g2 => f_X3_pass_B2 x1 x2 M g2) n x2 M
theorem w_X3_pass_B2 (C : Cx syC p m c cX3_pass 4 s args RX3 D ad cA) (hr : meth.sig.returnType = none) (hlk : meth.locks = false)  (x1 : Int) (x2 : Int) (M : Mem) (g2 : Int → Mem → Res)  (ih2 : ∀ (ux2 : Int) (M : Mem), g2 ux2 M = some (r0, M0) → WM syC p l e rm_X3_pass s m args below meth c 4 D ad cA (MQ below (q_Post syC D ad cA none M0) args s 0 0 (q_A syC ad)) M 2 [(0, .ref (ad 7)), (1, .int (qI x1)), (2, .int (qI ux2))] []) (h : f_X3_pass_B2 x1 x2 M g2 = some (r0, M0)) : WM syC p l e rm_X3_pass s m args below meth c 4 D ad cA (MQ below (q_Post syC D ad cA none M0) args s 0 0 (q_A syC ad)) M 2 [(0, .ref (ad 7)), (1, .int (qI x1)), (2, .int (qI x2))] [] := by
  unfold f_X3_pass_B2 at h
  refine r_iln C dX3_pass_2 (k := 2) rfl ?_
  refine r_iln C dX3_pass_3 (k := 1) rfl ?_
  refine r_cge C (tgt := 73) dX3_pass_4 (by decide) h (fun h => ?_) (fun h => ?_)
  · exact r_vret C hr hlk dX3_pass_73 h
  · refine r_aln C dX3_pass_7 (k := 0) rfl ?_
    obtain ⟨r1, M2, hy, h⟩ := q_call_some h
    refine r_cvv C (st := []) (c_X3_letCome C.2.2.1 M r1 M2 hy) tm_RX3_41 mw_X3_letCome ⟨rfl, rfl⟩ ⟨Nat.le_of_ble_eq_true rfl, Nat.le_of_ble_eq_true rfl⟩ kc_7 clX3 rfl rfl (Nat.le_of_ble_eq_true rfl) dX3_pass_8 ?_
    refine r_ic C dX3_pass_11 ?_
    refine r_isn C (L1 := [(3, .int (qI 0)), (0, .ref (ad 7)), (1, .int (qI x1)), (2, .int (qI x2))]) dX3_pass_12 (by decide) rfl ?_
    refine r_drop [1, 2, 3, 0] rfl ?_
    exact w_X3_pass_L13 C hr hlk g2 x1 x2 ih2 q_N 0 M2 h
theorem w_X3_pass_L2 (C : Cx syC p m c cX3_pass 4 s args RX3 D ad cA) (hr : meth.sig.returnType = none) (hlk : meth.locks = false)  (x1 : Int)  (n : Nat) (x2 : Int) (M : Mem) (h : f_X3_pass_L2 x1 n x2 M = some (r0, M0)) : WM syC p l e rm_X3_pass s m args below meth c 4 D ad cA (MQ below (q_Post syC D ad cA none M0) args s 0 0 (q_A syC ad)) M 2 [(0, .ref (ad 7)), (1, .int (qI x1)), (2, .int (qI x2))] [] :=
  qlm1_r (Wp := fun ux2 M => WM syC p l e rm_X3_pass s m args below meth c 4 D ad cA (MQ below (q_Post syC D ad cA none M0) args s 0 0 (q_A syC ad)) M 2 [(0, .ref (ad 7)), (1, .int (qI x1)), (2, .int (qI ux2))] []) (fun ux2 M g2 ih2 h => w_X3_pass_B2 C hr hlk x1 ux2 M g2  ih2 h) n x2 M h
def f_X3_pass (a0 : Int) (M : Mem) : Res :=
  f_X3_pass_L2 a0 q_N 0 M
theorem c_X3_pass {l : Launch} {D : va_G} {ad : Nat → Nat} {cA : Nat → ClassId} (hi : q_inj syC ad) (a0 : Int) (M : Mem) (r0 : Int) (M0 : Mem) (h : f_X3_pass a0 M = some (r0, M0)) : q_Met l syC D ad cA yX3_pass cX3_pass 4 none rm_X3_pass [.ref (ad 7), .int (qI a0)] M none M0 := by
  refine q_met (L0 := [(0, .ref (ad 7)), (1, .int (qI a0))]) hi okC (by decide) (Nat.le_of_ble_eq_true rfl) rfl ?_
  intro p e s m args below meth c C hr hlk
  unfold f_X3_pass at h
  refine r_ic C dX3_pass_0 ?_
  refine r_isn C (L1 := [(2, .int (qI 0)), (0, .ref (ad 7)), (1, .int (qI a0))]) dX3_pass_1 (by decide) rfl ?_
  refine r_drop [1, 2, 0] rfl ?_
  exact w_X3_pass_L2 C hr hlk a0  q_N 0 M h
abbrev rm_X3_ready : Room := { frames := 0, cells := 0, slots := 0, locals := 0 }
theorem mw_X3_ready : q_mw RX3 yX3_ready cX3_ready 3 none 2 := ⟨⟨ti_X3_ready, tl_X3_ready, tn_RX3, td_X3_ready⟩, by decide +kernel⟩
def f_X3_ready (k0 : Nat) (k1 : Nat) (M : Mem) : Res :=
  q_pf M 7 0 (k0 : Nat) fun M1 =>
  q_pf M1 7 1 (k1 : Nat) fun M2 =>
  q_pz M2 7 2 0 fun M3 =>
  q_pf M3 7 3 0 fun M4 =>
  q_pf M4 7 4 (-1) fun M5 =>
  q_pf M5 7 5 1 fun M6 =>
  some (0, M6)
theorem c_X3_ready {l : Launch} {D : va_G} {ad : Nat → Nat} {cA : Nat → ClassId} (hi : q_inj syC ad) (k0 : Nat) (k1 : Nat) (hk0 : isT k0) (hk1 : isS k1) (M : Mem) (r0 : Int) (M0 : Mem) (h : f_X3_ready k0 k1 M = some (r0, M0)) : q_Met l syC D ad cA yX3_ready cX3_ready 3 none rm_X3_ready [.ref (ad 7), .ref (ad k0), .ref (ad k1)] M none M0 := by
  refine q_met (L0 := [(0, .ref (ad 7)), (1, .ref (ad k0)), (2, .ref (ad k1))]) hi okC (by decide) (Nat.le_of_ble_eq_true rfl) rfl ?_
  intro p e s m args below meth c C hr hlk
  unfold f_X3_ready at h
  refine r_aln C dX3_ready_0 (k := 0) rfl ?_
  refine r_aln C dX3_ready_1 (k := 1) rfl ?_
  refine r_pr C kc_7 clX3 (f := 0) (by decide) rfl (ty := (.object "HeavenStop$Told")) (by decide +kernel) rfl rfl (pr_3_0 hk0) rfl tf_RX3_33 dX3_ready_2 h (fun M1 h => ?_)
  refine r_aln C dX3_ready_5 (k := 0) rfl ?_
  refine r_aln C dX3_ready_6 (k := 2) rfl ?_
  refine r_pr C kc_7 clX3 (f := 1) (by decide) rfl (ty := (.object "HeavenStop$Stand")) (by decide +kernel) rfl rfl (pr_3_1 hk1) rfl tf_RX3_37 dX3_ready_7 h (fun M2 h => ?_)
  refine r_aln C dX3_ready_10 (k := 0) rfl ?_
  refine r_ic C dX3_ready_11 ?_
  refine r_pz C kc_7 clX3 (f := 2) (by decide) rfl q_dZ rfl rfl tf_RX3_9 dX3_ready_12 h (fun M3 h => ?_)
  refine r_aln C dX3_ready_15 (k := 0) rfl ?_
  refine r_ic C dX3_ready_16 ?_
  refine r_pf C kc_7 clX3 (f := 3) (by decide) rfl q_dI rfl rfl tf_RX3_15 dX3_ready_17 h (fun M4 h => ?_)
  refine r_aln C dX3_ready_20 (k := 0) rfl ?_
  refine r_ic C dX3_ready_21 ?_
  refine r_pf C kc_7 clX3 (f := 4) (by decide) rfl q_dI rfl rfl tf_RX3_19 dX3_ready_22 h (fun M5 h => ?_)
  refine r_aln C dX3_ready_25 (k := 0) rfl ?_
  refine r_ic C dX3_ready_26 ?_
  refine r_pf C kc_7 clX3 (f := 5) (by decide) rfl q_dI rfl rfl tf_RX3_22 dX3_ready_27 h (fun M6 h => ?_)
  exact r_vret C hr hlk dX3_ready_30 h
abbrev rm_X3_tillGone : Room := { frames := 5, cells := 0, slots := 0, locals := 128 }
theorem mw_X3_tillGone : q_mw RX3 yX3_tillGone cX3_tillGone 4 (some .int) 2 := ⟨⟨ti_X3_tillGone, tl_X3_tillGone, tn_RX3, td_X3_tillGone⟩, by decide +kernel⟩
def f_X3_tillGone_B18 (x1 : Int) (x2 : Int) (x3 : Int) (M : Mem) (g18 : Int → Mem → Res) : Res :=
  if w32 x2 ≤ w32 x3 then (q_gr M 7 1 fun t1 =>
  q_al M (32 * (t1 + 1) + 2) 8 x1 fun v2 =>
  if ¬ w32 v2 = w32 2 then (some ((-2), M))
  else (some (x2, M)))
  else (q_gr M 7 1 fun t3 =>
  q_al M (32 * (t3 + 1) + 2) 8 x1 fun v4 =>
  if ¬ w32 v4 = w32 2 then (q_call (f_X3_pass 1 M) fun r5 M6 =>
  g18 (x3 + 1) M6)
  else (some (x3, M)))
def f_X3_tillGone_L18 (x1 : Int) (x2 : Int) (n : Nat) (x3 : Int) (M : Mem) : Res := qlm1 (fun x3 M g18 => f_X3_tillGone_B18 x1 x2 x3 M g18) n x3 M
theorem w_X3_tillGone_B18 (C : Cx syC p m c cX3_tillGone 4 s args RX3 D ad cA) (hr : meth.sig.returnType = (some .int)) (hlk : meth.locks = false)  (x1 : Int) (x2 : Int) (x3 : Int) (M : Mem) (g18 : Int → Mem → Res)  (ih18 : ∀ (ux3 : Int) (M : Mem), g18 ux3 M = some (r0, M0) → WM syC p l e rm_X3_tillGone s m args below meth c 4 D ad cA (MQ below (q_Post syC D ad cA (some (.int (qI r0))) M0) args s 0 0 (q_A syC ad)) M 18 [(0, .ref (ad 7)), (1, .int (qI x1)), (2, .int (qI x2)), (3, .int (qI ux3))] []) (h : f_X3_tillGone_B18 x1 x2 x3 M g18 = some (r0, M0)) : WM syC p l e rm_X3_tillGone s m args below meth c 4 D ad cA (MQ below (q_Post syC D ad cA (some (.int (qI r0))) M0) args s 0 0 (q_A syC ad)) M 18 [(0, .ref (ad 7)), (1, .int (qI x1)), (2, .int (qI x2)), (3, .int (qI x3))] [] := by
  unfold f_X3_tillGone_B18 at h
  refine r_iln C dX3_tillGone_18 (k := 3) rfl ?_
  refine r_iln C dX3_tillGone_19 (k := 2) rfl ?_
  refine r_cge C (tgt := 49) dX3_tillGone_20 (by decide) h (fun h => ?_) (fun h => ?_)
  · refine r_aln C dX3_tillGone_49 (k := 0) rfl ?_
    refine r_gr C kc_7 clX3 (f := 1) (fz := 1) (Pp := isS) (by decide) rfl rfl (fun q => q.2.2.2) tf_RX3_37 dX3_tillGone_50 h (fun t1 ht1 h => ?_)
    refine r_gs C (kS ht1) clX6 (f := 2) (by decide) rfl (t := (32 * (t1 + 1) + 2)) rfl tf_RX3_69 dX3_tillGone_53 ?_
    refine r_iln C dX3_tillGone_56 (k := 1) rfl ?_
    refine r_iald C (kS_2 ht1) dX3_tillGone_57 h (fun v2 h => ?_)
    refine r_ic C dX3_tillGone_58 ?_
    refine r_cne C (tgt := 66) dX3_tillGone_59 (by decide) h (fun h => ?_) (fun h => ?_)
    · refine r_bi C dX3_tillGone_66 (by decide) ?_
      exact r_iret C hr hlk dX3_tillGone_68 h
    · refine r_iln C dX3_tillGone_62 (k := 2) rfl ?_
      refine r_goto C (tgt := 68) dX3_tillGone_63 (by decide) ?_
      exact r_iret C hr hlk dX3_tillGone_68 h
  · refine r_aln C dX3_tillGone_23 (k := 0) rfl ?_
    refine r_gr C kc_7 clX3 (f := 1) (fz := 1) (Pp := isS) (by decide) rfl rfl (fun q => q.2.2.2) tf_RX3_37 dX3_tillGone_24 h (fun t3 ht3 h => ?_)
    refine r_gs C (kS ht3) clX6 (f := 2) (by decide) rfl (t := (32 * (t3 + 1) + 2)) rfl tf_RX3_69 dX3_tillGone_27 ?_
    refine r_iln C dX3_tillGone_30 (k := 1) rfl ?_
    refine r_iald C (kS_2 ht3) dX3_tillGone_31 h (fun v4 h => ?_)
    refine r_ic C dX3_tillGone_32 ?_
    refine r_cne C (tgt := 38) dX3_tillGone_33 (by decide) h (fun h => ?_) (fun h => ?_)
    · refine r_aln C dX3_tillGone_38 (k := 0) rfl ?_
      refine r_ic C dX3_tillGone_39 ?_
      obtain ⟨r5, M6, hy, h⟩ := q_call_some h
      refine r_cvv C (st := []) (c_X3_pass C.2.2.1 1 M r5 M6 hy) tm_RX3_72 mw_X3_pass ⟨rfl, rfl⟩ ⟨Nat.le_of_ble_eq_true rfl, Nat.le_of_ble_eq_true rfl⟩ kc_7 clX3 rfl rfl (Nat.le_of_ble_eq_true rfl) dX3_tillGone_40 ?_
      refine r_inc C (L1 := [(3, .int (qI (x3 + 1))), (0, .ref (ad 7)), (1, .int (qI x1)), (2, .int (qI x2))]) dX3_tillGone_43 (k := 3) rfl (by decide) rfl ?_
      refine r_goto C (tgt := 18) dX3_tillGone_46 (by decide) ?_
      refine r_drop [1, 2, 3, 0] rfl ?_
      exact ih18 (x3 + 1) M6 h
    · refine r_iln C dX3_tillGone_36 (k := 3) rfl ?_
      exact r_iret C hr hlk dX3_tillGone_37 h
theorem w_X3_tillGone_L18 (C : Cx syC p m c cX3_tillGone 4 s args RX3 D ad cA) (hr : meth.sig.returnType = (some .int)) (hlk : meth.locks = false)  (x1 : Int) (x2 : Int)  (n : Nat) (x3 : Int) (M : Mem) (h : f_X3_tillGone_L18 x1 x2 n x3 M = some (r0, M0)) : WM syC p l e rm_X3_tillGone s m args below meth c 4 D ad cA (MQ below (q_Post syC D ad cA (some (.int (qI r0))) M0) args s 0 0 (q_A syC ad)) M 18 [(0, .ref (ad 7)), (1, .int (qI x1)), (2, .int (qI x2)), (3, .int (qI x3))] [] :=
  qlm1_r (Wp := fun ux3 M => WM syC p l e rm_X3_tillGone s m args below meth c 4 D ad cA (MQ below (q_Post syC D ad cA (some (.int (qI r0))) M0) args s 0 0 (q_A syC ad)) M 18 [(0, .ref (ad 7)), (1, .int (qI x1)), (2, .int (qI x2)), (3, .int (qI ux3))] []) (fun ux3 M g18 ih18 h => w_X3_tillGone_B18 C hr hlk x1 x2 ux3 M g18  ih18 h) n x3 M h
def f_X3_tillGone (a0 : Int) (a1 : Int) (M : Mem) : Res :=
  q_gr M 7 1 fun t1 =>
  q_al M (32 * (t1 + 1) + 2) 8 a0 fun v2 =>
  if ¬ w32 v2 = w32 3 then (f_X3_tillGone_L18 a0 a1 q_N 0 M)
  else (some ((-2), M))
theorem c_X3_tillGone {l : Launch} {D : va_G} {ad : Nat → Nat} {cA : Nat → ClassId} (hi : q_inj syC ad) (a0 : Int) (a1 : Int) (M : Mem) (r0 : Int) (M0 : Mem) (h : f_X3_tillGone a0 a1 M = some (r0, M0)) : q_Met l syC D ad cA yX3_tillGone cX3_tillGone 4 (some .int) rm_X3_tillGone [.ref (ad 7), .int (qI a0), .int (qI a1)] M (some (.int (qI r0))) M0 := by
  refine q_met (L0 := [(0, .ref (ad 7)), (1, .int (qI a0)), (2, .int (qI a1))]) hi okC (by decide) (Nat.le_of_ble_eq_true rfl) rfl ?_
  intro p e s m args below meth c C hr hlk
  unfold f_X3_tillGone at h
  refine r_aln C dX3_tillGone_0 (k := 0) rfl ?_
  refine r_gr C kc_7 clX3 (f := 1) (fz := 1) (Pp := isS) (by decide) rfl rfl (fun q => q.2.2.2) tf_RX3_37 dX3_tillGone_1 h (fun t1 ht1 h => ?_)
  refine r_gs C (kS ht1) clX6 (f := 2) (by decide) rfl (t := (32 * (t1 + 1) + 2)) rfl tf_RX3_69 dX3_tillGone_4 ?_
  refine r_iln C dX3_tillGone_7 (k := 1) rfl ?_
  refine r_iald C (kS_2 ht1) dX3_tillGone_8 h (fun v2 h => ?_)
  refine r_ic C dX3_tillGone_9 ?_
  refine r_cne C (tgt := 16) dX3_tillGone_10 (by decide) h (fun h => ?_) (fun h => ?_)
  · refine r_ic C dX3_tillGone_16 ?_
    refine r_isn C (L1 := [(3, .int (qI 0)), (0, .ref (ad 7)), (1, .int (qI a0)), (2, .int (qI a1))]) dX3_tillGone_17 (by decide) rfl ?_
    refine r_drop [1, 2, 3, 0] rfl ?_
    exact w_X3_tillGone_L18 C hr hlk a0 a1  q_N 0 M h
  · refine r_bi C dX3_tillGone_13 (by decide) ?_
    exact r_iret C hr hlk dX3_tillGone_15 h
abbrev rm_X4_exchange : Room := { frames := 0, cells := 0, slots := 0, locals := 0 }
theorem mw_X4_exchange : q_mw RX4 yX4_exchange cX4_exchange 3 (some (.object "HeavenStop$Told")) 1 := ⟨⟨ti_X4_exchange, tl_X4_exchange, tn_RX4, td_X4_exchange⟩, by decide +kernel⟩
def f_X4_exchange (k0 : Nat) (M : Mem) : Res :=
  q_gr M 1 2 fun t1 =>
  q_pf M 1 2 (k0 : Nat) fun M2 =>
  some (((t1 : Nat) : Int), M2)
theorem c_X4_exchange {l : Launch} {D : va_G} {ad : Nat → Nat} {cA : Nat → ClassId} (hi : q_inj syC ad) (k0 : Nat) (hk0 : isT k0) (M : Mem) (r0 : Int) (M0 : Mem) (h : f_X4_exchange k0 M = some (r0, M0)) : q_Met l syC D ad cA yX4_exchange cX4_exchange 3 (some (.object "HeavenStop$Told")) rm_X4_exchange [.ref (ad 1), .ref (ad k0)] M (some (.ref (ad r0.toNat))) M0 := by
  refine q_met (L0 := [(0, .ref (ad 1)), (1, .ref (ad k0))]) hi okC (by decide) (Nat.le_of_ble_eq_true rfl) rfl ?_
  intro p e s m args below meth c C hr hlk
  unfold f_X4_exchange at h
  refine r_aln C dX4_exchange_0 (k := 0) rfl ?_
  refine r_gr C kc_1 clX4 (f := 2) (fz := 2) (Pp := isT) (by decide) rfl rfl (fun q => q.2.1) tf_RX4_12 dX4_exchange_1 h (fun t1 ht1 h => ?_)
  refine r_asn C (L1 := [(2, .ref (ad t1)), (0, .ref (ad 1)), (1, .ref (ad k0))]) dX4_exchange_4 (by decide) rfl ?_
  refine r_aln C dX4_exchange_5 (k := 1) rfl ?_
  refine r_aln C dX4_exchange_6 (k := 2) rfl ?_
  refine r_pr C kc_1 clX4 (f := 2) (by decide) rfl (ty := (.object "HeavenStop$Told")) (by decide +kernel) rfl rfl (pr_4_2 hk0) rfl tf_RX4_12 dX4_exchange_7 h (fun M2 h => ?_)
  refine r_aln C dX4_exchange_10 (k := 0) rfl ?_
  exact r_aret C hr (Or.inl ⟨_, rfl⟩) hlk dX4_exchange_11 h
theorem ex_T {k : Nat} {M M1 : Mem} {r : Int} (hty : tyC M) (h : f_X4_exchange k M = some (r, M1)) : isT r.toNat := by
  unfold f_X4_exchange q_gr q_pf at h
  cases h
  rw [Int.toNat_natCast]
  exact hty.2.1
abbrev rm_X8_clear : Room := { frames := 1, cells := 0, slots := 0, locals := 21 }
theorem mw_X8_clear : q_mw RX8 yX8_clear cX8_clear 2 none 0 := ⟨⟨ti_X8_clear, tl_X8_clear, tn_RX8, td_X8_clear⟩, by decide +kernel⟩
def f_X8_clear_B7 (k : Nat) (x1 : Int) (M : Mem) (g7 : Int → Mem → Res) : Res :=
  if w32 8 ≤ w32 x1 then (q_pf M k 6 0 fun M1 =>
  q_pf M1 k 7 0 fun M2 =>
  q_pf M2 k 13 2 fun M3 =>
  q_pf M3 k 14 0 fun M4 =>
  q_pf M4 k 15 0 fun M5 =>
  q_call (f_X2_clear (k + 10) M5) fun r6 M7 =>
  some (0, M7))
  else (q_as M (32 * (k + 1) + 5) 8 x1 0 fun M8 =>
  q_as M8 (32 * (k + 1) + 4) 8 x1 0 fun M9 =>
  g7 (x1 + 1) M9)
def f_X8_clear_L7 (k : Nat) (n : Nat) (x1 : Int) (M : Mem) : Res := qlm1 (fun x1 M g7 => f_X8_clear_B7 k x1 M g7) n x1 M
theorem w_X8_clear_B7 (C : Cx syC p m c cX8_clear 2 s args RX8 D ad cA) (hr : meth.sig.returnType = none) (hlk : meth.locks = false) (k : Nat) (hk : isT k) (x1 : Int) (M : Mem) (g7 : Int → Mem → Res)  (ih7 : ∀ (ux1 : Int) (M : Mem), g7 ux1 M = some (r0, M0) → WM syC p l e rm_X8_clear s m args below meth c 2 D ad cA (MQ below (q_Post syC D ad cA none M0) args s 0 0 (q_A syC ad)) M 7 [(0, .ref (ad k)), (1, .int (qI ux1))] []) (h : f_X8_clear_B7 k x1 M g7 = some (r0, M0)) : WM syC p l e rm_X8_clear s m args below meth c 2 D ad cA (MQ below (q_Post syC D ad cA none M0) args s 0 0 (q_A syC ad)) M 7 [(0, .ref (ad k)), (1, .int (qI x1))] [] := by
  unfold f_X8_clear_B7 at h
  refine r_iln C dX8_clear_7 (k := 1) rfl ?_
  refine r_bi C dX8_clear_8 (by decide) ?_
  refine r_cge C (tgt := 33) dX8_clear_10 (by decide) h (fun h => ?_) (fun h => ?_)
  · refine r_aln C dX8_clear_33 (k := 0) rfl ?_
    refine r_ic C dX8_clear_34 ?_
    refine r_pf C (kT hk) clX8 (f := 6) (by decide) rfl q_dI rfl rfl tf_RX8_31 dX8_clear_35 h (fun M1 h => ?_)
    refine r_aln C dX8_clear_38 (k := 0) rfl ?_
    refine r_ic C dX8_clear_39 ?_
    refine r_pf C (kT hk) clX8 (f := 7) (by decide) rfl q_dI rfl rfl tf_RX8_34 dX8_clear_40 h (fun M2 h => ?_)
    refine r_aln C dX8_clear_43 (k := 0) rfl ?_
    refine r_ic C dX8_clear_44 ?_
    refine r_pf C (kT hk) clX8 (f := 13) (by decide) rfl q_dI rfl rfl tf_RX8_52 dX8_clear_45 h (fun M3 h => ?_)
    refine r_aln C dX8_clear_48 (k := 0) rfl ?_
    refine r_ic C dX8_clear_49 ?_
    refine r_pf C (kT hk) clX8 (f := 14) (by decide) rfl q_dI rfl rfl tf_RX8_55 dX8_clear_50 h (fun M4 h => ?_)
    refine r_aln C dX8_clear_53 (k := 0) rfl ?_
    refine r_ic C dX8_clear_54 ?_
    refine r_pf C (kT hk) clX8 (f := 15) (by decide) rfl q_dI rfl rfl tf_RX8_58 dX8_clear_55 h (fun M5 h => ?_)
    refine r_aln C dX8_clear_58 (k := 0) rfl ?_
    refine r_gs C (kT hk) clX8 (f := 16) (by decide) rfl (t := (k + 10)) rfl tf_RX8_64 dX8_clear_59 ?_
    obtain ⟨r6, M7, hy, h⟩ := q_call_some h
    refine r_cvv C (st := []) (c_X2_clear C.2.2.1 (k + 10) (kTL hk) M5 r6 M7 hy) tm_RX8_68 mw_X2_clear ⟨rfl, rfl⟩ ⟨Nat.le_of_ble_eq_true rfl, Nat.le_of_ble_eq_true rfl⟩ (kL (kTL hk)) clX2 rfl rfl (Nat.le_of_ble_eq_true rfl) dX8_clear_62 ?_
    exact r_vret C hr hlk dX8_clear_65 h
  · refine r_aln C dX8_clear_13 (k := 0) rfl ?_
    refine r_gs C (kT hk) clX8 (f := 5) (by decide) rfl (t := (32 * (k + 1) + 5)) rfl tf_RX8_28 dX8_clear_14 ?_
    refine r_iln C dX8_clear_17 (k := 1) rfl ?_
    refine r_ic C dX8_clear_18 ?_
    refine r_iast C (kT_5 hk) dX8_clear_19 h (fun M8 h => ?_)
    refine r_aln C dX8_clear_20 (k := 0) rfl ?_
    refine r_gs C (kT hk) clX8 (f := 4) (by decide) rfl (t := (32 * (k + 1) + 4)) rfl tf_RX8_25 dX8_clear_21 ?_
    refine r_iln C dX8_clear_24 (k := 1) rfl ?_
    refine r_ic C dX8_clear_25 ?_
    refine r_iast C (kT_4 hk) dX8_clear_26 h (fun M9 h => ?_)
    refine r_inc C (L1 := [(1, .int (qI (x1 + 1))), (0, .ref (ad k))]) dX8_clear_27 (k := 1) rfl (by decide) rfl ?_
    refine r_goto C (tgt := 7) dX8_clear_30 (by decide) ?_
    refine r_drop [1, 0] rfl ?_
    exact ih7 (x1 + 1) M9 h
theorem w_X8_clear_L7 (C : Cx syC p m c cX8_clear 2 s args RX8 D ad cA) (hr : meth.sig.returnType = none) (hlk : meth.locks = false) (k : Nat) (hk : isT k)   (n : Nat) (x1 : Int) (M : Mem) (h : f_X8_clear_L7 k n x1 M = some (r0, M0)) : WM syC p l e rm_X8_clear s m args below meth c 2 D ad cA (MQ below (q_Post syC D ad cA none M0) args s 0 0 (q_A syC ad)) M 7 [(0, .ref (ad k)), (1, .int (qI x1))] [] :=
  qlm1_r (Wp := fun ux1 M => WM syC p l e rm_X8_clear s m args below meth c 2 D ad cA (MQ below (q_Post syC D ad cA none M0) args s 0 0 (q_A syC ad)) M 7 [(0, .ref (ad k)), (1, .int (qI ux1))] []) (fun ux1 M g7 ih7 h => w_X8_clear_B7 C hr hlk k hk ux1 M g7  ih7 h) n x1 M h
def f_X8_clear (k : Nat) (M : Mem) : Res :=
  q_pf M k 0 0 fun M1 =>
  f_X8_clear_L7 k q_N 0 M1
theorem c_X8_clear {l : Launch} {D : va_G} {ad : Nat → Nat} {cA : Nat → ClassId} (hi : q_inj syC ad) (k : Nat) (hk : isT k) (M : Mem) (r0 : Int) (M0 : Mem) (h : f_X8_clear k M = some (r0, M0)) : q_Met l syC D ad cA yX8_clear cX8_clear 2 none rm_X8_clear [.ref (ad k)] M none M0 := by
  refine q_met (L0 := [(0, .ref (ad k))]) hi okC (by decide) (Nat.le_of_ble_eq_true rfl) rfl ?_
  intro p e s m args below meth c C hr hlk
  unfold f_X8_clear at h
  refine r_aln C dX8_clear_0 (k := 0) rfl ?_
  refine r_ic C dX8_clear_1 ?_
  refine r_pf C (kT hk) clX8 (f := 0) (by decide) rfl q_dI rfl rfl tf_RX8_9 dX8_clear_2 h (fun M1 h => ?_)
  refine r_ic C dX8_clear_5 ?_
  refine r_isn C (L1 := [(1, .int (qI 0)), (0, .ref (ad k))]) dX8_clear_6 (by decide) rfl ?_
  refine r_drop [1, 0] rfl ?_
  exact w_X8_clear_L7 C hr hlk k hk  q_N 0 M1 h
abbrev rm_X7_start : Room := { frames := 3, cells := 0, slots := 0, locals := 65 }
theorem mw_X7_start : q_mw RX7 yX7_start cX7_start 2 none 1 := ⟨⟨ti_X7_start, tl_X7_start, tn_RX7, td_X7_start⟩, by decide +kernel⟩
def f_X7_start (a0 : Int) (M : Mem) : Res :=
  q_pf M 10 2 (q_min a0 ((700 : Nat) : Int)) fun M1 =>
  q_pf M1 10 3 0 fun M2 =>
  q_call (f_X7_advance  M2) fun r3 M4 =>
  some (0, M4)
theorem c_X7_start {l : Launch} {D : va_G} {ad : Nat → Nat} {cA : Nat → ClassId} (hi : q_inj syC ad) (a0 : Int) (M : Mem) (r0 : Int) (M0 : Mem) (h : f_X7_start a0 M = some (r0, M0)) : q_Met l syC D ad cA yX7_start cX7_start 2 none rm_X7_start [.ref (ad 10), .int (qI a0)] M none M0 := by
  refine q_met (L0 := [(0, .ref (ad 10)), (1, .int (qI a0))]) hi okC (by decide) (Nat.le_of_ble_eq_true rfl) rfl ?_
  intro p e s m args below meth c C hr hlk
  unfold f_X7_start at h
  refine r_aln C dX7_start_0 (k := 0) rfl ?_
  refine r_iln C dX7_start_1 (k := 1) rfl ?_
  refine r_aln C dX7_start_2 (k := 0) rfl ?_
  refine r_gs C kc_10 clX7 (f := 1) (by decide) rfl (t := 32) rfl tf_RX7_31 dX7_start_3 ?_
  refine r_alen C kc_32 (by decide) (by decide) (by decide) (t0 := 1) rfl dX7_start_6 ?_
  refine r_q_min C (st := [.ref (ad 10)]) tm_RX7_46 ⟨Nat.le_of_ble_eq_true rfl, Nat.le_of_ble_eq_true rfl⟩ dX7_start_7 ?_
  refine r_pf C kc_10 clX7 (f := 2) (by decide) rfl q_dI rfl rfl tf_RX7_15 dX7_start_10 h (fun M1 h => ?_)
  refine r_aln C dX7_start_13 (k := 0) rfl ?_
  refine r_ic C dX7_start_14 ?_
  refine r_pf C kc_10 clX7 (f := 3) (by decide) rfl q_dI rfl rfl tf_RX7_19 dX7_start_15 h (fun M2 h => ?_)
  refine r_aln C dX7_start_18 (k := 0) rfl ?_
  obtain ⟨r3, M4, hy, h⟩ := q_call_some h
  refine r_cvv C (st := []) (c_X7_advance C.2.2.1 M2 r3 M4 hy) tm_RX7_52 mw_X7_advance ⟨rfl, rfl⟩ ⟨Nat.le_of_ble_eq_true rfl, Nat.le_of_ble_eq_true rfl⟩ kc_10 clX7 rfl rfl (Nat.le_of_ble_eq_true rfl) dX7_start_19 ?_
  exact r_vret C hr hlk dX7_start_22 h
abbrev rm_X4_refuse : Room := { frames := 0, cells := 0, slots := 0, locals := 0 }
theorem mw_X4_refuse : q_mw RX4 yX4_refuse cX4_refuse 2 (some .boolean) 1 := ⟨⟨ti_X4_refuse, tl_X4_refuse, tn_RX4, td_X4_refuse⟩, by decide +kernel⟩
def f_X4_refuse (a0 : Int) (M : Mem) : Res :=
  q_pf M 1 4 a0 fun M1 =>
  q_gf M1 10 5 fun v2 =>
  q_pf M1 1 5 v2 fun M3 =>
  some (0, M3)
theorem c_X4_refuse {l : Launch} {D : va_G} {ad : Nat → Nat} {cA : Nat → ClassId} (hi : q_inj syC ad) (a0 : Int) (M : Mem) (r0 : Int) (M0 : Mem) (h : f_X4_refuse a0 M = some (r0, M0)) : q_Met l syC D ad cA yX4_refuse cX4_refuse 2 (some .boolean) rm_X4_refuse [.ref (ad 1), .int (qI a0)] M (some (.int (qI r0))) M0 := by
  refine q_met (L0 := [(0, .ref (ad 1)), (1, .int (qI a0))]) hi okC (by decide) (Nat.le_of_ble_eq_true rfl) rfl ?_
  intro p e s m args below meth c C hr hlk
  unfold f_X4_refuse at h
  refine r_aln C dX4_refuse_0 (k := 0) rfl ?_
  refine r_iln C dX4_refuse_1 (k := 1) rfl ?_
  refine r_pf C kc_1 clX4 (f := 4) (by decide) rfl q_dI rfl rfl tf_RX4_22 dX4_refuse_2 h (fun M1 h => ?_)
  refine r_aln C dX4_refuse_5 (k := 0) rfl ?_
  refine r_aln C dX4_refuse_6 (k := 0) rfl ?_
  refine r_gs C kc_1 clX4 (f := 0) (by decide) rfl (t := 10) rfl tf_RX4_33 dX4_refuse_7 ?_
  refine r_gf C kc_10 clX7 (f := 5) (by decide) rfl rfl rfl tf_RX4_60 dX4_refuse_10 h (fun v2 h => ?_)
  refine r_pf C kc_1 clX4 (f := 5) (by decide) rfl q_dI rfl rfl tf_RX4_25 dX4_refuse_13 h (fun M3 h => ?_)
  refine r_ic C dX4_refuse_16 ?_
  exact r_zret C (by decide) hr hlk dX4_refuse_17 h
abbrev rm_X4_readNewName : Room := { frames := 3, cells := 0, slots := 0, locals := 65 }
theorem mw_X4_readNewName : q_mw RX4 yX4_readNewName cX4_readNewName 3 (some .boolean) 2 := ⟨⟨ti_X4_readNewName, tl_X4_readNewName, tn_RX4, td_X4_readNewName⟩, by decide +kernel⟩
def f_X4_readNewName_J56 (n0 : Nat) (l0 : Nat) (M : Mem) : Res :=
  q_call (f_X7_advance  M) fun r1 M2 =>
  some (1, M2)
theorem w_X4_readNewName_J56 (C : Cx syC p m c cX4_readNewName 3 s args RX4 D ad cA) (hr : meth.sig.returnType = (some .boolean)) (hlk : meth.locks = false) (n0 : Nat) (l0 : Nat) (hn0 : syC.1 n0 = (2, l0)) (M : Mem)  (h : f_X4_readNewName_J56 n0 l0 M = some (r0, M0)) : WM syC p l e rm_X4_readNewName s m args below meth c 3 D ad cA (MQ below (q_Post syC D ad cA (some (.int (qI r0))) M0) args s 0 0 (q_A syC ad)) M 56 [(0, .ref (ad 1))] [] := by
  unfold f_X4_readNewName_J56 at h
  refine r_aln C dX4_readNewName_56 (k := 0) rfl ?_
  refine r_gs C kc_1 clX4 (f := 0) (by decide) rfl (t := 10) rfl tf_RX4_33 dX4_readNewName_57 ?_
  obtain ⟨r1, M2, hy, h⟩ := q_call_some h
  refine r_cvv C (st := []) (c_X7_advance C.2.2.1 M r1 M2 hy) tm_RX4_80 mw_X7_advance ⟨rfl, rfl⟩ ⟨Nat.le_of_ble_eq_true rfl, Nat.le_of_ble_eq_true rfl⟩ kc_10 clX7 rfl rfl (Nat.le_of_ble_eq_true rfl) dX4_readNewName_60 ?_
  refine r_ic C dX4_readNewName_63 ?_
  exact r_zret C (by decide) hr hlk dX4_readNewName_64 h
def f_X4_readNewName (n0 : Nat) (l0 : Nat) (a1 : Int) (M : Mem) : Res :=
  q_gf M 10 4 fun v1 =>
  if w32 v1 = w32 20 then (q_gf M 10 6 fun v2 =>
  q_calp (f_X9_find n0 l0 a1 v2 M) fun r3 =>
  if w32 r3 = w32 (-1) then (if w32 ((l0 : Nat) : Int) ≤ w32 a1 then (f_X4_readNewName_J56 n0 l0 M)
  else (q_gf M 10 6 fun v4 =>
  q_as M n0 l0 a1 v4 fun M5 =>
  f_X4_readNewName_J56 n0 l0 M5))
  else (q_call (f_X4_refuse 3 M) fun r6 M7 =>
  q_bit r6 (some (r6, M7))))
  else (q_call (f_X4_refuse 1 M) fun r8 M9 =>
  q_bit r8 (some (r8, M9)))
theorem c_X4_readNewName {l : Launch} {D : va_G} {ad : Nat → Nat} {cA : Nat → ClassId} (hi : q_inj syC ad) (n0 : Nat) (l0 : Nat) (hn0 : syC.1 n0 = (2, l0)) (a1 : Int) (M : Mem) (r0 : Int) (M0 : Mem) (h : f_X4_readNewName n0 l0 a1 M = some (r0, M0)) : q_Met l syC D ad cA yX4_readNewName cX4_readNewName 3 (some .boolean) rm_X4_readNewName [.ref (ad 1), .ref (ad n0), .int (qI a1)] M (some (.int (qI r0))) M0 := by
  refine q_met (L0 := [(0, .ref (ad 1)), (1, .ref (ad n0)), (2, .int (qI a1))]) hi okC (by decide) (Nat.le_of_ble_eq_true rfl) rfl ?_
  intro p e s m args below meth c C hr hlk
  unfold f_X4_readNewName at h
  refine r_aln C dX4_readNewName_0 (k := 0) rfl ?_
  refine r_gs C kc_1 clX4 (f := 0) (by decide) rfl (t := 10) rfl tf_RX4_33 dX4_readNewName_1 ?_
  refine r_gf C kc_10 clX7 (f := 4) (by decide) rfl rfl rfl tf_RX4_53 dX4_readNewName_4 h (fun v1 h => ?_)
  refine r_bi C dX4_readNewName_7 (by decide) ?_
  refine r_ceq C (tgt := 18) dX4_readNewName_9 (by decide) h (fun h => ?_) (fun h => ?_)
  · refine r_aln C dX4_readNewName_18 (k := 1) rfl ?_
    refine r_iln C dX4_readNewName_19 (k := 2) rfl ?_
    refine r_aln C dX4_readNewName_20 (k := 0) rfl ?_
    refine r_gs C kc_1 clX4 (f := 0) (by decide) rfl (t := 10) rfl tf_RX4_33 dX4_readNewName_21 ?_
    refine r_gf C kc_10 clX7 (f := 6) (by decide) rfl rfl rfl tf_RX4_125 dX4_readNewName_24 h (fun v2 h => ?_)
    obtain ⟨r3, hy, h⟩ := q_calp_some h
    refine r_cni C (st := []) (host := RX9) (c_X9_find C.2.2.1 n0 l0 hn0 a1 v2 M r3 hy) (by first | exact Or.inl rfl | exact Or.inr rfl) mw_X9_find ⟨rfl, rfl⟩ ⟨Nat.le_of_ble_eq_true rfl, Nat.le_of_ble_eq_true rfl⟩ rfl rfl (Nat.le_of_ble_eq_true rfl) dX4_readNewName_27 ?_
    refine r_ic C dX4_readNewName_30 ?_
    refine r_ceq C (tgt := 40) dX4_readNewName_31 (by decide) h (fun h => ?_) (fun h => ?_)
    · refine r_iln C dX4_readNewName_40 (k := 2) rfl ?_
      refine r_aln C dX4_readNewName_41 (k := 1) rfl ?_
      refine r_alen C hn0 (by decide) (by decide) (by decide) (t0 := 0) rfl dX4_readNewName_42 ?_
      refine r_cge C (tgt := 56) dX4_readNewName_43 (by decide) h (fun h => ?_) (fun h => ?_)
      · refine r_drop [0] rfl ?_
        exact w_X4_readNewName_J56 C hr hlk n0 l0 hn0 M  h
      · refine r_aln C dX4_readNewName_46 (k := 1) rfl ?_
        refine r_iln C dX4_readNewName_47 (k := 2) rfl ?_
        refine r_aln C dX4_readNewName_48 (k := 0) rfl ?_
        refine r_gs C kc_1 clX4 (f := 0) (by decide) rfl (t := 10) rfl tf_RX4_33 dX4_readNewName_49 ?_
        refine r_gf C kc_10 clX7 (f := 6) (by decide) rfl rfl rfl tf_RX4_125 dX4_readNewName_52 h (fun v4 h => ?_)
        refine r_iast C hn0 dX4_readNewName_55 h (fun M5 h => ?_)
        refine r_drop [0] rfl ?_
        exact w_X4_readNewName_J56 C hr hlk n0 l0 hn0 M5  h
    · refine r_aln C dX4_readNewName_34 (k := 0) rfl ?_
      refine r_ic C dX4_readNewName_35 ?_
      obtain ⟨r6, M7, hy, h⟩ := q_call_some h
      refine r_cvi C (st := []) (c_X4_refuse C.2.2.1 3 M r6 M7 hy) tm_RX4_77 mw_X4_refuse ⟨rfl, rfl⟩ ⟨Nat.le_of_ble_eq_true rfl, Nat.le_of_ble_eq_true rfl⟩ kc_1 clX4 rfl rfl (Nat.le_of_ble_eq_true rfl) dX4_readNewName_36 ?_
      exact r_zretb C hr hlk dX4_readNewName_39 h
  · refine r_aln C dX4_readNewName_12 (k := 0) rfl ?_
    refine r_ic C dX4_readNewName_13 ?_
    obtain ⟨r8, M9, hy, h⟩ := q_call_some h
    refine r_cvi C (st := []) (c_X4_refuse C.2.2.1 1 M r8 M9 hy) tm_RX4_77 mw_X4_refuse ⟨rfl, rfl⟩ ⟨Nat.le_of_ble_eq_true rfl, Nat.le_of_ble_eq_true rfl⟩ kc_1 clX4 rfl rfl (Nat.le_of_ble_eq_true rfl) dX4_readNewName_14 ?_
    exact r_zretb C hr hlk dX4_readNewName_17 h
abbrev rm_X4_readNumber : Room := { frames := 3, cells := 0, slots := 0, locals := 65 }
theorem mw_X4_readNumber : q_mw RX4 yX4_readNumber cX4_readNumber 5 (some .boolean) 4 := ⟨⟨ti_X4_readNumber, tl_X4_readNumber, tn_RX4, td_X4_readNumber⟩, by decide +kernel⟩
def f_X4_readNumber_J41 (n0 : Nat) (l0 : Nat) (M : Mem) : Res :=
  q_call (f_X4_refuse 2 M) fun r1 M2 =>
  q_bit r1 (some (r1, M2))
theorem w_X4_readNumber_J41 (C : Cx syC p m c cX4_readNumber 5 s args RX4 D ad cA) (hr : meth.sig.returnType = (some .boolean)) (hlk : meth.locks = false) (n0 : Nat) (l0 : Nat) (hn0 : syC.1 n0 = (2, l0)) (M : Mem)  (h : f_X4_readNumber_J41 n0 l0 M = some (r0, M0)) : WM syC p l e rm_X4_readNumber s m args below meth c 5 D ad cA (MQ below (q_Post syC D ad cA (some (.int (qI r0))) M0) args s 0 0 (q_A syC ad)) M 41 [(0, .ref (ad 1))] [] := by
  unfold f_X4_readNumber_J41 at h
  refine r_aln C dX4_readNumber_41 (k := 0) rfl ?_
  refine r_ic C dX4_readNumber_42 ?_
  obtain ⟨r1, M2, hy, h⟩ := q_call_some h
  refine r_cvi C (st := []) (c_X4_refuse C.2.2.1 2 M r1 M2 hy) tm_RX4_77 mw_X4_refuse ⟨rfl, rfl⟩ ⟨Nat.le_of_ble_eq_true rfl, Nat.le_of_ble_eq_true rfl⟩ kc_1 clX4 rfl rfl (Nat.le_of_ble_eq_true rfl) dX4_readNumber_43 ?_
  exact r_zretb C hr hlk dX4_readNumber_46 h
def f_X4_readNumber_J67 (n0 : Nat) (l0 : Nat) (M : Mem) : Res :=
  q_call (f_X7_advance  M) fun r1 M2 =>
  some (1, M2)
theorem w_X4_readNumber_J67 (C : Cx syC p m c cX4_readNumber 5 s args RX4 D ad cA) (hr : meth.sig.returnType = (some .boolean)) (hlk : meth.locks = false) (n0 : Nat) (l0 : Nat) (hn0 : syC.1 n0 = (2, l0)) (M : Mem)  (h : f_X4_readNumber_J67 n0 l0 M = some (r0, M0)) : WM syC p l e rm_X4_readNumber s m args below meth c 5 D ad cA (MQ below (q_Post syC D ad cA (some (.int (qI r0))) M0) args s 0 0 (q_A syC ad)) M 67 [(0, .ref (ad 1))] [] := by
  unfold f_X4_readNumber_J67 at h
  refine r_aln C dX4_readNumber_67 (k := 0) rfl ?_
  refine r_gs C kc_1 clX4 (f := 0) (by decide) rfl (t := 10) rfl tf_RX4_33 dX4_readNumber_68 ?_
  obtain ⟨r1, M2, hy, h⟩ := q_call_some h
  refine r_cvv C (st := []) (c_X7_advance C.2.2.1 M r1 M2 hy) tm_RX4_80 mw_X7_advance ⟨rfl, rfl⟩ ⟨Nat.le_of_ble_eq_true rfl, Nat.le_of_ble_eq_true rfl⟩ kc_10 clX7 rfl rfl (Nat.le_of_ble_eq_true rfl) dX4_readNumber_71 ?_
  refine r_ic C dX4_readNumber_74 ?_
  exact r_zret C (by decide) hr hlk dX4_readNumber_75 h
def f_X4_readNumber (n0 : Nat) (l0 : Nat) (a1 : Int) (a2 : Int) (a3 : Int) (M : Mem) : Res :=
  q_gf M 10 4 fun v1 =>
  if w32 v1 = w32 21 then (q_gf M 10 6 fun v2 =>
  if w32 v2 < w32 a2 then (f_X4_readNumber_J41 n0 l0 M)
  else (q_gf M 10 6 fun v3 =>
  if w32 v3 ≤ w32 a3 then (if w32 a1 < 0 then (f_X4_readNumber_J67 n0 l0 M)
  else (if w32 ((l0 : Nat) : Int) ≤ w32 a1 then (f_X4_readNumber_J67 n0 l0 M)
  else (q_gf M 10 6 fun v4 =>
  q_as M n0 l0 a1 v4 fun M5 =>
  f_X4_readNumber_J67 n0 l0 M5)))
  else (f_X4_readNumber_J41 n0 l0 M)))
  else (q_call (f_X4_refuse 1 M) fun r6 M7 =>
  q_bit r6 (some (r6, M7)))
theorem c_X4_readNumber {l : Launch} {D : va_G} {ad : Nat → Nat} {cA : Nat → ClassId} (hi : q_inj syC ad) (n0 : Nat) (l0 : Nat) (hn0 : syC.1 n0 = (2, l0)) (a1 : Int) (a2 : Int) (a3 : Int) (M : Mem) (r0 : Int) (M0 : Mem) (h : f_X4_readNumber n0 l0 a1 a2 a3 M = some (r0, M0)) : q_Met l syC D ad cA yX4_readNumber cX4_readNumber 5 (some .boolean) rm_X4_readNumber [.ref (ad 1), .ref (ad n0), .int (qI a1), .int (qI a2), .int (qI a3)] M (some (.int (qI r0))) M0 := by
  refine q_met (L0 := [(0, .ref (ad 1)), (1, .ref (ad n0)), (2, .int (qI a1)), (3, .int (qI a2)), (4, .int (qI a3))]) hi okC (by decide) (Nat.le_of_ble_eq_true rfl) rfl ?_
  intro p e s m args below meth c C hr hlk
  unfold f_X4_readNumber at h
  refine r_aln C dX4_readNumber_0 (k := 0) rfl ?_
  refine r_gs C kc_1 clX4 (f := 0) (by decide) rfl (t := 10) rfl tf_RX4_33 dX4_readNumber_1 ?_
  refine r_gf C kc_10 clX7 (f := 4) (by decide) rfl rfl rfl tf_RX4_53 dX4_readNumber_4 h (fun v1 h => ?_)
  refine r_bi C dX4_readNumber_7 (by decide) ?_
  refine r_ceq C (tgt := 18) dX4_readNumber_9 (by decide) h (fun h => ?_) (fun h => ?_)
  · refine r_aln C dX4_readNumber_18 (k := 0) rfl ?_
    refine r_gs C kc_1 clX4 (f := 0) (by decide) rfl (t := 10) rfl tf_RX4_33 dX4_readNumber_19 ?_
    refine r_gf C kc_10 clX7 (f := 6) (by decide) rfl rfl rfl tf_RX4_125 dX4_readNumber_22 h (fun v2 h => ?_)
    refine r_iln C dX4_readNumber_25 (k := 3) rfl ?_
    refine r_clt C (tgt := 41) dX4_readNumber_26 (by decide) h (fun h => ?_) (fun h => ?_)
    · refine r_drop [0] rfl ?_
      exact w_X4_readNumber_J41 C hr hlk n0 l0 hn0 M  h
    · refine r_aln C dX4_readNumber_29 (k := 0) rfl ?_
      refine r_gs C kc_1 clX4 (f := 0) (by decide) rfl (t := 10) rfl tf_RX4_33 dX4_readNumber_30 ?_
      refine r_gf C kc_10 clX7 (f := 6) (by decide) rfl rfl rfl tf_RX4_125 dX4_readNumber_33 h (fun v3 h => ?_)
      refine r_il C dX4_readNumber_36 (k := 4) rfl ?_
      refine r_cle C (tgt := 47) dX4_readNumber_38 (by decide) h (fun h => ?_) (fun h => ?_)
      · refine r_iln C dX4_readNumber_47 (k := 2) rfl ?_
        refine r_zlt C (tgt := 67) dX4_readNumber_48 (by decide) h (fun h => ?_) (fun h => ?_)
        · refine r_drop [0] rfl ?_
          exact w_X4_readNumber_J67 C hr hlk n0 l0 hn0 M  h
        · refine r_iln C dX4_readNumber_51 (k := 2) rfl ?_
          refine r_aln C dX4_readNumber_52 (k := 1) rfl ?_
          refine r_alen C hn0 (by decide) (by decide) (by decide) (t0 := 0) rfl dX4_readNumber_53 ?_
          refine r_cge C (tgt := 67) dX4_readNumber_54 (by decide) h (fun h => ?_) (fun h => ?_)
          · refine r_drop [0] rfl ?_
            exact w_X4_readNumber_J67 C hr hlk n0 l0 hn0 M  h
          · refine r_aln C dX4_readNumber_57 (k := 1) rfl ?_
            refine r_iln C dX4_readNumber_58 (k := 2) rfl ?_
            refine r_aln C dX4_readNumber_59 (k := 0) rfl ?_
            refine r_gs C kc_1 clX4 (f := 0) (by decide) rfl (t := 10) rfl tf_RX4_33 dX4_readNumber_60 ?_
            refine r_gf C kc_10 clX7 (f := 6) (by decide) rfl rfl rfl tf_RX4_125 dX4_readNumber_63 h (fun v4 h => ?_)
            refine r_iast C hn0 dX4_readNumber_66 h (fun M5 h => ?_)
            refine r_drop [0] rfl ?_
            exact w_X4_readNumber_J67 C hr hlk n0 l0 hn0 M5  h
      · refine r_drop [0] rfl ?_
        exact w_X4_readNumber_J41 C hr hlk n0 l0 hn0 M  h
  · refine r_aln C dX4_readNumber_12 (k := 0) rfl ?_
    refine r_ic C dX4_readNumber_13 ?_
    obtain ⟨r6, M7, hy, h⟩ := q_call_some h
    refine r_cvi C (st := []) (c_X4_refuse C.2.2.1 1 M r6 M7 hy) tm_RX4_77 mw_X4_refuse ⟨rfl, rfl⟩ ⟨Nat.le_of_ble_eq_true rfl, Nat.le_of_ble_eq_true rfl⟩ kc_1 clX4 rfl rfl (Nat.le_of_ble_eq_true rfl) dX4_readNumber_14 ?_
    exact r_zretb C hr hlk dX4_readNumber_17 h
abbrev rm_X4_readSoul : Room := { frames := 4, cells := 0, slots := 0, locals := 89 }
theorem mw_X4_readSoul : q_mw RX4 yX4_readSoul cX4_readSoul 2 (some .boolean) 0 := ⟨⟨ti_X4_readSoul, tl_X4_readSoul, tn_RX4, td_X4_readSoul⟩, by decide +kernel⟩
def f_X4_readSoul  (M : Mem) : Res :=
  q_gr M 1 2 fun t1 =>
  q_gf M t1 0 fun v2 =>
  if w32 v2 < w32 8 then (q_call (f_X7_advance  M) fun r3 M4 =>
  q_gr M4 1 2 fun t5 =>
  q_call (f_X4_readNewName (32 * (t5 + 1) + 1) 8 v2 M4) fun r6 M7 =>
  if w32 r6 = 0 then (some (0, M7))
  else (q_gr M7 1 2 fun t8 =>
  q_call (f_X4_readNumber (32 * (t8 + 1) + 2) 8 v2 0 99 M7) fun r9 M10 =>
  if w32 r9 = 0 then (some (0, M10))
  else (q_gr M10 1 2 fun t11 =>
  q_call (f_X4_readNumber (32 * (t11 + 1) + 3) 8 v2 0 99 M10) fun r12 M13 =>
  if w32 r12 = 0 then (some (0, M13))
  else (q_gr M13 1 2 fun t14 =>
  q_call (f_X4_readNumber (32 * (t14 + 1) + 4) 8 v2 0 99 M13) fun r15 M16 =>
  if ¬ w32 r15 = 0 then (q_gr M16 1 2 fun t17 =>
  q_gf M16 t17 0 fun v18 =>
  q_pf M16 t17 0 (v18 + 1) fun M19 =>
  some (1, M19))
  else (some (0, M16))))))
  else (q_call (f_X4_refuse 2 M) fun r20 M21 =>
  q_bit r20 (some (r20, M21)))
theorem c_X4_readSoul {l : Launch} {D : va_G} {ad : Nat → Nat} {cA : Nat → ClassId} (hi : q_inj syC ad)  (M : Mem) (r0 : Int) (M0 : Mem) (h : f_X4_readSoul  M = some (r0, M0)) : q_Met l syC D ad cA yX4_readSoul cX4_readSoul 2 (some .boolean) rm_X4_readSoul [.ref (ad 1)] M (some (.int (qI r0))) M0 := by
  refine q_met (L0 := [(0, .ref (ad 1))]) hi okC (by decide) (Nat.le_of_ble_eq_true rfl) rfl ?_
  intro p e s m args below meth c C hr hlk
  unfold f_X4_readSoul at h
  refine r_aln C dX4_readSoul_0 (k := 0) rfl ?_
  refine r_gr C kc_1 clX4 (f := 2) (fz := 2) (Pp := isT) (by decide) rfl rfl (fun q => q.2.1) tf_RX4_12 dX4_readSoul_1 h (fun t1 ht1 h => ?_)
  refine r_gf C (kT ht1) clX8 (f := 0) (by decide) rfl rfl rfl tf_RX4_83 dX4_readSoul_4 h (fun v2 h => ?_)
  refine r_isn C (L1 := [(1, .int (qI v2)), (0, .ref (ad 1))]) dX4_readSoul_7 (by decide) rfl ?_
  refine r_iln C dX4_readSoul_8 (k := 0) rfl ?_
  refine r_bi C dX4_readSoul_9 (by decide) ?_
  refine r_clt C (tgt := 20) dX4_readSoul_11 (by decide) h (fun h => ?_) (fun h => ?_)
  · refine r_aln C dX4_readSoul_20 (k := 1) rfl ?_
    refine r_gs C kc_1 clX4 (f := 0) (by decide) rfl (t := 10) rfl tf_RX4_33 dX4_readSoul_21 ?_
    obtain ⟨r3, M4, hy, h⟩ := q_call_some h
    refine r_cvv C (st := []) (c_X7_advance C.2.2.1 M r3 M4 hy) tm_RX4_80 mw_X7_advance ⟨rfl, rfl⟩ ⟨Nat.le_of_ble_eq_true rfl, Nat.le_of_ble_eq_true rfl⟩ kc_10 clX7 rfl rfl (Nat.le_of_ble_eq_true rfl) dX4_readSoul_24 ?_
    refine r_aln C dX4_readSoul_27 (k := 1) rfl ?_
    refine r_aln C dX4_readSoul_28 (k := 1) rfl ?_
    refine r_gr C kc_1 clX4 (f := 2) (fz := 2) (Pp := isT) (by decide) rfl rfl (fun q => q.2.1) tf_RX4_12 dX4_readSoul_29 h (fun t5 ht5 h => ?_)
    refine r_gs C (kT ht5) clX8 (f := 1) (by decide) rfl (t := (32 * (t5 + 1) + 1)) rfl tf_RX4_86 dX4_readSoul_32 ?_
    refine r_iln C dX4_readSoul_35 (k := 0) rfl ?_
    obtain ⟨r6, M7, hy, h⟩ := q_call_some h
    refine r_cvi C (st := []) (c_X4_readNewName C.2.2.1 (32 * (t5 + 1) + 1) 8 (kT_1 ht5) v2 M4 r6 M7 hy) tm_RX4_90 mw_X4_readNewName ⟨rfl, rfl⟩ ⟨Nat.le_of_ble_eq_true rfl, Nat.le_of_ble_eq_true rfl⟩ kc_1 clX4 rfl rfl (Nat.le_of_ble_eq_true rfl) dX4_readSoul_36 ?_
    refine r_zeq C (tgt := 96) dX4_readSoul_39 (by decide) h (fun h => ?_) (fun h => ?_)
    · refine r_ic C dX4_readSoul_96 ?_
      exact r_zret C (by decide) hr hlk dX4_readSoul_97 h
    · refine r_aln C dX4_readSoul_42 (k := 1) rfl ?_
      refine r_aln C dX4_readSoul_43 (k := 1) rfl ?_
      refine r_gr C kc_1 clX4 (f := 2) (fz := 2) (Pp := isT) (by decide) rfl rfl (fun q => q.2.1) tf_RX4_12 dX4_readSoul_44 h (fun t8 ht8 h => ?_)
      refine r_gs C (kT ht8) clX8 (f := 2) (by decide) rfl (t := (32 * (t8 + 1) + 2)) rfl tf_RX4_94 dX4_readSoul_47 ?_
      refine r_iln C dX4_readSoul_50 (k := 0) rfl ?_
      refine r_ic C dX4_readSoul_51 ?_
      refine r_bi C dX4_readSoul_52 (by decide) ?_
      obtain ⟨r9, M10, hy, h⟩ := q_call_some h
      refine r_cvi C (st := []) (c_X4_readNumber C.2.2.1 (32 * (t8 + 1) + 2) 8 (kT_2 ht8) v2 0 99 M7 r9 M10 hy) tm_RX4_97 mw_X4_readNumber ⟨rfl, rfl⟩ ⟨Nat.le_of_ble_eq_true rfl, Nat.le_of_ble_eq_true rfl⟩ kc_1 clX4 rfl rfl (Nat.le_of_ble_eq_true rfl) dX4_readSoul_54 ?_
      refine r_zeq C (tgt := 96) dX4_readSoul_57 (by decide) h (fun h => ?_) (fun h => ?_)
      · refine r_ic C dX4_readSoul_96 ?_
        exact r_zret C (by decide) hr hlk dX4_readSoul_97 h
      · refine r_aln C dX4_readSoul_60 (k := 1) rfl ?_
        refine r_aln C dX4_readSoul_61 (k := 1) rfl ?_
        refine r_gr C kc_1 clX4 (f := 2) (fz := 2) (Pp := isT) (by decide) rfl rfl (fun q => q.2.1) tf_RX4_12 dX4_readSoul_62 h (fun t11 ht11 h => ?_)
        refine r_gs C (kT ht11) clX8 (f := 3) (by decide) rfl (t := (32 * (t11 + 1) + 3)) rfl tf_RX4_101 dX4_readSoul_65 ?_
        refine r_iln C dX4_readSoul_68 (k := 0) rfl ?_
        refine r_ic C dX4_readSoul_69 ?_
        refine r_bi C dX4_readSoul_70 (by decide) ?_
        obtain ⟨r12, M13, hy, h⟩ := q_call_some h
        refine r_cvi C (st := []) (c_X4_readNumber C.2.2.1 (32 * (t11 + 1) + 3) 8 (kT_3 ht11) v2 0 99 M10 r12 M13 hy) tm_RX4_97 mw_X4_readNumber ⟨rfl, rfl⟩ ⟨Nat.le_of_ble_eq_true rfl, Nat.le_of_ble_eq_true rfl⟩ kc_1 clX4 rfl rfl (Nat.le_of_ble_eq_true rfl) dX4_readSoul_72 ?_
        refine r_zeq C (tgt := 96) dX4_readSoul_75 (by decide) h (fun h => ?_) (fun h => ?_)
        · refine r_ic C dX4_readSoul_96 ?_
          exact r_zret C (by decide) hr hlk dX4_readSoul_97 h
        · refine r_aln C dX4_readSoul_78 (k := 1) rfl ?_
          refine r_aln C dX4_readSoul_79 (k := 1) rfl ?_
          refine r_gr C kc_1 clX4 (f := 2) (fz := 2) (Pp := isT) (by decide) rfl rfl (fun q => q.2.1) tf_RX4_12 dX4_readSoul_80 h (fun t14 ht14 h => ?_)
          refine r_gs C (kT ht14) clX8 (f := 4) (by decide) rfl (t := (32 * (t14 + 1) + 4)) rfl tf_RX4_104 dX4_readSoul_83 ?_
          refine r_iln C dX4_readSoul_86 (k := 0) rfl ?_
          refine r_ic C dX4_readSoul_87 ?_
          refine r_bi C dX4_readSoul_88 (by decide) ?_
          obtain ⟨r15, M16, hy, h⟩ := q_call_some h
          refine r_cvi C (st := []) (c_X4_readNumber C.2.2.1 (32 * (t14 + 1) + 4) 8 (kT_4 ht14) v2 0 99 M13 r15 M16 hy) tm_RX4_97 mw_X4_readNumber ⟨rfl, rfl⟩ ⟨Nat.le_of_ble_eq_true rfl, Nat.le_of_ble_eq_true rfl⟩ kc_1 clX4 rfl rfl (Nat.le_of_ble_eq_true rfl) dX4_readSoul_90 ?_
          refine r_zne C (tgt := 98) dX4_readSoul_93 (by decide) h (fun h => ?_) (fun h => ?_)
          · refine r_aln C dX4_readSoul_98 (k := 1) rfl ?_
            refine r_gr C kc_1 clX4 (f := 2) (fz := 2) (Pp := isT) (by decide) rfl rfl (fun q => q.2.1) tf_RX4_12 dX4_readSoul_99 h (fun t17 ht17 h => ?_)
            refine r_dup C rfl dX4_readSoul_102 ?_
            refine r_gf C (kT ht17) clX8 (f := 0) (by decide) rfl rfl rfl tf_RX4_83 dX4_readSoul_103 h (fun v18 h => ?_)
            refine r_ic C dX4_readSoul_106 ?_
            refine r_iadd C dX4_readSoul_107 ?_
            refine r_pf C (kT ht17) clX8 (f := 0) (by decide) rfl q_dI rfl rfl tf_RX4_83 dX4_readSoul_108 h (fun M19 h => ?_)
            refine r_ic C dX4_readSoul_111 ?_
            exact r_zret C (by decide) hr hlk dX4_readSoul_112 h
          · refine r_ic C dX4_readSoul_96 ?_
            exact r_zret C (by decide) hr hlk dX4_readSoul_97 h
  · refine r_aln C dX4_readSoul_14 (k := 1) rfl ?_
    refine r_ic C dX4_readSoul_15 ?_
    obtain ⟨r20, M21, hy, h⟩ := q_call_some h
    refine r_cvi C (st := []) (c_X4_refuse C.2.2.1 2 M r20 M21 hy) tm_RX4_77 mw_X4_refuse ⟨rfl, rfl⟩ ⟨Nat.le_of_ble_eq_true rfl, Nat.le_of_ble_eq_true rfl⟩ kc_1 clX4 rfl rfl (Nat.le_of_ble_eq_true rfl) dX4_readSoul_16 ?_
    exact r_zretb C hr hlk dX4_readSoul_19 h
abbrev rm_X4_readBus : Room := { frames := 4, cells := 0, slots := 0, locals := 89 }
theorem mw_X4_readBus : q_mw RX4 yX4_readBus cX4_readBus 2 (some .boolean) 0 := ⟨⟨ti_X4_readBus, tl_X4_readBus, tn_RX4, td_X4_readBus⟩, by decide +kernel⟩
def f_X4_readBus  (M : Mem) : Res :=
  q_gr M 1 2 fun t1 =>
  q_gf M t1 7 fun v2 =>
  if w32 v2 < w32 4 then (q_call (f_X7_advance  M) fun r3 M4 =>
  q_gr M4 1 2 fun t5 =>
  q_call (f_X4_readNewName (32 * (t5 + 1) + 8) 4 v2 M4) fun r6 M7 =>
  if w32 r6 = 0 then (some (0, M7))
  else (q_gr M7 1 2 fun t8 =>
  q_call (f_X4_readNumber (32 * (t8 + 1) + 9) 4 v2 0 99 M7) fun r9 M10 =>
  if w32 r9 = 0 then (some (0, M10))
  else (q_gr M10 1 2 fun t11 =>
  q_call (f_X4_readNumber (32 * (t11 + 1) + 10) 4 v2 1 30 M10) fun r12 M13 =>
  if w32 r12 = 0 then (some (0, M13))
  else (q_gr M13 1 2 fun t14 =>
  q_call (f_X4_readNumber (32 * (t14 + 1) + 11) 4 v2 1 8 M13) fun r15 M16 =>
  if w32 r15 = 0 then (some (0, M16))
  else (q_gr M16 1 2 fun t17 =>
  q_call (f_X4_readNumber (32 * (t17 + 1) + 12) 4 v2 0 99 M16) fun r18 M19 =>
  if ¬ w32 r18 = 0 then (q_gr M19 1 2 fun t20 =>
  q_gf M19 t20 7 fun v21 =>
  q_pf M19 t20 7 (v21 + 1) fun M22 =>
  some (1, M22))
  else (some (0, M19)))))))
  else (q_call (f_X4_refuse 2 M) fun r23 M24 =>
  q_bit r23 (some (r23, M24)))
theorem c_X4_readBus {l : Launch} {D : va_G} {ad : Nat → Nat} {cA : Nat → ClassId} (hi : q_inj syC ad)  (M : Mem) (r0 : Int) (M0 : Mem) (h : f_X4_readBus  M = some (r0, M0)) : q_Met l syC D ad cA yX4_readBus cX4_readBus 2 (some .boolean) rm_X4_readBus [.ref (ad 1)] M (some (.int (qI r0))) M0 := by
  refine q_met (L0 := [(0, .ref (ad 1))]) hi okC (by decide) (Nat.le_of_ble_eq_true rfl) rfl ?_
  intro p e s m args below meth c C hr hlk
  unfold f_X4_readBus at h
  refine r_aln C dX4_readBus_0 (k := 0) rfl ?_
  refine r_gr C kc_1 clX4 (f := 2) (fz := 2) (Pp := isT) (by decide) rfl rfl (fun q => q.2.1) tf_RX4_12 dX4_readBus_1 h (fun t1 ht1 h => ?_)
  refine r_gf C (kT ht1) clX8 (f := 7) (by decide) rfl rfl rfl tf_RX4_107 dX4_readBus_4 h (fun v2 h => ?_)
  refine r_isn C (L1 := [(1, .int (qI v2)), (0, .ref (ad 1))]) dX4_readBus_7 (by decide) rfl ?_
  refine r_iln C dX4_readBus_8 (k := 0) rfl ?_
  refine r_ic C dX4_readBus_9 ?_
  refine r_clt C (tgt := 19) dX4_readBus_10 (by decide) h (fun h => ?_) (fun h => ?_)
  · refine r_aln C dX4_readBus_19 (k := 1) rfl ?_
    refine r_gs C kc_1 clX4 (f := 0) (by decide) rfl (t := 10) rfl tf_RX4_33 dX4_readBus_20 ?_
    obtain ⟨r3, M4, hy, h⟩ := q_call_some h
    refine r_cvv C (st := []) (c_X7_advance C.2.2.1 M r3 M4 hy) tm_RX4_80 mw_X7_advance ⟨rfl, rfl⟩ ⟨Nat.le_of_ble_eq_true rfl, Nat.le_of_ble_eq_true rfl⟩ kc_10 clX7 rfl rfl (Nat.le_of_ble_eq_true rfl) dX4_readBus_23 ?_
    refine r_aln C dX4_readBus_26 (k := 1) rfl ?_
    refine r_aln C dX4_readBus_27 (k := 1) rfl ?_
    refine r_gr C kc_1 clX4 (f := 2) (fz := 2) (Pp := isT) (by decide) rfl rfl (fun q => q.2.1) tf_RX4_12 dX4_readBus_28 h (fun t5 ht5 h => ?_)
    refine r_gs C (kT ht5) clX8 (f := 8) (by decide) rfl (t := (32 * (t5 + 1) + 8)) rfl tf_RX4_110 dX4_readBus_31 ?_
    refine r_iln C dX4_readBus_34 (k := 0) rfl ?_
    obtain ⟨r6, M7, hy, h⟩ := q_call_some h
    refine r_cvi C (st := []) (c_X4_readNewName C.2.2.1 (32 * (t5 + 1) + 8) 4 (kT_8 ht5) v2 M4 r6 M7 hy) tm_RX4_90 mw_X4_readNewName ⟨rfl, rfl⟩ ⟨Nat.le_of_ble_eq_true rfl, Nat.le_of_ble_eq_true rfl⟩ kc_1 clX4 rfl rfl (Nat.le_of_ble_eq_true rfl) dX4_readBus_35 ?_
    refine r_zeq C (tgt := 113) dX4_readBus_38 (by decide) h (fun h => ?_) (fun h => ?_)
    · refine r_ic C dX4_readBus_113 ?_
      exact r_zret C (by decide) hr hlk dX4_readBus_114 h
    · refine r_aln C dX4_readBus_41 (k := 1) rfl ?_
      refine r_aln C dX4_readBus_42 (k := 1) rfl ?_
      refine r_gr C kc_1 clX4 (f := 2) (fz := 2) (Pp := isT) (by decide) rfl rfl (fun q => q.2.1) tf_RX4_12 dX4_readBus_43 h (fun t8 ht8 h => ?_)
      refine r_gs C (kT ht8) clX8 (f := 9) (by decide) rfl (t := (32 * (t8 + 1) + 9)) rfl tf_RX4_113 dX4_readBus_46 ?_
      refine r_iln C dX4_readBus_49 (k := 0) rfl ?_
      refine r_ic C dX4_readBus_50 ?_
      refine r_bi C dX4_readBus_51 (by decide) ?_
      obtain ⟨r9, M10, hy, h⟩ := q_call_some h
      refine r_cvi C (st := []) (c_X4_readNumber C.2.2.1 (32 * (t8 + 1) + 9) 4 (kT_9 ht8) v2 0 99 M7 r9 M10 hy) tm_RX4_97 mw_X4_readNumber ⟨rfl, rfl⟩ ⟨Nat.le_of_ble_eq_true rfl, Nat.le_of_ble_eq_true rfl⟩ kc_1 clX4 rfl rfl (Nat.le_of_ble_eq_true rfl) dX4_readBus_53 ?_
      refine r_zeq C (tgt := 113) dX4_readBus_56 (by decide) h (fun h => ?_) (fun h => ?_)
      · refine r_ic C dX4_readBus_113 ?_
        exact r_zret C (by decide) hr hlk dX4_readBus_114 h
      · refine r_aln C dX4_readBus_59 (k := 1) rfl ?_
        refine r_aln C dX4_readBus_60 (k := 1) rfl ?_
        refine r_gr C kc_1 clX4 (f := 2) (fz := 2) (Pp := isT) (by decide) rfl rfl (fun q => q.2.1) tf_RX4_12 dX4_readBus_61 h (fun t11 ht11 h => ?_)
        refine r_gs C (kT ht11) clX8 (f := 10) (by decide) rfl (t := (32 * (t11 + 1) + 10)) rfl tf_RX4_116 dX4_readBus_64 ?_
        refine r_iln C dX4_readBus_67 (k := 0) rfl ?_
        refine r_ic C dX4_readBus_68 ?_
        refine r_bi C dX4_readBus_69 (by decide) ?_
        obtain ⟨r12, M13, hy, h⟩ := q_call_some h
        refine r_cvi C (st := []) (c_X4_readNumber C.2.2.1 (32 * (t11 + 1) + 10) 4 (kT_10 ht11) v2 1 30 M10 r12 M13 hy) tm_RX4_97 mw_X4_readNumber ⟨rfl, rfl⟩ ⟨Nat.le_of_ble_eq_true rfl, Nat.le_of_ble_eq_true rfl⟩ kc_1 clX4 rfl rfl (Nat.le_of_ble_eq_true rfl) dX4_readBus_71 ?_
        refine r_zeq C (tgt := 113) dX4_readBus_74 (by decide) h (fun h => ?_) (fun h => ?_)
        · refine r_ic C dX4_readBus_113 ?_
          exact r_zret C (by decide) hr hlk dX4_readBus_114 h
        · refine r_aln C dX4_readBus_77 (k := 1) rfl ?_
          refine r_aln C dX4_readBus_78 (k := 1) rfl ?_
          refine r_gr C kc_1 clX4 (f := 2) (fz := 2) (Pp := isT) (by decide) rfl rfl (fun q => q.2.1) tf_RX4_12 dX4_readBus_79 h (fun t14 ht14 h => ?_)
          refine r_gs C (kT ht14) clX8 (f := 11) (by decide) rfl (t := (32 * (t14 + 1) + 11)) rfl tf_RX4_119 dX4_readBus_82 ?_
          refine r_iln C dX4_readBus_85 (k := 0) rfl ?_
          refine r_ic C dX4_readBus_86 ?_
          refine r_bi C dX4_readBus_87 (by decide) ?_
          obtain ⟨r15, M16, hy, h⟩ := q_call_some h
          refine r_cvi C (st := []) (c_X4_readNumber C.2.2.1 (32 * (t14 + 1) + 11) 4 (kT_11 ht14) v2 1 8 M13 r15 M16 hy) tm_RX4_97 mw_X4_readNumber ⟨rfl, rfl⟩ ⟨Nat.le_of_ble_eq_true rfl, Nat.le_of_ble_eq_true rfl⟩ kc_1 clX4 rfl rfl (Nat.le_of_ble_eq_true rfl) dX4_readBus_89 ?_
          refine r_zeq C (tgt := 113) dX4_readBus_92 (by decide) h (fun h => ?_) (fun h => ?_)
          · refine r_ic C dX4_readBus_113 ?_
            exact r_zret C (by decide) hr hlk dX4_readBus_114 h
          · refine r_aln C dX4_readBus_95 (k := 1) rfl ?_
            refine r_aln C dX4_readBus_96 (k := 1) rfl ?_
            refine r_gr C kc_1 clX4 (f := 2) (fz := 2) (Pp := isT) (by decide) rfl rfl (fun q => q.2.1) tf_RX4_12 dX4_readBus_97 h (fun t17 ht17 h => ?_)
            refine r_gs C (kT ht17) clX8 (f := 12) (by decide) rfl (t := (32 * (t17 + 1) + 12)) rfl tf_RX4_122 dX4_readBus_100 ?_
            refine r_iln C dX4_readBus_103 (k := 0) rfl ?_
            refine r_ic C dX4_readBus_104 ?_
            refine r_bi C dX4_readBus_105 (by decide) ?_
            obtain ⟨r18, M19, hy, h⟩ := q_call_some h
            refine r_cvi C (st := []) (c_X4_readNumber C.2.2.1 (32 * (t17 + 1) + 12) 4 (kT_12 ht17) v2 0 99 M16 r18 M19 hy) tm_RX4_97 mw_X4_readNumber ⟨rfl, rfl⟩ ⟨Nat.le_of_ble_eq_true rfl, Nat.le_of_ble_eq_true rfl⟩ kc_1 clX4 rfl rfl (Nat.le_of_ble_eq_true rfl) dX4_readBus_107 ?_
            refine r_zne C (tgt := 115) dX4_readBus_110 (by decide) h (fun h => ?_) (fun h => ?_)
            · refine r_aln C dX4_readBus_115 (k := 1) rfl ?_
              refine r_gr C kc_1 clX4 (f := 2) (fz := 2) (Pp := isT) (by decide) rfl rfl (fun q => q.2.1) tf_RX4_12 dX4_readBus_116 h (fun t20 ht20 h => ?_)
              refine r_dup C rfl dX4_readBus_119 ?_
              refine r_gf C (kT ht20) clX8 (f := 7) (by decide) rfl rfl rfl tf_RX4_107 dX4_readBus_120 h (fun v21 h => ?_)
              refine r_ic C dX4_readBus_123 ?_
              refine r_iadd C dX4_readBus_124 ?_
              refine r_pf C (kT ht20) clX8 (f := 7) (by decide) rfl q_dI rfl rfl tf_RX4_107 dX4_readBus_125 h (fun M22 h => ?_)
              refine r_ic C dX4_readBus_128 ?_
              exact r_zret C (by decide) hr hlk dX4_readBus_129 h
            · refine r_ic C dX4_readBus_113 ?_
              exact r_zret C (by decide) hr hlk dX4_readBus_114 h
  · refine r_aln C dX4_readBus_13 (k := 1) rfl ?_
    refine r_ic C dX4_readBus_14 ?_
    obtain ⟨r23, M24, hy, h⟩ := q_call_some h
    refine r_cvi C (st := []) (c_X4_refuse C.2.2.1 2 M r23 M24 hy) tm_RX4_77 mw_X4_refuse ⟨rfl, rfl⟩ ⟨Nat.le_of_ble_eq_true rfl, Nat.le_of_ble_eq_true rfl⟩ kc_1 clX4 rfl rfl (Nat.le_of_ble_eq_true rfl) dX4_readBus_15 ?_
    exact r_zretb C hr hlk dX4_readBus_18 h
abbrev rm_X4_readLets : Room := { frames := 3, cells := 0, slots := 0, locals := 65 }
theorem mw_X4_readLets : q_mw RX4 yX4_readLets cX4_readLets 3 (some .boolean) 0 := ⟨⟨ti_X4_readLets, tl_X4_readLets, tn_RX4, td_X4_readLets⟩, by decide +kernel⟩
def f_X4_readLets_J85 (y0 : Int) (M : Mem) : Res :=
  q_call (f_X4_refuse y0 M) fun r1 M2 =>
  q_bit r1 (some (r1, M2))
theorem w_X4_readLets_J85 (C : Cx syC p m c cX4_readLets 3 s args RX4 D ad cA) (hr : meth.sig.returnType = (some .boolean)) (hlk : meth.locks = false) (y0 : Int) (M : Mem)  (h : f_X4_readLets_J85 y0 M = some (r0, M0)) : WM syC p l e rm_X4_readLets s m args below meth c 3 D ad cA (MQ below (q_Post syC D ad cA (some (.int (qI r0))) M0) args s 0 0 (q_A syC ad)) M 85 [] [.int (qI y0), .ref (ad 1)] := by
  unfold f_X4_readLets_J85 at h
  obtain ⟨r1, M2, hy, h⟩ := q_call_some h
  refine r_cvi C (st := []) (c_X4_refuse C.2.2.1 y0 M r1 M2 hy) tm_RX4_77 mw_X4_refuse ⟨rfl, rfl⟩ ⟨Nat.le_of_ble_eq_true rfl, Nat.le_of_ble_eq_true rfl⟩ kc_1 clX4 rfl rfl (Nat.le_of_ble_eq_true rfl) dX4_readLets_85 ?_
  exact r_zretb C hr hlk dX4_readLets_88 h
def f_X4_readLets_J67  (M : Mem) : Res :=
  q_gf M 10 4 fun v1 =>
  if w32 v1 = w32 20 then (f_X4_readLets_J85 4 M)
  else (f_X4_readLets_J85 1 M)
theorem w_X4_readLets_J67 (C : Cx syC p m c cX4_readLets 3 s args RX4 D ad cA) (hr : meth.sig.returnType = (some .boolean)) (hlk : meth.locks = false)  (M : Mem)  (h : f_X4_readLets_J67  M = some (r0, M0)) : WM syC p l e rm_X4_readLets s m args below meth c 3 D ad cA (MQ below (q_Post syC D ad cA (some (.int (qI r0))) M0) args s 0 0 (q_A syC ad)) M 67 [(0, .ref (ad 1))] [] := by
  unfold f_X4_readLets_J67 at h
  refine r_aln C dX4_readLets_67 (k := 0) rfl ?_
  refine r_aln C dX4_readLets_68 (k := 0) rfl ?_
  refine r_gs C kc_1 clX4 (f := 0) (by decide) rfl (t := 10) rfl tf_RX4_33 dX4_readLets_69 ?_
  refine r_gf C kc_10 clX7 (f := 4) (by decide) rfl rfl rfl tf_RX4_53 dX4_readLets_72 h (fun v1 h => ?_)
  refine r_bi C dX4_readLets_75 (by decide) ?_
  refine r_ceq C (tgt := 84) dX4_readLets_77 (by decide) h (fun h => ?_) (fun h => ?_)
  · refine r_ic C dX4_readLets_84 ?_
    refine r_drop [] rfl ?_
    exact w_X4_readLets_J85 C hr hlk 4 M  h
  · refine r_ic C dX4_readLets_80 ?_
    refine r_goto C (tgt := 85) dX4_readLets_81 (by decide) ?_
    refine r_drop [] rfl ?_
    exact w_X4_readLets_J85 C hr hlk 1 M  h
def f_X4_readLets_J156 (y0 : Int) (M : Mem) : Res :=
  q_call (f_X4_refuse y0 M) fun r1 M2 =>
  q_bit r1 (some (r1, M2))
theorem w_X4_readLets_J156 (C : Cx syC p m c cX4_readLets 3 s args RX4 D ad cA) (hr : meth.sig.returnType = (some .boolean)) (hlk : meth.locks = false) (y0 : Int) (M : Mem)  (h : f_X4_readLets_J156 y0 M = some (r0, M0)) : WM syC p l e rm_X4_readLets s m args below meth c 3 D ad cA (MQ below (q_Post syC D ad cA (some (.int (qI r0))) M0) args s 0 0 (q_A syC ad)) M 156 [] [.int (qI y0), .ref (ad 1)] := by
  unfold f_X4_readLets_J156 at h
  obtain ⟨r1, M2, hy, h⟩ := q_call_some h
  refine r_cvi C (st := []) (c_X4_refuse C.2.2.1 y0 M r1 M2 hy) tm_RX4_77 mw_X4_refuse ⟨rfl, rfl⟩ ⟨Nat.le_of_ble_eq_true rfl, Nat.le_of_ble_eq_true rfl⟩ kc_1 clX4 rfl rfl (Nat.le_of_ble_eq_true rfl) dX4_readLets_156 ?_
  exact r_zretb C hr hlk dX4_readLets_159 h
def f_X4_readLets_J138  (M : Mem) : Res :=
  q_gf M 10 4 fun v1 =>
  if w32 v1 = w32 20 then (f_X4_readLets_J156 4 M)
  else (f_X4_readLets_J156 1 M)
theorem w_X4_readLets_J138 (C : Cx syC p m c cX4_readLets 3 s args RX4 D ad cA) (hr : meth.sig.returnType = (some .boolean)) (hlk : meth.locks = false)  (M : Mem)  (h : f_X4_readLets_J138  M = some (r0, M0)) : WM syC p l e rm_X4_readLets s m args below meth c 3 D ad cA (MQ below (q_Post syC D ad cA (some (.int (qI r0))) M0) args s 0 0 (q_A syC ad)) M 138 [(0, .ref (ad 1))] [] := by
  unfold f_X4_readLets_J138 at h
  refine r_aln C dX4_readLets_138 (k := 0) rfl ?_
  refine r_aln C dX4_readLets_139 (k := 0) rfl ?_
  refine r_gs C kc_1 clX4 (f := 0) (by decide) rfl (t := 10) rfl tf_RX4_33 dX4_readLets_140 ?_
  refine r_gf C kc_10 clX7 (f := 4) (by decide) rfl rfl rfl tf_RX4_53 dX4_readLets_143 h (fun v1 h => ?_)
  refine r_bi C dX4_readLets_146 (by decide) ?_
  refine r_ceq C (tgt := 155) dX4_readLets_148 (by decide) h (fun h => ?_) (fun h => ?_)
  · refine r_ic C dX4_readLets_155 ?_
    refine r_drop [] rfl ?_
    exact w_X4_readLets_J156 C hr hlk 4 M  h
  · refine r_ic C dX4_readLets_151 ?_
    refine r_goto C (tgt := 156) dX4_readLets_152 (by decide) ?_
    refine r_drop [] rfl ?_
    exact w_X4_readLets_J156 C hr hlk 1 M  h
def f_X4_readLets  (M : Mem) : Res :=
  q_gr M 1 2 fun t1 =>
  q_gf M t1 6 fun v2 =>
  if w32 v2 < w32 8 then (q_call (f_X7_advance  M) fun r3 M4 =>
  q_gr M4 1 2 fun t5 =>
  q_gr M4 1 2 fun t6 =>
  q_gf M4 t6 0 fun v7 =>
  q_gf M4 10 6 fun v8 =>
  q_calp (f_X9_find (32 * (t5 + 1) + 1) 8 v7 v8 M4) fun r9 =>
  q_gf M4 10 4 fun v10 =>
  if ¬ w32 v10 = w32 20 then (f_X4_readLets_J67  M4)
  else (if ¬ w32 r9 = w32 (-1) then (q_call (f_X7_advance  M4) fun r11 M12 =>
  q_gr M12 1 2 fun t13 =>
  q_gr M12 1 2 fun t14 =>
  q_gf M12 t14 0 fun v15 =>
  q_gf M12 10 6 fun v16 =>
  q_calp (f_X9_find (32 * (t13 + 1) + 1) 8 v15 v16 M12) fun r17 =>
  q_gf M12 10 4 fun v18 =>
  if ¬ w32 v18 = w32 20 then (f_X4_readLets_J138  M12)
  else (if ¬ w32 r17 = w32 (-1) then (q_gr M12 1 2 fun t19 =>
  q_al M12 (32 * (t19 + 1) + 5) 8 r9 fun v20 =>
  if w32 (q_and v20 (q_shl 1 r17)) = 0 then (if ¬ w32 r9 = w32 r17 then (q_gr M12 1 2 fun t21 =>
  q_al M12 (32 * (t21 + 1) + 5) 8 r9 fun v22 =>
  q_as M12 (32 * (t21 + 1) + 5) 8 r9 (q_or v22 (q_shl 1 r17)) fun M23 =>
  q_gr M23 1 2 fun t24 =>
  q_gf M23 t24 6 fun v25 =>
  q_pf M23 t24 6 (v25 + 1) fun M26 =>
  q_call (f_X7_advance  M26) fun r27 M28 =>
  some (1, M28))
  else (q_call (f_X4_refuse 5 M12) fun r29 M30 =>
  q_bit r29 (some (r29, M30))))
  else (q_call (f_X4_refuse 3 M12) fun r31 M32 =>
  q_bit r31 (some (r31, M32))))
  else (f_X4_readLets_J138  M12)))
  else (f_X4_readLets_J67  M4)))
  else (q_call (f_X4_refuse 2 M) fun r33 M34 =>
  q_bit r33 (some (r33, M34)))
theorem c_X4_readLets {l : Launch} {D : va_G} {ad : Nat → Nat} {cA : Nat → ClassId} (hi : q_inj syC ad)  (M : Mem) (r0 : Int) (M0 : Mem) (h : f_X4_readLets  M = some (r0, M0)) : q_Met l syC D ad cA yX4_readLets cX4_readLets 3 (some .boolean) rm_X4_readLets [.ref (ad 1)] M (some (.int (qI r0))) M0 := by
  refine q_met (L0 := [(0, .ref (ad 1))]) hi okC (by decide) (Nat.le_of_ble_eq_true rfl) rfl ?_
  intro p e s m args below meth c C hr hlk
  unfold f_X4_readLets at h
  refine r_aln C dX4_readLets_0 (k := 0) rfl ?_
  refine r_gr C kc_1 clX4 (f := 2) (fz := 2) (Pp := isT) (by decide) rfl rfl (fun q => q.2.1) tf_RX4_12 dX4_readLets_1 h (fun t1 ht1 h => ?_)
  refine r_gf C (kT ht1) clX8 (f := 6) (by decide) rfl rfl rfl tf_RX4_132 dX4_readLets_4 h (fun v2 h => ?_)
  refine r_bi C dX4_readLets_7 (by decide) ?_
  refine r_clt C (tgt := 18) dX4_readLets_9 (by decide) h (fun h => ?_) (fun h => ?_)
  · refine r_aln C dX4_readLets_18 (k := 0) rfl ?_
    refine r_gs C kc_1 clX4 (f := 0) (by decide) rfl (t := 10) rfl tf_RX4_33 dX4_readLets_19 ?_
    obtain ⟨r3, M4, hy, h⟩ := q_call_some h
    refine r_cvv C (st := []) (c_X7_advance C.2.2.1 M r3 M4 hy) tm_RX4_80 mw_X7_advance ⟨rfl, rfl⟩ ⟨Nat.le_of_ble_eq_true rfl, Nat.le_of_ble_eq_true rfl⟩ kc_10 clX7 rfl rfl (Nat.le_of_ble_eq_true rfl) dX4_readLets_22 ?_
    refine r_aln C dX4_readLets_25 (k := 0) rfl ?_
    refine r_gr C kc_1 clX4 (f := 2) (fz := 2) (Pp := isT) (by decide) rfl rfl (fun q => q.2.1) tf_RX4_12 dX4_readLets_26 h (fun t5 ht5 h => ?_)
    refine r_gs C (kT ht5) clX8 (f := 1) (by decide) rfl (t := (32 * (t5 + 1) + 1)) rfl tf_RX4_86 dX4_readLets_29 ?_
    refine r_aln C dX4_readLets_32 (k := 0) rfl ?_
    refine r_gr C kc_1 clX4 (f := 2) (fz := 2) (Pp := isT) (by decide) rfl rfl (fun q => q.2.1) tf_RX4_12 dX4_readLets_33 h (fun t6 ht6 h => ?_)
    refine r_gf C (kT ht6) clX8 (f := 0) (by decide) rfl rfl rfl tf_RX4_83 dX4_readLets_36 h (fun v7 h => ?_)
    refine r_aln C dX4_readLets_39 (k := 0) rfl ?_
    refine r_gs C kc_1 clX4 (f := 0) (by decide) rfl (t := 10) rfl tf_RX4_33 dX4_readLets_40 ?_
    refine r_gf C kc_10 clX7 (f := 6) (by decide) rfl rfl rfl tf_RX4_125 dX4_readLets_43 h (fun v8 h => ?_)
    obtain ⟨r9, hy, h⟩ := q_calp_some h
    refine r_cni C (st := []) (host := RX9) (c_X9_find C.2.2.1 (32 * (t5 + 1) + 1) 8 (kT_1 ht5) v7 v8 M4 r9 hy) (by first | exact Or.inl rfl | exact Or.inr rfl) mw_X9_find ⟨rfl, rfl⟩ ⟨Nat.le_of_ble_eq_true rfl, Nat.le_of_ble_eq_true rfl⟩ rfl rfl (Nat.le_of_ble_eq_true rfl) dX4_readLets_46 ?_
    refine r_isn C (L1 := [(1, .int (qI r9)), (0, .ref (ad 1))]) dX4_readLets_49 (by decide) rfl ?_
    refine r_aln C dX4_readLets_50 (k := 1) rfl ?_
    refine r_gs C kc_1 clX4 (f := 0) (by decide) rfl (t := 10) rfl tf_RX4_33 dX4_readLets_51 ?_
    refine r_gf C kc_10 clX7 (f := 4) (by decide) rfl rfl rfl tf_RX4_53 dX4_readLets_54 h (fun v10 h => ?_)
    refine r_bi C dX4_readLets_57 (by decide) ?_
    refine r_cne C (tgt := 67) dX4_readLets_59 (by decide) h (fun h => ?_) (fun h => ?_)
    · refine r_drop [1] rfl ?_
      exact w_X4_readLets_J67 C hr hlk  M4  h
    · refine r_iln C dX4_readLets_62 (k := 0) rfl ?_
      refine r_ic C dX4_readLets_63 ?_
      refine r_cne C (tgt := 89) dX4_readLets_64 (by decide) h (fun h => ?_) (fun h => ?_)
      · refine r_aln C dX4_readLets_89 (k := 1) rfl ?_
        refine r_gs C kc_1 clX4 (f := 0) (by decide) rfl (t := 10) rfl tf_RX4_33 dX4_readLets_90 ?_
        obtain ⟨r11, M12, hy, h⟩ := q_call_some h
        refine r_cvv C (st := []) (c_X7_advance C.2.2.1 M4 r11 M12 hy) tm_RX4_80 mw_X7_advance ⟨rfl, rfl⟩ ⟨Nat.le_of_ble_eq_true rfl, Nat.le_of_ble_eq_true rfl⟩ kc_10 clX7 rfl rfl (Nat.le_of_ble_eq_true rfl) dX4_readLets_93 ?_
        refine r_aln C dX4_readLets_96 (k := 1) rfl ?_
        refine r_gr C kc_1 clX4 (f := 2) (fz := 2) (Pp := isT) (by decide) rfl rfl (fun q => q.2.1) tf_RX4_12 dX4_readLets_97 h (fun t13 ht13 h => ?_)
        refine r_gs C (kT ht13) clX8 (f := 1) (by decide) rfl (t := (32 * (t13 + 1) + 1)) rfl tf_RX4_86 dX4_readLets_100 ?_
        refine r_aln C dX4_readLets_103 (k := 1) rfl ?_
        refine r_gr C kc_1 clX4 (f := 2) (fz := 2) (Pp := isT) (by decide) rfl rfl (fun q => q.2.1) tf_RX4_12 dX4_readLets_104 h (fun t14 ht14 h => ?_)
        refine r_gf C (kT ht14) clX8 (f := 0) (by decide) rfl rfl rfl tf_RX4_83 dX4_readLets_107 h (fun v15 h => ?_)
        refine r_aln C dX4_readLets_110 (k := 1) rfl ?_
        refine r_gs C kc_1 clX4 (f := 0) (by decide) rfl (t := 10) rfl tf_RX4_33 dX4_readLets_111 ?_
        refine r_gf C kc_10 clX7 (f := 6) (by decide) rfl rfl rfl tf_RX4_125 dX4_readLets_114 h (fun v16 h => ?_)
        obtain ⟨r17, hy, h⟩ := q_calp_some h
        refine r_cni C (st := []) (host := RX9) (c_X9_find C.2.2.1 (32 * (t13 + 1) + 1) 8 (kT_1 ht13) v15 v16 M12 r17 hy) (by first | exact Or.inl rfl | exact Or.inr rfl) mw_X9_find ⟨rfl, rfl⟩ ⟨Nat.le_of_ble_eq_true rfl, Nat.le_of_ble_eq_true rfl⟩ rfl rfl (Nat.le_of_ble_eq_true rfl) dX4_readLets_117 ?_
        refine r_isn C (L1 := [(2, .int (qI r17)), (1, .int (qI r9)), (0, .ref (ad 1))]) dX4_readLets_120 (by decide) rfl ?_
        refine r_aln C dX4_readLets_121 (k := 2) rfl ?_
        refine r_gs C kc_1 clX4 (f := 0) (by decide) rfl (t := 10) rfl tf_RX4_33 dX4_readLets_122 ?_
        refine r_gf C kc_10 clX7 (f := 4) (by decide) rfl rfl rfl tf_RX4_53 dX4_readLets_125 h (fun v18 h => ?_)
        refine r_bi C dX4_readLets_128 (by decide) ?_
        refine r_cne C (tgt := 138) dX4_readLets_130 (by decide) h (fun h => ?_) (fun h => ?_)
        · refine r_drop [2] rfl ?_
          exact w_X4_readLets_J138 C hr hlk  M12  h
        · refine r_iln C dX4_readLets_133 (k := 0) rfl ?_
          refine r_ic C dX4_readLets_134 ?_
          refine r_cne C (tgt := 160) dX4_readLets_135 (by decide) h (fun h => ?_) (fun h => ?_)
          · refine r_aln C dX4_readLets_160 (k := 2) rfl ?_
            refine r_gr C kc_1 clX4 (f := 2) (fz := 2) (Pp := isT) (by decide) rfl rfl (fun q => q.2.1) tf_RX4_12 dX4_readLets_161 h (fun t19 ht19 h => ?_)
            refine r_gs C (kT ht19) clX8 (f := 5) (by decide) rfl (t := (32 * (t19 + 1) + 5)) rfl tf_RX4_135 dX4_readLets_164 ?_
            refine r_iln C dX4_readLets_167 (k := 1) rfl ?_
            refine r_iald C (kT_5 ht19) dX4_readLets_168 h (fun v20 h => ?_)
            refine r_ic C dX4_readLets_169 ?_
            refine r_iln C dX4_readLets_170 (k := 0) rfl ?_
            refine r_ishl C dX4_readLets_171 ?_
            refine r_iand C dX4_readLets_172 ?_
            refine r_zeq C (tgt := 182) dX4_readLets_173 (by decide) h (fun h => ?_) (fun h => ?_)
            · refine r_iln C dX4_readLets_182 (k := 1) rfl ?_
              refine r_iln C dX4_readLets_183 (k := 0) rfl ?_
              refine r_cne C (tgt := 193) dX4_readLets_184 (by decide) h (fun h => ?_) (fun h => ?_)
              · refine r_aln C dX4_readLets_193 (k := 2) rfl ?_
                refine r_gr C kc_1 clX4 (f := 2) (fz := 2) (Pp := isT) (by decide) rfl rfl (fun q => q.2.1) tf_RX4_12 dX4_readLets_194 h (fun t21 ht21 h => ?_)
                refine r_gs C (kT ht21) clX8 (f := 5) (by decide) rfl (t := (32 * (t21 + 1) + 5)) rfl tf_RX4_135 dX4_readLets_197 ?_
                refine r_iln C dX4_readLets_200 (k := 1) rfl ?_
                refine r_dup2 C rfl rfl dX4_readLets_201 ?_
                refine r_iald C (kT_5 ht21) dX4_readLets_202 h (fun v22 h => ?_)
                refine r_ic C dX4_readLets_203 ?_
                refine r_iln C dX4_readLets_204 (k := 0) rfl ?_
                refine r_ishl C dX4_readLets_205 ?_
                refine r_ior C dX4_readLets_206 ?_
                refine r_iast C (kT_5 ht21) dX4_readLets_207 h (fun M23 h => ?_)
                refine r_aln C dX4_readLets_208 (k := 2) rfl ?_
                refine r_gr C kc_1 clX4 (f := 2) (fz := 2) (Pp := isT) (by decide) rfl rfl (fun q => q.2.1) tf_RX4_12 dX4_readLets_209 h (fun t24 ht24 h => ?_)
                refine r_dup C rfl dX4_readLets_212 ?_
                refine r_gf C (kT ht24) clX8 (f := 6) (by decide) rfl rfl rfl tf_RX4_132 dX4_readLets_213 h (fun v25 h => ?_)
                refine r_ic C dX4_readLets_216 ?_
                refine r_iadd C dX4_readLets_217 ?_
                refine r_pf C (kT ht24) clX8 (f := 6) (by decide) rfl q_dI rfl rfl tf_RX4_132 dX4_readLets_218 h (fun M26 h => ?_)
                refine r_aln C dX4_readLets_221 (k := 2) rfl ?_
                refine r_gs C kc_1 clX4 (f := 0) (by decide) rfl (t := 10) rfl tf_RX4_33 dX4_readLets_222 ?_
                obtain ⟨r27, M28, hy, h⟩ := q_call_some h
                refine r_cvv C (st := []) (c_X7_advance C.2.2.1 M26 r27 M28 hy) tm_RX4_80 mw_X7_advance ⟨rfl, rfl⟩ ⟨Nat.le_of_ble_eq_true rfl, Nat.le_of_ble_eq_true rfl⟩ kc_10 clX7 rfl rfl (Nat.le_of_ble_eq_true rfl) dX4_readLets_225 ?_
                refine r_ic C dX4_readLets_228 ?_
                exact r_zret C (by decide) hr hlk dX4_readLets_229 h
              · refine r_aln C dX4_readLets_187 (k := 2) rfl ?_
                refine r_ic C dX4_readLets_188 ?_
                obtain ⟨r29, M30, hy, h⟩ := q_call_some h
                refine r_cvi C (st := []) (c_X4_refuse C.2.2.1 5 M12 r29 M30 hy) tm_RX4_77 mw_X4_refuse ⟨rfl, rfl⟩ ⟨Nat.le_of_ble_eq_true rfl, Nat.le_of_ble_eq_true rfl⟩ kc_1 clX4 rfl rfl (Nat.le_of_ble_eq_true rfl) dX4_readLets_189 ?_
                exact r_zretb C hr hlk dX4_readLets_192 h
            · refine r_aln C dX4_readLets_176 (k := 2) rfl ?_
              refine r_ic C dX4_readLets_177 ?_
              obtain ⟨r31, M32, hy, h⟩ := q_call_some h
              refine r_cvi C (st := []) (c_X4_refuse C.2.2.1 3 M12 r31 M32 hy) tm_RX4_77 mw_X4_refuse ⟨rfl, rfl⟩ ⟨Nat.le_of_ble_eq_true rfl, Nat.le_of_ble_eq_true rfl⟩ kc_1 clX4 rfl rfl (Nat.le_of_ble_eq_true rfl) dX4_readLets_178 ?_
              exact r_zretb C hr hlk dX4_readLets_181 h
          · refine r_drop [2] rfl ?_
            exact w_X4_readLets_J138 C hr hlk  M12  h
      · refine r_drop [1] rfl ?_
        exact w_X4_readLets_J67 C hr hlk  M4  h
  · refine r_aln C dX4_readLets_12 (k := 0) rfl ?_
    refine r_ic C dX4_readLets_13 ?_
    obtain ⟨r33, M34, hy, h⟩ := q_call_some h
    refine r_cvi C (st := []) (c_X4_refuse C.2.2.1 2 M r33 M34 hy) tm_RX4_77 mw_X4_refuse ⟨rfl, rfl⟩ ⟨Nat.le_of_ble_eq_true rfl, Nat.le_of_ble_eq_true rfl⟩ kc_1 clX4 rfl rfl (Nat.le_of_ble_eq_true rfl) dX4_readLets_14 ?_
    exact r_zretb C hr hlk dX4_readLets_17 h
abbrev rm_X4_readOnce : Room := { frames := 3, cells := 0, slots := 0, locals := 65 }
theorem mw_X4_readOnce : q_mw RX4 yX4_readOnce cX4_readOnce 3 (some .boolean) 1 := ⟨⟨ti_X4_readOnce, tl_X4_readOnce, tn_RX4, td_X4_readOnce⟩, by decide +kernel⟩
def f_X4_readOnce_J168  (M : Mem) : Res :=
  q_call (f_X7_advance  M) fun r1 M2 =>
  some (1, M2)
theorem w_X4_readOnce_J168 (C : Cx syC p m c cX4_readOnce 3 s args RX4 D ad cA) (hr : meth.sig.returnType = (some .boolean)) (hlk : meth.locks = false)  (M : Mem)  (h : f_X4_readOnce_J168  M = some (r0, M0)) : WM syC p l e rm_X4_readOnce s m args below meth c 3 D ad cA (MQ below (q_Post syC D ad cA (some (.int (qI r0))) M0) args s 0 0 (q_A syC ad)) M 168 [(0, .ref (ad 1))] [] := by
  unfold f_X4_readOnce_J168 at h
  refine r_aln C dX4_readOnce_168 (k := 0) rfl ?_
  refine r_gs C kc_1 clX4 (f := 0) (by decide) rfl (t := 10) rfl tf_RX4_33 dX4_readOnce_169 ?_
  obtain ⟨r1, M2, hy, h⟩ := q_call_some h
  refine r_cvv C (st := []) (c_X7_advance C.2.2.1 M r1 M2 hy) tm_RX4_80 mw_X7_advance ⟨rfl, rfl⟩ ⟨Nat.le_of_ble_eq_true rfl, Nat.le_of_ble_eq_true rfl⟩ kc_10 clX7 rfl rfl (Nat.le_of_ble_eq_true rfl) dX4_readOnce_172 ?_
  refine r_ic C dX4_readOnce_175 ?_
  exact r_zret C (by decide) hr hlk dX4_readOnce_176 h
def f_X4_readOnce_J76 (x1 : Int) (y0 : Int) (M : Mem) : Res :=
  q_gf M 10 6 fun v1 =>
  if w32 v1 ≤ w32 y0 then (if w32 x1 = 3 then (q_gr M 1 2 fun t2 =>
  q_gf M 10 6 fun v3 =>
  q_pf M t2 13 v3 fun M4 =>
  f_X4_readOnce_J168  M4)
  else if w32 x1 = 4 then (q_gr M 1 2 fun t5 =>
  q_gf M 10 6 fun v6 =>
  q_pf M t5 14 v6 fun M7 =>
  f_X4_readOnce_J168  M7)
  else (q_gr M 1 2 fun t8 =>
  q_gf M 10 6 fun v9 =>
  q_pf M t8 15 v9 fun M10 =>
  f_X4_readOnce_J168  M10))
  else (q_call (f_X4_refuse 2 M) fun r11 M12 =>
  q_bit r11 (some (r11, M12)))
theorem w_X4_readOnce_J76 (C : Cx syC p m c cX4_readOnce 3 s args RX4 D ad cA) (hr : meth.sig.returnType = (some .boolean)) (hlk : meth.locks = false) (x1 : Int) (y0 : Int) (M : Mem)  (h : f_X4_readOnce_J76 x1 y0 M = some (r0, M0)) : WM syC p l e rm_X4_readOnce s m args below meth c 3 D ad cA (MQ below (q_Post syC D ad cA (some (.int (qI r0))) M0) args s 0 0 (q_A syC ad)) M 76 [(0, .ref (ad 1)), (1, .int (qI x1))] [.int (qI y0)] := by
  unfold f_X4_readOnce_J76 at h
  refine r_isn C (L1 := [(2, .int (qI y0)), (0, .ref (ad 1)), (1, .int (qI x1))]) dX4_readOnce_76 (by decide) rfl ?_
  refine r_aln C dX4_readOnce_77 (k := 1) rfl ?_
  refine r_gs C kc_1 clX4 (f := 0) (by decide) rfl (t := 10) rfl tf_RX4_33 dX4_readOnce_78 ?_
  refine r_gf C kc_10 clX7 (f := 6) (by decide) rfl rfl rfl tf_RX4_125 dX4_readOnce_81 h (fun v1 h => ?_)
  refine r_iln C dX4_readOnce_84 (k := 0) rfl ?_
  refine r_cle C (tgt := 94) dX4_readOnce_85 (by decide) h (fun h => ?_) (fun h => ?_)
  · refine r_iln C dX4_readOnce_94 (k := 2) rfl ?_
    refine r_tc C h (fun e h => ?_) (fun ne3 h => ?_)
    · refine r_lk C (tgt := 120) dX4_readOnce_95 (by decide) e rfl (by decide) ?_
      refine r_aln C dX4_readOnce_120 (k := 1) rfl ?_
      refine r_gr C kc_1 clX4 (f := 2) (fz := 2) (Pp := isT) (by decide) rfl rfl (fun q => q.2.1) tf_RX4_12 dX4_readOnce_121 h (fun t2 ht2 h => ?_)
      refine r_aln C dX4_readOnce_124 (k := 1) rfl ?_
      refine r_gs C kc_1 clX4 (f := 0) (by decide) rfl (t := 10) rfl tf_RX4_33 dX4_readOnce_125 ?_
      refine r_gf C kc_10 clX7 (f := 6) (by decide) rfl rfl rfl tf_RX4_125 dX4_readOnce_128 h (fun v3 h => ?_)
      refine r_pf C (kT ht2) clX8 (f := 13) (by decide) rfl q_dI rfl rfl tf_RX4_139 dX4_readOnce_131 h (fun M4 h => ?_)
      refine r_goto C (tgt := 168) dX4_readOnce_134 (by decide) ?_
      refine r_drop [1] rfl ?_
      exact w_X4_readOnce_J168 C hr hlk  M4  h
    refine r_tc C h (fun e h => ?_) (fun ne4 h => ?_)
    · refine r_lk C (tgt := 137) dX4_readOnce_95 (by decide) e rfl (by decide) ?_
      refine r_aln C dX4_readOnce_137 (k := 1) rfl ?_
      refine r_gr C kc_1 clX4 (f := 2) (fz := 2) (Pp := isT) (by decide) rfl rfl (fun q => q.2.1) tf_RX4_12 dX4_readOnce_138 h (fun t5 ht5 h => ?_)
      refine r_aln C dX4_readOnce_141 (k := 1) rfl ?_
      refine r_gs C kc_1 clX4 (f := 0) (by decide) rfl (t := 10) rfl tf_RX4_33 dX4_readOnce_142 ?_
      refine r_gf C kc_10 clX7 (f := 6) (by decide) rfl rfl rfl tf_RX4_125 dX4_readOnce_145 h (fun v6 h => ?_)
      refine r_pf C (kT ht5) clX8 (f := 14) (by decide) rfl q_dI rfl rfl tf_RX4_142 dX4_readOnce_148 h (fun M7 h => ?_)
      refine r_goto C (tgt := 168) dX4_readOnce_151 (by decide) ?_
      refine r_drop [1] rfl ?_
      exact w_X4_readOnce_J168 C hr hlk  M7  h
    refine r_lk C (tgt := 154) (k := w32 x1) dX4_readOnce_95 (by decide) rfl (off := 59) (by simp only [Op.lookupswitch.offset]; rw [if_neg (fun q => ne3 q.symm)]; rw [if_neg (fun q => ne4 q.symm)]) (by decide) ?_
    refine r_aln C dX4_readOnce_154 (k := 1) rfl ?_
    refine r_gr C kc_1 clX4 (f := 2) (fz := 2) (Pp := isT) (by decide) rfl rfl (fun q => q.2.1) tf_RX4_12 dX4_readOnce_155 h (fun t8 ht8 h => ?_)
    refine r_aln C dX4_readOnce_158 (k := 1) rfl ?_
    refine r_gs C kc_1 clX4 (f := 0) (by decide) rfl (t := 10) rfl tf_RX4_33 dX4_readOnce_159 ?_
    refine r_gf C kc_10 clX7 (f := 6) (by decide) rfl rfl rfl tf_RX4_125 dX4_readOnce_162 h (fun v9 h => ?_)
    refine r_pf C (kT ht8) clX8 (f := 15) (by decide) rfl q_dI rfl rfl tf_RX4_145 dX4_readOnce_165 h (fun M10 h => ?_)
    refine r_drop [1] rfl ?_
    exact w_X4_readOnce_J168 C hr hlk  M10  h
  · refine r_aln C dX4_readOnce_88 (k := 1) rfl ?_
    refine r_ic C dX4_readOnce_89 ?_
    obtain ⟨r11, M12, hy, h⟩ := q_call_some h
    refine r_cvi C (st := []) (c_X4_refuse C.2.2.1 2 M r11 M12 hy) tm_RX4_77 mw_X4_refuse ⟨rfl, rfl⟩ ⟨Nat.le_of_ble_eq_true rfl, Nat.le_of_ble_eq_true rfl⟩ kc_1 clX4 rfl rfl (Nat.le_of_ble_eq_true rfl) dX4_readOnce_90 ?_
    exact r_zretb C hr hlk dX4_readOnce_93 h
def f_X4_readOnce (a0 : Int) (M : Mem) : Res :=
  q_gf M 1 3 fun v1 =>
  if w32 (q_and v1 (q_shl 1 a0)) = 0 then (q_gf M 1 3 fun v2 =>
  q_pf M 1 3 (q_or v2 (q_shl 1 a0)) fun M3 =>
  q_call (f_X7_advance  M3) fun r4 M5 =>
  q_gf M5 10 4 fun v6 =>
  if w32 v6 = w32 21 then (if ¬ w32 a0 = w32 3 then (if ¬ w32 a0 = w32 4 then (f_X4_readOnce_J76 a0 99999 M5)
  else (f_X4_readOnce_J76 a0 100 M5))
  else (f_X4_readOnce_J76 a0 8 M5))
  else (q_call (f_X4_refuse 1 M5) fun r7 M8 =>
  q_bit r7 (some (r7, M8))))
  else (q_call (f_X4_refuse 3 M) fun r9 M10 =>
  q_bit r9 (some (r9, M10)))
theorem c_X4_readOnce {l : Launch} {D : va_G} {ad : Nat → Nat} {cA : Nat → ClassId} (hi : q_inj syC ad) (a0 : Int) (M : Mem) (r0 : Int) (M0 : Mem) (h : f_X4_readOnce a0 M = some (r0, M0)) : q_Met l syC D ad cA yX4_readOnce cX4_readOnce 3 (some .boolean) rm_X4_readOnce [.ref (ad 1), .int (qI a0)] M (some (.int (qI r0))) M0 := by
  refine q_met (L0 := [(0, .ref (ad 1)), (1, .int (qI a0))]) hi okC (by decide) (Nat.le_of_ble_eq_true rfl) rfl ?_
  intro p e s m args below meth c C hr hlk
  unfold f_X4_readOnce at h
  refine r_aln C dX4_readOnce_0 (k := 0) rfl ?_
  refine r_gf C kc_1 clX4 (f := 3) (by decide) rfl rfl rfl tf_RX4_18 dX4_readOnce_1 h (fun v1 h => ?_)
  refine r_ic C dX4_readOnce_4 ?_
  refine r_iln C dX4_readOnce_5 (k := 1) rfl ?_
  refine r_ishl C dX4_readOnce_6 ?_
  refine r_iand C dX4_readOnce_7 ?_
  refine r_zeq C (tgt := 17) dX4_readOnce_8 (by decide) h (fun h => ?_) (fun h => ?_)
  · refine r_aln C dX4_readOnce_17 (k := 0) rfl ?_
    refine r_dup C rfl dX4_readOnce_18 ?_
    refine r_gf C kc_1 clX4 (f := 3) (by decide) rfl rfl rfl tf_RX4_18 dX4_readOnce_19 h (fun v2 h => ?_)
    refine r_ic C dX4_readOnce_22 ?_
    refine r_iln C dX4_readOnce_23 (k := 1) rfl ?_
    refine r_ishl C dX4_readOnce_24 ?_
    refine r_ior C dX4_readOnce_25 ?_
    refine r_pf C kc_1 clX4 (f := 3) (by decide) rfl q_dI rfl rfl tf_RX4_18 dX4_readOnce_26 h (fun M3 h => ?_)
    refine r_aln C dX4_readOnce_29 (k := 0) rfl ?_
    refine r_gs C kc_1 clX4 (f := 0) (by decide) rfl (t := 10) rfl tf_RX4_33 dX4_readOnce_30 ?_
    obtain ⟨r4, M5, hy, h⟩ := q_call_some h
    refine r_cvv C (st := []) (c_X7_advance C.2.2.1 M3 r4 M5 hy) tm_RX4_80 mw_X7_advance ⟨rfl, rfl⟩ ⟨Nat.le_of_ble_eq_true rfl, Nat.le_of_ble_eq_true rfl⟩ kc_10 clX7 rfl rfl (Nat.le_of_ble_eq_true rfl) dX4_readOnce_33 ?_
    refine r_aln C dX4_readOnce_36 (k := 0) rfl ?_
    refine r_gs C kc_1 clX4 (f := 0) (by decide) rfl (t := 10) rfl tf_RX4_33 dX4_readOnce_37 ?_
    refine r_gf C kc_10 clX7 (f := 4) (by decide) rfl rfl rfl tf_RX4_53 dX4_readOnce_40 h (fun v6 h => ?_)
    refine r_bi C dX4_readOnce_43 (by decide) ?_
    refine r_ceq C (tgt := 54) dX4_readOnce_45 (by decide) h (fun h => ?_) (fun h => ?_)
    · refine r_iln C dX4_readOnce_54 (k := 1) rfl ?_
      refine r_ic C dX4_readOnce_55 ?_
      refine r_cne C (tgt := 64) dX4_readOnce_56 (by decide) h (fun h => ?_) (fun h => ?_)
      · refine r_iln C dX4_readOnce_64 (k := 1) rfl ?_
        refine r_ic C dX4_readOnce_65 ?_
        refine r_cne C (tgt := 74) dX4_readOnce_66 (by decide) h (fun h => ?_) (fun h => ?_)
        · refine r_ldc C (x := 99999) tc_RX4_138 (by decide) dX4_readOnce_74 ?_
          exact w_X4_readOnce_J76 C hr hlk a0 99999 M5  h
        · refine r_bi C dX4_readOnce_69 (by decide) ?_
          refine r_goto C (tgt := 76) dX4_readOnce_71 (by decide) ?_
          exact w_X4_readOnce_J76 C hr hlk a0 100 M5  h
      · refine r_bi C dX4_readOnce_59 (by decide) ?_
        refine r_goto C (tgt := 76) dX4_readOnce_61 (by decide) ?_
        exact w_X4_readOnce_J76 C hr hlk a0 8 M5  h
    · refine r_aln C dX4_readOnce_48 (k := 0) rfl ?_
      refine r_ic C dX4_readOnce_49 ?_
      obtain ⟨r7, M8, hy, h⟩ := q_call_some h
      refine r_cvi C (st := []) (c_X4_refuse C.2.2.1 1 M5 r7 M8 hy) tm_RX4_77 mw_X4_refuse ⟨rfl, rfl⟩ ⟨Nat.le_of_ble_eq_true rfl, Nat.le_of_ble_eq_true rfl⟩ kc_1 clX4 rfl rfl (Nat.le_of_ble_eq_true rfl) dX4_readOnce_50 ?_
      exact r_zretb C hr hlk dX4_readOnce_53 h
  · refine r_aln C dX4_readOnce_11 (k := 0) rfl ?_
    refine r_ic C dX4_readOnce_12 ?_
    obtain ⟨r9, M10, hy, h⟩ := q_call_some h
    refine r_cvi C (st := []) (c_X4_refuse C.2.2.1 3 M r9 M10 hy) tm_RX4_77 mw_X4_refuse ⟨rfl, rfl⟩ ⟨Nat.le_of_ble_eq_true rfl, Nat.le_of_ble_eq_true rfl⟩ kc_1 clX4 rfl rfl (Nat.le_of_ble_eq_true rfl) dX4_readOnce_13 ?_
    exact r_zretb C hr hlk dX4_readOnce_16 h
abbrev rm_X4_readLaw : Room := { frames := 4, cells := 0, slots := 0, locals := 91 }
theorem mw_X4_readLaw : q_mw RX4 yX4_readLaw cX4_readLaw 3 (some .boolean) 0 := ⟨⟨ti_X4_readLaw, tl_X4_readLaw, tn_RX4, td_X4_readLaw⟩, by decide +kernel⟩
def f_X4_readLaw_J31  (M : Mem) : Res :=
  q_call (f_X4_refuse 1 M) fun r1 M2 =>
  q_bit r1 (some (r1, M2))
theorem w_X4_readLaw_J31 (C : Cx syC p m c cX4_readLaw 3 s args RX4 D ad cA) (hr : meth.sig.returnType = (some .boolean)) (hlk : meth.locks = false)  (M : Mem)  (h : f_X4_readLaw_J31  M = some (r0, M0)) : WM syC p l e rm_X4_readLaw s m args below meth c 3 D ad cA (MQ below (q_Post syC D ad cA (some (.int (qI r0))) M0) args s 0 0 (q_A syC ad)) M 31 [(0, .ref (ad 1))] [] := by
  unfold f_X4_readLaw_J31 at h
  refine r_aln C dX4_readLaw_31 (k := 0) rfl ?_
  refine r_ic C dX4_readLaw_32 ?_
  obtain ⟨r1, M2, hy, h⟩ := q_call_some h
  refine r_cvi C (st := []) (c_X4_refuse C.2.2.1 1 M r1 M2 hy) tm_RX4_77 mw_X4_refuse ⟨rfl, rfl⟩ ⟨Nat.le_of_ble_eq_true rfl, Nat.le_of_ble_eq_true rfl⟩ kc_1 clX4 rfl rfl (Nat.le_of_ble_eq_true rfl) dX4_readLaw_33 ?_
  exact r_zretb C hr hlk dX4_readLaw_36 h
def f_X4_readLaw  (M : Mem) : Res :=
  q_call (f_X7_advance  M) fun r1 M2 =>
  q_gf M2 10 4 fun v3 =>
  if w32 v3 < w32 7 then (f_X4_readLaw_J31  M2)
  else (q_gf M2 10 4 fun v4 =>
  if w32 v4 ≤ w32 9 then (q_gf M2 10 4 fun v5 =>
  q_gr M2 1 2 fun t6 =>
  q_calp (f_X2_isTold (t6 + 10) (v5 - 7) M2) fun r7 =>
  if w32 r7 = 0 then (q_call (f_X7_advance  M2) fun r8 M9 =>
  q_gr M9 1 2 fun t10 =>
  q_call (f_X2_start (t10 + 10) (v5 - 7) M9) fun r11 M12 =>
  q_gr M12 1 2 fun t13 =>
  q_call (f_X1_read (t13 + 10) M12) fun r14 M15 =>
  q_gr M15 1 2 fun t16 =>
  q_call (f_X2_end (t16 + 10) (v5 - 7) M15) fun r17 M18 =>
  if w32 r14 = 0 then (some (1, M18))
  else (q_call (f_X4_refuse r14 M18) fun r19 M20 =>
  if w32 r19 = 0 then (some (0, M20))
  else (some (1, M20))))
  else (q_call (f_X4_refuse 3 M2) fun r21 M22 =>
  q_bit r21 (some (r21, M22))))
  else (f_X4_readLaw_J31  M2))
theorem c_X4_readLaw {l : Launch} {D : va_G} {ad : Nat → Nat} {cA : Nat → ClassId} (hi : q_inj syC ad)  (M : Mem) (r0 : Int) (M0 : Mem) (h : f_X4_readLaw  M = some (r0, M0)) : q_Met l syC D ad cA yX4_readLaw cX4_readLaw 3 (some .boolean) rm_X4_readLaw [.ref (ad 1)] M (some (.int (qI r0))) M0 := by
  refine q_met (L0 := [(0, .ref (ad 1))]) hi okC (by decide) (Nat.le_of_ble_eq_true rfl) rfl ?_
  intro p e s m args below meth c C hr hlk
  unfold f_X4_readLaw at h
  refine r_aln C dX4_readLaw_0 (k := 0) rfl ?_
  refine r_gs C kc_1 clX4 (f := 0) (by decide) rfl (t := 10) rfl tf_RX4_33 dX4_readLaw_1 ?_
  obtain ⟨r1, M2, hy, h⟩ := q_call_some h
  refine r_cvv C (st := []) (c_X7_advance C.2.2.1 M r1 M2 hy) tm_RX4_80 mw_X7_advance ⟨rfl, rfl⟩ ⟨Nat.le_of_ble_eq_true rfl, Nat.le_of_ble_eq_true rfl⟩ kc_10 clX7 rfl rfl (Nat.le_of_ble_eq_true rfl) dX4_readLaw_4 ?_
  refine r_aln C dX4_readLaw_7 (k := 0) rfl ?_
  refine r_gs C kc_1 clX4 (f := 0) (by decide) rfl (t := 10) rfl tf_RX4_33 dX4_readLaw_8 ?_
  refine r_gf C kc_10 clX7 (f := 4) (by decide) rfl rfl rfl tf_RX4_53 dX4_readLaw_11 h (fun v3 h => ?_)
  refine r_bi C dX4_readLaw_14 (by decide) ?_
  refine r_clt C (tgt := 31) dX4_readLaw_16 (by decide) h (fun h => ?_) (fun h => ?_)
  · exact w_X4_readLaw_J31 C hr hlk  M2  h
  · refine r_aln C dX4_readLaw_19 (k := 0) rfl ?_
    refine r_gs C kc_1 clX4 (f := 0) (by decide) rfl (t := 10) rfl tf_RX4_33 dX4_readLaw_20 ?_
    refine r_gf C kc_10 clX7 (f := 4) (by decide) rfl rfl rfl tf_RX4_53 dX4_readLaw_23 h (fun v4 h => ?_)
    refine r_bi C dX4_readLaw_26 (by decide) ?_
    refine r_cle C (tgt := 37) dX4_readLaw_28 (by decide) h (fun h => ?_) (fun h => ?_)
    · refine r_aln C dX4_readLaw_37 (k := 0) rfl ?_
      refine r_gs C kc_1 clX4 (f := 0) (by decide) rfl (t := 10) rfl tf_RX4_33 dX4_readLaw_38 ?_
      refine r_gf C kc_10 clX7 (f := 4) (by decide) rfl rfl rfl tf_RX4_53 dX4_readLaw_41 h (fun v5 h => ?_)
      refine r_bi C dX4_readLaw_44 (by decide) ?_
      refine r_isub C dX4_readLaw_46 ?_
      refine r_isn C (L1 := [(1, .int (qI (v5 - 7))), (0, .ref (ad 1))]) dX4_readLaw_47 (by decide) rfl ?_
      refine r_aln C dX4_readLaw_48 (k := 1) rfl ?_
      refine r_gr C kc_1 clX4 (f := 2) (fz := 2) (Pp := isT) (by decide) rfl rfl (fun q => q.2.1) tf_RX4_12 dX4_readLaw_49 h (fun t6 ht6 h => ?_)
      refine r_gs C (kT ht6) clX8 (f := 16) (by decide) rfl (t := (t6 + 10)) rfl tf_RX4_148 dX4_readLaw_52 ?_
      refine r_iln C dX4_readLaw_55 (k := 0) rfl ?_
      obtain ⟨r7, hy, h⟩ := q_calp_some h
      refine r_cvi C (st := []) (c_X2_isTold C.2.2.1 (t6 + 10) (kTL ht6) (v5 - 7) M2 r7 hy) tm_RX4_151 mw_X2_isTold ⟨rfl, rfl⟩ ⟨Nat.le_of_ble_eq_true rfl, Nat.le_of_ble_eq_true rfl⟩ (kL (kTL ht6)) clX2 rfl rfl (Nat.le_of_ble_eq_true rfl) dX4_readLaw_56 ?_
      refine r_zeq C (tgt := 68) dX4_readLaw_59 (by decide) h (fun h => ?_) (fun h => ?_)
      · refine r_aln C dX4_readLaw_68 (k := 1) rfl ?_
        refine r_gs C kc_1 clX4 (f := 0) (by decide) rfl (t := 10) rfl tf_RX4_33 dX4_readLaw_69 ?_
        obtain ⟨r8, M9, hy, h⟩ := q_call_some h
        refine r_cvv C (st := []) (c_X7_advance C.2.2.1 M2 r8 M9 hy) tm_RX4_80 mw_X7_advance ⟨rfl, rfl⟩ ⟨Nat.le_of_ble_eq_true rfl, Nat.le_of_ble_eq_true rfl⟩ kc_10 clX7 rfl rfl (Nat.le_of_ble_eq_true rfl) dX4_readLaw_72 ?_
        refine r_aln C dX4_readLaw_75 (k := 1) rfl ?_
        refine r_gr C kc_1 clX4 (f := 2) (fz := 2) (Pp := isT) (by decide) rfl rfl (fun q => q.2.1) tf_RX4_12 dX4_readLaw_76 h (fun t10 ht10 h => ?_)
        refine r_gs C (kT ht10) clX8 (f := 16) (by decide) rfl (t := (t10 + 10)) rfl tf_RX4_148 dX4_readLaw_79 ?_
        refine r_iln C dX4_readLaw_82 (k := 0) rfl ?_
        obtain ⟨r11, M12, hy, h⟩ := q_call_some h
        refine r_cvv C (st := []) (c_X2_start C.2.2.1 (t10 + 10) (kTL ht10) (v5 - 7) M9 r11 M12 hy) tm_RX4_156 mw_X2_start ⟨rfl, rfl⟩ ⟨Nat.le_of_ble_eq_true rfl, Nat.le_of_ble_eq_true rfl⟩ (kL (kTL ht10)) clX2 rfl rfl (Nat.le_of_ble_eq_true rfl) dX4_readLaw_83 ?_
        refine r_aln C dX4_readLaw_86 (k := 1) rfl ?_
        refine r_gs C kc_1 clX4 (f := 1) (by decide) rfl (t := 11) rfl tf_RX4_42 dX4_readLaw_87 ?_
        refine r_aln C dX4_readLaw_90 (k := 1) rfl ?_
        refine r_gr C kc_1 clX4 (f := 2) (fz := 2) (Pp := isT) (by decide) rfl rfl (fun q => q.2.1) tf_RX4_12 dX4_readLaw_91 h (fun t13 ht13 h => ?_)
        refine r_gs C (kT ht13) clX8 (f := 16) (by decide) rfl (t := (t13 + 10)) rfl tf_RX4_148 dX4_readLaw_94 ?_
        obtain ⟨r14, M15, hy, h⟩ := q_call_some h
        refine r_cvi C (st := []) (c_X1_read C.2.2.1 (t13 + 10) (kTL ht13) M12 r14 M15 hy) tm_RX4_157 mw_X1_read ⟨rfl, rfl⟩ ⟨Nat.le_of_ble_eq_true rfl, Nat.le_of_ble_eq_true rfl⟩ kc_11 clX1 rfl rfl (Nat.le_of_ble_eq_true rfl) dX4_readLaw_97 ?_
        refine r_isn C (L1 := [(2, .int (qI r14)), (1, .int (qI (v5 - 7))), (0, .ref (ad 1))]) dX4_readLaw_100 (by decide) rfl ?_
        refine r_aln C dX4_readLaw_101 (k := 2) rfl ?_
        refine r_gr C kc_1 clX4 (f := 2) (fz := 2) (Pp := isT) (by decide) rfl rfl (fun q => q.2.1) tf_RX4_12 dX4_readLaw_102 h (fun t16 ht16 h => ?_)
        refine r_gs C (kT ht16) clX8 (f := 16) (by decide) rfl (t := (t16 + 10)) rfl tf_RX4_148 dX4_readLaw_105 ?_
        refine r_iln C dX4_readLaw_108 (k := 1) rfl ?_
        obtain ⟨r17, M18, hy, h⟩ := q_call_some h
        refine r_cvv C (st := []) (c_X2_end C.2.2.1 (t16 + 10) (kTL ht16) (v5 - 7) M15 r17 M18 hy) tm_RX4_161 mw_X2_end ⟨rfl, rfl⟩ ⟨Nat.le_of_ble_eq_true rfl, Nat.le_of_ble_eq_true rfl⟩ (kL (kTL ht16)) clX2 rfl rfl (Nat.le_of_ble_eq_true rfl) dX4_readLaw_109 ?_
        refine r_iln C dX4_readLaw_112 (k := 0) rfl ?_
        refine r_zeq C (tgt := 124) dX4_readLaw_113 (by decide) h (fun h => ?_) (fun h => ?_)
        · refine r_ic C dX4_readLaw_124 ?_
          refine r_goto C (tgt := 129) dX4_readLaw_125 (by decide) ?_
          exact r_zret C (by decide) hr hlk dX4_readLaw_129 h
        · refine r_aln C dX4_readLaw_116 (k := 2) rfl ?_
          refine r_iln C dX4_readLaw_117 (k := 0) rfl ?_
          obtain ⟨r19, M20, hy, h⟩ := q_call_some h
          refine r_cvi C (st := []) (c_X4_refuse C.2.2.1 r14 M18 r19 M20 hy) tm_RX4_77 mw_X4_refuse ⟨rfl, rfl⟩ ⟨Nat.le_of_ble_eq_true rfl, Nat.le_of_ble_eq_true rfl⟩ kc_1 clX4 rfl rfl (Nat.le_of_ble_eq_true rfl) dX4_readLaw_118 ?_
          refine r_zeq C (tgt := 128) dX4_readLaw_121 (by decide) h (fun h => ?_) (fun h => ?_)
          · refine r_ic C dX4_readLaw_128 ?_
            exact r_zret C (by decide) hr hlk dX4_readLaw_129 h
          · refine r_ic C dX4_readLaw_124 ?_
            refine r_goto C (tgt := 129) dX4_readLaw_125 (by decide) ?_
            exact r_zret C (by decide) hr hlk dX4_readLaw_129 h
      · refine r_aln C dX4_readLaw_62 (k := 1) rfl ?_
        refine r_ic C dX4_readLaw_63 ?_
        obtain ⟨r21, M22, hy, h⟩ := q_call_some h
        refine r_cvi C (st := []) (c_X4_refuse C.2.2.1 3 M2 r21 M22 hy) tm_RX4_77 mw_X4_refuse ⟨rfl, rfl⟩ ⟨Nat.le_of_ble_eq_true rfl, Nat.le_of_ble_eq_true rfl⟩ kc_1 clX4 rfl rfl (Nat.le_of_ble_eq_true rfl) dX4_readLaw_64 ?_
        exact r_zretb C hr hlk dX4_readLaw_67 h
    · exact w_X4_readLaw_J31 C hr hlk  M2  h
abbrev rm_X4_readLine : Room := { frames := 5, cells := 0, slots := 0, locals := 113 }
theorem mw_X4_readLine : q_mw RX4 yX4_readLine cX4_readLine 2 (some .boolean) 0 := ⟨⟨ti_X4_readLine, tl_X4_readLine, tn_RX4, td_X4_readLine⟩, by decide +kernel⟩
def f_X4_readLine_J101 (x1 : Int) (M : Mem) : Res :=
  if ¬ w32 x1 = 0 then (q_gf M 10 4 fun v1 =>
  if w32 v1 = w32 22 then (q_call (f_X7_advance  M) fun r2 M3 =>
  some (1, M3))
  else (q_call (f_X4_refuse 1 M) fun r4 M5 =>
  q_bit r4 (some (r4, M5))))
  else (some (0, M))
theorem w_X4_readLine_J101 (C : Cx syC p m c cX4_readLine 2 s args RX4 D ad cA) (hr : meth.sig.returnType = (some .boolean)) (hlk : meth.locks = false) (x1 : Int) (M : Mem)  (h : f_X4_readLine_J101 x1 M = some (r0, M0)) : WM syC p l e rm_X4_readLine s m args below meth c 2 D ad cA (MQ below (q_Post syC D ad cA (some (.int (qI r0))) M0) args s 0 0 (q_A syC ad)) M 101 [(0, .ref (ad 1)), (1, .int (qI x1))] [] := by
  unfold f_X4_readLine_J101 at h
  refine r_iln C dX4_readLine_101 (k := 1) rfl ?_
  refine r_zne C (tgt := 107) dX4_readLine_102 (by decide) h (fun h => ?_) (fun h => ?_)
  · refine r_aln C dX4_readLine_107 (k := 0) rfl ?_
    refine r_gs C kc_1 clX4 (f := 0) (by decide) rfl (t := 10) rfl tf_RX4_33 dX4_readLine_108 ?_
    refine r_gf C kc_10 clX7 (f := 4) (by decide) rfl rfl rfl tf_RX4_53 dX4_readLine_111 h (fun v1 h => ?_)
    refine r_bi C dX4_readLine_114 (by decide) ?_
    refine r_ceq C (tgt := 125) dX4_readLine_116 (by decide) h (fun h => ?_) (fun h => ?_)
    · refine r_aln C dX4_readLine_125 (k := 0) rfl ?_
      refine r_gs C kc_1 clX4 (f := 0) (by decide) rfl (t := 10) rfl tf_RX4_33 dX4_readLine_126 ?_
      obtain ⟨r2, M3, hy, h⟩ := q_call_some h
      refine r_cvv C (st := []) (c_X7_advance C.2.2.1 M r2 M3 hy) tm_RX4_80 mw_X7_advance ⟨rfl, rfl⟩ ⟨Nat.le_of_ble_eq_true rfl, Nat.le_of_ble_eq_true rfl⟩ kc_10 clX7 rfl rfl (Nat.le_of_ble_eq_true rfl) dX4_readLine_129 ?_
      refine r_ic C dX4_readLine_132 ?_
      exact r_zret C (by decide) hr hlk dX4_readLine_133 h
    · refine r_aln C dX4_readLine_119 (k := 0) rfl ?_
      refine r_ic C dX4_readLine_120 ?_
      obtain ⟨r4, M5, hy, h⟩ := q_call_some h
      refine r_cvi C (st := []) (c_X4_refuse C.2.2.1 1 M r4 M5 hy) tm_RX4_77 mw_X4_refuse ⟨rfl, rfl⟩ ⟨Nat.le_of_ble_eq_true rfl, Nat.le_of_ble_eq_true rfl⟩ kc_1 clX4 rfl rfl (Nat.le_of_ble_eq_true rfl) dX4_readLine_121 ?_
      exact r_zretb C hr hlk dX4_readLine_124 h
  · refine r_ic C dX4_readLine_105 ?_
    exact r_zret C (by decide) hr hlk dX4_readLine_106 h
def f_X4_readLine  (M : Mem) : Res :=
  q_gf M 10 4 fun v1 =>
  if w32 v1 = 0 then (q_call (f_X4_readSoul  M) fun r2 M3 =>
  f_X4_readLine_J101 r2 M3)
  else if w32 v1 = 1 then (q_call (f_X4_readBus  M) fun r4 M5 =>
  f_X4_readLine_J101 r4 M5)
  else if w32 v1 = 2 then (q_call (f_X4_readLets  M) fun r6 M7 =>
  f_X4_readLine_J101 r6 M7)
  else if w32 v1 = 3 then (q_gf M 10 4 fun v8 =>
  q_call (f_X4_readOnce v8 M) fun r9 M10 =>
  f_X4_readLine_J101 r9 M10)
  else if w32 v1 = 4 then (q_gf M 10 4 fun v11 =>
  q_call (f_X4_readOnce v11 M) fun r12 M13 =>
  f_X4_readLine_J101 r12 M13)
  else if w32 v1 = 5 then (q_gf M 10 4 fun v14 =>
  q_call (f_X4_readOnce v14 M) fun r15 M16 =>
  f_X4_readLine_J101 r15 M16)
  else if w32 v1 = 6 then (q_call (f_X4_readLaw  M) fun r17 M18 =>
  f_X4_readLine_J101 r17 M18)
  else (q_call (f_X4_refuse 1 M) fun r19 M20 =>
  q_bit r19 (some (r19, M20)))
theorem c_X4_readLine {l : Launch} {D : va_G} {ad : Nat → Nat} {cA : Nat → ClassId} (hi : q_inj syC ad)  (M : Mem) (r0 : Int) (M0 : Mem) (h : f_X4_readLine  M = some (r0, M0)) : q_Met l syC D ad cA yX4_readLine cX4_readLine 2 (some .boolean) rm_X4_readLine [.ref (ad 1)] M (some (.int (qI r0))) M0 := by
  refine q_met (L0 := [(0, .ref (ad 1))]) hi okC (by decide) (Nat.le_of_ble_eq_true rfl) rfl ?_
  intro p e s m args below meth c C hr hlk
  unfold f_X4_readLine at h
  refine r_aln C dX4_readLine_0 (k := 0) rfl ?_
  refine r_gs C kc_1 clX4 (f := 0) (by decide) rfl (t := 10) rfl tf_RX4_33 dX4_readLine_1 ?_
  refine r_gf C kc_10 clX7 (f := 4) (by decide) rfl rfl rfl tf_RX4_53 dX4_readLine_4 h (fun v1 h => ?_)
  refine r_tc C h (fun e h => ?_) (fun ne0 h => ?_)
  · refine r_tin C (tgt := 48) dX4_readLine_7 e (by decide) rfl (by decide) ?_
    refine r_aln C dX4_readLine_48 (k := 0) rfl ?_
    obtain ⟨r2, M3, hy, h⟩ := q_call_some h
    refine r_cvi C (st := []) (c_X4_readSoul C.2.2.1 M r2 M3 hy) tm_RX4_61 mw_X4_readSoul ⟨rfl, rfl⟩ ⟨Nat.le_of_ble_eq_true rfl, Nat.le_of_ble_eq_true rfl⟩ kc_1 clX4 rfl rfl (Nat.le_of_ble_eq_true rfl) dX4_readLine_49 ?_
    refine r_isn C (L1 := [(1, .int (qI r2)), (0, .ref (ad 1))]) dX4_readLine_52 (by decide) rfl ?_
    refine r_goto C (tgt := 101) dX4_readLine_53 (by decide) ?_
    refine r_drop [1, 0] rfl ?_
    exact w_X4_readLine_J101 C hr hlk r2 M3  h
  refine r_tc C h (fun e h => ?_) (fun ne1 h => ?_)
  · refine r_tin C (tgt := 56) dX4_readLine_7 e (by decide) rfl (by decide) ?_
    refine r_aln C dX4_readLine_56 (k := 0) rfl ?_
    obtain ⟨r4, M5, hy, h⟩ := q_call_some h
    refine r_cvi C (st := []) (c_X4_readBus C.2.2.1 M r4 M5 hy) tm_RX4_64 mw_X4_readBus ⟨rfl, rfl⟩ ⟨Nat.le_of_ble_eq_true rfl, Nat.le_of_ble_eq_true rfl⟩ kc_1 clX4 rfl rfl (Nat.le_of_ble_eq_true rfl) dX4_readLine_57 ?_
    refine r_isn C (L1 := [(1, .int (qI r4)), (0, .ref (ad 1))]) dX4_readLine_60 (by decide) rfl ?_
    refine r_goto C (tgt := 101) dX4_readLine_61 (by decide) ?_
    refine r_drop [1, 0] rfl ?_
    exact w_X4_readLine_J101 C hr hlk r4 M5  h
  refine r_tc C h (fun e h => ?_) (fun ne2 h => ?_)
  · refine r_tin C (tgt := 64) dX4_readLine_7 e (by decide) rfl (by decide) ?_
    refine r_aln C dX4_readLine_64 (k := 0) rfl ?_
    obtain ⟨r6, M7, hy, h⟩ := q_call_some h
    refine r_cvi C (st := []) (c_X4_readLets C.2.2.1 M r6 M7 hy) tm_RX4_67 mw_X4_readLets ⟨rfl, rfl⟩ ⟨Nat.le_of_ble_eq_true rfl, Nat.le_of_ble_eq_true rfl⟩ kc_1 clX4 rfl rfl (Nat.le_of_ble_eq_true rfl) dX4_readLine_65 ?_
    refine r_isn C (L1 := [(1, .int (qI r6)), (0, .ref (ad 1))]) dX4_readLine_68 (by decide) rfl ?_
    refine r_goto C (tgt := 101) dX4_readLine_69 (by decide) ?_
    refine r_drop [1, 0] rfl ?_
    exact w_X4_readLine_J101 C hr hlk r6 M7  h
  refine r_tc C h (fun e h => ?_) (fun ne3 h => ?_)
  · refine r_tin C (tgt := 72) dX4_readLine_7 e (by decide) rfl (by decide) ?_
    refine r_aln C dX4_readLine_72 (k := 0) rfl ?_
    refine r_aln C dX4_readLine_73 (k := 0) rfl ?_
    refine r_gs C kc_1 clX4 (f := 0) (by decide) rfl (t := 10) rfl tf_RX4_33 dX4_readLine_74 ?_
    refine r_gf C kc_10 clX7 (f := 4) (by decide) rfl rfl rfl tf_RX4_53 dX4_readLine_77 h (fun v8 h => ?_)
    obtain ⟨r9, M10, hy, h⟩ := q_call_some h
    refine r_cvi C (st := []) (c_X4_readOnce C.2.2.1 v8 M r9 M10 hy) tm_RX4_70 mw_X4_readOnce ⟨rfl, rfl⟩ ⟨Nat.le_of_ble_eq_true rfl, Nat.le_of_ble_eq_true rfl⟩ kc_1 clX4 rfl rfl (Nat.le_of_ble_eq_true rfl) dX4_readLine_80 ?_
    refine r_isn C (L1 := [(1, .int (qI r9)), (0, .ref (ad 1))]) dX4_readLine_83 (by decide) rfl ?_
    refine r_goto C (tgt := 101) dX4_readLine_84 (by decide) ?_
    refine r_drop [1, 0] rfl ?_
    exact w_X4_readLine_J101 C hr hlk r9 M10  h
  refine r_tc C h (fun e h => ?_) (fun ne4 h => ?_)
  · refine r_tin C (tgt := 72) dX4_readLine_7 e (by decide) rfl (by decide) ?_
    refine r_aln C dX4_readLine_72 (k := 0) rfl ?_
    refine r_aln C dX4_readLine_73 (k := 0) rfl ?_
    refine r_gs C kc_1 clX4 (f := 0) (by decide) rfl (t := 10) rfl tf_RX4_33 dX4_readLine_74 ?_
    refine r_gf C kc_10 clX7 (f := 4) (by decide) rfl rfl rfl tf_RX4_53 dX4_readLine_77 h (fun v11 h => ?_)
    obtain ⟨r12, M13, hy, h⟩ := q_call_some h
    refine r_cvi C (st := []) (c_X4_readOnce C.2.2.1 v11 M r12 M13 hy) tm_RX4_70 mw_X4_readOnce ⟨rfl, rfl⟩ ⟨Nat.le_of_ble_eq_true rfl, Nat.le_of_ble_eq_true rfl⟩ kc_1 clX4 rfl rfl (Nat.le_of_ble_eq_true rfl) dX4_readLine_80 ?_
    refine r_isn C (L1 := [(1, .int (qI r12)), (0, .ref (ad 1))]) dX4_readLine_83 (by decide) rfl ?_
    refine r_goto C (tgt := 101) dX4_readLine_84 (by decide) ?_
    refine r_drop [1, 0] rfl ?_
    exact w_X4_readLine_J101 C hr hlk r12 M13  h
  refine r_tc C h (fun e h => ?_) (fun ne5 h => ?_)
  · refine r_tin C (tgt := 72) dX4_readLine_7 e (by decide) rfl (by decide) ?_
    refine r_aln C dX4_readLine_72 (k := 0) rfl ?_
    refine r_aln C dX4_readLine_73 (k := 0) rfl ?_
    refine r_gs C kc_1 clX4 (f := 0) (by decide) rfl (t := 10) rfl tf_RX4_33 dX4_readLine_74 ?_
    refine r_gf C kc_10 clX7 (f := 4) (by decide) rfl rfl rfl tf_RX4_53 dX4_readLine_77 h (fun v14 h => ?_)
    obtain ⟨r15, M16, hy, h⟩ := q_call_some h
    refine r_cvi C (st := []) (c_X4_readOnce C.2.2.1 v14 M r15 M16 hy) tm_RX4_70 mw_X4_readOnce ⟨rfl, rfl⟩ ⟨Nat.le_of_ble_eq_true rfl, Nat.le_of_ble_eq_true rfl⟩ kc_1 clX4 rfl rfl (Nat.le_of_ble_eq_true rfl) dX4_readLine_80 ?_
    refine r_isn C (L1 := [(1, .int (qI r15)), (0, .ref (ad 1))]) dX4_readLine_83 (by decide) rfl ?_
    refine r_goto C (tgt := 101) dX4_readLine_84 (by decide) ?_
    refine r_drop [1, 0] rfl ?_
    exact w_X4_readLine_J101 C hr hlk r15 M16  h
  refine r_tc C h (fun e h => ?_) (fun ne6 h => ?_)
  · refine r_tin C (tgt := 87) dX4_readLine_7 e (by decide) rfl (by decide) ?_
    refine r_aln C dX4_readLine_87 (k := 0) rfl ?_
    obtain ⟨r17, M18, hy, h⟩ := q_call_some h
    refine r_cvi C (st := []) (c_X4_readLaw C.2.2.1 M r17 M18 hy) tm_RX4_74 mw_X4_readLaw ⟨rfl, rfl⟩ ⟨Nat.le_of_ble_eq_true rfl, Nat.le_of_ble_eq_true rfl⟩ kc_1 clX4 rfl rfl (Nat.le_of_ble_eq_true rfl) dX4_readLine_88 ?_
    refine r_isn C (L1 := [(1, .int (qI r17)), (0, .ref (ad 1))]) dX4_readLine_91 (by decide) rfl ?_
    refine r_goto C (tgt := 101) dX4_readLine_92 (by decide) ?_
    refine r_drop [1, 0] rfl ?_
    exact w_X4_readLine_J101 C hr hlk r17 M18  h
  refine r_tout C (tgt := 95) dX4_readLine_7 (by omega) (by decide) ?_
  refine r_aln C dX4_readLine_95 (k := 0) rfl ?_
  refine r_ic C dX4_readLine_96 ?_
  obtain ⟨r19, M20, hy, h⟩ := q_call_some h
  refine r_cvi C (st := []) (c_X4_refuse C.2.2.1 1 M r19 M20 hy) tm_RX4_77 mw_X4_refuse ⟨rfl, rfl⟩ ⟨Nat.le_of_ble_eq_true rfl, Nat.le_of_ble_eq_true rfl⟩ kc_1 clX4 rfl rfl (Nat.le_of_ble_eq_true rfl) dX4_readLine_97 ?_
  exact r_zretb C hr hlk dX4_readLine_100 h
abbrev rm_X4_read : Room := { frames := 6, cells := 0, slots := 0, locals := 134 }
theorem mw_X4_read : q_mw RX4 yX4_read cX4_read 3 (some .int) 1 := ⟨⟨ti_X4_read, tl_X4_read, tn_RX4, td_X4_read⟩, by decide +kernel⟩
def f_X4_read_B32  (x2 : Int) (M : Mem) (g32 : Int → Mem → Res) : Res :=
  q_gf M 10 4 fun v1 =>
  if w32 v1 = w32 35 then (some (x2, M))
  else (if w32 700 ≤ w32 x2 then (some (x2, M))
  else (q_call (f_X4_readLine  M) fun r2 M3 =>
  if ¬ w32 r2 = 0 then (g32 (x2 + 1) M3)
  else (some ((-1), M3))))
def f_X4_read_L32  (n : Nat) (x2 : Int) (M : Mem) : Res := qlm1 (fun x2 M g32 => f_X4_read_B32  x2 M g32) n x2 M
theorem w_X4_read_B32 (C : Cx syC p m c cX4_read 3 s args RX4 D ad cA) (hr : meth.sig.returnType = (some .int)) (hlk : meth.locks = false)  (x2 : Int) (M : Mem) (g32 : Int → Mem → Res)  (ih32 : ∀ (ux2 : Int) (M : Mem), g32 ux2 M = some (r0, M0) → WM syC p l e rm_X4_read s m args below meth c 3 D ad cA (MQ below (q_Post syC D ad cA (some (.int (qI r0))) M0) args s 0 0 (q_A syC ad)) M 32 [(0, .ref (ad 1)), (2, .int (qI ux2))] []) (h : f_X4_read_B32  x2 M g32 = some (r0, M0)) : WM syC p l e rm_X4_read s m args below meth c 3 D ad cA (MQ below (q_Post syC D ad cA (some (.int (qI r0))) M0) args s 0 0 (q_A syC ad)) M 32 [(0, .ref (ad 1)), (2, .int (qI x2))] [] := by
  unfold f_X4_read_B32 at h
  refine r_aln C dX4_read_32 (k := 0) rfl ?_
  refine r_gs C kc_1 clX4 (f := 0) (by decide) rfl (t := 10) rfl tf_RX4_33 dX4_read_33 ?_
  refine r_gf C kc_10 clX7 (f := 4) (by decide) rfl rfl rfl tf_RX4_53 dX4_read_36 h (fun v1 h => ?_)
  refine r_bi C dX4_read_39 (by decide) ?_
  refine r_ceq C (tgt := 66) dX4_read_41 (by decide) h (fun h => ?_) (fun h => ?_)
  · refine r_iln C dX4_read_66 (k := 1) rfl ?_
    exact r_iret C hr hlk dX4_read_67 h
  · refine r_iln C dX4_read_44 (k := 1) rfl ?_
    refine r_si C dX4_read_45 (by decide) ?_
    refine r_cge C (tgt := 66) dX4_read_48 (by decide) h (fun h => ?_) (fun h => ?_)
    · refine r_iln C dX4_read_66 (k := 1) rfl ?_
      exact r_iret C hr hlk dX4_read_67 h
    · refine r_aln C dX4_read_51 (k := 0) rfl ?_
      obtain ⟨r2, M3, hy, h⟩ := q_call_some h
      refine r_cvi C (st := []) (c_X4_readLine C.2.2.1 M r2 M3 hy) tm_RX4_56 mw_X4_readLine ⟨rfl, rfl⟩ ⟨Nat.le_of_ble_eq_true rfl, Nat.le_of_ble_eq_true rfl⟩ kc_1 clX4 rfl rfl (Nat.le_of_ble_eq_true rfl) dX4_read_52 ?_
      refine r_zne C (tgt := 60) dX4_read_55 (by decide) h (fun h => ?_) (fun h => ?_)
      · refine r_inc C (L1 := [(2, .int (qI (x2 + 1))), (0, .ref (ad 1))]) dX4_read_60 (k := 1) rfl (by decide) rfl ?_
        refine r_goto C (tgt := 32) dX4_read_63 (by decide) ?_
        refine r_drop [1, 0] rfl ?_
        exact ih32 (x2 + 1) M3 h
      · refine r_ic C dX4_read_58 ?_
        exact r_iret C hr hlk dX4_read_59 h
theorem w_X4_read_L32 (C : Cx syC p m c cX4_read 3 s args RX4 D ad cA) (hr : meth.sig.returnType = (some .int)) (hlk : meth.locks = false)    (n : Nat) (x2 : Int) (M : Mem) (h : f_X4_read_L32  n x2 M = some (r0, M0)) : WM syC p l e rm_X4_read s m args below meth c 3 D ad cA (MQ below (q_Post syC D ad cA (some (.int (qI r0))) M0) args s 0 0 (q_A syC ad)) M 32 [(0, .ref (ad 1)), (2, .int (qI x2))] [] :=
  qlm1_r (Wp := fun ux2 M => WM syC p l e rm_X4_read s m args below meth c 3 D ad cA (MQ below (q_Post syC D ad cA (some (.int (qI r0))) M0) args s 0 0 (q_A syC ad)) M 32 [(0, .ref (ad 1)), (2, .int (qI ux2))] []) (fun ux2 M g32 ih32 h => w_X4_read_B32 C hr hlk  ux2 M g32  ih32 h) n x2 M h
def f_X4_read (a0 : Int) (M : Mem) : Res :=
  q_gr M 1 2 fun t1 =>
  q_call (f_X8_clear t1 M) fun r2 M3 =>
  q_pf M3 1 3 0 fun M4 =>
  q_pf M4 1 4 0 fun M5 =>
  q_pf M5 1 5 (-1) fun M6 =>
  q_call (f_X7_start a0 M6) fun r7 M8 =>
  f_X4_read_L32  q_N 0 M8
theorem c_X4_read {l : Launch} {D : va_G} {ad : Nat → Nat} {cA : Nat → ClassId} (hi : q_inj syC ad) (a0 : Int) (M : Mem) (r0 : Int) (M0 : Mem) (h : f_X4_read a0 M = some (r0, M0)) : q_Met l syC D ad cA yX4_read cX4_read 3 (some .int) rm_X4_read [.ref (ad 1), .int (qI a0)] M (some (.int (qI r0))) M0 := by
  refine q_met (L0 := [(0, .ref (ad 1)), (1, .int (qI a0))]) hi okC (by decide) (Nat.le_of_ble_eq_true rfl) rfl ?_
  intro p e s m args below meth c C hr hlk
  unfold f_X4_read at h
  refine r_aln C dX4_read_0 (k := 0) rfl ?_
  refine r_gr C kc_1 clX4 (f := 2) (fz := 2) (Pp := isT) (by decide) rfl rfl (fun q => q.2.1) tf_RX4_12 dX4_read_1 h (fun t1 ht1 h => ?_)
  obtain ⟨r2, M3, hy, h⟩ := q_call_some h
  refine r_cvv C (st := []) (c_X8_clear C.2.2.1 t1 ht1 M r2 M3 hy) tm_RX4_46 mw_X8_clear ⟨rfl, rfl⟩ ⟨Nat.le_of_ble_eq_true rfl, Nat.le_of_ble_eq_true rfl⟩ (kT ht1) clX8 rfl rfl (Nat.le_of_ble_eq_true rfl) dX4_read_4 ?_
  refine r_aln C dX4_read_7 (k := 0) rfl ?_
  refine r_ic C dX4_read_8 ?_
  refine r_pf C kc_1 clX4 (f := 3) (by decide) rfl q_dI rfl rfl tf_RX4_18 dX4_read_9 h (fun M4 h => ?_)
  refine r_aln C dX4_read_12 (k := 0) rfl ?_
  refine r_ic C dX4_read_13 ?_
  refine r_pf C kc_1 clX4 (f := 4) (by decide) rfl q_dI rfl rfl tf_RX4_22 dX4_read_14 h (fun M5 h => ?_)
  refine r_aln C dX4_read_17 (k := 0) rfl ?_
  refine r_ic C dX4_read_18 ?_
  refine r_pf C kc_1 clX4 (f := 5) (by decide) rfl q_dI rfl rfl tf_RX4_25 dX4_read_19 h (fun M6 h => ?_)
  refine r_aln C dX4_read_22 (k := 0) rfl ?_
  refine r_gs C kc_1 clX4 (f := 0) (by decide) rfl (t := 10) rfl tf_RX4_33 dX4_read_23 ?_
  refine r_iln C dX4_read_26 (k := 1) rfl ?_
  obtain ⟨r7, M8, hy, h⟩ := q_call_some h
  refine r_cvv C (st := []) (c_X7_start C.2.2.1 a0 M6 r7 M8 hy) tm_RX4_49 mw_X7_start ⟨rfl, rfl⟩ ⟨Nat.le_of_ble_eq_true rfl, Nat.le_of_ble_eq_true rfl⟩ kc_10 clX7 rfl rfl (Nat.le_of_ble_eq_true rfl) dX4_read_27 ?_
  refine r_ic C dX4_read_30 ?_
  refine r_isn C (L1 := [(2, .int (qI 0)), (0, .ref (ad 1)), (1, .int (qI a0))]) dX4_read_31 (by decide) rfl ?_
  refine r_drop [1, 0] rfl ?_
  exact w_X4_read_L32 C hr hlk   q_N 0 M8 h
abbrev rm_X5_add : Room := { frames := 0, cells := 0, slots := 0, locals := 0 }
theorem mw_X5_add : q_mw RX5 yX5_add cX5_add 4 (some .int) 3 := ⟨⟨ti_X5_add, tl_X5_add, tn_RX5, td_X5_add⟩, by decide +kernel⟩
def f_X5_add (a0 : Int) (a1 : Int) (a2 : Int) (M : Mem) : Res :=
  q_gf M 9 3 fun v1 =>
  if w32 v1 < w32 24 then (q_gf M 9 3 fun v2 =>
  q_as M 320 24 v2 a0 fun M3 =>
  q_gf M3 9 3 fun v4 =>
  q_as M3 321 24 v4 a1 fun M5 =>
  q_gf M5 9 3 fun v6 =>
  q_as M5 322 24 v6 a2 fun M7 =>
  q_gf M7 9 3 fun v8 =>
  q_pf M7 9 3 (v8 + 1) fun M9 =>
  q_gf M9 9 3 fun v10 =>
  some (v10 - 1, M9))
  else (some ((-1), M))
theorem c_X5_add {l : Launch} {D : va_G} {ad : Nat → Nat} {cA : Nat → ClassId} (hi : q_inj syC ad) (a0 : Int) (a1 : Int) (a2 : Int) (M : Mem) (r0 : Int) (M0 : Mem) (h : f_X5_add a0 a1 a2 M = some (r0, M0)) : q_Met l syC D ad cA yX5_add cX5_add 4 (some .int) rm_X5_add [.ref (ad 9), .int (qI a0), .int (qI a1), .int (qI a2)] M (some (.int (qI r0))) M0 := by
  refine q_met (L0 := [(0, .ref (ad 9)), (1, .int (qI a0)), (2, .int (qI a1)), (3, .int (qI a2))]) hi okC (by decide) (Nat.le_of_ble_eq_true rfl) rfl ?_
  intro p e s m args below meth c C hr hlk
  unfold f_X5_add at h
  refine r_aln C dX5_add_0 (k := 0) rfl ?_
  refine r_gf C kc_9 clX5 (f := 3) (by decide) rfl rfl rfl tf_RX5_21 dX5_add_1 h (fun v1 h => ?_)
  refine r_bi C dX5_add_4 (by decide) ?_
  refine r_clt C (tgt := 11) dX5_add_6 (by decide) h (fun h => ?_) (fun h => ?_)
  · refine r_aln C dX5_add_11 (k := 0) rfl ?_
    refine r_gs C kc_9 clX5 (f := 0) (by decide) rfl (t := 320) rfl tf_RX5_9 dX5_add_12 ?_
    refine r_aln C dX5_add_15 (k := 0) rfl ?_
    refine r_gf C kc_9 clX5 (f := 3) (by decide) rfl rfl rfl tf_RX5_21 dX5_add_16 h (fun v2 h => ?_)
    refine r_iln C dX5_add_19 (k := 1) rfl ?_
    refine r_iast C kc_320 dX5_add_20 h (fun M3 h => ?_)
    refine r_aln C dX5_add_21 (k := 0) rfl ?_
    refine r_gs C kc_9 clX5 (f := 1) (by decide) rfl (t := 321) rfl tf_RX5_15 dX5_add_22 ?_
    refine r_aln C dX5_add_25 (k := 0) rfl ?_
    refine r_gf C kc_9 clX5 (f := 3) (by decide) rfl rfl rfl tf_RX5_21 dX5_add_26 h (fun v4 h => ?_)
    refine r_iln C dX5_add_29 (k := 2) rfl ?_
    refine r_iast C kc_321 dX5_add_30 h (fun M5 h => ?_)
    refine r_aln C dX5_add_31 (k := 0) rfl ?_
    refine r_gs C kc_9 clX5 (f := 2) (by decide) rfl (t := 322) rfl tf_RX5_18 dX5_add_32 ?_
    refine r_aln C dX5_add_35 (k := 0) rfl ?_
    refine r_gf C kc_9 clX5 (f := 3) (by decide) rfl rfl rfl tf_RX5_21 dX5_add_36 h (fun v6 h => ?_)
    refine r_iln C dX5_add_39 (k := 3) rfl ?_
    refine r_iast C kc_322 dX5_add_40 h (fun M7 h => ?_)
    refine r_aln C dX5_add_41 (k := 0) rfl ?_
    refine r_dup C rfl dX5_add_42 ?_
    refine r_gf C kc_9 clX5 (f := 3) (by decide) rfl rfl rfl tf_RX5_21 dX5_add_43 h (fun v8 h => ?_)
    refine r_ic C dX5_add_46 ?_
    refine r_iadd C dX5_add_47 ?_
    refine r_pf C kc_9 clX5 (f := 3) (by decide) rfl q_dI rfl rfl tf_RX5_21 dX5_add_48 h (fun M9 h => ?_)
    refine r_aln C dX5_add_51 (k := 0) rfl ?_
    refine r_gf C kc_9 clX5 (f := 3) (by decide) rfl rfl rfl tf_RX5_21 dX5_add_52 h (fun v10 h => ?_)
    refine r_ic C dX5_add_55 ?_
    refine r_isub C dX5_add_56 ?_
    exact r_iret C hr hlk dX5_add_57 h
  · refine r_ic C dX5_add_9 ?_
    exact r_iret C hr hlk dX5_add_10 h
end P12c
