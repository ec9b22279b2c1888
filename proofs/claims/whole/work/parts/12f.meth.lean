section P12f
variable {p : Program} {l : Launch} {e : Env} {s : State} {m : MethodId} {args : Array Value} {below : List Frame} {meth : Method} {c : Code} {D : va_G} {ad : Nat → Nat} {cA : Nat → ClassId} {r0 : Int} {M0 : Mem}
abbrev rm_X9_meet : Room := { frames := 1, cells := 0, slots := 0, locals := 24 }
theorem mw_X9_meet : q_mw RX9 yX9_meet cX9_meet 6 (some .int) 2 := ⟨⟨ti_X9_meet, tl_X9_meet, tn_RX9, td_X9_meet⟩, by decide +kernel⟩
def f_X9_meet_B54 (x1 : Int) (x2 : Int) (M : Mem) (x4 : Int) (x5 : Int) (g54 : Int → Int → Option Int) : Option Int :=
  if w32 30 ≤ w32 x5 then (some (-2))
  else (q_calp (f_X9_firstFrom x4 x2 M) fun r1 =>
  if ¬ w32 r1 = w32 x4 then (q_gr M 0 3 fun t2 =>
  q_al M (32 * (t2 + 1) + 10) 4 x1 fun v3 =>
  g54 (x4 + v3) (x5 + 1))
  else (q_gf M 4 0 fun v4 =>
  some (x4 - v4)))
def f_X9_meet_L54 (x1 : Int) (x2 : Int) (M : Mem) (n : Nat) (x4 : Int) (x5 : Int) : Option Int := qlp2 (fun x4 x5 g54 => f_X9_meet_B54 x1 x2 M x4 x5 g54) n x4 x5
theorem w_X9_meet_B54 (C : Cx syC p m c cX9_meet 6 s args RX9 D ad cA) (hr : meth.sig.returnType = (some .int)) (hlk : meth.locks = false)  (x1 : Int) (x2 : Int) (x4 : Int) (x5 : Int) (M : Mem) (g54 : Int → Int → Option Int)  (ih54 : ∀ (ux4 ux5 : Int) , g54 ux4 ux5  = some r0 → WM syC p l e rm_X9_meet s m args below meth c 6 D ad cA (MQ below (q_Post syC D ad cA (some (.int (qI r0))) M) args s 0 0 (q_A syC ad)) M 54 [(0, .ref (ad 0)), (1, .int (qI x1)), (2, .int (qI x2)), (4, .int (qI ux4)), (5, .int (qI ux5))] []) (h : f_X9_meet_B54 x1 x2 M x4 x5 g54 = some r0) : WM syC p l e rm_X9_meet s m args below meth c 6 D ad cA (MQ below (q_Post syC D ad cA (some (.int (qI r0))) M) args s 0 0 (q_A syC ad)) M 54 [(0, .ref (ad 0)), (1, .int (qI x1)), (2, .int (qI x2)), (4, .int (qI x4)), (5, .int (qI x5))] [] := by
  unfold f_X9_meet_B54 at h
  refine r_il C dX9_meet_54 (k := 4) rfl ?_
  refine r_bi C dX9_meet_56 (by decide) ?_
  refine r_cge C (tgt := 104) dX9_meet_58 (by decide) h (fun h => ?_) (fun h => ?_)
  · refine r_bi C dX9_meet_104 (by decide) ?_
    exact r_iretp C hr hlk dX9_meet_106 h
  · refine r_aln C dX9_meet_61 (k := 0) rfl ?_
    refine r_il C dX9_meet_62 (k := 3) rfl ?_
    refine r_iln C dX9_meet_64 (k := 2) rfl ?_
    obtain ⟨r1, hy, h⟩ := q_calp_some h
    refine r_cvi C (st := []) (c_X9_firstFrom C.2.2.1 x4 x2 M r1 hy) tm_RX9_272 mw_X9_firstFrom ⟨rfl, rfl⟩ ⟨Nat.le_of_ble_eq_true rfl, Nat.le_of_ble_eq_true rfl⟩ kc_0 clX9 rfl rfl (Nat.le_of_ble_eq_true rfl) dX9_meet_65 ?_
    refine r_il C dX9_meet_68 (k := 3) rfl ?_
    refine r_cne C (tgt := 84) dX9_meet_70 (by decide) h (fun h => ?_) (fun h => ?_)
    · refine r_il C dX9_meet_84 (k := 3) rfl ?_
      refine r_aln C dX9_meet_86 (k := 0) rfl ?_
      refine r_gr C kc_0 clX9 (f := 3) (fz := 3) (Pp := isT) (by decide) rfl rfl (fun q => q.1) tf_RX9_31 dX9_meet_87 h (fun t2 ht2 h => ?_)
      refine r_gs C (kT ht2) clX8 (f := 10) (by decide) rfl (t := (32 * (t2 + 1) + 10)) rfl tf_RX9_185 dX9_meet_90 ?_
      refine r_iln C dX9_meet_93 (k := 1) rfl ?_
      refine r_iald C (kT_10 ht2) dX9_meet_94 h (fun v3 h => ?_)
      refine r_iadd C dX9_meet_95 ?_
      refine r_is C (L1 := [(4, .int (qI (x4 + v3))), (0, .ref (ad 0)), (1, .int (qI x1)), (2, .int (qI x2)), (5, .int (qI x5))]) dX9_meet_96 (by decide) rfl ?_
      refine r_inc C (L1 := [(5, .int (qI (x5 + 1))), (4, .int (qI (x4 + v3))), (0, .ref (ad 0)), (1, .int (qI x1)), (2, .int (qI x2))]) dX9_meet_98 (k := 4) rfl (by decide) rfl ?_
      refine r_goto C (tgt := 54) dX9_meet_101 (by decide) ?_
      refine r_drop [2, 3, 4, 1, 0] rfl ?_
      exact ih54 (x4 + v3) (x5 + 1)  h
    · refine r_il C dX9_meet_73 (k := 3) rfl ?_
      refine r_aln C dX9_meet_75 (k := 0) rfl ?_
      refine r_gs C kc_0 clX9 (f := 4) (by decide) rfl (t := 4) rfl tf_RX9_38 dX9_meet_76 ?_
      refine r_gf C kc_4 clX6 (f := 0) (by decide) rfl rfl rfl tf_RX9_245 dX9_meet_79 h (fun v4 h => ?_)
      refine r_isub C dX9_meet_82 ?_
      exact r_iretp C hr hlk dX9_meet_83 h
theorem w_X9_meet_L54 (C : Cx syC p m c cX9_meet 6 s args RX9 D ad cA) (hr : meth.sig.returnType = (some .int)) (hlk : meth.locks = false)  (x1 : Int) (x2 : Int) (M : Mem)  (n : Nat) (x4 : Int) (x5 : Int) (h : f_X9_meet_L54 x1 x2 M n x4 x5 = some r0) : WM syC p l e rm_X9_meet s m args below meth c 6 D ad cA (MQ below (q_Post syC D ad cA (some (.int (qI r0))) M) args s 0 0 (q_A syC ad)) M 54 [(0, .ref (ad 0)), (1, .int (qI x1)), (2, .int (qI x2)), (4, .int (qI x4)), (5, .int (qI x5))] [] :=
  qlp2_r (Wp := fun ux4 ux5 => WM syC p l e rm_X9_meet s m args below meth c 6 D ad cA (MQ below (q_Post syC D ad cA (some (.int (qI r0))) M) args s 0 0 (q_A syC ad)) M 54 [(0, .ref (ad 0)), (1, .int (qI x1)), (2, .int (qI x2)), (4, .int (qI ux4)), (5, .int (qI ux5))] []) (fun ux4 ux5 g54 ih54 h => w_X9_meet_B54 C hr hlk x1 x2 ux4 ux5 M g54  ih54 h) n x4 x5 h
def f_X9_meet (a0 : Int) (a1 : Int) (M : Mem) : Option Int :=
  q_calp (f_X9_isBus a0 M) fun r1 =>
  if w32 r1 = 0 then (some (-1))
  else (q_calp (f_X9_isBus a1 M) fun r2 =>
  if w32 r2 = 0 then (some (-1))
  else (if ¬ w32 a0 = w32 a1 then (q_gf M 4 0 fun v3 =>
  q_gr M 0 3 fun t4 =>
  q_al M (32 * (t4 + 1) + 9) 4 a1 fun v5 =>
  q_calp (f_X9_firstFrom (q_max v3 v5) a0 M) fun r6 =>
  f_X9_meet_L54 a0 a1 M q_N r6 0)
  else (some (-1))))
theorem c_X9_meet {l : Launch} {D : va_G} {ad : Nat → Nat} {cA : Nat → ClassId} (hi : q_inj syC ad) (a0 : Int) (a1 : Int) (M : Mem) (r0 : Int) (h : f_X9_meet a0 a1 M = some r0) : q_Met l syC D ad cA yX9_meet cX9_meet 6 (some .int) rm_X9_meet [.ref (ad 0), .int (qI a0), .int (qI a1)] M (some (.int (qI r0))) M := by
  refine q_met (L0 := [(0, .ref (ad 0)), (1, .int (qI a0)), (2, .int (qI a1))]) hi okC (by decide) (Nat.le_of_ble_eq_true rfl) rfl ?_
  intro p e s m args below meth c C hr hlk
  unfold f_X9_meet at h
  refine r_aln C dX9_meet_0 (k := 0) rfl ?_
  refine r_iln C dX9_meet_1 (k := 1) rfl ?_
  obtain ⟨r1, hy, h⟩ := q_calp_some h
  refine r_cvi C (st := []) (c_X9_isBus C.2.2.1 a0 M r1 hy) tm_RX9_179 mw_X9_isBus ⟨rfl, rfl⟩ ⟨Nat.le_of_ble_eq_true rfl, Nat.le_of_ble_eq_true rfl⟩ kc_0 clX9 rfl rfl (Nat.le_of_ble_eq_true rfl) dX9_meet_2 ?_
  refine r_zeq C (tgt := 21) dX9_meet_5 (by decide) h (fun h => ?_) (fun h => ?_)
  · refine r_ic C dX9_meet_21 ?_
    exact r_iretp C hr hlk dX9_meet_22 h
  · refine r_aln C dX9_meet_8 (k := 0) rfl ?_
    refine r_iln C dX9_meet_9 (k := 2) rfl ?_
    obtain ⟨r2, hy, h⟩ := q_calp_some h
    refine r_cvi C (st := []) (c_X9_isBus C.2.2.1 a1 M r2 hy) tm_RX9_179 mw_X9_isBus ⟨rfl, rfl⟩ ⟨Nat.le_of_ble_eq_true rfl, Nat.le_of_ble_eq_true rfl⟩ kc_0 clX9 rfl rfl (Nat.le_of_ble_eq_true rfl) dX9_meet_10 ?_
    refine r_zeq C (tgt := 21) dX9_meet_13 (by decide) h (fun h => ?_) (fun h => ?_)
    · refine r_ic C dX9_meet_21 ?_
      exact r_iretp C hr hlk dX9_meet_22 h
    · refine r_iln C dX9_meet_16 (k := 1) rfl ?_
      refine r_iln C dX9_meet_17 (k := 2) rfl ?_
      refine r_cne C (tgt := 23) dX9_meet_18 (by decide) h (fun h => ?_) (fun h => ?_)
      · refine r_aln C dX9_meet_23 (k := 0) rfl ?_
        refine r_gs C kc_0 clX9 (f := 4) (by decide) rfl (t := 4) rfl tf_RX9_38 dX9_meet_24 ?_
        refine r_gf C kc_4 clX6 (f := 0) (by decide) rfl rfl rfl tf_RX9_245 dX9_meet_27 h (fun v3 h => ?_)
        refine r_aln C dX9_meet_30 (k := 0) rfl ?_
        refine r_gr C kc_0 clX9 (f := 3) (fz := 3) (Pp := isT) (by decide) rfl rfl (fun q => q.1) tf_RX9_31 dX9_meet_31 h (fun t4 ht4 h => ?_)
        refine r_gs C (kT ht4) clX8 (f := 9) (by decide) rfl (t := (32 * (t4 + 1) + 9)) rfl tf_RX9_182 dX9_meet_34 ?_
        refine r_iln C dX9_meet_37 (k := 2) rfl ?_
        refine r_iald C (kT_9 ht4) dX9_meet_38 h (fun v5 h => ?_)
        refine r_q_max C (st := []) tm_RX9_275 ⟨Nat.le_of_ble_eq_true rfl, Nat.le_of_ble_eq_true rfl⟩ dX9_meet_39 ?_
        refine r_isn C (L1 := [(3, .int (qI (q_max v3 v5))), (0, .ref (ad 0)), (1, .int (qI a0)), (2, .int (qI a1))]) dX9_meet_42 (by decide) rfl ?_
        refine r_aln C dX9_meet_43 (k := 1) rfl ?_
        refine r_iln C dX9_meet_44 (k := 0) rfl ?_
        refine r_iln C dX9_meet_45 (k := 2) rfl ?_
        obtain ⟨r6, hy, h⟩ := q_calp_some h
        refine r_cvi C (st := []) (c_X9_firstFrom C.2.2.1 (q_max v3 v5) a0 M r6 hy) tm_RX9_272 mw_X9_firstFrom ⟨rfl, rfl⟩ ⟨Nat.le_of_ble_eq_true rfl, Nat.le_of_ble_eq_true rfl⟩ kc_0 clX9 rfl rfl (Nat.le_of_ble_eq_true rfl) dX9_meet_46 ?_
        refine r_is C (L1 := [(4, .int (qI r6)), (3, .int (qI (q_max v3 v5))), (0, .ref (ad 0)), (1, .int (qI a0)), (2, .int (qI a1))]) dX9_meet_49 (by decide) rfl ?_
        refine r_ic C dX9_meet_51 ?_
        refine r_is C (L1 := [(5, .int (qI 0)), (4, .int (qI r6)), (3, .int (qI (q_max v3 v5))), (0, .ref (ad 0)), (1, .int (qI a0)), (2, .int (qI a1))]) dX9_meet_52 (by decide) rfl ?_
        refine r_drop [3, 4, 5, 1, 0] rfl ?_
        exact w_X9_meet_L54 C hr hlk a0 a1 M  q_N r6 0 h
      · refine r_ic C dX9_meet_21 ?_
        exact r_iretp C hr hlk dX9_meet_22 h
abbrev rm_X9_move : Room := { frames := 2, cells := 0, slots := 0, locals := 44 }
theorem mw_X9_move : q_mw RX9 yX9_move cX9_move 4 (some .boolean) 2 := ⟨⟨ti_X9_move, tl_X9_move, tn_RX9, td_X9_move⟩, by decide +kernel⟩
def f_X9_move (a0 : Int) (a1 : Int) (M : Mem) : Res :=
  q_calp (f_X9_isSoul a0 M) fun r1 =>
  if w32 r1 = 0 then (some (0, M))
  else (if w32 a1 < 0 then (some (0, M))
  else (q_gf M 4 9 fun v2 =>
  if w32 a1 < w32 v2 then (q_calp (f_X6_placeOf 4 a0 M) fun r3 =>
  if w32 r3 < 0 then (some (0, M))
  else (if ¬ w32 r3 = w32 a1 then (q_call (f_X6_takeOut 4 r3 M) fun r4 M5 =>
  q_call (f_X6_putIn 4 a0 a1 M5) fun r6 M7 =>
  q_call (f_X0_note 0 a0 r3 M7) fun r8 M9 =>
  some (1, M9))
  else (some (0, M))))
  else (some (0, M))))
theorem c_X9_move {l : Launch} {D : va_G} {ad : Nat → Nat} {cA : Nat → ClassId} (hi : q_inj syC ad) (a0 : Int) (a1 : Int) (M : Mem) (r0 : Int) (M0 : Mem) (h : f_X9_move a0 a1 M = some (r0, M0)) : q_Met l syC D ad cA yX9_move cX9_move 4 (some .boolean) rm_X9_move [.ref (ad 0), .int (qI a0), .int (qI a1)] M (some (.int (qI r0))) M0 := by
  refine q_met (L0 := [(0, .ref (ad 0)), (1, .int (qI a0)), (2, .int (qI a1))]) hi okC (by decide) (Nat.le_of_ble_eq_true rfl) rfl ?_
  intro p e s m args below meth c C hr hlk
  unfold f_X9_move at h
  refine r_aln C dX9_move_0 (k := 0) rfl ?_
  refine r_iln C dX9_move_1 (k := 1) rfl ?_
  obtain ⟨r1, hy, h⟩ := q_calp_some h
  refine r_cvi C (st := []) (c_X9_isSoul C.2.2.1 a0 M r1 hy) tm_RX9_138 mw_X9_isSoul ⟨rfl, rfl⟩ ⟨Nat.le_of_ble_eq_true rfl, Nat.le_of_ble_eq_true rfl⟩ kc_0 clX9 rfl rfl (Nat.le_of_ble_eq_true rfl) dX9_move_2 ?_
  refine r_zeq C (tgt := 23) dX9_move_5 (by decide) h (fun h => ?_) (fun h => ?_)
  · refine r_ic C dX9_move_23 ?_
    exact r_zret C (by decide) hr hlk dX9_move_24 h
  · refine r_iln C dX9_move_8 (k := 2) rfl ?_
    refine r_zlt C (tgt := 23) dX9_move_9 (by decide) h (fun h => ?_) (fun h => ?_)
    · refine r_ic C dX9_move_23 ?_
      exact r_zret C (by decide) hr hlk dX9_move_24 h
    · refine r_iln C dX9_move_12 (k := 2) rfl ?_
      refine r_aln C dX9_move_13 (k := 0) rfl ?_
      refine r_gs C kc_0 clX9 (f := 4) (by decide) rfl (t := 4) rfl tf_RX9_38 dX9_move_14 ?_
      refine r_gf C kc_4 clX6 (f := 9) (by decide) rfl rfl rfl tf_RX9_197 dX9_move_17 h (fun v2 h => ?_)
      refine r_clt C (tgt := 25) dX9_move_20 (by decide) h (fun h => ?_) (fun h => ?_)
      · refine r_aln C dX9_move_25 (k := 0) rfl ?_
        refine r_gs C kc_0 clX9 (f := 4) (by decide) rfl (t := 4) rfl tf_RX9_38 dX9_move_26 ?_
        refine r_iln C dX9_move_29 (k := 1) rfl ?_
        obtain ⟨r3, hy, h⟩ := q_calp_some h
        refine r_cvi C (st := []) (c_X6_placeOf C.2.2.1 4 (by unfold isS; omega) a0 M r3 hy) tm_RX9_159 mw_X6_placeOf ⟨rfl, rfl⟩ ⟨Nat.le_of_ble_eq_true rfl, Nat.le_of_ble_eq_true rfl⟩ kc_4 clX6 rfl rfl (Nat.le_of_ble_eq_true rfl) dX9_move_30 ?_
        refine r_isn C (L1 := [(3, .int (qI r3)), (0, .ref (ad 0)), (1, .int (qI a0)), (2, .int (qI a1))]) dX9_move_33 (by decide) rfl ?_
        refine r_iln C dX9_move_34 (k := 0) rfl ?_
        refine r_zlt C (tgt := 43) dX9_move_35 (by decide) h (fun h => ?_) (fun h => ?_)
        · refine r_ic C dX9_move_43 ?_
          exact r_zret C (by decide) hr hlk dX9_move_44 h
        · refine r_iln C dX9_move_38 (k := 0) rfl ?_
          refine r_iln C dX9_move_39 (k := 3) rfl ?_
          refine r_cne C (tgt := 45) dX9_move_40 (by decide) h (fun h => ?_) (fun h => ?_)
          · refine r_aln C dX9_move_45 (k := 1) rfl ?_
            refine r_gs C kc_0 clX9 (f := 4) (by decide) rfl (t := 4) rfl tf_RX9_38 dX9_move_46 ?_
            refine r_iln C dX9_move_49 (k := 0) rfl ?_
            obtain ⟨r4, M5, hy, h⟩ := q_call_some h
            refine r_cvv C (st := []) (c_X6_takeOut C.2.2.1 4 (by unfold isS; omega) r3 M r4 M5 hy) tm_RX9_229 mw_X6_takeOut ⟨rfl, rfl⟩ ⟨Nat.le_of_ble_eq_true rfl, Nat.le_of_ble_eq_true rfl⟩ kc_4 clX6 rfl rfl (Nat.le_of_ble_eq_true rfl) dX9_move_50 ?_
            refine r_aln C dX9_move_53 (k := 1) rfl ?_
            refine r_gs C kc_0 clX9 (f := 4) (by decide) rfl (t := 4) rfl tf_RX9_38 dX9_move_54 ?_
            refine r_iln C dX9_move_57 (k := 2) rfl ?_
            refine r_iln C dX9_move_58 (k := 3) rfl ?_
            obtain ⟨r6, M7, hy, h⟩ := q_call_some h
            refine r_cvv C (st := []) (c_X6_putIn C.2.2.1 4 (by unfold isS; omega) a0 a1 M5 r6 M7 hy) tm_RX9_232 mw_X6_putIn ⟨rfl, rfl⟩ ⟨Nat.le_of_ble_eq_true rfl, Nat.le_of_ble_eq_true rfl⟩ kc_4 clX6 rfl rfl (Nat.le_of_ble_eq_true rfl) dX9_move_59 ?_
            refine r_aln C dX9_move_62 (k := 1) rfl ?_
            refine r_gs C kc_0 clX9 (f := 9) (by decide) rfl (t := 8) rfl tf_RX9_64 dX9_move_63 ?_
            refine r_ic C dX9_move_66 ?_
            refine r_iln C dX9_move_67 (k := 2) rfl ?_
            refine r_iln C dX9_move_68 (k := 0) rfl ?_
            obtain ⟨r8, M9, hy, h⟩ := q_call_some h
            refine r_cvv C (st := []) (c_X0_note C.2.2.1 0 a0 r3 M7 r8 M9 hy) tm_RX9_236 mw_X0_note ⟨rfl, rfl⟩ ⟨Nat.le_of_ble_eq_true rfl, Nat.le_of_ble_eq_true rfl⟩ kc_8 clX0 rfl rfl (Nat.le_of_ble_eq_true rfl) dX9_move_69 ?_
            refine r_ic C dX9_move_72 ?_
            exact r_zret C (by decide) hr hlk dX9_move_73 h
          · refine r_ic C dX9_move_43 ?_
            exact r_zret C (by decide) hr hlk dX9_move_44 h
      · refine r_ic C dX9_move_23 ?_
        exact r_zret C (by decide) hr hlk dX9_move_24 h
abbrev rm_X9_named : Room := { frames := 1, cells := 0, slots := 0, locals := 23 }
theorem mw_X9_named : q_mw RX9 yX9_named cX9_named 3 (some .int) 2 := ⟨⟨ti_X9_named, tl_X9_named, tn_RX9, td_X9_named⟩, by decide +kernel⟩
def f_X9_named (a0 : Int) (a1 : Int) (M : Mem) : Option Int :=
  if w32 a0 = 0 then (q_gr M 0 3 fun t1 =>
  q_gr M 0 3 fun t2 =>
  q_gf M t2 0 fun v3 =>
  q_calp (f_X9_find (32 * (t1 + 1) + 1) 8 v3 a1 M) fun r4 =>
  some r4)
  else if w32 a0 = 1 then (q_gr M 0 3 fun t5 =>
  q_gr M 0 3 fun t6 =>
  q_gf M t6 7 fun v7 =>
  q_calp (f_X9_find (32 * (t5 + 1) + 8) 4 v7 a1 M) fun r8 =>
  some r8)
  else (some (-1))
theorem c_X9_named {l : Launch} {D : va_G} {ad : Nat → Nat} {cA : Nat → ClassId} (hi : q_inj syC ad) (a0 : Int) (a1 : Int) (M : Mem) (r0 : Int) (h : f_X9_named a0 a1 M = some r0) : q_Met l syC D ad cA yX9_named cX9_named 3 (some .int) rm_X9_named [.ref (ad 0), .int (qI a0), .int (qI a1)] M (some (.int (qI r0))) M := by
  refine q_met (L0 := [(0, .ref (ad 0)), (1, .int (qI a0)), (2, .int (qI a1))]) hi okC (by decide) (Nat.le_of_ble_eq_true rfl) rfl ?_
  intro p e s m args below meth c C hr hlk
  unfold f_X9_named at h
  refine r_iln C dX9_named_0 (k := 1) rfl ?_
  refine r_tc C h (fun e h => ?_) (fun ne0 h => ?_)
  · refine r_lk C (tgt := 28) dX9_named_1 (by decide) e rfl (by decide) ?_
    refine r_aln C dX9_named_28 (k := 0) rfl ?_
    refine r_gr C kc_0 clX9 (f := 3) (fz := 3) (Pp := isT) (by decide) rfl rfl (fun q => q.1) tf_RX9_31 dX9_named_29 h (fun t1 ht1 h => ?_)
    refine r_gs C (kT ht1) clX8 (f := 1) (by decide) rfl (t := (32 * (t1 + 1) + 1)) rfl tf_RX9_122 dX9_named_32 ?_
    refine r_aln C dX9_named_35 (k := 0) rfl ?_
    refine r_gr C kc_0 clX9 (f := 3) (fz := 3) (Pp := isT) (by decide) rfl rfl (fun q => q.1) tf_RX9_31 dX9_named_36 h (fun t2 ht2 h => ?_)
    refine r_gf C (kT ht2) clX8 (f := 0) (by decide) rfl rfl rfl tf_RX9_125 dX9_named_39 h (fun v3 h => ?_)
    refine r_iln C dX9_named_42 (k := 2) rfl ?_
    obtain ⟨r4, hy, h⟩ := q_calp_some h
    refine r_csi C (st := []) (c_X9_find C.2.2.1 (32 * (t1 + 1) + 1) 8 (kT_1 ht1) v3 a1 M r4 hy) tm_RX9_128 mw_X9_find ⟨rfl, rfl⟩ ⟨Nat.le_of_ble_eq_true rfl, Nat.le_of_ble_eq_true rfl⟩ rfl rfl (Nat.le_of_ble_eq_true rfl) dX9_named_43 ?_
    exact r_iretp C hr hlk dX9_named_46 h
  refine r_tc C h (fun e h => ?_) (fun ne1 h => ?_)
  · refine r_lk C (tgt := 47) dX9_named_1 (by decide) e rfl (by decide) ?_
    refine r_aln C dX9_named_47 (k := 0) rfl ?_
    refine r_gr C kc_0 clX9 (f := 3) (fz := 3) (Pp := isT) (by decide) rfl rfl (fun q => q.1) tf_RX9_31 dX9_named_48 h (fun t5 ht5 h => ?_)
    refine r_gs C (kT ht5) clX8 (f := 8) (by decide) rfl (t := (32 * (t5 + 1) + 8)) rfl tf_RX9_132 dX9_named_51 ?_
    refine r_aln C dX9_named_54 (k := 0) rfl ?_
    refine r_gr C kc_0 clX9 (f := 3) (fz := 3) (Pp := isT) (by decide) rfl rfl (fun q => q.1) tf_RX9_31 dX9_named_55 h (fun t6 ht6 h => ?_)
    refine r_gf C (kT ht6) clX8 (f := 7) (by decide) rfl rfl rfl tf_RX9_135 dX9_named_58 h (fun v7 h => ?_)
    refine r_iln C dX9_named_61 (k := 2) rfl ?_
    obtain ⟨r8, hy, h⟩ := q_calp_some h
    refine r_csi C (st := []) (c_X9_find C.2.2.1 (32 * (t5 + 1) + 8) 4 (kT_8 ht5) v7 a1 M r8 hy) tm_RX9_128 mw_X9_find ⟨rfl, rfl⟩ ⟨Nat.le_of_ble_eq_true rfl, Nat.le_of_ble_eq_true rfl⟩ rfl rfl (Nat.le_of_ble_eq_true rfl) dX9_named_62 ?_
    exact r_iretp C hr hlk dX9_named_65 h
  refine r_lk C (tgt := 66) (k := w32 a0) dX9_named_1 (by decide) rfl (off := 65) (by simp only [Op.lookupswitch.offset]; rw [if_neg (fun q => ne0 q.symm)]; rw [if_neg (fun q => ne1 q.symm)]) (by decide) ?_
  refine r_ic C dX9_named_66 ?_
  exact r_iretp C hr hlk dX9_named_67 h
abbrev rm_X9_next : Room := { frames := 1, cells := 0, slots := 0, locals := 24 }
theorem mw_X9_next : q_mw RX9 yX9_next cX9_next 2 (some .int) 1 := ⟨⟨ti_X9_next, tl_X9_next, tn_RX9, td_X9_next⟩, by decide +kernel⟩
def f_X9_next (a0 : Int) (M : Mem) : Option Int :=
  q_calp (f_X9_isBus a0 M) fun r1 =>
  if w32 r1 = 0 then (some (-1))
  else (q_gf M 4 0 fun v2 =>
  q_calp (f_X9_firstFrom v2 a0 M) fun r3 =>
  q_gf M 4 0 fun v4 =>
  some (r3 - v4))
theorem c_X9_next {l : Launch} {D : va_G} {ad : Nat → Nat} {cA : Nat → ClassId} (hi : q_inj syC ad) (a0 : Int) (M : Mem) (r0 : Int) (h : f_X9_next a0 M = some r0) : q_Met l syC D ad cA yX9_next cX9_next 2 (some .int) rm_X9_next [.ref (ad 0), .int (qI a0)] M (some (.int (qI r0))) M := by
  refine q_met (L0 := [(0, .ref (ad 0)), (1, .int (qI a0))]) hi okC (by decide) (Nat.le_of_ble_eq_true rfl) rfl ?_
  intro p e s m args below meth c C hr hlk
  unfold f_X9_next at h
  refine r_aln C dX9_next_0 (k := 0) rfl ?_
  refine r_iln C dX9_next_1 (k := 1) rfl ?_
  obtain ⟨r1, hy, h⟩ := q_calp_some h
  refine r_cvi C (st := []) (c_X9_isBus C.2.2.1 a0 M r1 hy) tm_RX9_179 mw_X9_isBus ⟨rfl, rfl⟩ ⟨Nat.le_of_ble_eq_true rfl, Nat.le_of_ble_eq_true rfl⟩ kc_0 clX9 rfl rfl (Nat.le_of_ble_eq_true rfl) dX9_next_2 ?_
  refine r_zeq C (tgt := 31) dX9_next_5 (by decide) h (fun h => ?_) (fun h => ?_)
  · refine r_ic C dX9_next_31 ?_
    exact r_iretp C hr hlk dX9_next_32 h
  · refine r_aln C dX9_next_8 (k := 0) rfl ?_
    refine r_aln C dX9_next_9 (k := 0) rfl ?_
    refine r_gs C kc_0 clX9 (f := 4) (by decide) rfl (t := 4) rfl tf_RX9_38 dX9_next_10 ?_
    refine r_gf C kc_4 clX6 (f := 0) (by decide) rfl rfl rfl tf_RX9_245 dX9_next_13 h (fun v2 h => ?_)
    refine r_iln C dX9_next_16 (k := 1) rfl ?_
    obtain ⟨r3, hy, h⟩ := q_calp_some h
    refine r_cvi C (st := []) (c_X9_firstFrom C.2.2.1 v2 a0 M r3 hy) tm_RX9_272 mw_X9_firstFrom ⟨rfl, rfl⟩ ⟨Nat.le_of_ble_eq_true rfl, Nat.le_of_ble_eq_true rfl⟩ kc_0 clX9 rfl rfl (Nat.le_of_ble_eq_true rfl) dX9_next_17 ?_
    refine r_aln C dX9_next_20 (k := 0) rfl ?_
    refine r_gs C kc_0 clX9 (f := 4) (by decide) rfl (t := 4) rfl tf_RX9_38 dX9_next_21 ?_
    refine r_gf C kc_4 clX6 (f := 0) (by decide) rfl rfl rfl tf_RX9_245 dX9_next_24 h (fun v4 h => ?_)
    refine r_isub C dX9_next_27 ?_
    refine r_goto C (tgt := 32) dX9_next_28 (by decide) ?_
    exact r_iretp C hr hlk dX9_next_32 h
abbrev rm_X9_off : Room := { frames := 2, cells := 0, slots := 0, locals := 44 }
theorem mw_X9_off : q_mw RX9 yX9_off cX9_off 3 (some .int) 1 := ⟨⟨ti_X9_off, tl_X9_off, tn_RX9, td_X9_off⟩, by decide +kernel⟩
def f_X9_off (a0 : Int) (M : Mem) : Res :=
  q_calp (f_X9_isSoul a0 M) fun r1 =>
  if ¬ w32 r1 = 0 then (q_calp (f_X6_placeOf 4 a0 M) fun r2 =>
  if 0 ≤ w32 r2 then (q_call (f_X6_takeOut 4 r2 M) fun r3 M4 =>
  q_as M4 162 8 a0 3 fun M5 =>
  q_call (f_X0_note 2 a0 r2 M5) fun r6 M7 =>
  q_gf M7 4 9 fun v8 =>
  some (v8, M7))
  else (some ((-1), M)))
  else (some ((-1), M))
theorem c_X9_off {l : Launch} {D : va_G} {ad : Nat → Nat} {cA : Nat → ClassId} (hi : q_inj syC ad) (a0 : Int) (M : Mem) (r0 : Int) (M0 : Mem) (h : f_X9_off a0 M = some (r0, M0)) : q_Met l syC D ad cA yX9_off cX9_off 3 (some .int) rm_X9_off [.ref (ad 0), .int (qI a0)] M (some (.int (qI r0))) M0 := by
  refine q_met (L0 := [(0, .ref (ad 0)), (1, .int (qI a0))]) hi okC (by decide) (Nat.le_of_ble_eq_true rfl) rfl ?_
  intro p e s m args below meth c C hr hlk
  unfold f_X9_off at h
  refine r_aln C dX9_off_0 (k := 0) rfl ?_
  refine r_iln C dX9_off_1 (k := 1) rfl ?_
  obtain ⟨r1, hy, h⟩ := q_calp_some h
  refine r_cvi C (st := []) (c_X9_isSoul C.2.2.1 a0 M r1 hy) tm_RX9_138 mw_X9_isSoul ⟨rfl, rfl⟩ ⟨Nat.le_of_ble_eq_true rfl, Nat.le_of_ble_eq_true rfl⟩ kc_0 clX9 rfl rfl (Nat.le_of_ble_eq_true rfl) dX9_off_2 ?_
  refine r_zne C (tgt := 10) dX9_off_5 (by decide) h (fun h => ?_) (fun h => ?_)
  · refine r_aln C dX9_off_10 (k := 0) rfl ?_
    refine r_gs C kc_0 clX9 (f := 4) (by decide) rfl (t := 4) rfl tf_RX9_38 dX9_off_11 ?_
    refine r_iln C dX9_off_14 (k := 1) rfl ?_
    obtain ⟨r2, hy, h⟩ := q_calp_some h
    refine r_cvi C (st := []) (c_X6_placeOf C.2.2.1 4 (by unfold isS; omega) a0 M r2 hy) tm_RX9_159 mw_X6_placeOf ⟨rfl, rfl⟩ ⟨Nat.le_of_ble_eq_true rfl, Nat.le_of_ble_eq_true rfl⟩ kc_4 clX6 rfl rfl (Nat.le_of_ble_eq_true rfl) dX9_off_15 ?_
    refine r_isn C (L1 := [(2, .int (qI r2)), (0, .ref (ad 0)), (1, .int (qI a0))]) dX9_off_18 (by decide) rfl ?_
    refine r_iln C dX9_off_19 (k := 0) rfl ?_
    refine r_zge C (tgt := 25) dX9_off_20 (by decide) h (fun h => ?_) (fun h => ?_)
    · refine r_aln C dX9_off_25 (k := 1) rfl ?_
      refine r_gs C kc_0 clX9 (f := 4) (by decide) rfl (t := 4) rfl tf_RX9_38 dX9_off_26 ?_
      refine r_iln C dX9_off_29 (k := 0) rfl ?_
      obtain ⟨r3, M4, hy, h⟩ := q_call_some h
      refine r_cvv C (st := []) (c_X6_takeOut C.2.2.1 4 (by unfold isS; omega) r2 M r3 M4 hy) tm_RX9_229 mw_X6_takeOut ⟨rfl, rfl⟩ ⟨Nat.le_of_ble_eq_true rfl, Nat.le_of_ble_eq_true rfl⟩ kc_4 clX6 rfl rfl (Nat.le_of_ble_eq_true rfl) dX9_off_30 ?_
      refine r_aln C dX9_off_33 (k := 1) rfl ?_
      refine r_gs C kc_0 clX9 (f := 4) (by decide) rfl (t := 4) rfl tf_RX9_38 dX9_off_34 ?_
      refine r_gs C kc_4 clX6 (f := 2) (by decide) rfl (t := 162) rfl tf_RX9_149 dX9_off_37 ?_
      refine r_iln C dX9_off_40 (k := 2) rfl ?_
      refine r_ic C dX9_off_41 ?_
      refine r_iast C kc_162 dX9_off_42 h (fun M5 h => ?_)
      refine r_aln C dX9_off_43 (k := 1) rfl ?_
      refine r_gs C kc_0 clX9 (f := 9) (by decide) rfl (t := 8) rfl tf_RX9_64 dX9_off_44 ?_
      refine r_ic C dX9_off_47 ?_
      refine r_iln C dX9_off_48 (k := 2) rfl ?_
      refine r_iln C dX9_off_49 (k := 0) rfl ?_
      obtain ⟨r6, M7, hy, h⟩ := q_call_some h
      refine r_cvv C (st := []) (c_X0_note C.2.2.1 2 a0 r2 M5 r6 M7 hy) tm_RX9_236 mw_X0_note ⟨rfl, rfl⟩ ⟨Nat.le_of_ble_eq_true rfl, Nat.le_of_ble_eq_true rfl⟩ kc_8 clX0 rfl rfl (Nat.le_of_ble_eq_true rfl) dX9_off_50 ?_
      refine r_aln C dX9_off_53 (k := 1) rfl ?_
      refine r_gs C kc_0 clX9 (f := 4) (by decide) rfl (t := 4) rfl tf_RX9_38 dX9_off_54 ?_
      refine r_gf C kc_4 clX6 (f := 9) (by decide) rfl rfl rfl tf_RX9_197 dX9_off_57 h (fun v8 h => ?_)
      exact r_iret C hr hlk dX9_off_60 h
    · refine r_ic C dX9_off_23 ?_
      exact r_iret C hr hlk dX9_off_24 h
  · refine r_ic C dX9_off_8 ?_
    exact r_iret C hr hlk dX9_off_9 h
abbrev rm_X9_order : Room := { frames := 7, cells := 0, slots := 0, locals := 175 }
theorem mw_X9_order : q_mw RX9 yX9_order cX9_order 4 (some .int) 1 := ⟨⟨ti_X9_order, tl_X9_order, tn_RX9, td_X9_order⟩, by decide +kernel⟩
def f_X9_order (a0 : Int) (M : Mem) : Res :=
  if w32 a0 < 0 then (some ((-1), M))
  else (if w32 a0 ≤ w32 4 then (q_gf M 4 9 fun v1 =>
  q_call (f_X9_bestOrder (q_min v1 4) M) fun r2 M3 =>
  if ¬ w32 a0 = w32 4 then (if w32 (q_min v1 4) ≤ w32 a0 then (some ((-2), M3))
  else (q_al M3 45 4 a0 fun v4 =>
  some (v4, M3)))
  else (some (r2, M3)))
  else (some ((-1), M)))
theorem c_X9_order {l : Launch} {D : va_G} {ad : Nat → Nat} {cA : Nat → ClassId} (hi : q_inj syC ad) (a0 : Int) (M : Mem) (r0 : Int) (M0 : Mem) (h : f_X9_order a0 M = some (r0, M0)) : q_Met l syC D ad cA yX9_order cX9_order 4 (some .int) rm_X9_order [.ref (ad 0), .int (qI a0)] M (some (.int (qI r0))) M0 := by
  refine q_met (L0 := [(0, .ref (ad 0)), (1, .int (qI a0))]) hi okC (by decide) (Nat.le_of_ble_eq_true rfl) rfl ?_
  intro p e s m args below meth c C hr hlk
  unfold f_X9_order at h
  refine r_iln C dX9_order_0 (k := 1) rfl ?_
  refine r_zlt C (tgt := 9) dX9_order_1 (by decide) h (fun h => ?_) (fun h => ?_)
  · refine r_ic C dX9_order_9 ?_
    exact r_iret C hr hlk dX9_order_10 h
  · refine r_iln C dX9_order_4 (k := 1) rfl ?_
    refine r_ic C dX9_order_5 ?_
    refine r_cle C (tgt := 11) dX9_order_6 (by decide) h (fun h => ?_) (fun h => ?_)
    · refine r_aln C dX9_order_11 (k := 0) rfl ?_
      refine r_gs C kc_0 clX9 (f := 4) (by decide) rfl (t := 4) rfl tf_RX9_38 dX9_order_12 ?_
      refine r_gf C kc_4 clX6 (f := 9) (by decide) rfl rfl rfl tf_RX9_197 dX9_order_15 h (fun v1 h => ?_)
      refine r_ic C dX9_order_18 ?_
      refine r_q_min C (st := []) tm_RX9_239 ⟨Nat.le_of_ble_eq_true rfl, Nat.le_of_ble_eq_true rfl⟩ dX9_order_19 ?_
      refine r_isn C (L1 := [(2, .int (qI (q_min v1 4))), (0, .ref (ad 0)), (1, .int (qI a0))]) dX9_order_22 (by decide) rfl ?_
      refine r_aln C dX9_order_23 (k := 1) rfl ?_
      refine r_iln C dX9_order_24 (k := 0) rfl ?_
      obtain ⟨r2, M3, hy, h⟩ := q_call_some h
      refine r_cvi C (st := []) (c_X9_bestOrder C.2.2.1 (q_min v1 4) M r2 M3 hy) tm_RX9_285 mw_X9_bestOrder ⟨rfl, rfl⟩ ⟨Nat.le_of_ble_eq_true rfl, Nat.le_of_ble_eq_true rfl⟩ kc_0 clX9 rfl rfl (Nat.le_of_ble_eq_true rfl) dX9_order_25 ?_
      refine r_isn C (L1 := [(3, .int (qI r2)), (2, .int (qI (q_min v1 4))), (0, .ref (ad 0)), (1, .int (qI a0))]) dX9_order_28 (by decide) rfl ?_
      refine r_iln C dX9_order_29 (k := 3) rfl ?_
      refine r_ic C dX9_order_30 ?_
      refine r_cne C (tgt := 36) dX9_order_31 (by decide) h (fun h => ?_) (fun h => ?_)
      · refine r_iln C dX9_order_36 (k := 3) rfl ?_
        refine r_iln C dX9_order_37 (k := 1) rfl ?_
        refine r_cge C (tgt := 50) dX9_order_38 (by decide) h (fun h => ?_) (fun h => ?_)
        · refine r_bi C dX9_order_50 (by decide) ?_
          exact r_iret C hr hlk dX9_order_52 h
        · refine r_aln C dX9_order_41 (k := 2) rfl ?_
          refine r_gs C kc_0 clX9 (f := 13) (by decide) rfl (t := 45) rfl tf_RX9_82 dX9_order_42 ?_
          refine r_iln C dX9_order_45 (k := 3) rfl ?_
          refine r_iald C kc_45 dX9_order_46 h (fun v4 h => ?_)
          refine r_goto C (tgt := 52) dX9_order_47 (by decide) ?_
          exact r_iret C hr hlk dX9_order_52 h
      · refine r_iln C dX9_order_34 (k := 0) rfl ?_
        exact r_iret C hr hlk dX9_order_35 h
    · refine r_ic C dX9_order_9 ?_
      exact r_iret C hr hlk dX9_order_10 h
abbrev rm_X9_queue : Room := { frames := 0, cells := 0, slots := 0, locals := 0 }
theorem mw_X9_queue : q_mw RX9 yX9_queue cX9_queue 2 (some .int) 1 := ⟨⟨ti_X9_queue, tl_X9_queue, tn_RX9, td_X9_queue⟩, by decide +kernel⟩
def f_X9_queue (a0 : Int) (M : Mem) : Option Int :=
  if w32 a0 < 0 then (some (-1))
  else (if w32 a0 < w32 8 then (q_gf M 4 9 fun v1 =>
  if w32 v1 ≤ w32 a0 then (some (-2))
  else (q_al M 168 8 a0 fun v2 =>
  some v2))
  else (some (-1)))
theorem c_X9_queue {l : Launch} {D : va_G} {ad : Nat → Nat} {cA : Nat → ClassId} (hi : q_inj syC ad) (a0 : Int) (M : Mem) (r0 : Int) (h : f_X9_queue a0 M = some r0) : q_Met l syC D ad cA yX9_queue cX9_queue 2 (some .int) rm_X9_queue [.ref (ad 0), .int (qI a0)] M (some (.int (qI r0))) M := by
  refine q_met (L0 := [(0, .ref (ad 0)), (1, .int (qI a0))]) hi okC (by decide) (Nat.le_of_ble_eq_true rfl) rfl ?_
  intro p e s m args below meth c C hr hlk
  unfold f_X9_queue at h
  refine r_iln C dX9_queue_0 (k := 1) rfl ?_
  refine r_zlt C (tgt := 10) dX9_queue_1 (by decide) h (fun h => ?_) (fun h => ?_)
  · refine r_ic C dX9_queue_10 ?_
    exact r_iretp C hr hlk dX9_queue_11 h
  · refine r_iln C dX9_queue_4 (k := 1) rfl ?_
    refine r_bi C dX9_queue_5 (by decide) ?_
    refine r_clt C (tgt := 12) dX9_queue_7 (by decide) h (fun h => ?_) (fun h => ?_)
    · refine r_iln C dX9_queue_12 (k := 1) rfl ?_
      refine r_aln C dX9_queue_13 (k := 0) rfl ?_
      refine r_gs C kc_0 clX9 (f := 4) (by decide) rfl (t := 4) rfl tf_RX9_38 dX9_queue_14 ?_
      refine r_gf C kc_4 clX6 (f := 9) (by decide) rfl rfl rfl tf_RX9_197 dX9_queue_17 h (fun v1 h => ?_)
      refine r_cge C (tgt := 35) dX9_queue_20 (by decide) h (fun h => ?_) (fun h => ?_)
      · refine r_bi C dX9_queue_35 (by decide) ?_
        exact r_iretp C hr hlk dX9_queue_37 h
      · refine r_aln C dX9_queue_23 (k := 0) rfl ?_
        refine r_gs C kc_0 clX9 (f := 4) (by decide) rfl (t := 4) rfl tf_RX9_38 dX9_queue_24 ?_
        refine r_gs C kc_4 clX6 (f := 8) (by decide) rfl (t := 168) rfl tf_RX9_200 dX9_queue_27 ?_
        refine r_iln C dX9_queue_30 (k := 1) rfl ?_
        refine r_iald C kc_168 dX9_queue_31 h (fun v2 h => ?_)
        refine r_goto C (tgt := 37) dX9_queue_32 (by decide) ?_
        exact r_iretp C hr hlk dX9_queue_37 h
    · refine r_ic C dX9_queue_10 ?_
      exact r_iretp C hr hlk dX9_queue_11 h
abbrev rm_X9_rest : Room := { frames := 2, cells := 0, slots := 0, locals := 48 }
theorem mw_X9_rest : q_mw RX9 yX9_rest cX9_rest 6 (some .int) 3 := ⟨⟨ti_X9_rest, tl_X9_rest, tn_RX9, td_X9_rest⟩, by decide +kernel⟩
def f_X9_rest_B33 (x1 : Int) (x2 : Int) (x3 : Int) (M : Mem) (x4 : Int) (x5 : Int) (g33 : Int → Int → Option Int) : Option Int :=
  if w32 4 ≤ w32 x5 then (some (-2))
  else (q_calp (f_X9_isRest x1 x2 (q_shr x5 1) (q_and x5 1) M) fun r1 =>
  if w32 r1 = 0 then (g33 x4 (x5 + 1))
  else (if ¬ w32 x4 = w32 x3 then (g33 (x4 + 1) (x5 + 1))
  else (some ((10 * (q_shr x5 1)) + (q_and x5 1)))))
def f_X9_rest_L33 (x1 : Int) (x2 : Int) (x3 : Int) (M : Mem) (n : Nat) (x4 : Int) (x5 : Int) : Option Int := qlp2 (fun x4 x5 g33 => f_X9_rest_B33 x1 x2 x3 M x4 x5 g33) n x4 x5
theorem w_X9_rest_B33 (C : Cx syC p m c cX9_rest 6 s args RX9 D ad cA) (hr : meth.sig.returnType = (some .int)) (hlk : meth.locks = false)  (x1 : Int) (x2 : Int) (x3 : Int) (x4 : Int) (x5 : Int) (M : Mem) (g33 : Int → Int → Option Int)  (ih33 : ∀ (ux4 ux5 : Int) , g33 ux4 ux5  = some r0 → WM syC p l e rm_X9_rest s m args below meth c 6 D ad cA (MQ below (q_Post syC D ad cA (some (.int (qI r0))) M) args s 0 0 (q_A syC ad)) M 33 [(0, .ref (ad 0)), (1, .int (qI x1)), (2, .int (qI x2)), (3, .int (qI x3)), (4, .int (qI ux4)), (5, .int (qI ux5))] []) (h : f_X9_rest_B33 x1 x2 x3 M x4 x5 g33 = some r0) : WM syC p l e rm_X9_rest s m args below meth c 6 D ad cA (MQ below (q_Post syC D ad cA (some (.int (qI r0))) M) args s 0 0 (q_A syC ad)) M 33 [(0, .ref (ad 0)), (1, .int (qI x1)), (2, .int (qI x2)), (3, .int (qI x3)), (4, .int (qI x4)), (5, .int (qI x5))] [] := by
  unfold f_X9_rest_B33 at h
  refine r_il C dX9_rest_33 (k := 5) rfl ?_
  refine r_ic C dX9_rest_35 ?_
  refine r_cge C (tgt := 84) dX9_rest_36 (by decide) h (fun h => ?_) (fun h => ?_)
  · refine r_bi C dX9_rest_84 (by decide) ?_
    exact r_iretp C hr hlk dX9_rest_86 h
  · refine r_aln C dX9_rest_39 (k := 0) rfl ?_
    refine r_iln C dX9_rest_40 (k := 1) rfl ?_
    refine r_iln C dX9_rest_41 (k := 2) rfl ?_
    refine r_il C dX9_rest_42 (k := 5) rfl ?_
    refine r_ic C dX9_rest_44 ?_
    refine r_ishr C dX9_rest_45 ?_
    refine r_il C dX9_rest_46 (k := 5) rfl ?_
    refine r_ic C dX9_rest_48 ?_
    refine r_iand C dX9_rest_49 ?_
    obtain ⟨r1, hy, h⟩ := q_calp_some h
    refine r_cvi C (st := []) (c_X9_isRest C.2.2.1 x1 x2 (q_shr x5 1) (q_and x5 1) M r1 hy) tm_RX9_322 mw_X9_isRest ⟨rfl, rfl⟩ ⟨Nat.le_of_ble_eq_true rfl, Nat.le_of_ble_eq_true rfl⟩ kc_0 clX9 rfl rfl (Nat.le_of_ble_eq_true rfl) dX9_rest_50 ?_
    refine r_zeq C (tgt := 78) dX9_rest_53 (by decide) h (fun h => ?_) (fun h => ?_)
    · refine r_inc C (L1 := [(5, .int (qI (x5 + 1))), (0, .ref (ad 0)), (1, .int (qI x1)), (2, .int (qI x2)), (3, .int (qI x3)), (4, .int (qI x4))]) dX9_rest_78 (k := 5) rfl (by decide) rfl ?_
      refine r_goto C (tgt := 33) dX9_rest_81 (by decide) ?_
      refine r_drop [1, 2, 3, 4, 5, 0] rfl ?_
      exact ih33 x4 (x5 + 1)  h
    · refine r_il C dX9_rest_56 (k := 4) rfl ?_
      refine r_iln C dX9_rest_58 (k := 3) rfl ?_
      refine r_cne C (tgt := 75) dX9_rest_59 (by decide) h (fun h => ?_) (fun h => ?_)
      · refine r_inc C (L1 := [(4, .int (qI (x4 + 1))), (0, .ref (ad 0)), (1, .int (qI x1)), (2, .int (qI x2)), (3, .int (qI x3)), (5, .int (qI x5))]) dX9_rest_75 (k := 4) rfl (by decide) rfl ?_
        refine r_inc C (L1 := [(5, .int (qI (x5 + 1))), (4, .int (qI (x4 + 1))), (0, .ref (ad 0)), (1, .int (qI x1)), (2, .int (qI x2)), (3, .int (qI x3))]) dX9_rest_78 (k := 5) rfl (by decide) rfl ?_
        refine r_goto C (tgt := 33) dX9_rest_81 (by decide) ?_
        refine r_drop [2, 3, 4, 5, 1, 0] rfl ?_
        exact ih33 (x4 + 1) (x5 + 1)  h
      · refine r_bi C dX9_rest_62 (by decide) ?_
        refine r_il C dX9_rest_64 (k := 5) rfl ?_
        refine r_ic C dX9_rest_66 ?_
        refine r_ishr C dX9_rest_67 ?_
        refine r_imul C dX9_rest_68 ?_
        refine r_il C dX9_rest_69 (k := 5) rfl ?_
        refine r_ic C dX9_rest_71 ?_
        refine r_iand C dX9_rest_72 ?_
        refine r_iadd C dX9_rest_73 ?_
        exact r_iretp C hr hlk dX9_rest_74 h
theorem w_X9_rest_L33 (C : Cx syC p m c cX9_rest 6 s args RX9 D ad cA) (hr : meth.sig.returnType = (some .int)) (hlk : meth.locks = false)  (x1 : Int) (x2 : Int) (x3 : Int) (M : Mem)  (n : Nat) (x4 : Int) (x5 : Int) (h : f_X9_rest_L33 x1 x2 x3 M n x4 x5 = some r0) : WM syC p l e rm_X9_rest s m args below meth c 6 D ad cA (MQ below (q_Post syC D ad cA (some (.int (qI r0))) M) args s 0 0 (q_A syC ad)) M 33 [(0, .ref (ad 0)), (1, .int (qI x1)), (2, .int (qI x2)), (3, .int (qI x3)), (4, .int (qI x4)), (5, .int (qI x5))] [] :=
  qlp2_r (Wp := fun ux4 ux5 => WM syC p l e rm_X9_rest s m args below meth c 6 D ad cA (MQ below (q_Post syC D ad cA (some (.int (qI r0))) M) args s 0 0 (q_A syC ad)) M 33 [(0, .ref (ad 0)), (1, .int (qI x1)), (2, .int (qI x2)), (3, .int (qI x3)), (4, .int (qI ux4)), (5, .int (qI ux5))] []) (fun ux4 ux5 g33 ih33 h => w_X9_rest_B33 C hr hlk x1 x2 x3 ux4 ux5 M g33  ih33 h) n x4 x5 h
def f_X9_rest (a0 : Int) (a1 : Int) (a2 : Int) (M : Mem) : Option Int :=
  q_calp (f_X9_isSoul a0 M) fun r1 =>
  if w32 r1 = 0 then (some (-1))
  else (q_calp (f_X9_isSoul a1 M) fun r2 =>
  if w32 r2 = 0 then (some (-1))
  else (if w32 a0 = w32 a1 then (some (-1))
  else (if 0 ≤ w32 a2 then (f_X9_rest_L33 a0 a1 a2 M q_N 0 0)
  else (some (-1)))))
theorem c_X9_rest {l : Launch} {D : va_G} {ad : Nat → Nat} {cA : Nat → ClassId} (hi : q_inj syC ad) (a0 : Int) (a1 : Int) (a2 : Int) (M : Mem) (r0 : Int) (h : f_X9_rest a0 a1 a2 M = some r0) : q_Met l syC D ad cA yX9_rest cX9_rest 6 (some .int) rm_X9_rest [.ref (ad 0), .int (qI a0), .int (qI a1), .int (qI a2)] M (some (.int (qI r0))) M := by
  refine q_met (L0 := [(0, .ref (ad 0)), (1, .int (qI a0)), (2, .int (qI a1)), (3, .int (qI a2))]) hi okC (by decide) (Nat.le_of_ble_eq_true rfl) rfl ?_
  intro p e s m args below meth c C hr hlk
  unfold f_X9_rest at h
  refine r_aln C dX9_rest_0 (k := 0) rfl ?_
  refine r_iln C dX9_rest_1 (k := 1) rfl ?_
  obtain ⟨r1, hy, h⟩ := q_calp_some h
  refine r_cvi C (st := []) (c_X9_isSoul C.2.2.1 a0 M r1 hy) tm_RX9_138 mw_X9_isSoul ⟨rfl, rfl⟩ ⟨Nat.le_of_ble_eq_true rfl, Nat.le_of_ble_eq_true rfl⟩ kc_0 clX9 rfl rfl (Nat.le_of_ble_eq_true rfl) dX9_rest_2 ?_
  refine r_zeq C (tgt := 25) dX9_rest_5 (by decide) h (fun h => ?_) (fun h => ?_)
  · refine r_ic C dX9_rest_25 ?_
    exact r_iretp C hr hlk dX9_rest_26 h
  · refine r_aln C dX9_rest_8 (k := 0) rfl ?_
    refine r_iln C dX9_rest_9 (k := 2) rfl ?_
    obtain ⟨r2, hy, h⟩ := q_calp_some h
    refine r_cvi C (st := []) (c_X9_isSoul C.2.2.1 a1 M r2 hy) tm_RX9_138 mw_X9_isSoul ⟨rfl, rfl⟩ ⟨Nat.le_of_ble_eq_true rfl, Nat.le_of_ble_eq_true rfl⟩ kc_0 clX9 rfl rfl (Nat.le_of_ble_eq_true rfl) dX9_rest_10 ?_
    refine r_zeq C (tgt := 25) dX9_rest_13 (by decide) h (fun h => ?_) (fun h => ?_)
    · refine r_ic C dX9_rest_25 ?_
      exact r_iretp C hr hlk dX9_rest_26 h
    · refine r_iln C dX9_rest_16 (k := 1) rfl ?_
      refine r_iln C dX9_rest_17 (k := 2) rfl ?_
      refine r_ceq C (tgt := 25) dX9_rest_18 (by decide) h (fun h => ?_) (fun h => ?_)
      · refine r_ic C dX9_rest_25 ?_
        exact r_iretp C hr hlk dX9_rest_26 h
      · refine r_iln C dX9_rest_21 (k := 3) rfl ?_
        refine r_zge C (tgt := 27) dX9_rest_22 (by decide) h (fun h => ?_) (fun h => ?_)
        · refine r_ic C dX9_rest_27 ?_
          refine r_is C (L1 := [(4, .int (qI 0)), (0, .ref (ad 0)), (1, .int (qI a0)), (2, .int (qI a1)), (3, .int (qI a2))]) dX9_rest_28 (by decide) rfl ?_
          refine r_ic C dX9_rest_30 ?_
          refine r_is C (L1 := [(5, .int (qI 0)), (4, .int (qI 0)), (0, .ref (ad 0)), (1, .int (qI a0)), (2, .int (qI a1)), (3, .int (qI a2))]) dX9_rest_31 (by decide) rfl ?_
          refine r_drop [2, 3, 4, 5, 1, 0] rfl ?_
          exact w_X9_rest_L33 C hr hlk a0 a1 a2 M  q_N 0 0 h
        · refine r_ic C dX9_rest_25 ?_
          exact r_iretp C hr hlk dX9_rest_26 h
abbrev rm_X9_rests : Room := { frames := 2, cells := 0, slots := 0, locals := 48 }
theorem mw_X9_rests : q_mw RX9 yX9_rests cX9_rests 5 (some .int) 2 := ⟨⟨ti_X9_rests, tl_X9_rests, tn_RX9, td_X9_rests⟩, by decide +kernel⟩
def f_X9_rests_B28 (x1 : Int) (x2 : Int) (M : Mem) (x3 : Int) (x4 : Int) (g28 : Int → Int → Option Int) : Option Int :=
  if w32 4 ≤ w32 x4 then (some x3)
  else (q_calp (f_X9_isRest x1 x2 (q_shr x4 1) (q_and x4 1) M) fun r1 =>
  if w32 r1 = 0 then (g28 x3 (x4 + 1))
  else (g28 (x3 + 1) (x4 + 1)))
def f_X9_rests_L28 (x1 : Int) (x2 : Int) (M : Mem) (n : Nat) (x3 : Int) (x4 : Int) : Option Int := qlp2 (fun x3 x4 g28 => f_X9_rests_B28 x1 x2 M x3 x4 g28) n x3 x4
theorem w_X9_rests_B28 (C : Cx syC p m c cX9_rests 5 s args RX9 D ad cA) (hr : meth.sig.returnType = (some .int)) (hlk : meth.locks = false)  (x1 : Int) (x2 : Int) (x3 : Int) (x4 : Int) (M : Mem) (g28 : Int → Int → Option Int)  (ih28 : ∀ (ux3 ux4 : Int) , g28 ux3 ux4  = some r0 → WM syC p l e rm_X9_rests s m args below meth c 5 D ad cA (MQ below (q_Post syC D ad cA (some (.int (qI r0))) M) args s 0 0 (q_A syC ad)) M 28 [(0, .ref (ad 0)), (1, .int (qI x1)), (2, .int (qI x2)), (3, .int (qI ux3)), (4, .int (qI ux4))] []) (h : f_X9_rests_B28 x1 x2 M x3 x4 g28 = some r0) : WM syC p l e rm_X9_rests s m args below meth c 5 D ad cA (MQ below (q_Post syC D ad cA (some (.int (qI r0))) M) args s 0 0 (q_A syC ad)) M 28 [(0, .ref (ad 0)), (1, .int (qI x1)), (2, .int (qI x2)), (3, .int (qI x3)), (4, .int (qI x4))] [] := by
  unfold f_X9_rests_B28 at h
  refine r_il C dX9_rests_28 (k := 4) rfl ?_
  refine r_ic C dX9_rests_30 ?_
  refine r_cge C (tgt := 60) dX9_rests_31 (by decide) h (fun h => ?_) (fun h => ?_)
  · refine r_iln C dX9_rests_60 (k := 3) rfl ?_
    exact r_iretp C hr hlk dX9_rests_61 h
  · refine r_aln C dX9_rests_34 (k := 0) rfl ?_
    refine r_iln C dX9_rests_35 (k := 1) rfl ?_
    refine r_iln C dX9_rests_36 (k := 2) rfl ?_
    refine r_il C dX9_rests_37 (k := 4) rfl ?_
    refine r_ic C dX9_rests_39 ?_
    refine r_ishr C dX9_rests_40 ?_
    refine r_il C dX9_rests_41 (k := 4) rfl ?_
    refine r_ic C dX9_rests_43 ?_
    refine r_iand C dX9_rests_44 ?_
    obtain ⟨r1, hy, h⟩ := q_calp_some h
    refine r_cvi C (st := []) (c_X9_isRest C.2.2.1 x1 x2 (q_shr x4 1) (q_and x4 1) M r1 hy) tm_RX9_322 mw_X9_isRest ⟨rfl, rfl⟩ ⟨Nat.le_of_ble_eq_true rfl, Nat.le_of_ble_eq_true rfl⟩ kc_0 clX9 rfl rfl (Nat.le_of_ble_eq_true rfl) dX9_rests_45 ?_
    refine r_zeq C (tgt := 54) dX9_rests_48 (by decide) h (fun h => ?_) (fun h => ?_)
    · refine r_inc C (L1 := [(4, .int (qI (x4 + 1))), (0, .ref (ad 0)), (1, .int (qI x1)), (2, .int (qI x2)), (3, .int (qI x3))]) dX9_rests_54 (k := 4) rfl (by decide) rfl ?_
      refine r_goto C (tgt := 28) dX9_rests_57 (by decide) ?_
      refine r_drop [1, 2, 3, 4, 0] rfl ?_
      exact ih28 x3 (x4 + 1)  h
    · refine r_inc C (L1 := [(3, .int (qI (x3 + 1))), (0, .ref (ad 0)), (1, .int (qI x1)), (2, .int (qI x2)), (4, .int (qI x4))]) dX9_rests_51 (k := 3) rfl (by decide) rfl ?_
      refine r_inc C (L1 := [(4, .int (qI (x4 + 1))), (3, .int (qI (x3 + 1))), (0, .ref (ad 0)), (1, .int (qI x1)), (2, .int (qI x2))]) dX9_rests_54 (k := 4) rfl (by decide) rfl ?_
      refine r_goto C (tgt := 28) dX9_rests_57 (by decide) ?_
      refine r_drop [2, 3, 4, 1, 0] rfl ?_
      exact ih28 (x3 + 1) (x4 + 1)  h
theorem w_X9_rests_L28 (C : Cx syC p m c cX9_rests 5 s args RX9 D ad cA) (hr : meth.sig.returnType = (some .int)) (hlk : meth.locks = false)  (x1 : Int) (x2 : Int) (M : Mem)  (n : Nat) (x3 : Int) (x4 : Int) (h : f_X9_rests_L28 x1 x2 M n x3 x4 = some r0) : WM syC p l e rm_X9_rests s m args below meth c 5 D ad cA (MQ below (q_Post syC D ad cA (some (.int (qI r0))) M) args s 0 0 (q_A syC ad)) M 28 [(0, .ref (ad 0)), (1, .int (qI x1)), (2, .int (qI x2)), (3, .int (qI x3)), (4, .int (qI x4))] [] :=
  qlp2_r (Wp := fun ux3 ux4 => WM syC p l e rm_X9_rests s m args below meth c 5 D ad cA (MQ below (q_Post syC D ad cA (some (.int (qI r0))) M) args s 0 0 (q_A syC ad)) M 28 [(0, .ref (ad 0)), (1, .int (qI x1)), (2, .int (qI x2)), (3, .int (qI ux3)), (4, .int (qI ux4))] []) (fun ux3 ux4 g28 ih28 h => w_X9_rests_B28 C hr hlk x1 x2 ux3 ux4 M g28  ih28 h) n x3 x4 h
def f_X9_rests (a0 : Int) (a1 : Int) (M : Mem) : Option Int :=
  q_calp (f_X9_isSoul a0 M) fun r1 =>
  if w32 r1 = 0 then (some (-1))
  else (q_calp (f_X9_isSoul a1 M) fun r2 =>
  if w32 r2 = 0 then (some (-1))
  else (if ¬ w32 a0 = w32 a1 then (f_X9_rests_L28 a0 a1 M q_N 0 0)
  else (some (-1))))
theorem c_X9_rests {l : Launch} {D : va_G} {ad : Nat → Nat} {cA : Nat → ClassId} (hi : q_inj syC ad) (a0 : Int) (a1 : Int) (M : Mem) (r0 : Int) (h : f_X9_rests a0 a1 M = some r0) : q_Met l syC D ad cA yX9_rests cX9_rests 5 (some .int) rm_X9_rests [.ref (ad 0), .int (qI a0), .int (qI a1)] M (some (.int (qI r0))) M := by
  refine q_met (L0 := [(0, .ref (ad 0)), (1, .int (qI a0)), (2, .int (qI a1))]) hi okC (by decide) (Nat.le_of_ble_eq_true rfl) rfl ?_
  intro p e s m args below meth c C hr hlk
  unfold f_X9_rests at h
  refine r_aln C dX9_rests_0 (k := 0) rfl ?_
  refine r_iln C dX9_rests_1 (k := 1) rfl ?_
  obtain ⟨r1, hy, h⟩ := q_calp_some h
  refine r_cvi C (st := []) (c_X9_isSoul C.2.2.1 a0 M r1 hy) tm_RX9_138 mw_X9_isSoul ⟨rfl, rfl⟩ ⟨Nat.le_of_ble_eq_true rfl, Nat.le_of_ble_eq_true rfl⟩ kc_0 clX9 rfl rfl (Nat.le_of_ble_eq_true rfl) dX9_rests_2 ?_
  refine r_zeq C (tgt := 21) dX9_rests_5 (by decide) h (fun h => ?_) (fun h => ?_)
  · refine r_ic C dX9_rests_21 ?_
    exact r_iretp C hr hlk dX9_rests_22 h
  · refine r_aln C dX9_rests_8 (k := 0) rfl ?_
    refine r_iln C dX9_rests_9 (k := 2) rfl ?_
    obtain ⟨r2, hy, h⟩ := q_calp_some h
    refine r_cvi C (st := []) (c_X9_isSoul C.2.2.1 a1 M r2 hy) tm_RX9_138 mw_X9_isSoul ⟨rfl, rfl⟩ ⟨Nat.le_of_ble_eq_true rfl, Nat.le_of_ble_eq_true rfl⟩ kc_0 clX9 rfl rfl (Nat.le_of_ble_eq_true rfl) dX9_rests_10 ?_
    refine r_zeq C (tgt := 21) dX9_rests_13 (by decide) h (fun h => ?_) (fun h => ?_)
    · refine r_ic C dX9_rests_21 ?_
      exact r_iretp C hr hlk dX9_rests_22 h
    · refine r_iln C dX9_rests_16 (k := 1) rfl ?_
      refine r_iln C dX9_rests_17 (k := 2) rfl ?_
      refine r_cne C (tgt := 23) dX9_rests_18 (by decide) h (fun h => ?_) (fun h => ?_)
      · refine r_ic C dX9_rests_23 ?_
        refine r_isn C (L1 := [(3, .int (qI 0)), (0, .ref (ad 0)), (1, .int (qI a0)), (2, .int (qI a1))]) dX9_rests_24 (by decide) rfl ?_
        refine r_ic C dX9_rests_25 ?_
        refine r_is C (L1 := [(4, .int (qI 0)), (3, .int (qI 0)), (0, .ref (ad 0)), (1, .int (qI a0)), (2, .int (qI a1))]) dX9_rests_26 (by decide) rfl ?_
        refine r_drop [2, 3, 4, 1, 0] rfl ?_
        exact w_X9_rests_L28 C hr hlk a0 a1 M  q_N 0 0 h
      · refine r_ic C dX9_rests_21 ?_
        exact r_iretp C hr hlk dX9_rests_22 h
abbrev rm_X9_see : Room := { frames := 1, cells := 0, slots := 0, locals := 23 }
theorem mw_X9_see : q_mw RX9 yX9_see cX9_see 4 (some .int) 3 := ⟨⟨ti_X9_see, tl_X9_see, tn_RX9, td_X9_see⟩, by decide +kernel⟩
def f_X9_see_J36 (y0 : Int) (y1 : Int) (y2 : Int) (M : Mem) : Res :=
  q_call (f_X5_add y2 y1 y0 M) fun r1 M2 =>
  some (r1, M2)
theorem w_X9_see_J36 (C : Cx syC p m c cX9_see 4 s args RX9 D ad cA) (hr : meth.sig.returnType = (some .int)) (hlk : meth.locks = false) (y0 : Int) (y1 : Int) (y2 : Int) (M : Mem)  (h : f_X9_see_J36 y0 y1 y2 M = some (r0, M0)) : WM syC p l e rm_X9_see s m args below meth c 4 D ad cA (MQ below (q_Post syC D ad cA (some (.int (qI r0))) M0) args s 0 0 (q_A syC ad)) M 36 [] [.int (qI y0), .int (qI y1), .int (qI y2), .ref (ad 9)] := by
  unfold f_X9_see_J36 at h
  obtain ⟨r1, M2, hy, h⟩ := q_call_some h
  refine r_cvi C (st := []) (c_X5_add C.2.2.1 y2 y1 y0 M r1 M2 hy) tm_RX9_338 mw_X5_add ⟨rfl, rfl⟩ ⟨Nat.le_of_ble_eq_true rfl, Nat.le_of_ble_eq_true rfl⟩ kc_9 clX5 rfl rfl (Nat.le_of_ble_eq_true rfl) dX9_see_36 ?_
  exact r_iret C hr hlk dX9_see_39 h
def f_X9_see (a0 : Int) (a1 : Int) (a2 : Int) (M : Mem) : Res :=
  if w32 a0 < w32 1 then (some ((-1), M))
  else (if w32 60 < w32 a0 then (some ((-1), M))
  else (q_calp (f_X9_isSoul a1 M) fun r1 =>
  if ¬ w32 r1 = 0 then (if w32 a2 = 0 then (f_X9_see_J36 1 a1 a0 M)
  else (f_X9_see_J36 0 a1 a0 M))
  else (some ((-1), M))))
theorem c_X9_see {l : Launch} {D : va_G} {ad : Nat → Nat} {cA : Nat → ClassId} (hi : q_inj syC ad) (a0 : Int) (a1 : Int) (a2 : Int) (M : Mem) (r0 : Int) (M0 : Mem) (h : f_X9_see a0 a1 a2 M = some (r0, M0)) : q_Met l syC D ad cA yX9_see cX9_see 4 (some .int) rm_X9_see [.ref (ad 0), .int (qI a0), .int (qI a1), .int (qI a2)] M (some (.int (qI r0))) M0 := by
  refine q_met (L0 := [(0, .ref (ad 0)), (1, .int (qI a0)), (2, .int (qI a1)), (3, .int (qI a2))]) hi okC (by decide) (Nat.le_of_ble_eq_true rfl) rfl ?_
  intro p e s m args below meth c C hr hlk
  unfold f_X9_see at h
  refine r_iln C dX9_see_0 (k := 1) rfl ?_
  refine r_ic C dX9_see_1 ?_
  refine r_clt C (tgt := 19) dX9_see_2 (by decide) h (fun h => ?_) (fun h => ?_)
  · refine r_ic C dX9_see_19 ?_
    exact r_iret C hr hlk dX9_see_20 h
  · refine r_iln C dX9_see_5 (k := 1) rfl ?_
    refine r_bi C dX9_see_6 (by decide) ?_
    refine r_cgt C (tgt := 19) dX9_see_8 (by decide) h (fun h => ?_) (fun h => ?_)
    · refine r_ic C dX9_see_19 ?_
      exact r_iret C hr hlk dX9_see_20 h
    · refine r_aln C dX9_see_11 (k := 0) rfl ?_
      refine r_iln C dX9_see_12 (k := 2) rfl ?_
      obtain ⟨r1, hy, h⟩ := q_calp_some h
      refine r_cvi C (st := []) (c_X9_isSoul C.2.2.1 a1 M r1 hy) tm_RX9_138 mw_X9_isSoul ⟨rfl, rfl⟩ ⟨Nat.le_of_ble_eq_true rfl, Nat.le_of_ble_eq_true rfl⟩ kc_0 clX9 rfl rfl (Nat.le_of_ble_eq_true rfl) dX9_see_13 ?_
      refine r_zne C (tgt := 21) dX9_see_16 (by decide) h (fun h => ?_) (fun h => ?_)
      · refine r_aln C dX9_see_21 (k := 0) rfl ?_
        refine r_gs C kc_0 clX9 (f := 10) (by decide) rfl (t := 9) rfl tf_RX9_71 dX9_see_22 ?_
        refine r_iln C dX9_see_25 (k := 1) rfl ?_
        refine r_iln C dX9_see_26 (k := 2) rfl ?_
        refine r_iln C dX9_see_27 (k := 3) rfl ?_
        refine r_zeq C (tgt := 35) dX9_see_28 (by decide) h (fun h => ?_) (fun h => ?_)
        · refine r_ic C dX9_see_35 ?_
          refine r_drop [] rfl ?_
          exact w_X9_see_J36 C hr hlk 1 a1 a0 M  h
        · refine r_ic C dX9_see_31 ?_
          refine r_goto C (tgt := 36) dX9_see_32 (by decide) ?_
          refine r_drop [] rfl ?_
          exact w_X9_see_J36 C hr hlk 0 a1 a0 M  h
      · refine r_ic C dX9_see_19 ?_
        exact r_iret C hr hlk dX9_see_20 h
abbrev rm_X9_sendAway : Room := { frames := 1, cells := 0, slots := 0, locals := 22 }
theorem mw_X9_sendAway : q_mw RX9 yX9_sendAway cX9_sendAway 3 none 1 := ⟨⟨ti_X9_sendAway, tl_X9_sendAway, tn_RX9, td_X9_sendAway⟩, by decide +kernel⟩
def f_X9_sendAway_J35 (x1 : Int) (M : Mem) : Res :=
  q_as M 194 8 x1 3 fun M1 =>
  some (0, M1)
theorem w_X9_sendAway_J35 (C : Cx syC p m c cX9_sendAway 3 s args RX9 D ad cA) (hr : meth.sig.returnType = none) (hlk : meth.locks = false) (x1 : Int) (M : Mem)  (h : f_X9_sendAway_J35 x1 M = some (r0, M0)) : WM syC p l e rm_X9_sendAway s m args below meth c 3 D ad cA (MQ below (q_Post syC D ad cA none M0) args s 0 0 (q_A syC ad)) M 35 [(0, .ref (ad 0)), (1, .int (qI x1))] [] := by
  unfold f_X9_sendAway_J35 at h
  refine r_aln C dX9_sendAway_35 (k := 0) rfl ?_
  refine r_gs C kc_0 clX9 (f := 5) (by decide) rfl (t := 5) rfl tf_RX9_42 dX9_sendAway_36 ?_
  refine r_gs C kc_5 clX6 (f := 2) (by decide) rfl (t := 194) rfl tf_RX9_149 dX9_sendAway_39 ?_
  refine r_iln C dX9_sendAway_42 (k := 1) rfl ?_
  refine r_ic C dX9_sendAway_43 ?_
  refine r_iast C kc_194 dX9_sendAway_44 h (fun M1 h => ?_)
  exact r_vret C hr hlk dX9_sendAway_45 h
def f_X9_sendAway (a0 : Int) (M : Mem) : Res :=
  q_al M 194 8 a0 fun v1 =>
  if ¬ w32 v1 = w32 2 then (q_calp (f_X6_placeOf 5 a0 M) fun r2 =>
  if w32 r2 < 0 then (f_X9_sendAway_J35 a0 M)
  else (q_call (f_X6_takeOut 5 r2 M) fun r3 M4 =>
  f_X9_sendAway_J35 a0 M4))
  else (some (0, M))
theorem c_X9_sendAway {l : Launch} {D : va_G} {ad : Nat → Nat} {cA : Nat → ClassId} (hi : q_inj syC ad) (a0 : Int) (M : Mem) (r0 : Int) (M0 : Mem) (h : f_X9_sendAway a0 M = some (r0, M0)) : q_Met l syC D ad cA yX9_sendAway cX9_sendAway 3 none rm_X9_sendAway [.ref (ad 0), .int (qI a0)] M none M0 := by
  refine q_met (L0 := [(0, .ref (ad 0)), (1, .int (qI a0))]) hi okC (by decide) (Nat.le_of_ble_eq_true rfl) rfl ?_
  intro p e s m args below meth c C hr hlk
  unfold f_X9_sendAway at h
  refine r_aln C dX9_sendAway_0 (k := 0) rfl ?_
  refine r_gs C kc_0 clX9 (f := 5) (by decide) rfl (t := 5) rfl tf_RX9_42 dX9_sendAway_1 ?_
  refine r_gs C kc_5 clX6 (f := 2) (by decide) rfl (t := 194) rfl tf_RX9_149 dX9_sendAway_4 ?_
  refine r_iln C dX9_sendAway_7 (k := 1) rfl ?_
  refine r_iald C kc_194 dX9_sendAway_8 h (fun v1 h => ?_)
  refine r_ic C dX9_sendAway_9 ?_
  refine r_cne C (tgt := 14) dX9_sendAway_10 (by decide) h (fun h => ?_) (fun h => ?_)
  · refine r_aln C dX9_sendAway_14 (k := 0) rfl ?_
    refine r_gs C kc_0 clX9 (f := 5) (by decide) rfl (t := 5) rfl tf_RX9_42 dX9_sendAway_15 ?_
    refine r_iln C dX9_sendAway_18 (k := 1) rfl ?_
    obtain ⟨r2, hy, h⟩ := q_calp_some h
    refine r_cvi C (st := []) (c_X6_placeOf C.2.2.1 5 (by unfold isS; omega) a0 M r2 hy) tm_RX9_159 mw_X6_placeOf ⟨rfl, rfl⟩ ⟨Nat.le_of_ble_eq_true rfl, Nat.le_of_ble_eq_true rfl⟩ kc_5 clX6 rfl rfl (Nat.le_of_ble_eq_true rfl) dX9_sendAway_19 ?_
    refine r_isn C (L1 := [(2, .int (qI r2)), (0, .ref (ad 0)), (1, .int (qI a0))]) dX9_sendAway_22 (by decide) rfl ?_
    refine r_iln C dX9_sendAway_23 (k := 0) rfl ?_
    refine r_zlt C (tgt := 35) dX9_sendAway_24 (by decide) h (fun h => ?_) (fun h => ?_)
    · refine r_drop [1, 2] rfl ?_
      exact w_X9_sendAway_J35 C hr hlk a0 M  h
    · refine r_aln C dX9_sendAway_27 (k := 1) rfl ?_
      refine r_gs C kc_0 clX9 (f := 5) (by decide) rfl (t := 5) rfl tf_RX9_42 dX9_sendAway_28 ?_
      refine r_iln C dX9_sendAway_31 (k := 0) rfl ?_
      obtain ⟨r3, M4, hy, h⟩ := q_call_some h
      refine r_cvv C (st := []) (c_X6_takeOut C.2.2.1 5 (by unfold isS; omega) r2 M r3 M4 hy) tm_RX9_229 mw_X6_takeOut ⟨rfl, rfl⟩ ⟨Nat.le_of_ble_eq_true rfl, Nat.le_of_ble_eq_true rfl⟩ kc_5 clX6 rfl rfl (Nat.le_of_ble_eq_true rfl) dX9_sendAway_32 ?_
      refine r_drop [1, 2] rfl ?_
      exact w_X9_sendAway_J35 C hr hlk a0 M4  h
  · exact r_vret C hr hlk dX9_sendAway_13 h
abbrev rm_X9_strike : Room := { frames := 1, cells := 0, slots := 0, locals := 23 }
theorem mw_X9_strike : q_mw RX9 yX9_strike cX9_strike 2 (some .int) 1 := ⟨⟨ti_X9_strike, tl_X9_strike, tn_RX9, td_X9_strike⟩, by decide +kernel⟩
def f_X9_strike (a0 : Int) (M : Mem) : Res :=
  if w32 a0 < 0 then (some ((-1), M))
  else (q_gf M 9 3 fun v1 =>
  if w32 a0 < w32 v1 then (q_call (f_X5_add 0 a0 2 M) fun r2 M3 =>
  some (r2, M3))
  else (some ((-1), M)))
theorem c_X9_strike {l : Launch} {D : va_G} {ad : Nat → Nat} {cA : Nat → ClassId} (hi : q_inj syC ad) (a0 : Int) (M : Mem) (r0 : Int) (M0 : Mem) (h : f_X9_strike a0 M = some (r0, M0)) : q_Met l syC D ad cA yX9_strike cX9_strike 2 (some .int) rm_X9_strike [.ref (ad 0), .int (qI a0)] M (some (.int (qI r0))) M0 := by
  refine q_met (L0 := [(0, .ref (ad 0)), (1, .int (qI a0))]) hi okC (by decide) (Nat.le_of_ble_eq_true rfl) rfl ?_
  intro p e s m args below meth c C hr hlk
  unfold f_X9_strike at h
  refine r_iln C dX9_strike_0 (k := 1) rfl ?_
  refine r_zlt C (tgt := 15) dX9_strike_1 (by decide) h (fun h => ?_) (fun h => ?_)
  · refine r_ic C dX9_strike_15 ?_
    exact r_iret C hr hlk dX9_strike_16 h
  · refine r_iln C dX9_strike_4 (k := 1) rfl ?_
    refine r_aln C dX9_strike_5 (k := 0) rfl ?_
    refine r_gs C kc_0 clX9 (f := 10) (by decide) rfl (t := 9) rfl tf_RX9_71 dX9_strike_6 ?_
    refine r_gf C kc_9 clX5 (f := 3) (by decide) rfl rfl rfl tf_RX9_342 dX9_strike_9 h (fun v1 h => ?_)
    refine r_clt C (tgt := 17) dX9_strike_12 (by decide) h (fun h => ?_) (fun h => ?_)
    · refine r_aln C dX9_strike_17 (k := 0) rfl ?_
      refine r_gs C kc_0 clX9 (f := 10) (by decide) rfl (t := 9) rfl tf_RX9_71 dX9_strike_18 ?_
      refine r_ic C dX9_strike_21 ?_
      refine r_iln C dX9_strike_22 (k := 1) rfl ?_
      refine r_ic C dX9_strike_23 ?_
      obtain ⟨r2, M3, hy, h⟩ := q_call_some h
      refine r_cvi C (st := []) (c_X5_add C.2.2.1 0 a0 2 M r2 M3 hy) tm_RX9_338 mw_X5_add ⟨rfl, rfl⟩ ⟨Nat.le_of_ble_eq_true rfl, Nat.le_of_ble_eq_true rfl⟩ kc_9 clX5 rfl rfl (Nat.le_of_ble_eq_true rfl) dX9_strike_24 ?_
      exact r_iret C hr hlk dX9_strike_27 h
    · refine r_ic C dX9_strike_15 ?_
      exact r_iret C hr hlk dX9_strike_16 h
abbrev rm_X9_text : Room := { frames := 7, cells := 0, slots := 0, locals := 156 }
theorem mw_X9_text : q_mw RX9 yX9_text cX9_text 3 (some .int) 1 := ⟨⟨ti_X9_text, tl_X9_text, tn_RX9, td_X9_text⟩, by decide +kernel⟩
def f_X9_text (a0 : Int) (M : Mem) : Res :=
  if w32 a0 < 0 then (some ((-2), M))
  else (q_gf M 0 1 fun v1 =>
  if w32 a0 ≤ w32 v1 then (q_pf M 0 1 0 fun M2 =>
  q_call (f_X4_read a0 M2) fun r3 M4 =>
  if ¬ w32 r3 = w32 (-1) then (q_gr M4 0 3 fun t5 =>
  q_call (f_X4_exchange t5 M4) fun r6 M7 =>
  q_pf M7 0 3 (r6.toNat : Nat) fun M8 =>
  q_gr M8 0 3 fun t9 =>
  q_gr M8 0 3 fun t10 =>
  q_gf M8 t10 15 fun v11 =>
  q_call (f_X6_begin 4 (32 * (t9 + 1) + 4) 8 v11 M8) fun r12 M13 =>
  q_pz M13 0 7 0 fun M14 =>
  q_pf M14 8 3 0 fun M15 =>
  q_call (f_X5_clear  M15) fun r16 M17 =>
  some (r3, M17))
  else (some ((-1), M4)))
  else (some ((-2), M)))
theorem c_X9_text {l : Launch} {D : va_G} {ad : Nat → Nat} {cA : Nat → ClassId} (hi : q_inj syC ad) (a0 : Int) (M : Mem) (r0 : Int) (M0 : Mem) (h : f_X9_text a0 M = some (r0, M0)) : q_Met l syC D ad cA yX9_text cX9_text 3 (some .int) rm_X9_text [.ref (ad 0), .int (qI a0)] M (some (.int (qI r0))) M0 := by
  refine q_met (L0 := [(0, .ref (ad 0)), (1, .int (qI a0))]) hi okC (by decide) (Nat.le_of_ble_eq_true rfl) rfl ?_
  intro p e s m args below meth c C hr hlk
  unfold f_X9_text at h
  refine r_iln C dX9_text_0 (k := 1) rfl ?_
  refine r_zlt C (tgt := 12) dX9_text_1 (by decide) h (fun h => ?_) (fun h => ?_)
  · refine r_bi C dX9_text_12 (by decide) ?_
    exact r_iret C hr hlk dX9_text_14 h
  · refine r_iln C dX9_text_4 (k := 1) rfl ?_
    refine r_aln C dX9_text_5 (k := 0) rfl ?_
    refine r_gf C kc_0 clX9 (f := 1) (by decide) rfl rfl rfl tf_RX9_15 dX9_text_6 h (fun v1 h => ?_)
    refine r_cle C (tgt := 15) dX9_text_9 (by decide) h (fun h => ?_) (fun h => ?_)
    · refine r_aln C dX9_text_15 (k := 0) rfl ?_
      refine r_ic C dX9_text_16 ?_
      refine r_pf C kc_0 clX9 (f := 1) (by decide) rfl q_dI rfl rfl tf_RX9_15 dX9_text_17 h (fun M2 h => ?_)
      refine r_aln C dX9_text_20 (k := 0) rfl ?_
      refine r_gs C kc_0 clX9 (f := 2) (by decide) rfl (t := 1) rfl tf_RX9_24 dX9_text_21 ?_
      refine r_iln C dX9_text_24 (k := 1) rfl ?_
      obtain ⟨r3, M4, hy, h⟩ := q_call_some h
      refine r_cvi C (st := []) (c_X4_read C.2.2.1 a0 M2 r3 M4 hy) tm_RX9_102 mw_X4_read ⟨rfl, rfl⟩ ⟨Nat.le_of_ble_eq_true rfl, Nat.le_of_ble_eq_true rfl⟩ kc_1 clX4 rfl rfl (Nat.le_of_ble_eq_true rfl) dX9_text_25 ?_
      refine r_isn C (L1 := [(2, .int (qI r3)), (0, .ref (ad 0)), (1, .int (qI a0))]) dX9_text_28 (by decide) rfl ?_
      refine r_iln C dX9_text_29 (k := 0) rfl ?_
      refine r_ic C dX9_text_30 ?_
      refine r_cne C (tgt := 36) dX9_text_31 (by decide) h (fun h => ?_) (fun h => ?_)
      · refine r_aln C dX9_text_36 (k := 1) rfl ?_
        refine r_aln C dX9_text_37 (k := 1) rfl ?_
        refine r_gs C kc_0 clX9 (f := 2) (by decide) rfl (t := 1) rfl tf_RX9_24 dX9_text_38 ?_
        refine r_aln C dX9_text_41 (k := 1) rfl ?_
        refine r_gr C kc_0 clX9 (f := 3) (fz := 3) (Pp := isT) (by decide) rfl rfl (fun q => q.1) tf_RX9_31 dX9_text_42 h (fun t5 ht5 h => ?_)
        refine r_typ (fun hty => ?_)
        obtain ⟨r6, M7, hy, h⟩ := q_call_some h
        have hRT : isT r6.toNat := ex_T hty hy
        refine r_cva C (st := [.ref (ad 0)]) (c_X4_exchange C.2.2.1 t5 ht5 M4 r6 M7 hy) tm_RX9_106 mw_X4_exchange ⟨rfl, rfl⟩ ⟨Nat.le_of_ble_eq_true rfl, Nat.le_of_ble_eq_true rfl⟩ kc_1 clX4 rfl rfl (Nat.le_of_ble_eq_true rfl) dX9_text_45 ?_
        refine r_pr C kc_0 clX9 (f := 3) (by decide) rfl (ty := (.object "HeavenStop$Told")) (by decide +kernel) rfl rfl (pr_9_3 hRT) rfl tf_RX9_31 dX9_text_48 h (fun M8 h => ?_)
        refine r_aln C dX9_text_51 (k := 1) rfl ?_
        refine r_gs C kc_0 clX9 (f := 4) (by decide) rfl (t := 4) rfl tf_RX9_38 dX9_text_52 ?_
        refine r_aln C dX9_text_55 (k := 1) rfl ?_
        refine r_gr C kc_0 clX9 (f := 3) (fz := 3) (Pp := isT) (by decide) rfl rfl (fun q => q.1) tf_RX9_31 dX9_text_56 h (fun t9 ht9 h => ?_)
        refine r_gs C (kT ht9) clX8 (f := 4) (by decide) rfl (t := (32 * (t9 + 1) + 4)) rfl tf_RX9_88 dX9_text_59 ?_
        refine r_aln C dX9_text_62 (k := 1) rfl ?_
        refine r_gr C kc_0 clX9 (f := 3) (fz := 3) (Pp := isT) (by decide) rfl rfl (fun q => q.1) tf_RX9_31 dX9_text_63 h (fun t10 ht10 h => ?_)
        refine r_gf C (kT ht10) clX8 (f := 15) (by decide) rfl rfl rfl tf_RX9_91 dX9_text_66 h (fun v11 h => ?_)
        obtain ⟨r12, M13, hy, h⟩ := q_call_some h
        refine r_cvv C (st := []) (c_X6_begin C.2.2.1 4 (32 * (t9 + 1) + 4) 8 (by unfold isS; omega) (kT_4 ht9) v11 M8 r12 M13 hy) tm_RX9_94 mw_X6_begin ⟨rfl, rfl⟩ ⟨Nat.le_of_ble_eq_true rfl, Nat.le_of_ble_eq_true rfl⟩ kc_4 clX6 rfl rfl (Nat.le_of_ble_eq_true rfl) dX9_text_69 ?_
        refine r_aln C dX9_text_72 (k := 1) rfl ?_
        refine r_ic C dX9_text_73 ?_
        refine r_pz C kc_0 clX9 (f := 7) (by decide) rfl q_dZ rfl rfl tf_RX9_48 dX9_text_74 h (fun M14 h => ?_)
        refine r_aln C dX9_text_77 (k := 1) rfl ?_
        refine r_gs C kc_0 clX9 (f := 9) (by decide) rfl (t := 8) rfl tf_RX9_64 dX9_text_78 ?_
        refine r_ic C dX9_text_81 ?_
        refine r_pf C kc_8 clX0 (f := 3) (by decide) rfl q_dI rfl rfl tf_RX9_110 dX9_text_82 h (fun M15 h => ?_)
        refine r_aln C dX9_text_85 (k := 1) rfl ?_
        refine r_gs C kc_0 clX9 (f := 10) (by decide) rfl (t := 9) rfl tf_RX9_71 dX9_text_86 ?_
        obtain ⟨r16, M17, hy, h⟩ := q_call_some h
        refine r_cvv C (st := []) (c_X5_clear C.2.2.1 M15 r16 M17 hy) tm_RX9_113 mw_X5_clear ⟨rfl, rfl⟩ ⟨Nat.le_of_ble_eq_true rfl, Nat.le_of_ble_eq_true rfl⟩ kc_9 clX5 rfl rfl (Nat.le_of_ble_eq_true rfl) dX9_text_89 ?_
        refine r_iln C dX9_text_92 (k := 0) rfl ?_
        exact r_iret C hr hlk dX9_text_93 h
      · refine r_ic C dX9_text_34 ?_
        exact r_iret C hr hlk dX9_text_35 h
    · refine r_bi C dX9_text_12 (by decide) ?_
      exact r_iret C hr hlk dX9_text_14 h
abbrev rm_X9_tried : Room := { frames := 5, cells := 0, slots := 0, locals := 128 }
theorem mw_X9_tried : q_mw RX9 yX9_tried cX9_tried 5 (some .int) 3 := ⟨⟨ti_X9_tried, tl_X9_tried, tn_RX9, td_X9_tried⟩, by decide +kernel⟩
def f_X9_tried_J104 (x3 : Int) (M : Mem) : Res :=
  q_call (f_X3_pass x3 M) fun r1 M2 =>
  q_gr M2 0 3 fun t3 =>
  q_gf M2 t3 0 fun v4 =>
  q_calp (f_X6_howMany 5 2 v4 M2) fun r5 =>
  q_gr M2 0 3 fun t6 =>
  q_gf M2 t6 0 fun v7 =>
  q_calp (f_X6_howMany 4 2 v7 M2) fun r8 =>
  some (r5 - r8, M2)
theorem w_X9_tried_J104 (C : Cx syC p m c cX9_tried 5 s args RX9 D ad cA) (hr : meth.sig.returnType = (some .int)) (hlk : meth.locks = false) (x3 : Int) (M : Mem)  (h : f_X9_tried_J104 x3 M = some (r0, M0)) : WM syC p l e rm_X9_tried s m args below meth c 5 D ad cA (MQ below (q_Post syC D ad cA (some (.int (qI r0))) M0) args s 0 0 (q_A syC ad)) M 104 [(0, .ref (ad 0)), (3, .int (qI x3))] [] := by
  unfold f_X9_tried_J104 at h
  refine r_aln C dX9_tried_104 (k := 0) rfl ?_
  refine r_gs C kc_0 clX9 (f := 8) (by decide) rfl (t := 7) rfl tf_RX9_57 dX9_tried_105 ?_
  refine r_iln C dX9_tried_108 (k := 1) rfl ?_
  obtain ⟨r1, M2, hy, h⟩ := q_call_some h
  refine r_cvv C (st := []) (c_X3_pass C.2.2.1 x3 M r1 M2 hy) tm_RX9_251 mw_X3_pass ⟨rfl, rfl⟩ ⟨Nat.le_of_ble_eq_true rfl, Nat.le_of_ble_eq_true rfl⟩ kc_7 clX3 rfl rfl (Nat.le_of_ble_eq_true rfl) dX9_tried_109 ?_
  refine r_aln C dX9_tried_112 (k := 0) rfl ?_
  refine r_gs C kc_0 clX9 (f := 5) (by decide) rfl (t := 5) rfl tf_RX9_42 dX9_tried_113 ?_
  refine r_ic C dX9_tried_116 ?_
  refine r_aln C dX9_tried_117 (k := 0) rfl ?_
  refine r_gr C kc_0 clX9 (f := 3) (fz := 3) (Pp := isT) (by decide) rfl rfl (fun q => q.1) tf_RX9_31 dX9_tried_118 h (fun t3 ht3 h => ?_)
  refine r_gf C (kT ht3) clX8 (f := 0) (by decide) rfl rfl rfl tf_RX9_125 dX9_tried_121 h (fun v4 h => ?_)
  obtain ⟨r5, hy, h⟩ := q_calp_some h
  refine r_cvi C (st := []) (c_X6_howMany C.2.2.1 5 (by unfold isS; omega) 2 v4 M2 r5 hy) tm_RX9_261 mw_X6_howMany ⟨rfl, rfl⟩ ⟨Nat.le_of_ble_eq_true rfl, Nat.le_of_ble_eq_true rfl⟩ kc_5 clX6 rfl rfl (Nat.le_of_ble_eq_true rfl) dX9_tried_124 ?_
  refine r_aln C dX9_tried_127 (k := 0) rfl ?_
  refine r_gs C kc_0 clX9 (f := 4) (by decide) rfl (t := 4) rfl tf_RX9_38 dX9_tried_128 ?_
  refine r_ic C dX9_tried_131 ?_
  refine r_aln C dX9_tried_132 (k := 0) rfl ?_
  refine r_gr C kc_0 clX9 (f := 3) (fz := 3) (Pp := isT) (by decide) rfl rfl (fun q => q.1) tf_RX9_31 dX9_tried_133 h (fun t6 ht6 h => ?_)
  refine r_gf C (kT ht6) clX8 (f := 0) (by decide) rfl rfl rfl tf_RX9_125 dX9_tried_136 h (fun v7 h => ?_)
  obtain ⟨r8, hy, h⟩ := q_calp_some h
  refine r_cvi C (st := [.int (qI r5)]) (c_X6_howMany C.2.2.1 4 (by unfold isS; omega) 2 v7 M2 r8 hy) tm_RX9_261 mw_X6_howMany ⟨rfl, rfl⟩ ⟨Nat.le_of_ble_eq_true rfl, Nat.le_of_ble_eq_true rfl⟩ kc_4 clX6 rfl rfl (Nat.le_of_ble_eq_true rfl) dX9_tried_139 ?_
  refine r_isub C dX9_tried_142 ?_
  exact r_iret C hr hlk dX9_tried_143 h
def f_X9_tried_B74 (x3 : Int) (x4 : Int) (M : Mem) (g74 : Int → Mem → Res) : Res :=
  q_gr M 0 3 fun t1 =>
  q_gf M t1 0 fun v2 =>
  if w32 v2 ≤ w32 x4 then (f_X9_tried_J104 x3 M)
  else (q_as M 195 8 x4 99 fun M3 =>
  g74 (x4 + 1) M3)
def f_X9_tried_L74 (x3 : Int) (n : Nat) (x4 : Int) (M : Mem) : Res := qlm1 (fun x4 M g74 => f_X9_tried_B74 x3 x4 M g74) n x4 M
theorem w_X9_tried_B74 (C : Cx syC p m c cX9_tried 5 s args RX9 D ad cA) (hr : meth.sig.returnType = (some .int)) (hlk : meth.locks = false)  (x3 : Int) (x4 : Int) (M : Mem) (g74 : Int → Mem → Res)  (ih74 : ∀ (ux4 : Int) (M : Mem), g74 ux4 M = some (r0, M0) → WM syC p l e rm_X9_tried s m args below meth c 5 D ad cA (MQ below (q_Post syC D ad cA (some (.int (qI r0))) M0) args s 0 0 (q_A syC ad)) M 74 [(0, .ref (ad 0)), (3, .int (qI x3)), (4, .int (qI ux4))] []) (h : f_X9_tried_B74 x3 x4 M g74 = some (r0, M0)) : WM syC p l e rm_X9_tried s m args below meth c 5 D ad cA (MQ below (q_Post syC D ad cA (some (.int (qI r0))) M0) args s 0 0 (q_A syC ad)) M 74 [(0, .ref (ad 0)), (3, .int (qI x3)), (4, .int (qI x4))] [] := by
  unfold f_X9_tried_B74 at h
  refine r_il C dX9_tried_74 (k := 2) rfl ?_
  refine r_aln C dX9_tried_76 (k := 0) rfl ?_
  refine r_gr C kc_0 clX9 (f := 3) (fz := 3) (Pp := isT) (by decide) rfl rfl (fun q => q.1) tf_RX9_31 dX9_tried_77 h (fun t1 ht1 h => ?_)
  refine r_gf C (kT ht1) clX8 (f := 0) (by decide) rfl rfl rfl tf_RX9_125 dX9_tried_80 h (fun v2 h => ?_)
  refine r_cge C (tgt := 104) dX9_tried_83 (by decide) h (fun h => ?_) (fun h => ?_)
  · refine r_drop [0, 1] rfl ?_
    exact w_X9_tried_J104 C hr hlk x3 M  h
  · refine r_aln C dX9_tried_86 (k := 0) rfl ?_
    refine r_gs C kc_0 clX9 (f := 5) (by decide) rfl (t := 5) rfl tf_RX9_42 dX9_tried_87 ?_
    refine r_gs C kc_5 clX6 (f := 3) (by decide) rfl (t := 195) rfl tf_RX9_155 dX9_tried_90 ?_
    refine r_il C dX9_tried_93 (k := 2) rfl ?_
    refine r_bi C dX9_tried_95 (by decide) ?_
    refine r_iast C kc_195 dX9_tried_97 h (fun M3 h => ?_)
    refine r_inc C (L1 := [(4, .int (qI (x4 + 1))), (0, .ref (ad 0)), (3, .int (qI x3))]) dX9_tried_98 (k := 2) rfl (by decide) rfl ?_
    refine r_goto C (tgt := 74) dX9_tried_101 (by decide) ?_
    refine r_drop [1, 2, 0] rfl ?_
    exact ih74 (x4 + 1) M3 h
theorem w_X9_tried_L74 (C : Cx syC p m c cX9_tried 5 s args RX9 D ad cA) (hr : meth.sig.returnType = (some .int)) (hlk : meth.locks = false)  (x3 : Int)  (n : Nat) (x4 : Int) (M : Mem) (h : f_X9_tried_L74 x3 n x4 M = some (r0, M0)) : WM syC p l e rm_X9_tried s m args below meth c 5 D ad cA (MQ below (q_Post syC D ad cA (some (.int (qI r0))) M0) args s 0 0 (q_A syC ad)) M 74 [(0, .ref (ad 0)), (3, .int (qI x3)), (4, .int (qI x4))] [] :=
  qlm1_r (Wp := fun ux4 M => WM syC p l e rm_X9_tried s m args below meth c 5 D ad cA (MQ below (q_Post syC D ad cA (some (.int (qI r0))) M0) args s 0 0 (q_A syC ad)) M 74 [(0, .ref (ad 0)), (3, .int (qI x3)), (4, .int (qI ux4))] []) (fun ux4 M g74 ih74 h => w_X9_tried_B74 C hr hlk x3 ux4 M g74  ih74 h) n x4 M h
def f_X9_tried_J66 (x1 : Int) (x3 : Int) (M : Mem) : Res :=
  if ¬ w32 x1 = w32 5 then (f_X9_tried_J104 x3 M)
  else (f_X9_tried_L74 x3 q_N 0 M)
theorem w_X9_tried_J66 (C : Cx syC p m c cX9_tried 5 s args RX9 D ad cA) (hr : meth.sig.returnType = (some .int)) (hlk : meth.locks = false) (x1 : Int) (x3 : Int) (M : Mem)  (h : f_X9_tried_J66 x1 x3 M = some (r0, M0)) : WM syC p l e rm_X9_tried s m args below meth c 5 D ad cA (MQ below (q_Post syC D ad cA (some (.int (qI r0))) M0) args s 0 0 (q_A syC ad)) M 66 [(0, .ref (ad 0)), (1, .int (qI x1)), (3, .int (qI x3))] [] := by
  unfold f_X9_tried_J66 at h
  refine r_iln C dX9_tried_66 (k := 1) rfl ?_
  refine r_ic C dX9_tried_67 ?_
  refine r_cne C (tgt := 104) dX9_tried_68 (by decide) h (fun h => ?_) (fun h => ?_)
  · refine r_drop [0, 2] rfl ?_
    exact w_X9_tried_J104 C hr hlk x3 M  h
  · refine r_ic C dX9_tried_71 ?_
    refine r_is C (L1 := [(4, .int (qI 0)), (0, .ref (ad 0)), (1, .int (qI x1)), (3, .int (qI x3))]) dX9_tried_72 (by decide) rfl ?_
    refine r_drop [1, 3, 0] rfl ?_
    exact w_X9_tried_L74 C hr hlk x3  q_N 0 M h
def f_X9_tried_J44 (x1 : Int) (x2 : Int) (x3 : Int) (M : Mem) : Res :=
  q_call (f_X9_tryFromNow  M) fun r1 M2 =>
  q_pf M2 7 3 x1 fun M3 =>
  if ¬ w32 x1 = w32 2 then (f_X9_tried_J66 x1 x3 M3)
  else (q_call (f_X9_sendAway x2 M3) fun r4 M5 =>
  f_X9_tried_J66 x1 x3 M5)
theorem w_X9_tried_J44 (C : Cx syC p m c cX9_tried 5 s args RX9 D ad cA) (hr : meth.sig.returnType = (some .int)) (hlk : meth.locks = false) (x1 : Int) (x2 : Int) (x3 : Int) (M : Mem)  (h : f_X9_tried_J44 x1 x2 x3 M = some (r0, M0)) : WM syC p l e rm_X9_tried s m args below meth c 5 D ad cA (MQ below (q_Post syC D ad cA (some (.int (qI r0))) M0) args s 0 0 (q_A syC ad)) M 44 [(0, .ref (ad 0)), (1, .int (qI x1)), (2, .int (qI x2)), (3, .int (qI x3))] [] := by
  unfold f_X9_tried_J44 at h
  refine r_aln C dX9_tried_44 (k := 0) rfl ?_
  obtain ⟨r1, M2, hy, h⟩ := q_call_some h
  refine r_cvv C (st := []) (c_X9_tryFromNow C.2.2.1 M r1 M2 hy) tm_RX9_258 mw_X9_tryFromNow ⟨rfl, rfl⟩ ⟨Nat.le_of_ble_eq_true rfl, Nat.le_of_ble_eq_true rfl⟩ kc_0 clX9 rfl rfl (Nat.le_of_ble_eq_true rfl) dX9_tried_45 ?_
  refine r_aln C dX9_tried_48 (k := 0) rfl ?_
  refine r_gs C kc_0 clX9 (f := 8) (by decide) rfl (t := 7) rfl tf_RX9_57 dX9_tried_49 ?_
  refine r_iln C dX9_tried_52 (k := 1) rfl ?_
  refine r_pf C kc_7 clX3 (f := 3) (by decide) rfl q_dI rfl rfl tf_RX9_375 dX9_tried_53 h (fun M3 h => ?_)
  refine r_iln C dX9_tried_56 (k := 1) rfl ?_
  refine r_ic C dX9_tried_57 ?_
  refine r_cne C (tgt := 66) dX9_tried_58 (by decide) h (fun h => ?_) (fun h => ?_)
  · refine r_drop [0, 1, 3] rfl ?_
    exact w_X9_tried_J66 C hr hlk x1 x3 M3  h
  · refine r_aln C dX9_tried_61 (k := 0) rfl ?_
    refine r_iln C dX9_tried_62 (k := 2) rfl ?_
    obtain ⟨r4, M5, hy, h⟩ := q_call_some h
    refine r_cvv C (st := []) (c_X9_sendAway C.2.2.1 x2 M3 r4 M5 hy) tm_RX9_378 mw_X9_sendAway ⟨rfl, rfl⟩ ⟨Nat.le_of_ble_eq_true rfl, Nat.le_of_ble_eq_true rfl⟩ kc_0 clX9 rfl rfl (Nat.le_of_ble_eq_true rfl) dX9_tried_63 ?_
    refine r_drop [0, 1, 3] rfl ?_
    exact w_X9_tried_J66 C hr hlk x1 x3 M5  h
def f_X9_tried (a0 : Int) (a1 : Int) (a2 : Int) (M : Mem) : Res :=
  if w32 a0 < 0 then (some ((-1), M))
  else (if w32 5 < w32 a0 then (some ((-1), M))
  else (if w32 a2 < 0 then (some ((-1), M))
  else (if w32 a2 ≤ w32 200 then (if ¬ w32 a0 = w32 2 then (if w32 a1 = 0 then (f_X9_tried_J44 a0 a1 a2 M)
  else (some ((-1), M)))
  else (q_calp (f_X9_isSoul a1 M) fun r1 =>
  if ¬ w32 r1 = 0 then (f_X9_tried_J44 a0 a1 a2 M)
  else (some ((-1), M))))
  else (some ((-1), M)))))
theorem c_X9_tried {l : Launch} {D : va_G} {ad : Nat → Nat} {cA : Nat → ClassId} (hi : q_inj syC ad) (a0 : Int) (a1 : Int) (a2 : Int) (M : Mem) (r0 : Int) (M0 : Mem) (h : f_X9_tried a0 a1 a2 M = some (r0, M0)) : q_Met l syC D ad cA yX9_tried cX9_tried 5 (some .int) rm_X9_tried [.ref (ad 0), .int (qI a0), .int (qI a1), .int (qI a2)] M (some (.int (qI r0))) M0 := by
  refine q_met (L0 := [(0, .ref (ad 0)), (1, .int (qI a0)), (2, .int (qI a1)), (3, .int (qI a2))]) hi okC (by decide) (Nat.le_of_ble_eq_true rfl) rfl ?_
  intro p e s m args below meth c C hr hlk
  unfold f_X9_tried at h
  refine r_iln C dX9_tried_0 (k := 1) rfl ?_
  refine r_zlt C (tgt := 20) dX9_tried_1 (by decide) h (fun h => ?_) (fun h => ?_)
  · refine r_ic C dX9_tried_20 ?_
    exact r_iret C hr hlk dX9_tried_21 h
  · refine r_iln C dX9_tried_4 (k := 1) rfl ?_
    refine r_ic C dX9_tried_5 ?_
    refine r_cgt C (tgt := 20) dX9_tried_6 (by decide) h (fun h => ?_) (fun h => ?_)
    · refine r_ic C dX9_tried_20 ?_
      exact r_iret C hr hlk dX9_tried_21 h
    · refine r_iln C dX9_tried_9 (k := 3) rfl ?_
      refine r_zlt C (tgt := 20) dX9_tried_10 (by decide) h (fun h => ?_) (fun h => ?_)
      · refine r_ic C dX9_tried_20 ?_
        exact r_iret C hr hlk dX9_tried_21 h
      · refine r_iln C dX9_tried_13 (k := 3) rfl ?_
        refine r_si C dX9_tried_14 (by decide) ?_
        refine r_cle C (tgt := 22) dX9_tried_17 (by decide) h (fun h => ?_) (fun h => ?_)
        · refine r_iln C dX9_tried_22 (k := 1) rfl ?_
          refine r_ic C dX9_tried_23 ?_
          refine r_cne C (tgt := 38) dX9_tried_24 (by decide) h (fun h => ?_) (fun h => ?_)
          · refine r_iln C dX9_tried_38 (k := 2) rfl ?_
            refine r_zeq C (tgt := 44) dX9_tried_39 (by decide) h (fun h => ?_) (fun h => ?_)
            · exact w_X9_tried_J44 C hr hlk a0 a1 a2 M  h
            · refine r_ic C dX9_tried_42 ?_
              exact r_iret C hr hlk dX9_tried_43 h
          · refine r_aln C dX9_tried_27 (k := 0) rfl ?_
            refine r_iln C dX9_tried_28 (k := 2) rfl ?_
            obtain ⟨r1, hy, h⟩ := q_calp_some h
            refine r_cvi C (st := []) (c_X9_isSoul C.2.2.1 a1 M r1 hy) tm_RX9_138 mw_X9_isSoul ⟨rfl, rfl⟩ ⟨Nat.le_of_ble_eq_true rfl, Nat.le_of_ble_eq_true rfl⟩ kc_0 clX9 rfl rfl (Nat.le_of_ble_eq_true rfl) dX9_tried_29 ?_
            refine r_zne C (tgt := 44) dX9_tried_32 (by decide) h (fun h => ?_) (fun h => ?_)
            · exact w_X9_tried_J44 C hr hlk a0 a1 a2 M  h
            · refine r_goto C (tgt := 42) dX9_tried_35 (by decide) ?_
              refine r_ic C dX9_tried_42 ?_
              exact r_iret C hr hlk dX9_tried_43 h
        · refine r_ic C dX9_tried_20 ?_
          exact r_iret C hr hlk dX9_tried_21 h
abbrev rm_X9_trips : Room := { frames := 3, cells := 0, slots := 0, locals := 80 }
theorem mw_X9_trips : q_mw RX9 yX9_trips cX9_trips 4 (some .int) 1 := ⟨⟨ti_X9_trips, tl_X9_trips, tn_RX9, td_X9_trips⟩, by decide +kernel⟩
def f_X9_trips (a0 : Int) (M : Mem) : Res :=
  q_calp (f_X9_isBus a0 M) fun r1 =>
  if ¬ w32 r1 = 0 then (q_gr M 0 3 fun t2 =>
  q_call (f_X3_ready t2 4 M) fun r3 M4 =>
  q_call (f_X3_whoMay a0 M4) fun r5 M6 =>
  q_calp (f_J6_bitCount_0f7a4 r5 M6) fun r7 =>
  q_gr M6 0 3 fun t8 =>
  q_al M6 (32 * (t8 + 1) + 11) 4 a0 fun v9 =>
  if w32 1 ≤ w32 v9 then (q_nz v9 <| some ((w32 ((r7 + v9) - 1)).tdiv (w32 v9), M6))
  else (some ((-1), M6)))
  else (some ((-1), M))
theorem c_X9_trips {l : Launch} {D : va_G} {ad : Nat → Nat} {cA : Nat → ClassId} (hi : q_inj syC ad) (a0 : Int) (M : Mem) (r0 : Int) (M0 : Mem) (h : f_X9_trips a0 M = some (r0, M0)) : q_Met l syC D ad cA yX9_trips cX9_trips 4 (some .int) rm_X9_trips [.ref (ad 0), .int (qI a0)] M (some (.int (qI r0))) M0 := by
  refine q_met (L0 := [(0, .ref (ad 0)), (1, .int (qI a0))]) hi okC (by decide) (Nat.le_of_ble_eq_true rfl) rfl ?_
  intro p e s m args below meth c C hr hlk
  unfold f_X9_trips at h
  refine r_aln C dX9_trips_0 (k := 0) rfl ?_
  refine r_iln C dX9_trips_1 (k := 1) rfl ?_
  obtain ⟨r1, hy, h⟩ := q_calp_some h
  refine r_cvi C (st := []) (c_X9_isBus C.2.2.1 a0 M r1 hy) tm_RX9_179 mw_X9_isBus ⟨rfl, rfl⟩ ⟨Nat.le_of_ble_eq_true rfl, Nat.le_of_ble_eq_true rfl⟩ kc_0 clX9 rfl rfl (Nat.le_of_ble_eq_true rfl) dX9_trips_2 ?_
  refine r_zne C (tgt := 10) dX9_trips_5 (by decide) h (fun h => ?_) (fun h => ?_)
  · refine r_aln C dX9_trips_10 (k := 0) rfl ?_
    refine r_gs C kc_0 clX9 (f := 8) (by decide) rfl (t := 7) rfl tf_RX9_57 dX9_trips_11 ?_
    refine r_aln C dX9_trips_14 (k := 0) rfl ?_
    refine r_gr C kc_0 clX9 (f := 3) (fz := 3) (Pp := isT) (by decide) rfl rfl (fun q => q.1) tf_RX9_31 dX9_trips_15 h (fun t2 ht2 h => ?_)
    refine r_aln C dX9_trips_18 (k := 0) rfl ?_
    refine r_gs C kc_0 clX9 (f := 4) (by decide) rfl (t := 4) rfl tf_RX9_38 dX9_trips_19 ?_
    obtain ⟨r3, M4, hy, h⟩ := q_call_some h
    refine r_cvv C (st := []) (c_X3_ready C.2.2.1 t2 4 ht2 (by unfold isS; omega) M r3 M4 hy) tm_RX9_208 mw_X3_ready ⟨rfl, rfl⟩ ⟨Nat.le_of_ble_eq_true rfl, Nat.le_of_ble_eq_true rfl⟩ kc_7 clX3 rfl rfl (Nat.le_of_ble_eq_true rfl) dX9_trips_22 ?_
    refine r_aln C dX9_trips_25 (k := 0) rfl ?_
    refine r_gs C kc_0 clX9 (f := 8) (by decide) rfl (t := 7) rfl tf_RX9_57 dX9_trips_26 ?_
    refine r_iln C dX9_trips_29 (k := 1) rfl ?_
    obtain ⟨r5, M6, hy, h⟩ := q_call_some h
    refine r_cvi C (st := []) (c_X3_whoMay C.2.2.1 a0 M4 r5 M6 hy) tm_RX9_307 mw_X3_whoMay ⟨rfl, rfl⟩ ⟨Nat.le_of_ble_eq_true rfl, Nat.le_of_ble_eq_true rfl⟩ kc_7 clX3 rfl rfl (Nat.le_of_ble_eq_true rfl) dX9_trips_30 ?_
    obtain ⟨r7, hy, h⟩ := q_calp_some h
    refine r_csi C (st := []) (c_J6_bitCount_0f7a4 C.2.2.1 C.2.2.2.1 r5 M6 r7 hy) tm_RX9_310 mw_J6_bitCount_0f7a4 ⟨rfl, rfl⟩ ⟨Nat.le_of_ble_eq_true rfl, Nat.le_of_ble_eq_true rfl⟩ rfl rfl (Nat.le_of_ble_eq_true rfl) dX9_trips_33 ?_
    refine r_isn C (L1 := [(2, .int (qI r7)), (0, .ref (ad 0)), (1, .int (qI a0))]) dX9_trips_36 (by decide) rfl ?_
    refine r_aln C dX9_trips_37 (k := 1) rfl ?_
    refine r_gr C kc_0 clX9 (f := 3) (fz := 3) (Pp := isT) (by decide) rfl rfl (fun q => q.1) tf_RX9_31 dX9_trips_38 h (fun t8 ht8 h => ?_)
    refine r_gs C (kT ht8) clX8 (f := 11) (by decide) rfl (t := (32 * (t8 + 1) + 11)) rfl tf_RX9_188 dX9_trips_41 ?_
    refine r_iln C dX9_trips_44 (k := 2) rfl ?_
    refine r_iald C (kT_11 ht8) dX9_trips_45 h (fun v9 h => ?_)
    refine r_isn C (L1 := [(3, .int (qI v9)), (2, .int (qI r7)), (0, .ref (ad 0)), (1, .int (qI a0))]) dX9_trips_46 (by decide) rfl ?_
    refine r_iln C dX9_trips_47 (k := 0) rfl ?_
    refine r_ic C dX9_trips_48 ?_
    refine r_cge C (tgt := 56) dX9_trips_49 (by decide) h (fun h => ?_) (fun h => ?_)
    · refine r_iln C dX9_trips_56 (k := 1) rfl ?_
      refine r_iln C dX9_trips_57 (k := 0) rfl ?_
      refine r_iadd C dX9_trips_58 ?_
      refine r_ic C dX9_trips_59 ?_
      refine r_isub C dX9_trips_60 ?_
      refine r_iln C dX9_trips_61 (k := 0) rfl ?_
      refine r_idiv C dX9_trips_62 h (fun h => ?_)
      exact r_iret C hr hlk dX9_trips_63 h
    · refine r_ic C dX9_trips_52 ?_
      refine r_goto C (tgt := 63) dX9_trips_53 (by decide) ?_
      exact r_iret C hr hlk dX9_trips_63 h
  · refine r_ic C dX9_trips_8 ?_
    exact r_iret C hr hlk dX9_trips_9 h
abbrev rm_X9_undo : Room := { frames := 2, cells := 0, slots := 0, locals := 45 }
theorem mw_X9_undo : q_mw RX9 yX9_undo cX9_undo 1 (some .int) 0 := ⟨⟨ti_X9_undo, tl_X9_undo, tn_RX9, td_X9_undo⟩, by decide +kernel⟩
def f_X9_undo  (M : Mem) : Res :=
  q_gf M 8 3 fun v1 =>
  if w32 1 ≤ w32 v1 then (q_call (f_X0_undoLast 4 M) fun r2 M3 =>
  q_gf M3 8 3 fun v4 =>
  some (v4, M3))
  else (some ((-1), M))
theorem c_X9_undo {l : Launch} {D : va_G} {ad : Nat → Nat} {cA : Nat → ClassId} (hi : q_inj syC ad)  (M : Mem) (r0 : Int) (M0 : Mem) (h : f_X9_undo  M = some (r0, M0)) : q_Met l syC D ad cA yX9_undo cX9_undo 1 (some .int) rm_X9_undo [.ref (ad 0)] M (some (.int (qI r0))) M0 := by
  refine q_met (L0 := [(0, .ref (ad 0))]) hi okC (by decide) (Nat.le_of_ble_eq_true rfl) rfl ?_
  intro p e s m args below meth c C hr hlk
  unfold f_X9_undo at h
  refine r_aln C dX9_undo_0 (k := 0) rfl ?_
  refine r_gs C kc_0 clX9 (f := 9) (by decide) rfl (t := 8) rfl tf_RX9_64 dX9_undo_1 ?_
  refine r_gf C kc_8 clX0 (f := 3) (by decide) rfl rfl rfl tf_RX9_110 dX9_undo_4 h (fun v1 h => ?_)
  refine r_ic C dX9_undo_7 ?_
  refine r_cge C (tgt := 13) dX9_undo_8 (by decide) h (fun h => ?_) (fun h => ?_)
  · refine r_aln C dX9_undo_13 (k := 0) rfl ?_
    refine r_gs C kc_0 clX9 (f := 9) (by decide) rfl (t := 8) rfl tf_RX9_64 dX9_undo_14 ?_
    refine r_aln C dX9_undo_17 (k := 0) rfl ?_
    refine r_gs C kc_0 clX9 (f := 4) (by decide) rfl (t := 4) rfl tf_RX9_38 dX9_undo_18 ?_
    obtain ⟨r2, M3, hy, h⟩ := q_call_some h
    refine r_cvv C (st := []) (c_X0_undoLast C.2.2.1 4 (by unfold isS; omega) M r2 M3 hy) tm_RX9_381 mw_X0_undoLast ⟨rfl, rfl⟩ ⟨Nat.le_of_ble_eq_true rfl, Nat.le_of_ble_eq_true rfl⟩ kc_8 clX0 rfl rfl (Nat.le_of_ble_eq_true rfl) dX9_undo_21 ?_
    refine r_aln C dX9_undo_24 (k := 0) rfl ?_
    refine r_gs C kc_0 clX9 (f := 9) (by decide) rfl (t := 8) rfl tf_RX9_64 dX9_undo_25 ?_
    refine r_gf C kc_8 clX0 (f := 3) (by decide) rfl rfl rfl tf_RX9_110 dX9_undo_28 h (fun v4 h => ?_)
    exact r_iret C hr hlk dX9_undo_31 h
  · refine r_ic C dX9_undo_11 ?_
    exact r_iret C hr hlk dX9_undo_12 h
end P12f
