section P12b
variable {p : Program} {l : Launch} {e : Env} {s : State} {m : MethodId} {args : Array Value} {below : List Frame} {meth : Method} {c : Code} {D : va_G} {ad : Nat → Nat} {cA : Nat → ClassId} {r0 : Int} {M0 : Mem}
abbrev rm_X1_read : Room := { frames := 3, cells := 0, slots := 0, locals := 68 }
theorem mw_X1_read : q_mw RX1 yX1_read cX1_read 4 (some .int) 1 := ⟨⟨ti_X1_read, tl_X1_read, tn_RX1, td_X1_read⟩, by decide +kernel⟩
def f_X1_read_J90 (k0 : Nat) (g29 : Int → Mem → Res) (x2 : Int) (y0 : Int) (M : Mem) : Res :=
  if w32 y0 = 0 then (q_call (f_X7_advance  M) fun r1 M2 =>
  g29 (x2 + 1) M2)
  else (some (y0, M))
theorem w_X1_read_J90 (C : Cx syC p m c cX1_read 4 s args RX1 D ad cA) (hr : meth.sig.returnType = (some .int)) (hlk : meth.locks = false) (k0 : Nat) (hk0 : isL k0) (g29 : Int → Mem → Res) (x2 : Int) (y0 : Int) (M : Mem) (ih29 : ∀ (ux2 : Int) (M : Mem), g29 ux2 M = some (r0, M0) → WM syC p l e rm_X1_read s m args below meth c 4 D ad cA (MQ below (q_Post syC D ad cA (some (.int (qI r0))) M0) args s 0 0 (q_A syC ad)) M 29 [(0, .ref (ad 11)), (1, .ref (ad k0)), (2, .int (qI ux2))] []) (h : f_X1_read_J90 k0 g29 x2 y0 M = some (r0, M0)) : WM syC p l e rm_X1_read s m args below meth c 4 D ad cA (MQ below (q_Post syC D ad cA (some (.int (qI r0))) M0) args s 0 0 (q_A syC ad)) M 90 [(0, .ref (ad 11)), (1, .ref (ad k0)), (2, .int (qI x2))] [.int (qI y0)] := by
  unfold f_X1_read_J90 at h
  refine r_isn C (L1 := [(3, .int (qI y0)), (0, .ref (ad 11)), (1, .ref (ad k0)), (2, .int (qI x2))]) dX1_read_90 (by decide) rfl ?_
  refine r_iln C dX1_read_91 (k := 0) rfl ?_
  refine r_zeq C (tgt := 97) dX1_read_92 (by decide) h (fun h => ?_) (fun h => ?_)
  · refine r_aln C dX1_read_97 (k := 1) rfl ?_
    refine r_gs C kc_11 clX1 (f := 0) (by decide) rfl (t := 10) rfl tf_RX1_33 dX1_read_98 ?_
    obtain ⟨r1, M2, hy, h⟩ := q_call_some h
    refine r_cvv C (st := []) (c_X7_advance C.2.2.1 M r1 M2 hy) tm_RX1_53 mw_X7_advance ⟨rfl, rfl⟩ ⟨Nat.le_of_ble_eq_true rfl, Nat.le_of_ble_eq_true rfl⟩ kc_10 clX7 rfl rfl (Nat.le_of_ble_eq_true rfl) dX1_read_101 ?_
    refine r_inc C (L1 := [(2, .int (qI (x2 + 1))), (3, .int (qI y0)), (0, .ref (ad 11)), (1, .ref (ad k0))]) dX1_read_104 (k := 3) rfl (by decide) rfl ?_
    refine r_goto C (tgt := 29) dX1_read_107 (by decide) ?_
    refine r_drop [2, 3, 0] rfl ?_
    exact ih29 (x2 + 1) M2 h
  · refine r_iln C dX1_read_95 (k := 0) rfl ?_
    exact r_iret C hr hlk dX1_read_96 h
def f_X1_read_J70 (k0 : Nat) (g29 : Int → Mem → Res) (x2 : Int) (M : Mem) : Res :=
  q_gf M 11 5 fun v1 =>
  if w32 v1 = 0 then (q_call (f_X1_takeSign k0 M) fun r2 M3 =>
  f_X1_read_J90 k0 g29 x2 r2 M3)
  else (q_call (f_X1_takeValue k0 M) fun r4 M5 =>
  f_X1_read_J90 k0 g29 x2 r4 M5)
theorem w_X1_read_J70 (C : Cx syC p m c cX1_read 4 s args RX1 D ad cA) (hr : meth.sig.returnType = (some .int)) (hlk : meth.locks = false) (k0 : Nat) (hk0 : isL k0) (g29 : Int → Mem → Res) (x2 : Int) (M : Mem) (ih29 : ∀ (ux2 : Int) (M : Mem), g29 ux2 M = some (r0, M0) → WM syC p l e rm_X1_read s m args below meth c 4 D ad cA (MQ below (q_Post syC D ad cA (some (.int (qI r0))) M0) args s 0 0 (q_A syC ad)) M 29 [(0, .ref (ad 11)), (1, .ref (ad k0)), (2, .int (qI ux2))] []) (h : f_X1_read_J70 k0 g29 x2 M = some (r0, M0)) : WM syC p l e rm_X1_read s m args below meth c 4 D ad cA (MQ below (q_Post syC D ad cA (some (.int (qI r0))) M0) args s 0 0 (q_A syC ad)) M 70 [(0, .ref (ad 11)), (1, .ref (ad k0)), (2, .int (qI x2))] [] := by
  unfold f_X1_read_J70 at h
  refine r_aln C dX1_read_70 (k := 0) rfl ?_
  refine r_gf C kc_11 clX1 (f := 5) (by decide) rfl rfl rfl tf_RX1_26 dX1_read_71 h (fun v1 h => ?_)
  refine r_zeq C (tgt := 85) dX1_read_74 (by decide) h (fun h => ?_) (fun h => ?_)
  · refine r_aln C dX1_read_85 (k := 0) rfl ?_
    refine r_aln C dX1_read_86 (k := 1) rfl ?_
    obtain ⟨r2, M3, hy, h⟩ := q_call_some h
    refine r_cvi C (st := []) (c_X1_takeSign C.2.2.1 k0 hk0 M r2 M3 hy) tm_RX1_50 mw_X1_takeSign ⟨rfl, rfl⟩ ⟨Nat.le_of_ble_eq_true rfl, Nat.le_of_ble_eq_true rfl⟩ kc_11 clX1 rfl rfl (Nat.le_of_ble_eq_true rfl) dX1_read_87 ?_
    exact w_X1_read_J90 C hr hlk k0 hk0 g29 x2 r2 M3 ih29 h
  · refine r_aln C dX1_read_77 (k := 0) rfl ?_
    refine r_aln C dX1_read_78 (k := 1) rfl ?_
    obtain ⟨r4, M5, hy, h⟩ := q_call_some h
    refine r_cvi C (st := []) (c_X1_takeValue C.2.2.1 k0 hk0 M r4 M5 hy) tm_RX1_46 mw_X1_takeValue ⟨rfl, rfl⟩ ⟨Nat.le_of_ble_eq_true rfl, Nat.le_of_ble_eq_true rfl⟩ kc_11 clX1 rfl rfl (Nat.le_of_ble_eq_true rfl) dX1_read_79 ?_
    refine r_goto C (tgt := 90) dX1_read_82 (by decide) ?_
    exact w_X1_read_J90 C hr hlk k0 hk0 g29 x2 r4 M5 ih29 h
def f_X1_read_B29 (k0 : Nat) (x2 : Int) (M : Mem) (g29 : Int → Mem → Res) : Res :=
  if w32 700 ≤ w32 x2 then (some (1, M))
  else (q_gf M 11 5 fun v1 =>
  if ¬ w32 v1 = 0 then (f_X1_read_J70 k0 g29 x2 M)
  else (q_gf M 11 3 fun v2 =>
  if ¬ w32 v2 = 0 then (f_X1_read_J70 k0 g29 x2 M)
  else (q_gf M 10 4 fun v3 =>
  if ¬ w32 v3 = w32 22 then (f_X1_read_J70 k0 g29 x2 M)
  else (q_call (f_X1_putSigns k0 1 M) fun r4 M5 =>
  some (0, M5)))))
def f_X1_read_L29 (k0 : Nat) (n : Nat) (x2 : Int) (M : Mem) : Res := qlm1 (fun x2 M g29 => f_X1_read_B29 k0 x2 M g29) n x2 M
theorem w_X1_read_B29 (C : Cx syC p m c cX1_read 4 s args RX1 D ad cA) (hr : meth.sig.returnType = (some .int)) (hlk : meth.locks = false) (k0 : Nat) (hk0 : isL k0) (x2 : Int) (M : Mem) (g29 : Int → Mem → Res)  (ih29 : ∀ (ux2 : Int) (M : Mem), g29 ux2 M = some (r0, M0) → WM syC p l e rm_X1_read s m args below meth c 4 D ad cA (MQ below (q_Post syC D ad cA (some (.int (qI r0))) M0) args s 0 0 (q_A syC ad)) M 29 [(0, .ref (ad 11)), (1, .ref (ad k0)), (2, .int (qI ux2))] []) (h : f_X1_read_B29 k0 x2 M g29 = some (r0, M0)) : WM syC p l e rm_X1_read s m args below meth c 4 D ad cA (MQ below (q_Post syC D ad cA (some (.int (qI r0))) M0) args s 0 0 (q_A syC ad)) M 29 [(0, .ref (ad 11)), (1, .ref (ad k0)), (2, .int (qI x2))] [] := by
  unfold f_X1_read_B29 at h
  refine r_iln C dX1_read_29 (k := 2) rfl ?_
  refine r_si C dX1_read_30 (by decide) ?_
  refine r_cge C (tgt := 110) dX1_read_33 (by decide) h (fun h => ?_) (fun h => ?_)
  · refine r_ic C dX1_read_110 ?_
    exact r_iret C hr hlk dX1_read_111 h
  · refine r_aln C dX1_read_36 (k := 0) rfl ?_
    refine r_gf C kc_11 clX1 (f := 5) (by decide) rfl rfl rfl tf_RX1_26 dX1_read_37 h (fun v1 h => ?_)
    refine r_zne C (tgt := 70) dX1_read_40 (by decide) h (fun h => ?_) (fun h => ?_)
    · exact w_X1_read_J70 C hr hlk k0 hk0 g29 x2 M ih29 h
    · refine r_aln C dX1_read_43 (k := 0) rfl ?_
      refine r_gf C kc_11 clX1 (f := 3) (by decide) rfl rfl rfl tf_RX1_19 dX1_read_44 h (fun v2 h => ?_)
      refine r_zne C (tgt := 70) dX1_read_47 (by decide) h (fun h => ?_) (fun h => ?_)
      · exact w_X1_read_J70 C hr hlk k0 hk0 g29 x2 M ih29 h
      · refine r_aln C dX1_read_50 (k := 0) rfl ?_
        refine r_gs C kc_11 clX1 (f := 0) (by decide) rfl (t := 10) rfl tf_RX1_33 dX1_read_51 ?_
        refine r_gf C kc_10 clX7 (f := 4) (by decide) rfl rfl rfl tf_RX1_37 dX1_read_54 h (fun v3 h => ?_)
        refine r_bi C dX1_read_57 (by decide) ?_
        refine r_cne C (tgt := 70) dX1_read_59 (by decide) h (fun h => ?_) (fun h => ?_)
        · exact w_X1_read_J70 C hr hlk k0 hk0 g29 x2 M ih29 h
        · refine r_aln C dX1_read_62 (k := 0) rfl ?_
          refine r_aln C dX1_read_63 (k := 1) rfl ?_
          refine r_ic C dX1_read_64 ?_
          obtain ⟨r4, M5, hy, h⟩ := q_call_some h
          refine r_cvv C (st := []) (c_X1_putSigns C.2.2.1 k0 hk0 1 M r4 M5 hy) tm_RX1_42 mw_X1_putSigns ⟨rfl, rfl⟩ ⟨Nat.le_of_ble_eq_true rfl, Nat.le_of_ble_eq_true rfl⟩ kc_11 clX1 rfl rfl (Nat.le_of_ble_eq_true rfl) dX1_read_65 ?_
          refine r_ic C dX1_read_68 ?_
          exact r_iret C hr hlk dX1_read_69 h
theorem w_X1_read_L29 (C : Cx syC p m c cX1_read 4 s args RX1 D ad cA) (hr : meth.sig.returnType = (some .int)) (hlk : meth.locks = false) (k0 : Nat) (hk0 : isL k0)   (n : Nat) (x2 : Int) (M : Mem) (h : f_X1_read_L29 k0 n x2 M = some (r0, M0)) : WM syC p l e rm_X1_read s m args below meth c 4 D ad cA (MQ below (q_Post syC D ad cA (some (.int (qI r0))) M0) args s 0 0 (q_A syC ad)) M 29 [(0, .ref (ad 11)), (1, .ref (ad k0)), (2, .int (qI x2))] [] :=
  qlm1_r (Wp := fun ux2 M => WM syC p l e rm_X1_read s m args below meth c 4 D ad cA (MQ below (q_Post syC D ad cA (some (.int (qI r0))) M0) args s 0 0 (q_A syC ad)) M 29 [(0, .ref (ad 11)), (1, .ref (ad k0)), (2, .int (qI ux2))] []) (fun ux2 M g29 ih29 h => w_X1_read_B29 C hr hlk k0 hk0 ux2 M g29  ih29 h) n x2 M h
def f_X1_read (k0 : Nat) (M : Mem) : Res :=
  q_pf M 11 2 0 fun M1 =>
  q_pf M1 11 3 0 fun M2 =>
  if 0 = 0 ∨ 0 = 1 then (q_as M2 388 9 0 0 fun M3 =>
  q_pz M3 11 5 1 fun M4 =>
  q_pz M4 11 6 1 fun M5 =>
  f_X1_read_L29 k0 q_N 0 M5) else none
theorem c_X1_read {l : Launch} {D : va_G} {ad : Nat → Nat} {cA : Nat → ClassId} (hi : q_inj syC ad) (k0 : Nat) (hk0 : isL k0) (M : Mem) (r0 : Int) (M0 : Mem) (h : f_X1_read k0 M = some (r0, M0)) : q_Met l syC D ad cA yX1_read cX1_read 4 (some .int) rm_X1_read [.ref (ad 11), .ref (ad k0)] M (some (.int (qI r0))) M0 := by
  refine q_met (L0 := [(0, .ref (ad 11)), (1, .ref (ad k0))]) hi okC (by decide) (Nat.le_of_ble_eq_true rfl) rfl ?_
  intro p e s m args below meth c C hr hlk
  unfold f_X1_read at h
  refine r_aln C dX1_read_0 (k := 0) rfl ?_
  refine r_ic C dX1_read_1 ?_
  refine r_pf C kc_11 clX1 (f := 2) (by decide) rfl q_dI rfl rfl tf_RX1_15 dX1_read_2 h (fun M1 h => ?_)
  refine r_aln C dX1_read_5 (k := 0) rfl ?_
  refine r_ic C dX1_read_6 ?_
  refine r_pf C kc_11 clX1 (f := 3) (by decide) rfl q_dI rfl rfl tf_RX1_19 dX1_read_7 h (fun M2 h => ?_)
  refine r_aln C dX1_read_10 (k := 0) rfl ?_
  refine r_gs C kc_11 clX1 (f := 4) (by decide) rfl (t := 388) rfl tf_RX1_22 dX1_read_11 ?_
  refine r_ic C dX1_read_14 ?_
  refine r_ic C dX1_read_15 ?_
  refine r_zast C kc_388 dX1_read_16 h (fun M3 h => ?_)
  refine r_aln C dX1_read_17 (k := 0) rfl ?_
  refine r_ic C dX1_read_18 ?_
  refine r_pz C kc_11 clX1 (f := 5) (by decide) rfl q_dZ rfl rfl tf_RX1_26 dX1_read_19 h (fun M4 h => ?_)
  refine r_aln C dX1_read_22 (k := 0) rfl ?_
  refine r_ic C dX1_read_23 ?_
  refine r_pz C kc_11 clX1 (f := 6) (by decide) rfl q_dZ rfl rfl tf_RX1_30 dX1_read_24 h (fun M5 h => ?_)
  refine r_ic C dX1_read_27 ?_
  refine r_isn C (L1 := [(2, .int (qI 0)), (0, .ref (ad 11)), (1, .ref (ad k0))]) dX1_read_28 (by decide) rfl ?_
  refine r_drop [1, 2, 0] rfl ?_
  exact w_X1_read_L29 C hr hlk k0 hk0  q_N 0 M5 h
abbrev rm_X2_clear : Room := { frames := 0, cells := 0, slots := 0, locals := 0 }
theorem mw_X2_clear : q_mw RX2 yX2_clear cX2_clear 2 none 0 := ⟨⟨ti_X2_clear, tl_X2_clear, tn_RX2, td_X2_clear⟩, by decide +kernel⟩
def f_X2_clear_B12 (k : Nat) (x1 : Int) (M : Mem) (g12 : Int → Mem → Res) : Res :=
  if w32 3 ≤ w32 x1 then (some (0, M))
  else (q_as M (32 * (k + 1) + 2) 3 x1 0 fun M1 =>
  q_as M1 (32 * (k + 1) + 3) 3 x1 0 fun M2 =>
  g12 (x1 + 1) M2)
def f_X2_clear_L12 (k : Nat) (n : Nat) (x1 : Int) (M : Mem) : Res := qlm1 (fun x1 M g12 => f_X2_clear_B12 k x1 M g12) n x1 M
theorem w_X2_clear_B12 (C : Cx syC p m c cX2_clear 2 s args RX2 D ad cA) (hr : meth.sig.returnType = none) (hlk : meth.locks = false) (k : Nat) (hk : isL k) (x1 : Int) (M : Mem) (g12 : Int → Mem → Res)  (ih12 : ∀ (ux1 : Int) (M : Mem), g12 ux1 M = some (r0, M0) → WM syC p l e rm_X2_clear s m args below meth c 2 D ad cA (MQ below (q_Post syC D ad cA none M0) args s 0 0 (q_A syC ad)) M 12 [(0, .ref (ad k)), (1, .int (qI ux1))] []) (h : f_X2_clear_B12 k x1 M g12 = some (r0, M0)) : WM syC p l e rm_X2_clear s m args below meth c 2 D ad cA (MQ below (q_Post syC D ad cA none M0) args s 0 0 (q_A syC ad)) M 12 [(0, .ref (ad k)), (1, .int (qI x1))] [] := by
  unfold f_X2_clear_B12 at h
  refine r_iln C dX2_clear_12 (k := 1) rfl ?_
  refine r_ic C dX2_clear_13 ?_
  refine r_cge C (tgt := 37) dX2_clear_14 (by decide) h (fun h => ?_) (fun h => ?_)
  · exact r_vret C hr hlk dX2_clear_37 h
  · refine r_aln C dX2_clear_17 (k := 0) rfl ?_
    refine r_gs C (kL hk) clX2 (f := 2) (by decide) rfl (t := (32 * (k + 1) + 2)) rfl tf_RX2_18 dX2_clear_18 ?_
    refine r_iln C dX2_clear_21 (k := 1) rfl ?_
    refine r_ic C dX2_clear_22 ?_
    refine r_iast C (kL_2 hk) dX2_clear_23 h (fun M1 h => ?_)
    refine r_aln C dX2_clear_24 (k := 0) rfl ?_
    refine r_gs C (kL hk) clX2 (f := 3) (by decide) rfl (t := (32 * (k + 1) + 3)) rfl tf_RX2_21 dX2_clear_25 ?_
    refine r_iln C dX2_clear_28 (k := 1) rfl ?_
    refine r_ic C dX2_clear_29 ?_
    refine r_iast C (kL_3 hk) dX2_clear_30 h (fun M2 h => ?_)
    refine r_inc C (L1 := [(1, .int (qI (x1 + 1))), (0, .ref (ad k))]) dX2_clear_31 (k := 1) rfl (by decide) rfl ?_
    refine r_goto C (tgt := 12) dX2_clear_34 (by decide) ?_
    refine r_drop [1, 0] rfl ?_
    exact ih12 (x1 + 1) M2 h
theorem w_X2_clear_L12 (C : Cx syC p m c cX2_clear 2 s args RX2 D ad cA) (hr : meth.sig.returnType = none) (hlk : meth.locks = false) (k : Nat) (hk : isL k)   (n : Nat) (x1 : Int) (M : Mem) (h : f_X2_clear_L12 k n x1 M = some (r0, M0)) : WM syC p l e rm_X2_clear s m args below meth c 2 D ad cA (MQ below (q_Post syC D ad cA none M0) args s 0 0 (q_A syC ad)) M 12 [(0, .ref (ad k)), (1, .int (qI x1))] [] :=
  qlm1_r (Wp := fun ux1 M => WM syC p l e rm_X2_clear s m args below meth c 2 D ad cA (MQ below (q_Post syC D ad cA none M0) args s 0 0 (q_A syC ad)) M 12 [(0, .ref (ad k)), (1, .int (qI ux1))] []) (fun ux1 M g12 ih12 h => w_X2_clear_B12 C hr hlk k hk ux1 M g12  ih12 h) n x1 M h
def f_X2_clear (k : Nat) (M : Mem) : Res :=
  q_pf M k 5 0 fun M1 =>
  q_pf M1 k 6 0 fun M2 =>
  f_X2_clear_L12 k q_N 0 M2
theorem c_X2_clear {l : Launch} {D : va_G} {ad : Nat → Nat} {cA : Nat → ClassId} (hi : q_inj syC ad) (k : Nat) (hk : isL k) (M : Mem) (r0 : Int) (M0 : Mem) (h : f_X2_clear k M = some (r0, M0)) : q_Met l syC D ad cA yX2_clear cX2_clear 2 none rm_X2_clear [.ref (ad k)] M none M0 := by
  refine q_met (L0 := [(0, .ref (ad k))]) hi okC (by decide) (Nat.le_of_ble_eq_true rfl) rfl ?_
  intro p e s m args below meth c C hr hlk
  unfold f_X2_clear at h
  refine r_aln C dX2_clear_0 (k := 0) rfl ?_
  refine r_ic C dX2_clear_1 ?_
  refine r_pf C (kL hk) clX2 (f := 5) (by decide) rfl q_dI rfl rfl tf_RX2_28 dX2_clear_2 h (fun M1 h => ?_)
  refine r_aln C dX2_clear_5 (k := 0) rfl ?_
  refine r_ic C dX2_clear_6 ?_
  refine r_pf C (kL hk) clX2 (f := 6) (by decide) rfl q_dI rfl rfl tf_RX2_32 dX2_clear_7 h (fun M2 h => ?_)
  refine r_ic C dX2_clear_10 ?_
  refine r_isn C (L1 := [(1, .int (qI 0)), (0, .ref (ad k))]) dX2_clear_11 (by decide) rfl ?_
  refine r_drop [1, 0] rfl ?_
  exact w_X2_clear_L12 C hr hlk k hk  q_N 0 M2 h
abbrev rm_X2_end : Room := { frames := 0, cells := 0, slots := 0, locals := 0 }
theorem mw_X2_end : q_mw RX2 yX2_end cX2_end 2 none 1 := ⟨⟨ti_X2_end, tl_X2_end, tn_RX2, td_X2_end⟩, by decide +kernel⟩
def f_X2_end (k : Nat) (a0 : Int) (M : Mem) : Res :=
  if w32 a0 < 0 then (some (0, M))
  else (if w32 3 ≤ w32 a0 then (some (0, M))
  else (q_gf M k 5 fun v1 =>
  q_as M (32 * (k + 1) + 3) 3 a0 v1 fun M2 =>
  some (0, M2)))
theorem c_X2_end {l : Launch} {D : va_G} {ad : Nat → Nat} {cA : Nat → ClassId} (hi : q_inj syC ad) (k : Nat) (hk : isL k) (a0 : Int) (M : Mem) (r0 : Int) (M0 : Mem) (h : f_X2_end k a0 M = some (r0, M0)) : q_Met l syC D ad cA yX2_end cX2_end 2 none rm_X2_end [.ref (ad k), .int (qI a0)] M none M0 := by
  refine q_met (L0 := [(0, .ref (ad k)), (1, .int (qI a0))]) hi okC (by decide) (Nat.le_of_ble_eq_true rfl) rfl ?_
  intro p e s m args below meth c C hr hlk
  unfold f_X2_end at h
  refine r_iln C dX2_end_0 (k := 1) rfl ?_
  refine r_zlt C (tgt := 19) dX2_end_1 (by decide) h (fun h => ?_) (fun h => ?_)
  · exact r_vret C hr hlk dX2_end_19 h
  · refine r_iln C dX2_end_4 (k := 1) rfl ?_
    refine r_ic C dX2_end_5 ?_
    refine r_cge C (tgt := 19) dX2_end_6 (by decide) h (fun h => ?_) (fun h => ?_)
    · exact r_vret C hr hlk dX2_end_19 h
    · refine r_aln C dX2_end_9 (k := 0) rfl ?_
      refine r_gs C (kL hk) clX2 (f := 3) (by decide) rfl (t := (32 * (k + 1) + 3)) rfl tf_RX2_21 dX2_end_10 ?_
      refine r_iln C dX2_end_13 (k := 1) rfl ?_
      refine r_aln C dX2_end_14 (k := 0) rfl ?_
      refine r_gf C (kL hk) clX2 (f := 5) (by decide) rfl rfl rfl tf_RX2_28 dX2_end_15 h (fun v1 h => ?_)
      refine r_iast C (kL_3 hk) dX2_end_18 h (fun M2 h => ?_)
      exact r_vret C hr hlk dX2_end_19 h
abbrev rm_X2_isTold : Room := { frames := 0, cells := 0, slots := 0, locals := 0 }
theorem mw_X2_isTold : q_mw RX2 yX2_isTold cX2_isTold 2 (some .boolean) 1 := ⟨⟨ti_X2_isTold, tl_X2_isTold, tn_RX2, td_X2_isTold⟩, by decide +kernel⟩
def f_X2_isTold (k : Nat) (a0 : Int) (M : Mem) : Option Int :=
  if w32 a0 < 0 then (some 0)
  else (if w32 3 ≤ w32 a0 then (some 0)
  else (q_al M (32 * (k + 1) + 3) 3 a0 fun v1 =>
  q_al M (32 * (k + 1) + 2) 3 a0 fun v2 =>
  if w32 v1 ≤ w32 v2 then (some 0)
  else (some 1)))
theorem c_X2_isTold {l : Launch} {D : va_G} {ad : Nat → Nat} {cA : Nat → ClassId} (hi : q_inj syC ad) (k : Nat) (hk : isL k) (a0 : Int) (M : Mem) (r0 : Int) (h : f_X2_isTold k a0 M = some r0) : q_Met l syC D ad cA yX2_isTold cX2_isTold 2 (some .boolean) rm_X2_isTold [.ref (ad k), .int (qI a0)] M (some (.int (qI r0))) M := by
  refine q_met (L0 := [(0, .ref (ad k)), (1, .int (qI a0))]) hi okC (by decide) (Nat.le_of_ble_eq_true rfl) rfl ?_
  intro p e s m args below meth c C hr hlk
  unfold f_X2_isTold at h
  refine r_iln C dX2_isTold_0 (k := 1) rfl ?_
  refine r_zlt C (tgt := 28) dX2_isTold_1 (by decide) h (fun h => ?_) (fun h => ?_)
  · refine r_ic C dX2_isTold_28 ?_
    exact r_zretp C (by decide) hr hlk dX2_isTold_29 h
  · refine r_iln C dX2_isTold_4 (k := 1) rfl ?_
    refine r_ic C dX2_isTold_5 ?_
    refine r_cge C (tgt := 28) dX2_isTold_6 (by decide) h (fun h => ?_) (fun h => ?_)
    · refine r_ic C dX2_isTold_28 ?_
      exact r_zretp C (by decide) hr hlk dX2_isTold_29 h
    · refine r_aln C dX2_isTold_9 (k := 0) rfl ?_
      refine r_gs C (kL hk) clX2 (f := 3) (by decide) rfl (t := (32 * (k + 1) + 3)) rfl tf_RX2_21 dX2_isTold_10 ?_
      refine r_iln C dX2_isTold_13 (k := 1) rfl ?_
      refine r_iald C (kL_3 hk) dX2_isTold_14 h (fun v1 h => ?_)
      refine r_aln C dX2_isTold_15 (k := 0) rfl ?_
      refine r_gs C (kL hk) clX2 (f := 2) (by decide) rfl (t := (32 * (k + 1) + 2)) rfl tf_RX2_18 dX2_isTold_16 ?_
      refine r_iln C dX2_isTold_19 (k := 1) rfl ?_
      refine r_iald C (kL_2 hk) dX2_isTold_20 h (fun v2 h => ?_)
      refine r_cle C (tgt := 28) dX2_isTold_21 (by decide) h (fun h => ?_) (fun h => ?_)
      · refine r_ic C dX2_isTold_28 ?_
        exact r_zretp C (by decide) hr hlk dX2_isTold_29 h
      · refine r_ic C dX2_isTold_24 ?_
        refine r_goto C (tgt := 29) dX2_isTold_25 (by decide) ?_
        exact r_zretp C (by decide) hr hlk dX2_isTold_29 h
abbrev rm_X2_joined : Room := { frames := 0, cells := 0, slots := 0, locals := 0 }
theorem mw_X2_joined : q_ms yX2_joined cX2_joined 9 (some .long) 3 := ⟨⟨ts_X2_joined, tn_RX2, td_X2_joined⟩, by decide +kernel⟩
def f_X2_joined_J349 (x5 : Int) (M : Mem) : Option Int :=
  if 0 < w32 (q_cmp x5 1000000000000) then (some (-9223372036854775808))
  else (if 0 ≤ w32 (q_cmp x5 (-1000000000000)) then (some x5)
  else (some (-9223372036854775808)))
theorem w_X2_joined_J349 (C : Cx syC p m c cX2_joined 9 s args RX2 D ad cA) (hr : meth.sig.returnType = (some .long)) (hlk : meth.locks = false) (x5 : Int) (M : Mem)  (h : f_X2_joined_J349 x5 M = some r0) : WM syC p l e rm_X2_joined s m args below meth c 9 D ad cA (MQ below (q_Post syC D ad cA (some (.long (qJ r0))) M) args s 0 0 (q_A syC ad)) M 349 [(5, .long (qJ x5))] [] := by
  unfold f_X2_joined_J349 at h
  refine r_ll C dX2_joined_349 (k := 0) rfl ?_
  refine r_ldc2 C (x := 1000000000000) tc_RX2_45 (by decide) dX2_joined_351 ?_
  refine r_lcmp C dX2_joined_354 ?_
  refine r_zgt C (tgt := 367) dX2_joined_355 (by decide) h (fun h => ?_) (fun h => ?_)
  · refine r_ldc2 C (x := (-9223372036854775808)) tc_RX2_39 (by decide) dX2_joined_367 ?_
    refine r_goto C (tgt := 375) dX2_joined_370 (by decide) ?_
    exact r_lretp C hr hlk dX2_joined_375 h
  · refine r_ll C dX2_joined_358 (k := 0) rfl ?_
    refine r_ldc2 C (x := (-1000000000000)) tc_RX2_47 (by decide) dX2_joined_360 ?_
    refine r_lcmp C dX2_joined_363 ?_
    refine r_zge C (tgt := 373) dX2_joined_364 (by decide) h (fun h => ?_) (fun h => ?_)
    · refine r_ll C dX2_joined_373 (k := 0) rfl ?_
      exact r_lretp C hr hlk dX2_joined_375 h
    · refine r_ldc2 C (x := (-9223372036854775808)) tc_RX2_39 (by decide) dX2_joined_367 ?_
      refine r_goto C (tgt := 375) dX2_joined_370 (by decide) ?_
      exact r_lretp C hr hlk dX2_joined_375 h
def f_X2_joined_J133 (y0 : Int) (M : Mem) : Option Int :=
  f_X2_joined_J349 y0 M
theorem w_X2_joined_J133 (C : Cx syC p m c cX2_joined 9 s args RX2 D ad cA) (hr : meth.sig.returnType = (some .long)) (hlk : meth.locks = false) (y0 : Int) (M : Mem)  (h : f_X2_joined_J133 y0 M = some r0) : WM syC p l e rm_X2_joined s m args below meth c 9 D ad cA (MQ below (q_Post syC D ad cA (some (.long (qJ r0))) M) args s 0 0 (q_A syC ad)) M 133 [] [.long (qJ y0)] := by
  unfold f_X2_joined_J133 at h
  refine r_ls C (L1 := [(5, .long (qJ y0))]) dX2_joined_133 (by decide) rfl ?_
  refine r_goto C (tgt := 349) dX2_joined_135 (by decide) ?_
  exact w_X2_joined_J349 C hr hlk y0 M  h
def f_X2_joined_J128  (M : Mem) : Option Int :=
  f_X2_joined_J133 1 M
theorem w_X2_joined_J128 (C : Cx syC p m c cX2_joined 9 s args RX2 D ad cA) (hr : meth.sig.returnType = (some .long)) (hlk : meth.locks = false)  (M : Mem)  (h : f_X2_joined_J128  M = some r0) : WM syC p l e rm_X2_joined s m args below meth c 9 D ad cA (MQ below (q_Post syC D ad cA (some (.long (qJ r0))) M) args s 0 0 (q_A syC ad)) M 128 [] [] := by
  unfold f_X2_joined_J128 at h
  refine r_lc C (x := 1) dX2_joined_128 (by decide) ?_
  refine r_goto C (tgt := 133) dX2_joined_129 (by decide) ?_
  exact w_X2_joined_J133 C hr hlk 1 M  h
def f_X2_joined_J155 (y0 : Int) (M : Mem) : Option Int :=
  f_X2_joined_J349 y0 M
theorem w_X2_joined_J155 (C : Cx syC p m c cX2_joined 9 s args RX2 D ad cA) (hr : meth.sig.returnType = (some .long)) (hlk : meth.locks = false) (y0 : Int) (M : Mem)  (h : f_X2_joined_J155 y0 M = some r0) : WM syC p l e rm_X2_joined s m args below meth c 9 D ad cA (MQ below (q_Post syC D ad cA (some (.long (qJ r0))) M) args s 0 0 (q_A syC ad)) M 155 [] [.long (qJ y0)] := by
  unfold f_X2_joined_J155 at h
  refine r_ls C (L1 := [(5, .long (qJ y0))]) dX2_joined_155 (by decide) rfl ?_
  refine r_goto C (tgt := 349) dX2_joined_157 (by decide) ?_
  exact w_X2_joined_J349 C hr hlk y0 M  h
def f_X2_joined_J154  (M : Mem) : Option Int :=
  f_X2_joined_J155 0 M
theorem w_X2_joined_J154 (C : Cx syC p m c cX2_joined 9 s args RX2 D ad cA) (hr : meth.sig.returnType = (some .long)) (hlk : meth.locks = false)  (M : Mem)  (h : f_X2_joined_J154  M = some r0) : WM syC p l e rm_X2_joined s m args below meth c 9 D ad cA (MQ below (q_Post syC D ad cA (some (.long (qJ r0))) M) args s 0 0 (q_A syC ad)) M 154 [] [] := by
  unfold f_X2_joined_J154 at h
  refine r_lc C (x := 0) dX2_joined_154 (by decide) ?_
  exact w_X2_joined_J155 C hr hlk 0 M  h
def f_X2_joined_J319 (x1 : Int) (x3 : Int) (M : Mem) : Option Int :=
  f_X2_joined_J349 (x1 * x3) M
theorem w_X2_joined_J319 (C : Cx syC p m c cX2_joined 9 s args RX2 D ad cA) (hr : meth.sig.returnType = (some .long)) (hlk : meth.locks = false) (x1 : Int) (x3 : Int) (M : Mem)  (h : f_X2_joined_J319 x1 x3 M = some r0) : WM syC p l e rm_X2_joined s m args below meth c 9 D ad cA (MQ below (q_Post syC D ad cA (some (.long (qJ r0))) M) args s 0 0 (q_A syC ad)) M 319 [(1, .long (qJ x1)), (3, .long (qJ x3))] [] := by
  unfold f_X2_joined_J319 at h
  refine r_lln C dX2_joined_319 (k := 0) rfl ?_
  refine r_lln C dX2_joined_320 (k := 1) rfl ?_
  refine r_lmul C dX2_joined_321 ?_
  refine r_ls C (L1 := [(5, .long (qJ (x1 * x3))), (1, .long (qJ x1)), (3, .long (qJ x3))]) dX2_joined_322 (by decide) rfl ?_
  refine r_goto C (tgt := 349) dX2_joined_324 (by decide) ?_
  refine r_drop [0] rfl ?_
  exact w_X2_joined_J349 C hr hlk (x1 * x3) M  h
def f_X2_joined_J305 (x1 : Int) (x3 : Int) (x7 : Int) (y0 : Int) (M : Mem) : Option Int :=
  q_nzl x7 <| if w32 (q_cmp y0 ((w64 1000000000000).tdiv (w64 x7))) ≤ 0 then (f_X2_joined_J319 x1 x3 M)
  else (some (-9223372036854775808))
theorem w_X2_joined_J305 (C : Cx syC p m c cX2_joined 9 s args RX2 D ad cA) (hr : meth.sig.returnType = (some .long)) (hlk : meth.locks = false) (x1 : Int) (x3 : Int) (x7 : Int) (y0 : Int) (M : Mem)  (h : f_X2_joined_J305 x1 x3 x7 y0 M = some r0) : WM syC p l e rm_X2_joined s m args below meth c 9 D ad cA (MQ below (q_Post syC D ad cA (some (.long (qJ r0))) M) args s 0 0 (q_A syC ad)) M 305 [(1, .long (qJ x1)), (3, .long (qJ x3)), (7, .long (qJ x7))] [.long (qJ y0)] := by
  unfold f_X2_joined_J305 at h
  refine r_ldc2 C (x := 1000000000000) tc_RX2_45 (by decide) dX2_joined_305 ?_
  refine r_ll C dX2_joined_308 (k := 2) rfl ?_
  refine r_ldiv C dX2_joined_310 h (fun h => ?_)
  refine r_lcmp C dX2_joined_311 ?_
  refine r_zle C (tgt := 319) dX2_joined_312 (by decide) h (fun h => ?_) (fun h => ?_)
  · refine r_drop [0, 1] rfl ?_
    exact w_X2_joined_J319 C hr hlk x1 x3 M  h
  · refine r_ldc2 C (x := (-9223372036854775808)) tc_RX2_39 (by decide) dX2_joined_315 ?_
    exact r_lretp C hr hlk dX2_joined_318 h
def f_X2_joined_J284 (x1 : Int) (x3 : Int) (y0 : Int) (M : Mem) : Option Int :=
  if w32 (q_cmp y0 0) = 0 then (f_X2_joined_J319 x1 x3 M)
  else (if 0 ≤ w32 (q_cmp x3 0) then (f_X2_joined_J305 x1 x3 y0 x3 M)
  else (f_X2_joined_J305 x1 x3 y0 (-x3) M))
theorem w_X2_joined_J284 (C : Cx syC p m c cX2_joined 9 s args RX2 D ad cA) (hr : meth.sig.returnType = (some .long)) (hlk : meth.locks = false) (x1 : Int) (x3 : Int) (y0 : Int) (M : Mem)  (h : f_X2_joined_J284 x1 x3 y0 M = some r0) : WM syC p l e rm_X2_joined s m args below meth c 9 D ad cA (MQ below (q_Post syC D ad cA (some (.long (qJ r0))) M) args s 0 0 (q_A syC ad)) M 284 [(1, .long (qJ x1)), (3, .long (qJ x3))] [.long (qJ y0)] := by
  unfold f_X2_joined_J284 at h
  refine r_ls C (L1 := [(7, .long (qJ y0)), (1, .long (qJ x1)), (3, .long (qJ x3))]) dX2_joined_284 (by decide) rfl ?_
  refine r_ll C dX2_joined_286 (k := 0) rfl ?_
  refine r_lc C (x := 0) dX2_joined_288 (by decide) ?_
  refine r_lcmp C dX2_joined_289 ?_
  refine r_zeq C (tgt := 319) dX2_joined_290 (by decide) h (fun h => ?_) (fun h => ?_)
  · refine r_drop [1, 2] rfl ?_
    exact w_X2_joined_J319 C hr hlk x1 x3 M  h
  · refine r_lln C dX2_joined_293 (k := 2) rfl ?_
    refine r_lc C (x := 0) dX2_joined_294 (by decide) ?_
    refine r_lcmp C dX2_joined_295 ?_
    refine r_zge C (tgt := 304) dX2_joined_296 (by decide) h (fun h => ?_) (fun h => ?_)
    · refine r_lln C dX2_joined_304 (k := 2) rfl ?_
      refine r_drop [1, 2, 0] rfl ?_
      exact w_X2_joined_J305 C hr hlk x1 x3 y0 x3 M  h
    · refine r_lln C dX2_joined_299 (k := 2) rfl ?_
      refine r_lneg C dX2_joined_300 ?_
      refine r_goto C (tgt := 305) dX2_joined_301 (by decide) ?_
      refine r_drop [1, 2, 0] rfl ?_
      exact w_X2_joined_J305 C hr hlk x1 x3 y0 (-x3) M  h
def f_X2_joined_J171 (y0 : Int) (M : Mem) : Option Int :=
  f_X2_joined_J349 y0 M
theorem w_X2_joined_J171 (C : Cx syC p m c cX2_joined 9 s args RX2 D ad cA) (hr : meth.sig.returnType = (some .long)) (hlk : meth.locks = false) (y0 : Int) (M : Mem)  (h : f_X2_joined_J171 y0 M = some r0) : WM syC p l e rm_X2_joined s m args below meth c 9 D ad cA (MQ below (q_Post syC D ad cA (some (.long (qJ r0))) M) args s 0 0 (q_A syC ad)) M 171 [] [.long (qJ y0)] := by
  unfold f_X2_joined_J171 at h
  refine r_ls C (L1 := [(5, .long (qJ y0))]) dX2_joined_171 (by decide) rfl ?_
  refine r_goto C (tgt := 349) dX2_joined_173 (by decide) ?_
  exact w_X2_joined_J349 C hr hlk y0 M  h
def f_X2_joined_J187 (y0 : Int) (M : Mem) : Option Int :=
  f_X2_joined_J349 y0 M
theorem w_X2_joined_J187 (C : Cx syC p m c cX2_joined 9 s args RX2 D ad cA) (hr : meth.sig.returnType = (some .long)) (hlk : meth.locks = false) (y0 : Int) (M : Mem)  (h : f_X2_joined_J187 y0 M = some r0) : WM syC p l e rm_X2_joined s m args below meth c 9 D ad cA (MQ below (q_Post syC D ad cA (some (.long (qJ r0))) M) args s 0 0 (q_A syC ad)) M 187 [] [.long (qJ y0)] := by
  unfold f_X2_joined_J187 at h
  refine r_ls C (L1 := [(5, .long (qJ y0))]) dX2_joined_187 (by decide) rfl ?_
  refine r_goto C (tgt := 349) dX2_joined_189 (by decide) ?_
  exact w_X2_joined_J349 C hr hlk y0 M  h
def f_X2_joined_J203 (y0 : Int) (M : Mem) : Option Int :=
  f_X2_joined_J349 y0 M
theorem w_X2_joined_J203 (C : Cx syC p m c cX2_joined 9 s args RX2 D ad cA) (hr : meth.sig.returnType = (some .long)) (hlk : meth.locks = false) (y0 : Int) (M : Mem)  (h : f_X2_joined_J203 y0 M = some r0) : WM syC p l e rm_X2_joined s m args below meth c 9 D ad cA (MQ below (q_Post syC D ad cA (some (.long (qJ r0))) M) args s 0 0 (q_A syC ad)) M 203 [] [.long (qJ y0)] := by
  unfold f_X2_joined_J203 at h
  refine r_ls C (L1 := [(5, .long (qJ y0))]) dX2_joined_203 (by decide) rfl ?_
  refine r_goto C (tgt := 349) dX2_joined_205 (by decide) ?_
  exact w_X2_joined_J349 C hr hlk y0 M  h
def f_X2_joined_J219 (y0 : Int) (M : Mem) : Option Int :=
  f_X2_joined_J349 y0 M
theorem w_X2_joined_J219 (C : Cx syC p m c cX2_joined 9 s args RX2 D ad cA) (hr : meth.sig.returnType = (some .long)) (hlk : meth.locks = false) (y0 : Int) (M : Mem)  (h : f_X2_joined_J219 y0 M = some r0) : WM syC p l e rm_X2_joined s m args below meth c 9 D ad cA (MQ below (q_Post syC D ad cA (some (.long (qJ r0))) M) args s 0 0 (q_A syC ad)) M 219 [] [.long (qJ y0)] := by
  unfold f_X2_joined_J219 at h
  refine r_ls C (L1 := [(5, .long (qJ y0))]) dX2_joined_219 (by decide) rfl ?_
  refine r_goto C (tgt := 349) dX2_joined_221 (by decide) ?_
  exact w_X2_joined_J349 C hr hlk y0 M  h
def f_X2_joined_J235 (y0 : Int) (M : Mem) : Option Int :=
  f_X2_joined_J349 y0 M
theorem w_X2_joined_J235 (C : Cx syC p m c cX2_joined 9 s args RX2 D ad cA) (hr : meth.sig.returnType = (some .long)) (hlk : meth.locks = false) (y0 : Int) (M : Mem)  (h : f_X2_joined_J235 y0 M = some r0) : WM syC p l e rm_X2_joined s m args below meth c 9 D ad cA (MQ below (q_Post syC D ad cA (some (.long (qJ r0))) M) args s 0 0 (q_A syC ad)) M 235 [] [.long (qJ y0)] := by
  unfold f_X2_joined_J235 at h
  refine r_ls C (L1 := [(5, .long (qJ y0))]) dX2_joined_235 (by decide) rfl ?_
  refine r_goto C (tgt := 349) dX2_joined_237 (by decide) ?_
  exact w_X2_joined_J349 C hr hlk y0 M  h
def f_X2_joined_J251 (y0 : Int) (M : Mem) : Option Int :=
  f_X2_joined_J349 y0 M
theorem w_X2_joined_J251 (C : Cx syC p m c cX2_joined 9 s args RX2 D ad cA) (hr : meth.sig.returnType = (some .long)) (hlk : meth.locks = false) (y0 : Int) (M : Mem)  (h : f_X2_joined_J251 y0 M = some r0) : WM syC p l e rm_X2_joined s m args below meth c 9 D ad cA (MQ below (q_Post syC D ad cA (some (.long (qJ r0))) M) args s 0 0 (q_A syC ad)) M 251 [] [.long (qJ y0)] := by
  unfold f_X2_joined_J251 at h
  refine r_ls C (L1 := [(5, .long (qJ y0))]) dX2_joined_251 (by decide) rfl ?_
  refine r_goto C (tgt := 349) dX2_joined_253 (by decide) ?_
  exact w_X2_joined_J349 C hr hlk y0 M  h
def f_X2_joined (a0 : Int) (a1 : Int) (a2 : Int) (M : Mem) : Option Int :=
  if w32 a0 = 10 then (if ¬ w32 (q_cmp a1 0) = 0 then (f_X2_joined_J128  M)
  else (if w32 (q_cmp a2 0) = 0 then (f_X2_joined_J133 0 M)
  else (f_X2_joined_J128  M)))
  else if w32 a0 = 11 then (if w32 (q_cmp a1 0) = 0 then (f_X2_joined_J154  M)
  else (if w32 (q_cmp a2 0) = 0 then (f_X2_joined_J154  M)
  else (f_X2_joined_J155 1 M)))
  else if w32 a0 = 12 then (some (-9223372036854775808))
  else if w32 a0 = 13 then (some (-9223372036854775808))
  else if w32 a0 = 14 then (some (-9223372036854775808))
  else if w32 a0 = 15 then (some (-9223372036854775808))
  else if w32 a0 = 16 then (some (-9223372036854775808))
  else if w32 a0 = 17 then (some (-9223372036854775808))
  else if w32 a0 = 18 then (some (-9223372036854775808))
  else if w32 a0 = 19 then (some (-9223372036854775808))
  else if w32 a0 = 20 then (some (-9223372036854775808))
  else if w32 a0 = 21 then (some (-9223372036854775808))
  else if w32 a0 = 22 then (some (-9223372036854775808))
  else if w32 a0 = 23 then (some (-9223372036854775808))
  else if w32 a0 = 24 then (some (-9223372036854775808))
  else if w32 a0 = 25 then (f_X2_joined_J349 (a1 + a2) M)
  else if w32 a0 = 26 then (f_X2_joined_J349 (a1 - a2) M)
  else if w32 a0 = 27 then (if 0 ≤ w32 (q_cmp a1 0) then (f_X2_joined_J284 a1 a2 a1 M)
  else (f_X2_joined_J284 a1 a2 (-a1) M))
  else if w32 a0 = 28 then (if ¬ w32 (q_cmp a2 0) = 0 then (q_nzl a2 <| f_X2_joined_J349 ((w64 a1).tdiv (w64 a2)) M)
  else (some (-9223372036854775808)))
  else if w32 a0 = 29 then (if 0 ≤ w32 (q_cmp a1 a2) then (f_X2_joined_J171 0 M)
  else (f_X2_joined_J171 1 M))
  else if w32 a0 = 30 then (if 0 < w32 (q_cmp a1 a2) then (f_X2_joined_J187 0 M)
  else (f_X2_joined_J187 1 M))
  else if w32 a0 = 31 then (if ¬ w32 (q_cmp a1 a2) = 0 then (f_X2_joined_J203 0 M)
  else (f_X2_joined_J203 1 M))
  else if w32 a0 = 32 then (if w32 (q_cmp a1 a2) = 0 then (f_X2_joined_J219 0 M)
  else (f_X2_joined_J219 1 M))
  else if w32 a0 = 33 then (if w32 (q_cmp a1 a2) < 0 then (f_X2_joined_J235 0 M)
  else (f_X2_joined_J235 1 M))
  else if w32 a0 = 34 then (if w32 (q_cmp a1 a2) ≤ 0 then (f_X2_joined_J251 0 M)
  else (f_X2_joined_J251 1 M))
  else (some (-9223372036854775808))
theorem c_X2_joined {l : Launch} {D : va_G} {ad : Nat → Nat} {cA : Nat → ClassId} (hi : q_inj syC ad) (a0 : Int) (a1 : Int) (a2 : Int) (M : Mem) (r0 : Int) (h : f_X2_joined a0 a1 a2 M = some r0) : q_Met l syC D ad cA yX2_joined cX2_joined 9 (some .long) rm_X2_joined [.int (qI a0), .long (qJ a1), .long (qJ a2)] M (some (.long (qJ r0))) M := by
  refine q_met (L0 := [(0, .int (qI a0)), (1, .long (qJ a1)), (3, .long (qJ a2))]) hi okC (by decide) (Nat.le_of_ble_eq_true rfl) rfl ?_
  intro p e s m args below meth c C hr hlk
  unfold f_X2_joined at h
  refine r_iln C dX2_joined_0 (k := 0) rfl ?_
  refine r_tc C h (fun e h => ?_) (fun ne10 h => ?_)
  · refine r_tin C (tgt := 116) dX2_joined_1 e (by decide) rfl (by decide) ?_
    refine r_lln C dX2_joined_116 (k := 1) rfl ?_
    refine r_lc C (x := 0) dX2_joined_117 (by decide) ?_
    refine r_lcmp C dX2_joined_118 ?_
    refine r_zne C (tgt := 128) dX2_joined_119 (by decide) h (fun h => ?_) (fun h => ?_)
    · refine r_drop [] rfl ?_
      exact w_X2_joined_J128 C hr hlk  M  h
    · refine r_lln C dX2_joined_122 (k := 2) rfl ?_
      refine r_lc C (x := 0) dX2_joined_123 (by decide) ?_
      refine r_lcmp C dX2_joined_124 ?_
      refine r_zeq C (tgt := 132) dX2_joined_125 (by decide) h (fun h => ?_) (fun h => ?_)
      · refine r_lc C (x := 0) dX2_joined_132 (by decide) ?_
        refine r_drop [] rfl ?_
        exact w_X2_joined_J133 C hr hlk 0 M  h
      · refine r_drop [] rfl ?_
        exact w_X2_joined_J128 C hr hlk  M  h
  refine r_tc C h (fun e h => ?_) (fun ne11 h => ?_)
  · refine r_tin C (tgt := 138) dX2_joined_1 e (by decide) rfl (by decide) ?_
    refine r_lln C dX2_joined_138 (k := 1) rfl ?_
    refine r_lc C (x := 0) dX2_joined_139 (by decide) ?_
    refine r_lcmp C dX2_joined_140 ?_
    refine r_zeq C (tgt := 154) dX2_joined_141 (by decide) h (fun h => ?_) (fun h => ?_)
    · refine r_drop [] rfl ?_
      exact w_X2_joined_J154 C hr hlk  M  h
    · refine r_lln C dX2_joined_144 (k := 2) rfl ?_
      refine r_lc C (x := 0) dX2_joined_145 (by decide) ?_
      refine r_lcmp C dX2_joined_146 ?_
      refine r_zeq C (tgt := 154) dX2_joined_147 (by decide) h (fun h => ?_) (fun h => ?_)
      · refine r_drop [] rfl ?_
        exact w_X2_joined_J154 C hr hlk  M  h
      · refine r_lc C (x := 1) dX2_joined_150 (by decide) ?_
        refine r_goto C (tgt := 155) dX2_joined_151 (by decide) ?_
        refine r_drop [] rfl ?_
        exact w_X2_joined_J155 C hr hlk 1 M  h
  refine r_tc C h (fun e h => ?_) (fun ne12 h => ?_)
  · refine r_tin C (tgt := 345) dX2_joined_1 e (by decide) rfl (by decide) ?_
    refine r_ldc2 C (x := (-9223372036854775808)) tc_RX2_39 (by decide) dX2_joined_345 ?_
    exact r_lretp C hr hlk dX2_joined_348 h
  refine r_tc C h (fun e h => ?_) (fun ne13 h => ?_)
  · refine r_tin C (tgt := 345) dX2_joined_1 e (by decide) rfl (by decide) ?_
    refine r_ldc2 C (x := (-9223372036854775808)) tc_RX2_39 (by decide) dX2_joined_345 ?_
    exact r_lretp C hr hlk dX2_joined_348 h
  refine r_tc C h (fun e h => ?_) (fun ne14 h => ?_)
  · refine r_tin C (tgt := 345) dX2_joined_1 e (by decide) rfl (by decide) ?_
    refine r_ldc2 C (x := (-9223372036854775808)) tc_RX2_39 (by decide) dX2_joined_345 ?_
    exact r_lretp C hr hlk dX2_joined_348 h
  refine r_tc C h (fun e h => ?_) (fun ne15 h => ?_)
  · refine r_tin C (tgt := 345) dX2_joined_1 e (by decide) rfl (by decide) ?_
    refine r_ldc2 C (x := (-9223372036854775808)) tc_RX2_39 (by decide) dX2_joined_345 ?_
    exact r_lretp C hr hlk dX2_joined_348 h
  refine r_tc C h (fun e h => ?_) (fun ne16 h => ?_)
  · refine r_tin C (tgt := 345) dX2_joined_1 e (by decide) rfl (by decide) ?_
    refine r_ldc2 C (x := (-9223372036854775808)) tc_RX2_39 (by decide) dX2_joined_345 ?_
    exact r_lretp C hr hlk dX2_joined_348 h
  refine r_tc C h (fun e h => ?_) (fun ne17 h => ?_)
  · refine r_tin C (tgt := 345) dX2_joined_1 e (by decide) rfl (by decide) ?_
    refine r_ldc2 C (x := (-9223372036854775808)) tc_RX2_39 (by decide) dX2_joined_345 ?_
    exact r_lretp C hr hlk dX2_joined_348 h
  refine r_tc C h (fun e h => ?_) (fun ne18 h => ?_)
  · refine r_tin C (tgt := 345) dX2_joined_1 e (by decide) rfl (by decide) ?_
    refine r_ldc2 C (x := (-9223372036854775808)) tc_RX2_39 (by decide) dX2_joined_345 ?_
    exact r_lretp C hr hlk dX2_joined_348 h
  refine r_tc C h (fun e h => ?_) (fun ne19 h => ?_)
  · refine r_tin C (tgt := 345) dX2_joined_1 e (by decide) rfl (by decide) ?_
    refine r_ldc2 C (x := (-9223372036854775808)) tc_RX2_39 (by decide) dX2_joined_345 ?_
    exact r_lretp C hr hlk dX2_joined_348 h
  refine r_tc C h (fun e h => ?_) (fun ne20 h => ?_)
  · refine r_tin C (tgt := 345) dX2_joined_1 e (by decide) rfl (by decide) ?_
    refine r_ldc2 C (x := (-9223372036854775808)) tc_RX2_39 (by decide) dX2_joined_345 ?_
    exact r_lretp C hr hlk dX2_joined_348 h
  refine r_tc C h (fun e h => ?_) (fun ne21 h => ?_)
  · refine r_tin C (tgt := 345) dX2_joined_1 e (by decide) rfl (by decide) ?_
    refine r_ldc2 C (x := (-9223372036854775808)) tc_RX2_39 (by decide) dX2_joined_345 ?_
    exact r_lretp C hr hlk dX2_joined_348 h
  refine r_tc C h (fun e h => ?_) (fun ne22 h => ?_)
  · refine r_tin C (tgt := 345) dX2_joined_1 e (by decide) rfl (by decide) ?_
    refine r_ldc2 C (x := (-9223372036854775808)) tc_RX2_39 (by decide) dX2_joined_345 ?_
    exact r_lretp C hr hlk dX2_joined_348 h
  refine r_tc C h (fun e h => ?_) (fun ne23 h => ?_)
  · refine r_tin C (tgt := 345) dX2_joined_1 e (by decide) rfl (by decide) ?_
    refine r_ldc2 C (x := (-9223372036854775808)) tc_RX2_39 (by decide) dX2_joined_345 ?_
    exact r_lretp C hr hlk dX2_joined_348 h
  refine r_tc C h (fun e h => ?_) (fun ne24 h => ?_)
  · refine r_tin C (tgt := 345) dX2_joined_1 e (by decide) rfl (by decide) ?_
    refine r_ldc2 C (x := (-9223372036854775808)) tc_RX2_39 (by decide) dX2_joined_345 ?_
    exact r_lretp C hr hlk dX2_joined_348 h
  refine r_tc C h (fun e h => ?_) (fun ne25 h => ?_)
  · refine r_tin C (tgt := 256) dX2_joined_1 e (by decide) rfl (by decide) ?_
    refine r_lln C dX2_joined_256 (k := 1) rfl ?_
    refine r_lln C dX2_joined_257 (k := 2) rfl ?_
    refine r_ladd C dX2_joined_258 ?_
    refine r_ls C (L1 := [(5, .long (qJ (a1 + a2))), (0, .int (qI a0)), (1, .long (qJ a1)), (3, .long (qJ a2))]) dX2_joined_259 (by decide) rfl ?_
    refine r_goto C (tgt := 349) dX2_joined_261 (by decide) ?_
    refine r_drop [0] rfl ?_
    exact w_X2_joined_J349 C hr hlk (a1 + a2) M  h
  refine r_tc C h (fun e h => ?_) (fun ne26 h => ?_)
  · refine r_tin C (tgt := 264) dX2_joined_1 e (by decide) rfl (by decide) ?_
    refine r_lln C dX2_joined_264 (k := 1) rfl ?_
    refine r_lln C dX2_joined_265 (k := 2) rfl ?_
    refine r_lsub C dX2_joined_266 ?_
    refine r_ls C (L1 := [(5, .long (qJ (a1 - a2))), (0, .int (qI a0)), (1, .long (qJ a1)), (3, .long (qJ a2))]) dX2_joined_267 (by decide) rfl ?_
    refine r_goto C (tgt := 349) dX2_joined_269 (by decide) ?_
    refine r_drop [0] rfl ?_
    exact w_X2_joined_J349 C hr hlk (a1 - a2) M  h
  refine r_tc C h (fun e h => ?_) (fun ne27 h => ?_)
  · refine r_tin C (tgt := 272) dX2_joined_1 e (by decide) rfl (by decide) ?_
    refine r_lln C dX2_joined_272 (k := 1) rfl ?_
    refine r_lc C (x := 0) dX2_joined_273 (by decide) ?_
    refine r_lcmp C dX2_joined_274 ?_
    refine r_zge C (tgt := 283) dX2_joined_275 (by decide) h (fun h => ?_) (fun h => ?_)
    · refine r_lln C dX2_joined_283 (k := 1) rfl ?_
      refine r_drop [1, 2] rfl ?_
      exact w_X2_joined_J284 C hr hlk a1 a2 a1 M  h
    · refine r_lln C dX2_joined_278 (k := 1) rfl ?_
      refine r_lneg C dX2_joined_279 ?_
      refine r_goto C (tgt := 284) dX2_joined_280 (by decide) ?_
      refine r_drop [1, 2] rfl ?_
      exact w_X2_joined_J284 C hr hlk a1 a2 (-a1) M  h
  refine r_tc C h (fun e h => ?_) (fun ne28 h => ?_)
  · refine r_tin C (tgt := 327) dX2_joined_1 e (by decide) rfl (by decide) ?_
    refine r_lln C dX2_joined_327 (k := 2) rfl ?_
    refine r_lc C (x := 0) dX2_joined_328 (by decide) ?_
    refine r_lcmp C dX2_joined_329 ?_
    refine r_zne C (tgt := 337) dX2_joined_330 (by decide) h (fun h => ?_) (fun h => ?_)
    · refine r_lln C dX2_joined_337 (k := 1) rfl ?_
      refine r_lln C dX2_joined_338 (k := 2) rfl ?_
      refine r_ldiv C dX2_joined_339 h (fun h => ?_)
      refine r_ls C (L1 := [(5, .long (qJ ((w64 a1).tdiv (w64 a2)))), (0, .int (qI a0)), (1, .long (qJ a1)), (3, .long (qJ a2))]) dX2_joined_340 (by decide) rfl ?_
      refine r_goto C (tgt := 349) dX2_joined_342 (by decide) ?_
      refine r_drop [0] rfl ?_
      exact w_X2_joined_J349 C hr hlk ((w64 a1).tdiv (w64 a2)) M  h
    · refine r_ldc2 C (x := (-9223372036854775808)) tc_RX2_39 (by decide) dX2_joined_333 ?_
      exact r_lretp C hr hlk dX2_joined_336 h
  refine r_tc C h (fun e h => ?_) (fun ne29 h => ?_)
  · refine r_tin C (tgt := 160) dX2_joined_1 e (by decide) rfl (by decide) ?_
    refine r_lln C dX2_joined_160 (k := 1) rfl ?_
    refine r_lln C dX2_joined_161 (k := 2) rfl ?_
    refine r_lcmp C dX2_joined_162 ?_
    refine r_zge C (tgt := 170) dX2_joined_163 (by decide) h (fun h => ?_) (fun h => ?_)
    · refine r_lc C (x := 0) dX2_joined_170 (by decide) ?_
      refine r_drop [] rfl ?_
      exact w_X2_joined_J171 C hr hlk 0 M  h
    · refine r_lc C (x := 1) dX2_joined_166 (by decide) ?_
      refine r_goto C (tgt := 171) dX2_joined_167 (by decide) ?_
      refine r_drop [] rfl ?_
      exact w_X2_joined_J171 C hr hlk 1 M  h
  refine r_tc C h (fun e h => ?_) (fun ne30 h => ?_)
  · refine r_tin C (tgt := 176) dX2_joined_1 e (by decide) rfl (by decide) ?_
    refine r_lln C dX2_joined_176 (k := 1) rfl ?_
    refine r_lln C dX2_joined_177 (k := 2) rfl ?_
    refine r_lcmp C dX2_joined_178 ?_
    refine r_zgt C (tgt := 186) dX2_joined_179 (by decide) h (fun h => ?_) (fun h => ?_)
    · refine r_lc C (x := 0) dX2_joined_186 (by decide) ?_
      refine r_drop [] rfl ?_
      exact w_X2_joined_J187 C hr hlk 0 M  h
    · refine r_lc C (x := 1) dX2_joined_182 (by decide) ?_
      refine r_goto C (tgt := 187) dX2_joined_183 (by decide) ?_
      refine r_drop [] rfl ?_
      exact w_X2_joined_J187 C hr hlk 1 M  h
  refine r_tc C h (fun e h => ?_) (fun ne31 h => ?_)
  · refine r_tin C (tgt := 192) dX2_joined_1 e (by decide) rfl (by decide) ?_
    refine r_lln C dX2_joined_192 (k := 1) rfl ?_
    refine r_lln C dX2_joined_193 (k := 2) rfl ?_
    refine r_lcmp C dX2_joined_194 ?_
    refine r_zne C (tgt := 202) dX2_joined_195 (by decide) h (fun h => ?_) (fun h => ?_)
    · refine r_lc C (x := 0) dX2_joined_202 (by decide) ?_
      refine r_drop [] rfl ?_
      exact w_X2_joined_J203 C hr hlk 0 M  h
    · refine r_lc C (x := 1) dX2_joined_198 (by decide) ?_
      refine r_goto C (tgt := 203) dX2_joined_199 (by decide) ?_
      refine r_drop [] rfl ?_
      exact w_X2_joined_J203 C hr hlk 1 M  h
  refine r_tc C h (fun e h => ?_) (fun ne32 h => ?_)
  · refine r_tin C (tgt := 208) dX2_joined_1 e (by decide) rfl (by decide) ?_
    refine r_lln C dX2_joined_208 (k := 1) rfl ?_
    refine r_lln C dX2_joined_209 (k := 2) rfl ?_
    refine r_lcmp C dX2_joined_210 ?_
    refine r_zeq C (tgt := 218) dX2_joined_211 (by decide) h (fun h => ?_) (fun h => ?_)
    · refine r_lc C (x := 0) dX2_joined_218 (by decide) ?_
      refine r_drop [] rfl ?_
      exact w_X2_joined_J219 C hr hlk 0 M  h
    · refine r_lc C (x := 1) dX2_joined_214 (by decide) ?_
      refine r_goto C (tgt := 219) dX2_joined_215 (by decide) ?_
      refine r_drop [] rfl ?_
      exact w_X2_joined_J219 C hr hlk 1 M  h
  refine r_tc C h (fun e h => ?_) (fun ne33 h => ?_)
  · refine r_tin C (tgt := 224) dX2_joined_1 e (by decide) rfl (by decide) ?_
    refine r_lln C dX2_joined_224 (k := 1) rfl ?_
    refine r_lln C dX2_joined_225 (k := 2) rfl ?_
    refine r_lcmp C dX2_joined_226 ?_
    refine r_zlt C (tgt := 234) dX2_joined_227 (by decide) h (fun h => ?_) (fun h => ?_)
    · refine r_lc C (x := 0) dX2_joined_234 (by decide) ?_
      refine r_drop [] rfl ?_
      exact w_X2_joined_J235 C hr hlk 0 M  h
    · refine r_lc C (x := 1) dX2_joined_230 (by decide) ?_
      refine r_goto C (tgt := 235) dX2_joined_231 (by decide) ?_
      refine r_drop [] rfl ?_
      exact w_X2_joined_J235 C hr hlk 1 M  h
  refine r_tc C h (fun e h => ?_) (fun ne34 h => ?_)
  · refine r_tin C (tgt := 240) dX2_joined_1 e (by decide) rfl (by decide) ?_
    refine r_lln C dX2_joined_240 (k := 1) rfl ?_
    refine r_lln C dX2_joined_241 (k := 2) rfl ?_
    refine r_lcmp C dX2_joined_242 ?_
    refine r_zle C (tgt := 250) dX2_joined_243 (by decide) h (fun h => ?_) (fun h => ?_)
    · refine r_lc C (x := 0) dX2_joined_250 (by decide) ?_
      refine r_drop [] rfl ?_
      exact w_X2_joined_J251 C hr hlk 0 M  h
    · refine r_lc C (x := 1) dX2_joined_246 (by decide) ?_
      refine r_goto C (tgt := 251) dX2_joined_247 (by decide) ?_
      refine r_drop [] rfl ?_
      exact w_X2_joined_J251 C hr hlk 1 M  h
  refine r_tout C (tgt := 345) dX2_joined_1 (by omega) (by decide) ?_
  refine r_ldc2 C (x := (-9223372036854775808)) tc_RX2_39 (by decide) dX2_joined_345 ?_
  exact r_lretp C hr hlk dX2_joined_348 h
abbrev rm_X2_start : Room := { frames := 0, cells := 0, slots := 0, locals := 0 }
theorem mw_X2_start : q_mw RX2 yX2_start cX2_start 2 none 1 := ⟨⟨ti_X2_start, tl_X2_start, tn_RX2, td_X2_start⟩, by decide +kernel⟩
def f_X2_start (k : Nat) (a0 : Int) (M : Mem) : Res :=
  if w32 a0 < 0 then (some (0, M))
  else (if w32 3 ≤ w32 a0 then (some (0, M))
  else (q_gf M k 5 fun v1 =>
  q_as M (32 * (k + 1) + 2) 3 a0 v1 fun M2 =>
  some (0, M2)))
theorem c_X2_start {l : Launch} {D : va_G} {ad : Nat → Nat} {cA : Nat → ClassId} (hi : q_inj syC ad) (k : Nat) (hk : isL k) (a0 : Int) (M : Mem) (r0 : Int) (M0 : Mem) (h : f_X2_start k a0 M = some (r0, M0)) : q_Met l syC D ad cA yX2_start cX2_start 2 none rm_X2_start [.ref (ad k), .int (qI a0)] M none M0 := by
  refine q_met (L0 := [(0, .ref (ad k)), (1, .int (qI a0))]) hi okC (by decide) (Nat.le_of_ble_eq_true rfl) rfl ?_
  intro p e s m args below meth c C hr hlk
  unfold f_X2_start at h
  refine r_iln C dX2_start_0 (k := 1) rfl ?_
  refine r_zlt C (tgt := 19) dX2_start_1 (by decide) h (fun h => ?_) (fun h => ?_)
  · exact r_vret C hr hlk dX2_start_19 h
  · refine r_iln C dX2_start_4 (k := 1) rfl ?_
    refine r_ic C dX2_start_5 ?_
    refine r_cge C (tgt := 19) dX2_start_6 (by decide) h (fun h => ?_) (fun h => ?_)
    · exact r_vret C hr hlk dX2_start_19 h
    · refine r_aln C dX2_start_9 (k := 0) rfl ?_
      refine r_gs C (kL hk) clX2 (f := 2) (by decide) rfl (t := (32 * (k + 1) + 2)) rfl tf_RX2_18 dX2_start_10 ?_
      refine r_iln C dX2_start_13 (k := 1) rfl ?_
      refine r_aln C dX2_start_14 (k := 0) rfl ?_
      refine r_gf C (kL hk) clX2 (f := 5) (by decide) rfl rfl rfl tf_RX2_28 dX2_start_15 h (fun v1 h => ?_)
      refine r_iast C (kL_2 hk) dX2_start_18 h (fun M2 h => ?_)
      exact r_vret C hr hlk dX2_start_19 h
abbrev rm_X2_worth : Room := { frames := 1, cells := 0, slots := 0, locals := 28 }
theorem mw_X2_worth : q_mw RX2 yX2_worth cX2_worth 6 (some .long) 2 := ⟨⟨ti_X2_worth, tl_X2_worth, tn_RX2, td_X2_worth⟩, by decide +kernel⟩
def f_X2_worth_J226 (k : Nat) (n1 : Nat) (l1 : Nat) (x3 : Int) (M : Mem) : Res :=
  if ¬ w32 x3 = w32 1 then (some ((-9223372036854775808), M))
  else (q_al M (32 * (k + 1) + 4) 64 0 fun v1 =>
  some (v1, M))
theorem w_X2_worth_J226 (C : Cx syC p m c cX2_worth 6 s args RX2 D ad cA) (hr : meth.sig.returnType = (some .long)) (hlk : meth.locks = false) (k : Nat) (n1 : Nat) (l1 : Nat) (hk : isL k) (hn1 : syC.1 n1 = (5, l1)) (x3 : Int) (M : Mem)  (h : f_X2_worth_J226 k n1 l1 x3 M = some (r0, M0)) : WM syC p l e rm_X2_worth s m args below meth c 6 D ad cA (MQ below (q_Post syC D ad cA (some (.long (qJ r0))) M0) args s 0 0 (q_A syC ad)) M 226 [(0, .ref (ad k)), (3, .int (qI x3))] [] := by
  unfold f_X2_worth_J226 at h
  refine r_iln C dX2_worth_226 (k := 1) rfl ?_
  refine r_ic C dX2_worth_227 ?_
  refine r_cne C (tgt := 240) dX2_worth_228 (by decide) h (fun h => ?_) (fun h => ?_)
  · refine r_ldc2 C (x := (-9223372036854775808)) tc_RX2_39 (by decide) dX2_worth_240 ?_
    exact r_lret C hr hlk dX2_worth_243 h
  · refine r_aln C dX2_worth_231 (k := 0) rfl ?_
    refine r_gs C (kL hk) clX2 (f := 4) (by decide) rfl (t := (32 * (k + 1) + 4)) rfl tf_RX2_24 dX2_worth_232 ?_
    refine r_ic C dX2_worth_235 ?_
    refine r_lald C (kL_4 hk) dX2_worth_236 h (fun v1 h => ?_)
    refine r_goto C (tgt := 243) dX2_worth_237 (by decide) ?_
    exact r_lret C hr hlk dX2_worth_243 h
def f_X2_worth_J70 (k : Nat) (n1 : Nat) (l1 : Nat) (g22 : Int → Int → Mem → Res) (x1 : Int) (x3 : Int) (x4 : Int) (x5 : Int) (M : Mem) : Res :=
  if w32 x3 < w32 64 then (if ¬ w32 x5 = w32 21 then (q_al M n1 l1 (x5 - 13) fun v1 =>
  q_as M (32 * (k + 1) + 4) 64 x3 v1 fun M2 =>
  g22 (x3 + 1) (x4 + 1) M2)
  else (q_al M (32 * (k + 1) + 1) 64 x4 fun v3 =>
  q_as M (32 * (k + 1) + 4) 64 x3 (w32 v3) fun M4 =>
  g22 (x3 + 1) (x4 + 1) M4))
  else (some ((-9223372036854775808), M))
theorem w_X2_worth_J70 (C : Cx syC p m c cX2_worth 6 s args RX2 D ad cA) (hr : meth.sig.returnType = (some .long)) (hlk : meth.locks = false) (k : Nat) (n1 : Nat) (l1 : Nat) (hk : isL k) (hn1 : syC.1 n1 = (5, l1)) (g22 : Int → Int → Mem → Res) (x1 : Int) (x3 : Int) (x4 : Int) (x5 : Int) (M : Mem) (ih22 : ∀ (ux3 ux4 : Int) (M : Mem), g22 ux3 ux4 M = some (r0, M0) → WM syC p l e rm_X2_worth s m args below meth c 6 D ad cA (MQ below (q_Post syC D ad cA (some (.long (qJ r0))) M0) args s 0 0 (q_A syC ad)) M 22 [(0, .ref (ad k)), (1, .int (qI x1)), (2, .ref (ad n1)), (3, .int (qI ux3)), (4, .int (qI ux4))] []) (h : f_X2_worth_J70 k n1 l1 g22 x1 x3 x4 x5 M = some (r0, M0)) : WM syC p l e rm_X2_worth s m args below meth c 6 D ad cA (MQ below (q_Post syC D ad cA (some (.long (qJ r0))) M0) args s 0 0 (q_A syC ad)) M 70 [(0, .ref (ad k)), (1, .int (qI x1)), (2, .ref (ad n1)), (3, .int (qI x3)), (4, .int (qI x4)), (5, .int (qI x5))] [] := by
  unfold f_X2_worth_J70 at h
  refine r_iln C dX2_worth_70 (k := 3) rfl ?_
  refine r_bi C dX2_worth_71 (by decide) ?_
  refine r_clt C (tgt := 80) dX2_worth_73 (by decide) h (fun h => ?_) (fun h => ?_)
  · refine r_aln C dX2_worth_80 (k := 0) rfl ?_
    refine r_gs C (kL hk) clX2 (f := 4) (by decide) rfl (t := (32 * (k + 1) + 4)) rfl tf_RX2_24 dX2_worth_81 ?_
    refine r_iln C dX2_worth_84 (k := 3) rfl ?_
    refine r_il C dX2_worth_85 (k := 5) rfl ?_
    refine r_bi C dX2_worth_87 (by decide) ?_
    refine r_cne C (tgt := 103) dX2_worth_89 (by decide) h (fun h => ?_) (fun h => ?_)
    · refine r_aln C dX2_worth_103 (k := 2) rfl ?_
      refine r_il C dX2_worth_104 (k := 5) rfl ?_
      refine r_bi C dX2_worth_106 (by decide) ?_
      refine r_isub C dX2_worth_108 ?_
      refine r_lald C hn1 dX2_worth_109 h (fun v1 h => ?_)
      refine r_last C (kL_4 hk) dX2_worth_110 h (fun M2 h => ?_)
      refine r_inc C (L1 := [(3, .int (qI (x3 + 1))), (0, .ref (ad k)), (1, .int (qI x1)), (2, .ref (ad n1)), (4, .int (qI x4)), (5, .int (qI x5))]) dX2_worth_111 (k := 3) rfl (by decide) rfl ?_
      refine r_goto C (tgt := 220) dX2_worth_114 (by decide) ?_
      refine r_inc C (L1 := [(4, .int (qI (x4 + 1))), (3, .int (qI (x3 + 1))), (0, .ref (ad k)), (1, .int (qI x1)), (2, .ref (ad n1)), (5, .int (qI x5))]) dX2_worth_220 (k := 4) rfl (by decide) rfl ?_
      refine r_goto C (tgt := 22) dX2_worth_223 (by decide) ?_
      refine r_drop [2, 3, 4, 1, 0] rfl ?_
      exact ih22 (x3 + 1) (x4 + 1) M2 h
    · refine r_aln C dX2_worth_92 (k := 0) rfl ?_
      refine r_gs C (kL hk) clX2 (f := 1) (by decide) rfl (t := (32 * (k + 1) + 1)) rfl tf_RX2_15 dX2_worth_93 ?_
      refine r_il C dX2_worth_96 (k := 4) rfl ?_
      refine r_iald C (kL_1 hk) dX2_worth_98 h (fun v3 h => ?_)
      refine r_i2l C dX2_worth_99 ?_
      refine r_goto C (tgt := 110) dX2_worth_100 (by decide) ?_
      refine r_last C (kL_4 hk) dX2_worth_110 h (fun M4 h => ?_)
      refine r_inc C (L1 := [(3, .int (qI (x3 + 1))), (0, .ref (ad k)), (1, .int (qI x1)), (2, .ref (ad n1)), (4, .int (qI x4)), (5, .int (qI x5))]) dX2_worth_111 (k := 3) rfl (by decide) rfl ?_
      refine r_goto C (tgt := 220) dX2_worth_114 (by decide) ?_
      refine r_inc C (L1 := [(4, .int (qI (x4 + 1))), (3, .int (qI (x3 + 1))), (0, .ref (ad k)), (1, .int (qI x1)), (2, .ref (ad n1)), (5, .int (qI x5))]) dX2_worth_220 (k := 4) rfl (by decide) rfl ?_
      refine r_goto C (tgt := 22) dX2_worth_223 (by decide) ?_
      refine r_drop [2, 3, 4, 1, 0] rfl ?_
      exact ih22 (x3 + 1) (x4 + 1) M4 h
  · refine r_ldc2 C (x := (-9223372036854775808)) tc_RX2_39 (by decide) dX2_worth_76 ?_
    exact r_lret C hr hlk dX2_worth_79 h
def f_X2_worth_J117 (k : Nat) (n1 : Nat) (l1 : Nat) (g22 : Int → Int → Mem → Res) (x1 : Int) (x3 : Int) (x4 : Int) (x5 : Int) (M : Mem) : Res :=
  if ¬ w32 x5 = w32 12 then (if w32 2 ≤ w32 x3 then (q_al M (32 * (k + 1) + 4) 64 ((x3 + (-1)) - 1) fun v1 =>
  q_al M (32 * (k + 1) + 4) 64 (x3 + (-1)) fun v2 =>
  q_calp (f_X2_joined x5 v1 v2 M) fun r3 =>
  q_as M (32 * (k + 1) + 4) 64 ((x3 + (-1)) - 1) r3 fun M4 =>
  q_al M4 (32 * (k + 1) + 4) 64 ((x3 + (-1)) - 1) fun v5 =>
  if ¬ w32 (q_cmp v5 (-9223372036854775808)) = 0 then (g22 (x3 + (-1)) (x4 + 1) M4)
  else (some ((-9223372036854775808), M4)))
  else (some ((-9223372036854775808), M)))
  else (if w32 1 ≤ w32 x3 then (q_al M (32 * (k + 1) + 4) 64 (x3 - 1) fun v6 =>
  if ¬ w32 (q_cmp v6 0) = 0 then (q_as M (32 * (k + 1) + 4) 64 (x3 - 1) 0 fun M7 =>
  g22 x3 (x4 + 1) M7)
  else (q_as M (32 * (k + 1) + 4) 64 (x3 - 1) 1 fun M8 =>
  g22 x3 (x4 + 1) M8))
  else (some ((-9223372036854775808), M)))
theorem w_X2_worth_J117 (C : Cx syC p m c cX2_worth 6 s args RX2 D ad cA) (hr : meth.sig.returnType = (some .long)) (hlk : meth.locks = false) (k : Nat) (n1 : Nat) (l1 : Nat) (hk : isL k) (hn1 : syC.1 n1 = (5, l1)) (g22 : Int → Int → Mem → Res) (x1 : Int) (x3 : Int) (x4 : Int) (x5 : Int) (M : Mem) (ih22 : ∀ (ux3 ux4 : Int) (M : Mem), g22 ux3 ux4 M = some (r0, M0) → WM syC p l e rm_X2_worth s m args below meth c 6 D ad cA (MQ below (q_Post syC D ad cA (some (.long (qJ r0))) M0) args s 0 0 (q_A syC ad)) M 22 [(0, .ref (ad k)), (1, .int (qI x1)), (2, .ref (ad n1)), (3, .int (qI ux3)), (4, .int (qI ux4))] []) (h : f_X2_worth_J117 k n1 l1 g22 x1 x3 x4 x5 M = some (r0, M0)) : WM syC p l e rm_X2_worth s m args below meth c 6 D ad cA (MQ below (q_Post syC D ad cA (some (.long (qJ r0))) M0) args s 0 0 (q_A syC ad)) M 117 [(0, .ref (ad k)), (1, .int (qI x1)), (2, .ref (ad n1)), (3, .int (qI x3)), (4, .int (qI x4)), (5, .int (qI x5))] [] := by
  unfold f_X2_worth_J117 at h
  refine r_il C dX2_worth_117 (k := 5) rfl ?_
  refine r_bi C dX2_worth_119 (by decide) ?_
  refine r_cne C (tgt := 162) dX2_worth_121 (by decide) h (fun h => ?_) (fun h => ?_)
  · refine r_iln C dX2_worth_162 (k := 3) rfl ?_
    refine r_ic C dX2_worth_163 ?_
    refine r_cge C (tgt := 171) dX2_worth_164 (by decide) h (fun h => ?_) (fun h => ?_)
    · refine r_inc C (L1 := [(3, .int (qI (x3 + (-1)))), (0, .ref (ad k)), (1, .int (qI x1)), (2, .ref (ad n1)), (4, .int (qI x4)), (5, .int (qI x5))]) dX2_worth_171 (k := 3) rfl (by decide) rfl ?_
      refine r_aln C dX2_worth_174 (k := 1) rfl ?_
      refine r_gs C (kL hk) clX2 (f := 4) (by decide) rfl (t := (32 * (k + 1) + 4)) rfl tf_RX2_24 dX2_worth_175 ?_
      refine r_iln C dX2_worth_178 (k := 0) rfl ?_
      refine r_ic C dX2_worth_179 ?_
      refine r_isub C dX2_worth_180 ?_
      refine r_il C dX2_worth_181 (k := 5) rfl ?_
      refine r_aln C dX2_worth_183 (k := 1) rfl ?_
      refine r_gs C (kL hk) clX2 (f := 4) (by decide) rfl (t := (32 * (k + 1) + 4)) rfl tf_RX2_24 dX2_worth_184 ?_
      refine r_iln C dX2_worth_187 (k := 0) rfl ?_
      refine r_ic C dX2_worth_188 ?_
      refine r_isub C dX2_worth_189 ?_
      refine r_lald C (kL_4 hk) dX2_worth_190 h (fun v1 h => ?_)
      refine r_aln C dX2_worth_191 (k := 1) rfl ?_
      refine r_gs C (kL hk) clX2 (f := 4) (by decide) rfl (t := (32 * (k + 1) + 4)) rfl tf_RX2_24 dX2_worth_192 ?_
      refine r_iln C dX2_worth_195 (k := 0) rfl ?_
      refine r_lald C (kL_4 hk) dX2_worth_196 h (fun v2 h => ?_)
      obtain ⟨r3, hy, h⟩ := q_calp_some h
      refine r_csl C (st := [.int (qI ((x3 + (-1)) - 1)), .ref (ad (32 * (k + 1) + 4))]) (c_X2_joined C.2.2.1 x5 v1 v2 M r3 hy) tm_RX2_41 mw_X2_joined ⟨rfl, rfl⟩ ⟨Nat.le_of_ble_eq_true rfl, Nat.le_of_ble_eq_true rfl⟩ rfl rfl (Nat.le_of_ble_eq_true rfl) dX2_worth_197 ?_
      refine r_last C (kL_4 hk) dX2_worth_200 h (fun M4 h => ?_)
      refine r_aln C dX2_worth_201 (k := 1) rfl ?_
      refine r_gs C (kL hk) clX2 (f := 4) (by decide) rfl (t := (32 * (k + 1) + 4)) rfl tf_RX2_24 dX2_worth_202 ?_
      refine r_iln C dX2_worth_205 (k := 0) rfl ?_
      refine r_ic C dX2_worth_206 ?_
      refine r_isub C dX2_worth_207 ?_
      refine r_lald C (kL_4 hk) dX2_worth_208 h (fun v5 h => ?_)
      refine r_ldc2 C (x := (-9223372036854775808)) tc_RX2_39 (by decide) dX2_worth_209 ?_
      refine r_lcmp C dX2_worth_212 ?_
      refine r_zne C (tgt := 220) dX2_worth_213 (by decide) h (fun h => ?_) (fun h => ?_)
      · refine r_inc C (L1 := [(4, .int (qI (x4 + 1))), (3, .int (qI (x3 + (-1)))), (0, .ref (ad k)), (1, .int (qI x1)), (2, .ref (ad n1)), (5, .int (qI x5))]) dX2_worth_220 (k := 4) rfl (by decide) rfl ?_
        refine r_goto C (tgt := 22) dX2_worth_223 (by decide) ?_
        refine r_drop [2, 3, 4, 1, 0] rfl ?_
        exact ih22 (x3 + (-1)) (x4 + 1) M4 h
      · refine r_ldc2 C (x := (-9223372036854775808)) tc_RX2_39 (by decide) dX2_worth_216 ?_
        exact r_lret C hr hlk dX2_worth_219 h
    · refine r_ldc2 C (x := (-9223372036854775808)) tc_RX2_39 (by decide) dX2_worth_167 ?_
      exact r_lret C hr hlk dX2_worth_170 h
  · refine r_iln C dX2_worth_124 (k := 3) rfl ?_
    refine r_ic C dX2_worth_125 ?_
    refine r_cge C (tgt := 133) dX2_worth_126 (by decide) h (fun h => ?_) (fun h => ?_)
    · refine r_aln C dX2_worth_133 (k := 0) rfl ?_
      refine r_gs C (kL hk) clX2 (f := 4) (by decide) rfl (t := (32 * (k + 1) + 4)) rfl tf_RX2_24 dX2_worth_134 ?_
      refine r_iln C dX2_worth_137 (k := 3) rfl ?_
      refine r_ic C dX2_worth_138 ?_
      refine r_isub C dX2_worth_139 ?_
      refine r_aln C dX2_worth_140 (k := 0) rfl ?_
      refine r_gs C (kL hk) clX2 (f := 4) (by decide) rfl (t := (32 * (k + 1) + 4)) rfl tf_RX2_24 dX2_worth_141 ?_
      refine r_iln C dX2_worth_144 (k := 3) rfl ?_
      refine r_ic C dX2_worth_145 ?_
      refine r_isub C dX2_worth_146 ?_
      refine r_lald C (kL_4 hk) dX2_worth_147 h (fun v6 h => ?_)
      refine r_lc C (x := 0) dX2_worth_148 (by decide) ?_
      refine r_lcmp C dX2_worth_149 ?_
      refine r_zne C (tgt := 157) dX2_worth_150 (by decide) h (fun h => ?_) (fun h => ?_)
      · refine r_lc C (x := 0) dX2_worth_157 (by decide) ?_
        refine r_last C (kL_4 hk) dX2_worth_158 h (fun M7 h => ?_)
        refine r_goto C (tgt := 220) dX2_worth_159 (by decide) ?_
        refine r_inc C (L1 := [(4, .int (qI (x4 + 1))), (0, .ref (ad k)), (1, .int (qI x1)), (2, .ref (ad n1)), (3, .int (qI x3)), (5, .int (qI x5))]) dX2_worth_220 (k := 4) rfl (by decide) rfl ?_
        refine r_goto C (tgt := 22) dX2_worth_223 (by decide) ?_
        refine r_drop [1, 2, 3, 4, 0] rfl ?_
        exact ih22 x3 (x4 + 1) M7 h
      · refine r_lc C (x := 1) dX2_worth_153 (by decide) ?_
        refine r_goto C (tgt := 158) dX2_worth_154 (by decide) ?_
        refine r_last C (kL_4 hk) dX2_worth_158 h (fun M8 h => ?_)
        refine r_goto C (tgt := 220) dX2_worth_159 (by decide) ?_
        refine r_inc C (L1 := [(4, .int (qI (x4 + 1))), (0, .ref (ad k)), (1, .int (qI x1)), (2, .ref (ad n1)), (3, .int (qI x3)), (5, .int (qI x5))]) dX2_worth_220 (k := 4) rfl (by decide) rfl ?_
        refine r_goto C (tgt := 22) dX2_worth_223 (by decide) ?_
        refine r_drop [1, 2, 3, 4, 0] rfl ?_
        exact ih22 x3 (x4 + 1) M8 h
    · refine r_ldc2 C (x := (-9223372036854775808)) tc_RX2_39 (by decide) dX2_worth_129 ?_
      exact r_lret C hr hlk dX2_worth_132 h
def f_X2_worth_B22 (k : Nat) (n1 : Nat) (l1 : Nat) (x1 : Int) (x3 : Int) (x4 : Int) (M : Mem) (g22 : Int → Int → Mem → Res) : Res :=
  q_al M (32 * (k + 1) + 3) 3 x1 fun v1 =>
  if w32 v1 ≤ w32 x4 then (f_X2_worth_J226 k n1 l1 x3 M)
  else (if w32 64 ≤ w32 x4 then (f_X2_worth_J226 k n1 l1 x3 M)
  else (q_al M (32 * (k + 1) + 0) 64 x4 fun v2 =>
  if w32 v2 = w32 21 then (f_X2_worth_J70 k n1 l1 g22 x1 x3 x4 v2 M)
  else (if w32 v2 < w32 13 then (f_X2_worth_J117 k n1 l1 g22 x1 x3 x4 v2 M)
  else (if w32 19 < w32 v2 then (f_X2_worth_J117 k n1 l1 g22 x1 x3 x4 v2 M)
  else (f_X2_worth_J70 k n1 l1 g22 x1 x3 x4 v2 M)))))
def f_X2_worth_L22 (k : Nat) (n1 : Nat) (l1 : Nat) (x1 : Int) (n : Nat) (x3 : Int) (x4 : Int) (M : Mem) : Res := qlm2 (fun x3 x4 M g22 => f_X2_worth_B22 k n1 l1 x1 x3 x4 M g22) n x3 x4 M
theorem w_X2_worth_B22 (C : Cx syC p m c cX2_worth 6 s args RX2 D ad cA) (hr : meth.sig.returnType = (some .long)) (hlk : meth.locks = false) (k : Nat) (n1 : Nat) (l1 : Nat) (hk : isL k) (hn1 : syC.1 n1 = (5, l1)) (x1 : Int) (x3 : Int) (x4 : Int) (M : Mem) (g22 : Int → Int → Mem → Res)  (ih22 : ∀ (ux3 ux4 : Int) (M : Mem), g22 ux3 ux4 M = some (r0, M0) → WM syC p l e rm_X2_worth s m args below meth c 6 D ad cA (MQ below (q_Post syC D ad cA (some (.long (qJ r0))) M0) args s 0 0 (q_A syC ad)) M 22 [(0, .ref (ad k)), (1, .int (qI x1)), (2, .ref (ad n1)), (3, .int (qI ux3)), (4, .int (qI ux4))] []) (h : f_X2_worth_B22 k n1 l1 x1 x3 x4 M g22 = some (r0, M0)) : WM syC p l e rm_X2_worth s m args below meth c 6 D ad cA (MQ below (q_Post syC D ad cA (some (.long (qJ r0))) M0) args s 0 0 (q_A syC ad)) M 22 [(0, .ref (ad k)), (1, .int (qI x1)), (2, .ref (ad n1)), (3, .int (qI x3)), (4, .int (qI x4))] [] := by
  unfold f_X2_worth_B22 at h
  refine r_il C dX2_worth_22 (k := 4) rfl ?_
  refine r_aln C dX2_worth_24 (k := 0) rfl ?_
  refine r_gs C (kL hk) clX2 (f := 3) (by decide) rfl (t := (32 * (k + 1) + 3)) rfl tf_RX2_21 dX2_worth_25 ?_
  refine r_iln C dX2_worth_28 (k := 1) rfl ?_
  refine r_iald C (kL_3 hk) dX2_worth_29 h (fun v1 h => ?_)
  refine r_cge C (tgt := 226) dX2_worth_30 (by decide) h (fun h => ?_) (fun h => ?_)
  · refine r_drop [0, 3] rfl ?_
    exact w_X2_worth_J226 C hr hlk k n1 l1 hk hn1 x3 M  h
  · refine r_il C dX2_worth_33 (k := 4) rfl ?_
    refine r_bi C dX2_worth_35 (by decide) ?_
    refine r_cge C (tgt := 226) dX2_worth_37 (by decide) h (fun h => ?_) (fun h => ?_)
    · refine r_drop [0, 3] rfl ?_
      exact w_X2_worth_J226 C hr hlk k n1 l1 hk hn1 x3 M  h
    · refine r_aln C dX2_worth_40 (k := 0) rfl ?_
      refine r_gs C (kL hk) clX2 (f := 0) (by decide) rfl (t := (32 * (k + 1) + 0)) rfl tf_RX2_9 dX2_worth_41 ?_
      refine r_il C dX2_worth_44 (k := 4) rfl ?_
      refine r_iald C (kL_0 hk) dX2_worth_46 h (fun v2 h => ?_)
      refine r_is C (L1 := [(5, .int (qI v2)), (0, .ref (ad k)), (1, .int (qI x1)), (2, .ref (ad n1)), (3, .int (qI x3)), (4, .int (qI x4))]) dX2_worth_47 (by decide) rfl ?_
      refine r_il C dX2_worth_49 (k := 0) rfl ?_
      refine r_bi C dX2_worth_51 (by decide) ?_
      refine r_ceq C (tgt := 70) dX2_worth_53 (by decide) h (fun h => ?_) (fun h => ?_)
      · refine r_drop [1, 2, 3, 4, 5, 0] rfl ?_
        exact w_X2_worth_J70 C hr hlk k n1 l1 hk hn1 g22 x1 x3 x4 v2 M ih22 h
      · refine r_il C dX2_worth_56 (k := 0) rfl ?_
        refine r_bi C dX2_worth_58 (by decide) ?_
        refine r_clt C (tgt := 117) dX2_worth_60 (by decide) h (fun h => ?_) (fun h => ?_)
        · refine r_drop [1, 2, 3, 4, 5, 0] rfl ?_
          exact w_X2_worth_J117 C hr hlk k n1 l1 hk hn1 g22 x1 x3 x4 v2 M ih22 h
        · refine r_il C dX2_worth_63 (k := 0) rfl ?_
          refine r_bi C dX2_worth_65 (by decide) ?_
          refine r_cgt C (tgt := 117) dX2_worth_67 (by decide) h (fun h => ?_) (fun h => ?_)
          · refine r_drop [1, 2, 3, 4, 5, 0] rfl ?_
            exact w_X2_worth_J117 C hr hlk k n1 l1 hk hn1 g22 x1 x3 x4 v2 M ih22 h
          · refine r_drop [1, 2, 3, 4, 5, 0] rfl ?_
            exact w_X2_worth_J70 C hr hlk k n1 l1 hk hn1 g22 x1 x3 x4 v2 M ih22 h
theorem w_X2_worth_L22 (C : Cx syC p m c cX2_worth 6 s args RX2 D ad cA) (hr : meth.sig.returnType = (some .long)) (hlk : meth.locks = false) (k : Nat) (n1 : Nat) (l1 : Nat) (hk : isL k) (hn1 : syC.1 n1 = (5, l1)) (x1 : Int)  (n : Nat) (x3 : Int) (x4 : Int) (M : Mem) (h : f_X2_worth_L22 k n1 l1 x1 n x3 x4 M = some (r0, M0)) : WM syC p l e rm_X2_worth s m args below meth c 6 D ad cA (MQ below (q_Post syC D ad cA (some (.long (qJ r0))) M0) args s 0 0 (q_A syC ad)) M 22 [(0, .ref (ad k)), (1, .int (qI x1)), (2, .ref (ad n1)), (3, .int (qI x3)), (4, .int (qI x4))] [] :=
  qlm2_r (Wp := fun ux3 ux4 M => WM syC p l e rm_X2_worth s m args below meth c 6 D ad cA (MQ below (q_Post syC D ad cA (some (.long (qJ r0))) M0) args s 0 0 (q_A syC ad)) M 22 [(0, .ref (ad k)), (1, .int (qI x1)), (2, .ref (ad n1)), (3, .int (qI ux3)), (4, .int (qI ux4))] []) (fun ux3 ux4 M g22 ih22 h => w_X2_worth_B22 C hr hlk k n1 l1 hk hn1 x1 ux3 ux4 M g22  ih22 h) n x3 x4 M h
def f_X2_worth (k : Nat) (n1 : Nat) (l1 : Nat) (a0 : Int) (M : Mem) : Res :=
  q_calp (f_X2_isTold k a0 M) fun r1 =>
  if ¬ w32 r1 = 0 then (q_al M (32 * (k + 1) + 2) 3 a0 fun v2 =>
  f_X2_worth_L22 k n1 l1 a0 q_N 0 v2 M)
  else (some ((-9223372036854775808), M))
theorem c_X2_worth {l : Launch} {D : va_G} {ad : Nat → Nat} {cA : Nat → ClassId} (hi : q_inj syC ad) (k : Nat) (n1 : Nat) (l1 : Nat) (hk : isL k) (hn1 : syC.1 n1 = (5, l1)) (a0 : Int) (M : Mem) (r0 : Int) (M0 : Mem) (h : f_X2_worth k n1 l1 a0 M = some (r0, M0)) : q_Met l syC D ad cA yX2_worth cX2_worth 6 (some .long) rm_X2_worth [.ref (ad k), .int (qI a0), .ref (ad n1)] M (some (.long (qJ r0))) M0 := by
  refine q_met (L0 := [(0, .ref (ad k)), (1, .int (qI a0)), (2, .ref (ad n1))]) hi okC (by decide) (Nat.le_of_ble_eq_true rfl) rfl ?_
  intro p e s m args below meth c C hr hlk
  unfold f_X2_worth at h
  refine r_aln C dX2_worth_0 (k := 0) rfl ?_
  refine r_iln C dX2_worth_1 (k := 1) rfl ?_
  obtain ⟨r1, hy, h⟩ := q_calp_some h
  refine r_cvi C (st := []) (c_X2_isTold C.2.2.1 k hk a0 M r1 hy) tm_RX2_35 mw_X2_isTold ⟨rfl, rfl⟩ ⟨Nat.le_of_ble_eq_true rfl, Nat.le_of_ble_eq_true rfl⟩ (kL hk) clX2 rfl rfl (Nat.le_of_ble_eq_true rfl) dX2_worth_2 ?_
  refine r_zne C (tgt := 12) dX2_worth_5 (by decide) h (fun h => ?_) (fun h => ?_)
  · refine r_ic C dX2_worth_12 ?_
    refine r_isn C (L1 := [(3, .int (qI 0)), (0, .ref (ad k)), (1, .int (qI a0)), (2, .ref (ad n1))]) dX2_worth_13 (by decide) rfl ?_
    refine r_aln C dX2_worth_14 (k := 1) rfl ?_
    refine r_gs C (kL hk) clX2 (f := 2) (by decide) rfl (t := (32 * (k + 1) + 2)) rfl tf_RX2_18 dX2_worth_15 ?_
    refine r_iln C dX2_worth_18 (k := 2) rfl ?_
    refine r_iald C (kL_2 hk) dX2_worth_19 h (fun v2 h => ?_)
    refine r_is C (L1 := [(4, .int (qI v2)), (3, .int (qI 0)), (0, .ref (ad k)), (1, .int (qI a0)), (2, .ref (ad n1))]) dX2_worth_20 (by decide) rfl ?_
    refine r_drop [2, 3, 4, 1, 0] rfl ?_
    exact w_X2_worth_L22 C hr hlk k n1 l1 hk hn1 a0  q_N 0 v2 M h
  · refine r_ldc2 C (x := (-9223372036854775808)) tc_RX2_39 (by decide) dX2_worth_8 ?_
    exact r_lret C hr hlk dX2_worth_11 h
abbrev rm_X3_look : Room := { frames := 0, cells := 0, slots := 0, locals := 0 }
theorem mw_X3_look : q_mw RX3 yX3_look cX3_look 4 none 3 := ⟨⟨ti_X3_look, tl_X3_look, tn_RX3, td_X3_look⟩, by decide +kernel⟩
def f_X3_look (a0 : Int) (a1 : Int) (a2 : Int) (M : Mem) : Res :=
  q_gr M 7 0 fun t1 =>
  q_al M (32 * (t1 + 1) + 3) 8 a0 fun v2 =>
  q_as M 262 7 0 (w32 v2) fun M3 =>
  q_gr M3 7 1 fun t4 =>
  q_al M3 (32 * (t4 + 1) + 3) 8 a0 fun v5 =>
  q_as M3 262 7 1 (w32 v5) fun M6 =>
  q_gr M6 7 1 fun t7 =>
  q_al M6 (32 * (t7 + 1) + 4) 8 a0 fun v8 =>
  q_as M6 262 7 2 (w32 v8) fun M9 =>
  q_gr M9 7 1 fun t10 =>
  q_gf M9 t10 0 fun v11 =>
  q_gr M9 7 0 fun t12 =>
  q_al M9 (32 * (t12 + 1) + 2) 8 a0 fun v13 =>
  q_as M9 262 7 3 (w32 (v11 - v13)) fun M14 =>
  q_as M14 262 7 4 (w32 a2) fun M15 =>
  q_as M15 262 7 5 (w32 a1) fun M16 =>
  q_gr M16 7 1 fun t17 =>
  q_gf M16 t17 0 fun v18 =>
  q_as M16 262 7 6 (w32 v18) fun M19 =>
  some (0, M19)
theorem c_X3_look {l : Launch} {D : va_G} {ad : Nat → Nat} {cA : Nat → ClassId} (hi : q_inj syC ad) (a0 : Int) (a1 : Int) (a2 : Int) (M : Mem) (r0 : Int) (M0 : Mem) (h : f_X3_look a0 a1 a2 M = some (r0, M0)) : q_Met l syC D ad cA yX3_look cX3_look 4 none rm_X3_look [.ref (ad 7), .int (qI a0), .int (qI a1), .int (qI a2)] M none M0 := by
  refine q_met (L0 := [(0, .ref (ad 7)), (1, .int (qI a0)), (2, .int (qI a1)), (3, .int (qI a2))]) hi okC (by decide) (Nat.le_of_ble_eq_true rfl) rfl ?_
  intro p e s m args below meth c C hr hlk
  unfold f_X3_look at h
  refine r_aln C dX3_look_0 (k := 0) rfl ?_
  refine r_gs C kc_7 clX3 (f := 6) (by decide) rfl (t := 262) rfl tf_RX3_25 dX3_look_1 ?_
  refine r_ic C dX3_look_4 ?_
  refine r_aln C dX3_look_5 (k := 0) rfl ?_
  refine r_gr C kc_7 clX3 (f := 0) (fz := 0) (Pp := isT) (by decide) rfl rfl (fun q => q.2.2.1) tf_RX3_33 dX3_look_6 h (fun t1 ht1 h => ?_)
  refine r_gs C (kT ht1) clX8 (f := 3) (by decide) rfl (t := (32 * (t1 + 1) + 3)) rfl tf_RX3_186 dX3_look_9 ?_
  refine r_iln C dX3_look_12 (k := 1) rfl ?_
  refine r_iald C (kT_3 ht1) dX3_look_13 h (fun v2 h => ?_)
  refine r_i2l C dX3_look_14 ?_
  refine r_last C kc_262 dX3_look_15 h (fun M3 h => ?_)
  refine r_aln C dX3_look_16 (k := 0) rfl ?_
  refine r_gs C kc_7 clX3 (f := 6) (by decide) rfl (t := 262) rfl tf_RX3_25 dX3_look_17 ?_
  refine r_ic C dX3_look_20 ?_
  refine r_aln C dX3_look_21 (k := 0) rfl ?_
  refine r_gr C kc_7 clX3 (f := 1) (fz := 1) (Pp := isS) (by decide) rfl rfl (fun q => q.2.2.2) tf_RX3_37 dX3_look_22 h (fun t4 ht4 h => ?_)
  refine r_gs C (kS ht4) clX6 (f := 3) (by decide) rfl (t := (32 * (t4 + 1) + 3)) rfl tf_RX3_119 dX3_look_25 ?_
  refine r_iln C dX3_look_28 (k := 1) rfl ?_
  refine r_iald C (kS_3 ht4) dX3_look_29 h (fun v5 h => ?_)
  refine r_i2l C dX3_look_30 ?_
  refine r_last C kc_262 dX3_look_31 h (fun M6 h => ?_)
  refine r_aln C dX3_look_32 (k := 0) rfl ?_
  refine r_gs C kc_7 clX3 (f := 6) (by decide) rfl (t := 262) rfl tf_RX3_25 dX3_look_33 ?_
  refine r_ic C dX3_look_36 ?_
  refine r_aln C dX3_look_37 (k := 0) rfl ?_
  refine r_gr C kc_7 clX3 (f := 1) (fz := 1) (Pp := isS) (by decide) rfl rfl (fun q => q.2.2.2) tf_RX3_37 dX3_look_38 h (fun t7 ht7 h => ?_)
  refine r_gs C (kS ht7) clX6 (f := 4) (by decide) rfl (t := (32 * (t7 + 1) + 4)) rfl tf_RX3_181 dX3_look_41 ?_
  refine r_iln C dX3_look_44 (k := 1) rfl ?_
  refine r_iald C (kS_4 ht7) dX3_look_45 h (fun v8 h => ?_)
  refine r_i2l C dX3_look_46 ?_
  refine r_last C kc_262 dX3_look_47 h (fun M9 h => ?_)
  refine r_aln C dX3_look_48 (k := 0) rfl ?_
  refine r_gs C kc_7 clX3 (f := 6) (by decide) rfl (t := 262) rfl tf_RX3_25 dX3_look_49 ?_
  refine r_ic C dX3_look_52 ?_
  refine r_aln C dX3_look_53 (k := 0) rfl ?_
  refine r_gr C kc_7 clX3 (f := 1) (fz := 1) (Pp := isS) (by decide) rfl rfl (fun q => q.2.2.2) tf_RX3_37 dX3_look_54 h (fun t10 ht10 h => ?_)
  refine r_gf C (kS ht10) clX6 (f := 0) (by decide) rfl rfl rfl tf_RX3_64 dX3_look_57 h (fun v11 h => ?_)
  refine r_aln C dX3_look_60 (k := 0) rfl ?_
  refine r_gr C kc_7 clX3 (f := 0) (fz := 0) (Pp := isT) (by decide) rfl rfl (fun q => q.2.2.1) tf_RX3_33 dX3_look_61 h (fun t12 ht12 h => ?_)
  refine r_gs C (kT ht12) clX8 (f := 2) (by decide) rfl (t := (32 * (t12 + 1) + 2)) rfl tf_RX3_78 dX3_look_64 ?_
  refine r_iln C dX3_look_67 (k := 1) rfl ?_
  refine r_iald C (kT_2 ht12) dX3_look_68 h (fun v13 h => ?_)
  refine r_isub C dX3_look_69 ?_
  refine r_i2l C dX3_look_70 ?_
  refine r_last C kc_262 dX3_look_71 h (fun M14 h => ?_)
  refine r_aln C dX3_look_72 (k := 0) rfl ?_
  refine r_gs C kc_7 clX3 (f := 6) (by decide) rfl (t := 262) rfl tf_RX3_25 dX3_look_73 ?_
  refine r_ic C dX3_look_76 ?_
  refine r_iln C dX3_look_77 (k := 3) rfl ?_
  refine r_i2l C dX3_look_78 ?_
  refine r_last C kc_262 dX3_look_79 h (fun M15 h => ?_)
  refine r_aln C dX3_look_80 (k := 0) rfl ?_
  refine r_gs C kc_7 clX3 (f := 6) (by decide) rfl (t := 262) rfl tf_RX3_25 dX3_look_81 ?_
  refine r_ic C dX3_look_84 ?_
  refine r_iln C dX3_look_85 (k := 2) rfl ?_
  refine r_i2l C dX3_look_86 ?_
  refine r_last C kc_262 dX3_look_87 h (fun M16 h => ?_)
  refine r_aln C dX3_look_88 (k := 0) rfl ?_
  refine r_gs C kc_7 clX3 (f := 6) (by decide) rfl (t := 262) rfl tf_RX3_25 dX3_look_89 ?_
  refine r_bi C dX3_look_92 (by decide) ?_
  refine r_aln C dX3_look_94 (k := 0) rfl ?_
  refine r_gr C kc_7 clX3 (f := 1) (fz := 1) (Pp := isS) (by decide) rfl rfl (fun q => q.2.2.2) tf_RX3_37 dX3_look_95 h (fun t17 ht17 h => ?_)
  refine r_gf C (kS ht17) clX6 (f := 0) (by decide) rfl rfl rfl tf_RX3_64 dX3_look_98 h (fun v18 h => ?_)
  refine r_i2l C dX3_look_101 ?_
  refine r_last C kc_262 dX3_look_102 h (fun M19 h => ?_)
  exact r_vret C hr hlk dX3_look_103 h
abbrev rm_X3_whoMay : Room := { frames := 2, cells := 0, slots := 0, locals := 53 }
theorem mw_X3_whoMay : q_mw RX3 yX3_whoMay cX3_whoMay 8 (some .int) 1 := ⟨⟨ti_X3_whoMay, tl_X3_whoMay, tn_RX3, td_X3_whoMay⟩, by decide +kernel⟩
def f_X3_whoMay_J125 (g4 : Int → Int → Mem → Res) (x1 : Int) (x2 : Int) (x3 : Int) (x4 : Int) (M : Mem) : Res :=
  g4 (q_or x2 (q_shl 1 x4)) (x3 + 1) M
theorem w_X3_whoMay_J125 (C : Cx syC p m c cX3_whoMay 8 s args RX3 D ad cA) (hr : meth.sig.returnType = (some .int)) (hlk : meth.locks = false) (g4 : Int → Int → Mem → Res) (x1 : Int) (x2 : Int) (x3 : Int) (x4 : Int) (M : Mem) (ih4 : ∀ (ux2 ux3 : Int) (M : Mem), g4 ux2 ux3 M = some (r0, M0) → WM syC p l e rm_X3_whoMay s m args below meth c 8 D ad cA (MQ below (q_Post syC D ad cA (some (.int (qI r0))) M0) args s 0 0 (q_A syC ad)) M 4 [(0, .ref (ad 7)), (1, .int (qI x1)), (2, .int (qI ux2)), (3, .int (qI ux3))] []) (h : f_X3_whoMay_J125 g4 x1 x2 x3 x4 M = some (r0, M0)) : WM syC p l e rm_X3_whoMay s m args below meth c 8 D ad cA (MQ below (q_Post syC D ad cA (some (.int (qI r0))) M0) args s 0 0 (q_A syC ad)) M 125 [(0, .ref (ad 7)), (1, .int (qI x1)), (2, .int (qI x2)), (3, .int (qI x3)), (4, .int (qI x4))] [] := by
  unfold f_X3_whoMay_J125 at h
  refine r_iln C dX3_whoMay_125 (k := 2) rfl ?_
  refine r_ic C dX3_whoMay_126 ?_
  refine r_il C dX3_whoMay_127 (k := 4) rfl ?_
  refine r_ishl C dX3_whoMay_129 ?_
  refine r_ior C dX3_whoMay_130 ?_
  refine r_isn C (L1 := [(2, .int (qI (q_or x2 (q_shl 1 x4)))), (0, .ref (ad 7)), (1, .int (qI x1)), (3, .int (qI x3)), (4, .int (qI x4))]) dX3_whoMay_131 (by decide) rfl ?_
  refine r_inc C (L1 := [(3, .int (qI (x3 + 1))), (2, .int (qI (q_or x2 (q_shl 1 x4)))), (0, .ref (ad 7)), (1, .int (qI x1)), (4, .int (qI x4))]) dX3_whoMay_132 (k := 3) rfl (by decide) rfl ?_
  refine r_goto C (tgt := 4) dX3_whoMay_135 (by decide) ?_
  refine r_drop [2, 3, 1, 0] rfl ?_
  exact ih4 (q_or x2 (q_shl 1 x4)) (x3 + 1) M h
def f_X3_whoMay_J110 (g4 : Int → Int → Mem → Res) (x1 : Int) (x2 : Int) (x3 : Int) (x4 : Int) (y0 : Int) (M : Mem) : Res :=
  if ¬ w32 y0 = 0 then (f_X3_whoMay_J125 g4 x1 x2 x3 x4 M)
  else (q_gf M 7 3 fun v1 =>
  if ¬ w32 v1 = w32 3 then (g4 x2 (x3 + 1) M)
  else (f_X3_whoMay_J125 g4 x1 x2 x3 x4 M))
theorem w_X3_whoMay_J110 (C : Cx syC p m c cX3_whoMay 8 s args RX3 D ad cA) (hr : meth.sig.returnType = (some .int)) (hlk : meth.locks = false) (g4 : Int → Int → Mem → Res) (x1 : Int) (x2 : Int) (x3 : Int) (x4 : Int) (y0 : Int) (M : Mem) (ih4 : ∀ (ux2 ux3 : Int) (M : Mem), g4 ux2 ux3 M = some (r0, M0) → WM syC p l e rm_X3_whoMay s m args below meth c 8 D ad cA (MQ below (q_Post syC D ad cA (some (.int (qI r0))) M0) args s 0 0 (q_A syC ad)) M 4 [(0, .ref (ad 7)), (1, .int (qI x1)), (2, .int (qI ux2)), (3, .int (qI ux3))] []) (h : f_X3_whoMay_J110 g4 x1 x2 x3 x4 y0 M = some (r0, M0)) : WM syC p l e rm_X3_whoMay s m args below meth c 8 D ad cA (MQ below (q_Post syC D ad cA (some (.int (qI r0))) M0) args s 0 0 (q_A syC ad)) M 110 [(0, .ref (ad 7)), (1, .int (qI x1)), (2, .int (qI x2)), (3, .int (qI x3)), (4, .int (qI x4))] [.int (qI y0)] := by
  unfold f_X3_whoMay_J110 at h
  refine r_is C (L1 := [(7, .int (qI y0)), (0, .ref (ad 7)), (1, .int (qI x1)), (2, .int (qI x2)), (3, .int (qI x3)), (4, .int (qI x4))]) dX3_whoMay_110 (by decide) rfl ?_
  refine r_il C dX3_whoMay_112 (k := 0) rfl ?_
  refine r_zne C (tgt := 125) dX3_whoMay_114 (by decide) h (fun h => ?_) (fun h => ?_)
  · refine r_drop [1, 2, 3, 4, 5] rfl ?_
    exact w_X3_whoMay_J125 C hr hlk g4 x1 x2 x3 x4 M ih4 h
  · refine r_aln C dX3_whoMay_117 (k := 1) rfl ?_
    refine r_gf C kc_7 clX3 (f := 3) (by decide) rfl rfl rfl tf_RX3_15 dX3_whoMay_118 h (fun v1 h => ?_)
    refine r_ic C dX3_whoMay_121 ?_
    refine r_cne C (tgt := 132) dX3_whoMay_122 (by decide) h (fun h => ?_) (fun h => ?_)
    · refine r_inc C (L1 := [(3, .int (qI (x3 + 1))), (7, .int (qI y0)), (0, .ref (ad 7)), (1, .int (qI x1)), (2, .int (qI x2)), (4, .int (qI x4))]) dX3_whoMay_132 (k := 4) rfl (by decide) rfl ?_
      refine r_goto C (tgt := 4) dX3_whoMay_135 (by decide) ?_
      refine r_drop [2, 3, 4, 0] rfl ?_
      exact ih4 x2 (x3 + 1) M h
    · refine r_drop [1, 2, 3, 4, 5] rfl ?_
      exact w_X3_whoMay_J125 C hr hlk g4 x1 x2 x3 x4 M ih4 h
def f_X3_whoMay_B4 (x1 : Int) (x2 : Int) (x3 : Int) (M : Mem) (g4 : Int → Int → Mem → Res) : Res :=
  q_gr M 7 1 fun t1 =>
  q_gf M t1 9 fun v2 =>
  if w32 v2 ≤ w32 x3 then (some (x2, M))
  else (q_gr M 7 1 fun t3 =>
  q_al M (32 * (t3 + 1) + 8) 8 x3 fun v4 =>
  q_gr M 7 0 fun t5 =>
  q_al M (32 * (t5 + 1) + 12) 4 x1 fun v6 =>
  q_call (f_X3_look v4 x3 v6 M) fun r7 M8 =>
  q_gr M8 7 0 fun t9 =>
  q_call (f_X2_worth (t9 + 10) 262 7 0 M8) fun r10 M11 =>
  if ¬ w32 (q_cmp r10 (-9223372036854775808)) = 0 then (if w32 (q_cmp r10 0) = 0 then (f_X3_whoMay_J110 g4 x1 x2 x3 v4 0 M11)
  else (f_X3_whoMay_J110 g4 x1 x2 x3 v4 1 M11))
  else (q_gr M11 7 1 fun t12 =>
  q_al M11 (32 * (t12 + 1) + 3) 8 v4 fun v13 =>
  q_gr M11 7 0 fun t14 =>
  q_al M11 (32 * (t14 + 1) + 12) 4 x1 fun v15 =>
  if w32 v13 < w32 v15 then (f_X3_whoMay_J110 g4 x1 x2 x3 v4 0 M11)
  else (f_X3_whoMay_J110 g4 x1 x2 x3 v4 1 M11)))
def f_X3_whoMay_L4 (x1 : Int) (n : Nat) (x2 : Int) (x3 : Int) (M : Mem) : Res := qlm2 (fun x2 x3 M g4 => f_X3_whoMay_B4 x1 x2 x3 M g4) n x2 x3 M
theorem w_X3_whoMay_B4 (C : Cx syC p m c cX3_whoMay 8 s args RX3 D ad cA) (hr : meth.sig.returnType = (some .int)) (hlk : meth.locks = false)  (x1 : Int) (x2 : Int) (x3 : Int) (M : Mem) (g4 : Int → Int → Mem → Res)  (ih4 : ∀ (ux2 ux3 : Int) (M : Mem), g4 ux2 ux3 M = some (r0, M0) → WM syC p l e rm_X3_whoMay s m args below meth c 8 D ad cA (MQ below (q_Post syC D ad cA (some (.int (qI r0))) M0) args s 0 0 (q_A syC ad)) M 4 [(0, .ref (ad 7)), (1, .int (qI x1)), (2, .int (qI ux2)), (3, .int (qI ux3))] []) (h : f_X3_whoMay_B4 x1 x2 x3 M g4 = some (r0, M0)) : WM syC p l e rm_X3_whoMay s m args below meth c 8 D ad cA (MQ below (q_Post syC D ad cA (some (.int (qI r0))) M0) args s 0 0 (q_A syC ad)) M 4 [(0, .ref (ad 7)), (1, .int (qI x1)), (2, .int (qI x2)), (3, .int (qI x3))] [] := by
  unfold f_X3_whoMay_B4 at h
  refine r_iln C dX3_whoMay_4 (k := 3) rfl ?_
  refine r_aln C dX3_whoMay_5 (k := 0) rfl ?_
  refine r_gr C kc_7 clX3 (f := 1) (fz := 1) (Pp := isS) (by decide) rfl rfl (fun q => q.2.2.2) tf_RX3_37 dX3_whoMay_6 h (fun t1 ht1 h => ?_)
  refine r_gf C (kS ht1) clX6 (f := 9) (by decide) rfl rfl rfl tf_RX3_81 dX3_whoMay_9 h (fun v2 h => ?_)
  refine r_cge C (tgt := 138) dX3_whoMay_12 (by decide) h (fun h => ?_) (fun h => ?_)
  · refine r_iln C dX3_whoMay_138 (k := 2) rfl ?_
    exact r_iret C hr hlk dX3_whoMay_139 h
  · refine r_aln C dX3_whoMay_15 (k := 0) rfl ?_
    refine r_gr C kc_7 clX3 (f := 1) (fz := 1) (Pp := isS) (by decide) rfl rfl (fun q => q.2.2.2) tf_RX3_37 dX3_whoMay_16 h (fun t3 ht3 h => ?_)
    refine r_gs C (kS ht3) clX6 (f := 8) (by decide) rfl (t := (32 * (t3 + 1) + 8)) rfl tf_RX3_107 dX3_whoMay_19 ?_
    refine r_iln C dX3_whoMay_22 (k := 3) rfl ?_
    refine r_iald C (kS_8 ht3) dX3_whoMay_23 h (fun v4 h => ?_)
    refine r_is C (L1 := [(4, .int (qI v4)), (0, .ref (ad 7)), (1, .int (qI x1)), (2, .int (qI x2)), (3, .int (qI x3))]) dX3_whoMay_24 (by decide) rfl ?_
    refine r_aln C dX3_whoMay_26 (k := 1) rfl ?_
    refine r_il C dX3_whoMay_27 (k := 0) rfl ?_
    refine r_iln C dX3_whoMay_29 (k := 4) rfl ?_
    refine r_aln C dX3_whoMay_30 (k := 1) rfl ?_
    refine r_gr C kc_7 clX3 (f := 0) (fz := 0) (Pp := isT) (by decide) rfl rfl (fun q => q.2.2.1) tf_RX3_33 dX3_whoMay_31 h (fun t5 ht5 h => ?_)
    refine r_gs C (kT ht5) clX8 (f := 12) (by decide) rfl (t := (32 * (t5 + 1) + 12)) rfl tf_RX3_122 dX3_whoMay_34 ?_
    refine r_iln C dX3_whoMay_37 (k := 2) rfl ?_
    refine r_iald C (kT_12 ht5) dX3_whoMay_38 h (fun v6 h => ?_)
    obtain ⟨r7, M8, hy, h⟩ := q_call_some h
    refine r_cvv C (st := []) (c_X3_look C.2.2.1 v4 x3 v6 M r7 M8 hy) tm_RX3_134 mw_X3_look ⟨rfl, rfl⟩ ⟨Nat.le_of_ble_eq_true rfl, Nat.le_of_ble_eq_true rfl⟩ kc_7 clX3 rfl rfl (Nat.le_of_ble_eq_true rfl) dX3_whoMay_39 ?_
    refine r_aln C dX3_whoMay_42 (k := 1) rfl ?_
    refine r_gr C kc_7 clX3 (f := 0) (fz := 0) (Pp := isT) (by decide) rfl rfl (fun q => q.2.2.1) tf_RX3_33 dX3_whoMay_43 h (fun t9 ht9 h => ?_)
    refine r_gs C (kT ht9) clX8 (f := 16) (by decide) rfl (t := (t9 + 10)) rfl tf_RX3_138 dX3_whoMay_46 ?_
    refine r_ic C dX3_whoMay_49 ?_
    refine r_aln C dX3_whoMay_50 (k := 1) rfl ?_
    refine r_gs C kc_7 clX3 (f := 6) (by decide) rfl (t := 262) rfl tf_RX3_25 dX3_whoMay_51 ?_
    obtain ⟨r10, M11, hy, h⟩ := q_call_some h
    refine r_cvl C (st := []) (c_X2_worth C.2.2.1 (t9 + 10) 262 7 (kTL ht9) kc_262 0 M8 r10 M11 hy) tm_RX3_142 mw_X2_worth ⟨rfl, rfl⟩ ⟨Nat.le_of_ble_eq_true rfl, Nat.le_of_ble_eq_true rfl⟩ (kL (kTL ht9)) clX2 rfl rfl (Nat.le_of_ble_eq_true rfl) dX3_whoMay_54 ?_
    refine r_ls C (L1 := [(5, .long (qJ r10)), (4, .int (qI v4)), (0, .ref (ad 7)), (1, .int (qI x1)), (2, .int (qI x2)), (3, .int (qI x3))]) dX3_whoMay_57 (by decide) rfl ?_
    refine r_ll C dX3_whoMay_59 (k := 0) rfl ?_
    refine r_ldc2 C (x := (-9223372036854775808)) tc_RX3_148 (by decide) dX3_whoMay_61 ?_
    refine r_lcmp C dX3_whoMay_64 ?_
    refine r_zne C (tgt := 98) dX3_whoMay_65 (by decide) h (fun h => ?_) (fun h => ?_)
    · refine r_ll C dX3_whoMay_98 (k := 0) rfl ?_
      refine r_lc C (x := 0) dX3_whoMay_100 (by decide) ?_
      refine r_lcmp C dX3_whoMay_101 ?_
      refine r_zeq C (tgt := 109) dX3_whoMay_102 (by decide) h (fun h => ?_) (fun h => ?_)
      · refine r_ic C dX3_whoMay_109 ?_
        refine r_drop [2, 3, 4, 5, 1] rfl ?_
        exact w_X3_whoMay_J110 C hr hlk g4 x1 x2 x3 v4 0 M11 ih4 h
      · refine r_ic C dX3_whoMay_105 ?_
        refine r_goto C (tgt := 110) dX3_whoMay_106 (by decide) ?_
        refine r_drop [2, 3, 4, 5, 1] rfl ?_
        exact w_X3_whoMay_J110 C hr hlk g4 x1 x2 x3 v4 1 M11 ih4 h
    · refine r_aln C dX3_whoMay_68 (k := 2) rfl ?_
      refine r_gr C kc_7 clX3 (f := 1) (fz := 1) (Pp := isS) (by decide) rfl rfl (fun q => q.2.2.2) tf_RX3_37 dX3_whoMay_69 h (fun t12 ht12 h => ?_)
      refine r_gs C (kS ht12) clX6 (f := 3) (by decide) rfl (t := (32 * (t12 + 1) + 3)) rfl tf_RX3_119 dX3_whoMay_72 ?_
      refine r_il C dX3_whoMay_75 (k := 1) rfl ?_
      refine r_iald C (kS_3 ht12) dX3_whoMay_77 h (fun v13 h => ?_)
      refine r_aln C dX3_whoMay_78 (k := 2) rfl ?_
      refine r_gr C kc_7 clX3 (f := 0) (fz := 0) (Pp := isT) (by decide) rfl rfl (fun q => q.2.2.1) tf_RX3_33 dX3_whoMay_79 h (fun t14 ht14 h => ?_)
      refine r_gs C (kT ht14) clX8 (f := 12) (by decide) rfl (t := (32 * (t14 + 1) + 12)) rfl tf_RX3_122 dX3_whoMay_82 ?_
      refine r_iln C dX3_whoMay_85 (k := 3) rfl ?_
      refine r_iald C (kT_12 ht14) dX3_whoMay_86 h (fun v15 h => ?_)
      refine r_clt C (tgt := 94) dX3_whoMay_87 (by decide) h (fun h => ?_) (fun h => ?_)
      · refine r_ic C dX3_whoMay_94 ?_
        refine r_goto C (tgt := 110) dX3_whoMay_95 (by decide) ?_
        refine r_drop [2, 3, 4, 5, 1] rfl ?_
        exact w_X3_whoMay_J110 C hr hlk g4 x1 x2 x3 v4 0 M11 ih4 h
      · refine r_ic C dX3_whoMay_90 ?_
        refine r_goto C (tgt := 110) dX3_whoMay_91 (by decide) ?_
        refine r_drop [2, 3, 4, 5, 1] rfl ?_
        exact w_X3_whoMay_J110 C hr hlk g4 x1 x2 x3 v4 1 M11 ih4 h
theorem w_X3_whoMay_L4 (C : Cx syC p m c cX3_whoMay 8 s args RX3 D ad cA) (hr : meth.sig.returnType = (some .int)) (hlk : meth.locks = false)  (x1 : Int)  (n : Nat) (x2 : Int) (x3 : Int) (M : Mem) (h : f_X3_whoMay_L4 x1 n x2 x3 M = some (r0, M0)) : WM syC p l e rm_X3_whoMay s m args below meth c 8 D ad cA (MQ below (q_Post syC D ad cA (some (.int (qI r0))) M0) args s 0 0 (q_A syC ad)) M 4 [(0, .ref (ad 7)), (1, .int (qI x1)), (2, .int (qI x2)), (3, .int (qI x3))] [] :=
  qlm2_r (Wp := fun ux2 ux3 M => WM syC p l e rm_X3_whoMay s m args below meth c 8 D ad cA (MQ below (q_Post syC D ad cA (some (.int (qI r0))) M0) args s 0 0 (q_A syC ad)) M 4 [(0, .ref (ad 7)), (1, .int (qI x1)), (2, .int (qI ux2)), (3, .int (qI ux3))] []) (fun ux2 ux3 M g4 ih4 h => w_X3_whoMay_B4 C hr hlk x1 ux2 ux3 M g4  ih4 h) n x2 x3 M h
def f_X3_whoMay (a0 : Int) (M : Mem) : Res :=
  f_X3_whoMay_L4 a0 q_N 0 0 M
theorem c_X3_whoMay {l : Launch} {D : va_G} {ad : Nat → Nat} {cA : Nat → ClassId} (hi : q_inj syC ad) (a0 : Int) (M : Mem) (r0 : Int) (M0 : Mem) (h : f_X3_whoMay a0 M = some (r0, M0)) : q_Met l syC D ad cA yX3_whoMay cX3_whoMay 8 (some .int) rm_X3_whoMay [.ref (ad 7), .int (qI a0)] M (some (.int (qI r0))) M0 := by
  refine q_met (L0 := [(0, .ref (ad 7)), (1, .int (qI a0))]) hi okC (by decide) (Nat.le_of_ble_eq_true rfl) rfl ?_
  intro p e s m args below meth c C hr hlk
  unfold f_X3_whoMay at h
  refine r_ic C dX3_whoMay_0 ?_
  refine r_isn C (L1 := [(2, .int (qI 0)), (0, .ref (ad 7)), (1, .int (qI a0))]) dX3_whoMay_1 (by decide) rfl ?_
  refine r_ic C dX3_whoMay_2 ?_
  refine r_isn C (L1 := [(3, .int (qI 0)), (2, .int (qI 0)), (0, .ref (ad 7)), (1, .int (qI a0))]) dX3_whoMay_3 (by decide) rfl ?_
  refine r_drop [2, 3, 1, 0] rfl ?_
  exact w_X3_whoMay_L4 C hr hlk a0  q_N 0 0 M h
abbrev rm_X3_findTurns : Room := { frames := 2, cells := 0, slots := 0, locals := 53 }
theorem mw_X3_findTurns : q_mw RX3 yX3_findTurns cX3_findTurns 7 none 2 := ⟨⟨ti_X3_findTurns, tl_X3_findTurns, tn_RX3, td_X3_findTurns⟩, by decide +kernel⟩
def f_X3_findTurns_B2 (x1 : Int) (x2 : Int) (x3 : Int) (M : Mem) (g2 : Int → Mem → Res) : Res :=
  q_gr M 7 1 fun t1 =>
  q_gf M t1 9 fun v2 =>
  if w32 v2 ≤ w32 x3 then (some (0, M))
  else (q_gr M 7 1 fun t3 =>
  q_al M (32 * (t3 + 1) + 8) 8 x3 fun v4 =>
  if w32 (q_and x2 (q_shl 1 v4)) = 0 then (g2 (x3 + 1) M)
  else (q_gr M 7 0 fun t5 =>
  q_al M (32 * (t5 + 1) + 12) 4 x1 fun v6 =>
  q_call (f_X3_look v4 x3 v6 M) fun r7 M8 =>
  q_gr M8 7 0 fun t9 =>
  q_call (f_X2_worth (t9 + 10) 262 7 1 M8) fun r10 M11 =>
  if ¬ w32 (q_cmp r10 (-9223372036854775808)) = 0 then (q_as M11 263 8 v4 (q_maxl (-9999) (q_minl 9999 r10)) fun M12 =>
  g2 (x3 + 1) M12)
  else (q_as M11 263 8 v4 0 fun M13 =>
  g2 (x3 + 1) M13)))
def f_X3_findTurns_L2 (x1 : Int) (x2 : Int) (n : Nat) (x3 : Int) (M : Mem) : Res := qlm1 (fun x3 M g2 => f_X3_findTurns_B2 x1 x2 x3 M g2) n x3 M
theorem w_X3_findTurns_B2 (C : Cx syC p m c cX3_findTurns 7 s args RX3 D ad cA) (hr : meth.sig.returnType = none) (hlk : meth.locks = false)  (x1 : Int) (x2 : Int) (x3 : Int) (M : Mem) (g2 : Int → Mem → Res)  (ih2 : ∀ (ux3 : Int) (M : Mem), g2 ux3 M = some (r0, M0) → WM syC p l e rm_X3_findTurns s m args below meth c 7 D ad cA (MQ below (q_Post syC D ad cA none M0) args s 0 0 (q_A syC ad)) M 2 [(0, .ref (ad 7)), (1, .int (qI x1)), (2, .int (qI x2)), (3, .int (qI ux3))] []) (h : f_X3_findTurns_B2 x1 x2 x3 M g2 = some (r0, M0)) : WM syC p l e rm_X3_findTurns s m args below meth c 7 D ad cA (MQ below (q_Post syC D ad cA none M0) args s 0 0 (q_A syC ad)) M 2 [(0, .ref (ad 7)), (1, .int (qI x1)), (2, .int (qI x2)), (3, .int (qI x3))] [] := by
  unfold f_X3_findTurns_B2 at h
  refine r_iln C dX3_findTurns_2 (k := 3) rfl ?_
  refine r_aln C dX3_findTurns_3 (k := 0) rfl ?_
  refine r_gr C kc_7 clX3 (f := 1) (fz := 1) (Pp := isS) (by decide) rfl rfl (fun q => q.2.2.2) tf_RX3_37 dX3_findTurns_4 h (fun t1 ht1 h => ?_)
  refine r_gf C (kS ht1) clX6 (f := 9) (by decide) rfl rfl rfl tf_RX3_81 dX3_findTurns_7 h (fun v2 h => ?_)
  refine r_cge C (tgt := 107) dX3_findTurns_10 (by decide) h (fun h => ?_) (fun h => ?_)
  · exact r_vret C hr hlk dX3_findTurns_107 h
  · refine r_aln C dX3_findTurns_13 (k := 0) rfl ?_
    refine r_gr C kc_7 clX3 (f := 1) (fz := 1) (Pp := isS) (by decide) rfl rfl (fun q => q.2.2.2) tf_RX3_37 dX3_findTurns_14 h (fun t3 ht3 h => ?_)
    refine r_gs C (kS ht3) clX6 (f := 8) (by decide) rfl (t := (32 * (t3 + 1) + 8)) rfl tf_RX3_107 dX3_findTurns_17 ?_
    refine r_iln C dX3_findTurns_20 (k := 3) rfl ?_
    refine r_iald C (kS_8 ht3) dX3_findTurns_21 h (fun v4 h => ?_)
    refine r_is C (L1 := [(4, .int (qI v4)), (0, .ref (ad 7)), (1, .int (qI x1)), (2, .int (qI x2)), (3, .int (qI x3))]) dX3_findTurns_22 (by decide) rfl ?_
    refine r_iln C dX3_findTurns_24 (k := 3) rfl ?_
    refine r_ic C dX3_findTurns_25 ?_
    refine r_il C dX3_findTurns_26 (k := 0) rfl ?_
    refine r_ishl C dX3_findTurns_28 ?_
    refine r_iand C dX3_findTurns_29 ?_
    refine r_zeq C (tgt := 101) dX3_findTurns_30 (by decide) h (fun h => ?_) (fun h => ?_)
    · refine r_inc C (L1 := [(3, .int (qI (x3 + 1))), (4, .int (qI v4)), (0, .ref (ad 7)), (1, .int (qI x1)), (2, .int (qI x2))]) dX3_findTurns_101 (k := 4) rfl (by decide) rfl ?_
      refine r_goto C (tgt := 2) dX3_findTurns_104 (by decide) ?_
      refine r_drop [2, 3, 4, 0] rfl ?_
      exact ih2 (x3 + 1) M h
    · refine r_aln C dX3_findTurns_33 (k := 1) rfl ?_
      refine r_il C dX3_findTurns_34 (k := 0) rfl ?_
      refine r_iln C dX3_findTurns_36 (k := 4) rfl ?_
      refine r_aln C dX3_findTurns_37 (k := 1) rfl ?_
      refine r_gr C kc_7 clX3 (f := 0) (fz := 0) (Pp := isT) (by decide) rfl rfl (fun q => q.2.2.1) tf_RX3_33 dX3_findTurns_38 h (fun t5 ht5 h => ?_)
      refine r_gs C (kT ht5) clX8 (f := 12) (by decide) rfl (t := (32 * (t5 + 1) + 12)) rfl tf_RX3_122 dX3_findTurns_41 ?_
      refine r_iln C dX3_findTurns_44 (k := 2) rfl ?_
      refine r_iald C (kT_12 ht5) dX3_findTurns_45 h (fun v6 h => ?_)
      obtain ⟨r7, M8, hy, h⟩ := q_call_some h
      refine r_cvv C (st := []) (c_X3_look C.2.2.1 v4 x3 v6 M r7 M8 hy) tm_RX3_134 mw_X3_look ⟨rfl, rfl⟩ ⟨Nat.le_of_ble_eq_true rfl, Nat.le_of_ble_eq_true rfl⟩ kc_7 clX3 rfl rfl (Nat.le_of_ble_eq_true rfl) dX3_findTurns_46 ?_
      refine r_aln C dX3_findTurns_49 (k := 1) rfl ?_
      refine r_gr C kc_7 clX3 (f := 0) (fz := 0) (Pp := isT) (by decide) rfl rfl (fun q => q.2.2.1) tf_RX3_33 dX3_findTurns_50 h (fun t9 ht9 h => ?_)
      refine r_gs C (kT ht9) clX8 (f := 16) (by decide) rfl (t := (t9 + 10)) rfl tf_RX3_138 dX3_findTurns_53 ?_
      refine r_ic C dX3_findTurns_56 ?_
      refine r_aln C dX3_findTurns_57 (k := 1) rfl ?_
      refine r_gs C kc_7 clX3 (f := 6) (by decide) rfl (t := 262) rfl tf_RX3_25 dX3_findTurns_58 ?_
      obtain ⟨r10, M11, hy, h⟩ := q_call_some h
      refine r_cvl C (st := []) (c_X2_worth C.2.2.1 (t9 + 10) 262 7 (kTL ht9) kc_262 1 M8 r10 M11 hy) tm_RX3_142 mw_X2_worth ⟨rfl, rfl⟩ ⟨Nat.le_of_ble_eq_true rfl, Nat.le_of_ble_eq_true rfl⟩ (kL (kTL ht9)) clX2 rfl rfl (Nat.le_of_ble_eq_true rfl) dX3_findTurns_61 ?_
      refine r_ls C (L1 := [(5, .long (qJ r10)), (4, .int (qI v4)), (0, .ref (ad 7)), (1, .int (qI x1)), (2, .int (qI x2)), (3, .int (qI x3))]) dX3_findTurns_64 (by decide) rfl ?_
      refine r_aln C dX3_findTurns_66 (k := 2) rfl ?_
      refine r_gs C kc_7 clX3 (f := 7) (by decide) rfl (t := 263) rfl tf_RX3_29 dX3_findTurns_67 ?_
      refine r_il C dX3_findTurns_70 (k := 1) rfl ?_
      refine r_ll C dX3_findTurns_72 (k := 0) rfl ?_
      refine r_ldc2 C (x := (-9223372036854775808)) tc_RX3_148 (by decide) dX3_findTurns_74 ?_
      refine r_lcmp C dX3_findTurns_77 ?_
      refine r_zne C (tgt := 85) dX3_findTurns_78 (by decide) h (fun h => ?_) (fun h => ?_)
      · refine r_ldc2 C (x := (-9999)) tc_RX3_150 (by decide) dX3_findTurns_85 ?_
        refine r_ldc2 C (x := 9999) tc_RX3_152 (by decide) dX3_findTurns_88 ?_
        refine r_ll C dX3_findTurns_91 (k := 0) rfl ?_
        refine r_q_minl C (st := [.long (qJ (-9999)), .int (qI v4), .ref (ad 263)]) tm_RX3_154 ⟨Nat.le_of_ble_eq_true rfl, Nat.le_of_ble_eq_true rfl⟩ dX3_findTurns_93 ?_
        refine r_q_maxl C (st := [.int (qI v4), .ref (ad 263)]) tm_RX3_158 ⟨Nat.le_of_ble_eq_true rfl, Nat.le_of_ble_eq_true rfl⟩ dX3_findTurns_96 ?_
        refine r_l2i C dX3_findTurns_99 ?_
        refine r_iast C kc_263 dX3_findTurns_100 h (fun M12 h => ?_)
        refine r_inc C (L1 := [(3, .int (qI (x3 + 1))), (5, .long (qJ r10)), (4, .int (qI v4)), (0, .ref (ad 7)), (1, .int (qI x1)), (2, .int (qI x2))]) dX3_findTurns_101 (k := 5) rfl (by decide) rfl ?_
        refine r_goto C (tgt := 2) dX3_findTurns_104 (by decide) ?_
        refine r_drop [3, 4, 5, 0] rfl ?_
        exact ih2 (x3 + 1) M12 h
      · refine r_ic C dX3_findTurns_81 ?_
        refine r_goto C (tgt := 100) dX3_findTurns_82 (by decide) ?_
        refine r_iast C kc_263 dX3_findTurns_100 h (fun M13 h => ?_)
        refine r_inc C (L1 := [(3, .int (qI (x3 + 1))), (5, .long (qJ r10)), (4, .int (qI v4)), (0, .ref (ad 7)), (1, .int (qI x1)), (2, .int (qI x2))]) dX3_findTurns_101 (k := 5) rfl (by decide) rfl ?_
        refine r_goto C (tgt := 2) dX3_findTurns_104 (by decide) ?_
        refine r_drop [3, 4, 5, 0] rfl ?_
        exact ih2 (x3 + 1) M13 h
theorem w_X3_findTurns_L2 (C : Cx syC p m c cX3_findTurns 7 s args RX3 D ad cA) (hr : meth.sig.returnType = none) (hlk : meth.locks = false)  (x1 : Int) (x2 : Int)  (n : Nat) (x3 : Int) (M : Mem) (h : f_X3_findTurns_L2 x1 x2 n x3 M = some (r0, M0)) : WM syC p l e rm_X3_findTurns s m args below meth c 7 D ad cA (MQ below (q_Post syC D ad cA none M0) args s 0 0 (q_A syC ad)) M 2 [(0, .ref (ad 7)), (1, .int (qI x1)), (2, .int (qI x2)), (3, .int (qI x3))] [] :=
  qlm1_r (Wp := fun ux3 M => WM syC p l e rm_X3_findTurns s m args below meth c 7 D ad cA (MQ below (q_Post syC D ad cA none M0) args s 0 0 (q_A syC ad)) M 2 [(0, .ref (ad 7)), (1, .int (qI x1)), (2, .int (qI x2)), (3, .int (qI ux3))] []) (fun ux3 M g2 ih2 h => w_X3_findTurns_B2 C hr hlk x1 x2 ux3 M g2  ih2 h) n x3 M h
def f_X3_findTurns (a0 : Int) (a1 : Int) (M : Mem) : Res :=
  f_X3_findTurns_L2 a0 a1 q_N 0 M
theorem c_X3_findTurns {l : Launch} {D : va_G} {ad : Nat → Nat} {cA : Nat → ClassId} (hi : q_inj syC ad) (a0 : Int) (a1 : Int) (M : Mem) (r0 : Int) (M0 : Mem) (h : f_X3_findTurns a0 a1 M = some (r0, M0)) : q_Met l syC D ad cA yX3_findTurns cX3_findTurns 7 none rm_X3_findTurns [.ref (ad 7), .int (qI a0), .int (qI a1)] M none M0 := by
  refine q_met (L0 := [(0, .ref (ad 7)), (1, .int (qI a0)), (2, .int (qI a1))]) hi okC (by decide) (Nat.le_of_ble_eq_true rfl) rfl ?_
  intro p e s m args below meth c C hr hlk
  unfold f_X3_findTurns at h
  refine r_ic C dX3_findTurns_0 ?_
  refine r_isn C (L1 := [(3, .int (qI 0)), (0, .ref (ad 7)), (1, .int (qI a0)), (2, .int (qI a1))]) dX3_findTurns_1 (by decide) rfl ?_
  refine r_drop [1, 2, 3, 0] rfl ?_
  exact w_X3_findTurns_L2 C hr hlk a0 a1  q_N 0 M h
abbrev rm_X3_firstToBoard : Room := { frames := 0, cells := 0, slots := 0, locals := 0 }
theorem mw_X3_firstToBoard : q_mw RX3 yX3_firstToBoard cX3_firstToBoard 7 (some .int) 1 := ⟨⟨ti_X3_firstToBoard, tl_X3_firstToBoard, tn_RX3, td_X3_firstToBoard⟩, by decide +kernel⟩
def f_X3_firstToBoard_J91 (g7 : Int → Int → Int → Option Int) (x1 : Int) (x4 : Int) (x5 : Int) (M : Mem) : Option Int :=
  q_al M 263 8 x5 fun v1 =>
  g7 x4 v1 (x4 + 1)
theorem w_X3_firstToBoard_J91 (C : Cx syC p m c cX3_firstToBoard 7 s args RX3 D ad cA) (hr : meth.sig.returnType = (some .int)) (hlk : meth.locks = false) (g7 : Int → Int → Int → Option Int) (x1 : Int) (x4 : Int) (x5 : Int) (M : Mem) (ih7 : ∀ (ux2 ux3 ux4 : Int) , g7 ux2 ux3 ux4  = some r0 → WM syC p l e rm_X3_firstToBoard s m args below meth c 7 D ad cA (MQ below (q_Post syC D ad cA (some (.int (qI r0))) M) args s 0 0 (q_A syC ad)) M 7 [(0, .ref (ad 7)), (1, .int (qI x1)), (2, .int (qI ux2)), (3, .int (qI ux3)), (4, .int (qI ux4))] []) (h : f_X3_firstToBoard_J91 g7 x1 x4 x5 M = some r0) : WM syC p l e rm_X3_firstToBoard s m args below meth c 7 D ad cA (MQ below (q_Post syC D ad cA (some (.int (qI r0))) M) args s 0 0 (q_A syC ad)) M 91 [(0, .ref (ad 7)), (1, .int (qI x1)), (4, .int (qI x4)), (5, .int (qI x5))] [] := by
  unfold f_X3_firstToBoard_J91 at h
  refine r_il C dX3_firstToBoard_91 (k := 2) rfl ?_
  refine r_isn C (L1 := [(2, .int (qI x4)), (0, .ref (ad 7)), (1, .int (qI x1)), (4, .int (qI x4)), (5, .int (qI x5))]) dX3_firstToBoard_93 (by decide) rfl ?_
  refine r_aln C dX3_firstToBoard_94 (k := 1) rfl ?_
  refine r_gs C kc_7 clX3 (f := 7) (by decide) rfl (t := 263) rfl tf_RX3_29 dX3_firstToBoard_95 ?_
  refine r_il C dX3_firstToBoard_98 (k := 4) rfl ?_
  refine r_iald C kc_263 dX3_firstToBoard_100 h (fun v1 h => ?_)
  refine r_isn C (L1 := [(3, .int (qI v1)), (2, .int (qI x4)), (0, .ref (ad 7)), (1, .int (qI x1)), (4, .int (qI x4)), (5, .int (qI x5))]) dX3_firstToBoard_101 (by decide) rfl ?_
  refine r_inc C (L1 := [(4, .int (qI (x4 + 1))), (3, .int (qI v1)), (2, .int (qI x4)), (0, .ref (ad 7)), (1, .int (qI x1)), (5, .int (qI x5))]) dX3_firstToBoard_102 (k := 4) rfl (by decide) rfl ?_
  refine r_goto C (tgt := 7) dX3_firstToBoard_105 (by decide) ?_
  refine r_drop [3, 4, 2, 1, 0] rfl ?_
  exact ih7 x4 v1 (x4 + 1)  h
def f_X3_firstToBoard_J59 (g7 : Int → Int → Int → Option Int) (x1 : Int) (x2 : Int) (x3 : Int) (x4 : Int) (x5 : Int) (y0 : Int) (M : Mem) : Option Int :=
  if w32 (q_and x1 (q_shl 1 x5)) = 0 then (g7 x2 x3 (x4 + 1))
  else (if ¬ w32 y0 = 0 then (g7 x2 x3 (x4 + 1))
  else (if w32 x2 = w32 (-1) then (f_X3_firstToBoard_J91 g7 x1 x4 x5 M)
  else (q_al M 263 8 x5 fun v1 =>
  if w32 x3 ≤ w32 v1 then (g7 x2 x3 (x4 + 1))
  else (f_X3_firstToBoard_J91 g7 x1 x4 x5 M))))
theorem w_X3_firstToBoard_J59 (C : Cx syC p m c cX3_firstToBoard 7 s args RX3 D ad cA) (hr : meth.sig.returnType = (some .int)) (hlk : meth.locks = false) (g7 : Int → Int → Int → Option Int) (x1 : Int) (x2 : Int) (x3 : Int) (x4 : Int) (x5 : Int) (y0 : Int) (M : Mem) (ih7 : ∀ (ux2 ux3 ux4 : Int) , g7 ux2 ux3 ux4  = some r0 → WM syC p l e rm_X3_firstToBoard s m args below meth c 7 D ad cA (MQ below (q_Post syC D ad cA (some (.int (qI r0))) M) args s 0 0 (q_A syC ad)) M 7 [(0, .ref (ad 7)), (1, .int (qI x1)), (2, .int (qI ux2)), (3, .int (qI ux3)), (4, .int (qI ux4))] []) (h : f_X3_firstToBoard_J59 g7 x1 x2 x3 x4 x5 y0 M = some r0) : WM syC p l e rm_X3_firstToBoard s m args below meth c 7 D ad cA (MQ below (q_Post syC D ad cA (some (.int (qI r0))) M) args s 0 0 (q_A syC ad)) M 59 [(0, .ref (ad 7)), (1, .int (qI x1)), (2, .int (qI x2)), (3, .int (qI x3)), (4, .int (qI x4)), (5, .int (qI x5))] [.int (qI y0)] := by
  unfold f_X3_firstToBoard_J59 at h
  refine r_is C (L1 := [(6, .int (qI y0)), (0, .ref (ad 7)), (1, .int (qI x1)), (2, .int (qI x2)), (3, .int (qI x3)), (4, .int (qI x4)), (5, .int (qI x5))]) dX3_firstToBoard_59 (by decide) rfl ?_
  refine r_iln C dX3_firstToBoard_61 (k := 2) rfl ?_
  refine r_ic C dX3_firstToBoard_62 ?_
  refine r_il C dX3_firstToBoard_63 (k := 6) rfl ?_
  refine r_ishl C dX3_firstToBoard_65 ?_
  refine r_iand C dX3_firstToBoard_66 ?_
  refine r_zeq C (tgt := 102) dX3_firstToBoard_67 (by decide) h (fun h => ?_) (fun h => ?_)
  · refine r_inc C (L1 := [(4, .int (qI (x4 + 1))), (6, .int (qI y0)), (0, .ref (ad 7)), (1, .int (qI x1)), (2, .int (qI x2)), (3, .int (qI x3)), (5, .int (qI x5))]) dX3_firstToBoard_102 (k := 5) rfl (by decide) rfl ?_
    refine r_goto C (tgt := 7) dX3_firstToBoard_105 (by decide) ?_
    refine r_drop [2, 3, 4, 5, 0] rfl ?_
    exact ih7 x2 x3 (x4 + 1)  h
  · refine r_il C dX3_firstToBoard_70 (k := 0) rfl ?_
    refine r_zne C (tgt := 102) dX3_firstToBoard_72 (by decide) h (fun h => ?_) (fun h => ?_)
    · refine r_inc C (L1 := [(4, .int (qI (x4 + 1))), (6, .int (qI y0)), (0, .ref (ad 7)), (1, .int (qI x1)), (2, .int (qI x2)), (3, .int (qI x3)), (5, .int (qI x5))]) dX3_firstToBoard_102 (k := 5) rfl (by decide) rfl ?_
      refine r_goto C (tgt := 7) dX3_firstToBoard_105 (by decide) ?_
      refine r_drop [2, 3, 4, 5, 0] rfl ?_
      exact ih7 x2 x3 (x4 + 1)  h
    · refine r_iln C dX3_firstToBoard_75 (k := 3) rfl ?_
      refine r_ic C dX3_firstToBoard_76 ?_
      refine r_ceq C (tgt := 91) dX3_firstToBoard_77 (by decide) h (fun h => ?_) (fun h => ?_)
      · refine r_drop [1, 2, 5, 6] rfl ?_
        exact w_X3_firstToBoard_J91 C hr hlk g7 x1 x4 x5 M ih7 h
      · refine r_aln C dX3_firstToBoard_80 (k := 1) rfl ?_
        refine r_gs C kc_7 clX3 (f := 7) (by decide) rfl (t := 263) rfl tf_RX3_29 dX3_firstToBoard_81 ?_
        refine r_il C dX3_firstToBoard_84 (k := 6) rfl ?_
        refine r_iald C kc_263 dX3_firstToBoard_86 h (fun v1 h => ?_)
        refine r_iln C dX3_firstToBoard_87 (k := 4) rfl ?_
        refine r_cge C (tgt := 102) dX3_firstToBoard_88 (by decide) h (fun h => ?_) (fun h => ?_)
        · refine r_inc C (L1 := [(4, .int (qI (x4 + 1))), (6, .int (qI y0)), (0, .ref (ad 7)), (1, .int (qI x1)), (2, .int (qI x2)), (3, .int (qI x3)), (5, .int (qI x5))]) dX3_firstToBoard_102 (k := 5) rfl (by decide) rfl ?_
          refine r_goto C (tgt := 7) dX3_firstToBoard_105 (by decide) ?_
          refine r_drop [2, 3, 4, 5, 0] rfl ?_
          exact ih7 x2 x3 (x4 + 1)  h
        · refine r_drop [1, 2, 5, 6] rfl ?_
          exact w_X3_firstToBoard_J91 C hr hlk g7 x1 x4 x5 M ih7 h
def f_X3_firstToBoard_J58 (g7 : Int → Int → Int → Option Int) (x1 : Int) (x2 : Int) (x3 : Int) (x4 : Int) (x5 : Int) (M : Mem) : Option Int :=
  f_X3_firstToBoard_J59 g7 x1 x2 x3 x4 x5 0 M
theorem w_X3_firstToBoard_J58 (C : Cx syC p m c cX3_firstToBoard 7 s args RX3 D ad cA) (hr : meth.sig.returnType = (some .int)) (hlk : meth.locks = false) (g7 : Int → Int → Int → Option Int) (x1 : Int) (x2 : Int) (x3 : Int) (x4 : Int) (x5 : Int) (M : Mem) (ih7 : ∀ (ux2 ux3 ux4 : Int) , g7 ux2 ux3 ux4  = some r0 → WM syC p l e rm_X3_firstToBoard s m args below meth c 7 D ad cA (MQ below (q_Post syC D ad cA (some (.int (qI r0))) M) args s 0 0 (q_A syC ad)) M 7 [(0, .ref (ad 7)), (1, .int (qI x1)), (2, .int (qI ux2)), (3, .int (qI ux3)), (4, .int (qI ux4))] []) (h : f_X3_firstToBoard_J58 g7 x1 x2 x3 x4 x5 M = some r0) : WM syC p l e rm_X3_firstToBoard s m args below meth c 7 D ad cA (MQ below (q_Post syC D ad cA (some (.int (qI r0))) M) args s 0 0 (q_A syC ad)) M 58 [(0, .ref (ad 7)), (1, .int (qI x1)), (2, .int (qI x2)), (3, .int (qI x3)), (4, .int (qI x4)), (5, .int (qI x5))] [] := by
  unfold f_X3_firstToBoard_J58 at h
  refine r_ic C dX3_firstToBoard_58 ?_
  exact w_X3_firstToBoard_J59 C hr hlk g7 x1 x2 x3 x4 x5 0 M ih7 h
def f_X3_firstToBoard_B7 (x1 : Int) (M : Mem) (x2 : Int) (x3 : Int) (x4 : Int) (g7 : Int → Int → Int → Option Int) : Option Int :=
  q_gr M 7 1 fun t1 =>
  q_gf M t1 9 fun v2 =>
  if w32 v2 ≤ w32 x4 then (some x2)
  else (q_gr M 7 1 fun t3 =>
  q_al M (32 * (t3 + 1) + 8) 8 x4 fun v4 =>
  q_gf M 7 3 fun v5 =>
  if w32 v5 = w32 1 then (f_X3_firstToBoard_J58 g7 x1 x2 x3 x4 v4 M)
  else (q_gr M 7 0 fun t6 =>
  q_al M (32 * (t6 + 1) + 5) 8 v4 fun v7 =>
  if w32 (q_and v7 x1) = 0 then (f_X3_firstToBoard_J58 g7 x1 x2 x3 x4 v4 M)
  else (f_X3_firstToBoard_J59 g7 x1 x2 x3 x4 v4 1 M)))
def f_X3_firstToBoard_L7 (x1 : Int) (M : Mem) (n : Nat) (x2 : Int) (x3 : Int) (x4 : Int) : Option Int := qlp3 (fun x2 x3 x4 g7 => f_X3_firstToBoard_B7 x1 M x2 x3 x4 g7) n x2 x3 x4
theorem w_X3_firstToBoard_B7 (C : Cx syC p m c cX3_firstToBoard 7 s args RX3 D ad cA) (hr : meth.sig.returnType = (some .int)) (hlk : meth.locks = false)  (x1 : Int) (x2 : Int) (x3 : Int) (x4 : Int) (M : Mem) (g7 : Int → Int → Int → Option Int)  (ih7 : ∀ (ux2 ux3 ux4 : Int) , g7 ux2 ux3 ux4  = some r0 → WM syC p l e rm_X3_firstToBoard s m args below meth c 7 D ad cA (MQ below (q_Post syC D ad cA (some (.int (qI r0))) M) args s 0 0 (q_A syC ad)) M 7 [(0, .ref (ad 7)), (1, .int (qI x1)), (2, .int (qI ux2)), (3, .int (qI ux3)), (4, .int (qI ux4))] []) (h : f_X3_firstToBoard_B7 x1 M x2 x3 x4 g7 = some r0) : WM syC p l e rm_X3_firstToBoard s m args below meth c 7 D ad cA (MQ below (q_Post syC D ad cA (some (.int (qI r0))) M) args s 0 0 (q_A syC ad)) M 7 [(0, .ref (ad 7)), (1, .int (qI x1)), (2, .int (qI x2)), (3, .int (qI x3)), (4, .int (qI x4))] [] := by
  unfold f_X3_firstToBoard_B7 at h
  refine r_il C dX3_firstToBoard_7 (k := 4) rfl ?_
  refine r_aln C dX3_firstToBoard_9 (k := 0) rfl ?_
  refine r_gr C kc_7 clX3 (f := 1) (fz := 1) (Pp := isS) (by decide) rfl rfl (fun q => q.2.2.2) tf_RX3_37 dX3_firstToBoard_10 h (fun t1 ht1 h => ?_)
  refine r_gf C (kS ht1) clX6 (f := 9) (by decide) rfl rfl rfl tf_RX3_81 dX3_firstToBoard_13 h (fun v2 h => ?_)
  refine r_cge C (tgt := 108) dX3_firstToBoard_16 (by decide) h (fun h => ?_) (fun h => ?_)
  · refine r_iln C dX3_firstToBoard_108 (k := 2) rfl ?_
    exact r_iretp C hr hlk dX3_firstToBoard_109 h
  · refine r_aln C dX3_firstToBoard_19 (k := 0) rfl ?_
    refine r_gr C kc_7 clX3 (f := 1) (fz := 1) (Pp := isS) (by decide) rfl rfl (fun q => q.2.2.2) tf_RX3_37 dX3_firstToBoard_20 h (fun t3 ht3 h => ?_)
    refine r_gs C (kS ht3) clX6 (f := 8) (by decide) rfl (t := (32 * (t3 + 1) + 8)) rfl tf_RX3_107 dX3_firstToBoard_23 ?_
    refine r_il C dX3_firstToBoard_26 (k := 4) rfl ?_
    refine r_iald C (kS_8 ht3) dX3_firstToBoard_28 h (fun v4 h => ?_)
    refine r_is C (L1 := [(5, .int (qI v4)), (0, .ref (ad 7)), (1, .int (qI x1)), (2, .int (qI x2)), (3, .int (qI x3)), (4, .int (qI x4))]) dX3_firstToBoard_29 (by decide) rfl ?_
    refine r_aln C dX3_firstToBoard_31 (k := 1) rfl ?_
    refine r_gf C kc_7 clX3 (f := 3) (by decide) rfl rfl rfl tf_RX3_15 dX3_firstToBoard_32 h (fun v5 h => ?_)
    refine r_ic C dX3_firstToBoard_35 ?_
    refine r_ceq C (tgt := 58) dX3_firstToBoard_36 (by decide) h (fun h => ?_) (fun h => ?_)
    · refine r_drop [1, 2, 3, 4, 5, 0] rfl ?_
      exact w_X3_firstToBoard_J58 C hr hlk g7 x1 x2 x3 x4 v4 M ih7 h
    · refine r_aln C dX3_firstToBoard_39 (k := 1) rfl ?_
      refine r_gr C kc_7 clX3 (f := 0) (fz := 0) (Pp := isT) (by decide) rfl rfl (fun q => q.2.2.1) tf_RX3_33 dX3_firstToBoard_40 h (fun t6 ht6 h => ?_)
      refine r_gs C (kT ht6) clX8 (f := 5) (by decide) rfl (t := (32 * (t6 + 1) + 5)) rfl tf_RX3_160 dX3_firstToBoard_43 ?_
      refine r_il C dX3_firstToBoard_46 (k := 0) rfl ?_
      refine r_iald C (kT_5 ht6) dX3_firstToBoard_48 h (fun v7 h => ?_)
      refine r_iln C dX3_firstToBoard_49 (k := 2) rfl ?_
      refine r_iand C dX3_firstToBoard_50 ?_
      refine r_zeq C (tgt := 58) dX3_firstToBoard_51 (by decide) h (fun h => ?_) (fun h => ?_)
      · refine r_drop [1, 2, 3, 4, 5, 0] rfl ?_
        exact w_X3_firstToBoard_J58 C hr hlk g7 x1 x2 x3 x4 v4 M ih7 h
      · refine r_ic C dX3_firstToBoard_54 ?_
        refine r_goto C (tgt := 59) dX3_firstToBoard_55 (by decide) ?_
        refine r_drop [1, 2, 3, 4, 5, 0] rfl ?_
        exact w_X3_firstToBoard_J59 C hr hlk g7 x1 x2 x3 x4 v4 1 M ih7 h
theorem w_X3_firstToBoard_L7 (C : Cx syC p m c cX3_firstToBoard 7 s args RX3 D ad cA) (hr : meth.sig.returnType = (some .int)) (hlk : meth.locks = false)  (x1 : Int) (M : Mem)  (n : Nat) (x2 : Int) (x3 : Int) (x4 : Int) (h : f_X3_firstToBoard_L7 x1 M n x2 x3 x4 = some r0) : WM syC p l e rm_X3_firstToBoard s m args below meth c 7 D ad cA (MQ below (q_Post syC D ad cA (some (.int (qI r0))) M) args s 0 0 (q_A syC ad)) M 7 [(0, .ref (ad 7)), (1, .int (qI x1)), (2, .int (qI x2)), (3, .int (qI x3)), (4, .int (qI x4))] [] :=
  qlp3_r (Wp := fun ux2 ux3 ux4 => WM syC p l e rm_X3_firstToBoard s m args below meth c 7 D ad cA (MQ below (q_Post syC D ad cA (some (.int (qI r0))) M) args s 0 0 (q_A syC ad)) M 7 [(0, .ref (ad 7)), (1, .int (qI x1)), (2, .int (qI ux2)), (3, .int (qI ux3)), (4, .int (qI ux4))] []) (fun ux2 ux3 ux4 g7 ih7 h => w_X3_firstToBoard_B7 C hr hlk x1 ux2 ux3 ux4 M g7  ih7 h) n x2 x3 x4 h
def f_X3_firstToBoard (a0 : Int) (M : Mem) : Option Int :=
  f_X3_firstToBoard_L7 a0 M q_N (-1) 0 0
theorem c_X3_firstToBoard {l : Launch} {D : va_G} {ad : Nat → Nat} {cA : Nat → ClassId} (hi : q_inj syC ad) (a0 : Int) (M : Mem) (r0 : Int) (h : f_X3_firstToBoard a0 M = some r0) : q_Met l syC D ad cA yX3_firstToBoard cX3_firstToBoard 7 (some .int) rm_X3_firstToBoard [.ref (ad 7), .int (qI a0)] M (some (.int (qI r0))) M := by
  refine q_met (L0 := [(0, .ref (ad 7)), (1, .int (qI a0))]) hi okC (by decide) (Nat.le_of_ble_eq_true rfl) rfl ?_
  intro p e s m args below meth c C hr hlk
  unfold f_X3_firstToBoard at h
  refine r_ic C dX3_firstToBoard_0 ?_
  refine r_isn C (L1 := [(2, .int (qI (-1))), (0, .ref (ad 7)), (1, .int (qI a0))]) dX3_firstToBoard_1 (by decide) rfl ?_
  refine r_ic C dX3_firstToBoard_2 ?_
  refine r_isn C (L1 := [(3, .int (qI 0)), (2, .int (qI (-1))), (0, .ref (ad 7)), (1, .int (qI a0))]) dX3_firstToBoard_3 (by decide) rfl ?_
  refine r_ic C dX3_firstToBoard_4 ?_
  refine r_is C (L1 := [(4, .int (qI 0)), (3, .int (qI 0)), (2, .int (qI (-1))), (0, .ref (ad 7)), (1, .int (qI a0))]) dX3_firstToBoard_5 (by decide) rfl ?_
  refine r_drop [3, 4, 2, 1, 0] rfl ?_
  exact w_X3_firstToBoard_L7 C hr hlk a0 M  q_N (-1) 0 0 h
abbrev rm_X3_board : Room := { frames := 3, cells := 0, slots := 0, locals := 80 }
theorem mw_X3_board : q_mw RX3 yX3_board cX3_board 6 none 1 := ⟨⟨ti_X3_board, tl_X3_board, tn_RX3, td_X3_board⟩, by decide +kernel⟩
def f_X3_board_B164 (x2 : Int) (x4 : Int) (M : Mem) (g164 : Int → Mem → Res) : Res :=
  q_gr M 7 0 fun t1 =>
  q_gf M t1 0 fun v2 =>
  if w32 v2 ≤ w32 x4 then (some (0, M))
  else (if w32 (q_and x2 (q_shl 1 x4)) = 0 then (g164 (x4 + 1) M)
  else (q_gr M 7 1 fun t3 =>
  q_al M (32 * (t3 + 1) + 5) 8 x4 fun v4 =>
  q_as M (32 * (t3 + 1) + 5) 8 x4 (v4 + 1) fun M5 =>
  g164 (x4 + 1) M5))
def f_X3_board_L164 (x2 : Int) (n : Nat) (x4 : Int) (M : Mem) : Res := qlm1 (fun x4 M g164 => f_X3_board_B164 x2 x4 M g164) n x4 M
theorem w_X3_board_B164 (C : Cx syC p m c cX3_board 6 s args RX3 D ad cA) (hr : meth.sig.returnType = none) (hlk : meth.locks = false)  (x2 : Int) (x4 : Int) (M : Mem) (g164 : Int → Mem → Res)  (ih164 : ∀ (ux4 : Int) (M : Mem), g164 ux4 M = some (r0, M0) → WM syC p l e rm_X3_board s m args below meth c 6 D ad cA (MQ below (q_Post syC D ad cA none M0) args s 0 0 (q_A syC ad)) M 164 [(0, .ref (ad 7)), (2, .int (qI x2)), (4, .int (qI ux4))] []) (h : f_X3_board_B164 x2 x4 M g164 = some (r0, M0)) : WM syC p l e rm_X3_board s m args below meth c 6 D ad cA (MQ below (q_Post syC D ad cA none M0) args s 0 0 (q_A syC ad)) M 164 [(0, .ref (ad 7)), (2, .int (qI x2)), (4, .int (qI x4))] [] := by
  unfold f_X3_board_B164 at h
  refine r_il C dX3_board_164 (k := 2) rfl ?_
  refine r_aln C dX3_board_166 (k := 0) rfl ?_
  refine r_gr C kc_7 clX3 (f := 0) (fz := 0) (Pp := isT) (by decide) rfl rfl (fun q => q.2.2.1) tf_RX3_33 dX3_board_167 h (fun t1 ht1 h => ?_)
  refine r_gf C (kT ht1) clX8 (f := 0) (by decide) rfl rfl rfl tf_RX3_75 dX3_board_170 h (fun v2 h => ?_)
  refine r_cge C (tgt := 205) dX3_board_173 (by decide) h (fun h => ?_) (fun h => ?_)
  · exact r_vret C hr hlk dX3_board_205 h
  · refine r_iln C dX3_board_176 (k := 1) rfl ?_
    refine r_ic C dX3_board_177 ?_
    refine r_il C dX3_board_178 (k := 2) rfl ?_
    refine r_ishl C dX3_board_180 ?_
    refine r_iand C dX3_board_181 ?_
    refine r_zeq C (tgt := 199) dX3_board_182 (by decide) h (fun h => ?_) (fun h => ?_)
    · refine r_inc C (L1 := [(4, .int (qI (x4 + 1))), (0, .ref (ad 7)), (2, .int (qI x2))]) dX3_board_199 (k := 2) rfl (by decide) rfl ?_
      refine r_goto C (tgt := 164) dX3_board_202 (by decide) ?_
      refine r_drop [1, 2, 0] rfl ?_
      exact ih164 (x4 + 1) M h
    · refine r_aln C dX3_board_185 (k := 0) rfl ?_
      refine r_gr C kc_7 clX3 (f := 1) (fz := 1) (Pp := isS) (by decide) rfl rfl (fun q => q.2.2.2) tf_RX3_37 dX3_board_186 h (fun t3 ht3 h => ?_)
      refine r_gs C (kS ht3) clX6 (f := 5) (by decide) rfl (t := (32 * (t3 + 1) + 5)) rfl tf_RX3_131 dX3_board_189 ?_
      refine r_il C dX3_board_192 (k := 2) rfl ?_
      refine r_dup2 C rfl rfl dX3_board_194 ?_
      refine r_iald C (kS_5 ht3) dX3_board_195 h (fun v4 h => ?_)
      refine r_ic C dX3_board_196 ?_
      refine r_iadd C dX3_board_197 ?_
      refine r_iast C (kS_5 ht3) dX3_board_198 h (fun M5 h => ?_)
      refine r_inc C (L1 := [(4, .int (qI (x4 + 1))), (0, .ref (ad 7)), (2, .int (qI x2))]) dX3_board_199 (k := 2) rfl (by decide) rfl ?_
      refine r_goto C (tgt := 164) dX3_board_202 (by decide) ?_
      refine r_drop [1, 2, 0] rfl ?_
      exact ih164 (x4 + 1) M5 h
theorem w_X3_board_L164 (C : Cx syC p m c cX3_board 6 s args RX3 D ad cA) (hr : meth.sig.returnType = none) (hlk : meth.locks = false)  (x2 : Int)  (n : Nat) (x4 : Int) (M : Mem) (h : f_X3_board_L164 x2 n x4 M = some (r0, M0)) : WM syC p l e rm_X3_board s m args below meth c 6 D ad cA (MQ below (q_Post syC D ad cA none M0) args s 0 0 (q_A syC ad)) M 164 [(0, .ref (ad 7)), (2, .int (qI x2)), (4, .int (qI x4))] [] :=
  qlm1_r (Wp := fun ux4 M => WM syC p l e rm_X3_board s m args below meth c 6 D ad cA (MQ below (q_Post syC D ad cA none M0) args s 0 0 (q_A syC ad)) M 164 [(0, .ref (ad 7)), (2, .int (qI x2)), (4, .int (qI ux4))] []) (fun ux4 M g164 ih164 h => w_X3_board_B164 C hr hlk x2 ux4 M g164  ih164 h) n x4 M h
def f_X3_board_B35 (x1 : Int) (x2 : Int) (x3 : Int) (M : Mem) (g35 : Int → Int → Mem → Res) : Res :=
  if w32 x3 ≤ 0 then (f_X3_board_L164 x2 q_N 0 M)
  else (q_calp (f_X3_firstToBoard x2 M) fun r1 =>
  if 0 ≤ w32 r1 then (q_gr M 7 1 fun t2 =>
  q_al M (32 * (t2 + 1) + 8) 8 r1 fun v3 =>
  q_gr M 7 1 fun t4 =>
  q_call (f_X6_takeOut t4 r1 M) fun r5 M6 =>
  q_gr M6 7 1 fun t7 =>
  q_as M6 (32 * (t7 + 1) + 2) 8 v3 2 fun M8 =>
  q_gr M8 7 1 fun t9 =>
  q_as M8 (32 * (t9 + 1) + 6) 8 v3 x1 fun M10 =>
  q_gr M10 7 1 fun t11 =>
  q_gr M10 7 1 fun t12 =>
  q_gf M10 t12 0 fun v13 =>
  q_as M10 (32 * (t11 + 1) + 7) 8 v3 v13 fun M14 =>
  q_gr M14 7 1 fun t15 =>
  q_gr M14 7 1 fun t16 =>
  q_al M14 (32 * (t16 + 1) + 3) 8 v3 fun v17 =>
  q_gr M14 7 0 fun t18 =>
  q_al M14 (32 * (t18 + 1) + 12) 4 x1 fun v19 =>
  q_as M14 (32 * (t15 + 1) + 3) 8 v3 (q_max (v17 - v19) 0) fun M20 =>
  g35 (q_and x2 (q_xor (q_shl 1 v3) (-1))) (x3 + (-1)) M20)
  else (some (0, M)))
def f_X3_board_L35 (x1 : Int) (n : Nat) (x2 : Int) (x3 : Int) (M : Mem) : Res := qlm2 (fun x2 x3 M g35 => f_X3_board_B35 x1 x2 x3 M g35) n x2 x3 M
theorem w_X3_board_B35 (C : Cx syC p m c cX3_board 6 s args RX3 D ad cA) (hr : meth.sig.returnType = none) (hlk : meth.locks = false)  (x1 : Int) (x2 : Int) (x3 : Int) (M : Mem) (g35 : Int → Int → Mem → Res)  (ih35 : ∀ (ux2 ux3 : Int) (M : Mem), g35 ux2 ux3 M = some (r0, M0) → WM syC p l e rm_X3_board s m args below meth c 6 D ad cA (MQ below (q_Post syC D ad cA none M0) args s 0 0 (q_A syC ad)) M 35 [(0, .ref (ad 7)), (1, .int (qI x1)), (2, .int (qI ux2)), (3, .int (qI ux3))] []) (h : f_X3_board_B35 x1 x2 x3 M g35 = some (r0, M0)) : WM syC p l e rm_X3_board s m args below meth c 6 D ad cA (MQ below (q_Post syC D ad cA none M0) args s 0 0 (q_A syC ad)) M 35 [(0, .ref (ad 7)), (1, .int (qI x1)), (2, .int (qI x2)), (3, .int (qI x3))] [] := by
  unfold f_X3_board_B35 at h
  refine r_iln C dX3_board_35 (k := 3) rfl ?_
  refine r_zle C (tgt := 161) dX3_board_36 (by decide) h (fun h => ?_) (fun h => ?_)
  · refine r_ic C dX3_board_161 ?_
    refine r_is C (L1 := [(4, .int (qI 0)), (0, .ref (ad 7)), (1, .int (qI x1)), (2, .int (qI x2)), (3, .int (qI x3))]) dX3_board_162 (by decide) rfl ?_
    refine r_drop [1, 3, 0] rfl ?_
    exact w_X3_board_L164 C hr hlk x2  q_N 0 M h
  · refine r_aln C dX3_board_39 (k := 0) rfl ?_
    refine r_iln C dX3_board_40 (k := 2) rfl ?_
    obtain ⟨r1, hy, h⟩ := q_calp_some h
    refine r_cvi C (st := []) (c_X3_firstToBoard C.2.2.1 x2 M r1 hy) tm_RX3_104 mw_X3_firstToBoard ⟨rfl, rfl⟩ ⟨Nat.le_of_ble_eq_true rfl, Nat.le_of_ble_eq_true rfl⟩ kc_7 clX3 rfl rfl (Nat.le_of_ble_eq_true rfl) dX3_board_41 ?_
    refine r_is C (L1 := [(4, .int (qI r1)), (0, .ref (ad 7)), (1, .int (qI x1)), (2, .int (qI x2)), (3, .int (qI x3))]) dX3_board_44 (by decide) rfl ?_
    refine r_il C dX3_board_46 (k := 0) rfl ?_
    refine r_zge C (tgt := 52) dX3_board_48 (by decide) h (fun h => ?_) (fun h => ?_)
    · refine r_aln C dX3_board_52 (k := 1) rfl ?_
      refine r_gr C kc_7 clX3 (f := 1) (fz := 1) (Pp := isS) (by decide) rfl rfl (fun q => q.2.2.2) tf_RX3_37 dX3_board_53 h (fun t2 ht2 h => ?_)
      refine r_gs C (kS ht2) clX6 (f := 8) (by decide) rfl (t := (32 * (t2 + 1) + 8)) rfl tf_RX3_107 dX3_board_56 ?_
      refine r_il C dX3_board_59 (k := 0) rfl ?_
      refine r_iald C (kS_8 ht2) dX3_board_61 h (fun v3 h => ?_)
      refine r_is C (L1 := [(5, .int (qI v3)), (4, .int (qI r1)), (0, .ref (ad 7)), (1, .int (qI x1)), (2, .int (qI x2)), (3, .int (qI x3))]) dX3_board_62 (by decide) rfl ?_
      refine r_aln C dX3_board_64 (k := 2) rfl ?_
      refine r_gr C kc_7 clX3 (f := 1) (fz := 1) (Pp := isS) (by decide) rfl rfl (fun q => q.2.2.2) tf_RX3_37 dX3_board_65 h (fun t4 ht4 h => ?_)
      refine r_il C dX3_board_68 (k := 1) rfl ?_
      obtain ⟨r5, M6, hy, h⟩ := q_call_some h
      refine r_cvv C (st := []) (c_X6_takeOut C.2.2.1 t4 ht4 r1 M r5 M6 hy) tm_RX3_110 mw_X6_takeOut ⟨rfl, rfl⟩ ⟨Nat.le_of_ble_eq_true rfl, Nat.le_of_ble_eq_true rfl⟩ (kS ht4) clX6 rfl rfl (Nat.le_of_ble_eq_true rfl) dX3_board_70 ?_
      refine r_aln C dX3_board_73 (k := 2) rfl ?_
      refine r_gr C kc_7 clX3 (f := 1) (fz := 1) (Pp := isS) (by decide) rfl rfl (fun q => q.2.2.2) tf_RX3_37 dX3_board_74 h (fun t7 ht7 h => ?_)
      refine r_gs C (kS ht7) clX6 (f := 2) (by decide) rfl (t := (32 * (t7 + 1) + 2)) rfl tf_RX3_69 dX3_board_77 ?_
      refine r_il C dX3_board_80 (k := 0) rfl ?_
      refine r_ic C dX3_board_82 ?_
      refine r_iast C (kS_2 ht7) dX3_board_83 h (fun M8 h => ?_)
      refine r_aln C dX3_board_84 (k := 2) rfl ?_
      refine r_gr C kc_7 clX3 (f := 1) (fz := 1) (Pp := isS) (by decide) rfl rfl (fun q => q.2.2.2) tf_RX3_37 dX3_board_85 h (fun t9 ht9 h => ?_)
      refine r_gs C (kS ht9) clX6 (f := 6) (by decide) rfl (t := (32 * (t9 + 1) + 6)) rfl tf_RX3_113 dX3_board_88 ?_
      refine r_il C dX3_board_91 (k := 0) rfl ?_
      refine r_iln C dX3_board_93 (k := 3) rfl ?_
      refine r_iast C (kS_6 ht9) dX3_board_94 h (fun M10 h => ?_)
      refine r_aln C dX3_board_95 (k := 2) rfl ?_
      refine r_gr C kc_7 clX3 (f := 1) (fz := 1) (Pp := isS) (by decide) rfl rfl (fun q => q.2.2.2) tf_RX3_37 dX3_board_96 h (fun t11 ht11 h => ?_)
      refine r_gs C (kS ht11) clX6 (f := 7) (by decide) rfl (t := (32 * (t11 + 1) + 7)) rfl tf_RX3_116 dX3_board_99 ?_
      refine r_il C dX3_board_102 (k := 0) rfl ?_
      refine r_aln C dX3_board_104 (k := 2) rfl ?_
      refine r_gr C kc_7 clX3 (f := 1) (fz := 1) (Pp := isS) (by decide) rfl rfl (fun q => q.2.2.2) tf_RX3_37 dX3_board_105 h (fun t12 ht12 h => ?_)
      refine r_gf C (kS ht12) clX6 (f := 0) (by decide) rfl rfl rfl tf_RX3_64 dX3_board_108 h (fun v13 h => ?_)
      refine r_iast C (kS_7 ht11) dX3_board_111 h (fun M14 h => ?_)
      refine r_aln C dX3_board_112 (k := 2) rfl ?_
      refine r_gr C kc_7 clX3 (f := 1) (fz := 1) (Pp := isS) (by decide) rfl rfl (fun q => q.2.2.2) tf_RX3_37 dX3_board_113 h (fun t15 ht15 h => ?_)
      refine r_gs C (kS ht15) clX6 (f := 3) (by decide) rfl (t := (32 * (t15 + 1) + 3)) rfl tf_RX3_119 dX3_board_116 ?_
      refine r_il C dX3_board_119 (k := 0) rfl ?_
      refine r_aln C dX3_board_121 (k := 2) rfl ?_
      refine r_gr C kc_7 clX3 (f := 1) (fz := 1) (Pp := isS) (by decide) rfl rfl (fun q => q.2.2.2) tf_RX3_37 dX3_board_122 h (fun t16 ht16 h => ?_)
      refine r_gs C (kS ht16) clX6 (f := 3) (by decide) rfl (t := (32 * (t16 + 1) + 3)) rfl tf_RX3_119 dX3_board_125 ?_
      refine r_il C dX3_board_128 (k := 0) rfl ?_
      refine r_iald C (kS_3 ht16) dX3_board_130 h (fun v17 h => ?_)
      refine r_aln C dX3_board_131 (k := 2) rfl ?_
      refine r_gr C kc_7 clX3 (f := 0) (fz := 0) (Pp := isT) (by decide) rfl rfl (fun q => q.2.2.1) tf_RX3_33 dX3_board_132 h (fun t18 ht18 h => ?_)
      refine r_gs C (kT ht18) clX8 (f := 12) (by decide) rfl (t := (32 * (t18 + 1) + 12)) rfl tf_RX3_122 dX3_board_135 ?_
      refine r_iln C dX3_board_138 (k := 3) rfl ?_
      refine r_iald C (kT_12 ht18) dX3_board_139 h (fun v19 h => ?_)
      refine r_isub C dX3_board_140 ?_
      refine r_ic C dX3_board_141 ?_
      refine r_q_max C (st := [.int (qI v3), .ref (ad (32 * (t15 + 1) + 3))]) tm_RX3_125 ⟨Nat.le_of_ble_eq_true rfl, Nat.le_of_ble_eq_true rfl⟩ dX3_board_142 ?_
      refine r_iast C (kS_3 ht15) dX3_board_145 h (fun M20 h => ?_)
      refine r_iln C dX3_board_146 (k := 4) rfl ?_
      refine r_ic C dX3_board_147 ?_
      refine r_il C dX3_board_148 (k := 0) rfl ?_
      refine r_ishl C dX3_board_150 ?_
      refine r_ic C dX3_board_151 ?_
      refine r_ixor C dX3_board_152 ?_
      refine r_iand C dX3_board_153 ?_
      refine r_isn C (L1 := [(2, .int (qI (q_and x2 (q_xor (q_shl 1 v3) (-1))))), (5, .int (qI v3)), (4, .int (qI r1)), (0, .ref (ad 7)), (1, .int (qI x1)), (3, .int (qI x3))]) dX3_board_154 (by decide) rfl ?_
      refine r_inc C (L1 := [(3, .int (qI (x3 + (-1)))), (2, .int (qI (q_and x2 (q_xor (q_shl 1 v3) (-1))))), (5, .int (qI v3)), (4, .int (qI r1)), (0, .ref (ad 7)), (1, .int (qI x1))]) dX3_board_155 (k := 5) rfl (by decide) rfl ?_
      refine r_goto C (tgt := 35) dX3_board_158 (by decide) ?_
      refine r_drop [4, 5, 1, 0] rfl ?_
      exact ih35 (q_and x2 (q_xor (q_shl 1 v3) (-1))) (x3 + (-1)) M20 h
    · exact r_vret C hr hlk dX3_board_51 h
theorem w_X3_board_L35 (C : Cx syC p m c cX3_board 6 s args RX3 D ad cA) (hr : meth.sig.returnType = none) (hlk : meth.locks = false)  (x1 : Int)  (n : Nat) (x2 : Int) (x3 : Int) (M : Mem) (h : f_X3_board_L35 x1 n x2 x3 M = some (r0, M0)) : WM syC p l e rm_X3_board s m args below meth c 6 D ad cA (MQ below (q_Post syC D ad cA none M0) args s 0 0 (q_A syC ad)) M 35 [(0, .ref (ad 7)), (1, .int (qI x1)), (2, .int (qI x2)), (3, .int (qI x3))] [] :=
  qlm2_r (Wp := fun ux2 ux3 M => WM syC p l e rm_X3_board s m args below meth c 6 D ad cA (MQ below (q_Post syC D ad cA none M0) args s 0 0 (q_A syC ad)) M 35 [(0, .ref (ad 7)), (1, .int (qI x1)), (2, .int (qI ux2)), (3, .int (qI ux3))] []) (fun ux2 ux3 M g35 ih35 h => w_X3_board_B35 C hr hlk x1 ux2 ux3 M g35  ih35 h) n x2 x3 M h
def f_X3_board_J34 (x1 : Int) (x2 : Int) (y0 : Int) (M : Mem) : Res :=
  f_X3_board_L35 x1 q_N x2 y0 M
theorem w_X3_board_J34 (C : Cx syC p m c cX3_board 6 s args RX3 D ad cA) (hr : meth.sig.returnType = none) (hlk : meth.locks = false) (x1 : Int) (x2 : Int) (y0 : Int) (M : Mem)  (h : f_X3_board_J34 x1 x2 y0 M = some (r0, M0)) : WM syC p l e rm_X3_board s m args below meth c 6 D ad cA (MQ below (q_Post syC D ad cA none M0) args s 0 0 (q_A syC ad)) M 34 [(0, .ref (ad 7)), (1, .int (qI x1)), (2, .int (qI x2))] [.int (qI y0)] := by
  unfold f_X3_board_J34 at h
  refine r_isn C (L1 := [(3, .int (qI y0)), (0, .ref (ad 7)), (1, .int (qI x1)), (2, .int (qI x2))]) dX3_board_34 (by decide) rfl ?_
  refine r_drop [1, 2, 3, 0] rfl ?_
  exact w_X3_board_L35 C hr hlk x1  q_N x2 y0 M h
def f_X3_board (a0 : Int) (M : Mem) : Res :=
  q_call (f_X3_whoMay a0 M) fun r1 M2 =>
  q_call (f_X3_findTurns a0 r1 M2) fun r3 M4 =>
  q_gf M4 7 3 fun v5 =>
  if ¬ w32 v5 = w32 4 then (q_gr M4 7 0 fun t6 =>
  q_al M4 (32 * (t6 + 1) + 11) 4 a0 fun v7 =>
  f_X3_board_J34 a0 r1 v7 M4)
  else (f_X3_board_J34 a0 r1 8 M4)
theorem c_X3_board {l : Launch} {D : va_G} {ad : Nat → Nat} {cA : Nat → ClassId} (hi : q_inj syC ad) (a0 : Int) (M : Mem) (r0 : Int) (M0 : Mem) (h : f_X3_board a0 M = some (r0, M0)) : q_Met l syC D ad cA yX3_board cX3_board 6 none rm_X3_board [.ref (ad 7), .int (qI a0)] M none M0 := by
  refine q_met (L0 := [(0, .ref (ad 7)), (1, .int (qI a0))]) hi okC (by decide) (Nat.le_of_ble_eq_true rfl) rfl ?_
  intro p e s m args below meth c C hr hlk
  unfold f_X3_board at h
  refine r_aln C dX3_board_0 (k := 0) rfl ?_
  refine r_iln C dX3_board_1 (k := 1) rfl ?_
  obtain ⟨r1, M2, hy, h⟩ := q_call_some h
  refine r_cvi C (st := []) (c_X3_whoMay C.2.2.1 a0 M r1 M2 hy) tm_RX3_94 mw_X3_whoMay ⟨rfl, rfl⟩ ⟨Nat.le_of_ble_eq_true rfl, Nat.le_of_ble_eq_true rfl⟩ kc_7 clX3 rfl rfl (Nat.le_of_ble_eq_true rfl) dX3_board_2 ?_
  refine r_isn C (L1 := [(2, .int (qI r1)), (0, .ref (ad 7)), (1, .int (qI a0))]) dX3_board_5 (by decide) rfl ?_
  refine r_aln C dX3_board_6 (k := 1) rfl ?_
  refine r_iln C dX3_board_7 (k := 2) rfl ?_
  refine r_iln C dX3_board_8 (k := 0) rfl ?_
  obtain ⟨r3, M4, hy, h⟩ := q_call_some h
  refine r_cvv C (st := []) (c_X3_findTurns C.2.2.1 a0 r1 M2 r3 M4 hy) tm_RX3_98 mw_X3_findTurns ⟨rfl, rfl⟩ ⟨Nat.le_of_ble_eq_true rfl, Nat.le_of_ble_eq_true rfl⟩ kc_7 clX3 rfl rfl (Nat.le_of_ble_eq_true rfl) dX3_board_9 ?_
  refine r_aln C dX3_board_12 (k := 1) rfl ?_
  refine r_gf C kc_7 clX3 (f := 3) (by decide) rfl rfl rfl tf_RX3_15 dX3_board_13 h (fun v5 h => ?_)
  refine r_ic C dX3_board_16 ?_
  refine r_cne C (tgt := 25) dX3_board_17 (by decide) h (fun h => ?_) (fun h => ?_)
  · refine r_aln C dX3_board_25 (k := 1) rfl ?_
    refine r_gr C kc_7 clX3 (f := 0) (fz := 0) (Pp := isT) (by decide) rfl rfl (fun q => q.2.2.1) tf_RX3_33 dX3_board_26 h (fun t6 ht6 h => ?_)
    refine r_gs C (kT ht6) clX8 (f := 11) (by decide) rfl (t := (32 * (t6 + 1) + 11)) rfl tf_RX3_101 dX3_board_29 ?_
    refine r_iln C dX3_board_32 (k := 2) rfl ?_
    refine r_iald C (kT_11 ht6) dX3_board_33 h (fun v7 h => ?_)
    refine r_drop [1, 2, 0] rfl ?_
    exact w_X3_board_J34 C hr hlk a0 r1 v7 M4  h
  · refine r_bi C dX3_board_20 (by decide) ?_
    refine r_goto C (tgt := 34) dX3_board_22 (by decide) ?_
    refine r_drop [1, 2, 0] rfl ?_
    exact w_X3_board_J34 C hr hlk a0 r1 8 M4  h
abbrev rm_X3_comes : Room := { frames := 0, cells := 0, slots := 0, locals := 0 }
theorem mw_X3_comes : q_mw RX3 yX3_comes cX3_comes 4 (some .boolean) 1 := ⟨⟨ti_X3_comes, tl_X3_comes, tn_RX3, td_X3_comes⟩, by decide +kernel⟩
def f_X3_comes_J24 (x1 : Int) (y0 : Int) (M : Mem) : Option Int :=
  q_gr M 7 1 fun t1 =>
  q_gf M t1 0 fun v2 =>
  q_gr M 7 0 fun t3 =>
  q_al M (32 * (t3 + 1) + 9) 4 x1 fun v4 =>
  if w32 (v2 - v4) < 0 then (some 0)
  else (if w32 y0 ≤ 0 then (some 0)
  else (q_nz y0 <| if ¬ w32 ((w32 (v2 - v4)).tmod (w32 y0)) = 0 then (some 0)
  else (some 1)))
theorem w_X3_comes_J24 (C : Cx syC p m c cX3_comes 4 s args RX3 D ad cA) (hr : meth.sig.returnType = (some .boolean)) (hlk : meth.locks = false) (x1 : Int) (y0 : Int) (M : Mem)  (h : f_X3_comes_J24 x1 y0 M = some r0) : WM syC p l e rm_X3_comes s m args below meth c 4 D ad cA (MQ below (q_Post syC D ad cA (some (.int (qI r0))) M) args s 0 0 (q_A syC ad)) M 24 [(0, .ref (ad 7)), (1, .int (qI x1))] [.int (qI y0)] := by
  unfold f_X3_comes_J24 at h
  refine r_isn C (L1 := [(2, .int (qI y0)), (0, .ref (ad 7)), (1, .int (qI x1))]) dX3_comes_24 (by decide) rfl ?_
  refine r_aln C dX3_comes_25 (k := 1) rfl ?_
  refine r_gr C kc_7 clX3 (f := 1) (fz := 1) (Pp := isS) (by decide) rfl rfl (fun q => q.2.2.2) tf_RX3_37 dX3_comes_26 h (fun t1 ht1 h => ?_)
  refine r_gf C (kS ht1) clX6 (f := 0) (by decide) rfl rfl rfl tf_RX3_64 dX3_comes_29 h (fun v2 h => ?_)
  refine r_aln C dX3_comes_32 (k := 1) rfl ?_
  refine r_gr C kc_7 clX3 (f := 0) (fz := 0) (Pp := isT) (by decide) rfl rfl (fun q => q.2.2.1) tf_RX3_33 dX3_comes_33 h (fun t3 ht3 h => ?_)
  refine r_gs C (kT ht3) clX8 (f := 9) (by decide) rfl (t := (32 * (t3 + 1) + 9)) rfl tf_RX3_91 dX3_comes_36 ?_
  refine r_iln C dX3_comes_39 (k := 2) rfl ?_
  refine r_iald C (kT_9 ht3) dX3_comes_40 h (fun v4 h => ?_)
  refine r_isub C dX3_comes_41 ?_
  refine r_isn C (L1 := [(3, .int (qI (v2 - v4))), (2, .int (qI y0)), (0, .ref (ad 7)), (1, .int (qI x1))]) dX3_comes_42 (by decide) rfl ?_
  refine r_iln C dX3_comes_43 (k := 0) rfl ?_
  refine r_zlt C (tgt := 61) dX3_comes_44 (by decide) h (fun h => ?_) (fun h => ?_)
  · refine r_ic C dX3_comes_61 ?_
    exact r_zretp C (by decide) hr hlk dX3_comes_62 h
  · refine r_iln C dX3_comes_47 (k := 1) rfl ?_
    refine r_zle C (tgt := 61) dX3_comes_48 (by decide) h (fun h => ?_) (fun h => ?_)
    · refine r_ic C dX3_comes_61 ?_
      exact r_zretp C (by decide) hr hlk dX3_comes_62 h
    · refine r_iln C dX3_comes_51 (k := 0) rfl ?_
      refine r_iln C dX3_comes_52 (k := 1) rfl ?_
      refine r_irem C dX3_comes_53 h (fun h => ?_)
      refine r_zne C (tgt := 61) dX3_comes_54 (by decide) h (fun h => ?_) (fun h => ?_)
      · refine r_ic C dX3_comes_61 ?_
        exact r_zretp C (by decide) hr hlk dX3_comes_62 h
      · refine r_ic C dX3_comes_57 ?_
        refine r_goto C (tgt := 62) dX3_comes_58 (by decide) ?_
        exact r_zretp C (by decide) hr hlk dX3_comes_62 h
def f_X3_comes (a0 : Int) (M : Mem) : Option Int :=
  q_gf M 7 4 fun v1 =>
  if ¬ w32 a0 = w32 v1 then (q_gr M 7 0 fun t2 =>
  q_al M (32 * (t2 + 1) + 10) 4 a0 fun v3 =>
  f_X3_comes_J24 a0 v3 M)
  else (q_gf M 7 5 fun v4 =>
  f_X3_comes_J24 a0 v4 M)
theorem c_X3_comes {l : Launch} {D : va_G} {ad : Nat → Nat} {cA : Nat → ClassId} (hi : q_inj syC ad) (a0 : Int) (M : Mem) (r0 : Int) (h : f_X3_comes a0 M = some r0) : q_Met l syC D ad cA yX3_comes cX3_comes 4 (some .boolean) rm_X3_comes [.ref (ad 7), .int (qI a0)] M (some (.int (qI r0))) M := by
  refine q_met (L0 := [(0, .ref (ad 7)), (1, .int (qI a0))]) hi okC (by decide) (Nat.le_of_ble_eq_true rfl) rfl ?_
  intro p e s m args below meth c C hr hlk
  unfold f_X3_comes at h
  refine r_iln C dX3_comes_0 (k := 1) rfl ?_
  refine r_aln C dX3_comes_1 (k := 0) rfl ?_
  refine r_gf C kc_7 clX3 (f := 4) (by decide) rfl rfl rfl tf_RX3_19 dX3_comes_2 h (fun v1 h => ?_)
  refine r_cne C (tgt := 15) dX3_comes_5 (by decide) h (fun h => ?_) (fun h => ?_)
  · refine r_aln C dX3_comes_15 (k := 0) rfl ?_
    refine r_gr C kc_7 clX3 (f := 0) (fz := 0) (Pp := isT) (by decide) rfl rfl (fun q => q.2.2.1) tf_RX3_33 dX3_comes_16 h (fun t2 ht2 h => ?_)
    refine r_gs C (kT ht2) clX8 (f := 10) (by decide) rfl (t := (32 * (t2 + 1) + 10)) rfl tf_RX3_88 dX3_comes_19 ?_
    refine r_iln C dX3_comes_22 (k := 1) rfl ?_
    refine r_iald C (kT_10 ht2) dX3_comes_23 h (fun v3 h => ?_)
    exact w_X3_comes_J24 C hr hlk a0 v3 M  h
  · refine r_aln C dX3_comes_8 (k := 0) rfl ?_
    refine r_gf C kc_7 clX3 (f := 5) (by decide) rfl rfl rfl tf_RX3_22 dX3_comes_9 h (fun v4 h => ?_)
    refine r_goto C (tgt := 24) dX3_comes_12 (by decide) ?_
    exact w_X3_comes_J24 C hr hlk a0 v4 M  h
abbrev rm_X3_letCome : Room := { frames := 1, cells := 0, slots := 0, locals := 23 }
theorem mw_X3_letCome : q_mw RX3 yX3_letCome cX3_letCome 2 none 0 := ⟨⟨ti_X3_letCome, tl_X3_letCome, tn_RX3, td_X3_letCome⟩, by decide +kernel⟩
def f_X3_letCome_B2  (x1 : Int) (M : Mem) (g2 : Int → Mem → Res) : Res :=
  q_gr M 7 0 fun t1 =>
  q_gf M t1 0 fun v2 =>
  if w32 v2 ≤ w32 x1 then (some (0, M))
  else (q_gr M 7 0 fun t3 =>
  q_al M (32 * (t3 + 1) + 2) 8 x1 fun v4 =>
  q_gr M 7 1 fun t5 =>
  q_gf M t5 0 fun v6 =>
  if ¬ w32 v4 = w32 v6 then (g2 (x1 + 1) M)
  else (q_gr M 7 1 fun t7 =>
  q_al M (32 * (t7 + 1) + 2) 8 x1 fun v8 =>
  if ¬ w32 v8 = 0 then (g2 (x1 + 1) M)
  else (q_gr M 7 1 fun t9 =>
  q_gr M 7 1 fun t10 =>
  q_gf M t10 9 fun v11 =>
  q_call (f_X6_putIn t9 x1 v11 M) fun r12 M13 =>
  g2 (x1 + 1) M13)))
def f_X3_letCome_L2  (n : Nat) (x1 : Int) (M : Mem) : Res := qlm1 (fun x1 M g2 => f_X3_letCome_B2  x1 M g2) n x1 M
theorem w_X3_letCome_B2 (C : Cx syC p m c cX3_letCome 2 s args RX3 D ad cA) (hr : meth.sig.returnType = none) (hlk : meth.locks = false)  (x1 : Int) (M : Mem) (g2 : Int → Mem → Res)  (ih2 : ∀ (ux1 : Int) (M : Mem), g2 ux1 M = some (r0, M0) → WM syC p l e rm_X3_letCome s m args below meth c 2 D ad cA (MQ below (q_Post syC D ad cA none M0) args s 0 0 (q_A syC ad)) M 2 [(0, .ref (ad 7)), (1, .int (qI ux1))] []) (h : f_X3_letCome_B2  x1 M g2 = some (r0, M0)) : WM syC p l e rm_X3_letCome s m args below meth c 2 D ad cA (MQ below (q_Post syC D ad cA none M0) args s 0 0 (q_A syC ad)) M 2 [(0, .ref (ad 7)), (1, .int (qI x1))] [] := by
  unfold f_X3_letCome_B2 at h
  refine r_iln C dX3_letCome_2 (k := 1) rfl ?_
  refine r_aln C dX3_letCome_3 (k := 0) rfl ?_
  refine r_gr C kc_7 clX3 (f := 0) (fz := 0) (Pp := isT) (by decide) rfl rfl (fun q => q.2.2.1) tf_RX3_33 dX3_letCome_4 h (fun t1 ht1 h => ?_)
  refine r_gf C (kT ht1) clX8 (f := 0) (by decide) rfl rfl rfl tf_RX3_75 dX3_letCome_7 h (fun v2 h => ?_)
  refine r_cge C (tgt := 65) dX3_letCome_10 (by decide) h (fun h => ?_) (fun h => ?_)
  · exact r_vret C hr hlk dX3_letCome_65 h
  · refine r_aln C dX3_letCome_13 (k := 0) rfl ?_
    refine r_gr C kc_7 clX3 (f := 0) (fz := 0) (Pp := isT) (by decide) rfl rfl (fun q => q.2.2.1) tf_RX3_33 dX3_letCome_14 h (fun t3 ht3 h => ?_)
    refine r_gs C (kT ht3) clX8 (f := 2) (by decide) rfl (t := (32 * (t3 + 1) + 2)) rfl tf_RX3_78 dX3_letCome_17 ?_
    refine r_iln C dX3_letCome_20 (k := 1) rfl ?_
    refine r_iald C (kT_2 ht3) dX3_letCome_21 h (fun v4 h => ?_)
    refine r_aln C dX3_letCome_22 (k := 0) rfl ?_
    refine r_gr C kc_7 clX3 (f := 1) (fz := 1) (Pp := isS) (by decide) rfl rfl (fun q => q.2.2.2) tf_RX3_37 dX3_letCome_23 h (fun t5 ht5 h => ?_)
    refine r_gf C (kS ht5) clX6 (f := 0) (by decide) rfl rfl rfl tf_RX3_64 dX3_letCome_26 h (fun v6 h => ?_)
    refine r_cne C (tgt := 59) dX3_letCome_29 (by decide) h (fun h => ?_) (fun h => ?_)
    · refine r_inc C (L1 := [(1, .int (qI (x1 + 1))), (0, .ref (ad 7))]) dX3_letCome_59 (k := 1) rfl (by decide) rfl ?_
      refine r_goto C (tgt := 2) dX3_letCome_62 (by decide) ?_
      refine r_drop [1, 0] rfl ?_
      exact ih2 (x1 + 1) M h
    · refine r_aln C dX3_letCome_32 (k := 0) rfl ?_
      refine r_gr C kc_7 clX3 (f := 1) (fz := 1) (Pp := isS) (by decide) rfl rfl (fun q => q.2.2.2) tf_RX3_37 dX3_letCome_33 h (fun t7 ht7 h => ?_)
      refine r_gs C (kS ht7) clX6 (f := 2) (by decide) rfl (t := (32 * (t7 + 1) + 2)) rfl tf_RX3_69 dX3_letCome_36 ?_
      refine r_iln C dX3_letCome_39 (k := 1) rfl ?_
      refine r_iald C (kS_2 ht7) dX3_letCome_40 h (fun v8 h => ?_)
      refine r_zne C (tgt := 59) dX3_letCome_41 (by decide) h (fun h => ?_) (fun h => ?_)
      · refine r_inc C (L1 := [(1, .int (qI (x1 + 1))), (0, .ref (ad 7))]) dX3_letCome_59 (k := 1) rfl (by decide) rfl ?_
        refine r_goto C (tgt := 2) dX3_letCome_62 (by decide) ?_
        refine r_drop [1, 0] rfl ?_
        exact ih2 (x1 + 1) M h
      · refine r_aln C dX3_letCome_44 (k := 0) rfl ?_
        refine r_gr C kc_7 clX3 (f := 1) (fz := 1) (Pp := isS) (by decide) rfl rfl (fun q => q.2.2.2) tf_RX3_37 dX3_letCome_45 h (fun t9 ht9 h => ?_)
        refine r_iln C dX3_letCome_48 (k := 1) rfl ?_
        refine r_aln C dX3_letCome_49 (k := 0) rfl ?_
        refine r_gr C kc_7 clX3 (f := 1) (fz := 1) (Pp := isS) (by decide) rfl rfl (fun q => q.2.2.2) tf_RX3_37 dX3_letCome_50 h (fun t10 ht10 h => ?_)
        refine r_gf C (kS ht10) clX6 (f := 9) (by decide) rfl rfl rfl tf_RX3_81 dX3_letCome_53 h (fun v11 h => ?_)
        obtain ⟨r12, M13, hy, h⟩ := q_call_some h
        refine r_cvv C (st := []) (c_X6_putIn C.2.2.1 t9 ht9 x1 v11 M r12 M13 hy) tm_RX3_84 mw_X6_putIn ⟨rfl, rfl⟩ ⟨Nat.le_of_ble_eq_true rfl, Nat.le_of_ble_eq_true rfl⟩ (kS ht9) clX6 rfl rfl (Nat.le_of_ble_eq_true rfl) dX3_letCome_56 ?_
        refine r_inc C (L1 := [(1, .int (qI (x1 + 1))), (0, .ref (ad 7))]) dX3_letCome_59 (k := 1) rfl (by decide) rfl ?_
        refine r_goto C (tgt := 2) dX3_letCome_62 (by decide) ?_
        refine r_drop [1, 0] rfl ?_
        exact ih2 (x1 + 1) M13 h
theorem w_X3_letCome_L2 (C : Cx syC p m c cX3_letCome 2 s args RX3 D ad cA) (hr : meth.sig.returnType = none) (hlk : meth.locks = false)    (n : Nat) (x1 : Int) (M : Mem) (h : f_X3_letCome_L2  n x1 M = some (r0, M0)) : WM syC p l e rm_X3_letCome s m args below meth c 2 D ad cA (MQ below (q_Post syC D ad cA none M0) args s 0 0 (q_A syC ad)) M 2 [(0, .ref (ad 7)), (1, .int (qI x1))] [] :=
  qlm1_r (Wp := fun ux1 M => WM syC p l e rm_X3_letCome s m args below meth c 2 D ad cA (MQ below (q_Post syC D ad cA none M0) args s 0 0 (q_A syC ad)) M 2 [(0, .ref (ad 7)), (1, .int (qI ux1))] []) (fun ux1 M g2 ih2 h => w_X3_letCome_B2 C hr hlk  ux1 M g2  ih2 h) n x1 M h
def f_X3_letCome  (M : Mem) : Res :=
  f_X3_letCome_L2  q_N 0 M
theorem c_X3_letCome {l : Launch} {D : va_G} {ad : Nat → Nat} {cA : Nat → ClassId} (hi : q_inj syC ad)  (M : Mem) (r0 : Int) (M0 : Mem) (h : f_X3_letCome  M = some (r0, M0)) : q_Met l syC D ad cA yX3_letCome cX3_letCome 2 none rm_X3_letCome [.ref (ad 7)] M none M0 := by
  refine q_met (L0 := [(0, .ref (ad 7))]) hi okC (by decide) (Nat.le_of_ble_eq_true rfl) rfl ?_
  intro p e s m args below meth c C hr hlk
  unfold f_X3_letCome at h
  refine r_ic C dX3_letCome_0 ?_
  refine r_isn C (L1 := [(1, .int (qI 0)), (0, .ref (ad 7))]) dX3_letCome_1 (by decide) rfl ?_
  refine r_drop [1, 0] rfl ?_
  exact w_X3_letCome_L2 C hr hlk   q_N 0 M h
end P12b
