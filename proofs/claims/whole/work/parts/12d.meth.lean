section P12d
variable {p : Program} {l : Launch} {e : Env} {s : State} {m : MethodId} {args : Array Value} {below : List Frame} {meth : Method} {c : Code} {D : va_G} {ad : Nat → Nat} {cA : Nat → ClassId} {r0 : Int} {M0 : Mem}
abbrev rm_X5_areSo : Room := { frames := 0, cells := 0, slots := 0, locals := 0 }
theorem mw_X5_areSo : q_mw RX5 yX5_areSo cX5_areSo 6 (some .boolean) 3 := ⟨⟨ti_X5_areSo, tl_X5_areSo, tn_RX5, td_X5_areSo⟩, by decide +kernel⟩
def f_X5_areSo_J77 (n2 : Nat) (l2 : Nat) (g3 : Int → Option Int) (x1 : Int) (x2 : Int) (x4 : Int) (y0 : Int) (y1 : Int) (M : Mem) : Option Int :=
  if w32 y1 = w32 y0 then (g3 (x4 + 1))
  else (some 0)
theorem w_X5_areSo_J77 (C : Cx syC p m c cX5_areSo 6 s args RX5 D ad cA) (hr : meth.sig.returnType = (some .boolean)) (hlk : meth.locks = false) (n2 : Nat) (l2 : Nat) (hn2 : syC.1 n2 = (2, l2)) (g3 : Int → Option Int) (x1 : Int) (x2 : Int) (x4 : Int) (y0 : Int) (y1 : Int) (M : Mem) (ih3 : ∀ (ux4 : Int) , g3 ux4  = some r0 → WM syC p l e rm_X5_areSo s m args below meth c 6 D ad cA (MQ below (q_Post syC D ad cA (some (.int (qI r0))) M) args s 0 0 (q_A syC ad)) M 3 [(0, .ref (ad 9)), (1, .int (qI x1)), (2, .int (qI x2)), (3, .ref (ad n2)), (4, .int (qI ux4))] []) (h : f_X5_areSo_J77 n2 l2 g3 x1 x2 x4 y0 y1 M = some r0) : WM syC p l e rm_X5_areSo s m args below meth c 6 D ad cA (MQ below (q_Post syC D ad cA (some (.int (qI r0))) M) args s 0 0 (q_A syC ad)) M 77 [(0, .ref (ad 9)), (1, .int (qI x1)), (2, .int (qI x2)), (3, .ref (ad n2)), (4, .int (qI x4))] [.int (qI y0), .int (qI y1)] := by
  unfold f_X5_areSo_J77 at h
  refine r_ceq C (tgt := 82) dX5_areSo_77 (by decide) h (fun h => ?_) (fun h => ?_)
  · refine r_inc C (L1 := [(4, .int (qI (x4 + 1))), (0, .ref (ad 9)), (1, .int (qI x1)), (2, .int (qI x2)), (3, .ref (ad n2))]) dX5_areSo_82 (k := 4) rfl (by decide) rfl ?_
    refine r_goto C (tgt := 3) dX5_areSo_85 (by decide) ?_
    refine r_drop [1, 2, 3, 4, 0] rfl ?_
    exact ih3 (x4 + 1)  h
  · refine r_ic C dX5_areSo_80 ?_
    exact r_zretp C (by decide) hr hlk dX5_areSo_81 h
def f_X5_areSo_J62 (n2 : Nat) (l2 : Nat) (g3 : Int → Option Int) (x1 : Int) (x2 : Int) (x4 : Int) (y0 : Int) (M : Mem) : Option Int :=
  q_al M 322 24 x4 fun v1 =>
  if ¬ w32 v1 = 0 then (f_X5_areSo_J77 n2 l2 g3 x1 x2 x4 0 y0 M)
  else (f_X5_areSo_J77 n2 l2 g3 x1 x2 x4 1 y0 M)
theorem w_X5_areSo_J62 (C : Cx syC p m c cX5_areSo 6 s args RX5 D ad cA) (hr : meth.sig.returnType = (some .boolean)) (hlk : meth.locks = false) (n2 : Nat) (l2 : Nat) (hn2 : syC.1 n2 = (2, l2)) (g3 : Int → Option Int) (x1 : Int) (x2 : Int) (x4 : Int) (y0 : Int) (M : Mem) (ih3 : ∀ (ux4 : Int) , g3 ux4  = some r0 → WM syC p l e rm_X5_areSo s m args below meth c 6 D ad cA (MQ below (q_Post syC D ad cA (some (.int (qI r0))) M) args s 0 0 (q_A syC ad)) M 3 [(0, .ref (ad 9)), (1, .int (qI x1)), (2, .int (qI x2)), (3, .ref (ad n2)), (4, .int (qI ux4))] []) (h : f_X5_areSo_J62 n2 l2 g3 x1 x2 x4 y0 M = some r0) : WM syC p l e rm_X5_areSo s m args below meth c 6 D ad cA (MQ below (q_Post syC D ad cA (some (.int (qI r0))) M) args s 0 0 (q_A syC ad)) M 62 [(0, .ref (ad 9)), (1, .int (qI x1)), (2, .int (qI x2)), (3, .ref (ad n2)), (4, .int (qI x4))] [.int (qI y0)] := by
  unfold f_X5_areSo_J62 at h
  refine r_aln C dX5_areSo_62 (k := 0) rfl ?_
  refine r_gs C kc_9 clX5 (f := 2) (by decide) rfl (t := 322) rfl tf_RX5_18 dX5_areSo_63 ?_
  refine r_il C dX5_areSo_66 (k := 4) rfl ?_
  refine r_iald C kc_322 dX5_areSo_68 h (fun v1 h => ?_)
  refine r_zne C (tgt := 76) dX5_areSo_69 (by decide) h (fun h => ?_) (fun h => ?_)
  · refine r_ic C dX5_areSo_76 ?_
    exact w_X5_areSo_J77 C hr hlk n2 l2 hn2 g3 x1 x2 x4 0 y0 M ih3 h
  · refine r_ic C dX5_areSo_72 ?_
    refine r_goto C (tgt := 77) dX5_areSo_73 (by decide) ?_
    exact w_X5_areSo_J77 C hr hlk n2 l2 hn2 g3 x1 x2 x4 1 y0 M ih3 h
def f_X5_areSo_J37 (n2 : Nat) (l2 : Nat) (g3 : Int → Option Int) (x1 : Int) (x2 : Int) (x4 : Int) (y0 : Int) (M : Mem) : Option Int :=
  if w32 y0 = 0 then (g3 (x4 + 1))
  else (q_al M 321 24 x4 fun v1 =>
  q_al M n2 l2 v1 fun v2 =>
  if ¬ w32 v2 = w32 2 then (f_X5_areSo_J62 n2 l2 g3 x1 x2 x4 0 M)
  else (f_X5_areSo_J62 n2 l2 g3 x1 x2 x4 1 M))
theorem w_X5_areSo_J37 (C : Cx syC p m c cX5_areSo 6 s args RX5 D ad cA) (hr : meth.sig.returnType = (some .boolean)) (hlk : meth.locks = false) (n2 : Nat) (l2 : Nat) (hn2 : syC.1 n2 = (2, l2)) (g3 : Int → Option Int) (x1 : Int) (x2 : Int) (x4 : Int) (y0 : Int) (M : Mem) (ih3 : ∀ (ux4 : Int) , g3 ux4  = some r0 → WM syC p l e rm_X5_areSo s m args below meth c 6 D ad cA (MQ below (q_Post syC D ad cA (some (.int (qI r0))) M) args s 0 0 (q_A syC ad)) M 3 [(0, .ref (ad 9)), (1, .int (qI x1)), (2, .int (qI x2)), (3, .ref (ad n2)), (4, .int (qI ux4))] []) (h : f_X5_areSo_J37 n2 l2 g3 x1 x2 x4 y0 M = some r0) : WM syC p l e rm_X5_areSo s m args below meth c 6 D ad cA (MQ below (q_Post syC D ad cA (some (.int (qI r0))) M) args s 0 0 (q_A syC ad)) M 37 [(0, .ref (ad 9)), (1, .int (qI x1)), (2, .int (qI x2)), (3, .ref (ad n2)), (4, .int (qI x4))] [.int (qI y0)] := by
  unfold f_X5_areSo_J37 at h
  refine r_is C (L1 := [(5, .int (qI y0)), (0, .ref (ad 9)), (1, .int (qI x1)), (2, .int (qI x2)), (3, .ref (ad n2)), (4, .int (qI x4))]) dX5_areSo_37 (by decide) rfl ?_
  refine r_il C dX5_areSo_39 (k := 0) rfl ?_
  refine r_zeq C (tgt := 82) dX5_areSo_41 (by decide) h (fun h => ?_) (fun h => ?_)
  · refine r_inc C (L1 := [(4, .int (qI (x4 + 1))), (5, .int (qI y0)), (0, .ref (ad 9)), (1, .int (qI x1)), (2, .int (qI x2)), (3, .ref (ad n2))]) dX5_areSo_82 (k := 5) rfl (by decide) rfl ?_
    refine r_goto C (tgt := 3) dX5_areSo_85 (by decide) ?_
    refine r_drop [2, 3, 4, 5, 0] rfl ?_
    exact ih3 (x4 + 1)  h
  · refine r_aln C dX5_areSo_44 (k := 4) rfl ?_
    refine r_aln C dX5_areSo_45 (k := 1) rfl ?_
    refine r_gs C kc_9 clX5 (f := 1) (by decide) rfl (t := 321) rfl tf_RX5_15 dX5_areSo_46 ?_
    refine r_il C dX5_areSo_49 (k := 5) rfl ?_
    refine r_iald C kc_321 dX5_areSo_51 h (fun v1 h => ?_)
    refine r_iald C hn2 dX5_areSo_52 h (fun v2 h => ?_)
    refine r_ic C dX5_areSo_53 ?_
    refine r_cne C (tgt := 61) dX5_areSo_54 (by decide) h (fun h => ?_) (fun h => ?_)
    · refine r_ic C dX5_areSo_61 ?_
      refine r_drop [1, 2, 3, 4, 5] rfl ?_
      exact w_X5_areSo_J62 C hr hlk n2 l2 hn2 g3 x1 x2 x4 0 M ih3 h
    · refine r_ic C dX5_areSo_57 ?_
      refine r_goto C (tgt := 62) dX5_areSo_58 (by decide) ?_
      refine r_drop [1, 2, 3, 4, 5] rfl ?_
      exact w_X5_areSo_J62 C hr hlk n2 l2 hn2 g3 x1 x2 x4 1 M ih3 h
def f_X5_areSo_J36 (n2 : Nat) (l2 : Nat) (g3 : Int → Option Int) (x1 : Int) (x2 : Int) (x4 : Int) (M : Mem) : Option Int :=
  f_X5_areSo_J37 n2 l2 g3 x1 x2 x4 0 M
theorem w_X5_areSo_J36 (C : Cx syC p m c cX5_areSo 6 s args RX5 D ad cA) (hr : meth.sig.returnType = (some .boolean)) (hlk : meth.locks = false) (n2 : Nat) (l2 : Nat) (hn2 : syC.1 n2 = (2, l2)) (g3 : Int → Option Int) (x1 : Int) (x2 : Int) (x4 : Int) (M : Mem) (ih3 : ∀ (ux4 : Int) , g3 ux4  = some r0 → WM syC p l e rm_X5_areSo s m args below meth c 6 D ad cA (MQ below (q_Post syC D ad cA (some (.int (qI r0))) M) args s 0 0 (q_A syC ad)) M 3 [(0, .ref (ad 9)), (1, .int (qI x1)), (2, .int (qI x2)), (3, .ref (ad n2)), (4, .int (qI ux4))] []) (h : f_X5_areSo_J36 n2 l2 g3 x1 x2 x4 M = some r0) : WM syC p l e rm_X5_areSo s m args below meth c 6 D ad cA (MQ below (q_Post syC D ad cA (some (.int (qI r0))) M) args s 0 0 (q_A syC ad)) M 36 [(0, .ref (ad 9)), (1, .int (qI x1)), (2, .int (qI x2)), (3, .ref (ad n2)), (4, .int (qI x4))] [] := by
  unfold f_X5_areSo_J36 at h
  refine r_ic C dX5_areSo_36 ?_
  exact w_X5_areSo_J37 C hr hlk n2 l2 hn2 g3 x1 x2 x4 0 M ih3 h
def f_X5_areSo_B3 (n2 : Nat) (l2 : Nat) (x1 : Int) (x2 : Int) (M : Mem) (x4 : Int) (g3 : Int → Option Int) : Option Int :=
  q_gf M 9 3 fun v1 =>
  if w32 v1 ≤ w32 x4 then (some 1)
  else (if w32 (q_and x1 (q_shl 1 x4)) = 0 then (f_X5_areSo_J36 n2 l2 g3 x1 x2 x4 M)
  else (q_al M 320 24 x4 fun v2 =>
  if ¬ w32 v2 = w32 x2 then (f_X5_areSo_J36 n2 l2 g3 x1 x2 x4 M)
  else (f_X5_areSo_J37 n2 l2 g3 x1 x2 x4 1 M)))
def f_X5_areSo_L3 (n2 : Nat) (l2 : Nat) (x1 : Int) (x2 : Int) (M : Mem) (n : Nat) (x4 : Int) : Option Int := qlp1 (fun x4 g3 => f_X5_areSo_B3 n2 l2 x1 x2 M x4 g3) n x4
theorem w_X5_areSo_B3 (C : Cx syC p m c cX5_areSo 6 s args RX5 D ad cA) (hr : meth.sig.returnType = (some .boolean)) (hlk : meth.locks = false) (n2 : Nat) (l2 : Nat) (hn2 : syC.1 n2 = (2, l2)) (x1 : Int) (x2 : Int) (x4 : Int) (M : Mem) (g3 : Int → Option Int)  (ih3 : ∀ (ux4 : Int) , g3 ux4  = some r0 → WM syC p l e rm_X5_areSo s m args below meth c 6 D ad cA (MQ below (q_Post syC D ad cA (some (.int (qI r0))) M) args s 0 0 (q_A syC ad)) M 3 [(0, .ref (ad 9)), (1, .int (qI x1)), (2, .int (qI x2)), (3, .ref (ad n2)), (4, .int (qI ux4))] []) (h : f_X5_areSo_B3 n2 l2 x1 x2 M x4 g3 = some r0) : WM syC p l e rm_X5_areSo s m args below meth c 6 D ad cA (MQ below (q_Post syC D ad cA (some (.int (qI r0))) M) args s 0 0 (q_A syC ad)) M 3 [(0, .ref (ad 9)), (1, .int (qI x1)), (2, .int (qI x2)), (3, .ref (ad n2)), (4, .int (qI x4))] [] := by
  unfold f_X5_areSo_B3 at h
  refine r_il C dX5_areSo_3 (k := 4) rfl ?_
  refine r_aln C dX5_areSo_5 (k := 0) rfl ?_
  refine r_gf C kc_9 clX5 (f := 3) (by decide) rfl rfl rfl tf_RX5_21 dX5_areSo_6 h (fun v1 h => ?_)
  refine r_cge C (tgt := 88) dX5_areSo_9 (by decide) h (fun h => ?_) (fun h => ?_)
  · refine r_ic C dX5_areSo_88 ?_
    exact r_zretp C (by decide) hr hlk dX5_areSo_89 h
  · refine r_iln C dX5_areSo_12 (k := 1) rfl ?_
    refine r_ic C dX5_areSo_13 ?_
    refine r_il C dX5_areSo_14 (k := 4) rfl ?_
    refine r_ishl C dX5_areSo_16 ?_
    refine r_iand C dX5_areSo_17 ?_
    refine r_zeq C (tgt := 36) dX5_areSo_18 (by decide) h (fun h => ?_) (fun h => ?_)
    · exact w_X5_areSo_J36 C hr hlk n2 l2 hn2 g3 x1 x2 x4 M ih3 h
    · refine r_aln C dX5_areSo_21 (k := 0) rfl ?_
      refine r_gs C kc_9 clX5 (f := 0) (by decide) rfl (t := 320) rfl tf_RX5_9 dX5_areSo_22 ?_
      refine r_il C dX5_areSo_25 (k := 4) rfl ?_
      refine r_iald C kc_320 dX5_areSo_27 h (fun v2 h => ?_)
      refine r_iln C dX5_areSo_28 (k := 2) rfl ?_
      refine r_cne C (tgt := 36) dX5_areSo_29 (by decide) h (fun h => ?_) (fun h => ?_)
      · exact w_X5_areSo_J36 C hr hlk n2 l2 hn2 g3 x1 x2 x4 M ih3 h
      · refine r_ic C dX5_areSo_32 ?_
        refine r_goto C (tgt := 37) dX5_areSo_33 (by decide) ?_
        exact w_X5_areSo_J37 C hr hlk n2 l2 hn2 g3 x1 x2 x4 1 M ih3 h
theorem w_X5_areSo_L3 (C : Cx syC p m c cX5_areSo 6 s args RX5 D ad cA) (hr : meth.sig.returnType = (some .boolean)) (hlk : meth.locks = false) (n2 : Nat) (l2 : Nat) (hn2 : syC.1 n2 = (2, l2)) (x1 : Int) (x2 : Int) (M : Mem)  (n : Nat) (x4 : Int) (h : f_X5_areSo_L3 n2 l2 x1 x2 M n x4 = some r0) : WM syC p l e rm_X5_areSo s m args below meth c 6 D ad cA (MQ below (q_Post syC D ad cA (some (.int (qI r0))) M) args s 0 0 (q_A syC ad)) M 3 [(0, .ref (ad 9)), (1, .int (qI x1)), (2, .int (qI x2)), (3, .ref (ad n2)), (4, .int (qI x4))] [] :=
  qlp1_r (Wp := fun ux4 => WM syC p l e rm_X5_areSo s m args below meth c 6 D ad cA (MQ below (q_Post syC D ad cA (some (.int (qI r0))) M) args s 0 0 (q_A syC ad)) M 3 [(0, .ref (ad 9)), (1, .int (qI x1)), (2, .int (qI x2)), (3, .ref (ad n2)), (4, .int (qI ux4))] []) (fun ux4 g3 ih3 h => w_X5_areSo_B3 C hr hlk n2 l2 hn2 x1 x2 ux4 M g3  ih3 h) n x4 h
def f_X5_areSo (n2 : Nat) (l2 : Nat) (a0 : Int) (a1 : Int) (M : Mem) : Option Int :=
  f_X5_areSo_L3 n2 l2 a0 a1 M q_N 0
theorem c_X5_areSo {l : Launch} {D : va_G} {ad : Nat → Nat} {cA : Nat → ClassId} (hi : q_inj syC ad) (n2 : Nat) (l2 : Nat) (hn2 : syC.1 n2 = (2, l2)) (a0 : Int) (a1 : Int) (M : Mem) (r0 : Int) (h : f_X5_areSo n2 l2 a0 a1 M = some r0) : q_Met l syC D ad cA yX5_areSo cX5_areSo 6 (some .boolean) rm_X5_areSo [.ref (ad 9), .int (qI a0), .int (qI a1), .ref (ad n2)] M (some (.int (qI r0))) M := by
  refine q_met (L0 := [(0, .ref (ad 9)), (1, .int (qI a0)), (2, .int (qI a1)), (3, .ref (ad n2))]) hi okC (by decide) (Nat.le_of_ble_eq_true rfl) rfl ?_
  intro p e s m args below meth c C hr hlk
  unfold f_X5_areSo at h
  refine r_ic C dX5_areSo_0 ?_
  refine r_is C (L1 := [(4, .int (qI 0)), (0, .ref (ad 9)), (1, .int (qI a0)), (2, .int (qI a1)), (3, .ref (ad n2))]) dX5_areSo_1 (by decide) rfl ?_
  refine r_drop [1, 2, 3, 4, 0] rfl ?_
  exact w_X5_areSo_L3 C hr hlk n2 l2 hn2 a0 a1 M  q_N 0 h
abbrev rm_X5_clear : Room := { frames := 0, cells := 0, slots := 0, locals := 0 }
theorem mw_X5_clear : q_mw RX5 yX5_clear cX5_clear 1 none 0 := ⟨⟨ti_X5_clear, tl_X5_clear, tn_RX5, td_X5_clear⟩, by decide +kernel⟩
def f_X5_clear  (M : Mem) : Res :=
  q_pf M 9 3 0 fun M1 =>
  q_pf M1 9 4 (-1) fun M2 =>
  some (0, M2)
theorem c_X5_clear {l : Launch} {D : va_G} {ad : Nat → Nat} {cA : Nat → ClassId} (hi : q_inj syC ad)  (M : Mem) (r0 : Int) (M0 : Mem) (h : f_X5_clear  M = some (r0, M0)) : q_Met l syC D ad cA yX5_clear cX5_clear 1 none rm_X5_clear [.ref (ad 9)] M none M0 := by
  refine q_met (L0 := [(0, .ref (ad 9))]) hi okC (by decide) (Nat.le_of_ble_eq_true rfl) rfl ?_
  intro p e s m args below meth c C hr hlk
  unfold f_X5_clear at h
  refine r_aln C dX5_clear_0 (k := 0) rfl ?_
  refine r_ic C dX5_clear_1 ?_
  refine r_pf C kc_9 clX5 (f := 3) (by decide) rfl q_dI rfl rfl tf_RX5_21 dX5_clear_2 h (fun M1 h => ?_)
  refine r_aln C dX5_clear_5 (k := 0) rfl ?_
  refine r_ic C dX5_clear_6 ?_
  refine r_pf C kc_9 clX5 (f := 4) (by decide) rfl q_dI rfl rfl tf_RX5_25 dX5_clear_7 h (fun M2 h => ?_)
  exact r_vret C hr hlk dX5_clear_10 h
abbrev rm_X5_knownMany : Room := { frames := 0, cells := 0, slots := 0, locals := 0 }
theorem mw_X5_knownMany : q_mw RX5 yX5_knownMany cX5_knownMany 1 (some .int) 0 := ⟨⟨ti_X5_knownMany, tl_X5_knownMany, tn_RX5, td_X5_knownMany⟩, by decide +kernel⟩
def f_X5_knownMany  (M : Mem) : Option Int :=
  q_gf M 9 4 fun v1 =>
  if 0 ≤ w32 v1 then (q_gf M 9 4 fun v2 =>
  some v2)
  else (q_gf M 9 3 fun v3 =>
  some v3)
theorem c_X5_knownMany {l : Launch} {D : va_G} {ad : Nat → Nat} {cA : Nat → ClassId} (hi : q_inj syC ad)  (M : Mem) (r0 : Int) (h : f_X5_knownMany  M = some r0) : q_Met l syC D ad cA yX5_knownMany cX5_knownMany 1 (some .int) rm_X5_knownMany [.ref (ad 9)] M (some (.int (qI r0))) M := by
  refine q_met (L0 := [(0, .ref (ad 9))]) hi okC (by decide) (Nat.le_of_ble_eq_true rfl) rfl ?_
  intro p e s m args below meth c C hr hlk
  unfold f_X5_knownMany at h
  refine r_aln C dX5_knownMany_0 (k := 0) rfl ?_
  refine r_gf C kc_9 clX5 (f := 4) (by decide) rfl rfl rfl tf_RX5_25 dX5_knownMany_1 h (fun v1 h => ?_)
  refine r_zge C (tgt := 14) dX5_knownMany_4 (by decide) h (fun h => ?_) (fun h => ?_)
  · refine r_aln C dX5_knownMany_14 (k := 0) rfl ?_
    refine r_gf C kc_9 clX5 (f := 4) (by decide) rfl rfl rfl tf_RX5_25 dX5_knownMany_15 h (fun v2 h => ?_)
    exact r_iretp C hr hlk dX5_knownMany_18 h
  · refine r_aln C dX5_knownMany_7 (k := 0) rfl ?_
    refine r_gf C kc_9 clX5 (f := 3) (by decide) rfl rfl rfl tf_RX5_21 dX5_knownMany_8 h (fun v3 h => ?_)
    refine r_goto C (tgt := 18) dX5_knownMany_11 (by decide) ?_
    exact r_iretp C hr hlk dX5_knownMany_18 h
abbrev rm_X5_knownBits : Room := { frames := 1, cells := 0, slots := 0, locals := 23 }
theorem mw_X5_knownBits : q_mw RX5 yX5_knownBits cX5_knownBits 4 (some .int) 0 := ⟨⟨ti_X5_knownBits, tl_X5_knownBits, tn_RX5, td_X5_knownBits⟩, by decide +kernel⟩
def f_X5_knownBits_B18  (M : Mem) (x1 : Int) (x2 : Int) (x3 : Int) (g18 : Int → Int → Int → Option Int) : Option Int :=
  if w32 x3 < 0 then (some x2)
  else (if ¬ w32 (q_and x1 (q_shl 1 x3)) = 0 then (g18 x1 x2 (x3 + (-1)))
  else (q_al M 322 24 x3 fun v1 =>
  if ¬ w32 v1 = w32 2 then (g18 x1 (q_or x2 (q_shl 1 x3)) (x3 + (-1)))
  else (q_al M 321 24 x3 fun v2 =>
  g18 (q_or x1 (q_shl 1 v2)) x2 (x3 + (-1)))))
def f_X5_knownBits_L18  (M : Mem) (n : Nat) (x1 : Int) (x2 : Int) (x3 : Int) : Option Int := qlp3 (fun x1 x2 x3 g18 => f_X5_knownBits_B18  M x1 x2 x3 g18) n x1 x2 x3
theorem w_X5_knownBits_B18 (C : Cx syC p m c cX5_knownBits 4 s args RX5 D ad cA) (hr : meth.sig.returnType = (some .int)) (hlk : meth.locks = false)  (x1 : Int) (x2 : Int) (x3 : Int) (M : Mem) (g18 : Int → Int → Int → Option Int)  (ih18 : ∀ (ux1 ux2 ux3 : Int) , g18 ux1 ux2 ux3  = some r0 → WM syC p l e rm_X5_knownBits s m args below meth c 4 D ad cA (MQ below (q_Post syC D ad cA (some (.int (qI r0))) M) args s 0 0 (q_A syC ad)) M 18 [(0, .ref (ad 9)), (1, .int (qI ux1)), (2, .int (qI ux2)), (3, .int (qI ux3))] []) (h : f_X5_knownBits_B18  M x1 x2 x3 g18 = some r0) : WM syC p l e rm_X5_knownBits s m args below meth c 4 D ad cA (MQ below (q_Post syC D ad cA (some (.int (qI r0))) M) args s 0 0 (q_A syC ad)) M 18 [(0, .ref (ad 9)), (1, .int (qI x1)), (2, .int (qI x2)), (3, .int (qI x3))] [] := by
  unfold f_X5_knownBits_B18 at h
  refine r_iln C dX5_knownBits_18 (k := 3) rfl ?_
  refine r_zlt C (tgt := 66) dX5_knownBits_19 (by decide) h (fun h => ?_) (fun h => ?_)
  · refine r_iln C dX5_knownBits_66 (k := 2) rfl ?_
    exact r_iretp C hr hlk dX5_knownBits_67 h
  · refine r_iln C dX5_knownBits_22 (k := 1) rfl ?_
    refine r_ic C dX5_knownBits_23 ?_
    refine r_iln C dX5_knownBits_24 (k := 3) rfl ?_
    refine r_ishl C dX5_knownBits_25 ?_
    refine r_iand C dX5_knownBits_26 ?_
    refine r_zne C (tgt := 60) dX5_knownBits_27 (by decide) h (fun h => ?_) (fun h => ?_)
    · refine r_inc C (L1 := [(3, .int (qI (x3 + (-1)))), (0, .ref (ad 9)), (1, .int (qI x1)), (2, .int (qI x2))]) dX5_knownBits_60 (k := 3) rfl (by decide) rfl ?_
      refine r_goto C (tgt := 18) dX5_knownBits_63 (by decide) ?_
      refine r_drop [1, 2, 3, 0] rfl ?_
      exact ih18 x1 x2 (x3 + (-1))  h
    · refine r_aln C dX5_knownBits_30 (k := 0) rfl ?_
      refine r_gs C kc_9 clX5 (f := 2) (by decide) rfl (t := 322) rfl tf_RX5_18 dX5_knownBits_31 ?_
      refine r_iln C dX5_knownBits_34 (k := 3) rfl ?_
      refine r_iald C kc_322 dX5_knownBits_35 h (fun v1 h => ?_)
      refine r_ic C dX5_knownBits_36 ?_
      refine r_cne C (tgt := 54) dX5_knownBits_37 (by decide) h (fun h => ?_) (fun h => ?_)
      · refine r_iln C dX5_knownBits_54 (k := 2) rfl ?_
        refine r_ic C dX5_knownBits_55 ?_
        refine r_iln C dX5_knownBits_56 (k := 3) rfl ?_
        refine r_ishl C dX5_knownBits_57 ?_
        refine r_ior C dX5_knownBits_58 ?_
        refine r_isn C (L1 := [(2, .int (qI (q_or x2 (q_shl 1 x3)))), (0, .ref (ad 9)), (1, .int (qI x1)), (3, .int (qI x3))]) dX5_knownBits_59 (by decide) rfl ?_
        refine r_inc C (L1 := [(3, .int (qI (x3 + (-1)))), (2, .int (qI (q_or x2 (q_shl 1 x3)))), (0, .ref (ad 9)), (1, .int (qI x1))]) dX5_knownBits_60 (k := 3) rfl (by decide) rfl ?_
        refine r_goto C (tgt := 18) dX5_knownBits_63 (by decide) ?_
        refine r_drop [2, 3, 1, 0] rfl ?_
        exact ih18 x1 (q_or x2 (q_shl 1 x3)) (x3 + (-1))  h
      · refine r_iln C dX5_knownBits_40 (k := 1) rfl ?_
        refine r_ic C dX5_knownBits_41 ?_
        refine r_aln C dX5_knownBits_42 (k := 0) rfl ?_
        refine r_gs C kc_9 clX5 (f := 1) (by decide) rfl (t := 321) rfl tf_RX5_15 dX5_knownBits_43 ?_
        refine r_iln C dX5_knownBits_46 (k := 3) rfl ?_
        refine r_iald C kc_321 dX5_knownBits_47 h (fun v2 h => ?_)
        refine r_ishl C dX5_knownBits_48 ?_
        refine r_ior C dX5_knownBits_49 ?_
        refine r_isn C (L1 := [(1, .int (qI (q_or x1 (q_shl 1 v2)))), (0, .ref (ad 9)), (2, .int (qI x2)), (3, .int (qI x3))]) dX5_knownBits_50 (by decide) rfl ?_
        refine r_goto C (tgt := 60) dX5_knownBits_51 (by decide) ?_
        refine r_inc C (L1 := [(3, .int (qI (x3 + (-1)))), (1, .int (qI (q_or x1 (q_shl 1 v2)))), (0, .ref (ad 9)), (2, .int (qI x2))]) dX5_knownBits_60 (k := 3) rfl (by decide) rfl ?_
        refine r_goto C (tgt := 18) dX5_knownBits_63 (by decide) ?_
        refine r_drop [2, 1, 3, 0] rfl ?_
        exact ih18 (q_or x1 (q_shl 1 v2)) x2 (x3 + (-1))  h
theorem w_X5_knownBits_L18 (C : Cx syC p m c cX5_knownBits 4 s args RX5 D ad cA) (hr : meth.sig.returnType = (some .int)) (hlk : meth.locks = false)   (M : Mem)  (n : Nat) (x1 : Int) (x2 : Int) (x3 : Int) (h : f_X5_knownBits_L18  M n x1 x2 x3 = some r0) : WM syC p l e rm_X5_knownBits s m args below meth c 4 D ad cA (MQ below (q_Post syC D ad cA (some (.int (qI r0))) M) args s 0 0 (q_A syC ad)) M 18 [(0, .ref (ad 9)), (1, .int (qI x1)), (2, .int (qI x2)), (3, .int (qI x3))] [] :=
  qlp3_r (Wp := fun ux1 ux2 ux3 => WM syC p l e rm_X5_knownBits s m args below meth c 4 D ad cA (MQ below (q_Post syC D ad cA (some (.int (qI r0))) M) args s 0 0 (q_A syC ad)) M 18 [(0, .ref (ad 9)), (1, .int (qI ux1)), (2, .int (qI ux2)), (3, .int (qI ux3))] []) (fun ux1 ux2 ux3 g18 ih18 h => w_X5_knownBits_B18 C hr hlk  ux1 ux2 ux3 M g18  ih18 h) n x1 x2 x3 h
def f_X5_knownBits  (M : Mem) : Option Int :=
  q_calp (f_X5_knownMany  M) fun r1 =>
  q_gf M 9 3 fun v2 =>
  f_X5_knownBits_L18  M q_N 0 0 ((q_min r1 v2) - 1)
theorem c_X5_knownBits {l : Launch} {D : va_G} {ad : Nat → Nat} {cA : Nat → ClassId} (hi : q_inj syC ad)  (M : Mem) (r0 : Int) (h : f_X5_knownBits  M = some r0) : q_Met l syC D ad cA yX5_knownBits cX5_knownBits 4 (some .int) rm_X5_knownBits [.ref (ad 9)] M (some (.int (qI r0))) M := by
  refine q_met (L0 := [(0, .ref (ad 9))]) hi okC (by decide) (Nat.le_of_ble_eq_true rfl) rfl ?_
  intro p e s m args below meth c C hr hlk
  unfold f_X5_knownBits at h
  refine r_ic C dX5_knownBits_0 ?_
  refine r_isn C (L1 := [(1, .int (qI 0)), (0, .ref (ad 9))]) dX5_knownBits_1 (by decide) rfl ?_
  refine r_ic C dX5_knownBits_2 ?_
  refine r_isn C (L1 := [(2, .int (qI 0)), (1, .int (qI 0)), (0, .ref (ad 9))]) dX5_knownBits_3 (by decide) rfl ?_
  refine r_aln C dX5_knownBits_4 (k := 2) rfl ?_
  obtain ⟨r1, hy, h⟩ := q_calp_some h
  refine r_cvi C (st := []) (c_X5_knownMany C.2.2.1 M r1 hy) tm_RX5_28 mw_X5_knownMany ⟨rfl, rfl⟩ ⟨Nat.le_of_ble_eq_true rfl, Nat.le_of_ble_eq_true rfl⟩ kc_9 clX5 rfl rfl (Nat.le_of_ble_eq_true rfl) dX5_knownBits_5 ?_
  refine r_aln C dX5_knownBits_8 (k := 2) rfl ?_
  refine r_gf C kc_9 clX5 (f := 3) (by decide) rfl rfl rfl tf_RX5_21 dX5_knownBits_9 h (fun v2 h => ?_)
  refine r_q_min C (st := []) tm_RX5_32 ⟨Nat.le_of_ble_eq_true rfl, Nat.le_of_ble_eq_true rfl⟩ dX5_knownBits_12 ?_
  refine r_ic C dX5_knownBits_15 ?_
  refine r_isub C dX5_knownBits_16 ?_
  refine r_isn C (L1 := [(3, .int (qI ((q_min r1 v2) - 1))), (2, .int (qI 0)), (1, .int (qI 0)), (0, .ref (ad 9))]) dX5_knownBits_17 (by decide) rfl ?_
  refine r_drop [3, 2, 1, 0] rfl ?_
  exact w_X5_knownBits_L18 C hr hlk  M  q_N 0 0 ((q_min r1 v2) - 1) h
abbrev rm_X5_lastMinutes : Room := { frames := 1, cells := 0, slots := 0, locals := 23 }
theorem mw_X5_lastMinutes : q_mw RX5 yX5_lastMinutes cX5_lastMinutes 4 (some .int) 1 := ⟨⟨ti_X5_lastMinutes, tl_X5_lastMinutes, tn_RX5, td_X5_lastMinutes⟩, by decide +kernel⟩
def f_X5_lastMinutes_B4 (x1 : Int) (M : Mem) (x2 : Int) (x3 : Int) (g4 : Int → Int → Option Int) : Option Int :=
  q_gf M 9 3 fun v1 =>
  if w32 v1 ≤ w32 x3 then (some x2)
  else (if w32 (q_and x1 (q_shl 1 x3)) = 0 then (g4 x2 (x3 + 1))
  else (q_al M 320 24 x3 fun v2 =>
  g4 (q_max x2 v2) (x3 + 1)))
def f_X5_lastMinutes_L4 (x1 : Int) (M : Mem) (n : Nat) (x2 : Int) (x3 : Int) : Option Int := qlp2 (fun x2 x3 g4 => f_X5_lastMinutes_B4 x1 M x2 x3 g4) n x2 x3
theorem w_X5_lastMinutes_B4 (C : Cx syC p m c cX5_lastMinutes 4 s args RX5 D ad cA) (hr : meth.sig.returnType = (some .int)) (hlk : meth.locks = false)  (x1 : Int) (x2 : Int) (x3 : Int) (M : Mem) (g4 : Int → Int → Option Int)  (ih4 : ∀ (ux2 ux3 : Int) , g4 ux2 ux3  = some r0 → WM syC p l e rm_X5_lastMinutes s m args below meth c 4 D ad cA (MQ below (q_Post syC D ad cA (some (.int (qI r0))) M) args s 0 0 (q_A syC ad)) M 4 [(0, .ref (ad 9)), (1, .int (qI x1)), (2, .int (qI ux2)), (3, .int (qI ux3))] []) (h : f_X5_lastMinutes_B4 x1 M x2 x3 g4 = some r0) : WM syC p l e rm_X5_lastMinutes s m args below meth c 4 D ad cA (MQ below (q_Post syC D ad cA (some (.int (qI r0))) M) args s 0 0 (q_A syC ad)) M 4 [(0, .ref (ad 9)), (1, .int (qI x1)), (2, .int (qI x2)), (3, .int (qI x3))] [] := by
  unfold f_X5_lastMinutes_B4 at h
  refine r_iln C dX5_lastMinutes_4 (k := 3) rfl ?_
  refine r_aln C dX5_lastMinutes_5 (k := 0) rfl ?_
  refine r_gf C kc_9 clX5 (f := 3) (by decide) rfl rfl rfl tf_RX5_21 dX5_lastMinutes_6 h (fun v1 h => ?_)
  refine r_cge C (tgt := 37) dX5_lastMinutes_9 (by decide) h (fun h => ?_) (fun h => ?_)
  · refine r_iln C dX5_lastMinutes_37 (k := 2) rfl ?_
    exact r_iretp C hr hlk dX5_lastMinutes_38 h
  · refine r_iln C dX5_lastMinutes_12 (k := 1) rfl ?_
    refine r_ic C dX5_lastMinutes_13 ?_
    refine r_iln C dX5_lastMinutes_14 (k := 3) rfl ?_
    refine r_ishl C dX5_lastMinutes_15 ?_
    refine r_iand C dX5_lastMinutes_16 ?_
    refine r_zeq C (tgt := 31) dX5_lastMinutes_17 (by decide) h (fun h => ?_) (fun h => ?_)
    · refine r_inc C (L1 := [(3, .int (qI (x3 + 1))), (0, .ref (ad 9)), (1, .int (qI x1)), (2, .int (qI x2))]) dX5_lastMinutes_31 (k := 3) rfl (by decide) rfl ?_
      refine r_goto C (tgt := 4) dX5_lastMinutes_34 (by decide) ?_
      refine r_drop [1, 2, 3, 0] rfl ?_
      exact ih4 x2 (x3 + 1)  h
    · refine r_iln C dX5_lastMinutes_20 (k := 2) rfl ?_
      refine r_aln C dX5_lastMinutes_21 (k := 0) rfl ?_
      refine r_gs C kc_9 clX5 (f := 0) (by decide) rfl (t := 320) rfl tf_RX5_9 dX5_lastMinutes_22 ?_
      refine r_iln C dX5_lastMinutes_25 (k := 3) rfl ?_
      refine r_iald C kc_320 dX5_lastMinutes_26 h (fun v2 h => ?_)
      refine r_q_max C (st := []) tm_RX5_38 ⟨Nat.le_of_ble_eq_true rfl, Nat.le_of_ble_eq_true rfl⟩ dX5_lastMinutes_27 ?_
      refine r_isn C (L1 := [(2, .int (qI (q_max x2 v2))), (0, .ref (ad 9)), (1, .int (qI x1)), (3, .int (qI x3))]) dX5_lastMinutes_30 (by decide) rfl ?_
      refine r_inc C (L1 := [(3, .int (qI (x3 + 1))), (2, .int (qI (q_max x2 v2))), (0, .ref (ad 9)), (1, .int (qI x1))]) dX5_lastMinutes_31 (k := 3) rfl (by decide) rfl ?_
      refine r_goto C (tgt := 4) dX5_lastMinutes_34 (by decide) ?_
      refine r_drop [2, 3, 1, 0] rfl ?_
      exact ih4 (q_max x2 v2) (x3 + 1)  h
theorem w_X5_lastMinutes_L4 (C : Cx syC p m c cX5_lastMinutes 4 s args RX5 D ad cA) (hr : meth.sig.returnType = (some .int)) (hlk : meth.locks = false)  (x1 : Int) (M : Mem)  (n : Nat) (x2 : Int) (x3 : Int) (h : f_X5_lastMinutes_L4 x1 M n x2 x3 = some r0) : WM syC p l e rm_X5_lastMinutes s m args below meth c 4 D ad cA (MQ below (q_Post syC D ad cA (some (.int (qI r0))) M) args s 0 0 (q_A syC ad)) M 4 [(0, .ref (ad 9)), (1, .int (qI x1)), (2, .int (qI x2)), (3, .int (qI x3))] [] :=
  qlp2_r (Wp := fun ux2 ux3 => WM syC p l e rm_X5_lastMinutes s m args below meth c 4 D ad cA (MQ below (q_Post syC D ad cA (some (.int (qI r0))) M) args s 0 0 (q_A syC ad)) M 4 [(0, .ref (ad 9)), (1, .int (qI x1)), (2, .int (qI ux2)), (3, .int (qI ux3))] []) (fun ux2 ux3 g4 ih4 h => w_X5_lastMinutes_B4 C hr hlk x1 ux2 ux3 M g4  ih4 h) n x2 x3 h
def f_X5_lastMinutes (a0 : Int) (M : Mem) : Option Int :=
  f_X5_lastMinutes_L4 a0 M q_N 0 0
theorem c_X5_lastMinutes {l : Launch} {D : va_G} {ad : Nat → Nat} {cA : Nat → ClassId} (hi : q_inj syC ad) (a0 : Int) (M : Mem) (r0 : Int) (h : f_X5_lastMinutes a0 M = some r0) : q_Met l syC D ad cA yX5_lastMinutes cX5_lastMinutes 4 (some .int) rm_X5_lastMinutes [.ref (ad 9), .int (qI a0)] M (some (.int (qI r0))) M := by
  refine q_met (L0 := [(0, .ref (ad 9)), (1, .int (qI a0))]) hi okC (by decide) (Nat.le_of_ble_eq_true rfl) rfl ?_
  intro p e s m args below meth c C hr hlk
  unfold f_X5_lastMinutes at h
  refine r_ic C dX5_lastMinutes_0 ?_
  refine r_isn C (L1 := [(2, .int (qI 0)), (0, .ref (ad 9)), (1, .int (qI a0))]) dX5_lastMinutes_1 (by decide) rfl ?_
  refine r_ic C dX5_lastMinutes_2 ?_
  refine r_isn C (L1 := [(3, .int (qI 0)), (2, .int (qI 0)), (0, .ref (ad 9)), (1, .int (qI a0))]) dX5_lastMinutes_3 (by decide) rfl ?_
  refine r_drop [2, 3, 1, 0] rfl ?_
  exact w_X5_lastMinutes_L4 C hr hlk a0 M  q_N 0 0 h
abbrev rm_X6_begin : Room := { frames := 0, cells := 0, slots := 0, locals := 0 }
theorem mw_X6_begin : q_mw RX6 yX6_begin cX6_begin 4 none 2 := ⟨⟨ti_X6_begin, tl_X6_begin, tn_RX6, td_X6_begin⟩, by decide +kernel⟩
def f_X6_begin_J48 (k : Nat) (n0 : Nat) (l0 : Nat) (g17 : Int → Mem → Res) (x3 : Int) (y0 : Int) (y1 : Int) (M : Mem) : Res :=
  q_as M (32 * (k + 1) + 3) 8 y1 y0 fun M1 =>
  q_as M1 (32 * (k + 1) + 4) 8 x3 0 fun M2 =>
  q_as M2 (32 * (k + 1) + 5) 8 x3 0 fun M3 =>
  q_as M3 (32 * (k + 1) + 6) 8 x3 (-2) fun M4 =>
  q_as M4 (32 * (k + 1) + 7) 8 x3 (-2) fun M5 =>
  g17 (x3 + 1) M5
theorem w_X6_begin_J48 (C : Cx syC p m c cX6_begin 4 s args RX6 D ad cA) (hr : meth.sig.returnType = none) (hlk : meth.locks = false) (k : Nat) (n0 : Nat) (l0 : Nat) (hk : isS k) (hn0 : syC.1 n0 = (2, l0)) (g17 : Int → Mem → Res) (x3 : Int) (y0 : Int) (y1 : Int) (M : Mem) (ih17 : ∀ (ux3 : Int) (M : Mem), g17 ux3 M = some (r0, M0) → WM syC p l e rm_X6_begin s m args below meth c 4 D ad cA (MQ below (q_Post syC D ad cA none M0) args s 0 0 (q_A syC ad)) M 17 [(0, .ref (ad k)), (1, .ref (ad n0)), (3, .int (qI ux3))] []) (h : f_X6_begin_J48 k n0 l0 g17 x3 y0 y1 M = some (r0, M0)) : WM syC p l e rm_X6_begin s m args below meth c 4 D ad cA (MQ below (q_Post syC D ad cA none M0) args s 0 0 (q_A syC ad)) M 48 [(0, .ref (ad k)), (1, .ref (ad n0)), (3, .int (qI x3))] [.int (qI y0), .int (qI y1), .ref (ad (32 * (k + 1) + 3))] := by
  unfold f_X6_begin_J48 at h
  refine r_iast C (kS_3 hk) dX6_begin_48 h (fun M1 h => ?_)
  refine r_aln C dX6_begin_49 (k := 0) rfl ?_
  refine r_gs C (kS hk) clX6 (f := 4) (by decide) rfl (t := (32 * (k + 1) + 4)) rfl tf_RX6_25 dX6_begin_50 ?_
  refine r_iln C dX6_begin_53 (k := 2) rfl ?_
  refine r_ic C dX6_begin_54 ?_
  refine r_iast C (kS_4 hk) dX6_begin_55 h (fun M2 h => ?_)
  refine r_aln C dX6_begin_56 (k := 0) rfl ?_
  refine r_gs C (kS hk) clX6 (f := 5) (by decide) rfl (t := (32 * (k + 1) + 5)) rfl tf_RX6_28 dX6_begin_57 ?_
  refine r_iln C dX6_begin_60 (k := 2) rfl ?_
  refine r_ic C dX6_begin_61 ?_
  refine r_iast C (kS_5 hk) dX6_begin_62 h (fun M3 h => ?_)
  refine r_aln C dX6_begin_63 (k := 0) rfl ?_
  refine r_gs C (kS hk) clX6 (f := 6) (by decide) rfl (t := (32 * (k + 1) + 6)) rfl tf_RX6_31 dX6_begin_64 ?_
  refine r_iln C dX6_begin_67 (k := 2) rfl ?_
  refine r_bi C dX6_begin_68 (by decide) ?_
  refine r_iast C (kS_6 hk) dX6_begin_70 h (fun M4 h => ?_)
  refine r_aln C dX6_begin_71 (k := 0) rfl ?_
  refine r_gs C (kS hk) clX6 (f := 7) (by decide) rfl (t := (32 * (k + 1) + 7)) rfl tf_RX6_34 dX6_begin_72 ?_
  refine r_iln C dX6_begin_75 (k := 2) rfl ?_
  refine r_bi C dX6_begin_76 (by decide) ?_
  refine r_iast C (kS_7 hk) dX6_begin_78 h (fun M5 h => ?_)
  refine r_inc C (L1 := [(3, .int (qI (x3 + 1))), (0, .ref (ad k)), (1, .ref (ad n0))]) dX6_begin_79 (k := 2) rfl (by decide) rfl ?_
  refine r_goto C (tgt := 17) dX6_begin_82 (by decide) ?_
  refine r_drop [1, 2, 0] rfl ?_
  exact ih17 (x3 + 1) M5 h
def f_X6_begin_B17 (k : Nat) (n0 : Nat) (l0 : Nat) (x3 : Int) (M : Mem) (g17 : Int → Mem → Res) : Res :=
  if w32 8 ≤ w32 x3 then (some (0, M))
  else (q_as M (32 * (k + 1) + 2) 8 x3 0 fun M1 =>
  if w32 ((l0 : Nat) : Int) ≤ w32 x3 then (f_X6_begin_J48 k n0 l0 g17 x3 0 x3 M1)
  else (q_al M1 n0 l0 x3 fun v2 =>
  f_X6_begin_J48 k n0 l0 g17 x3 v2 x3 M1))
def f_X6_begin_L17 (k : Nat) (n0 : Nat) (l0 : Nat) (n : Nat) (x3 : Int) (M : Mem) : Res := qlm1 (fun x3 M g17 => f_X6_begin_B17 k n0 l0 x3 M g17) n x3 M
theorem w_X6_begin_B17 (C : Cx syC p m c cX6_begin 4 s args RX6 D ad cA) (hr : meth.sig.returnType = none) (hlk : meth.locks = false) (k : Nat) (n0 : Nat) (l0 : Nat) (hk : isS k) (hn0 : syC.1 n0 = (2, l0)) (x3 : Int) (M : Mem) (g17 : Int → Mem → Res)  (ih17 : ∀ (ux3 : Int) (M : Mem), g17 ux3 M = some (r0, M0) → WM syC p l e rm_X6_begin s m args below meth c 4 D ad cA (MQ below (q_Post syC D ad cA none M0) args s 0 0 (q_A syC ad)) M 17 [(0, .ref (ad k)), (1, .ref (ad n0)), (3, .int (qI ux3))] []) (h : f_X6_begin_B17 k n0 l0 x3 M g17 = some (r0, M0)) : WM syC p l e rm_X6_begin s m args below meth c 4 D ad cA (MQ below (q_Post syC D ad cA none M0) args s 0 0 (q_A syC ad)) M 17 [(0, .ref (ad k)), (1, .ref (ad n0)), (3, .int (qI x3))] [] := by
  unfold f_X6_begin_B17 at h
  refine r_iln C dX6_begin_17 (k := 2) rfl ?_
  refine r_bi C dX6_begin_18 (by decide) ?_
  refine r_cge C (tgt := 85) dX6_begin_20 (by decide) h (fun h => ?_) (fun h => ?_)
  · exact r_vret C hr hlk dX6_begin_85 h
  · refine r_aln C dX6_begin_23 (k := 0) rfl ?_
    refine r_gs C (kS hk) clX6 (f := 2) (by decide) rfl (t := (32 * (k + 1) + 2)) rfl tf_RX6_18 dX6_begin_24 ?_
    refine r_iln C dX6_begin_27 (k := 2) rfl ?_
    refine r_ic C dX6_begin_28 ?_
    refine r_iast C (kS_2 hk) dX6_begin_29 h (fun M1 h => ?_)
    refine r_aln C dX6_begin_30 (k := 0) rfl ?_
    refine r_gs C (kS hk) clX6 (f := 3) (by decide) rfl (t := (32 * (k + 1) + 3)) rfl tf_RX6_22 dX6_begin_31 ?_
    refine r_iln C dX6_begin_34 (k := 2) rfl ?_
    refine r_iln C dX6_begin_35 (k := 2) rfl ?_
    refine r_aln C dX6_begin_36 (k := 1) rfl ?_
    refine r_alen C hn0 (by decide) (by decide) (by decide) (t0 := 0) rfl dX6_begin_37 ?_
    refine r_cge C (tgt := 47) dX6_begin_38 (by decide) h (fun h => ?_) (fun h => ?_)
    · refine r_ic C dX6_begin_47 ?_
      exact w_X6_begin_J48 C hr hlk k n0 l0 hk hn0 g17 x3 0 x3 M1 ih17 h
    · refine r_aln C dX6_begin_41 (k := 1) rfl ?_
      refine r_iln C dX6_begin_42 (k := 2) rfl ?_
      refine r_iald C hn0 dX6_begin_43 h (fun v2 h => ?_)
      refine r_goto C (tgt := 48) dX6_begin_44 (by decide) ?_
      exact w_X6_begin_J48 C hr hlk k n0 l0 hk hn0 g17 x3 v2 x3 M1 ih17 h
theorem w_X6_begin_L17 (C : Cx syC p m c cX6_begin 4 s args RX6 D ad cA) (hr : meth.sig.returnType = none) (hlk : meth.locks = false) (k : Nat) (n0 : Nat) (l0 : Nat) (hk : isS k) (hn0 : syC.1 n0 = (2, l0))   (n : Nat) (x3 : Int) (M : Mem) (h : f_X6_begin_L17 k n0 l0 n x3 M = some (r0, M0)) : WM syC p l e rm_X6_begin s m args below meth c 4 D ad cA (MQ below (q_Post syC D ad cA none M0) args s 0 0 (q_A syC ad)) M 17 [(0, .ref (ad k)), (1, .ref (ad n0)), (3, .int (qI x3))] [] :=
  qlm1_r (Wp := fun ux3 M => WM syC p l e rm_X6_begin s m args below meth c 4 D ad cA (MQ below (q_Post syC D ad cA none M0) args s 0 0 (q_A syC ad)) M 17 [(0, .ref (ad k)), (1, .ref (ad n0)), (3, .int (qI ux3))] []) (fun ux3 M g17 ih17 h => w_X6_begin_B17 C hr hlk k n0 l0 hk hn0 ux3 M g17  ih17 h) n x3 M h
def f_X6_begin (k : Nat) (n0 : Nat) (l0 : Nat) (a1 : Int) (M : Mem) : Res :=
  q_pf M k 0 0 fun M1 =>
  q_pf M1 k 1 a1 fun M2 =>
  q_pf M2 k 9 0 fun M3 =>
  f_X6_begin_L17 k n0 l0 q_N 0 M3
theorem c_X6_begin {l : Launch} {D : va_G} {ad : Nat → Nat} {cA : Nat → ClassId} (hi : q_inj syC ad) (k : Nat) (n0 : Nat) (l0 : Nat) (hk : isS k) (hn0 : syC.1 n0 = (2, l0)) (a1 : Int) (M : Mem) (r0 : Int) (M0 : Mem) (h : f_X6_begin k n0 l0 a1 M = some (r0, M0)) : q_Met l syC D ad cA yX6_begin cX6_begin 4 none rm_X6_begin [.ref (ad k), .ref (ad n0), .int (qI a1)] M none M0 := by
  refine q_met (L0 := [(0, .ref (ad k)), (1, .ref (ad n0)), (2, .int (qI a1))]) hi okC (by decide) (Nat.le_of_ble_eq_true rfl) rfl ?_
  intro p e s m args below meth c C hr hlk
  unfold f_X6_begin at h
  refine r_aln C dX6_begin_0 (k := 0) rfl ?_
  refine r_ic C dX6_begin_1 ?_
  refine r_pf C (kS hk) clX6 (f := 0) (by decide) rfl q_dI rfl rfl tf_RX6_9 dX6_begin_2 h (fun M1 h => ?_)
  refine r_aln C dX6_begin_5 (k := 0) rfl ?_
  refine r_iln C dX6_begin_6 (k := 2) rfl ?_
  refine r_pf C (kS hk) clX6 (f := 1) (by decide) rfl q_dI rfl rfl tf_RX6_15 dX6_begin_7 h (fun M2 h => ?_)
  refine r_aln C dX6_begin_10 (k := 0) rfl ?_
  refine r_ic C dX6_begin_11 ?_
  refine r_pf C (kS hk) clX6 (f := 9) (by decide) rfl q_dI rfl rfl tf_RX6_40 dX6_begin_12 h (fun M3 h => ?_)
  refine r_ic C dX6_begin_15 ?_
  refine r_isn C (L1 := [(3, .int (qI 0)), (0, .ref (ad k)), (1, .ref (ad n0)), (2, .int (qI a1))]) dX6_begin_16 (by decide) rfl ?_
  refine r_drop [1, 2, 0] rfl ?_
  exact w_X6_begin_L17 C hr hlk k n0 l0 hk hn0  q_N 0 M3 h
abbrev rm_X6_copy : Room := { frames := 0, cells := 0, slots := 0, locals := 0 }
theorem mw_X6_copy : q_mw RX6 yX6_copy cX6_copy 3 none 1 := ⟨⟨ti_X6_copy, tl_X6_copy, tn_RX6, td_X6_copy⟩, by decide +kernel⟩
def f_X6_copy_B26 (k : Nat) (k0 : Nat) (x2 : Int) (M : Mem) (g26 : Int → Mem → Res) : Res :=
  if w32 8 ≤ w32 x2 then (some (0, M))
  else (q_al M (32 * (k0 + 1) + 2) 8 x2 fun v1 =>
  q_as M (32 * (k + 1) + 2) 8 x2 v1 fun M2 =>
  q_al M2 (32 * (k0 + 1) + 3) 8 x2 fun v3 =>
  q_as M2 (32 * (k + 1) + 3) 8 x2 v3 fun M4 =>
  q_al M4 (32 * (k0 + 1) + 4) 8 x2 fun v5 =>
  q_as M4 (32 * (k + 1) + 4) 8 x2 v5 fun M6 =>
  q_al M6 (32 * (k0 + 1) + 5) 8 x2 fun v7 =>
  q_as M6 (32 * (k + 1) + 5) 8 x2 v7 fun M8 =>
  q_al M8 (32 * (k0 + 1) + 6) 8 x2 fun v9 =>
  q_as M8 (32 * (k + 1) + 6) 8 x2 v9 fun M10 =>
  q_al M10 (32 * (k0 + 1) + 7) 8 x2 fun v11 =>
  q_as M10 (32 * (k + 1) + 7) 8 x2 v11 fun M12 =>
  q_al M12 (32 * (k0 + 1) + 8) 8 x2 fun v13 =>
  q_as M12 (32 * (k + 1) + 8) 8 x2 v13 fun M14 =>
  g26 (x2 + 1) M14)
def f_X6_copy_L26 (k : Nat) (k0 : Nat) (n : Nat) (x2 : Int) (M : Mem) : Res := qlm1 (fun x2 M g26 => f_X6_copy_B26 k k0 x2 M g26) n x2 M
theorem w_X6_copy_B26 (C : Cx syC p m c cX6_copy 3 s args RX6 D ad cA) (hr : meth.sig.returnType = none) (hlk : meth.locks = false) (k : Nat) (k0 : Nat) (hk : isS k) (hk0 : isS k0) (x2 : Int) (M : Mem) (g26 : Int → Mem → Res)  (ih26 : ∀ (ux2 : Int) (M : Mem), g26 ux2 M = some (r0, M0) → WM syC p l e rm_X6_copy s m args below meth c 3 D ad cA (MQ below (q_Post syC D ad cA none M0) args s 0 0 (q_A syC ad)) M 26 [(0, .ref (ad k)), (1, .ref (ad k0)), (2, .int (qI ux2))] []) (h : f_X6_copy_B26 k k0 x2 M g26 = some (r0, M0)) : WM syC p l e rm_X6_copy s m args below meth c 3 D ad cA (MQ below (q_Post syC D ad cA none M0) args s 0 0 (q_A syC ad)) M 26 [(0, .ref (ad k)), (1, .ref (ad k0)), (2, .int (qI x2))] [] := by
  unfold f_X6_copy_B26 at h
  refine r_iln C dX6_copy_26 (k := 2) rfl ?_
  refine r_bi C dX6_copy_27 (by decide) ?_
  refine r_cge C (tgt := 122) dX6_copy_29 (by decide) h (fun h => ?_) (fun h => ?_)
  · exact r_vret C hr hlk dX6_copy_122 h
  · refine r_aln C dX6_copy_32 (k := 0) rfl ?_
    refine r_gs C (kS hk) clX6 (f := 2) (by decide) rfl (t := (32 * (k + 1) + 2)) rfl tf_RX6_18 dX6_copy_33 ?_
    refine r_iln C dX6_copy_36 (k := 2) rfl ?_
    refine r_aln C dX6_copy_37 (k := 1) rfl ?_
    refine r_gs C (kS hk0) clX6 (f := 2) (by decide) rfl (t := (32 * (k0 + 1) + 2)) rfl tf_RX6_18 dX6_copy_38 ?_
    refine r_iln C dX6_copy_41 (k := 2) rfl ?_
    refine r_iald C (kS_2 hk0) dX6_copy_42 h (fun v1 h => ?_)
    refine r_iast C (kS_2 hk) dX6_copy_43 h (fun M2 h => ?_)
    refine r_aln C dX6_copy_44 (k := 0) rfl ?_
    refine r_gs C (kS hk) clX6 (f := 3) (by decide) rfl (t := (32 * (k + 1) + 3)) rfl tf_RX6_22 dX6_copy_45 ?_
    refine r_iln C dX6_copy_48 (k := 2) rfl ?_
    refine r_aln C dX6_copy_49 (k := 1) rfl ?_
    refine r_gs C (kS hk0) clX6 (f := 3) (by decide) rfl (t := (32 * (k0 + 1) + 3)) rfl tf_RX6_22 dX6_copy_50 ?_
    refine r_iln C dX6_copy_53 (k := 2) rfl ?_
    refine r_iald C (kS_3 hk0) dX6_copy_54 h (fun v3 h => ?_)
    refine r_iast C (kS_3 hk) dX6_copy_55 h (fun M4 h => ?_)
    refine r_aln C dX6_copy_56 (k := 0) rfl ?_
    refine r_gs C (kS hk) clX6 (f := 4) (by decide) rfl (t := (32 * (k + 1) + 4)) rfl tf_RX6_25 dX6_copy_57 ?_
    refine r_iln C dX6_copy_60 (k := 2) rfl ?_
    refine r_aln C dX6_copy_61 (k := 1) rfl ?_
    refine r_gs C (kS hk0) clX6 (f := 4) (by decide) rfl (t := (32 * (k0 + 1) + 4)) rfl tf_RX6_25 dX6_copy_62 ?_
    refine r_iln C dX6_copy_65 (k := 2) rfl ?_
    refine r_iald C (kS_4 hk0) dX6_copy_66 h (fun v5 h => ?_)
    refine r_iast C (kS_4 hk) dX6_copy_67 h (fun M6 h => ?_)
    refine r_aln C dX6_copy_68 (k := 0) rfl ?_
    refine r_gs C (kS hk) clX6 (f := 5) (by decide) rfl (t := (32 * (k + 1) + 5)) rfl tf_RX6_28 dX6_copy_69 ?_
    refine r_iln C dX6_copy_72 (k := 2) rfl ?_
    refine r_aln C dX6_copy_73 (k := 1) rfl ?_
    refine r_gs C (kS hk0) clX6 (f := 5) (by decide) rfl (t := (32 * (k0 + 1) + 5)) rfl tf_RX6_28 dX6_copy_74 ?_
    refine r_iln C dX6_copy_77 (k := 2) rfl ?_
    refine r_iald C (kS_5 hk0) dX6_copy_78 h (fun v7 h => ?_)
    refine r_iast C (kS_5 hk) dX6_copy_79 h (fun M8 h => ?_)
    refine r_aln C dX6_copy_80 (k := 0) rfl ?_
    refine r_gs C (kS hk) clX6 (f := 6) (by decide) rfl (t := (32 * (k + 1) + 6)) rfl tf_RX6_31 dX6_copy_81 ?_
    refine r_iln C dX6_copy_84 (k := 2) rfl ?_
    refine r_aln C dX6_copy_85 (k := 1) rfl ?_
    refine r_gs C (kS hk0) clX6 (f := 6) (by decide) rfl (t := (32 * (k0 + 1) + 6)) rfl tf_RX6_31 dX6_copy_86 ?_
    refine r_iln C dX6_copy_89 (k := 2) rfl ?_
    refine r_iald C (kS_6 hk0) dX6_copy_90 h (fun v9 h => ?_)
    refine r_iast C (kS_6 hk) dX6_copy_91 h (fun M10 h => ?_)
    refine r_aln C dX6_copy_92 (k := 0) rfl ?_
    refine r_gs C (kS hk) clX6 (f := 7) (by decide) rfl (t := (32 * (k + 1) + 7)) rfl tf_RX6_34 dX6_copy_93 ?_
    refine r_iln C dX6_copy_96 (k := 2) rfl ?_
    refine r_aln C dX6_copy_97 (k := 1) rfl ?_
    refine r_gs C (kS hk0) clX6 (f := 7) (by decide) rfl (t := (32 * (k0 + 1) + 7)) rfl tf_RX6_34 dX6_copy_98 ?_
    refine r_iln C dX6_copy_101 (k := 2) rfl ?_
    refine r_iald C (kS_7 hk0) dX6_copy_102 h (fun v11 h => ?_)
    refine r_iast C (kS_7 hk) dX6_copy_103 h (fun M12 h => ?_)
    refine r_aln C dX6_copy_104 (k := 0) rfl ?_
    refine r_gs C (kS hk) clX6 (f := 8) (by decide) rfl (t := (32 * (k + 1) + 8)) rfl tf_RX6_37 dX6_copy_105 ?_
    refine r_iln C dX6_copy_108 (k := 2) rfl ?_
    refine r_aln C dX6_copy_109 (k := 1) rfl ?_
    refine r_gs C (kS hk0) clX6 (f := 8) (by decide) rfl (t := (32 * (k0 + 1) + 8)) rfl tf_RX6_37 dX6_copy_110 ?_
    refine r_iln C dX6_copy_113 (k := 2) rfl ?_
    refine r_iald C (kS_8 hk0) dX6_copy_114 h (fun v13 h => ?_)
    refine r_iast C (kS_8 hk) dX6_copy_115 h (fun M14 h => ?_)
    refine r_inc C (L1 := [(2, .int (qI (x2 + 1))), (0, .ref (ad k)), (1, .ref (ad k0))]) dX6_copy_116 (k := 2) rfl (by decide) rfl ?_
    refine r_goto C (tgt := 26) dX6_copy_119 (by decide) ?_
    refine r_drop [1, 2, 0] rfl ?_
    exact ih26 (x2 + 1) M14 h
theorem w_X6_copy_L26 (C : Cx syC p m c cX6_copy 3 s args RX6 D ad cA) (hr : meth.sig.returnType = none) (hlk : meth.locks = false) (k : Nat) (k0 : Nat) (hk : isS k) (hk0 : isS k0)   (n : Nat) (x2 : Int) (M : Mem) (h : f_X6_copy_L26 k k0 n x2 M = some (r0, M0)) : WM syC p l e rm_X6_copy s m args below meth c 3 D ad cA (MQ below (q_Post syC D ad cA none M0) args s 0 0 (q_A syC ad)) M 26 [(0, .ref (ad k)), (1, .ref (ad k0)), (2, .int (qI x2))] [] :=
  qlm1_r (Wp := fun ux2 M => WM syC p l e rm_X6_copy s m args below meth c 3 D ad cA (MQ below (q_Post syC D ad cA none M0) args s 0 0 (q_A syC ad)) M 26 [(0, .ref (ad k)), (1, .ref (ad k0)), (2, .int (qI ux2))] []) (fun ux2 M g26 ih26 h => w_X6_copy_B26 C hr hlk k k0 hk hk0 ux2 M g26  ih26 h) n x2 M h
def f_X6_copy (k : Nat) (k0 : Nat) (M : Mem) : Res :=
  q_gf M k0 0 fun v1 =>
  q_pf M k 0 v1 fun M2 =>
  q_gf M2 k0 1 fun v3 =>
  q_pf M2 k 1 v3 fun M4 =>
  q_gf M4 k0 9 fun v5 =>
  q_pf M4 k 9 v5 fun M6 =>
  f_X6_copy_L26 k k0 q_N 0 M6
theorem c_X6_copy {l : Launch} {D : va_G} {ad : Nat → Nat} {cA : Nat → ClassId} (hi : q_inj syC ad) (k : Nat) (k0 : Nat) (hk : isS k) (hk0 : isS k0) (M : Mem) (r0 : Int) (M0 : Mem) (h : f_X6_copy k k0 M = some (r0, M0)) : q_Met l syC D ad cA yX6_copy cX6_copy 3 none rm_X6_copy [.ref (ad k), .ref (ad k0)] M none M0 := by
  refine q_met (L0 := [(0, .ref (ad k)), (1, .ref (ad k0))]) hi okC (by decide) (Nat.le_of_ble_eq_true rfl) rfl ?_
  intro p e s m args below meth c C hr hlk
  unfold f_X6_copy at h
  refine r_aln C dX6_copy_0 (k := 0) rfl ?_
  refine r_aln C dX6_copy_1 (k := 1) rfl ?_
  refine r_gf C (kS hk0) clX6 (f := 0) (by decide) rfl rfl rfl tf_RX6_9 dX6_copy_2 h (fun v1 h => ?_)
  refine r_pf C (kS hk) clX6 (f := 0) (by decide) rfl q_dI rfl rfl tf_RX6_9 dX6_copy_5 h (fun M2 h => ?_)
  refine r_aln C dX6_copy_8 (k := 0) rfl ?_
  refine r_aln C dX6_copy_9 (k := 1) rfl ?_
  refine r_gf C (kS hk0) clX6 (f := 1) (by decide) rfl rfl rfl tf_RX6_15 dX6_copy_10 h (fun v3 h => ?_)
  refine r_pf C (kS hk) clX6 (f := 1) (by decide) rfl q_dI rfl rfl tf_RX6_15 dX6_copy_13 h (fun M4 h => ?_)
  refine r_aln C dX6_copy_16 (k := 0) rfl ?_
  refine r_aln C dX6_copy_17 (k := 1) rfl ?_
  refine r_gf C (kS hk0) clX6 (f := 9) (by decide) rfl rfl rfl tf_RX6_40 dX6_copy_18 h (fun v5 h => ?_)
  refine r_pf C (kS hk) clX6 (f := 9) (by decide) rfl q_dI rfl rfl tf_RX6_40 dX6_copy_21 h (fun M6 h => ?_)
  refine r_ic C dX6_copy_24 ?_
  refine r_isn C (L1 := [(2, .int (qI 0)), (0, .ref (ad k)), (1, .ref (ad k0))]) dX6_copy_25 (by decide) rfl ?_
  refine r_drop [1, 2, 0] rfl ?_
  exact w_X6_copy_L26 C hr hlk k k0 hk hk0  q_N 0 M6 h
abbrev rm_X6_howMany : Room := { frames := 0, cells := 0, slots := 0, locals := 0 }
theorem mw_X6_howMany : q_mw RX6 yX6_howMany cX6_howMany 5 (some .int) 2 := ⟨⟨ti_X6_howMany, tl_X6_howMany, tn_RX6, td_X6_howMany⟩, by decide +kernel⟩
def f_X6_howMany_B5 (k : Nat) (x1 : Int) (x2 : Int) (M : Mem) (x3 : Int) (x4 : Int) (g5 : Int → Int → Option Int) : Option Int :=
  if w32 x2 ≤ w32 x4 then (some x3)
  else (if w32 8 ≤ w32 x4 then (some x3)
  else (q_al M (32 * (k + 1) + 2) 8 x4 fun v1 =>
  if ¬ w32 v1 = w32 x1 then (g5 x3 (x4 + 1))
  else (g5 (x3 + 1) (x4 + 1))))
def f_X6_howMany_L5 (k : Nat) (x1 : Int) (x2 : Int) (M : Mem) (n : Nat) (x3 : Int) (x4 : Int) : Option Int := qlp2 (fun x3 x4 g5 => f_X6_howMany_B5 k x1 x2 M x3 x4 g5) n x3 x4
theorem w_X6_howMany_B5 (C : Cx syC p m c cX6_howMany 5 s args RX6 D ad cA) (hr : meth.sig.returnType = (some .int)) (hlk : meth.locks = false) (k : Nat) (hk : isS k) (x1 : Int) (x2 : Int) (x3 : Int) (x4 : Int) (M : Mem) (g5 : Int → Int → Option Int)  (ih5 : ∀ (ux3 ux4 : Int) , g5 ux3 ux4  = some r0 → WM syC p l e rm_X6_howMany s m args below meth c 5 D ad cA (MQ below (q_Post syC D ad cA (some (.int (qI r0))) M) args s 0 0 (q_A syC ad)) M 5 [(0, .ref (ad k)), (1, .int (qI x1)), (2, .int (qI x2)), (3, .int (qI ux3)), (4, .int (qI ux4))] []) (h : f_X6_howMany_B5 k x1 x2 M x3 x4 g5 = some r0) : WM syC p l e rm_X6_howMany s m args below meth c 5 D ad cA (MQ below (q_Post syC D ad cA (some (.int (qI r0))) M) args s 0 0 (q_A syC ad)) M 5 [(0, .ref (ad k)), (1, .int (qI x1)), (2, .int (qI x2)), (3, .int (qI x3)), (4, .int (qI x4))] [] := by
  unfold f_X6_howMany_B5 at h
  refine r_il C dX6_howMany_5 (k := 4) rfl ?_
  refine r_iln C dX6_howMany_7 (k := 2) rfl ?_
  refine r_cge C (tgt := 38) dX6_howMany_8 (by decide) h (fun h => ?_) (fun h => ?_)
  · refine r_iln C dX6_howMany_38 (k := 3) rfl ?_
    exact r_iretp C hr hlk dX6_howMany_39 h
  · refine r_il C dX6_howMany_11 (k := 4) rfl ?_
    refine r_bi C dX6_howMany_13 (by decide) ?_
    refine r_cge C (tgt := 38) dX6_howMany_15 (by decide) h (fun h => ?_) (fun h => ?_)
    · refine r_iln C dX6_howMany_38 (k := 3) rfl ?_
      exact r_iretp C hr hlk dX6_howMany_39 h
    · refine r_aln C dX6_howMany_18 (k := 0) rfl ?_
      refine r_gs C (kS hk) clX6 (f := 2) (by decide) rfl (t := (32 * (k + 1) + 2)) rfl tf_RX6_18 dX6_howMany_19 ?_
      refine r_il C dX6_howMany_22 (k := 4) rfl ?_
      refine r_iald C (kS_2 hk) dX6_howMany_24 h (fun v1 h => ?_)
      refine r_iln C dX6_howMany_25 (k := 1) rfl ?_
      refine r_cne C (tgt := 32) dX6_howMany_26 (by decide) h (fun h => ?_) (fun h => ?_)
      · refine r_inc C (L1 := [(4, .int (qI (x4 + 1))), (0, .ref (ad k)), (1, .int (qI x1)), (2, .int (qI x2)), (3, .int (qI x3))]) dX6_howMany_32 (k := 4) rfl (by decide) rfl ?_
        refine r_goto C (tgt := 5) dX6_howMany_35 (by decide) ?_
        refine r_drop [1, 2, 3, 4, 0] rfl ?_
        exact ih5 x3 (x4 + 1)  h
      · refine r_inc C (L1 := [(3, .int (qI (x3 + 1))), (0, .ref (ad k)), (1, .int (qI x1)), (2, .int (qI x2)), (4, .int (qI x4))]) dX6_howMany_29 (k := 3) rfl (by decide) rfl ?_
        refine r_inc C (L1 := [(4, .int (qI (x4 + 1))), (3, .int (qI (x3 + 1))), (0, .ref (ad k)), (1, .int (qI x1)), (2, .int (qI x2))]) dX6_howMany_32 (k := 4) rfl (by decide) rfl ?_
        refine r_goto C (tgt := 5) dX6_howMany_35 (by decide) ?_
        refine r_drop [2, 3, 4, 1, 0] rfl ?_
        exact ih5 (x3 + 1) (x4 + 1)  h
theorem w_X6_howMany_L5 (C : Cx syC p m c cX6_howMany 5 s args RX6 D ad cA) (hr : meth.sig.returnType = (some .int)) (hlk : meth.locks = false) (k : Nat) (hk : isS k) (x1 : Int) (x2 : Int) (M : Mem)  (n : Nat) (x3 : Int) (x4 : Int) (h : f_X6_howMany_L5 k x1 x2 M n x3 x4 = some r0) : WM syC p l e rm_X6_howMany s m args below meth c 5 D ad cA (MQ below (q_Post syC D ad cA (some (.int (qI r0))) M) args s 0 0 (q_A syC ad)) M 5 [(0, .ref (ad k)), (1, .int (qI x1)), (2, .int (qI x2)), (3, .int (qI x3)), (4, .int (qI x4))] [] :=
  qlp2_r (Wp := fun ux3 ux4 => WM syC p l e rm_X6_howMany s m args below meth c 5 D ad cA (MQ below (q_Post syC D ad cA (some (.int (qI r0))) M) args s 0 0 (q_A syC ad)) M 5 [(0, .ref (ad k)), (1, .int (qI x1)), (2, .int (qI x2)), (3, .int (qI ux3)), (4, .int (qI ux4))] []) (fun ux3 ux4 g5 ih5 h => w_X6_howMany_B5 C hr hlk k hk x1 x2 ux3 ux4 M g5  ih5 h) n x3 x4 h
def f_X6_howMany (k : Nat) (a0 : Int) (a1 : Int) (M : Mem) : Option Int :=
  f_X6_howMany_L5 k a0 a1 M q_N 0 0
theorem c_X6_howMany {l : Launch} {D : va_G} {ad : Nat → Nat} {cA : Nat → ClassId} (hi : q_inj syC ad) (k : Nat) (hk : isS k) (a0 : Int) (a1 : Int) (M : Mem) (r0 : Int) (h : f_X6_howMany k a0 a1 M = some r0) : q_Met l syC D ad cA yX6_howMany cX6_howMany 5 (some .int) rm_X6_howMany [.ref (ad k), .int (qI a0), .int (qI a1)] M (some (.int (qI r0))) M := by
  refine q_met (L0 := [(0, .ref (ad k)), (1, .int (qI a0)), (2, .int (qI a1))]) hi okC (by decide) (Nat.le_of_ble_eq_true rfl) rfl ?_
  intro p e s m args below meth c C hr hlk
  unfold f_X6_howMany at h
  refine r_ic C dX6_howMany_0 ?_
  refine r_isn C (L1 := [(3, .int (qI 0)), (0, .ref (ad k)), (1, .int (qI a0)), (2, .int (qI a1))]) dX6_howMany_1 (by decide) rfl ?_
  refine r_ic C dX6_howMany_2 ?_
  refine r_is C (L1 := [(4, .int (qI 0)), (3, .int (qI 0)), (0, .ref (ad k)), (1, .int (qI a0)), (2, .int (qI a1))]) dX6_howMany_3 (by decide) rfl ?_
  refine r_drop [2, 3, 4, 1, 0] rfl ?_
  exact w_X6_howMany_L5 C hr hlk k hk a0 a1 M  q_N 0 0 h
abbrev rm_X9_isSoul : Room := { frames := 0, cells := 0, slots := 0, locals := 0 }
theorem mw_X9_isSoul : q_mw RX9 yX9_isSoul cX9_isSoul 2 (some .boolean) 1 := ⟨⟨ti_X9_isSoul, tl_X9_isSoul, tn_RX9, td_X9_isSoul⟩, by decide +kernel⟩
def f_X9_isSoul (a0 : Int) (M : Mem) : Option Int :=
  if w32 a0 < 0 then (some 0)
  else (q_gr M 0 3 fun t1 =>
  q_gf M t1 0 fun v2 =>
  if w32 v2 ≤ w32 a0 then (some 0)
  else (some 1))
theorem c_X9_isSoul {l : Launch} {D : va_G} {ad : Nat → Nat} {cA : Nat → ClassId} (hi : q_inj syC ad) (a0 : Int) (M : Mem) (r0 : Int) (h : f_X9_isSoul a0 M = some r0) : q_Met l syC D ad cA yX9_isSoul cX9_isSoul 2 (some .boolean) rm_X9_isSoul [.ref (ad 0), .int (qI a0)] M (some (.int (qI r0))) M := by
  refine q_met (L0 := [(0, .ref (ad 0)), (1, .int (qI a0))]) hi okC (by decide) (Nat.le_of_ble_eq_true rfl) rfl ?_
  intro p e s m args below meth c C hr hlk
  unfold f_X9_isSoul at h
  refine r_iln C dX9_isSoul_0 (k := 1) rfl ?_
  refine r_zlt C (tgt := 19) dX9_isSoul_1 (by decide) h (fun h => ?_) (fun h => ?_)
  · refine r_ic C dX9_isSoul_19 ?_
    exact r_zretp C (by decide) hr hlk dX9_isSoul_20 h
  · refine r_iln C dX9_isSoul_4 (k := 1) rfl ?_
    refine r_aln C dX9_isSoul_5 (k := 0) rfl ?_
    refine r_gr C kc_0 clX9 (f := 3) (fz := 3) (Pp := isT) (by decide) rfl rfl (fun q => q.1) tf_RX9_31 dX9_isSoul_6 h (fun t1 ht1 h => ?_)
    refine r_gf C (kT ht1) clX8 (f := 0) (by decide) rfl rfl rfl tf_RX9_125 dX9_isSoul_9 h (fun v2 h => ?_)
    refine r_cge C (tgt := 19) dX9_isSoul_12 (by decide) h (fun h => ?_) (fun h => ?_)
    · refine r_ic C dX9_isSoul_19 ?_
      exact r_zretp C (by decide) hr hlk dX9_isSoul_20 h
    · refine r_ic C dX9_isSoul_15 ?_
      refine r_goto C (tgt := 20) dX9_isSoul_16 (by decide) ?_
      exact r_zretp C (by decide) hr hlk dX9_isSoul_20 h
abbrev rm_X9_tryFromNow : Room := { frames := 1, cells := 0, slots := 0, locals := 22 }
theorem mw_X9_tryFromNow : q_mw RX9 yX9_tryFromNow cX9_tryFromNow 1 none 0 := ⟨⟨ti_X9_tryFromNow, tl_X9_tryFromNow, tn_RX9, td_X9_tryFromNow⟩, by decide +kernel⟩
def f_X9_tryFromNow  (M : Mem) : Res :=
  q_call (f_X6_copy 5 4 M) fun r1 M2 =>
  q_gr M2 0 3 fun t3 =>
  q_call (f_X3_ready t3 5 M2) fun r4 M5 =>
  some (0, M5)
theorem c_X9_tryFromNow {l : Launch} {D : va_G} {ad : Nat → Nat} {cA : Nat → ClassId} (hi : q_inj syC ad)  (M : Mem) (r0 : Int) (M0 : Mem) (h : f_X9_tryFromNow  M = some (r0, M0)) : q_Met l syC D ad cA yX9_tryFromNow cX9_tryFromNow 1 none rm_X9_tryFromNow [.ref (ad 0)] M none M0 := by
  refine q_met (L0 := [(0, .ref (ad 0))]) hi okC (by decide) (Nat.le_of_ble_eq_true rfl) rfl ?_
  intro p e s m args below meth c C hr hlk
  unfold f_X9_tryFromNow at h
  refine r_aln C dX9_tryFromNow_0 (k := 0) rfl ?_
  refine r_gs C kc_0 clX9 (f := 5) (by decide) rfl (t := 5) rfl tf_RX9_42 dX9_tryFromNow_1 ?_
  refine r_aln C dX9_tryFromNow_4 (k := 0) rfl ?_
  refine r_gs C kc_0 clX9 (f := 4) (by decide) rfl (t := 4) rfl tf_RX9_38 dX9_tryFromNow_5 ?_
  obtain ⟨r1, M2, hy, h⟩ := q_call_some h
  refine r_cvv C (st := []) (c_X6_copy C.2.2.1 5 4 (by unfold isS; omega) (by unfold isS; omega) M r1 M2 hy) tm_RX9_254 mw_X6_copy ⟨rfl, rfl⟩ ⟨Nat.le_of_ble_eq_true rfl, Nat.le_of_ble_eq_true rfl⟩ kc_5 clX6 rfl rfl (Nat.le_of_ble_eq_true rfl) dX9_tryFromNow_8 ?_
  refine r_aln C dX9_tryFromNow_11 (k := 0) rfl ?_
  refine r_gs C kc_0 clX9 (f := 8) (by decide) rfl (t := 7) rfl tf_RX9_57 dX9_tryFromNow_12 ?_
  refine r_aln C dX9_tryFromNow_15 (k := 0) rfl ?_
  refine r_gr C kc_0 clX9 (f := 3) (fz := 3) (Pp := isT) (by decide) rfl rfl (fun q => q.1) tf_RX9_31 dX9_tryFromNow_16 h (fun t3 ht3 h => ?_)
  refine r_aln C dX9_tryFromNow_19 (k := 0) rfl ?_
  refine r_gs C kc_0 clX9 (f := 5) (by decide) rfl (t := 5) rfl tf_RX9_42 dX9_tryFromNow_20 ?_
  obtain ⟨r4, M5, hy, h⟩ := q_call_some h
  refine r_cvv C (st := []) (c_X3_ready C.2.2.1 t3 5 ht3 (by unfold isS; omega) M2 r4 M5 hy) tm_RX9_208 mw_X3_ready ⟨rfl, rfl⟩ ⟨Nat.le_of_ble_eq_true rfl, Nat.le_of_ble_eq_true rfl⟩ kc_7 clX3 rfl rfl (Nat.le_of_ble_eq_true rfl) dX9_tryFromNow_23 ?_
  exact r_vret C hr hlk dX9_tryFromNow_26 h
abbrev rm_X9_kindnessGone : Room := { frames := 0, cells := 0, slots := 0, locals := 0 }
theorem mw_X9_kindnessGone : q_mw RX9 yX9_kindnessGone cX9_kindnessGone 4 (some .int) 1 := ⟨⟨ti_X9_kindnessGone, tl_X9_kindnessGone, tn_RX9, td_X9_kindnessGone⟩, by decide +kernel⟩
def f_X9_kindnessGone_B4 (k0 : Nat) (M : Mem) (x2 : Int) (x3 : Int) (g4 : Int → Int → Option Int) : Option Int :=
  q_gr M 0 3 fun t1 =>
  q_gf M t1 0 fun v2 =>
  if w32 v2 ≤ w32 x3 then (some x2)
  else (q_al M (32 * (k0 + 1) + 2) 8 x3 fun v3 =>
  if ¬ w32 v3 = w32 2 then (g4 x2 (x3 + 1))
  else (q_gr M 0 3 fun t4 =>
  q_al M (32 * (t4 + 1) + 3) 8 x3 fun v5 =>
  g4 (x2 + v5) (x3 + 1)))
def f_X9_kindnessGone_L4 (k0 : Nat) (M : Mem) (n : Nat) (x2 : Int) (x3 : Int) : Option Int := qlp2 (fun x2 x3 g4 => f_X9_kindnessGone_B4 k0 M x2 x3 g4) n x2 x3
theorem w_X9_kindnessGone_B4 (C : Cx syC p m c cX9_kindnessGone 4 s args RX9 D ad cA) (hr : meth.sig.returnType = (some .int)) (hlk : meth.locks = false) (k0 : Nat) (hk0 : isS k0) (x2 : Int) (x3 : Int) (M : Mem) (g4 : Int → Int → Option Int)  (ih4 : ∀ (ux2 ux3 : Int) , g4 ux2 ux3  = some r0 → WM syC p l e rm_X9_kindnessGone s m args below meth c 4 D ad cA (MQ below (q_Post syC D ad cA (some (.int (qI r0))) M) args s 0 0 (q_A syC ad)) M 4 [(0, .ref (ad 0)), (1, .ref (ad k0)), (2, .int (qI ux2)), (3, .int (qI ux3))] []) (h : f_X9_kindnessGone_B4 k0 M x2 x3 g4 = some r0) : WM syC p l e rm_X9_kindnessGone s m args below meth c 4 D ad cA (MQ below (q_Post syC D ad cA (some (.int (qI r0))) M) args s 0 0 (q_A syC ad)) M 4 [(0, .ref (ad 0)), (1, .ref (ad k0)), (2, .int (qI x2)), (3, .int (qI x3))] [] := by
  unfold f_X9_kindnessGone_B4 at h
  refine r_iln C dX9_kindnessGone_4 (k := 3) rfl ?_
  refine r_aln C dX9_kindnessGone_5 (k := 0) rfl ?_
  refine r_gr C kc_0 clX9 (f := 3) (fz := 3) (Pp := isT) (by decide) rfl rfl (fun q => q.1) tf_RX9_31 dX9_kindnessGone_6 h (fun t1 ht1 h => ?_)
  refine r_gf C (kT ht1) clX8 (f := 0) (by decide) rfl rfl rfl tf_RX9_125 dX9_kindnessGone_9 h (fun v2 h => ?_)
  refine r_cge C (tgt := 43) dX9_kindnessGone_12 (by decide) h (fun h => ?_) (fun h => ?_)
  · refine r_iln C dX9_kindnessGone_43 (k := 2) rfl ?_
    exact r_iretp C hr hlk dX9_kindnessGone_44 h
  · refine r_aln C dX9_kindnessGone_15 (k := 1) rfl ?_
    refine r_gs C (kS hk0) clX6 (f := 2) (by decide) rfl (t := (32 * (k0 + 1) + 2)) rfl tf_RX9_149 dX9_kindnessGone_16 ?_
    refine r_iln C dX9_kindnessGone_19 (k := 3) rfl ?_
    refine r_iald C (kS_2 hk0) dX9_kindnessGone_20 h (fun v3 h => ?_)
    refine r_ic C dX9_kindnessGone_21 ?_
    refine r_cne C (tgt := 37) dX9_kindnessGone_22 (by decide) h (fun h => ?_) (fun h => ?_)
    · refine r_inc C (L1 := [(3, .int (qI (x3 + 1))), (0, .ref (ad 0)), (1, .ref (ad k0)), (2, .int (qI x2))]) dX9_kindnessGone_37 (k := 3) rfl (by decide) rfl ?_
      refine r_goto C (tgt := 4) dX9_kindnessGone_40 (by decide) ?_
      refine r_drop [1, 2, 3, 0] rfl ?_
      exact ih4 x2 (x3 + 1)  h
    · refine r_iln C dX9_kindnessGone_25 (k := 2) rfl ?_
      refine r_aln C dX9_kindnessGone_26 (k := 0) rfl ?_
      refine r_gr C kc_0 clX9 (f := 3) (fz := 3) (Pp := isT) (by decide) rfl rfl (fun q => q.1) tf_RX9_31 dX9_kindnessGone_27 h (fun t4 ht4 h => ?_)
      refine r_gs C (kT ht4) clX8 (f := 3) (by decide) rfl (t := (32 * (t4 + 1) + 3)) rfl tf_RX9_152 dX9_kindnessGone_30 ?_
      refine r_iln C dX9_kindnessGone_33 (k := 3) rfl ?_
      refine r_iald C (kT_3 ht4) dX9_kindnessGone_34 h (fun v5 h => ?_)
      refine r_iadd C dX9_kindnessGone_35 ?_
      refine r_isn C (L1 := [(2, .int (qI (x2 + v5))), (0, .ref (ad 0)), (1, .ref (ad k0)), (3, .int (qI x3))]) dX9_kindnessGone_36 (by decide) rfl ?_
      refine r_inc C (L1 := [(3, .int (qI (x3 + 1))), (2, .int (qI (x2 + v5))), (0, .ref (ad 0)), (1, .ref (ad k0))]) dX9_kindnessGone_37 (k := 3) rfl (by decide) rfl ?_
      refine r_goto C (tgt := 4) dX9_kindnessGone_40 (by decide) ?_
      refine r_drop [2, 3, 1, 0] rfl ?_
      exact ih4 (x2 + v5) (x3 + 1)  h
theorem w_X9_kindnessGone_L4 (C : Cx syC p m c cX9_kindnessGone 4 s args RX9 D ad cA) (hr : meth.sig.returnType = (some .int)) (hlk : meth.locks = false) (k0 : Nat) (hk0 : isS k0)  (M : Mem)  (n : Nat) (x2 : Int) (x3 : Int) (h : f_X9_kindnessGone_L4 k0 M n x2 x3 = some r0) : WM syC p l e rm_X9_kindnessGone s m args below meth c 4 D ad cA (MQ below (q_Post syC D ad cA (some (.int (qI r0))) M) args s 0 0 (q_A syC ad)) M 4 [(0, .ref (ad 0)), (1, .ref (ad k0)), (2, .int (qI x2)), (3, .int (qI x3))] [] :=
  qlp2_r (Wp := fun ux2 ux3 => WM syC p l e rm_X9_kindnessGone s m args below meth c 4 D ad cA (MQ below (q_Post syC D ad cA (some (.int (qI r0))) M) args s 0 0 (q_A syC ad)) M 4 [(0, .ref (ad 0)), (1, .ref (ad k0)), (2, .int (qI ux2)), (3, .int (qI ux3))] []) (fun ux2 ux3 g4 ih4 h => w_X9_kindnessGone_B4 C hr hlk k0 hk0 ux2 ux3 M g4  ih4 h) n x2 x3 h
def f_X9_kindnessGone (k0 : Nat) (M : Mem) : Option Int :=
  f_X9_kindnessGone_L4 k0 M q_N 0 0
theorem c_X9_kindnessGone {l : Launch} {D : va_G} {ad : Nat → Nat} {cA : Nat → ClassId} (hi : q_inj syC ad) (k0 : Nat) (hk0 : isS k0) (M : Mem) (r0 : Int) (h : f_X9_kindnessGone k0 M = some r0) : q_Met l syC D ad cA yX9_kindnessGone cX9_kindnessGone 4 (some .int) rm_X9_kindnessGone [.ref (ad 0), .ref (ad k0)] M (some (.int (qI r0))) M := by
  refine q_met (L0 := [(0, .ref (ad 0)), (1, .ref (ad k0))]) hi okC (by decide) (Nat.le_of_ble_eq_true rfl) rfl ?_
  intro p e s m args below meth c C hr hlk
  unfold f_X9_kindnessGone at h
  refine r_ic C dX9_kindnessGone_0 ?_
  refine r_isn C (L1 := [(2, .int (qI 0)), (0, .ref (ad 0)), (1, .ref (ad k0))]) dX9_kindnessGone_1 (by decide) rfl ?_
  refine r_ic C dX9_kindnessGone_2 ?_
  refine r_isn C (L1 := [(3, .int (qI 0)), (2, .int (qI 0)), (0, .ref (ad 0)), (1, .ref (ad k0))]) dX9_kindnessGone_3 (by decide) rfl ?_
  refine r_drop [2, 3, 1, 0] rfl ?_
  exact w_X9_kindnessGone_L4 C hr hlk k0 hk0 M  q_N 0 0 h
abbrev rm_X9_sum : Room := { frames := 0, cells := 0, slots := 0, locals := 0 }
theorem mw_X9_sum : q_mw RX9 yX9_sum cX9_sum 4 (some .int) 1 := ⟨⟨ti_X9_sum, tl_X9_sum, tn_RX9, td_X9_sum⟩, by decide +kernel⟩
def f_X9_sum_B4 (n0 : Nat) (l0 : Nat) (M : Mem) (x2 : Int) (x3 : Int) (g4 : Int → Int → Option Int) : Option Int :=
  q_gr M 0 3 fun t1 =>
  q_gf M t1 0 fun v2 =>
  if w32 v2 ≤ w32 x3 then (some x2)
  else (if w32 ((l0 : Nat) : Int) ≤ w32 x3 then (some x2)
  else (q_al M n0 l0 x3 fun v3 =>
  g4 (x2 + v3) (x3 + 1)))
def f_X9_sum_L4 (n0 : Nat) (l0 : Nat) (M : Mem) (n : Nat) (x2 : Int) (x3 : Int) : Option Int := qlp2 (fun x2 x3 g4 => f_X9_sum_B4 n0 l0 M x2 x3 g4) n x2 x3
theorem w_X9_sum_B4 (C : Cx syC p m c cX9_sum 4 s args RX9 D ad cA) (hr : meth.sig.returnType = (some .int)) (hlk : meth.locks = false) (n0 : Nat) (l0 : Nat) (hn0 : syC.1 n0 = (2, l0)) (x2 : Int) (x3 : Int) (M : Mem) (g4 : Int → Int → Option Int)  (ih4 : ∀ (ux2 ux3 : Int) , g4 ux2 ux3  = some r0 → WM syC p l e rm_X9_sum s m args below meth c 4 D ad cA (MQ below (q_Post syC D ad cA (some (.int (qI r0))) M) args s 0 0 (q_A syC ad)) M 4 [(0, .ref (ad 0)), (1, .ref (ad n0)), (2, .int (qI ux2)), (3, .int (qI ux3))] []) (h : f_X9_sum_B4 n0 l0 M x2 x3 g4 = some r0) : WM syC p l e rm_X9_sum s m args below meth c 4 D ad cA (MQ below (q_Post syC D ad cA (some (.int (qI r0))) M) args s 0 0 (q_A syC ad)) M 4 [(0, .ref (ad 0)), (1, .ref (ad n0)), (2, .int (qI x2)), (3, .int (qI x3))] [] := by
  unfold f_X9_sum_B4 at h
  refine r_iln C dX9_sum_4 (k := 3) rfl ?_
  refine r_aln C dX9_sum_5 (k := 0) rfl ?_
  refine r_gr C kc_0 clX9 (f := 3) (fz := 3) (Pp := isT) (by decide) rfl rfl (fun q => q.1) tf_RX9_31 dX9_sum_6 h (fun t1 ht1 h => ?_)
  refine r_gf C (kT ht1) clX8 (f := 0) (by decide) rfl rfl rfl tf_RX9_125 dX9_sum_9 h (fun v2 h => ?_)
  refine r_cge C (tgt := 33) dX9_sum_12 (by decide) h (fun h => ?_) (fun h => ?_)
  · refine r_iln C dX9_sum_33 (k := 2) rfl ?_
    exact r_iretp C hr hlk dX9_sum_34 h
  · refine r_iln C dX9_sum_15 (k := 3) rfl ?_
    refine r_aln C dX9_sum_16 (k := 1) rfl ?_
    refine r_alen C hn0 (by decide) (by decide) (by decide) (t0 := 0) rfl dX9_sum_17 ?_
    refine r_cge C (tgt := 33) dX9_sum_18 (by decide) h (fun h => ?_) (fun h => ?_)
    · refine r_iln C dX9_sum_33 (k := 2) rfl ?_
      exact r_iretp C hr hlk dX9_sum_34 h
    · refine r_iln C dX9_sum_21 (k := 2) rfl ?_
      refine r_aln C dX9_sum_22 (k := 1) rfl ?_
      refine r_iln C dX9_sum_23 (k := 3) rfl ?_
      refine r_iald C hn0 dX9_sum_24 h (fun v3 h => ?_)
      refine r_iadd C dX9_sum_25 ?_
      refine r_isn C (L1 := [(2, .int (qI (x2 + v3))), (0, .ref (ad 0)), (1, .ref (ad n0)), (3, .int (qI x3))]) dX9_sum_26 (by decide) rfl ?_
      refine r_inc C (L1 := [(3, .int (qI (x3 + 1))), (2, .int (qI (x2 + v3))), (0, .ref (ad 0)), (1, .ref (ad n0))]) dX9_sum_27 (k := 3) rfl (by decide) rfl ?_
      refine r_goto C (tgt := 4) dX9_sum_30 (by decide) ?_
      refine r_drop [2, 3, 1, 0] rfl ?_
      exact ih4 (x2 + v3) (x3 + 1)  h
theorem w_X9_sum_L4 (C : Cx syC p m c cX9_sum 4 s args RX9 D ad cA) (hr : meth.sig.returnType = (some .int)) (hlk : meth.locks = false) (n0 : Nat) (l0 : Nat) (hn0 : syC.1 n0 = (2, l0))  (M : Mem)  (n : Nat) (x2 : Int) (x3 : Int) (h : f_X9_sum_L4 n0 l0 M n x2 x3 = some r0) : WM syC p l e rm_X9_sum s m args below meth c 4 D ad cA (MQ below (q_Post syC D ad cA (some (.int (qI r0))) M) args s 0 0 (q_A syC ad)) M 4 [(0, .ref (ad 0)), (1, .ref (ad n0)), (2, .int (qI x2)), (3, .int (qI x3))] [] :=
  qlp2_r (Wp := fun ux2 ux3 => WM syC p l e rm_X9_sum s m args below meth c 4 D ad cA (MQ below (q_Post syC D ad cA (some (.int (qI r0))) M) args s 0 0 (q_A syC ad)) M 4 [(0, .ref (ad 0)), (1, .ref (ad n0)), (2, .int (qI ux2)), (3, .int (qI ux3))] []) (fun ux2 ux3 g4 ih4 h => w_X9_sum_B4 C hr hlk n0 l0 hn0 ux2 ux3 M g4  ih4 h) n x2 x3 h
def f_X9_sum (n0 : Nat) (l0 : Nat) (M : Mem) : Option Int :=
  f_X9_sum_L4 n0 l0 M q_N 0 0
theorem c_X9_sum {l : Launch} {D : va_G} {ad : Nat → Nat} {cA : Nat → ClassId} (hi : q_inj syC ad) (n0 : Nat) (l0 : Nat) (hn0 : syC.1 n0 = (2, l0)) (M : Mem) (r0 : Int) (h : f_X9_sum n0 l0 M = some r0) : q_Met l syC D ad cA yX9_sum cX9_sum 4 (some .int) rm_X9_sum [.ref (ad 0), .ref (ad n0)] M (some (.int (qI r0))) M := by
  refine q_met (L0 := [(0, .ref (ad 0)), (1, .ref (ad n0))]) hi okC (by decide) (Nat.le_of_ble_eq_true rfl) rfl ?_
  intro p e s m args below meth c C hr hlk
  unfold f_X9_sum at h
  refine r_ic C dX9_sum_0 ?_
  refine r_isn C (L1 := [(2, .int (qI 0)), (0, .ref (ad 0)), (1, .ref (ad n0))]) dX9_sum_1 (by decide) rfl ?_
  refine r_ic C dX9_sum_2 ?_
  refine r_isn C (L1 := [(3, .int (qI 0)), (2, .int (qI 0)), (0, .ref (ad 0)), (1, .ref (ad n0))]) dX9_sum_3 (by decide) rfl ?_
  refine r_drop [2, 3, 1, 0] rfl ?_
  exact w_X9_sum_L4 C hr hlk n0 l0 hn0 M  q_N 0 0 h
abbrev rm_X9_ahead : Room := { frames := 5, cells := 0, slots := 0, locals := 128 }
theorem mw_X9_ahead : q_mw RX9 yX9_ahead cX9_ahead 4 (some .int) 3 := ⟨⟨ti_X9_ahead, tl_X9_ahead, tn_RX9, td_X9_ahead⟩, by decide +kernel⟩
def f_X9_ahead_J37 (x1 : Int) (x2 : Int) (x3 : Int) (M : Mem) : Res :=
  q_call (f_X9_tryFromNow  M) fun r1 M2 =>
  q_call (f_X3_pass x1 M2) fun r3 M4 =>
  if w32 x2 = 0 then (q_gr M4 0 3 fun t5 =>
  q_gf M4 t5 0 fun v6 =>
  q_calp (f_X6_howMany 5 2 v6 M4) fun r7 =>
  some (r7, M4))
  else if w32 x2 = 1 then (q_calp (f_X9_kindnessGone 5 M4) fun r8 =>
  some (r8, M4))
  else if w32 x2 = 2 then (q_calp (f_X9_sum 197 8 M4) fun r9 =>
  q_calp (f_X9_sum 165 8 M4) fun r10 =>
  some (r9 - r10, M4))
  else if w32 x2 = 3 then (q_al M4 196 8 x3 fun v11 =>
  some (v11, M4))
  else (q_gf M4 5 9 fun v12 =>
  some (v12, M4))
theorem w_X9_ahead_J37 (C : Cx syC p m c cX9_ahead 4 s args RX9 D ad cA) (hr : meth.sig.returnType = (some .int)) (hlk : meth.locks = false) (x1 : Int) (x2 : Int) (x3 : Int) (M : Mem)  (h : f_X9_ahead_J37 x1 x2 x3 M = some (r0, M0)) : WM syC p l e rm_X9_ahead s m args below meth c 4 D ad cA (MQ below (q_Post syC D ad cA (some (.int (qI r0))) M0) args s 0 0 (q_A syC ad)) M 37 [(0, .ref (ad 0)), (1, .int (qI x1)), (2, .int (qI x2)), (3, .int (qI x3))] [] := by
  unfold f_X9_ahead_J37 at h
  refine r_aln C dX9_ahead_37 (k := 0) rfl ?_
  obtain ⟨r1, M2, hy, h⟩ := q_call_some h
  refine r_cvv C (st := []) (c_X9_tryFromNow C.2.2.1 M r1 M2 hy) tm_RX9_258 mw_X9_tryFromNow ⟨rfl, rfl⟩ ⟨Nat.le_of_ble_eq_true rfl, Nat.le_of_ble_eq_true rfl⟩ kc_0 clX9 rfl rfl (Nat.le_of_ble_eq_true rfl) dX9_ahead_38 ?_
  refine r_aln C dX9_ahead_41 (k := 0) rfl ?_
  refine r_gs C kc_0 clX9 (f := 8) (by decide) rfl (t := 7) rfl tf_RX9_57 dX9_ahead_42 ?_
  refine r_iln C dX9_ahead_45 (k := 1) rfl ?_
  obtain ⟨r3, M4, hy, h⟩ := q_call_some h
  refine r_cvv C (st := []) (c_X3_pass C.2.2.1 x1 M2 r3 M4 hy) tm_RX9_251 mw_X3_pass ⟨rfl, rfl⟩ ⟨Nat.le_of_ble_eq_true rfl, Nat.le_of_ble_eq_true rfl⟩ kc_7 clX3 rfl rfl (Nat.le_of_ble_eq_true rfl) dX9_ahead_46 ?_
  refine r_iln C dX9_ahead_49 (k := 2) rfl ?_
  refine r_tc C h (fun e h => ?_) (fun ne0 h => ?_)
  · refine r_tin C (tgt := 80) dX9_ahead_50 e (by decide) rfl (by decide) ?_
    refine r_aln C dX9_ahead_80 (k := 0) rfl ?_
    refine r_gs C kc_0 clX9 (f := 5) (by decide) rfl (t := 5) rfl tf_RX9_42 dX9_ahead_81 ?_
    refine r_ic C dX9_ahead_84 ?_
    refine r_aln C dX9_ahead_85 (k := 0) rfl ?_
    refine r_gr C kc_0 clX9 (f := 3) (fz := 3) (Pp := isT) (by decide) rfl rfl (fun q => q.1) tf_RX9_31 dX9_ahead_86 h (fun t5 ht5 h => ?_)
    refine r_gf C (kT ht5) clX8 (f := 0) (by decide) rfl rfl rfl tf_RX9_125 dX9_ahead_89 h (fun v6 h => ?_)
    obtain ⟨r7, hy, h⟩ := q_calp_some h
    refine r_cvi C (st := []) (c_X6_howMany C.2.2.1 5 (by unfold isS; omega) 2 v6 M4 r7 hy) tm_RX9_261 mw_X6_howMany ⟨rfl, rfl⟩ ⟨Nat.le_of_ble_eq_true rfl, Nat.le_of_ble_eq_true rfl⟩ kc_5 clX6 rfl rfl (Nat.le_of_ble_eq_true rfl) dX9_ahead_92 ?_
    exact r_iret C hr hlk dX9_ahead_95 h
  refine r_tc C h (fun e h => ?_) (fun ne1 h => ?_)
  · refine r_tin C (tgt := 96) dX9_ahead_50 e (by decide) rfl (by decide) ?_
    refine r_aln C dX9_ahead_96 (k := 0) rfl ?_
    refine r_aln C dX9_ahead_97 (k := 0) rfl ?_
    refine r_gs C kc_0 clX9 (f := 5) (by decide) rfl (t := 5) rfl tf_RX9_42 dX9_ahead_98 ?_
    obtain ⟨r8, hy, h⟩ := q_calp_some h
    refine r_cvi C (st := []) (c_X9_kindnessGone C.2.2.1 5 (by unfold isS; omega) M4 r8 hy) tm_RX9_264 mw_X9_kindnessGone ⟨rfl, rfl⟩ ⟨Nat.le_of_ble_eq_true rfl, Nat.le_of_ble_eq_true rfl⟩ kc_0 clX9 rfl rfl (Nat.le_of_ble_eq_true rfl) dX9_ahead_101 ?_
    exact r_iret C hr hlk dX9_ahead_104 h
  refine r_tc C h (fun e h => ?_) (fun ne2 h => ?_)
  · refine r_tin C (tgt := 105) dX9_ahead_50 e (by decide) rfl (by decide) ?_
    refine r_aln C dX9_ahead_105 (k := 0) rfl ?_
    refine r_aln C dX9_ahead_106 (k := 0) rfl ?_
    refine r_gs C kc_0 clX9 (f := 5) (by decide) rfl (t := 5) rfl tf_RX9_42 dX9_ahead_107 ?_
    refine r_gs C kc_5 clX6 (f := 5) (by decide) rfl (t := 197) rfl tf_RX9_162 dX9_ahead_110 ?_
    obtain ⟨r9, hy, h⟩ := q_calp_some h
    refine r_cvi C (st := []) (c_X9_sum C.2.2.1 197 8 kc_197 M4 r9 hy) tm_RX9_268 mw_X9_sum ⟨rfl, rfl⟩ ⟨Nat.le_of_ble_eq_true rfl, Nat.le_of_ble_eq_true rfl⟩ kc_0 clX9 rfl rfl (Nat.le_of_ble_eq_true rfl) dX9_ahead_113 ?_
    refine r_aln C dX9_ahead_116 (k := 0) rfl ?_
    refine r_aln C dX9_ahead_117 (k := 0) rfl ?_
    refine r_gs C kc_0 clX9 (f := 4) (by decide) rfl (t := 4) rfl tf_RX9_38 dX9_ahead_118 ?_
    refine r_gs C kc_4 clX6 (f := 5) (by decide) rfl (t := 165) rfl tf_RX9_162 dX9_ahead_121 ?_
    obtain ⟨r10, hy, h⟩ := q_calp_some h
    refine r_cvi C (st := [.int (qI r9)]) (c_X9_sum C.2.2.1 165 8 kc_165 M4 r10 hy) tm_RX9_268 mw_X9_sum ⟨rfl, rfl⟩ ⟨Nat.le_of_ble_eq_true rfl, Nat.le_of_ble_eq_true rfl⟩ kc_0 clX9 rfl rfl (Nat.le_of_ble_eq_true rfl) dX9_ahead_124 ?_
    refine r_isub C dX9_ahead_127 ?_
    exact r_iret C hr hlk dX9_ahead_128 h
  refine r_tc C h (fun e h => ?_) (fun ne3 h => ?_)
  · refine r_tin C (tgt := 129) dX9_ahead_50 e (by decide) rfl (by decide) ?_
    refine r_aln C dX9_ahead_129 (k := 0) rfl ?_
    refine r_gs C kc_0 clX9 (f := 5) (by decide) rfl (t := 5) rfl tf_RX9_42 dX9_ahead_130 ?_
    refine r_gs C kc_5 clX6 (f := 4) (by decide) rfl (t := 196) rfl tf_RX9_156 dX9_ahead_133 ?_
    refine r_iln C dX9_ahead_136 (k := 3) rfl ?_
    refine r_iald C kc_196 dX9_ahead_137 h (fun v11 h => ?_)
    exact r_iret C hr hlk dX9_ahead_138 h
  refine r_tout C (tgt := 139) dX9_ahead_50 (by omega) (by decide) ?_
  refine r_aln C dX9_ahead_139 (k := 0) rfl ?_
  refine r_gs C kc_0 clX9 (f := 5) (by decide) rfl (t := 5) rfl tf_RX9_42 dX9_ahead_140 ?_
  refine r_gf C kc_5 clX6 (f := 9) (by decide) rfl rfl rfl tf_RX9_197 dX9_ahead_143 h (fun v12 h => ?_)
  exact r_iret C hr hlk dX9_ahead_146 h
def f_X9_ahead (a0 : Int) (a1 : Int) (a2 : Int) (M : Mem) : Res :=
  if w32 a0 < 0 then (some ((-1), M))
  else (if w32 200 < w32 a0 then (some ((-1), M))
  else (if w32 a1 < 0 then (some ((-1), M))
  else (if w32 a1 ≤ w32 4 then (if ¬ w32 a1 = w32 3 then (f_X9_ahead_J37 a0 a1 a2 M)
  else (q_calp (f_X9_isSoul a2 M) fun r1 =>
  if ¬ w32 r1 = 0 then (f_X9_ahead_J37 a0 a1 a2 M)
  else (some ((-1), M))))
  else (some ((-1), M)))))
theorem c_X9_ahead {l : Launch} {D : va_G} {ad : Nat → Nat} {cA : Nat → ClassId} (hi : q_inj syC ad) (a0 : Int) (a1 : Int) (a2 : Int) (M : Mem) (r0 : Int) (M0 : Mem) (h : f_X9_ahead a0 a1 a2 M = some (r0, M0)) : q_Met l syC D ad cA yX9_ahead cX9_ahead 4 (some .int) rm_X9_ahead [.ref (ad 0), .int (qI a0), .int (qI a1), .int (qI a2)] M (some (.int (qI r0))) M0 := by
  refine q_met (L0 := [(0, .ref (ad 0)), (1, .int (qI a0)), (2, .int (qI a1)), (3, .int (qI a2))]) hi okC (by decide) (Nat.le_of_ble_eq_true rfl) rfl ?_
  intro p e s m args below meth c C hr hlk
  unfold f_X9_ahead at h
  refine r_iln C dX9_ahead_0 (k := 1) rfl ?_
  refine r_zlt C (tgt := 20) dX9_ahead_1 (by decide) h (fun h => ?_) (fun h => ?_)
  · refine r_ic C dX9_ahead_20 ?_
    exact r_iret C hr hlk dX9_ahead_21 h
  · refine r_iln C dX9_ahead_4 (k := 1) rfl ?_
    refine r_si C dX9_ahead_5 (by decide) ?_
    refine r_cgt C (tgt := 20) dX9_ahead_8 (by decide) h (fun h => ?_) (fun h => ?_)
    · refine r_ic C dX9_ahead_20 ?_
      exact r_iret C hr hlk dX9_ahead_21 h
    · refine r_iln C dX9_ahead_11 (k := 2) rfl ?_
      refine r_zlt C (tgt := 20) dX9_ahead_12 (by decide) h (fun h => ?_) (fun h => ?_)
      · refine r_ic C dX9_ahead_20 ?_
        exact r_iret C hr hlk dX9_ahead_21 h
      · refine r_iln C dX9_ahead_15 (k := 2) rfl ?_
        refine r_ic C dX9_ahead_16 ?_
        refine r_cle C (tgt := 22) dX9_ahead_17 (by decide) h (fun h => ?_) (fun h => ?_)
        · refine r_iln C dX9_ahead_22 (k := 2) rfl ?_
          refine r_ic C dX9_ahead_23 ?_
          refine r_cne C (tgt := 37) dX9_ahead_24 (by decide) h (fun h => ?_) (fun h => ?_)
          · exact w_X9_ahead_J37 C hr hlk a0 a1 a2 M  h
          · refine r_aln C dX9_ahead_27 (k := 0) rfl ?_
            refine r_iln C dX9_ahead_28 (k := 3) rfl ?_
            obtain ⟨r1, hy, h⟩ := q_calp_some h
            refine r_cvi C (st := []) (c_X9_isSoul C.2.2.1 a2 M r1 hy) tm_RX9_138 mw_X9_isSoul ⟨rfl, rfl⟩ ⟨Nat.le_of_ble_eq_true rfl, Nat.le_of_ble_eq_true rfl⟩ kc_0 clX9 rfl rfl (Nat.le_of_ble_eq_true rfl) dX9_ahead_29 ?_
            refine r_zne C (tgt := 37) dX9_ahead_32 (by decide) h (fun h => ?_) (fun h => ?_)
            · exact w_X9_ahead_J37 C hr hlk a0 a1 a2 M  h
            · refine r_ic C dX9_ahead_35 ?_
              exact r_iret C hr hlk dX9_ahead_36 h
        · refine r_ic C dX9_ahead_20 ?_
          exact r_iret C hr hlk dX9_ahead_21 h
abbrev rm_X9_isBus : Room := { frames := 0, cells := 0, slots := 0, locals := 0 }
theorem mw_X9_isBus : q_mw RX9 yX9_isBus cX9_isBus 2 (some .boolean) 1 := ⟨⟨ti_X9_isBus, tl_X9_isBus, tn_RX9, td_X9_isBus⟩, by decide +kernel⟩
def f_X9_isBus (a0 : Int) (M : Mem) : Option Int :=
  if w32 a0 < 0 then (some 0)
  else (q_gr M 0 3 fun t1 =>
  q_gf M t1 7 fun v2 =>
  if w32 v2 ≤ w32 a0 then (some 0)
  else (some 1))
theorem c_X9_isBus {l : Launch} {D : va_G} {ad : Nat → Nat} {cA : Nat → ClassId} (hi : q_inj syC ad) (a0 : Int) (M : Mem) (r0 : Int) (h : f_X9_isBus a0 M = some r0) : q_Met l syC D ad cA yX9_isBus cX9_isBus 2 (some .boolean) rm_X9_isBus [.ref (ad 0), .int (qI a0)] M (some (.int (qI r0))) M := by
  refine q_met (L0 := [(0, .ref (ad 0)), (1, .int (qI a0))]) hi okC (by decide) (Nat.le_of_ble_eq_true rfl) rfl ?_
  intro p e s m args below meth c C hr hlk
  unfold f_X9_isBus at h
  refine r_iln C dX9_isBus_0 (k := 1) rfl ?_
  refine r_zlt C (tgt := 19) dX9_isBus_1 (by decide) h (fun h => ?_) (fun h => ?_)
  · refine r_ic C dX9_isBus_19 ?_
    exact r_zretp C (by decide) hr hlk dX9_isBus_20 h
  · refine r_iln C dX9_isBus_4 (k := 1) rfl ?_
    refine r_aln C dX9_isBus_5 (k := 0) rfl ?_
    refine r_gr C kc_0 clX9 (f := 3) (fz := 3) (Pp := isT) (by decide) rfl rfl (fun q => q.1) tf_RX9_31 dX9_isBus_6 h (fun t1 ht1 h => ?_)
    refine r_gf C (kT ht1) clX8 (f := 7) (by decide) rfl rfl rfl tf_RX9_135 dX9_isBus_9 h (fun v2 h => ?_)
    refine r_cge C (tgt := 19) dX9_isBus_12 (by decide) h (fun h => ?_) (fun h => ?_)
    · refine r_ic C dX9_isBus_19 ?_
      exact r_zretp C (by decide) hr hlk dX9_isBus_20 h
    · refine r_ic C dX9_isBus_15 ?_
      refine r_goto C (tgt := 20) dX9_isBus_16 (by decide) ?_
      exact r_zretp C (by decide) hr hlk dX9_isBus_20 h
abbrev rm_X9_isAllSo : Room := { frames := 5, cells := 0, slots := 0, locals := 128 }
theorem mw_X9_isAllSo : q_mw RX9 yX9_isAllSo cX9_isAllSo 6 (some .boolean) 3 := ⟨⟨ti_X9_isAllSo, tl_X9_isAllSo, tn_RX9, td_X9_isAllSo⟩, by decide +kernel⟩
def f_X9_isAllSo_B65 (x1 : Int) (x4 : Int) (x5 : Int) (M : Mem) (g65 : Int → Mem → Res) : Res :=
  if w32 x4 < w32 x5 then (some (1, M))
  else (q_call (f_X3_pass 1 M) fun r1 M2 =>
  q_calp (f_X5_areSo 194 8 x1 x5 M2) fun r3 =>
  if ¬ w32 r3 = 0 then (g65 (x5 + 1) M2)
  else (some (0, M2)))
def f_X9_isAllSo_L65 (x1 : Int) (x4 : Int) (n : Nat) (x5 : Int) (M : Mem) : Res := qlm1 (fun x5 M g65 => f_X9_isAllSo_B65 x1 x4 x5 M g65) n x5 M
theorem w_X9_isAllSo_B65 (C : Cx syC p m c cX9_isAllSo 6 s args RX9 D ad cA) (hr : meth.sig.returnType = (some .boolean)) (hlk : meth.locks = false)  (x1 : Int) (x4 : Int) (x5 : Int) (M : Mem) (g65 : Int → Mem → Res)  (ih65 : ∀ (ux5 : Int) (M : Mem), g65 ux5 M = some (r0, M0) → WM syC p l e rm_X9_isAllSo s m args below meth c 6 D ad cA (MQ below (q_Post syC D ad cA (some (.int (qI r0))) M0) args s 0 0 (q_A syC ad)) M 65 [(0, .ref (ad 0)), (1, .int (qI x1)), (4, .int (qI x4)), (5, .int (qI ux5))] []) (h : f_X9_isAllSo_B65 x1 x4 x5 M g65 = some (r0, M0)) : WM syC p l e rm_X9_isAllSo s m args below meth c 6 D ad cA (MQ below (q_Post syC D ad cA (some (.int (qI r0))) M0) args s 0 0 (q_A syC ad)) M 65 [(0, .ref (ad 0)), (1, .int (qI x1)), (4, .int (qI x4)), (5, .int (qI x5))] [] := by
  unfold f_X9_isAllSo_B65 at h
  refine r_il C dX9_isAllSo_65 (k := 3) rfl ?_
  refine r_il C dX9_isAllSo_67 (k := 2) rfl ?_
  refine r_cgt C (tgt := 108) dX9_isAllSo_69 (by decide) h (fun h => ?_) (fun h => ?_)
  · refine r_ic C dX9_isAllSo_108 ?_
    exact r_zret C (by decide) hr hlk dX9_isAllSo_109 h
  · refine r_aln C dX9_isAllSo_72 (k := 0) rfl ?_
    refine r_gs C kc_0 clX9 (f := 8) (by decide) rfl (t := 7) rfl tf_RX9_57 dX9_isAllSo_73 ?_
    refine r_ic C dX9_isAllSo_76 ?_
    obtain ⟨r1, M2, hy, h⟩ := q_call_some h
    refine r_cvv C (st := []) (c_X3_pass C.2.2.1 1 M r1 M2 hy) tm_RX9_251 mw_X3_pass ⟨rfl, rfl⟩ ⟨Nat.le_of_ble_eq_true rfl, Nat.le_of_ble_eq_true rfl⟩ kc_7 clX3 rfl rfl (Nat.le_of_ble_eq_true rfl) dX9_isAllSo_77 ?_
    refine r_aln C dX9_isAllSo_80 (k := 0) rfl ?_
    refine r_gs C kc_0 clX9 (f := 10) (by decide) rfl (t := 9) rfl tf_RX9_71 dX9_isAllSo_81 ?_
    refine r_iln C dX9_isAllSo_84 (k := 1) rfl ?_
    refine r_il C dX9_isAllSo_85 (k := 3) rfl ?_
    refine r_aln C dX9_isAllSo_87 (k := 0) rfl ?_
    refine r_gs C kc_0 clX9 (f := 5) (by decide) rfl (t := 5) rfl tf_RX9_42 dX9_isAllSo_88 ?_
    refine r_gs C kc_5 clX6 (f := 2) (by decide) rfl (t := 194) rfl tf_RX9_149 dX9_isAllSo_91 ?_
    obtain ⟨r3, hy, h⟩ := q_calp_some h
    refine r_cvi C (st := []) (c_X5_areSo C.2.2.1 194 8 kc_194 x1 x5 M2 r3 hy) tm_RX9_362 mw_X5_areSo ⟨rfl, rfl⟩ ⟨Nat.le_of_ble_eq_true rfl, Nat.le_of_ble_eq_true rfl⟩ kc_9 clX5 rfl rfl (Nat.le_of_ble_eq_true rfl) dX9_isAllSo_94 ?_
    refine r_zne C (tgt := 102) dX9_isAllSo_97 (by decide) h (fun h => ?_) (fun h => ?_)
    · refine r_inc C (L1 := [(5, .int (qI (x5 + 1))), (0, .ref (ad 0)), (1, .int (qI x1)), (4, .int (qI x4))]) dX9_isAllSo_102 (k := 3) rfl (by decide) rfl ?_
      refine r_goto C (tgt := 65) dX9_isAllSo_105 (by decide) ?_
      refine r_drop [1, 2, 3, 0] rfl ?_
      exact ih65 (x5 + 1) M2 h
    · refine r_ic C dX9_isAllSo_100 ?_
      exact r_zret C (by decide) hr hlk dX9_isAllSo_101 h
theorem w_X9_isAllSo_L65 (C : Cx syC p m c cX9_isAllSo 6 s args RX9 D ad cA) (hr : meth.sig.returnType = (some .boolean)) (hlk : meth.locks = false)  (x1 : Int) (x4 : Int)  (n : Nat) (x5 : Int) (M : Mem) (h : f_X9_isAllSo_L65 x1 x4 n x5 M = some (r0, M0)) : WM syC p l e rm_X9_isAllSo s m args below meth c 6 D ad cA (MQ below (q_Post syC D ad cA (some (.int (qI r0))) M0) args s 0 0 (q_A syC ad)) M 65 [(0, .ref (ad 0)), (1, .int (qI x1)), (4, .int (qI x4)), (5, .int (qI x5))] [] :=
  qlm1_r (Wp := fun ux5 M => WM syC p l e rm_X9_isAllSo s m args below meth c 6 D ad cA (MQ below (q_Post syC D ad cA (some (.int (qI r0))) M0) args s 0 0 (q_A syC ad)) M 65 [(0, .ref (ad 0)), (1, .int (qI x1)), (4, .int (qI x4)), (5, .int (qI ux5))] []) (fun ux5 M g65 ih65 h => w_X9_isAllSo_B65 C hr hlk x1 x4 ux5 M g65  ih65 h) n x5 M h
def f_X9_isAllSo (a0 : Int) (a1 : Int) (a2 : Int) (M : Mem) : Res :=
  q_gr M 0 3 fun t1 =>
  q_gr M 0 3 fun t2 =>
  q_gf M t2 15 fun v3 =>
  q_call (f_X6_begin 5 (32 * (t1 + 1) + 4) 8 v3 M) fun r4 M5 =>
  q_gr M5 0 3 fun t6 =>
  q_call (f_X3_ready t6 5 M5) fun r7 M8 =>
  q_pf M8 7 4 a1 fun M9 =>
  q_pf M9 7 5 a2 fun M10 =>
  q_calp (f_X5_lastMinutes a0 M10) fun r11 =>
  f_X9_isAllSo_L65 a0 r11 q_N 1 M10
theorem c_X9_isAllSo {l : Launch} {D : va_G} {ad : Nat → Nat} {cA : Nat → ClassId} (hi : q_inj syC ad) (a0 : Int) (a1 : Int) (a2 : Int) (M : Mem) (r0 : Int) (M0 : Mem) (h : f_X9_isAllSo a0 a1 a2 M = some (r0, M0)) : q_Met l syC D ad cA yX9_isAllSo cX9_isAllSo 6 (some .boolean) rm_X9_isAllSo [.ref (ad 0), .int (qI a0), .int (qI a1), .int (qI a2)] M (some (.int (qI r0))) M0 := by
  refine q_met (L0 := [(0, .ref (ad 0)), (1, .int (qI a0)), (2, .int (qI a1)), (3, .int (qI a2))]) hi okC (by decide) (Nat.le_of_ble_eq_true rfl) rfl ?_
  intro p e s m args below meth c C hr hlk
  unfold f_X9_isAllSo at h
  refine r_aln C dX9_isAllSo_0 (k := 0) rfl ?_
  refine r_gs C kc_0 clX9 (f := 5) (by decide) rfl (t := 5) rfl tf_RX9_42 dX9_isAllSo_1 ?_
  refine r_aln C dX9_isAllSo_4 (k := 0) rfl ?_
  refine r_gr C kc_0 clX9 (f := 3) (fz := 3) (Pp := isT) (by decide) rfl rfl (fun q => q.1) tf_RX9_31 dX9_isAllSo_5 h (fun t1 ht1 h => ?_)
  refine r_gs C (kT ht1) clX8 (f := 4) (by decide) rfl (t := (32 * (t1 + 1) + 4)) rfl tf_RX9_88 dX9_isAllSo_8 ?_
  refine r_aln C dX9_isAllSo_11 (k := 0) rfl ?_
  refine r_gr C kc_0 clX9 (f := 3) (fz := 3) (Pp := isT) (by decide) rfl rfl (fun q => q.1) tf_RX9_31 dX9_isAllSo_12 h (fun t2 ht2 h => ?_)
  refine r_gf C (kT ht2) clX8 (f := 15) (by decide) rfl rfl rfl tf_RX9_91 dX9_isAllSo_15 h (fun v3 h => ?_)
  obtain ⟨r4, M5, hy, h⟩ := q_call_some h
  refine r_cvv C (st := []) (c_X6_begin C.2.2.1 5 (32 * (t1 + 1) + 4) 8 (by unfold isS; omega) (kT_4 ht1) v3 M r4 M5 hy) tm_RX9_94 mw_X6_begin ⟨rfl, rfl⟩ ⟨Nat.le_of_ble_eq_true rfl, Nat.le_of_ble_eq_true rfl⟩ kc_5 clX6 rfl rfl (Nat.le_of_ble_eq_true rfl) dX9_isAllSo_18 ?_
  refine r_aln C dX9_isAllSo_21 (k := 0) rfl ?_
  refine r_gs C kc_0 clX9 (f := 8) (by decide) rfl (t := 7) rfl tf_RX9_57 dX9_isAllSo_22 ?_
  refine r_aln C dX9_isAllSo_25 (k := 0) rfl ?_
  refine r_gr C kc_0 clX9 (f := 3) (fz := 3) (Pp := isT) (by decide) rfl rfl (fun q => q.1) tf_RX9_31 dX9_isAllSo_26 h (fun t6 ht6 h => ?_)
  refine r_aln C dX9_isAllSo_29 (k := 0) rfl ?_
  refine r_gs C kc_0 clX9 (f := 5) (by decide) rfl (t := 5) rfl tf_RX9_42 dX9_isAllSo_30 ?_
  obtain ⟨r7, M8, hy, h⟩ := q_call_some h
  refine r_cvv C (st := []) (c_X3_ready C.2.2.1 t6 5 ht6 (by unfold isS; omega) M5 r7 M8 hy) tm_RX9_208 mw_X3_ready ⟨rfl, rfl⟩ ⟨Nat.le_of_ble_eq_true rfl, Nat.le_of_ble_eq_true rfl⟩ kc_7 clX3 rfl rfl (Nat.le_of_ble_eq_true rfl) dX9_isAllSo_33 ?_
  refine r_aln C dX9_isAllSo_36 (k := 0) rfl ?_
  refine r_gs C kc_0 clX9 (f := 8) (by decide) rfl (t := 7) rfl tf_RX9_57 dX9_isAllSo_37 ?_
  refine r_iln C dX9_isAllSo_40 (k := 2) rfl ?_
  refine r_pf C kc_7 clX3 (f := 4) (by decide) rfl q_dI rfl rfl tf_RX9_353 dX9_isAllSo_41 h (fun M9 h => ?_)
  refine r_aln C dX9_isAllSo_44 (k := 0) rfl ?_
  refine r_gs C kc_0 clX9 (f := 8) (by decide) rfl (t := 7) rfl tf_RX9_57 dX9_isAllSo_45 ?_
  refine r_iln C dX9_isAllSo_48 (k := 3) rfl ?_
  refine r_pf C kc_7 clX3 (f := 5) (by decide) rfl q_dI rfl rfl tf_RX9_356 dX9_isAllSo_49 h (fun M10 h => ?_)
  refine r_aln C dX9_isAllSo_52 (k := 0) rfl ?_
  refine r_gs C kc_0 clX9 (f := 10) (by decide) rfl (t := 9) rfl tf_RX9_71 dX9_isAllSo_53 ?_
  refine r_iln C dX9_isAllSo_56 (k := 1) rfl ?_
  obtain ⟨r11, hy, h⟩ := q_calp_some h
  refine r_cvi C (st := []) (c_X5_lastMinutes C.2.2.1 a0 M10 r11 hy) tm_RX9_359 mw_X5_lastMinutes ⟨rfl, rfl⟩ ⟨Nat.le_of_ble_eq_true rfl, Nat.le_of_ble_eq_true rfl⟩ kc_9 clX5 rfl rfl (Nat.le_of_ble_eq_true rfl) dX9_isAllSo_57 ?_
  refine r_is C (L1 := [(4, .int (qI r11)), (0, .ref (ad 0)), (1, .int (qI a0)), (2, .int (qI a1)), (3, .int (qI a2))]) dX9_isAllSo_60 (by decide) rfl ?_
  refine r_ic C dX9_isAllSo_62 ?_
  refine r_is C (L1 := [(5, .int (qI 1)), (4, .int (qI r11)), (0, .ref (ad 0)), (1, .int (qI a0)), (2, .int (qI a1)), (3, .int (qI a2))]) dX9_isAllSo_63 (by decide) rfl ?_
  refine r_drop [2, 3, 1, 0] rfl ?_
  exact w_X9_isAllSo_L65 C hr hlk a0 r11  q_N 1 M10 h
abbrev rm_X9_everies : Room := { frames := 6, cells := 0, slots := 0, locals := 153 }
theorem mw_X9_everies : q_mw RX9 yX9_everies cX9_everies 5 (some .int) 1 := ⟨⟨ti_X9_everies, tl_X9_everies, tn_RX9, td_X9_everies⟩, by decide +kernel⟩
def f_X9_everies_B23 (x1 : Int) (x2 : Int) (x3 : Int) (x4 : Int) (M : Mem) (g23 : Int → Int → Mem → Res) : Res :=
  if w32 30 < w32 x4 then (some (x3, M))
  else (q_call (f_X9_isAllSo x2 x1 x4 M) fun r1 M2 =>
  if w32 r1 = 0 then (g23 x3 (x4 + 1) M2)
  else (g23 (q_or x3 (q_shl 1 (x4 - 1))) (x4 + 1) M2))
def f_X9_everies_L23 (x1 : Int) (x2 : Int) (n : Nat) (x3 : Int) (x4 : Int) (M : Mem) : Res := qlm2 (fun x3 x4 M g23 => f_X9_everies_B23 x1 x2 x3 x4 M g23) n x3 x4 M
theorem w_X9_everies_B23 (C : Cx syC p m c cX9_everies 5 s args RX9 D ad cA) (hr : meth.sig.returnType = (some .int)) (hlk : meth.locks = false)  (x1 : Int) (x2 : Int) (x3 : Int) (x4 : Int) (M : Mem) (g23 : Int → Int → Mem → Res)  (ih23 : ∀ (ux3 ux4 : Int) (M : Mem), g23 ux3 ux4 M = some (r0, M0) → WM syC p l e rm_X9_everies s m args below meth c 5 D ad cA (MQ below (q_Post syC D ad cA (some (.int (qI r0))) M0) args s 0 0 (q_A syC ad)) M 23 [(0, .ref (ad 0)), (1, .int (qI x1)), (2, .int (qI x2)), (3, .int (qI ux3)), (4, .int (qI ux4))] []) (h : f_X9_everies_B23 x1 x2 x3 x4 M g23 = some (r0, M0)) : WM syC p l e rm_X9_everies s m args below meth c 5 D ad cA (MQ below (q_Post syC D ad cA (some (.int (qI r0))) M0) args s 0 0 (q_A syC ad)) M 23 [(0, .ref (ad 0)), (1, .int (qI x1)), (2, .int (qI x2)), (3, .int (qI x3)), (4, .int (qI x4))] [] := by
  unfold f_X9_everies_B23 at h
  refine r_il C dX9_everies_23 (k := 4) rfl ?_
  refine r_bi C dX9_everies_25 (by decide) ?_
  refine r_cgt C (tgt := 56) dX9_everies_27 (by decide) h (fun h => ?_) (fun h => ?_)
  · refine r_iln C dX9_everies_56 (k := 3) rfl ?_
    exact r_iret C hr hlk dX9_everies_57 h
  · refine r_aln C dX9_everies_30 (k := 0) rfl ?_
    refine r_iln C dX9_everies_31 (k := 2) rfl ?_
    refine r_iln C dX9_everies_32 (k := 1) rfl ?_
    refine r_il C dX9_everies_33 (k := 4) rfl ?_
    obtain ⟨r1, M2, hy, h⟩ := q_call_some h
    refine r_cvi C (st := []) (c_X9_isAllSo C.2.2.1 x2 x1 x4 M r1 M2 hy) tm_RX9_349 mw_X9_isAllSo ⟨rfl, rfl⟩ ⟨Nat.le_of_ble_eq_true rfl, Nat.le_of_ble_eq_true rfl⟩ kc_0 clX9 rfl rfl (Nat.le_of_ble_eq_true rfl) dX9_everies_35 ?_
    refine r_zeq C (tgt := 50) dX9_everies_38 (by decide) h (fun h => ?_) (fun h => ?_)
    · refine r_inc C (L1 := [(4, .int (qI (x4 + 1))), (0, .ref (ad 0)), (1, .int (qI x1)), (2, .int (qI x2)), (3, .int (qI x3))]) dX9_everies_50 (k := 4) rfl (by decide) rfl ?_
      refine r_goto C (tgt := 23) dX9_everies_53 (by decide) ?_
      refine r_drop [1, 2, 3, 4, 0] rfl ?_
      exact ih23 x3 (x4 + 1) M2 h
    · refine r_iln C dX9_everies_41 (k := 3) rfl ?_
      refine r_ic C dX9_everies_42 ?_
      refine r_il C dX9_everies_43 (k := 4) rfl ?_
      refine r_ic C dX9_everies_45 ?_
      refine r_isub C dX9_everies_46 ?_
      refine r_ishl C dX9_everies_47 ?_
      refine r_ior C dX9_everies_48 ?_
      refine r_isn C (L1 := [(3, .int (qI (q_or x3 (q_shl 1 (x4 - 1))))), (0, .ref (ad 0)), (1, .int (qI x1)), (2, .int (qI x2)), (4, .int (qI x4))]) dX9_everies_49 (by decide) rfl ?_
      refine r_inc C (L1 := [(4, .int (qI (x4 + 1))), (3, .int (qI (q_or x3 (q_shl 1 (x4 - 1))))), (0, .ref (ad 0)), (1, .int (qI x1)), (2, .int (qI x2))]) dX9_everies_50 (k := 4) rfl (by decide) rfl ?_
      refine r_goto C (tgt := 23) dX9_everies_53 (by decide) ?_
      refine r_drop [2, 3, 4, 1, 0] rfl ?_
      exact ih23 (q_or x3 (q_shl 1 (x4 - 1))) (x4 + 1) M2 h
theorem w_X9_everies_L23 (C : Cx syC p m c cX9_everies 5 s args RX9 D ad cA) (hr : meth.sig.returnType = (some .int)) (hlk : meth.locks = false)  (x1 : Int) (x2 : Int)  (n : Nat) (x3 : Int) (x4 : Int) (M : Mem) (h : f_X9_everies_L23 x1 x2 n x3 x4 M = some (r0, M0)) : WM syC p l e rm_X9_everies s m args below meth c 5 D ad cA (MQ below (q_Post syC D ad cA (some (.int (qI r0))) M0) args s 0 0 (q_A syC ad)) M 23 [(0, .ref (ad 0)), (1, .int (qI x1)), (2, .int (qI x2)), (3, .int (qI x3)), (4, .int (qI x4))] [] :=
  qlm2_r (Wp := fun ux3 ux4 M => WM syC p l e rm_X9_everies s m args below meth c 5 D ad cA (MQ below (q_Post syC D ad cA (some (.int (qI r0))) M0) args s 0 0 (q_A syC ad)) M 23 [(0, .ref (ad 0)), (1, .int (qI x1)), (2, .int (qI x2)), (3, .int (qI ux3)), (4, .int (qI ux4))] []) (fun ux3 ux4 M g23 ih23 h => w_X9_everies_B23 C hr hlk x1 x2 ux3 ux4 M g23  ih23 h) n x3 x4 M h
def f_X9_everies (a0 : Int) (M : Mem) : Res :=
  q_calp (f_X9_isBus a0 M) fun r1 =>
  if ¬ w32 r1 = 0 then (q_calp (f_X5_knownBits  M) fun r2 =>
  f_X9_everies_L23 a0 r2 q_N 0 1 M)
  else (some ((-1), M))
theorem c_X9_everies {l : Launch} {D : va_G} {ad : Nat → Nat} {cA : Nat → ClassId} (hi : q_inj syC ad) (a0 : Int) (M : Mem) (r0 : Int) (M0 : Mem) (h : f_X9_everies a0 M = some (r0, M0)) : q_Met l syC D ad cA yX9_everies cX9_everies 5 (some .int) rm_X9_everies [.ref (ad 0), .int (qI a0)] M (some (.int (qI r0))) M0 := by
  refine q_met (L0 := [(0, .ref (ad 0)), (1, .int (qI a0))]) hi okC (by decide) (Nat.le_of_ble_eq_true rfl) rfl ?_
  intro p e s m args below meth c C hr hlk
  unfold f_X9_everies at h
  refine r_aln C dX9_everies_0 (k := 0) rfl ?_
  refine r_iln C dX9_everies_1 (k := 1) rfl ?_
  obtain ⟨r1, hy, h⟩ := q_calp_some h
  refine r_cvi C (st := []) (c_X9_isBus C.2.2.1 a0 M r1 hy) tm_RX9_179 mw_X9_isBus ⟨rfl, rfl⟩ ⟨Nat.le_of_ble_eq_true rfl, Nat.le_of_ble_eq_true rfl⟩ kc_0 clX9 rfl rfl (Nat.le_of_ble_eq_true rfl) dX9_everies_2 ?_
  refine r_zne C (tgt := 10) dX9_everies_5 (by decide) h (fun h => ?_) (fun h => ?_)
  · refine r_aln C dX9_everies_10 (k := 0) rfl ?_
    refine r_gs C kc_0 clX9 (f := 10) (by decide) rfl (t := 9) rfl tf_RX9_71 dX9_everies_11 ?_
    obtain ⟨r2, hy, h⟩ := q_calp_some h
    refine r_cvi C (st := []) (c_X5_knownBits C.2.2.1 M r2 hy) tm_RX9_346 mw_X5_knownBits ⟨rfl, rfl⟩ ⟨Nat.le_of_ble_eq_true rfl, Nat.le_of_ble_eq_true rfl⟩ kc_9 clX5 rfl rfl (Nat.le_of_ble_eq_true rfl) dX9_everies_14 ?_
    refine r_isn C (L1 := [(2, .int (qI r2)), (0, .ref (ad 0)), (1, .int (qI a0))]) dX9_everies_17 (by decide) rfl ?_
    refine r_ic C dX9_everies_18 ?_
    refine r_isn C (L1 := [(3, .int (qI 0)), (2, .int (qI r2)), (0, .ref (ad 0)), (1, .int (qI a0))]) dX9_everies_19 (by decide) rfl ?_
    refine r_ic C dX9_everies_20 ?_
    refine r_is C (L1 := [(4, .int (qI 1)), (3, .int (qI 0)), (2, .int (qI r2)), (0, .ref (ad 0)), (1, .int (qI a0))]) dX9_everies_21 (by decide) rfl ?_
    refine r_drop [3, 4, 2, 1, 0] rfl ?_
    exact w_X9_everies_L23 C hr hlk a0 r2  q_N 0 1 M h
  · refine r_ic C dX9_everies_8 ?_
    exact r_iret C hr hlk dX9_everies_9 h
abbrev rm_X9_leftAtWorst : Room := { frames := 1, cells := 0, slots := 0, locals := 23 }
theorem mw_X9_leftAtWorst : q_ms yX9_leftAtWorst cX9_leftAtWorst 4 (some .int) 2 := ⟨⟨ts_X9_leftAtWorst, tn_RX9, td_X9_leftAtWorst⟩, by decide +kernel⟩
def f_X9_leftAtWorst_B4 (x0 : Int) (x1 : Int) (M : Mem) (x2 : Int) (x3 : Int) (g4 : Int → Int → Option Int) : Option Int :=
  if w32 30 < w32 x3 then (q_calp (f_J6_bitCount_0f7a4 x0 M) fun r1 =>
  some (q_max x2 (r1 - x2)))
  else (if w32 (q_and x0 (q_shl 1 (x3 - 1))) = 0 then (g4 x2 (x3 + 1))
  else (if w32 x1 < 0 then (g4 x2 (x3 + 1))
  else (q_nz x3 <| if ¬ w32 ((w32 x1).tmod (w32 x3)) = 0 then (g4 x2 (x3 + 1))
  else (g4 (x2 + 1) (x3 + 1)))))
def f_X9_leftAtWorst_L4 (x0 : Int) (x1 : Int) (M : Mem) (n : Nat) (x2 : Int) (x3 : Int) : Option Int := qlp2 (fun x2 x3 g4 => f_X9_leftAtWorst_B4 x0 x1 M x2 x3 g4) n x2 x3
theorem w_X9_leftAtWorst_B4 (C : Cx syC p m c cX9_leftAtWorst 4 s args RX9 D ad cA) (hr : meth.sig.returnType = (some .int)) (hlk : meth.locks = false)  (x0 : Int) (x1 : Int) (x2 : Int) (x3 : Int) (M : Mem) (g4 : Int → Int → Option Int)  (ih4 : ∀ (ux2 ux3 : Int) , g4 ux2 ux3  = some r0 → WM syC p l e rm_X9_leftAtWorst s m args below meth c 4 D ad cA (MQ below (q_Post syC D ad cA (some (.int (qI r0))) M) args s 0 0 (q_A syC ad)) M 4 [(0, .int (qI x0)), (1, .int (qI x1)), (2, .int (qI ux2)), (3, .int (qI ux3))] []) (h : f_X9_leftAtWorst_B4 x0 x1 M x2 x3 g4 = some r0) : WM syC p l e rm_X9_leftAtWorst s m args below meth c 4 D ad cA (MQ below (q_Post syC D ad cA (some (.int (qI r0))) M) args s 0 0 (q_A syC ad)) M 4 [(0, .int (qI x0)), (1, .int (qI x1)), (2, .int (qI x2)), (3, .int (qI x3))] [] := by
  unfold f_X9_leftAtWorst_B4 at h
  refine r_iln C dX9_leftAtWorst_4 (k := 3) rfl ?_
  refine r_bi C dX9_leftAtWorst_5 (by decide) ?_
  refine r_cgt C (tgt := 39) dX9_leftAtWorst_7 (by decide) h (fun h => ?_) (fun h => ?_)
  · refine r_iln C dX9_leftAtWorst_39 (k := 2) rfl ?_
    refine r_iln C dX9_leftAtWorst_40 (k := 0) rfl ?_
    obtain ⟨r1, hy, h⟩ := q_calp_some h
    refine r_csi C (st := [.int (qI x2)]) (c_J6_bitCount_0f7a4 C.2.2.1 C.2.2.2.1 x0 M r1 hy) tm_RX9_310 mw_J6_bitCount_0f7a4 ⟨rfl, rfl⟩ ⟨Nat.le_of_ble_eq_true rfl, Nat.le_of_ble_eq_true rfl⟩ rfl rfl (Nat.le_of_ble_eq_true rfl) dX9_leftAtWorst_41 ?_
    refine r_iln C dX9_leftAtWorst_44 (k := 2) rfl ?_
    refine r_isub C dX9_leftAtWorst_45 ?_
    refine r_q_max C (st := []) tm_RX9_275 ⟨Nat.le_of_ble_eq_true rfl, Nat.le_of_ble_eq_true rfl⟩ dX9_leftAtWorst_46 ?_
    exact r_iretp C hr hlk dX9_leftAtWorst_49 h
  · refine r_iln C dX9_leftAtWorst_10 (k := 0) rfl ?_
    refine r_ic C dX9_leftAtWorst_11 ?_
    refine r_iln C dX9_leftAtWorst_12 (k := 3) rfl ?_
    refine r_ic C dX9_leftAtWorst_13 ?_
    refine r_isub C dX9_leftAtWorst_14 ?_
    refine r_ishl C dX9_leftAtWorst_15 ?_
    refine r_iand C dX9_leftAtWorst_16 ?_
    refine r_zeq C (tgt := 33) dX9_leftAtWorst_17 (by decide) h (fun h => ?_) (fun h => ?_)
    · refine r_inc C (L1 := [(3, .int (qI (x3 + 1))), (0, .int (qI x0)), (1, .int (qI x1)), (2, .int (qI x2))]) dX9_leftAtWorst_33 (k := 3) rfl (by decide) rfl ?_
      refine r_goto C (tgt := 4) dX9_leftAtWorst_36 (by decide) ?_
      refine r_drop [1, 2, 3, 0] rfl ?_
      exact ih4 x2 (x3 + 1)  h
    · refine r_iln C dX9_leftAtWorst_20 (k := 1) rfl ?_
      refine r_zlt C (tgt := 33) dX9_leftAtWorst_21 (by decide) h (fun h => ?_) (fun h => ?_)
      · refine r_inc C (L1 := [(3, .int (qI (x3 + 1))), (0, .int (qI x0)), (1, .int (qI x1)), (2, .int (qI x2))]) dX9_leftAtWorst_33 (k := 3) rfl (by decide) rfl ?_
        refine r_goto C (tgt := 4) dX9_leftAtWorst_36 (by decide) ?_
        refine r_drop [1, 2, 3, 0] rfl ?_
        exact ih4 x2 (x3 + 1)  h
      · refine r_iln C dX9_leftAtWorst_24 (k := 1) rfl ?_
        refine r_iln C dX9_leftAtWorst_25 (k := 3) rfl ?_
        refine r_irem C dX9_leftAtWorst_26 h (fun h => ?_)
        refine r_zne C (tgt := 33) dX9_leftAtWorst_27 (by decide) h (fun h => ?_) (fun h => ?_)
        · refine r_inc C (L1 := [(3, .int (qI (x3 + 1))), (0, .int (qI x0)), (1, .int (qI x1)), (2, .int (qI x2))]) dX9_leftAtWorst_33 (k := 3) rfl (by decide) rfl ?_
          refine r_goto C (tgt := 4) dX9_leftAtWorst_36 (by decide) ?_
          refine r_drop [1, 2, 3, 0] rfl ?_
          exact ih4 x2 (x3 + 1)  h
        · refine r_inc C (L1 := [(2, .int (qI (x2 + 1))), (0, .int (qI x0)), (1, .int (qI x1)), (3, .int (qI x3))]) dX9_leftAtWorst_30 (k := 2) rfl (by decide) rfl ?_
          refine r_inc C (L1 := [(3, .int (qI (x3 + 1))), (2, .int (qI (x2 + 1))), (0, .int (qI x0)), (1, .int (qI x1))]) dX9_leftAtWorst_33 (k := 3) rfl (by decide) rfl ?_
          refine r_goto C (tgt := 4) dX9_leftAtWorst_36 (by decide) ?_
          refine r_drop [2, 3, 1, 0] rfl ?_
          exact ih4 (x2 + 1) (x3 + 1)  h
theorem w_X9_leftAtWorst_L4 (C : Cx syC p m c cX9_leftAtWorst 4 s args RX9 D ad cA) (hr : meth.sig.returnType = (some .int)) (hlk : meth.locks = false)  (x0 : Int) (x1 : Int) (M : Mem)  (n : Nat) (x2 : Int) (x3 : Int) (h : f_X9_leftAtWorst_L4 x0 x1 M n x2 x3 = some r0) : WM syC p l e rm_X9_leftAtWorst s m args below meth c 4 D ad cA (MQ below (q_Post syC D ad cA (some (.int (qI r0))) M) args s 0 0 (q_A syC ad)) M 4 [(0, .int (qI x0)), (1, .int (qI x1)), (2, .int (qI x2)), (3, .int (qI x3))] [] :=
  qlp2_r (Wp := fun ux2 ux3 => WM syC p l e rm_X9_leftAtWorst s m args below meth c 4 D ad cA (MQ below (q_Post syC D ad cA (some (.int (qI r0))) M) args s 0 0 (q_A syC ad)) M 4 [(0, .int (qI x0)), (1, .int (qI x1)), (2, .int (qI ux2)), (3, .int (qI ux3))] []) (fun ux2 ux3 g4 ih4 h => w_X9_leftAtWorst_B4 C hr hlk x0 x1 ux2 ux3 M g4  ih4 h) n x2 x3 h
def f_X9_leftAtWorst (a0 : Int) (a1 : Int) (M : Mem) : Option Int :=
  f_X9_leftAtWorst_L4 a0 a1 M q_N 0 1
theorem c_X9_leftAtWorst {l : Launch} {D : va_G} {ad : Nat → Nat} {cA : Nat → ClassId} (hi : q_inj syC ad) (a0 : Int) (a1 : Int) (M : Mem) (r0 : Int) (h : f_X9_leftAtWorst a0 a1 M = some r0) : q_Met l syC D ad cA yX9_leftAtWorst cX9_leftAtWorst 4 (some .int) rm_X9_leftAtWorst [.int (qI a0), .int (qI a1)] M (some (.int (qI r0))) M := by
  refine q_met (L0 := [(0, .int (qI a0)), (1, .int (qI a1))]) hi okC (by decide) (Nat.le_of_ble_eq_true rfl) rfl ?_
  intro p e s m args below meth c C hr hlk
  unfold f_X9_leftAtWorst at h
  refine r_ic C dX9_leftAtWorst_0 ?_
  refine r_isn C (L1 := [(2, .int (qI 0)), (0, .int (qI a0)), (1, .int (qI a1))]) dX9_leftAtWorst_1 (by decide) rfl ?_
  refine r_ic C dX9_leftAtWorst_2 ?_
  refine r_isn C (L1 := [(3, .int (qI 1)), (2, .int (qI 0)), (0, .int (qI a0)), (1, .int (qI a1))]) dX9_leftAtWorst_3 (by decide) rfl ?_
  refine r_drop [2, 3, 1, 0] rfl ?_
  exact w_X9_leftAtWorst_L4 C hr hlk a0 a1 M  q_N 0 1 h
abbrev rm_X9_ask : Room := { frames := 7, cells := 0, slots := 0, locals := 177 }
theorem mw_X9_ask : q_mw RX9 yX9_ask cX9_ask 8 (some .int) 2 := ⟨⟨ti_X9_ask, tl_X9_ask, tn_RX9, td_X9_ask⟩, by decide +kernel⟩
def f_X9_ask_B35 (x1 : Int) (x2 : Int) (x3 : Int) (M : Mem) (x4 : Int) (x5 : Int) (x6 : Int) (g35 : Int → Int → Int → Res) : Res :=
  if w32 60 < w32 x6 then (if ¬ w32 x2 = 0 then (some (x5, M))
  else (some (x4, M)))
  else (q_gr M 0 3 fun t1 =>
  q_al M (32 * (t1 + 1) + 9) 4 x1 fun v2 =>
  q_calp (f_X9_leftAtWorst x3 (x6 - v2) M) fun r3 =>
  if w32 x5 ≤ w32 r3 then (g35 x4 x5 (x6 + 1))
  else (g35 x6 r3 (x6 + 1)))
def f_X9_ask_L35 (x1 : Int) (x2 : Int) (x3 : Int) (M : Mem) (n : Nat) (x4 : Int) (x5 : Int) (x6 : Int) : Res := qlp3 (fun x4 x5 x6 g35 => f_X9_ask_B35 x1 x2 x3 M x4 x5 x6 g35) n x4 x5 x6
theorem w_X9_ask_B35 (C : Cx syC p m c cX9_ask 8 s args RX9 D ad cA) (hr : meth.sig.returnType = (some .int)) (hlk : meth.locks = false)  (x1 : Int) (x2 : Int) (x3 : Int) (x4 : Int) (x5 : Int) (x6 : Int) (M : Mem) (g35 : Int → Int → Int → Res)  (ih35 : ∀ (ux4 ux5 ux6 : Int) , g35 ux4 ux5 ux6  = some (r0, M0) → WM syC p l e rm_X9_ask s m args below meth c 8 D ad cA (MQ below (q_Post syC D ad cA (some (.int (qI r0))) M0) args s 0 0 (q_A syC ad)) M 35 [(0, .ref (ad 0)), (1, .int (qI x1)), (2, .int (qI x2)), (3, .int (qI x3)), (4, .int (qI ux4)), (5, .int (qI ux5)), (6, .int (qI ux6))] []) (h : f_X9_ask_B35 x1 x2 x3 M x4 x5 x6 g35 = some (r0, M0)) : WM syC p l e rm_X9_ask s m args below meth c 8 D ad cA (MQ below (q_Post syC D ad cA (some (.int (qI r0))) M0) args s 0 0 (q_A syC ad)) M 35 [(0, .ref (ad 0)), (1, .int (qI x1)), (2, .int (qI x2)), (3, .int (qI x3)), (4, .int (qI x4)), (5, .int (qI x5)), (6, .int (qI x6))] [] := by
  unfold f_X9_ask_B35 at h
  refine r_il C dX9_ask_35 (k := 6) rfl ?_
  refine r_bi C dX9_ask_37 (by decide) ?_
  refine r_cgt C (tgt := 81) dX9_ask_39 (by decide) h (fun h => ?_) (fun h => ?_)
  · refine r_iln C dX9_ask_81 (k := 2) rfl ?_
    refine r_zne C (tgt := 90) dX9_ask_82 (by decide) h (fun h => ?_) (fun h => ?_)
    · refine r_il C dX9_ask_90 (k := 5) rfl ?_
      exact r_iret C hr hlk dX9_ask_92 h
    · refine r_il C dX9_ask_85 (k := 4) rfl ?_
      refine r_goto C (tgt := 92) dX9_ask_87 (by decide) ?_
      exact r_iret C hr hlk dX9_ask_92 h
  · refine r_iln C dX9_ask_42 (k := 3) rfl ?_
    refine r_il C dX9_ask_43 (k := 6) rfl ?_
    refine r_aln C dX9_ask_45 (k := 0) rfl ?_
    refine r_gr C kc_0 clX9 (f := 3) (fz := 3) (Pp := isT) (by decide) rfl rfl (fun q => q.1) tf_RX9_31 dX9_ask_46 h (fun t1 ht1 h => ?_)
    refine r_gs C (kT ht1) clX8 (f := 9) (by decide) rfl (t := (32 * (t1 + 1) + 9)) rfl tf_RX9_182 dX9_ask_49 ?_
    refine r_iln C dX9_ask_52 (k := 1) rfl ?_
    refine r_iald C (kT_9 ht1) dX9_ask_53 h (fun v2 h => ?_)
    refine r_isub C dX9_ask_54 ?_
    obtain ⟨r3, hy, h⟩ := q_calp_some h
    refine r_csi C (st := []) (c_X9_leftAtWorst C.2.2.1 x3 (x6 - v2) M r3 hy) tm_RX9_369 mw_X9_leftAtWorst ⟨rfl, rfl⟩ ⟨Nat.le_of_ble_eq_true rfl, Nat.le_of_ble_eq_true rfl⟩ rfl rfl (Nat.le_of_ble_eq_true rfl) dX9_ask_55 ?_
    refine r_is C (L1 := [(7, .int (qI r3)), (0, .ref (ad 0)), (1, .int (qI x1)), (2, .int (qI x2)), (3, .int (qI x3)), (4, .int (qI x4)), (5, .int (qI x5)), (6, .int (qI x6))]) dX9_ask_58 (by decide) rfl ?_
    refine r_il C dX9_ask_60 (k := 0) rfl ?_
    refine r_il C dX9_ask_62 (k := 6) rfl ?_
    refine r_cge C (tgt := 75) dX9_ask_64 (by decide) h (fun h => ?_) (fun h => ?_)
    · refine r_inc C (L1 := [(6, .int (qI (x6 + 1))), (7, .int (qI r3)), (0, .ref (ad 0)), (1, .int (qI x1)), (2, .int (qI x2)), (3, .int (qI x3)), (4, .int (qI x4)), (5, .int (qI x5))]) dX9_ask_75 (k := 7) rfl (by decide) rfl ?_
      refine r_goto C (tgt := 35) dX9_ask_78 (by decide) ?_
      refine r_drop [2, 3, 4, 5, 6, 7, 0] rfl ?_
      exact ih35 x4 x5 (x6 + 1)  h
    · refine r_il C dX9_ask_67 (k := 0) rfl ?_
      refine r_is C (L1 := [(5, .int (qI r3)), (7, .int (qI r3)), (0, .ref (ad 0)), (1, .int (qI x1)), (2, .int (qI x2)), (3, .int (qI x3)), (4, .int (qI x4)), (6, .int (qI x6))]) dX9_ask_69 (by decide) rfl ?_
      refine r_il C dX9_ask_71 (k := 7) rfl ?_
      refine r_is C (L1 := [(4, .int (qI x6)), (5, .int (qI r3)), (7, .int (qI r3)), (0, .ref (ad 0)), (1, .int (qI x1)), (2, .int (qI x2)), (3, .int (qI x3)), (6, .int (qI x6))]) dX9_ask_73 (by decide) rfl ?_
      refine r_inc C (L1 := [(6, .int (qI (x6 + 1))), (4, .int (qI x6)), (5, .int (qI r3)), (7, .int (qI r3)), (0, .ref (ad 0)), (1, .int (qI x1)), (2, .int (qI x2)), (3, .int (qI x3))]) dX9_ask_75 (k := 7) rfl (by decide) rfl ?_
      refine r_goto C (tgt := 35) dX9_ask_78 (by decide) ?_
      refine r_drop [4, 5, 6, 7, 1, 2, 0] rfl ?_
      exact ih35 x6 r3 (x6 + 1)  h
theorem w_X9_ask_L35 (C : Cx syC p m c cX9_ask 8 s args RX9 D ad cA) (hr : meth.sig.returnType = (some .int)) (hlk : meth.locks = false)  (x1 : Int) (x2 : Int) (x3 : Int) (M : Mem)  (n : Nat) (x4 : Int) (x5 : Int) (x6 : Int) (h : f_X9_ask_L35 x1 x2 x3 M n x4 x5 x6 = some (r0, M0)) : WM syC p l e rm_X9_ask s m args below meth c 8 D ad cA (MQ below (q_Post syC D ad cA (some (.int (qI r0))) M0) args s 0 0 (q_A syC ad)) M 35 [(0, .ref (ad 0)), (1, .int (qI x1)), (2, .int (qI x2)), (3, .int (qI x3)), (4, .int (qI x4)), (5, .int (qI x5)), (6, .int (qI x6))] [] :=
  qlp3_r (Wp := fun ux4 ux5 ux6 => WM syC p l e rm_X9_ask s m args below meth c 8 D ad cA (MQ below (q_Post syC D ad cA (some (.int (qI r0))) M0) args s 0 0 (q_A syC ad)) M 35 [(0, .ref (ad 0)), (1, .int (qI x1)), (2, .int (qI x2)), (3, .int (qI x3)), (4, .int (qI ux4)), (5, .int (qI ux5)), (6, .int (qI ux6))] []) (fun ux4 ux5 ux6 g35 ih35 h => w_X9_ask_B35 C hr hlk x1 x2 x3 ux4 ux5 ux6 M g35  ih35 h) n x4 x5 x6 h
def f_X9_ask (a0 : Int) (a1 : Int) (M : Mem) : Res :=
  q_calp (f_X9_isBus a0 M) fun r1 =>
  if w32 r1 = 0 then (some ((-1), M))
  else (if w32 a1 < 0 then (some ((-1), M))
  else (if w32 a1 ≤ w32 1 then (q_call (f_X9_everies a0 M) fun r2 M3 =>
  f_X9_ask_L35 a0 a1 r2 M3 q_N 0 31 0)
  else (some ((-1), M))))
theorem c_X9_ask {l : Launch} {D : va_G} {ad : Nat → Nat} {cA : Nat → ClassId} (hi : q_inj syC ad) (a0 : Int) (a1 : Int) (M : Mem) (r0 : Int) (M0 : Mem) (h : f_X9_ask a0 a1 M = some (r0, M0)) : q_Met l syC D ad cA yX9_ask cX9_ask 8 (some .int) rm_X9_ask [.ref (ad 0), .int (qI a0), .int (qI a1)] M (some (.int (qI r0))) M0 := by
  refine q_met (L0 := [(0, .ref (ad 0)), (1, .int (qI a0)), (2, .int (qI a1))]) hi okC (by decide) (Nat.le_of_ble_eq_true rfl) rfl ?_
  intro p e s m args below meth c C hr hlk
  unfold f_X9_ask at h
  refine r_aln C dX9_ask_0 (k := 0) rfl ?_
  refine r_iln C dX9_ask_1 (k := 1) rfl ?_
  obtain ⟨r1, hy, h⟩ := q_calp_some h
  refine r_cvi C (st := []) (c_X9_isBus C.2.2.1 a0 M r1 hy) tm_RX9_179 mw_X9_isBus ⟨rfl, rfl⟩ ⟨Nat.le_of_ble_eq_true rfl, Nat.le_of_ble_eq_true rfl⟩ kc_0 clX9 rfl rfl (Nat.le_of_ble_eq_true rfl) dX9_ask_2 ?_
  refine r_zeq C (tgt := 17) dX9_ask_5 (by decide) h (fun h => ?_) (fun h => ?_)
  · refine r_ic C dX9_ask_17 ?_
    exact r_iret C hr hlk dX9_ask_18 h
  · refine r_iln C dX9_ask_8 (k := 2) rfl ?_
    refine r_zlt C (tgt := 17) dX9_ask_9 (by decide) h (fun h => ?_) (fun h => ?_)
    · refine r_ic C dX9_ask_17 ?_
      exact r_iret C hr hlk dX9_ask_18 h
    · refine r_iln C dX9_ask_12 (k := 2) rfl ?_
      refine r_ic C dX9_ask_13 ?_
      refine r_cle C (tgt := 19) dX9_ask_14 (by decide) h (fun h => ?_) (fun h => ?_)
      · refine r_aln C dX9_ask_19 (k := 0) rfl ?_
        refine r_iln C dX9_ask_20 (k := 1) rfl ?_
        obtain ⟨r2, M3, hy, h⟩ := q_call_some h
        refine r_cvi C (st := []) (c_X9_everies C.2.2.1 a0 M r2 M3 hy) tm_RX9_366 mw_X9_everies ⟨rfl, rfl⟩ ⟨Nat.le_of_ble_eq_true rfl, Nat.le_of_ble_eq_true rfl⟩ kc_0 clX9 rfl rfl (Nat.le_of_ble_eq_true rfl) dX9_ask_21 ?_
        refine r_isn C (L1 := [(3, .int (qI r2)), (0, .ref (ad 0)), (1, .int (qI a0)), (2, .int (qI a1))]) dX9_ask_24 (by decide) rfl ?_
        refine r_ic C dX9_ask_25 ?_
        refine r_is C (L1 := [(4, .int (qI 0)), (3, .int (qI r2)), (0, .ref (ad 0)), (1, .int (qI a0)), (2, .int (qI a1))]) dX9_ask_26 (by decide) rfl ?_
        refine r_bi C dX9_ask_28 (by decide) ?_
        refine r_is C (L1 := [(5, .int (qI 31)), (4, .int (qI 0)), (3, .int (qI r2)), (0, .ref (ad 0)), (1, .int (qI a0)), (2, .int (qI a1))]) dX9_ask_30 (by decide) rfl ?_
        refine r_ic C dX9_ask_32 ?_
        refine r_is C (L1 := [(6, .int (qI 0)), (5, .int (qI 31)), (4, .int (qI 0)), (3, .int (qI r2)), (0, .ref (ad 0)), (1, .int (qI a0)), (2, .int (qI a1))]) dX9_ask_33 (by decide) rfl ?_
        refine r_drop [4, 5, 6, 3, 2, 1, 0] rfl ?_
        exact w_X9_ask_L35 C hr hlk a0 a1 r2 M3  q_N 0 31 0 h
      · refine r_ic C dX9_ask_17 ?_
        exact r_iret C hr hlk dX9_ask_18 h
abbrev rm_X9_back : Room := { frames := 1, cells := 0, slots := 0, locals := 22 }
theorem mw_X9_back : q_mw RX9 yX9_back cX9_back 1 (some .int) 0 := ⟨⟨ti_X9_back, tl_X9_back, tn_RX9, td_X9_back⟩, by decide +kernel⟩
def f_X9_back  (M : Mem) : Res :=
  q_gf M 0 7 fun v1 =>
  if ¬ w32 v1 = 0 then (q_call (f_X6_copy 4 6 M) fun r2 M3 =>
  q_pf M3 8 3 0 fun M4 =>
  q_gf M4 4 0 fun v5 =>
  some (v5, M4))
  else (some ((-1), M))
theorem c_X9_back {l : Launch} {D : va_G} {ad : Nat → Nat} {cA : Nat → ClassId} (hi : q_inj syC ad)  (M : Mem) (r0 : Int) (M0 : Mem) (h : f_X9_back  M = some (r0, M0)) : q_Met l syC D ad cA yX9_back cX9_back 1 (some .int) rm_X9_back [.ref (ad 0)] M (some (.int (qI r0))) M0 := by
  refine q_met (L0 := [(0, .ref (ad 0))]) hi okC (by decide) (Nat.le_of_ble_eq_true rfl) rfl ?_
  intro p e s m args below meth c C hr hlk
  unfold f_X9_back at h
  refine r_aln C dX9_back_0 (k := 0) rfl ?_
  refine r_gf C kc_0 clX9 (f := 7) (by decide) rfl rfl rfl tf_RX9_48 dX9_back_1 h (fun v1 h => ?_)
  refine r_zne C (tgt := 9) dX9_back_4 (by decide) h (fun h => ?_) (fun h => ?_)
  · refine r_aln C dX9_back_9 (k := 0) rfl ?_
    refine r_gs C kc_0 clX9 (f := 4) (by decide) rfl (t := 4) rfl tf_RX9_38 dX9_back_10 ?_
    refine r_aln C dX9_back_13 (k := 0) rfl ?_
    refine r_gs C kc_0 clX9 (f := 6) (by decide) rfl (t := 6) rfl tf_RX9_45 dX9_back_14 ?_
    obtain ⟨r2, M3, hy, h⟩ := q_call_some h
    refine r_cvv C (st := []) (c_X6_copy C.2.2.1 4 6 (by unfold isS; omega) (by unfold isS; omega) M r2 M3 hy) tm_RX9_254 mw_X6_copy ⟨rfl, rfl⟩ ⟨Nat.le_of_ble_eq_true rfl, Nat.le_of_ble_eq_true rfl⟩ kc_4 clX6 rfl rfl (Nat.le_of_ble_eq_true rfl) dX9_back_17 ?_
    refine r_aln C dX9_back_20 (k := 0) rfl ?_
    refine r_gs C kc_0 clX9 (f := 9) (by decide) rfl (t := 8) rfl tf_RX9_64 dX9_back_21 ?_
    refine r_ic C dX9_back_24 ?_
    refine r_pf C kc_8 clX0 (f := 3) (by decide) rfl q_dI rfl rfl tf_RX9_110 dX9_back_25 h (fun M4 h => ?_)
    refine r_aln C dX9_back_28 (k := 0) rfl ?_
    refine r_gs C kc_0 clX9 (f := 4) (by decide) rfl (t := 4) rfl tf_RX9_38 dX9_back_29 ?_
    refine r_gf C kc_4 clX6 (f := 0) (by decide) rfl rfl rfl tf_RX9_245 dX9_back_32 h (fun v5 h => ?_)
    exact r_iret C hr hlk dX9_back_35 h
  · refine r_ic C dX9_back_7 ?_
    exact r_iret C hr hlk dX9_back_8 h
abbrev rm_X9_power : Room := { frames := 0, cells := 0, slots := 0, locals := 0 }
theorem mw_X9_power : q_ms yX9_power cX9_power 4 (some .int) 2 := ⟨⟨ts_X9_power, tn_RX9, td_X9_power⟩, by decide +kernel⟩
def f_X9_power_B4 (x0 : Int) (x1 : Int) (M : Mem) (x2 : Int) (x3 : Int) (g4 : Int → Int → Option Int) : Option Int :=
  if w32 x1 ≤ w32 x3 then (some x2)
  else (g4 (x2 * x0) (x3 + 1))
def f_X9_power_L4 (x0 : Int) (x1 : Int) (M : Mem) (n : Nat) (x2 : Int) (x3 : Int) : Option Int := qlp2 (fun x2 x3 g4 => f_X9_power_B4 x0 x1 M x2 x3 g4) n x2 x3
theorem w_X9_power_B4 (C : Cx syC p m c cX9_power 4 s args RX9 D ad cA) (hr : meth.sig.returnType = (some .int)) (hlk : meth.locks = false)  (x0 : Int) (x1 : Int) (x2 : Int) (x3 : Int) (M : Mem) (g4 : Int → Int → Option Int)  (ih4 : ∀ (ux2 ux3 : Int) , g4 ux2 ux3  = some r0 → WM syC p l e rm_X9_power s m args below meth c 4 D ad cA (MQ below (q_Post syC D ad cA (some (.int (qI r0))) M) args s 0 0 (q_A syC ad)) M 4 [(0, .int (qI x0)), (1, .int (qI x1)), (2, .int (qI ux2)), (3, .int (qI ux3))] []) (h : f_X9_power_B4 x0 x1 M x2 x3 g4 = some r0) : WM syC p l e rm_X9_power s m args below meth c 4 D ad cA (MQ below (q_Post syC D ad cA (some (.int (qI r0))) M) args s 0 0 (q_A syC ad)) M 4 [(0, .int (qI x0)), (1, .int (qI x1)), (2, .int (qI x2)), (3, .int (qI x3))] [] := by
  unfold f_X9_power_B4 at h
  refine r_iln C dX9_power_4 (k := 3) rfl ?_
  refine r_iln C dX9_power_5 (k := 1) rfl ?_
  refine r_cge C (tgt := 19) dX9_power_6 (by decide) h (fun h => ?_) (fun h => ?_)
  · refine r_iln C dX9_power_19 (k := 2) rfl ?_
    exact r_iretp C hr hlk dX9_power_20 h
  · refine r_iln C dX9_power_9 (k := 2) rfl ?_
    refine r_iln C dX9_power_10 (k := 0) rfl ?_
    refine r_imul C dX9_power_11 ?_
    refine r_isn C (L1 := [(2, .int (qI (x2 * x0))), (0, .int (qI x0)), (1, .int (qI x1)), (3, .int (qI x3))]) dX9_power_12 (by decide) rfl ?_
    refine r_inc C (L1 := [(3, .int (qI (x3 + 1))), (2, .int (qI (x2 * x0))), (0, .int (qI x0)), (1, .int (qI x1))]) dX9_power_13 (k := 3) rfl (by decide) rfl ?_
    refine r_goto C (tgt := 4) dX9_power_16 (by decide) ?_
    refine r_drop [2, 3, 1, 0] rfl ?_
    exact ih4 (x2 * x0) (x3 + 1)  h
theorem w_X9_power_L4 (C : Cx syC p m c cX9_power 4 s args RX9 D ad cA) (hr : meth.sig.returnType = (some .int)) (hlk : meth.locks = false)  (x0 : Int) (x1 : Int) (M : Mem)  (n : Nat) (x2 : Int) (x3 : Int) (h : f_X9_power_L4 x0 x1 M n x2 x3 = some r0) : WM syC p l e rm_X9_power s m args below meth c 4 D ad cA (MQ below (q_Post syC D ad cA (some (.int (qI r0))) M) args s 0 0 (q_A syC ad)) M 4 [(0, .int (qI x0)), (1, .int (qI x1)), (2, .int (qI x2)), (3, .int (qI x3))] [] :=
  qlp2_r (Wp := fun ux2 ux3 => WM syC p l e rm_X9_power s m args below meth c 4 D ad cA (MQ below (q_Post syC D ad cA (some (.int (qI r0))) M) args s 0 0 (q_A syC ad)) M 4 [(0, .int (qI x0)), (1, .int (qI x1)), (2, .int (qI ux2)), (3, .int (qI ux3))] []) (fun ux2 ux3 g4 ih4 h => w_X9_power_B4 C hr hlk x0 x1 ux2 ux3 M g4  ih4 h) n x2 x3 h
def f_X9_power (a0 : Int) (a1 : Int) (M : Mem) : Option Int :=
  f_X9_power_L4 a0 a1 M q_N 1 0
theorem c_X9_power {l : Launch} {D : va_G} {ad : Nat → Nat} {cA : Nat → ClassId} (hi : q_inj syC ad) (a0 : Int) (a1 : Int) (M : Mem) (r0 : Int) (h : f_X9_power a0 a1 M = some r0) : q_Met l syC D ad cA yX9_power cX9_power 4 (some .int) rm_X9_power [.int (qI a0), .int (qI a1)] M (some (.int (qI r0))) M := by
  refine q_met (L0 := [(0, .int (qI a0)), (1, .int (qI a1))]) hi okC (by decide) (Nat.le_of_ble_eq_true rfl) rfl ?_
  intro p e s m args below meth c C hr hlk
  unfold f_X9_power at h
  refine r_ic C dX9_power_0 ?_
  refine r_isn C (L1 := [(2, .int (qI 1)), (0, .int (qI a0)), (1, .int (qI a1))]) dX9_power_1 (by decide) rfl ?_
  refine r_ic C dX9_power_2 ?_
  refine r_isn C (L1 := [(3, .int (qI 0)), (2, .int (qI 1)), (0, .int (qI a0)), (1, .int (qI a1))]) dX9_power_3 (by decide) rfl ?_
  refine r_drop [2, 3, 1, 0] rfl ?_
  exact w_X9_power_L4 C hr hlk a0 a1 M  q_N 1 0 h
abbrev rm_X9_pickMatch : Room := { frames := 0, cells := 0, slots := 0, locals := 0 }
theorem mw_X9_pickMatch : q_mw RX9 yX9_pickMatch cX9_pickMatch 8 (some .int) 1 := ⟨⟨ti_X9_pickMatch, tl_X9_pickMatch, tn_RX9, td_X9_pickMatch⟩, by decide +kernel⟩
def f_X9_pickMatch_B18  (x2 : Int) (x3 : Int) (x4 : Int) (x5 : Int) (M : Mem) (g18 : Int → Int → Int → Int → Mem → Res) : Res :=
  if w32 x5 < 0 then (some (x4, M))
  else (q_nz 9 <| q_nz 9 <| q_as M 44 4 x5 ((w32 x2).tmod (w32 9)) fun M1 =>
  if w32 8 ≤ w32 ((w32 x2).tmod (w32 9)) then (g18 ((w32 x2).tdiv (w32 9)) x3 x4 (x5 + (-1)) M1)
  else (if ¬ w32 (q_and x3 (q_shl 1 ((w32 x2).tmod (w32 9)))) = 0 then (some ((-1), M1))
  else (q_al M1 46 4 x5 fun v2 =>
  if ¬ w32 (q_and v2 (q_shl 1 ((w32 x2).tmod (w32 9)))) = 0 then (q_let (q_or x3 (q_shl 1 ((w32 x2).tmod (w32 9)))) fun v3 =>
  q_gr M1 0 3 fun t4 =>
  q_al M1 (32 * (t4 + 1) + 3) 8 ((w32 x2).tmod (w32 9)) fun v5 =>
  g18 ((w32 x2).tdiv (w32 9)) v3 (x4 + v5) (x5 + (-1)) M1)
  else (some ((-1), M1)))))
def f_X9_pickMatch_L18  (n : Nat) (x2 : Int) (x3 : Int) (x4 : Int) (x5 : Int) (M : Mem) : Res := qlm4 (fun x2 x3 x4 x5 M g18 => f_X9_pickMatch_B18  x2 x3 x4 x5 M g18) n x2 x3 x4 x5 M
theorem w_X9_pickMatch_B18 (C : Cx syC p m c cX9_pickMatch 8 s args RX9 D ad cA) (hr : meth.sig.returnType = (some .int)) (hlk : meth.locks = false)  (x2 : Int) (x3 : Int) (x4 : Int) (x5 : Int) (M : Mem) (g18 : Int → Int → Int → Int → Mem → Res)  (ih18 : ∀ (ux2 ux3 ux4 ux5 : Int) (M : Mem), g18 ux2 ux3 ux4 ux5 M = some (r0, M0) → WM syC p l e rm_X9_pickMatch s m args below meth c 8 D ad cA (MQ below (q_Post syC D ad cA (some (.int (qI r0))) M0) args s 0 0 (q_A syC ad)) M 18 [(0, .ref (ad 0)), (2, .int (qI ux2)), (3, .int (qI ux3)), (4, .int (qI ux4)), (5, .int (qI ux5))] []) (h : f_X9_pickMatch_B18  x2 x3 x4 x5 M g18 = some (r0, M0)) : WM syC p l e rm_X9_pickMatch s m args below meth c 8 D ad cA (MQ below (q_Post syC D ad cA (some (.int (qI r0))) M0) args s 0 0 (q_A syC ad)) M 18 [(0, .ref (ad 0)), (2, .int (qI x2)), (3, .int (qI x3)), (4, .int (qI x4)), (5, .int (qI x5))] [] := by
  unfold f_X9_pickMatch_B18 at h
  refine r_il C dX9_pickMatch_18 (k := 4) rfl ?_
  refine r_zlt C (tgt := 104) dX9_pickMatch_20 (by decide) h (fun h => ?_) (fun h => ?_)
  · refine r_il C dX9_pickMatch_104 (k := 3) rfl ?_
    exact r_iret C hr hlk dX9_pickMatch_106 h
  · refine r_iln C dX9_pickMatch_23 (k := 1) rfl ?_
    refine r_bi C dX9_pickMatch_24 (by decide) ?_
    refine r_irem C dX9_pickMatch_26 h (fun h => ?_)
    refine r_is C (L1 := [(6, .int (qI ((w32 x2).tmod (w32 9)))), (0, .ref (ad 0)), (2, .int (qI x2)), (3, .int (qI x3)), (4, .int (qI x4)), (5, .int (qI x5))]) dX9_pickMatch_27 (by decide) rfl ?_
    refine r_iln C dX9_pickMatch_29 (k := 2) rfl ?_
    refine r_bi C dX9_pickMatch_30 (by decide) ?_
    refine r_idiv C dX9_pickMatch_32 h (fun h => ?_)
    refine r_isn C (L1 := [(2, .int (qI ((w32 x2).tdiv (w32 9)))), (6, .int (qI ((w32 x2).tmod (w32 9)))), (0, .ref (ad 0)), (3, .int (qI x3)), (4, .int (qI x4)), (5, .int (qI x5))]) dX9_pickMatch_33 (by decide) rfl ?_
    refine r_aln C dX9_pickMatch_34 (k := 2) rfl ?_
    refine r_gs C kc_0 clX9 (f := 12) (by decide) rfl (t := 44) rfl tf_RX9_79 dX9_pickMatch_35 ?_
    refine r_il C dX9_pickMatch_38 (k := 5) rfl ?_
    refine r_il C dX9_pickMatch_40 (k := 1) rfl ?_
    refine r_iast C kc_44 dX9_pickMatch_42 h (fun M1 h => ?_)
    refine r_il C dX9_pickMatch_43 (k := 1) rfl ?_
    refine r_bi C dX9_pickMatch_45 (by decide) ?_
    refine r_cge C (tgt := 98) dX9_pickMatch_47 (by decide) h (fun h => ?_) (fun h => ?_)
    · refine r_inc C (L1 := [(5, .int (qI (x5 + (-1)))), (2, .int (qI ((w32 x2).tdiv (w32 9)))), (6, .int (qI ((w32 x2).tmod (w32 9)))), (0, .ref (ad 0)), (3, .int (qI x3)), (4, .int (qI x4))]) dX9_pickMatch_98 (k := 5) rfl (by decide) rfl ?_
      refine r_goto C (tgt := 18) dX9_pickMatch_101 (by decide) ?_
      refine r_drop [3, 1, 4, 5, 0] rfl ?_
      exact ih18 ((w32 x2).tdiv (w32 9)) x3 x4 (x5 + (-1)) M1 h
    · refine r_ic C dX9_pickMatch_50 ?_
      refine r_il C dX9_pickMatch_51 (k := 1) rfl ?_
      refine r_ishl C dX9_pickMatch_53 ?_
      refine r_is C (L1 := [(7, .int (qI (q_shl 1 ((w32 x2).tmod (w32 9))))), (2, .int (qI ((w32 x2).tdiv (w32 9)))), (6, .int (qI ((w32 x2).tmod (w32 9)))), (0, .ref (ad 0)), (3, .int (qI x3)), (4, .int (qI x4)), (5, .int (qI x5))]) dX9_pickMatch_54 (by decide) rfl ?_
      refine r_iln C dX9_pickMatch_56 (k := 4) rfl ?_
      refine r_il C dX9_pickMatch_57 (k := 0) rfl ?_
      refine r_iand C dX9_pickMatch_59 ?_
      refine r_zne C (tgt := 76) dX9_pickMatch_60 (by decide) h (fun h => ?_) (fun h => ?_)
      · refine r_ic C dX9_pickMatch_76 ?_
        exact r_iret C hr hlk dX9_pickMatch_77 h
      · refine r_aln C dX9_pickMatch_63 (k := 3) rfl ?_
        refine r_gs C kc_0 clX9 (f := 14) (by decide) rfl (t := 46) rfl tf_RX9_85 dX9_pickMatch_64 ?_
        refine r_il C dX9_pickMatch_67 (k := 6) rfl ?_
        refine r_iald C kc_46 dX9_pickMatch_69 h (fun v2 h => ?_)
        refine r_il C dX9_pickMatch_70 (k := 0) rfl ?_
        refine r_iand C dX9_pickMatch_72 ?_
        refine r_zne C (tgt := 78) dX9_pickMatch_73 (by decide) h (fun h => ?_) (fun h => ?_)
        · refine r_iln C dX9_pickMatch_78 (k := 4) rfl ?_
          refine r_il C dX9_pickMatch_79 (k := 0) rfl ?_
          refine r_ior C dX9_pickMatch_81 ?_
          refine r_let h (fun v3 h => ?_)
          refine r_isn C (L1 := [(3, .int (qI v3)), (7, .int (qI (q_shl 1 ((w32 x2).tmod (w32 9))))), (2, .int (qI ((w32 x2).tdiv (w32 9)))), (6, .int (qI ((w32 x2).tmod (w32 9)))), (0, .ref (ad 0)), (4, .int (qI x4)), (5, .int (qI x5))]) dX9_pickMatch_82 (by decide) rfl ?_
          refine r_il C dX9_pickMatch_83 (k := 5) rfl ?_
          refine r_aln C dX9_pickMatch_85 (k := 4) rfl ?_
          refine r_gr C kc_0 clX9 (f := 3) (fz := 3) (Pp := isT) (by decide) rfl rfl (fun q => q.1) tf_RX9_31 dX9_pickMatch_86 h (fun t4 ht4 h => ?_)
          refine r_gs C (kT ht4) clX8 (f := 3) (by decide) rfl (t := (32 * (t4 + 1) + 3)) rfl tf_RX9_152 dX9_pickMatch_89 ?_
          refine r_il C dX9_pickMatch_92 (k := 3) rfl ?_
          refine r_iald C (kT_3 ht4) dX9_pickMatch_94 h (fun v5 h => ?_)
          refine r_iadd C dX9_pickMatch_95 ?_
          refine r_is C (L1 := [(4, .int (qI (x4 + v5))), (3, .int (qI v3)), (7, .int (qI (q_shl 1 ((w32 x2).tmod (w32 9))))), (2, .int (qI ((w32 x2).tdiv (w32 9)))), (6, .int (qI ((w32 x2).tmod (w32 9)))), (0, .ref (ad 0)), (5, .int (qI x5))]) dX9_pickMatch_96 (by decide) rfl ?_
          refine r_inc C (L1 := [(5, .int (qI (x5 + (-1)))), (4, .int (qI (x4 + v5))), (3, .int (qI v3)), (7, .int (qI (q_shl 1 ((w32 x2).tmod (w32 9))))), (2, .int (qI ((w32 x2).tdiv (w32 9)))), (6, .int (qI ((w32 x2).tmod (w32 9)))), (0, .ref (ad 0))]) dX9_pickMatch_98 (k := 6) rfl (by decide) rfl ?_
          refine r_goto C (tgt := 18) dX9_pickMatch_101 (by decide) ?_
          refine r_drop [6, 4, 2, 1, 0] rfl ?_
          exact ih18 ((w32 x2).tdiv (w32 9)) v3 (x4 + v5) (x5 + (-1)) M1 h
        · refine r_ic C dX9_pickMatch_76 ?_
          exact r_iret C hr hlk dX9_pickMatch_77 h
theorem w_X9_pickMatch_L18 (C : Cx syC p m c cX9_pickMatch 8 s args RX9 D ad cA) (hr : meth.sig.returnType = (some .int)) (hlk : meth.locks = false)    (n : Nat) (x2 : Int) (x3 : Int) (x4 : Int) (x5 : Int) (M : Mem) (h : f_X9_pickMatch_L18  n x2 x3 x4 x5 M = some (r0, M0)) : WM syC p l e rm_X9_pickMatch s m args below meth c 8 D ad cA (MQ below (q_Post syC D ad cA (some (.int (qI r0))) M0) args s 0 0 (q_A syC ad)) M 18 [(0, .ref (ad 0)), (2, .int (qI x2)), (3, .int (qI x3)), (4, .int (qI x4)), (5, .int (qI x5))] [] :=
  qlm4_r (Wp := fun ux2 ux3 ux4 ux5 M => WM syC p l e rm_X9_pickMatch s m args below meth c 8 D ad cA (MQ below (q_Post syC D ad cA (some (.int (qI r0))) M0) args s 0 0 (q_A syC ad)) M 18 [(0, .ref (ad 0)), (2, .int (qI ux2)), (3, .int (qI ux3)), (4, .int (qI ux4)), (5, .int (qI ux5))] []) (fun ux2 ux3 ux4 ux5 M g18 ih18 h => w_X9_pickMatch_B18 C hr hlk  ux2 ux3 ux4 ux5 M g18  ih18 h) n x2 x3 x4 x5 M h
def f_X9_pickMatch (a0 : Int) (M : Mem) : Res :=
  q_gr M 0 3 fun t1 =>
  q_gf M t1 7 fun v2 =>
  f_X9_pickMatch_L18  q_N a0 0 0 (v2 - 1) M
theorem c_X9_pickMatch {l : Launch} {D : va_G} {ad : Nat → Nat} {cA : Nat → ClassId} (hi : q_inj syC ad) (a0 : Int) (M : Mem) (r0 : Int) (M0 : Mem) (h : f_X9_pickMatch a0 M = some (r0, M0)) : q_Met l syC D ad cA yX9_pickMatch cX9_pickMatch 8 (some .int) rm_X9_pickMatch [.ref (ad 0), .int (qI a0)] M (some (.int (qI r0))) M0 := by
  refine q_met (L0 := [(0, .ref (ad 0)), (1, .int (qI a0))]) hi okC (by decide) (Nat.le_of_ble_eq_true rfl) rfl ?_
  intro p e s m args below meth c C hr hlk
  unfold f_X9_pickMatch at h
  refine r_iln C dX9_pickMatch_0 (k := 1) rfl ?_
  refine r_isn C (L1 := [(2, .int (qI a0)), (0, .ref (ad 0)), (1, .int (qI a0))]) dX9_pickMatch_1 (by decide) rfl ?_
  refine r_ic C dX9_pickMatch_2 ?_
  refine r_isn C (L1 := [(3, .int (qI 0)), (2, .int (qI a0)), (0, .ref (ad 0)), (1, .int (qI a0))]) dX9_pickMatch_3 (by decide) rfl ?_
  refine r_ic C dX9_pickMatch_4 ?_
  refine r_is C (L1 := [(4, .int (qI 0)), (3, .int (qI 0)), (2, .int (qI a0)), (0, .ref (ad 0)), (1, .int (qI a0))]) dX9_pickMatch_5 (by decide) rfl ?_
  refine r_aln C dX9_pickMatch_7 (k := 3) rfl ?_
  refine r_gr C kc_0 clX9 (f := 3) (fz := 3) (Pp := isT) (by decide) rfl rfl (fun q => q.1) tf_RX9_31 dX9_pickMatch_8 h (fun t1 ht1 h => ?_)
  refine r_gf C (kT ht1) clX8 (f := 7) (by decide) rfl rfl rfl tf_RX9_135 dX9_pickMatch_11 h (fun v2 h => ?_)
  refine r_ic C dX9_pickMatch_14 ?_
  refine r_isub C dX9_pickMatch_15 ?_
  refine r_is C (L1 := [(5, .int (qI (v2 - 1))), (4, .int (qI 0)), (3, .int (qI 0)), (2, .int (qI a0)), (0, .ref (ad 0)), (1, .int (qI a0))]) dX9_pickMatch_16 (by decide) rfl ?_
  refine r_drop [4, 3, 2, 1, 0] rfl ?_
  exact w_X9_pickMatch_L18 C hr hlk   q_N a0 0 0 (v2 - 1) M h
abbrev rm_X9_bestMatch : Room := { frames := 3, cells := 0, slots := 0, locals := 80 }
theorem mw_X9_bestMatch : q_mw RX9 yX9_bestMatch cX9_bestMatch 5 (some .int) 0 := ⟨⟨ti_X9_bestMatch, tl_X9_bestMatch, tn_RX9, td_X9_bestMatch⟩, by decide +kernel⟩
def f_X9_bestMatch_B65 (x1 : Int) (x2 : Int) (x3 : Int) (M : Mem) (g65 : Int → Int → Mem → Res) : Res :=
  if w32 x1 ≤ w32 x3 then (some (x2, M))
  else (q_call (f_X9_pickMatch x3 M) fun r1 M2 =>
  if w32 r1 ≤ w32 x2 then (g65 x2 (x3 + 1) M2)
  else (q_cpy M2 44 0 45 0 4 4 4 fun M3 =>
  g65 r1 (x3 + 1) M3))
def f_X9_bestMatch_L65 (x1 : Int) (n : Nat) (x2 : Int) (x3 : Int) (M : Mem) : Res := qlm2 (fun x2 x3 M g65 => f_X9_bestMatch_B65 x1 x2 x3 M g65) n x2 x3 M
theorem w_X9_bestMatch_B65 (C : Cx syC p m c cX9_bestMatch 5 s args RX9 D ad cA) (hr : meth.sig.returnType = (some .int)) (hlk : meth.locks = false)  (x1 : Int) (x2 : Int) (x3 : Int) (M : Mem) (g65 : Int → Int → Mem → Res)  (ih65 : ∀ (ux2 ux3 : Int) (M : Mem), g65 ux2 ux3 M = some (r0, M0) → WM syC p l e rm_X9_bestMatch s m args below meth c 5 D ad cA (MQ below (q_Post syC D ad cA (some (.int (qI r0))) M0) args s 0 0 (q_A syC ad)) M 65 [(0, .ref (ad 0)), (1, .int (qI x1)), (2, .int (qI ux2)), (3, .int (qI ux3))] []) (h : f_X9_bestMatch_B65 x1 x2 x3 M g65 = some (r0, M0)) : WM syC p l e rm_X9_bestMatch s m args below meth c 5 D ad cA (MQ below (q_Post syC D ad cA (some (.int (qI r0))) M0) args s 0 0 (q_A syC ad)) M 65 [(0, .ref (ad 0)), (1, .int (qI x1)), (2, .int (qI x2)), (3, .int (qI x3))] [] := by
  unfold f_X9_bestMatch_B65 at h
  refine r_iln C dX9_bestMatch_65 (k := 3) rfl ?_
  refine r_iln C dX9_bestMatch_66 (k := 1) rfl ?_
  refine r_cge C (tgt := 106) dX9_bestMatch_67 (by decide) h (fun h => ?_) (fun h => ?_)
  · refine r_iln C dX9_bestMatch_106 (k := 2) rfl ?_
    exact r_iret C hr hlk dX9_bestMatch_107 h
  · refine r_aln C dX9_bestMatch_70 (k := 0) rfl ?_
    refine r_iln C dX9_bestMatch_71 (k := 3) rfl ?_
    obtain ⟨r1, M2, hy, h⟩ := q_call_some h
    refine r_cvi C (st := []) (c_X9_pickMatch C.2.2.1 x3 M r1 M2 hy) tm_RX9_319 mw_X9_pickMatch ⟨rfl, rfl⟩ ⟨Nat.le_of_ble_eq_true rfl, Nat.le_of_ble_eq_true rfl⟩ kc_0 clX9 rfl rfl (Nat.le_of_ble_eq_true rfl) dX9_bestMatch_72 ?_
    refine r_is C (L1 := [(4, .int (qI r1)), (0, .ref (ad 0)), (1, .int (qI x1)), (2, .int (qI x2)), (3, .int (qI x3))]) dX9_bestMatch_75 (by decide) rfl ?_
    refine r_il C dX9_bestMatch_77 (k := 0) rfl ?_
    refine r_iln C dX9_bestMatch_79 (k := 3) rfl ?_
    refine r_cle C (tgt := 100) dX9_bestMatch_80 (by decide) h (fun h => ?_) (fun h => ?_)
    · refine r_inc C (L1 := [(3, .int (qI (x3 + 1))), (4, .int (qI r1)), (0, .ref (ad 0)), (1, .int (qI x1)), (2, .int (qI x2))]) dX9_bestMatch_100 (k := 4) rfl (by decide) rfl ?_
      refine r_goto C (tgt := 65) dX9_bestMatch_103 (by decide) ?_
      refine r_drop [2, 3, 4, 0] rfl ?_
      exact ih65 x2 (x3 + 1) M2 h
    · refine r_il C dX9_bestMatch_83 (k := 0) rfl ?_
      refine r_isn C (L1 := [(2, .int (qI r1)), (4, .int (qI r1)), (0, .ref (ad 0)), (1, .int (qI x1)), (3, .int (qI x3))]) dX9_bestMatch_85 (by decide) rfl ?_
      refine r_aln C dX9_bestMatch_86 (k := 2) rfl ?_
      refine r_gs C kc_0 clX9 (f := 12) (by decide) rfl (t := 44) rfl tf_RX9_79 dX9_bestMatch_87 ?_
      refine r_ic C dX9_bestMatch_90 ?_
      refine r_aln C dX9_bestMatch_91 (k := 2) rfl ?_
      refine r_gs C kc_0 clX9 (f := 13) (by decide) rfl (t := 45) rfl tf_RX9_82 dX9_bestMatch_92 ?_
      refine r_ic C dX9_bestMatch_95 ?_
      refine r_ic C dX9_bestMatch_96 ?_
      refine r_cpy C kc_44 kc_45 (by decide) tm_RX9_301 dX9_bestMatch_97 ⟨Nat.le_of_ble_eq_true rfl, Nat.le_of_ble_eq_true rfl⟩ h (fun M3 h => ?_)
      refine r_inc C (L1 := [(3, .int (qI (x3 + 1))), (2, .int (qI r1)), (4, .int (qI r1)), (0, .ref (ad 0)), (1, .int (qI x1))]) dX9_bestMatch_100 (k := 4) rfl (by decide) rfl ?_
      refine r_goto C (tgt := 65) dX9_bestMatch_103 (by decide) ?_
      refine r_drop [3, 4, 1, 0] rfl ?_
      exact ih65 r1 (x3 + 1) M3 h
theorem w_X9_bestMatch_L65 (C : Cx syC p m c cX9_bestMatch 5 s args RX9 D ad cA) (hr : meth.sig.returnType = (some .int)) (hlk : meth.locks = false)  (x1 : Int)  (n : Nat) (x2 : Int) (x3 : Int) (M : Mem) (h : f_X9_bestMatch_L65 x1 n x2 x3 M = some (r0, M0)) : WM syC p l e rm_X9_bestMatch s m args below meth c 5 D ad cA (MQ below (q_Post syC D ad cA (some (.int (qI r0))) M0) args s 0 0 (q_A syC ad)) M 65 [(0, .ref (ad 0)), (1, .int (qI x1)), (2, .int (qI x2)), (3, .int (qI x3))] [] :=
  qlm2_r (Wp := fun ux2 ux3 M => WM syC p l e rm_X9_bestMatch s m args below meth c 5 D ad cA (MQ below (q_Post syC D ad cA (some (.int (qI r0))) M0) args s 0 0 (q_A syC ad)) M 65 [(0, .ref (ad 0)), (1, .int (qI x1)), (2, .int (qI ux2)), (3, .int (qI ux3))] []) (fun ux2 ux3 M g65 ih65 h => w_X9_bestMatch_B65 C hr hlk x1 ux2 ux3 M g65  ih65 h) n x2 x3 M h
def f_X9_bestMatch_B17  (x1 : Int) (M : Mem) (g17 : Int → Mem → Res) : Res :=
  q_gr M 0 3 fun t1 =>
  q_gf M t1 7 fun v2 =>
  if w32 v2 ≤ w32 x1 then (q_gr M 0 3 fun t3 =>
  q_gf M t3 7 fun v4 =>
  q_calp (f_X9_power 9 v4 M) fun r5 =>
  f_X9_bestMatch_L65 r5 q_N (-1) 0 M)
  else (q_call (f_X3_whoMay x1 M) fun r6 M7 =>
  q_as M7 46 4 x1 r6 fun M8 =>
  g17 (x1 + 1) M8)
def f_X9_bestMatch_L17  (n : Nat) (x1 : Int) (M : Mem) : Res := qlm1 (fun x1 M g17 => f_X9_bestMatch_B17  x1 M g17) n x1 M
theorem w_X9_bestMatch_B17 (C : Cx syC p m c cX9_bestMatch 5 s args RX9 D ad cA) (hr : meth.sig.returnType = (some .int)) (hlk : meth.locks = false)  (x1 : Int) (M : Mem) (g17 : Int → Mem → Res)  (ih17 : ∀ (ux1 : Int) (M : Mem), g17 ux1 M = some (r0, M0) → WM syC p l e rm_X9_bestMatch s m args below meth c 5 D ad cA (MQ below (q_Post syC D ad cA (some (.int (qI r0))) M0) args s 0 0 (q_A syC ad)) M 17 [(0, .ref (ad 0)), (1, .int (qI ux1))] []) (h : f_X9_bestMatch_B17  x1 M g17 = some (r0, M0)) : WM syC p l e rm_X9_bestMatch s m args below meth c 5 D ad cA (MQ below (q_Post syC D ad cA (some (.int (qI r0))) M0) args s 0 0 (q_A syC ad)) M 17 [(0, .ref (ad 0)), (1, .int (qI x1))] [] := by
  unfold f_X9_bestMatch_B17 at h
  refine r_iln C dX9_bestMatch_17 (k := 1) rfl ?_
  refine r_aln C dX9_bestMatch_18 (k := 0) rfl ?_
  refine r_gr C kc_0 clX9 (f := 3) (fz := 3) (Pp := isT) (by decide) rfl rfl (fun q => q.1) tf_RX9_31 dX9_bestMatch_19 h (fun t1 ht1 h => ?_)
  refine r_gf C (kT ht1) clX8 (f := 7) (by decide) rfl rfl rfl tf_RX9_135 dX9_bestMatch_22 h (fun v2 h => ?_)
  refine r_cge C (tgt := 48) dX9_bestMatch_25 (by decide) h (fun h => ?_) (fun h => ?_)
  · refine r_bi C dX9_bestMatch_48 (by decide) ?_
    refine r_aln C dX9_bestMatch_50 (k := 0) rfl ?_
    refine r_gr C kc_0 clX9 (f := 3) (fz := 3) (Pp := isT) (by decide) rfl rfl (fun q => q.1) tf_RX9_31 dX9_bestMatch_51 h (fun t3 ht3 h => ?_)
    refine r_gf C (kT ht3) clX8 (f := 7) (by decide) rfl rfl rfl tf_RX9_135 dX9_bestMatch_54 h (fun v4 h => ?_)
    obtain ⟨r5, hy, h⟩ := q_calp_some h
    refine r_csi C (st := []) (c_X9_power C.2.2.1 9 v4 M r5 hy) tm_RX9_291 mw_X9_power ⟨rfl, rfl⟩ ⟨Nat.le_of_ble_eq_true rfl, Nat.le_of_ble_eq_true rfl⟩ rfl rfl (Nat.le_of_ble_eq_true rfl) dX9_bestMatch_57 ?_
    refine r_isn C (L1 := [(1, .int (qI r5)), (0, .ref (ad 0))]) dX9_bestMatch_60 (by decide) rfl ?_
    refine r_ic C dX9_bestMatch_61 ?_
    refine r_isn C (L1 := [(2, .int (qI (-1))), (1, .int (qI r5)), (0, .ref (ad 0))]) dX9_bestMatch_62 (by decide) rfl ?_
    refine r_ic C dX9_bestMatch_63 ?_
    refine r_isn C (L1 := [(3, .int (qI 0)), (2, .int (qI (-1))), (1, .int (qI r5)), (0, .ref (ad 0))]) dX9_bestMatch_64 (by decide) rfl ?_
    refine r_drop [3, 2, 1, 0] rfl ?_
    exact w_X9_bestMatch_L65 C hr hlk r5  q_N (-1) 0 M h
  · refine r_aln C dX9_bestMatch_28 (k := 0) rfl ?_
    refine r_gs C kc_0 clX9 (f := 14) (by decide) rfl (t := 46) rfl tf_RX9_85 dX9_bestMatch_29 ?_
    refine r_iln C dX9_bestMatch_32 (k := 1) rfl ?_
    refine r_aln C dX9_bestMatch_33 (k := 0) rfl ?_
    refine r_gs C kc_0 clX9 (f := 8) (by decide) rfl (t := 7) rfl tf_RX9_57 dX9_bestMatch_34 ?_
    refine r_iln C dX9_bestMatch_37 (k := 1) rfl ?_
    obtain ⟨r6, M7, hy, h⟩ := q_call_some h
    refine r_cvi C (st := [.int (qI x1), .ref (ad 46)]) (c_X3_whoMay C.2.2.1 x1 M r6 M7 hy) tm_RX9_307 mw_X3_whoMay ⟨rfl, rfl⟩ ⟨Nat.le_of_ble_eq_true rfl, Nat.le_of_ble_eq_true rfl⟩ kc_7 clX3 rfl rfl (Nat.le_of_ble_eq_true rfl) dX9_bestMatch_38 ?_
    refine r_iast C kc_46 dX9_bestMatch_41 h (fun M8 h => ?_)
    refine r_inc C (L1 := [(1, .int (qI (x1 + 1))), (0, .ref (ad 0))]) dX9_bestMatch_42 (k := 1) rfl (by decide) rfl ?_
    refine r_goto C (tgt := 17) dX9_bestMatch_45 (by decide) ?_
    refine r_drop [1, 0] rfl ?_
    exact ih17 (x1 + 1) M8 h
theorem w_X9_bestMatch_L17 (C : Cx syC p m c cX9_bestMatch 5 s args RX9 D ad cA) (hr : meth.sig.returnType = (some .int)) (hlk : meth.locks = false)    (n : Nat) (x1 : Int) (M : Mem) (h : f_X9_bestMatch_L17  n x1 M = some (r0, M0)) : WM syC p l e rm_X9_bestMatch s m args below meth c 5 D ad cA (MQ below (q_Post syC D ad cA (some (.int (qI r0))) M0) args s 0 0 (q_A syC ad)) M 17 [(0, .ref (ad 0)), (1, .int (qI x1))] [] :=
  qlm1_r (Wp := fun ux1 M => WM syC p l e rm_X9_bestMatch s m args below meth c 5 D ad cA (MQ below (q_Post syC D ad cA (some (.int (qI r0))) M0) args s 0 0 (q_A syC ad)) M 17 [(0, .ref (ad 0)), (1, .int (qI ux1))] []) (fun ux1 M g17 ih17 h => w_X9_bestMatch_B17 C hr hlk  ux1 M g17  ih17 h) n x1 M h
def f_X9_bestMatch  (M : Mem) : Res :=
  q_gr M 0 3 fun t1 =>
  q_call (f_X3_ready t1 4 M) fun r2 M3 =>
  f_X9_bestMatch_L17  q_N 0 M3
theorem c_X9_bestMatch {l : Launch} {D : va_G} {ad : Nat → Nat} {cA : Nat → ClassId} (hi : q_inj syC ad)  (M : Mem) (r0 : Int) (M0 : Mem) (h : f_X9_bestMatch  M = some (r0, M0)) : q_Met l syC D ad cA yX9_bestMatch cX9_bestMatch 5 (some .int) rm_X9_bestMatch [.ref (ad 0)] M (some (.int (qI r0))) M0 := by
  refine q_met (L0 := [(0, .ref (ad 0))]) hi okC (by decide) (Nat.le_of_ble_eq_true rfl) rfl ?_
  intro p e s m args below meth c C hr hlk
  unfold f_X9_bestMatch at h
  refine r_aln C dX9_bestMatch_0 (k := 0) rfl ?_
  refine r_gs C kc_0 clX9 (f := 8) (by decide) rfl (t := 7) rfl tf_RX9_57 dX9_bestMatch_1 ?_
  refine r_aln C dX9_bestMatch_4 (k := 0) rfl ?_
  refine r_gr C kc_0 clX9 (f := 3) (fz := 3) (Pp := isT) (by decide) rfl rfl (fun q => q.1) tf_RX9_31 dX9_bestMatch_5 h (fun t1 ht1 h => ?_)
  refine r_aln C dX9_bestMatch_8 (k := 0) rfl ?_
  refine r_gs C kc_0 clX9 (f := 4) (by decide) rfl (t := 4) rfl tf_RX9_38 dX9_bestMatch_9 ?_
  obtain ⟨r2, M3, hy, h⟩ := q_call_some h
  refine r_cvv C (st := []) (c_X3_ready C.2.2.1 t1 4 ht1 (by unfold isS; omega) M r2 M3 hy) tm_RX9_208 mw_X3_ready ⟨rfl, rfl⟩ ⟨Nat.le_of_ble_eq_true rfl, Nat.le_of_ble_eq_true rfl⟩ kc_7 clX3 rfl rfl (Nat.le_of_ble_eq_true rfl) dX9_bestMatch_12 ?_
  refine r_ic C dX9_bestMatch_15 ?_
  refine r_isn C (L1 := [(1, .int (qI 0)), (0, .ref (ad 0))]) dX9_bestMatch_16 (by decide) rfl ?_
  refine r_drop [1, 0] rfl ?_
  exact w_X9_bestMatch_L17 C hr hlk   q_N 0 M3 h
abbrev rm_X9_sortFirst : Room := { frames := 0, cells := 0, slots := 0, locals := 0 }
theorem mw_X9_sortFirst : q_mw RX9 yX9_sortFirst cX9_sortFirst 5 none 1 := ⟨⟨ti_X9_sortFirst, tl_X9_sortFirst, tn_RX9, td_X9_sortFirst⟩, by decide +kernel⟩
def f_X9_sortFirst_B40 (x2 : Int) (x3 : Int) (x4 : Int) (M : Mem) (g40 : Int → Int → Mem → Res) : Res :=
  if w32 8 ≤ w32 x4 then (some (0, M))
  else (if w32 4 ≤ w32 x3 then (some (0, M))
  else (if w32 (q_and x2 (q_shl 1 x4)) = 0 then (g40 x3 (x4 + 1) M)
  else (q_as M 43 4 x3 x4 fun M1 =>
  g40 (x3 + 1) (x4 + 1) M1)))
def f_X9_sortFirst_L40 (x2 : Int) (n : Nat) (x3 : Int) (x4 : Int) (M : Mem) : Res := qlm2 (fun x3 x4 M g40 => f_X9_sortFirst_B40 x2 x3 x4 M g40) n x3 x4 M
theorem w_X9_sortFirst_B40 (C : Cx syC p m c cX9_sortFirst 5 s args RX9 D ad cA) (hr : meth.sig.returnType = none) (hlk : meth.locks = false)  (x2 : Int) (x3 : Int) (x4 : Int) (M : Mem) (g40 : Int → Int → Mem → Res)  (ih40 : ∀ (ux3 ux4 : Int) (M : Mem), g40 ux3 ux4 M = some (r0, M0) → WM syC p l e rm_X9_sortFirst s m args below meth c 5 D ad cA (MQ below (q_Post syC D ad cA none M0) args s 0 0 (q_A syC ad)) M 40 [(0, .ref (ad 0)), (2, .int (qI x2)), (3, .int (qI ux3)), (4, .int (qI ux4))] []) (h : f_X9_sortFirst_B40 x2 x3 x4 M g40 = some (r0, M0)) : WM syC p l e rm_X9_sortFirst s m args below meth c 5 D ad cA (MQ below (q_Post syC D ad cA none M0) args s 0 0 (q_A syC ad)) M 40 [(0, .ref (ad 0)), (2, .int (qI x2)), (3, .int (qI x3)), (4, .int (qI x4))] [] := by
  unfold f_X9_sortFirst_B40 at h
  refine r_il C dX9_sortFirst_40 (k := 3) rfl ?_
  refine r_bi C dX9_sortFirst_42 (by decide) ?_
  refine r_cge C (tgt := 78) dX9_sortFirst_44 (by decide) h (fun h => ?_) (fun h => ?_)
  · exact r_vret C hr hlk dX9_sortFirst_78 h
  · refine r_iln C dX9_sortFirst_47 (k := 2) rfl ?_
    refine r_ic C dX9_sortFirst_48 ?_
    refine r_cge C (tgt := 78) dX9_sortFirst_49 (by decide) h (fun h => ?_) (fun h => ?_)
    · exact r_vret C hr hlk dX9_sortFirst_78 h
    · refine r_iln C dX9_sortFirst_52 (k := 1) rfl ?_
      refine r_ic C dX9_sortFirst_53 ?_
      refine r_il C dX9_sortFirst_54 (k := 3) rfl ?_
      refine r_ishl C dX9_sortFirst_56 ?_
      refine r_iand C dX9_sortFirst_57 ?_
      refine r_zeq C (tgt := 72) dX9_sortFirst_58 (by decide) h (fun h => ?_) (fun h => ?_)
      · refine r_inc C (L1 := [(4, .int (qI (x4 + 1))), (0, .ref (ad 0)), (2, .int (qI x2)), (3, .int (qI x3))]) dX9_sortFirst_72 (k := 3) rfl (by decide) rfl ?_
        refine r_goto C (tgt := 40) dX9_sortFirst_75 (by decide) ?_
        refine r_drop [1, 2, 3, 0] rfl ?_
        exact ih40 x3 (x4 + 1) M h
      · refine r_aln C dX9_sortFirst_61 (k := 0) rfl ?_
        refine r_gs C kc_0 clX9 (f := 11) (by decide) rfl (t := 43) rfl tf_RX9_75 dX9_sortFirst_62 ?_
        refine r_iln C dX9_sortFirst_65 (k := 2) rfl ?_
        refine r_il C dX9_sortFirst_66 (k := 3) rfl ?_
        refine r_iast C kc_43 dX9_sortFirst_68 h (fun M1 h => ?_)
        refine r_inc C (L1 := [(3, .int (qI (x3 + 1))), (0, .ref (ad 0)), (2, .int (qI x2)), (4, .int (qI x4))]) dX9_sortFirst_69 (k := 2) rfl (by decide) rfl ?_
        refine r_inc C (L1 := [(4, .int (qI (x4 + 1))), (3, .int (qI (x3 + 1))), (0, .ref (ad 0)), (2, .int (qI x2))]) dX9_sortFirst_72 (k := 3) rfl (by decide) rfl ?_
        refine r_goto C (tgt := 40) dX9_sortFirst_75 (by decide) ?_
        refine r_drop [2, 3, 1, 0] rfl ?_
        exact ih40 (x3 + 1) (x4 + 1) M1 h
theorem w_X9_sortFirst_L40 (C : Cx syC p m c cX9_sortFirst 5 s args RX9 D ad cA) (hr : meth.sig.returnType = none) (hlk : meth.locks = false)  (x2 : Int)  (n : Nat) (x3 : Int) (x4 : Int) (M : Mem) (h : f_X9_sortFirst_L40 x2 n x3 x4 M = some (r0, M0)) : WM syC p l e rm_X9_sortFirst s m args below meth c 5 D ad cA (MQ below (q_Post syC D ad cA none M0) args s 0 0 (q_A syC ad)) M 40 [(0, .ref (ad 0)), (2, .int (qI x2)), (3, .int (qI x3)), (4, .int (qI x4))] [] :=
  qlm2_r (Wp := fun ux3 ux4 M => WM syC p l e rm_X9_sortFirst s m args below meth c 5 D ad cA (MQ below (q_Post syC D ad cA none M0) args s 0 0 (q_A syC ad)) M 40 [(0, .ref (ad 0)), (2, .int (qI x2)), (3, .int (qI ux3)), (4, .int (qI ux4))] []) (fun ux3 ux4 M g40 ih40 h => w_X9_sortFirst_B40 C hr hlk x2 ux3 ux4 M g40  ih40 h) n x3 x4 M h
def f_X9_sortFirst_J35 (x2 : Int) (M : Mem) : Res :=
  f_X9_sortFirst_L40 x2 q_N 0 0 M
theorem w_X9_sortFirst_J35 (C : Cx syC p m c cX9_sortFirst 5 s args RX9 D ad cA) (hr : meth.sig.returnType = none) (hlk : meth.locks = false) (x2 : Int) (M : Mem)  (h : f_X9_sortFirst_J35 x2 M = some (r0, M0)) : WM syC p l e rm_X9_sortFirst s m args below meth c 5 D ad cA (MQ below (q_Post syC D ad cA none M0) args s 0 0 (q_A syC ad)) M 35 [(0, .ref (ad 0)), (2, .int (qI x2))] [] := by
  unfold f_X9_sortFirst_J35 at h
  refine r_ic C dX9_sortFirst_35 ?_
  refine r_isn C (L1 := [(3, .int (qI 0)), (0, .ref (ad 0)), (2, .int (qI x2))]) dX9_sortFirst_36 (by decide) rfl ?_
  refine r_ic C dX9_sortFirst_37 ?_
  refine r_is C (L1 := [(4, .int (qI 0)), (3, .int (qI 0)), (0, .ref (ad 0)), (2, .int (qI x2))]) dX9_sortFirst_38 (by decide) rfl ?_
  refine r_drop [2, 3, 1, 0] rfl ?_
  exact w_X9_sortFirst_L40 C hr hlk x2  q_N 0 0 M h
def f_X9_sortFirst_B4 (x1 : Int) (M : Mem) (x2 : Int) (x3 : Int) (g4 : Int → Int → Res) : Res :=
  if w32 x1 ≤ w32 x3 then (f_X9_sortFirst_J35 x2 M)
  else (if w32 8 ≤ w32 x3 then (f_X9_sortFirst_J35 x2 M)
  else (q_al M 168 8 x3 fun v1 =>
  g4 (q_or x2 (q_shl 1 v1)) (x3 + 1)))
def f_X9_sortFirst_L4 (x1 : Int) (M : Mem) (n : Nat) (x2 : Int) (x3 : Int) : Res := qlp2 (fun x2 x3 g4 => f_X9_sortFirst_B4 x1 M x2 x3 g4) n x2 x3
theorem w_X9_sortFirst_B4 (C : Cx syC p m c cX9_sortFirst 5 s args RX9 D ad cA) (hr : meth.sig.returnType = none) (hlk : meth.locks = false)  (x1 : Int) (x2 : Int) (x3 : Int) (M : Mem) (g4 : Int → Int → Res)  (ih4 : ∀ (ux2 ux3 : Int) , g4 ux2 ux3  = some (r0, M0) → WM syC p l e rm_X9_sortFirst s m args below meth c 5 D ad cA (MQ below (q_Post syC D ad cA none M0) args s 0 0 (q_A syC ad)) M 4 [(0, .ref (ad 0)), (1, .int (qI x1)), (2, .int (qI ux2)), (3, .int (qI ux3))] []) (h : f_X9_sortFirst_B4 x1 M x2 x3 g4 = some (r0, M0)) : WM syC p l e rm_X9_sortFirst s m args below meth c 5 D ad cA (MQ below (q_Post syC D ad cA none M0) args s 0 0 (q_A syC ad)) M 4 [(0, .ref (ad 0)), (1, .int (qI x1)), (2, .int (qI x2)), (3, .int (qI x3))] [] := by
  unfold f_X9_sortFirst_B4 at h
  refine r_iln C dX9_sortFirst_4 (k := 3) rfl ?_
  refine r_iln C dX9_sortFirst_5 (k := 1) rfl ?_
  refine r_cge C (tgt := 35) dX9_sortFirst_6 (by decide) h (fun h => ?_) (fun h => ?_)
  · refine r_drop [0, 2] rfl ?_
    exact w_X9_sortFirst_J35 C hr hlk x2 M  h
  · refine r_iln C dX9_sortFirst_9 (k := 3) rfl ?_
    refine r_bi C dX9_sortFirst_10 (by decide) ?_
    refine r_cge C (tgt := 35) dX9_sortFirst_12 (by decide) h (fun h => ?_) (fun h => ?_)
    · refine r_drop [0, 2] rfl ?_
      exact w_X9_sortFirst_J35 C hr hlk x2 M  h
    · refine r_iln C dX9_sortFirst_15 (k := 2) rfl ?_
      refine r_ic C dX9_sortFirst_16 ?_
      refine r_aln C dX9_sortFirst_17 (k := 0) rfl ?_
      refine r_gs C kc_0 clX9 (f := 4) (by decide) rfl (t := 4) rfl tf_RX9_38 dX9_sortFirst_18 ?_
      refine r_gs C kc_4 clX6 (f := 8) (by decide) rfl (t := 168) rfl tf_RX9_200 dX9_sortFirst_21 ?_
      refine r_iln C dX9_sortFirst_24 (k := 3) rfl ?_
      refine r_iald C kc_168 dX9_sortFirst_25 h (fun v1 h => ?_)
      refine r_ishl C dX9_sortFirst_26 ?_
      refine r_ior C dX9_sortFirst_27 ?_
      refine r_isn C (L1 := [(2, .int (qI (q_or x2 (q_shl 1 v1)))), (0, .ref (ad 0)), (1, .int (qI x1)), (3, .int (qI x3))]) dX9_sortFirst_28 (by decide) rfl ?_
      refine r_inc C (L1 := [(3, .int (qI (x3 + 1))), (2, .int (qI (q_or x2 (q_shl 1 v1)))), (0, .ref (ad 0)), (1, .int (qI x1))]) dX9_sortFirst_29 (k := 3) rfl (by decide) rfl ?_
      refine r_goto C (tgt := 4) dX9_sortFirst_32 (by decide) ?_
      refine r_drop [2, 3, 1, 0] rfl ?_
      exact ih4 (q_or x2 (q_shl 1 v1)) (x3 + 1)  h
theorem w_X9_sortFirst_L4 (C : Cx syC p m c cX9_sortFirst 5 s args RX9 D ad cA) (hr : meth.sig.returnType = none) (hlk : meth.locks = false)  (x1 : Int) (M : Mem)  (n : Nat) (x2 : Int) (x3 : Int) (h : f_X9_sortFirst_L4 x1 M n x2 x3 = some (r0, M0)) : WM syC p l e rm_X9_sortFirst s m args below meth c 5 D ad cA (MQ below (q_Post syC D ad cA none M0) args s 0 0 (q_A syC ad)) M 4 [(0, .ref (ad 0)), (1, .int (qI x1)), (2, .int (qI x2)), (3, .int (qI x3))] [] :=
  qlp2_r (Wp := fun ux2 ux3 => WM syC p l e rm_X9_sortFirst s m args below meth c 5 D ad cA (MQ below (q_Post syC D ad cA none M0) args s 0 0 (q_A syC ad)) M 4 [(0, .ref (ad 0)), (1, .int (qI x1)), (2, .int (qI ux2)), (3, .int (qI ux3))] []) (fun ux2 ux3 g4 ih4 h => w_X9_sortFirst_B4 C hr hlk x1 ux2 ux3 M g4  ih4 h) n x2 x3 h
def f_X9_sortFirst (a0 : Int) (M : Mem) : Res :=
  f_X9_sortFirst_L4 a0 M q_N 0 0
theorem c_X9_sortFirst {l : Launch} {D : va_G} {ad : Nat → Nat} {cA : Nat → ClassId} (hi : q_inj syC ad) (a0 : Int) (M : Mem) (r0 : Int) (M0 : Mem) (h : f_X9_sortFirst a0 M = some (r0, M0)) : q_Met l syC D ad cA yX9_sortFirst cX9_sortFirst 5 none rm_X9_sortFirst [.ref (ad 0), .int (qI a0)] M none M0 := by
  refine q_met (L0 := [(0, .ref (ad 0)), (1, .int (qI a0))]) hi okC (by decide) (Nat.le_of_ble_eq_true rfl) rfl ?_
  intro p e s m args below meth c C hr hlk
  unfold f_X9_sortFirst at h
  refine r_ic C dX9_sortFirst_0 ?_
  refine r_isn C (L1 := [(2, .int (qI 0)), (0, .ref (ad 0)), (1, .int (qI a0))]) dX9_sortFirst_1 (by decide) rfl ?_
  refine r_ic C dX9_sortFirst_2 ?_
  refine r_isn C (L1 := [(3, .int (qI 0)), (2, .int (qI 0)), (0, .ref (ad 0)), (1, .int (qI a0))]) dX9_sortFirst_3 (by decide) rfl ?_
  refine r_drop [2, 3, 1, 0] rfl ?_
  exact w_X9_sortFirst_L4 C hr hlk a0 M  q_N 0 0 h
abbrev rm_X9_pickRow : Room := { frames := 1, cells := 0, slots := 0, locals := 23 }
theorem mw_X9_pickRow : q_mw RX9 yX9_pickRow cX9_pickRow 7 (some .boolean) 2 := ⟨⟨ti_X9_pickRow, tl_X9_pickRow, tn_RX9, td_X9_pickRow⟩, by decide +kernel⟩
def f_X9_pickRow_B14 (x2 : Int) (x3 : Int) (x4 : Int) (x5 : Int) (M : Mem) (g14 : Int → Int → Int → Mem → Res) : Res :=
  if w32 x5 < 0 then (some (1, M))
  else (q_nz x2 <| q_nz x2 <| if ¬ w32 (q_and x4 (q_shl 1 ((w32 x3).tmod (w32 x2)))) = 0 then (some (0, M))
  else (if w32 ((w32 x3).tmod (w32 x2)) < w32 4 then (q_let (q_or x4 (q_shl 1 ((w32 x3).tmod (w32 x2)))) fun v1 =>
  q_al M 43 4 ((w32 x3).tmod (w32 x2)) fun v2 =>
  q_as M 44 4 x5 v2 fun M3 =>
  g14 ((w32 x3).tdiv (w32 x2)) v1 (x5 + (-1)) M3)
  else (some (0, M))))
def f_X9_pickRow_L14 (x2 : Int) (n : Nat) (x3 : Int) (x4 : Int) (x5 : Int) (M : Mem) : Res := qlm3 (fun x3 x4 x5 M g14 => f_X9_pickRow_B14 x2 x3 x4 x5 M g14) n x3 x4 x5 M
theorem w_X9_pickRow_B14 (C : Cx syC p m c cX9_pickRow 7 s args RX9 D ad cA) (hr : meth.sig.returnType = (some .boolean)) (hlk : meth.locks = false)  (x2 : Int) (x3 : Int) (x4 : Int) (x5 : Int) (M : Mem) (g14 : Int → Int → Int → Mem → Res)  (ih14 : ∀ (ux3 ux4 ux5 : Int) (M : Mem), g14 ux3 ux4 ux5 M = some (r0, M0) → WM syC p l e rm_X9_pickRow s m args below meth c 7 D ad cA (MQ below (q_Post syC D ad cA (some (.int (qI r0))) M0) args s 0 0 (q_A syC ad)) M 14 [(0, .ref (ad 0)), (2, .int (qI x2)), (3, .int (qI ux3)), (4, .int (qI ux4)), (5, .int (qI ux5))] []) (h : f_X9_pickRow_B14 x2 x3 x4 x5 M g14 = some (r0, M0)) : WM syC p l e rm_X9_pickRow s m args below meth c 7 D ad cA (MQ below (q_Post syC D ad cA (some (.int (qI r0))) M0) args s 0 0 (q_A syC ad)) M 14 [(0, .ref (ad 0)), (2, .int (qI x2)), (3, .int (qI x3)), (4, .int (qI x4)), (5, .int (qI x5))] [] := by
  unfold f_X9_pickRow_B14 at h
  refine r_il C dX9_pickRow_14 (k := 4) rfl ?_
  refine r_zlt C (tgt := 75) dX9_pickRow_16 (by decide) h (fun h => ?_) (fun h => ?_)
  · refine r_ic C dX9_pickRow_75 ?_
    exact r_zret C (by decide) hr hlk dX9_pickRow_76 h
  · refine r_iln C dX9_pickRow_19 (k := 2) rfl ?_
    refine r_iln C dX9_pickRow_20 (k := 1) rfl ?_
    refine r_irem C dX9_pickRow_21 h (fun h => ?_)
    refine r_is C (L1 := [(6, .int (qI ((w32 x3).tmod (w32 x2)))), (0, .ref (ad 0)), (2, .int (qI x2)), (3, .int (qI x3)), (4, .int (qI x4)), (5, .int (qI x5))]) dX9_pickRow_22 (by decide) rfl ?_
    refine r_iln C dX9_pickRow_24 (k := 3) rfl ?_
    refine r_iln C dX9_pickRow_25 (k := 2) rfl ?_
    refine r_idiv C dX9_pickRow_26 h (fun h => ?_)
    refine r_isn C (L1 := [(3, .int (qI ((w32 x3).tdiv (w32 x2)))), (6, .int (qI ((w32 x3).tmod (w32 x2)))), (0, .ref (ad 0)), (2, .int (qI x2)), (4, .int (qI x4)), (5, .int (qI x5))]) dX9_pickRow_27 (by decide) rfl ?_
    refine r_il C dX9_pickRow_28 (k := 4) rfl ?_
    refine r_ic C dX9_pickRow_30 ?_
    refine r_il C dX9_pickRow_31 (k := 1) rfl ?_
    refine r_ishl C dX9_pickRow_33 ?_
    refine r_iand C dX9_pickRow_34 ?_
    refine r_zne C (tgt := 44) dX9_pickRow_35 (by decide) h (fun h => ?_) (fun h => ?_)
    · refine r_ic C dX9_pickRow_44 ?_
      exact r_zret C (by decide) hr hlk dX9_pickRow_45 h
    · refine r_il C dX9_pickRow_38 (k := 1) rfl ?_
      refine r_ic C dX9_pickRow_40 ?_
      refine r_clt C (tgt := 46) dX9_pickRow_41 (by decide) h (fun h => ?_) (fun h => ?_)
      · refine r_il C dX9_pickRow_46 (k := 4) rfl ?_
        refine r_ic C dX9_pickRow_48 ?_
        refine r_il C dX9_pickRow_49 (k := 1) rfl ?_
        refine r_ishl C dX9_pickRow_51 ?_
        refine r_ior C dX9_pickRow_52 ?_
        refine r_let h (fun v1 h => ?_)
        refine r_is C (L1 := [(4, .int (qI v1)), (3, .int (qI ((w32 x3).tdiv (w32 x2)))), (6, .int (qI ((w32 x3).tmod (w32 x2)))), (0, .ref (ad 0)), (2, .int (qI x2)), (5, .int (qI x5))]) dX9_pickRow_53 (by decide) rfl ?_
        refine r_aln C dX9_pickRow_55 (k := 3) rfl ?_
        refine r_gs C kc_0 clX9 (f := 12) (by decide) rfl (t := 44) rfl tf_RX9_79 dX9_pickRow_56 ?_
        refine r_il C dX9_pickRow_59 (k := 5) rfl ?_
        refine r_aln C dX9_pickRow_61 (k := 3) rfl ?_
        refine r_gs C kc_0 clX9 (f := 11) (by decide) rfl (t := 43) rfl tf_RX9_75 dX9_pickRow_62 ?_
        refine r_il C dX9_pickRow_65 (k := 2) rfl ?_
        refine r_iald C kc_43 dX9_pickRow_67 h (fun v2 h => ?_)
        refine r_iast C kc_44 dX9_pickRow_68 h (fun M3 h => ?_)
        refine r_inc C (L1 := [(5, .int (qI (x5 + (-1)))), (4, .int (qI v1)), (3, .int (qI ((w32 x3).tdiv (w32 x2)))), (6, .int (qI ((w32 x3).tmod (w32 x2)))), (0, .ref (ad 0)), (2, .int (qI x2))]) dX9_pickRow_69 (k := 5) rfl (by decide) rfl ?_
        refine r_goto C (tgt := 14) dX9_pickRow_72 (by decide) ?_
        refine r_drop [4, 5, 2, 1, 0] rfl ?_
        exact ih14 ((w32 x3).tdiv (w32 x2)) v1 (x5 + (-1)) M3 h
      · refine r_ic C dX9_pickRow_44 ?_
        exact r_zret C (by decide) hr hlk dX9_pickRow_45 h
theorem w_X9_pickRow_L14 (C : Cx syC p m c cX9_pickRow 7 s args RX9 D ad cA) (hr : meth.sig.returnType = (some .boolean)) (hlk : meth.locks = false)  (x2 : Int)  (n : Nat) (x3 : Int) (x4 : Int) (x5 : Int) (M : Mem) (h : f_X9_pickRow_L14 x2 n x3 x4 x5 M = some (r0, M0)) : WM syC p l e rm_X9_pickRow s m args below meth c 7 D ad cA (MQ below (q_Post syC D ad cA (some (.int (qI r0))) M0) args s 0 0 (q_A syC ad)) M 14 [(0, .ref (ad 0)), (2, .int (qI x2)), (3, .int (qI x3)), (4, .int (qI x4)), (5, .int (qI x5))] [] :=
  qlm3_r (Wp := fun ux3 ux4 ux5 M => WM syC p l e rm_X9_pickRow s m args below meth c 7 D ad cA (MQ below (q_Post syC D ad cA (some (.int (qI r0))) M0) args s 0 0 (q_A syC ad)) M 14 [(0, .ref (ad 0)), (2, .int (qI x2)), (3, .int (qI ux3)), (4, .int (qI ux4)), (5, .int (qI ux5))] []) (fun ux3 ux4 ux5 M g14 ih14 h => w_X9_pickRow_B14 C hr hlk x2 ux3 ux4 ux5 M g14  ih14 h) n x3 x4 x5 M h
def f_X9_pickRow (a0 : Int) (a1 : Int) (M : Mem) : Res :=
  f_X9_pickRow_L14 a1 q_N a0 0 ((q_min a1 4) - 1) M
theorem c_X9_pickRow {l : Launch} {D : va_G} {ad : Nat → Nat} {cA : Nat → ClassId} (hi : q_inj syC ad) (a0 : Int) (a1 : Int) (M : Mem) (r0 : Int) (M0 : Mem) (h : f_X9_pickRow a0 a1 M = some (r0, M0)) : q_Met l syC D ad cA yX9_pickRow cX9_pickRow 7 (some .boolean) rm_X9_pickRow [.ref (ad 0), .int (qI a0), .int (qI a1)] M (some (.int (qI r0))) M0 := by
  refine q_met (L0 := [(0, .ref (ad 0)), (1, .int (qI a0)), (2, .int (qI a1))]) hi okC (by decide) (Nat.le_of_ble_eq_true rfl) rfl ?_
  intro p e s m args below meth c C hr hlk
  unfold f_X9_pickRow at h
  refine r_iln C dX9_pickRow_0 (k := 1) rfl ?_
  refine r_isn C (L1 := [(3, .int (qI a0)), (0, .ref (ad 0)), (1, .int (qI a0)), (2, .int (qI a1))]) dX9_pickRow_1 (by decide) rfl ?_
  refine r_ic C dX9_pickRow_2 ?_
  refine r_is C (L1 := [(4, .int (qI 0)), (3, .int (qI a0)), (0, .ref (ad 0)), (1, .int (qI a0)), (2, .int (qI a1))]) dX9_pickRow_3 (by decide) rfl ?_
  refine r_iln C dX9_pickRow_5 (k := 4) rfl ?_
  refine r_ic C dX9_pickRow_6 ?_
  refine r_q_min C (st := []) tm_RX9_239 ⟨Nat.le_of_ble_eq_true rfl, Nat.le_of_ble_eq_true rfl⟩ dX9_pickRow_7 ?_
  refine r_ic C dX9_pickRow_10 ?_
  refine r_isub C dX9_pickRow_11 ?_
  refine r_is C (L1 := [(5, .int (qI ((q_min a1 4) - 1))), (4, .int (qI 0)), (3, .int (qI a0)), (0, .ref (ad 0)), (1, .int (qI a0)), (2, .int (qI a1))]) dX9_pickRow_12 (by decide) rfl ?_
  refine r_drop [3, 5, 2, 1, 0] rfl ?_
  exact w_X9_pickRow_L14 C hr hlk a1  q_N a0 0 ((q_min a1 4) - 1) M h
abbrev rm_X9_kindnessBehindRow : Room := { frames := 5, cells := 0, slots := 0, locals := 128 }
theorem mw_X9_kindnessBehindRow : q_mw RX9 yX9_kindnessBehindRow cX9_kindnessBehindRow 3 (some .int) 1 := ⟨⟨ti_X9_kindnessBehindRow, tl_X9_kindnessBehindRow, tn_RX9, td_X9_kindnessBehindRow⟩, by decide +kernel⟩
def f_X9_kindnessBehindRow_J37  (M : Mem) : Res :=
  q_call (f_X3_pass 20 M) fun r1 M2 =>
  q_calp (f_X9_kindnessGone 5 M2) fun r3 =>
  some (r3, M2)
theorem w_X9_kindnessBehindRow_J37 (C : Cx syC p m c cX9_kindnessBehindRow 3 s args RX9 D ad cA) (hr : meth.sig.returnType = (some .int)) (hlk : meth.locks = false)  (M : Mem)  (h : f_X9_kindnessBehindRow_J37  M = some (r0, M0)) : WM syC p l e rm_X9_kindnessBehindRow s m args below meth c 3 D ad cA (MQ below (q_Post syC D ad cA (some (.int (qI r0))) M0) args s 0 0 (q_A syC ad)) M 37 [(0, .ref (ad 0))] [] := by
  unfold f_X9_kindnessBehindRow_J37 at h
  refine r_aln C dX9_kindnessBehindRow_37 (k := 0) rfl ?_
  refine r_gs C kc_0 clX9 (f := 8) (by decide) rfl (t := 7) rfl tf_RX9_57 dX9_kindnessBehindRow_38 ?_
  refine r_bi C dX9_kindnessBehindRow_41 (by decide) ?_
  obtain ⟨r1, M2, hy, h⟩ := q_call_some h
  refine r_cvv C (st := []) (c_X3_pass C.2.2.1 20 M r1 M2 hy) tm_RX9_251 mw_X3_pass ⟨rfl, rfl⟩ ⟨Nat.le_of_ble_eq_true rfl, Nat.le_of_ble_eq_true rfl⟩ kc_7 clX3 rfl rfl (Nat.le_of_ble_eq_true rfl) dX9_kindnessBehindRow_43 ?_
  refine r_aln C dX9_kindnessBehindRow_46 (k := 0) rfl ?_
  refine r_aln C dX9_kindnessBehindRow_47 (k := 0) rfl ?_
  refine r_gs C kc_0 clX9 (f := 5) (by decide) rfl (t := 5) rfl tf_RX9_42 dX9_kindnessBehindRow_48 ?_
  obtain ⟨r3, hy, h⟩ := q_calp_some h
  refine r_cvi C (st := []) (c_X9_kindnessGone C.2.2.1 5 (by unfold isS; omega) M2 r3 hy) tm_RX9_264 mw_X9_kindnessGone ⟨rfl, rfl⟩ ⟨Nat.le_of_ble_eq_true rfl, Nat.le_of_ble_eq_true rfl⟩ kc_0 clX9 rfl rfl (Nat.le_of_ble_eq_true rfl) dX9_kindnessBehindRow_51 ?_
  exact r_iret C hr hlk dX9_kindnessBehindRow_54 h
def f_X9_kindnessBehindRow_B6 (x1 : Int) (x2 : Int) (M : Mem) (g6 : Int → Mem → Res) : Res :=
  if w32 x1 ≤ w32 x2 then (f_X9_kindnessBehindRow_J37  M)
  else (if w32 4 ≤ w32 x2 then (f_X9_kindnessBehindRow_J37  M)
  else (q_al M 44 4 x2 fun v1 =>
  q_as M 200 8 x2 v1 fun M2 =>
  g6 (x2 + 1) M2))
def f_X9_kindnessBehindRow_L6 (x1 : Int) (n : Nat) (x2 : Int) (M : Mem) : Res := qlm1 (fun x2 M g6 => f_X9_kindnessBehindRow_B6 x1 x2 M g6) n x2 M
theorem w_X9_kindnessBehindRow_B6 (C : Cx syC p m c cX9_kindnessBehindRow 3 s args RX9 D ad cA) (hr : meth.sig.returnType = (some .int)) (hlk : meth.locks = false)  (x1 : Int) (x2 : Int) (M : Mem) (g6 : Int → Mem → Res)  (ih6 : ∀ (ux2 : Int) (M : Mem), g6 ux2 M = some (r0, M0) → WM syC p l e rm_X9_kindnessBehindRow s m args below meth c 3 D ad cA (MQ below (q_Post syC D ad cA (some (.int (qI r0))) M0) args s 0 0 (q_A syC ad)) M 6 [(0, .ref (ad 0)), (1, .int (qI x1)), (2, .int (qI ux2))] []) (h : f_X9_kindnessBehindRow_B6 x1 x2 M g6 = some (r0, M0)) : WM syC p l e rm_X9_kindnessBehindRow s m args below meth c 3 D ad cA (MQ below (q_Post syC D ad cA (some (.int (qI r0))) M0) args s 0 0 (q_A syC ad)) M 6 [(0, .ref (ad 0)), (1, .int (qI x1)), (2, .int (qI x2))] [] := by
  unfold f_X9_kindnessBehindRow_B6 at h
  refine r_iln C dX9_kindnessBehindRow_6 (k := 2) rfl ?_
  refine r_iln C dX9_kindnessBehindRow_7 (k := 1) rfl ?_
  refine r_cge C (tgt := 37) dX9_kindnessBehindRow_8 (by decide) h (fun h => ?_) (fun h => ?_)
  · refine r_drop [0] rfl ?_
    exact w_X9_kindnessBehindRow_J37 C hr hlk  M  h
  · refine r_iln C dX9_kindnessBehindRow_11 (k := 2) rfl ?_
    refine r_ic C dX9_kindnessBehindRow_12 ?_
    refine r_cge C (tgt := 37) dX9_kindnessBehindRow_13 (by decide) h (fun h => ?_) (fun h => ?_)
    · refine r_drop [0] rfl ?_
      exact w_X9_kindnessBehindRow_J37 C hr hlk  M  h
    · refine r_aln C dX9_kindnessBehindRow_16 (k := 0) rfl ?_
      refine r_gs C kc_0 clX9 (f := 5) (by decide) rfl (t := 5) rfl tf_RX9_42 dX9_kindnessBehindRow_17 ?_
      refine r_gs C kc_5 clX6 (f := 8) (by decide) rfl (t := 200) rfl tf_RX9_200 dX9_kindnessBehindRow_20 ?_
      refine r_iln C dX9_kindnessBehindRow_23 (k := 2) rfl ?_
      refine r_aln C dX9_kindnessBehindRow_24 (k := 0) rfl ?_
      refine r_gs C kc_0 clX9 (f := 12) (by decide) rfl (t := 44) rfl tf_RX9_79 dX9_kindnessBehindRow_25 ?_
      refine r_iln C dX9_kindnessBehindRow_28 (k := 2) rfl ?_
      refine r_iald C kc_44 dX9_kindnessBehindRow_29 h (fun v1 h => ?_)
      refine r_iast C kc_200 dX9_kindnessBehindRow_30 h (fun M2 h => ?_)
      refine r_inc C (L1 := [(2, .int (qI (x2 + 1))), (0, .ref (ad 0)), (1, .int (qI x1))]) dX9_kindnessBehindRow_31 (k := 2) rfl (by decide) rfl ?_
      refine r_goto C (tgt := 6) dX9_kindnessBehindRow_34 (by decide) ?_
      refine r_drop [1, 2, 0] rfl ?_
      exact ih6 (x2 + 1) M2 h
theorem w_X9_kindnessBehindRow_L6 (C : Cx syC p m c cX9_kindnessBehindRow 3 s args RX9 D ad cA) (hr : meth.sig.returnType = (some .int)) (hlk : meth.locks = false)  (x1 : Int)  (n : Nat) (x2 : Int) (M : Mem) (h : f_X9_kindnessBehindRow_L6 x1 n x2 M = some (r0, M0)) : WM syC p l e rm_X9_kindnessBehindRow s m args below meth c 3 D ad cA (MQ below (q_Post syC D ad cA (some (.int (qI r0))) M0) args s 0 0 (q_A syC ad)) M 6 [(0, .ref (ad 0)), (1, .int (qI x1)), (2, .int (qI x2))] [] :=
  qlm1_r (Wp := fun ux2 M => WM syC p l e rm_X9_kindnessBehindRow s m args below meth c 3 D ad cA (MQ below (q_Post syC D ad cA (some (.int (qI r0))) M0) args s 0 0 (q_A syC ad)) M 6 [(0, .ref (ad 0)), (1, .int (qI x1)), (2, .int (qI ux2))] []) (fun ux2 M g6 ih6 h => w_X9_kindnessBehindRow_B6 C hr hlk x1 ux2 M g6  ih6 h) n x2 M h
def f_X9_kindnessBehindRow (a0 : Int) (M : Mem) : Res :=
  q_call (f_X9_tryFromNow  M) fun r1 M2 =>
  f_X9_kindnessBehindRow_L6 a0 q_N 0 M2
theorem c_X9_kindnessBehindRow {l : Launch} {D : va_G} {ad : Nat → Nat} {cA : Nat → ClassId} (hi : q_inj syC ad) (a0 : Int) (M : Mem) (r0 : Int) (M0 : Mem) (h : f_X9_kindnessBehindRow a0 M = some (r0, M0)) : q_Met l syC D ad cA yX9_kindnessBehindRow cX9_kindnessBehindRow 3 (some .int) rm_X9_kindnessBehindRow [.ref (ad 0), .int (qI a0)] M (some (.int (qI r0))) M0 := by
  refine q_met (L0 := [(0, .ref (ad 0)), (1, .int (qI a0))]) hi okC (by decide) (Nat.le_of_ble_eq_true rfl) rfl ?_
  intro p e s m args below meth c C hr hlk
  unfold f_X9_kindnessBehindRow at h
  refine r_aln C dX9_kindnessBehindRow_0 (k := 0) rfl ?_
  obtain ⟨r1, M2, hy, h⟩ := q_call_some h
  refine r_cvv C (st := []) (c_X9_tryFromNow C.2.2.1 M r1 M2 hy) tm_RX9_258 mw_X9_tryFromNow ⟨rfl, rfl⟩ ⟨Nat.le_of_ble_eq_true rfl, Nat.le_of_ble_eq_true rfl⟩ kc_0 clX9 rfl rfl (Nat.le_of_ble_eq_true rfl) dX9_kindnessBehindRow_1 ?_
  refine r_ic C dX9_kindnessBehindRow_4 ?_
  refine r_isn C (L1 := [(2, .int (qI 0)), (0, .ref (ad 0)), (1, .int (qI a0))]) dX9_kindnessBehindRow_5 (by decide) rfl ?_
  refine r_drop [1, 2, 0] rfl ?_
  exact w_X9_kindnessBehindRow_L6 C hr hlk a0  q_N 0 M2 h
end P12d
