section P11
variable {p : Program} {l : Launch} {e : Env} {s : State} {m : MethodId} {args : Array Value} {below : List Frame} {meth : Method} {c : Code} {D : va_G} {ad : Nat → Nat} {cA : Nat → ClassId} {r0 : Int} {M0 : Mem} {sy : Sys}
abbrev rm_J6_bitCount_0f7a4 : Room := { frames := 0, cells := 0, slots := 0, locals := 0 }
theorem mw_J6_bitCount_0f7a4 : q_ms yJ6_bitCount_0f7a4 cJ6_bitCount_0f7a4 1 (some .int) 1 := ⟨⟨ts_J6_bitCount_0f7a4, tn_RJ6, td_J6_bitCount_0f7a4⟩, by decide +kernel⟩
def f_J6_bitCount_0f7a4 (a0 : Int) (M : Mem) : Option Int :=
  q_let ((q_and (a0 - (q_and (q_ushr a0 1) 1431655765)) 858993459) + (q_and (q_ushr (a0 - (q_and (q_ushr a0 1) 1431655765)) 2) 858993459)) fun v1 =>
  q_let ((q_and (v1 + (q_ushr v1 4)) 252645135) + (q_ushr (q_and (v1 + (q_ushr v1 4)) 252645135) 8)) fun v2 =>
  some (q_and (v2 + (q_ushr v2 16)) 63)
theorem c_J6_bitCount_0f7a4 {sy : Sys} {l : Launch} {D : va_G} {ad : Nat → Nat} {cA : Nat → ClassId} (hi : q_inj sy ad) (ho : q_ok sy) (a0 : Int) (M : Mem) (r0 : Int) (h : f_J6_bitCount_0f7a4 a0 M = some r0) : q_Met l sy D ad cA yJ6_bitCount_0f7a4 cJ6_bitCount_0f7a4 1 (some .int) rm_J6_bitCount_0f7a4 [.int (qI a0)] M (some (.int (qI r0))) M := by
  refine q_met (L0 := [(0, .int (qI a0))]) hi ho (by decide) (Nat.le_of_ble_eq_true rfl) rfl ?_
  intro p e s m args below meth c C hr hlk
  unfold f_J6_bitCount_0f7a4 at h
  refine r_iln C dJ6_bitCount_0f7a4_0 (k := 0) rfl ?_
  refine r_iln C dJ6_bitCount_0f7a4_1 (k := 0) rfl ?_
  refine r_ic C dJ6_bitCount_0f7a4_2 ?_
  refine r_iushr C dJ6_bitCount_0f7a4_3 ?_
  refine r_ldcw C (x := 1431655765) tc_RJ6_265 (by decide) dJ6_bitCount_0f7a4_4 ?_
  refine r_iand C dJ6_bitCount_0f7a4_7 ?_
  refine r_isub C dJ6_bitCount_0f7a4_8 ?_
  refine r_isn C (L1 := [(0, .int (qI (a0 - (q_and (q_ushr a0 1) 1431655765))))]) dJ6_bitCount_0f7a4_9 (by decide) rfl ?_
  refine r_iln C dJ6_bitCount_0f7a4_10 (k := 0) rfl ?_
  refine r_ldcw C (x := 858993459) tc_RJ6_266 (by decide) dJ6_bitCount_0f7a4_11 ?_
  refine r_iand C dJ6_bitCount_0f7a4_14 ?_
  refine r_iln C dJ6_bitCount_0f7a4_15 (k := 0) rfl ?_
  refine r_ic C dJ6_bitCount_0f7a4_16 ?_
  refine r_iushr C dJ6_bitCount_0f7a4_17 ?_
  refine r_ldcw C (x := 858993459) tc_RJ6_266 (by decide) dJ6_bitCount_0f7a4_18 ?_
  refine r_iand C dJ6_bitCount_0f7a4_21 ?_
  refine r_iadd C dJ6_bitCount_0f7a4_22 ?_
  refine r_let h (fun v1 h => ?_)
  refine r_isn C (L1 := [(0, .int (qI v1))]) dJ6_bitCount_0f7a4_23 (by decide) rfl ?_
  refine r_iln C dJ6_bitCount_0f7a4_24 (k := 0) rfl ?_
  refine r_iln C dJ6_bitCount_0f7a4_25 (k := 0) rfl ?_
  refine r_ic C dJ6_bitCount_0f7a4_26 ?_
  refine r_iushr C dJ6_bitCount_0f7a4_27 ?_
  refine r_iadd C dJ6_bitCount_0f7a4_28 ?_
  refine r_ldcw C (x := 252645135) tc_RJ6_267 (by decide) dJ6_bitCount_0f7a4_29 ?_
  refine r_iand C dJ6_bitCount_0f7a4_32 ?_
  refine r_isn C (L1 := [(0, .int (qI (q_and (v1 + (q_ushr v1 4)) 252645135)))]) dJ6_bitCount_0f7a4_33 (by decide) rfl ?_
  refine r_iln C dJ6_bitCount_0f7a4_34 (k := 0) rfl ?_
  refine r_iln C dJ6_bitCount_0f7a4_35 (k := 0) rfl ?_
  refine r_bi C dJ6_bitCount_0f7a4_36 (by decide) ?_
  refine r_iushr C dJ6_bitCount_0f7a4_38 ?_
  refine r_iadd C dJ6_bitCount_0f7a4_39 ?_
  refine r_let h (fun v2 h => ?_)
  refine r_isn C (L1 := [(0, .int (qI v2))]) dJ6_bitCount_0f7a4_40 (by decide) rfl ?_
  refine r_iln C dJ6_bitCount_0f7a4_41 (k := 0) rfl ?_
  refine r_iln C dJ6_bitCount_0f7a4_42 (k := 0) rfl ?_
  refine r_bi C dJ6_bitCount_0f7a4_43 (by decide) ?_
  refine r_iushr C dJ6_bitCount_0f7a4_45 ?_
  refine r_iadd C dJ6_bitCount_0f7a4_46 ?_
  refine r_isn C (L1 := [(0, .int (qI (v2 + (q_ushr v2 16))))]) dJ6_bitCount_0f7a4_47 (by decide) rfl ?_
  refine r_iln C dJ6_bitCount_0f7a4_48 (k := 0) rfl ?_
  refine r_bi C dJ6_bitCount_0f7a4_49 (by decide) ?_
  refine r_iand C dJ6_bitCount_0f7a4_51 ?_
  exact r_iretp C hr hlk dJ6_bitCount_0f7a4_52 h
end P11
