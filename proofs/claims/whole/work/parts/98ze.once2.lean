/-! lines: a fault, a mark -/
theorem LW.flt {u : Nat} {L f : Int} {Mc Mm Mc' Mm' : Mem} (hk : TKN Mc Mm) (h : FLT f Mc Mm Mc' Mm') : LW u L Mc Mm 0 Mc' Mm' := by
  obtain ⟨h1, h2, h3⟩ := h
  have hp := hk.2.1
  subst h2 h3
  refine ⟨?_, ?_, .inr ⟨rfl, ?_, ?_, ?_, ?_⟩⟩
  · intro n i a b c d e f g k
    rw [up_ne (by omega), up_ne (by omega)]
  · intro n i a b c d e f g
    rw [up_ne (by omega), up_ne (by omega)]
  · unfold FQa; simp (disch := omega) only [w32_id, q_gf_e, q_gr_e, q_pf_e, q_pz_e, q_let_e, q_call_e, q_calp_e, q_al_ok, q_as_ok, q_nz_ok, up_same, up_nei, up_ne1, Int.toNat_natCast, reduceIte, Int.reduceEq, Int.reduceLT, Int.reduceLE, Int.reduceNeg, not_true_eq_false, not_false_eq_true]; omega
  · simp (disch := omega) only [w32_id, q_gf_e, q_gr_e, q_pf_e, q_pz_e, q_let_e, q_call_e, q_calp_e, q_al_ok, q_as_ok, q_nz_ok, up_same, up_nei, up_ne1, Int.toNat_natCast, reduceIte, Int.reduceEq, Int.reduceLT, Int.reduceLE, Int.reduceNeg, not_true_eq_false, not_false_eq_true]
  · simp (disch := omega) only [w32_id, q_gf_e, q_gr_e, q_pf_e, q_pz_e, q_let_e, q_call_e, q_calp_e, q_al_ok, q_as_ok, q_nz_ok, up_same, up_nei, up_ne1, Int.toNat_natCast, reduceIte, Int.reduceEq, Int.reduceLT, Int.reduceLE, Int.reduceNeg, not_true_eq_false, not_false_eq_true]
  · unfold in32; simp (disch := omega) only [w32_id, q_gf_e, q_gr_e, q_pf_e, q_pz_e, q_let_e, q_call_e, q_calp_e, q_al_ok, q_as_ok, q_nz_ok, up_same, up_nei, up_ne1, Int.toNat_natCast, reduceIte, Int.reduceEq, Int.reduceLT, Int.reduceLE, Int.reduceNeg, not_true_eq_false, not_false_eq_true]; omega
theorem LW.pre {u : Nat} {L r : Int} {Mc Mm Mc1 Mm1 Mc' Mm' : Mem} (h : LW u L Mc1 Mm1 r Mc' Mm') (hc : fcL u Mc Mc1) (hm : fmL Mm Mm1) (e20 : Mm1 0 20 = Mm 0 20) (e22 : Mm 0 22 ≤ Mm1 0 22) : LW u L Mc Mm r Mc' Mm' := by
  obtain ⟨h1, h2, h3⟩ := h
  refine ⟨hc.trans h1, hm.trans h2, ?_⟩
  rcases h3 with ⟨a, b, c, d, g⟩ | h3
  · exact .inl ⟨a, b, by rw [c, e20], by omega, fun z => by have := g z; omega⟩
  · exact .inr h3
theorem j101_0 (M : Mem) : f_X4_readLine_J101 0 M = some (0, M) := by
  unfold f_X4_readLine_J101
  rw [if_neg (show ¬ ¬ w32 0 = 0 by decide)]
theorem RD.mark {u : Nat} {L x : Int} {Mc Mm : Mem} (h : RD u L Mc Mm) (hx : 0 ≤ x ∧ x ≤ 6) : RD u L (up Mc 1 3 (q_or (Mc 1 3) (q_shl 1 x))) (up Mm 0 19 (q_or (Mm 0 19) (q_shl 1 x))) := by
  obtain ⟨g1, g2, g3, g4, g5, g6, g7, g8, g9, g10⟩ := h
  have em : ∀ n, n ≠ 0 → up Mm 0 19 (q_or (Mm 0 19) (q_shl 1 x)) n = Mm n := fun n hn => up_ne1 hn
  have ec : ∀ n, n ≠ 1 → up Mc 1 3 (q_or (Mc 1 3) (q_shl 1 x)) n = Mc n := fun n hn => up_ne1 hn
  refine ⟨g1, ?_, ?_, ?_, ?_, g6.frm2 (fun n hn => ec n (by omega)) (hv_frm (fun n a b => em n (by omega))), ?_, ?_, ?_, ?_⟩
  · rw [up_nei (by omega), g2]
  · unfold TB BY at *; rw [em 33 (by omega), ec 32 (by omega), ec 10 (by omega), ec 352 (by omega), up_nei (by omega), up_nei (by omega)]; exact g3
  · unfold TKN at *; rw [ec 10 (by omega), up_nei (by omega), up_nei (by omega), up_nei (by omega)]; exact g4
  · rw [up_nei (by omega), g5]
  · rw [em 35 (by omega), ec u (by omega), g7]
  · rw [em 35 (by omega), ec _ (by omega)]; exact g8
  · intro k a b
    obtain ⟨q1, q2, q3, q4⟩ := g9 k a b
    refine ⟨?_, ?_, ?_, ?_⟩
    · rw [up_same, up_same, Bt_or, Bt_or, q1]
    · rw [up_nei (by omega), q2]
    · rw [up_nei (by omega), q3]
    · rw [up_nei (by omega), q4]
  · intro l a b
    rw [ec _ (by omega), ec _ (by omega), up_same, Bt_or, Bt_shl (by omega) (by omega), decide_eq_false (by omega), Bool.or_false]
    exact g10 l a b
