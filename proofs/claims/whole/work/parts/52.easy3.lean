theorem o_lets : rs_lets Rel := by
  intro Mc Mm a0 hR ha
  have h0 := hR
  obtain ⟨t, h⟩ := h0
  obtain ⟨⟨h3, -⟩, hT, -⟩ := h
  obtain ⟨ht, hS, hB, -, -, -, -, hp, hL, hb, -⟩ := hT
  have ec := isSoulC (a := a0) h3 (by omega) ha
  have em := isSoulM (M := up Mm 0 0 0) (a := a0) (by rw [up_ne1 (by omega)]; omega) ha
  rw [hS.1] at ec
  rw [up_ne1 (by omega)] at em
  unfold in32 at ha
  show PM Mc _ _
  unfold f_X9_lets f_X10_lets
  by_cases c : 0 ≤ a0 ∧ a0 < Mm 35 0
  · rw [if_pos c] at ec em
    simp (disch := omega) only [w32_id, q_gf_e, q_gr_e, q_pf_e, q_pz_e, q_let_e, q_call_e, q_calp_e, q_al_ok, q_as_ok, q_nz_ok, up_same, up_nei, up_ne1, Int.toNat_natCast, reduceIte, Int.reduceEq, Int.reduceLT, Int.reduceLE, Int.reduceNeg, not_true_eq_false, not_false_eq_true, ec, em, h3]
    (try simp (disch := omega) only [w32_id, q_gf_e, q_gr_e, q_pf_e, q_pz_e, q_let_e, q_call_e, q_calp_e, q_al_ok, q_as_ok, q_nz_ok, up_same, up_nei, up_ne1, Int.toNat_natCast, reduceIte, Int.reduceEq, Int.reduceLT, Int.reduceLE, Int.reduceNeg, not_true_eq_false, not_false_eq_true])
    rw [(hp a0 c.1 c.2).2.2.2.2]
    have hl : f_X10_lets_L19 a0 (up Mm 0 0 0) q_N 0 0 = some (orT (fun j => if Mm 45 j = a0 then q_shl 1 (Mm 46 j) else 0) (Mm 35 2).toNat, up Mm 0 0 0) := by
      rw [← wpo_eq]
      unfold f_X10_lets_L19
      refine qlp2_N (fun a x => 0 ≤ x ∧ x ≤ Mm 35 2 ∧ a = orT (fun j => if Mm 45 j = a0 then q_shl 1 (Mm 46 j) else 0) x.toNat) (fun _ x => (8 - x).toNat) _ _ ⟨by omega, by omega, rfl⟩ (by omega) ?_
      intro a x g ⟨g1, g2, g3⟩ ih
      unfold f_X10_lets_B19
      simp (disch := omega) only [w32_id, q_gf_e, q_gr_e, q_pf_e, q_pz_e, q_let_e, q_call_e, q_calp_e, q_al_ok, q_as_ok, q_nz_ok, up_same, up_nei, up_ne1, Int.toNat_natCast, reduceIte, Int.reduceEq, Int.reduceLT, Int.reduceLE, Int.reduceNeg, not_true_eq_false, not_false_eq_true]
      refine wpo_ite (fun c => wpo_some.mpr ?_) (fun c => ?_)
      · rw [g3, show x = Mm 35 2 by omega]
      · have hx := hL.2.2 x g1 (by omega)
        (try simp (disch := omega) only [w32_id, q_gf_e, q_gr_e, q_pf_e, q_pz_e, q_let_e, q_call_e, q_calp_e, q_al_ok, q_as_ok, q_nz_ok, up_same, up_nei, up_ne1, Int.toNat_natCast, reduceIte, Int.reduceEq, Int.reduceLT, Int.reduceLE, Int.reduceNeg, not_true_eq_false, not_false_eq_true])
        refine wpo_ite (fun c' => ih _ _ ⟨by omega, by omega, ?_⟩ (by omega)) (fun c' => ih _ _ ⟨by omega, by omega, ?_⟩ (by omega))
        · rw [orT_succ _ g1, ← g3, if_neg c']
        · rw [orT_succ _ g1, ← g3, if_pos (by omega)]
    rw [hl]
    exact PM.ok rfl hR.thr
  · rw [if_neg c] at ec em
    simp (disch := omega) only [w32_id, q_gf_e, q_gr_e, q_pf_e, q_pz_e, q_let_e, q_call_e, q_calp_e, q_al_ok, q_as_ok, q_nz_ok, up_same, up_nei, up_ne1, Int.toNat_natCast, reduceIte, Int.reduceEq, Int.reduceLT, Int.reduceLE, Int.reduceNeg, not_true_eq_false, not_false_eq_true, ec, em, h3]
    exact PM.ok rfl hR.thr
