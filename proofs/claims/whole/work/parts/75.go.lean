theorem MR.up0 {t k : Nat} {q r b f v : Int} {Mc Mm : Mem} (h : MR t k q r b Mc Mm) (hf : f ≠ 47 ∧ f ≠ 48 ∧ f ≠ 49) : MR t k q r b Mc (up Mm 0 f v) := by
  obtain ⟨h1, h2, h3, h4, h5, h6, h7⟩ := h
  have hv : mvw q (up Mm 0 f v) = mvw q Mm := by
    funext g i
    have e : mvc g ≠ 0 := by unfold mvc; split <;> omega
    unfold mvw
    rw [up_ne1 (by omega), up_ne1 (by omega), up_ne1 (by omega), up_ne1 e]
  unfold MR StE
  rw [hv, up_ne1 (n' := 35) (by omega), up_nei (i' := 47) (by omega), up_nei (i' := 48) (by omega), up_nei (i' := 49) (by omega)]
  exact ⟨TR.frm2 h1 (fun _ _ => rfl) (fun n a b => up_ne1 (by omega)), h2, h3, h4, h5, h6, h7⟩
theorem MR.cell {t k n : Nat} {q r b i v : Int} {Mc Mm : Mem} (h : MR t k q r b Mc Mm) (hn : n = 8 ∨ n = 9 ∨ n = 0) : MR t k q r b (up Mc n i v) Mm := by
  obtain ⟨h1, h2, h3, h4, h5, h6, h7⟩ := h
  have ht := h1.1
  have hv : ∀ f i', f = 0 ∨ (2 ≤ f ∧ f ≤ 8) → cvw k (up Mc n i v) f i' = cvw k Mc f i' := by
    intro f i' hf
    unfold cvw
    rw [up_ne1 (by omega), up_ne1 (by omega)]
  have e : VEQ (cvw k Mc) (cvw k (up Mc n i v)) := ⟨(hv 0 0 (by omega)).symm, (hv 0 1 (by omega)).symm, (hv 0 9 (by omega)).symm, fun f i' a b c d => (hv f i' (by omega)).symm⟩
  have k1 := VEQ.to (S := Mm 35 0) e (by have := h1.2.1; omega) (by have := h6.2.2.1; have := h1.2.1; omega)
  refine ⟨TR.frm2 h1 (fun n' a => up_ne1 (by omega)) (fun _ _ _ => rfl), h2, ?_, ?_, k1.symm.trans h5, WFB.of h6 k1, h7⟩
  · rw [up_ne1 (by omega)]; exact h3
  · unfold StE
    rw [up_ne1 (by omega)]; exact h4
theorem o_go : rs_go Rel := by
  intro Mc Mm a0 hR h0
  obtain ⟨t, hr⟩ := hR
  have hr := hr.thr (v := 0)
  show PW _ _
  unfold f_X9_go f_X10_go
  rw [q_pf_e]
  generalize up Mm 0 0 0 = N at hr ⊢
  have hR : Rel Mc N := ⟨t, hr⟩
  have h03 := hr.1.1
  have hT := hr.2.1
  have ht := hT.1
  have h98 := hr.m98
  unfold in32 at h0
  simp (disch := omega) only [w32_id, q_gf_e, q_gr_e, q_pf_e, q_pz_e, q_let_e, q_call_e, q_calp_e, q_al_ok, q_as_ok, q_nz_ok, up_same, up_nei, up_ne1, Int.toNat_natCast, reduceIte, Int.reduceEq, Int.reduceLT, Int.reduceLE, Int.reduceNeg, not_true_eq_false, not_false_eq_true, h98.1]
  by_cases c1 : a0 < 0
  · rw [if_pos c1, if_pos c1]; exact PW.ok rfl hR
  rw [if_neg c1, if_neg c1]
  by_cases c2 : 200 < a0
  · rw [if_pos c2, if_pos c2]; exact PW.ok rfl hR
  rw [if_neg c2, if_neg c2]
  (try simp (disch := omega) only [w32_id, q_gf_e, q_gr_e, q_pf_e, q_pz_e, q_let_e, q_call_e, q_calp_e, q_al_ok, q_as_ok, q_nz_ok, up_same, up_nei, up_ne1, Int.toNat_natCast, reduceIte, Int.reduceEq, Int.reduceLT, Int.reduceLE, Int.reduceNeg, not_true_eq_false, not_false_eq_true])
  by_cases c3 : N 67 0 + a0 ≤ 9800
  · rw [if_pos c3, if_pos c3]
    simp (disch := omega) only [w32_id, q_gf_e, q_gr_e, q_pf_e, q_pz_e, q_let_e, q_call_e, q_calp_e, q_al_ok, q_as_ok, q_nz_ok, up_same, up_nei, up_ne1, Int.toNat_natCast, reduceIte, Int.reduceEq, Int.reduceLT, Int.reduceLE, Int.reduceNeg, not_true_eq_false, not_false_eq_true, h03, readyC]
    obtain ⟨f0, f1, f2, f3, f4, f5⟩ := RDY.f (k0 := t) (k1 := 4) (M := Mc)
    have fc0 : FC t Mc (up (RDY t 4 Mc) 7 2 1) := by
      intro n hn
      unfold KC at hn
      rw [up_ne1 (by omega), RDY.ne (by omega)]
    have h7 : up (RDY t 4 Mc) 7 2 1 7 0 = t ∧ up (RDY t 4 Mc) 7 2 1 7 1 = 4 ∧ up (RDY t 4 Mc) 7 2 1 7 2 = 1 ∧ up (RDY t 4 Mc) 7 2 1 7 3 = 0 ∧ up (RDY t 4 Mc) 7 2 1 7 4 = -1 := by
      refine ⟨by rw [up_nei (by omega)]; exact f0, by rw [up_nei (by omega)]; exact f1, up_same _ _ _ _, by rw [up_nei (by omega)]; exact f3, by rw [up_nei (by omega)]; exact f4⟩
    have hm0 := nowMR (r := 1) hr fc0 h7 (.inr rfl)
    generalize up (RDY t 4 Mc) 7 2 1 = Mc0 at fc0 h7 hm0 ⊢
    by_cases c4 : a0 ≤ 0
    · have e0 : a0 = 0 := by omega
      subst e0
      obtain ⟨Mc1, Mm1, a1, a2, a3, a4, a5, a6⟩ := passL (n := 0) (fun x2 M g43 => f_X10_go_B43 0 x2 M g43) (fun M => q_al M 67 23 0 fun v1 => some (v1, M)) (fun x M g a b => by
        unfold f_X10_go_B43
        rw [w32_id (by omega), w32_id (by omega)]) hm0 (by omega) (by omega)
      have e1 : f_X3_pass 0 Mc0 = some (0, Mc0) := by
        rw [← wpo_eq]
        unfold f_X3_pass f_X3_pass_L2
        refine qlm1_N (fun y M => y = 0 ∧ M = Mc0) (fun _ _ => 1) _ _ ⟨rfl, rfl⟩ (by omega) ?_
        intro y M g ⟨e, e'⟩ ih
        subst e e'
        unfold f_X3_pass_B2
        rw [if_pos (Int.le_refl _)]
        exact wpo_some.mpr rfl
      have e2 : f_X10_go_J41 0 N = some (N 67 0, N) := by
        rw [← wpo_eq]
        unfold f_X10_go_J41 f_X10_go_L43
        refine qlm1_N (fun y M => y = 0 ∧ M = N) (fun _ _ => 1) _ _ ⟨rfl, rfl⟩ (by omega) ?_
        intro y M g ⟨e, e'⟩ ih
        subst e e'
        unfold f_X10_go_B43
        rw [if_pos (Int.le_refl _)]
        (try simp (disch := omega) only [w32_id, q_gf_e, q_gr_e, q_pf_e, q_pz_e, q_let_e, q_call_e, q_calp_e, q_al_ok, q_as_ok, q_nz_ok, up_same, up_nei, up_ne1, Int.toNat_natCast, reduceIte, Int.reduceEq, Int.reduceLT, Int.reduceLE, Int.reduceNeg, not_true_eq_false, not_false_eq_true])
        exact wpo_some.mpr rfl
      rw [e1, e2]
      (try simp (disch := omega) only [w32_id, q_gf_e, q_gr_e, q_pf_e, q_pz_e, q_let_e, q_call_e, q_calp_e, q_al_ok, q_as_ok, q_nz_ok, up_same, up_nei, up_ne1, Int.toNat_natCast, reduceIte, Int.reduceEq, Int.reduceLT, Int.reduceLE, Int.reduceNeg, not_true_eq_false, not_false_eq_true])
      have e4 : Mc0 4 0 = N 67 0 := by rw [fc0 4 (by unfold KC; omega)]; exact h98.1
      exact PW.ok e4 ⟨t, hr.frm fc0 (FM.refl _)⟩
    · have hm1 : MR t 4 0 1 0 Mc0 (up N 0 46 0) := hm0.up0 (by omega)
      have e67 : up N 0 46 0 67 = N 67 := up_ne1 (by omega)
      obtain ⟨Mc1, Mm1, a1, a2, a3, a4, a5, a6⟩ := passL (n := a0) (fun x2 M g43 => f_X10_go_B43 a0 x2 M g43) (fun M => q_al M 67 23 0 fun v1 => some (v1, M)) (fun x M g a b => by
        unfold f_X10_go_B43
        rw [w32_id (by omega), w32_id (by omega)]) hm1 (by omega) (by rw [e67]; omega)
      have e2 : f_X10_go_J41 a0 (up N 0 46 0) = some (Mm1 67 0, Mm1) := by
        unfold f_X10_go_J41 f_X10_go_L43
        rw [a2]
        (try simp (disch := omega) only [w32_id, q_gf_e, q_gr_e, q_pf_e, q_pz_e, q_let_e, q_call_e, q_calp_e, q_al_ok, q_as_ok, q_nz_ok, up_same, up_nei, up_ne1, Int.toNat_natCast, reduceIte, Int.reduceEq, Int.reduceLT, Int.reduceLE, Int.reduceNeg, not_true_eq_false, not_false_eq_true])
      rw [if_neg c4, a1, e2]
      (try simp (disch := omega) only [w32_id, q_gf_e, q_gr_e, q_pf_e, q_pz_e, q_let_e, q_call_e, q_calp_e, q_al_ok, q_as_ok, q_nz_ok, up_same, up_nei, up_ne1, Int.toNat_natCast, reduceIte, Int.reduceEq, Int.reduceLT, Int.reduceLE, Int.reduceNeg, not_true_eq_false, not_false_eq_true])
      rw [if_neg c4]
      rw [e67] at a6
      refine PW.ok (a3.raw.1) ⟨t, nowRel hr ?_ ?_ ?_ ?_ ?_ (a3.cell (n := 8) (.inl rfl)) (by omega) ⟨up_same _ _ _ _, ?_⟩⟩
      · intro n b1 b2 b3 b4
        rw [up_ne1 b2, a4 n b1 (by omega) (by unfold KC at b4; omega) (by unfold KC at b4; omega) (by unfold KC at b4; omega) (by unfold KC at b4; omega)]
        exact fc0 n b4
      · intro n b1 b2 b3 b4 b5
        rw [a5.1 n b2 b3 b4 b5 (by omega), up_ne1 b2]
      · intro f b1 b2 b3 b4
        rw [a5.2.1 f b1 b2, up_nei b3]
      · intro n i b1 b2 b3
        rw [a5.2.2.1 n i b1 b2 b3, up_ne1 (by omega)]
      · intro n i b1 b2 b3
        rw [a5.2.2.2.1 n i b1 b2 (by omega), up_ne1 (by omega)]
      · rw [a5.2.1 46 (by omega) (by omega), up_same]
  · rw [if_neg c3, if_neg c3]; exact PW.ok rfl hR
