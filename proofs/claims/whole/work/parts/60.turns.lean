set_option maxHeartbeats 2000000 in
theorem turnsC {t k : Nat} {q r b bus x : Int} {Mc Mc1 Mm Mn : Mem} (h : MR t k q r b Mc Mm) (hb : 0 ≤ bus ∧ bus < Mm 35 1) (hT : ∀ i, 0 ≤ i → i < Mm 69 q → TI t k i (Mm 70 (8 * q + i)) (Mm 44 bus) Mc Mn) (hs : SC Mc Mc1) : wpo (f_X3_findTurns bus x Mc1) (fun z => z.1 = 0 ∧ SC Mc z.2 ∧ ∀ i, 0 ≤ i → i < Mm 69 q → Bt x (Mm 70 (8 * q + i)) = true → z.2 263 (Mm 70 (8 * q + i)) = Mn 82 (Mm 70 (8 * q + i)) ∧ -9999 ≤ Mn 82 (Mm 70 (8 * q + i)) ∧ Mn 82 (Mm 70 (8 * q + i)) ≤ 9999) := by
  obtain ⟨r1, r2, r3, r4, r5, r6⟩ := h.rng
  obtain ⟨e1, e2, e3, e4, e5⟩ := h.raw
  have hS := h.1.2.1
  have hB := h.1.2.2.1
  have hq := h.2.1
  have ht := h.1.1
  have hfa := (h.1.2.2.2.2.2.2.2.2.2.1 bus hb.1 hb.2).2.2.2.2
  unfold f_X3_findTurns f_X3_findTurns_L2
  refine qlm1_N (fun y M => 0 ≤ y ∧ y ≤ Mm 69 q ∧ SC Mc M ∧ ∀ i, 0 ≤ i → i < y → Bt x (Mm 70 (8 * q + i)) = true → M 263 (Mm 70 (8 * q + i)) = Mn 82 (Mm 70 (8 * q + i)) ∧ -9999 ≤ Mn 82 (Mm 70 (8 * q + i)) ∧ Mn 82 (Mm 70 (8 * q + i)) ≤ 9999) (fun y _ => (Mm 69 q - y).toNat) _ _ ⟨by omega, by omega, hs, fun i a b => absurd b (by omega)⟩ (by omega) ?_
  intro y M g ⟨i1, i2, i3, i4⟩ ih
  obtain ⟨h70, h71⟩ := h.2.2.1
  have m7 : M 7 = Mc 7 := i3 7 (by omega) (by omega) (by omega) (by omega)
  have mk : M k = Mc k := i3 k (by omega) (by omega) (by omega) (by omega)
  have m8 : M (32 * (k + 1) + 8) = Mc (32 * (k + 1) + 8) := i3 _ (by omega) (by omega) (by omega) (by omega)
  have m12 : M (32 * (t + 1) + 12) = Mc (32 * (t + 1) + 12) := i3 _ (by omega) (by omega) (by omega) (by omega)
  unfold f_X3_findTurns_B2
  simp (disch := omega) only [w32_id, q_gf_e, q_gr_e, q_pf_e, q_pz_e, q_let_e, q_call_e, q_calp_e, q_al_ok, q_as_ok, q_nz_ok, up_same, up_nei, up_ne1, Int.toNat_natCast, reduceIte, Int.reduceEq, Int.reduceLT, Int.reduceLE, Int.reduceNeg, not_true_eq_false, not_false_eq_true, m7, h70, h71, mk, e3]
  refine wpo_ite (fun c => wpo_some.mpr ⟨rfl, i3, fun i a b => i4 i a (by omega)⟩) (fun c => ?_)
  have hx := r4 y i1 (by omega)
  have ex := e4 y i1 (by omega)
  simp (disch := omega) only [w32_id, q_gf_e, q_gr_e, q_pf_e, q_pz_e, q_let_e, q_call_e, q_calp_e, q_al_ok, q_as_ok, q_nz_ok, up_same, up_nei, up_ne1, Int.toNat_natCast, reduceIte, Int.reduceEq, Int.reduceLT, Int.reduceLE, Int.reduceNeg, not_true_eq_false, not_false_eq_true, m8, m12, ex, hfa.1]
  refine wpo_ite (fun cb => ih _ _ ⟨by omega, by omega, i3, fun i a b bt => ?_⟩ (by omega)) (fun cb => ?_)
  · by_cases ci : i = y
    · subst ci; rw [(and1 (by omega)).mp cb] at bt; exact absurd bt (by decide)
    · exact i4 i a (by omega) bt
  · obtain ⟨Mc1', w, Mc2', z1, z2, z3, z4, z5, z6⟩ := hT y i1 (by omega) M i3
    have hw := z5
    unfold in64 at hw
    have hr := maxl_rng w z5
    simp (disch := omega) only [w32_id, q_gf_e, q_gr_e, q_pf_e, q_pz_e, q_let_e, q_call_e, q_calp_e, q_al_ok, q_as_ok, q_nz_ok, up_same, up_nei, up_ne1, Int.toNat_natCast, reduceIte, Int.reduceEq, Int.reduceLT, Int.reduceLE, Int.reduceNeg, not_true_eq_false, not_false_eq_true, z1, z2, m7, h70, z3, cmp_v]
    have key : ∀ v, Mn 82 (Mm 70 (8 * q + y)) = v → -9999 ≤ v → v ≤ 9999 → wpo (g (y + 1) (up Mc2' 263 (Mm 70 (8 * q + y)) v)) (fun z => z.1 = 0 ∧ SC Mc z.2 ∧ ∀ i, 0 ≤ i → i < Mm 69 q → Bt x (Mm 70 (8 * q + i)) = true → z.2 263 (Mm 70 (8 * q + i)) = Mn 82 (Mm 70 (8 * q + i)) ∧ -9999 ≤ Mn 82 (Mm 70 (8 * q + i)) ∧ Mn 82 (Mm 70 (8 * q + i)) ≤ 9999) := by
      intro v ev v1 v2
      refine ih _ _ ⟨by omega, by omega, i3.trans (z4.to.trans (fun n _ a _ _ => up_ne1 a)), fun i a b bt => ?_⟩ (by omega)
      by_cases ci : i = y
      · subst ci
        rw [up_same, ev]
        exact ⟨rfl, v1, v2⟩
      · rw [up_nei (r5 i y a (by omega) (by omega)), z4 263 (by omega) (by omega) (by omega)]
        exact i4 i a (by omega) bt
    by_cases cw : w = -9223372036854775808
    · rw [if_pos cw] at z6
      have hc : ¬ ¬ (if w < -9223372036854775808 then (-1 : Int) else if w = -9223372036854775808 then 0 else 1) = 0 := by
        rw [if_neg (by omega), if_pos cw]; simp
      rw [if_neg hc]
      exact key 0 z6 (by omega) (by omega)
    · rw [if_neg cw] at z6
      have hc : ¬ (if w < -9223372036854775808 then (-1 : Int) else if w = -9223372036854775808 then 0 else 1) = 0 := by
        rw [if_neg (by omega), if_neg cw]; simp
      rw [if_pos hc]
      exact key _ z6 hr.1 hr.2
