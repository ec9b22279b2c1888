def PS (Mc : Mem) (oc : Option (Int × Int)) (om : Res) : Prop := ∃ (k r r' : Int) (Mm1 : Mem), oc = some (k, r) ∧ om = some (r', Mm1) ∧ f_X10_thrown Mm1 = some k ∧ (k = 0 ∨ k = 1 ∨ k = 2) ∧ (k = 0 → r' = r) ∧ Rel Mc Mm1
theorem PS.ok {Mc N : Mem} {k r r' : Int} (hR : Rel Mc N) (hk : N 0 0 = k) (h : k = 0 ∨ k = 1 ∨ k = 2) (hr : k = 0 → r' = r) : PS Mc (some (k, r)) (some (r', N)) := ⟨k, r, r', N, rfl, rfl, by unfold f_X10_thrown; rw [q_gf_e, hk], h, hr, hR⟩
theorem J28thr {a0 a1 y : Int} {M : Mem} (h : y = 1 ∨ y = 2) : f_X10_soul_J28 a0 a1 y M = some (0, up M 0 0 y) := by
  unfold f_X10_soul_J28
  rw [q_pf_e, q_gf_e, up_same]
  rcases h with rfl | rfl
  · rw [if_neg (by decide)]
  · rw [if_neg (by decide)]
set_option maxHeartbeats 1000000 in
theorem o_soul : rs_soul Rel := by
  intro Mc Mm a0 a1 hR h0 h1
  obtain ⟨t, hr0⟩ := hR
  show PS Mc _ _
  unfold f_X9_soul f_X10_soul f_X10_soul_J23
  have h03 := hr0.1.1
  have hS := hr0.2.1.2.1
  have ec := isSoulC (a := a0) h03 (by omega) h0
  have em := isSoulM (M := Mm) (a := a0) (by omega) h0
  rw [hS.1] at ec
  have h0' := h0
  unfold in32 at h0 h1
  rw [ec, em]
  have w1 : ¬ w32 1 = 0 := by decide
  have w0 : ¬ ¬ w32 0 = 0 := by decide
  by_cases c : 0 ≤ a0 ∧ a0 < Mm 35 0
  · rw [if_pos c]
    by_cases c7 : 0 ≤ a1 ∧ a1 ≤ 7
    · have e : (q_calp (some 1) fun r1 => if ¬ w32 r1 = 0 then (if w32 a1 < 0 then f_X10_soul_J28 a0 a1 2 Mm else if w32 a1 ≤ w32 7 then f_X10_soul_J28 a0 a1 0 Mm else f_X10_soul_J28 a0 a1 2 Mm) else f_X10_soul_J28 a0 a1 1 Mm) = f_X10_soul_J28 a0 a1 0 Mm := by
        (try simp (disch := omega) only [w32_id, q_gf_e, q_gr_e, q_pf_e, q_pz_e, q_let_e, q_call_e, q_calp_e, q_al_ok, q_as_ok, q_nz_ok, up_same, up_nei, up_ne1, Int.toNat_natCast, reduceIte, Int.reduceEq, Int.reduceLT, Int.reduceLE, Int.reduceNeg, not_true_eq_false, not_false_eq_true])
        rw [if_neg (by omega), if_pos (by omega)]
      rw [e]
      unfold f_X10_soul_J28
      rw [q_pf_e, q_gf_e, up_same, if_pos w32_0]
      have hr := hr0.thr (v := 0)
      have k0 : up Mm 0 0 0 0 0 = 0 := up_same _ _ _ _
      have c' : 0 ≤ a0 ∧ a0 < up Mm 0 0 0 35 0 := by rw [up_ne1 (by omega)]; exact c
      generalize up Mm 0 0 0 = N at hr k0 c' ⊢
      have hR : Rel Mc N := ⟨t, hr⟩
      have hw := hr.raw c'.1 c'.2
      have hS' := hr.2.1.2.1
      have hp := hr.2.1.2.2.2.2.2.2.2.1 a0 c'.1 c'.2
      have hn := hr.nob c'.1 c'.2
      obtain ⟨pc, pm, p1, p2, p3⟩ := placeNow hr h0'
      obtain ⟨g, g1, g2⟩ := goneWithW hr c'
      have hc : a1 = 0 ∨ a1 = 1 ∨ a1 = 2 ∨ a1 = 3 ∨ a1 = 4 ∨ a1 = 5 ∨ a1 = 6 ∨ a1 = 7 := by omega
      rcases hc with rfl | rfl | rfl | rfl | rfl | rfl | rfl | rfl
      · simp (disch := omega) only [w32_id, q_gf_e, q_gr_e, q_pf_e, q_pz_e, q_let_e, q_call_e, q_calp_e, q_al_ok, q_as_ok, q_nz_ok, up_same, up_nei, up_ne1, Int.toNat_natCast, reduceIte, Int.reduceEq, Int.reduceLT, Int.reduceLE, Int.reduceNeg, not_true_eq_false, not_false_eq_true, hw.1.1]; exact PS.ok hR k0 (.inl rfl) (fun _ => rfl)
      · simp (disch := omega) only [w32_id, q_gf_e, q_gr_e, q_pf_e, q_pz_e, q_let_e, q_call_e, q_calp_e, q_al_ok, q_as_ok, q_nz_ok, up_same, up_nei, up_ne1, Int.toNat_natCast, reduceIte, Int.reduceEq, Int.reduceLT, Int.reduceLE, Int.reduceNeg, not_true_eq_false, not_false_eq_true, h03, hp.2.2.1.1]; exact PS.ok hR k0 (.inl rfl) (fun _ => rfl)
      · simp (disch := omega) only [w32_id, q_gf_e, q_gr_e, q_pf_e, q_pz_e, q_let_e, q_call_e, q_calp_e, q_al_ok, q_as_ok, q_nz_ok, up_same, up_nei, up_ne1, Int.toNat_natCast, reduceIte, Int.reduceEq, Int.reduceLT, Int.reduceLE, Int.reduceNeg, not_true_eq_false, not_false_eq_true, hw.1.2.1]; exact PS.ok hR k0 (.inl rfl) (fun _ => rfl)
      · simp (disch := omega) only [w32_id, q_gf_e, q_gr_e, q_pf_e, q_pz_e, q_let_e, q_call_e, q_calp_e, q_al_ok, q_as_ok, q_nz_ok, up_same, up_nei, up_ne1, Int.toNat_natCast, reduceIte, Int.reduceEq, Int.reduceLT, Int.reduceLE, Int.reduceNeg, not_true_eq_false, not_false_eq_true, hw.1.2.2.1]; exact PS.ok hR k0 (.inl rfl) (fun _ => rfl)
      · unfold f_X10_orNone
        simp (disch := omega) only [w32_id, q_gf_e, q_gr_e, q_pf_e, q_pz_e, q_let_e, q_call_e, q_calp_e, q_al_ok, q_as_ok, q_nz_ok, up_same, up_nei, up_ne1, Int.toNat_natCast, reduceIte, Int.reduceEq, Int.reduceLT, Int.reduceLE, Int.reduceNeg, not_true_eq_false, not_false_eq_true, p1, p2]
        rcases p3 with ⟨rfl, q1, q2, -⟩ | ⟨rfl, rfl, -⟩
        · have r9 : N 69 0 ≤ 8 := by have := hr.2.2.1.1.2.1.2.2.1; have : cvw 4 Mc 0 9 = N 69 0 := hr.2.2.1.1.1.2.2.1; omega
          (try simp (disch := omega) only [w32_id, q_gf_e, q_gr_e, q_pf_e, q_pz_e, q_let_e, q_call_e, q_calp_e, q_al_ok, q_as_ok, q_nz_ok, up_same, up_nei, up_ne1, Int.toNat_natCast, reduceIte, Int.reduceEq, Int.reduceLT, Int.reduceLE, Int.reduceNeg, not_true_eq_false, not_false_eq_true])
          rw [if_pos (by omega)]
          (try simp (disch := omega) only [w32_id, q_gf_e, q_gr_e, q_pf_e, q_pz_e, q_let_e, q_call_e, q_calp_e, q_al_ok, q_as_ok, q_nz_ok, up_same, up_nei, up_ne1, Int.toNat_natCast, reduceIte, Int.reduceEq, Int.reduceLT, Int.reduceLE, Int.reduceNeg, not_true_eq_false, not_false_eq_true])
          exact PS.ok hR k0 (.inl rfl) (fun _ => rfl)
        · (try simp (disch := omega) only [w32_id, q_gf_e, q_gr_e, q_pf_e, q_pz_e, q_let_e, q_call_e, q_calp_e, q_al_ok, q_as_ok, q_nz_ok, up_same, up_nei, up_ne1, Int.toNat_natCast, reduceIte, Int.reduceEq, Int.reduceLT, Int.reduceLE, Int.reduceNeg, not_true_eq_false, not_false_eq_true])
          exact PS.ok hR k0 (.inl rfl) (fun _ => rfl)
      · simp (disch := omega) only [w32_id, q_gf_e, q_gr_e, q_pf_e, q_pz_e, q_let_e, q_call_e, q_calp_e, q_al_ok, q_as_ok, q_nz_ok, up_same, up_nei, up_ne1, Int.toNat_natCast, reduceIte, Int.reduceEq, Int.reduceLT, Int.reduceLE, Int.reduceNeg, not_true_eq_false, not_false_eq_true, hw.1.2.2.2.1]; exact PS.ok hR k0 (.inl rfl) (fun _ => rfl)
      · unfold f_X10_orNone
        simp (disch := omega) only [w32_id, q_gf_e, q_gr_e, q_pf_e, q_pz_e, q_let_e, q_call_e, q_calp_e, q_al_ok, q_as_ok, q_nz_ok, up_same, up_nei, up_ne1, Int.toNat_natCast, reduceIte, Int.reduceEq, Int.reduceLT, Int.reduceLE, Int.reduceNeg, not_true_eq_false, not_false_eq_true, hw.1.1]
        by_cases cg : N 71 a0 = 2
        · have h5 := hw.1.2.2.2.2 cg
          have ng : ¬ ¬ N 71 a0 = 2 := fun h => h cg
          rw [if_neg ng]
          simp (disch := omega) only [w32_id, q_gf_e, q_gr_e, q_pf_e, q_pz_e, q_let_e, q_call_e, q_calp_e, q_al_ok, q_as_ok, q_nz_ok, up_same, up_nei, up_ne1, Int.toNat_natCast, reduceIte, Int.reduceEq, Int.reduceLT, Int.reduceLE, Int.reduceNeg, not_true_eq_false, not_false_eq_true, h5.1]
          rw [if_pos (by omega)]
          (try simp (disch := omega) only [w32_id, q_gf_e, q_gr_e, q_pf_e, q_pz_e, q_let_e, q_call_e, q_calp_e, q_al_ok, q_as_ok, q_nz_ok, up_same, up_nei, up_ne1, Int.toNat_natCast, reduceIte, Int.reduceEq, Int.reduceLT, Int.reduceLE, Int.reduceNeg, not_true_eq_false, not_false_eq_true])
          exact PS.ok hR k0 (.inl rfl) (fun _ => rfl)
        · have hn := hn cg
          rw [if_pos cg]
          simp (disch := omega) only [w32_id, q_gf_e, q_gr_e, q_pf_e, q_pz_e, q_let_e, q_call_e, q_calp_e, q_al_ok, q_as_ok, q_nz_ok, up_same, up_nei, up_ne1, Int.toNat_natCast, reduceIte, Int.reduceEq, Int.reduceLT, Int.reduceLE, Int.reduceNeg, not_true_eq_false, not_false_eq_true, hn]
          exact PS.ok hR k0 (.inl rfl) (fun _ => rfl)
      · simp (disch := omega) only [w32_id, q_gf_e, q_gr_e, q_pf_e, q_pz_e, q_let_e, q_call_e, q_calp_e, q_al_ok, q_as_ok, q_nz_ok, up_same, up_nei, up_ne1, Int.toNat_natCast, reduceIte, Int.reduceEq, Int.reduceLT, Int.reduceLE, Int.reduceNeg, not_true_eq_false, not_false_eq_true, g1, g2]
        exact PS.ok hR k0 (.inl rfl) (fun _ => rfl)
    · have e : (q_calp (some 1) fun r1 => if ¬ w32 r1 = 0 then (if w32 a1 < 0 then f_X10_soul_J28 a0 a1 2 Mm else if w32 a1 ≤ w32 7 then f_X10_soul_J28 a0 a1 0 Mm else f_X10_soul_J28 a0 a1 2 Mm) else f_X10_soul_J28 a0 a1 1 Mm) = some (0, up Mm 0 0 2) := by
        rw [J28thr (.inr rfl), q_calp_e, if_pos w1, w32_id (x := a1) (by omega), w32_id (x := 7) (by omega)]
        by_cases c1 : a1 < 0
        · rw [if_pos c1]
        · rw [if_neg c1, if_neg (by omega)]
      rw [e, q_calp_e, if_pos w1, w32_id (x := a1) (by omega)]
      have hR : Rel Mc (up Mm 0 0 2) := ⟨t, hr0.thr⟩
      rw [if_neg (by omega), if_neg (by omega), if_neg (by omega), if_neg (by omega), if_neg (by omega), if_neg (by omega), if_neg (by omega), if_neg (by omega)]
      exact PS.ok hR (up_same _ _ _ _) (.inr (.inr rfl)) (fun h => absurd h (by omega))
  · rw [if_neg c]
    have hR : Rel Mc (up Mm 0 0 1) := ⟨t, hr0.thr⟩
    rw [q_calp_e, q_calp_e, if_neg w0, if_neg w0, J28thr (.inl rfl)]
    exact PS.ok hR (up_same _ _ _ _) (.inr (.inl rfl)) (fun h => absurd h (by omega))
theorem hasW {t : Nat} {a b d e : Int} {Mc N : Mem} (hr : RelT t Mc N) (ha : 0 ≤ a ∧ a < N 35 0) (hb : 0 ≤ b ∧ b < N 35 0) (hd : d = 0 ∨ d = 1) (he : e = 0 ∨ e = 1) : ∃ r, f_X9_windowFor a b d e Mc = some r ∧ f_X10_hasOf a b d e N = some r ∧ -200 ≤ r ∧ r ≤ 200 := by
  have h03 := hr.1.1
  have hS := hr.2.1.2.1
  have hwa := hr.raw ha.1 ha.2
  have hpa := (hr.2.1.2.2.2.2.2.2.2.1 a ha.1 ha.2).2.2.1
  have hpb := (hr.2.1.2.2.2.2.2.2.2.1 b hb.1 hb.2).2.2.1
  unfold f_X9_windowFor f_X10_hasOf
  rcases hd with rfl | rfl
  · rcases he with rfl | rfl
    · simp (disch := omega) only [w32_id, q_gf_e, q_gr_e, q_pf_e, q_pz_e, q_let_e, q_call_e, q_calp_e, q_al_ok, q_as_ok, q_nz_ok, up_same, up_nei, up_ne1, Int.toNat_natCast, reduceIte, Int.reduceEq, Int.reduceLT, Int.reduceLE, Int.reduceNeg, not_true_eq_false, not_false_eq_true, h03, hpa.1]
      refine ⟨_, rfl, rfl, ?_⟩
      rw [Int.tdiv_eq_ediv_of_nonneg hpa.2.1]
      omega
    · simp (disch := omega) only [w32_id, q_gf_e, q_gr_e, q_pf_e, q_pz_e, q_let_e, q_call_e, q_calp_e, q_al_ok, q_as_ok, q_nz_ok, up_same, up_nei, up_ne1, Int.toNat_natCast, reduceIte, Int.reduceEq, Int.reduceLT, Int.reduceLE, Int.reduceNeg, not_true_eq_false, not_false_eq_true, h03, hpa.1]
      exact ⟨_, rfl, rfl, by omega⟩
  · rcases he with rfl | rfl
    · simp (disch := omega) only [w32_id, q_gf_e, q_gr_e, q_pf_e, q_pz_e, q_let_e, q_call_e, q_calp_e, q_al_ok, q_as_ok, q_nz_ok, up_same, up_nei, up_ne1, Int.toNat_natCast, reduceIte, Int.reduceEq, Int.reduceLT, Int.reduceLE, Int.reduceNeg, not_true_eq_false, not_false_eq_true, h03, hpa.1, hwa.1.2.1]
      exact ⟨_, rfl, rfl, by omega⟩
    · simp (disch := omega) only [w32_id, q_gf_e, q_gr_e, q_pf_e, q_pz_e, q_let_e, q_call_e, q_calp_e, q_al_ok, q_as_ok, q_nz_ok, up_same, up_nei, up_ne1, Int.toNat_natCast, reduceIte, Int.reduceEq, Int.reduceLT, Int.reduceLE, Int.reduceNeg, not_true_eq_false, not_false_eq_true, h03, hpb.1, hwa.1.2.1]
      exact ⟨_, rfl, rfl, by omega⟩
theorem isRestW {t : Nat} {a b x : Int} {Mc N : Mem} (hr : RelT t Mc N) (ha : 0 ≤ a ∧ a < N 35 0) (hb : 0 ≤ b ∧ b < N 35 0) (hx : 0 ≤ x ∧ x < 4) : ∃ z, f_X9_isRest a b (q_shr x 1) (q_and x 1) Mc = some z ∧ f_X10_isRest a b x N = some z ∧ (z = 0 ∨ z = 1) ∧ q_shr x 1 = x.tdiv 2 ∧ q_and x 1 = x.tmod 2 := by
  have hs : q_shr x 1 = x.tdiv 2 ∧ q_and x 1 = x.tmod 2 := by
    have hc : x = 0 ∨ x = 1 ∨ x = 2 ∨ x = 3 := by omega
    rcases hc with rfl | rfl | rfl | rfl <;> decide
  have h1 : x.tdiv 2 = 0 ∨ x.tdiv 2 = 1 := by
    rw [Int.tdiv_eq_ediv_of_nonneg hx.1]; omega
  have h2 : x.tmod 2 = 0 ∨ x.tmod 2 = 1 := by
    rw [Int.tmod_eq_emod_of_nonneg hx.1]; omega
  obtain ⟨r1, p1, q1, b1⟩ := hasW hr ha hb h1 h2
  obtain ⟨r2, p2, q2, b2⟩ := hasW (d := 1 - x.tdiv 2) hr ha hb (by omega) h2
  obtain ⟨r3, p3, q3, b3⟩ := hasW hr hb ha h2 h1
  obtain ⟨r4, p4, q4, b4⟩ := hasW (d := 1 - x.tmod 2) hr hb ha (by omega) h1
  refine ⟨if r1 < r2 ∨ r3 < r4 then 0 else 1, ?_, ?_, by split <;> omega, hs.1, hs.2⟩
  · unfold f_X9_isRest
    rw [hs.1, hs.2, p1, p2]
    simp (disch := omega) only [w32_id, q_gf_e, q_gr_e, q_pf_e, q_pz_e, q_let_e, q_call_e, q_calp_e, q_al_ok, q_as_ok, q_nz_ok, up_same, up_nei, up_ne1, Int.toNat_natCast, reduceIte, Int.reduceEq, Int.reduceLT, Int.reduceLE, Int.reduceNeg, not_true_eq_false, not_false_eq_true, p3, p4]
    repeat' split
    all_goals first
      | rfl
      | (exfalso; omega)
  · unfold f_X10_isRest
    simp (disch := omega) only [w32_id, q_gf_e, q_gr_e, q_pf_e, q_pz_e, q_let_e, q_call_e, q_calp_e, q_al_ok, q_as_ok, q_nz_ok, up_same, up_nei, up_ne1, Int.toNat_natCast, reduceIte, Int.reduceEq, Int.reduceLT, Int.reduceLE, Int.reduceNeg, not_true_eq_false, not_false_eq_true, q1, q2, q3, q4]
    repeat' split
    all_goals first
      | rfl
      | (exfalso; omega)
