/-- only what was seen changes -/
theorem RelT.seen {t : Nat} {Mc Mc' N N' : Mem} (h : RelT t Mc N) (cN : ∀ n, n ≠ 9 → (n < 320 ∨ 322 < n) → Mc' n = Mc n) (mN : ∀ n, n ≠ 0 → (n < 92 ∨ 95 < n) → N' n = N n) (m0 : ∀ i, i ≠ 58 → i ≠ 59 → N' 0 i = N 0 i) (hn : NR (N 35 0) Mc' N') : RelT t Mc' N' := by
  obtain ⟨h1, hT, ⟨h3, h3'⟩, h4, h5, h6, h7, h8, h9⟩ := h
  have ht := hT.1
  have hS := hT.2.1
  have vq : ∀ q, VEQ (mvw q N) (mvw q N') := fun q => mvw_eq (fun n a b => by rw [mN n (by omega) (by omega)]) (fun n i a b c d => by rw [mN n (by omega) (by omega)])
  have vc : ∀ k, k = 4 ∨ k = 6 → VEQ (cvw k Mc) (cvw k Mc') := fun k hk => cvw_eq (cN k (by omega) (by omega)) (fun f a b => cN _ (by omega) (by omega))
  unfold RelT
  rw [mN 35 (by omega) (by omega), cN 0 (by omega) (by omega), cN 1 (by omega) (by omega), cN 4 (by omega) (by omega), cN 6 (by omega) (by omega), m0 45 (by omega) (by omega), m0 47 (by omega) (by omega), m0 48 (by omega) (by omega)]
  exact ⟨h1, TR.frm2 hT (fun n a => cN n (by omega) (by omega)) (fun n a b => mN n (by omega) (by omega)), ⟨h3.of (by omega) (vc 4 (.inl rfl)) (vq 0), h3'⟩, ⟨h4.1, h4.2.1, fun c => ⟨(h4.2.2 c).1.of (by omega) (vc 6 (.inr rfl)) (vq 2), (h4.2.2 c).2⟩⟩, h5.of (by omega) (WFB.of h3.2.1 h3.1) (by rw [cN 8 (by omega) (by omega)]) (fun n a b => cN n (by omega) (by omega)) (m0 46 (by omega) (by omega)) (fun q _ => vq q), hn, h7.of (by rw [cN 0 (by omega) (by omega)]) (cN 32 (by omega) (by omega)) (cN 1 (by omega) (by omega)) (cN 352 (by omega) (by omega)) (m0 2 (by omega) (by omega)) (m0 28 (by omega) (by omega)) (m0 29 (by omega) (by omega)) (mN 33 (by omega) (by omega)), h8, h9⟩
theorem o_known : rs_known Rel := by
  intro Mc Mm a0 hR h0
  obtain ⟨t, hr⟩ := hR
  have hr := hr.thr (v := 0)
  show PW _ _
  unfold f_X9_known f_X10_known
  rw [q_pf_e (M := Mm) (n := 0) (f := 0) (v := 0)]
  generalize up Mm 0 0 0 = N at hr ⊢
  have hR : Rel Mc N := ⟨t, hr⟩
  have hN := hr.2.2.2.2.2.1
  have hN' := hN
  obtain ⟨n1, n2, n3, n4, n5, n6, n7⟩ := hN'
  unfold in32 at h0
  simp (disch := omega) only [w32_id, q_gf_e, q_gr_e, q_pf_e, q_pz_e, q_let_e, q_call_e, q_calp_e, q_al_ok, q_as_ok, q_nz_ok, up_same, up_nei, up_ne1, Int.toNat_natCast, reduceIte, Int.reduceEq, Int.reduceLT, Int.reduceLE, Int.reduceNeg, not_true_eq_false, not_false_eq_true, n1]
  by_cases c1 : a0 < -1
  · rw [if_pos c1, if_pos c1]; exact PW.ok rfl hR
  rw [if_neg c1, if_neg c1]
  by_cases c2 : a0 ≤ N 0 58
  · rw [if_pos c2, if_pos c2]
    refine PW.ok rfl ⟨t, hr.seen (fun n a b => up_ne1 a) (fun n a b => up_ne1 a) (fun i a b => up_nei b) ?_⟩
    refine ⟨by rw [up_nei (by omega), up_nei (by omega)]; exact n1, by rw [up_nei (by omega)]; exact n2, by rw [up_nei (by omega)]; exact n3, by rw [up_same, up_same], by rw [up_same]; omega, by rw [up_same, up_nei (by omega)]; omega, fun i a b => ?_⟩
    rw [up_nei (by omega)] at b
    simp (disch := omega) only [up_ne1]
    exact n7 i a b
  · rw [if_neg c2, if_neg c2]; exact PW.ok rfl hR
theorem o_see : rs_see Rel := by
  intro Mc Mm a0 a1 a2 hR h0 h1 h2
  obtain ⟨t, hr⟩ := hR
  have hr := hr.thr (v := 0)
  show PW _ _
  unfold f_X9_see f_X10_see
  rw [q_pf_e]
  generalize up Mm 0 0 0 = N at hr ⊢
  have hR : Rel Mc N := ⟨t, hr⟩
  have hN := hr.2.2.2.2.2.1
  have hN' := hN
  obtain ⟨n1, n2, n3, n4, n5, n6, n7⟩ := hN'
  have h03 := hr.1.1
  have hT := hr.2.1
  have hS := hT.2.1
  have ec := isSoulC (a := a1) h03 (by omega) h1
  have em := isSoulM (M := N) (a := a1) (by omega) h1
  rw [hS.1] at ec
  unfold in32 at h0 h1
  rw [ec, em]
  (try simp (disch := omega) only [w32_id, q_gf_e, q_gr_e, q_pf_e, q_pz_e, q_let_e, q_call_e, q_calp_e, q_al_ok, q_as_ok, q_nz_ok, up_same, up_nei, up_ne1, Int.toNat_natCast, reduceIte, Int.reduceEq, Int.reduceLT, Int.reduceLE, Int.reduceNeg, not_true_eq_false, not_false_eq_true])
  by_cases c1 : a0 < 1
  · rw [if_pos c1, if_pos c1]; exact PW.ok rfl hR
  rw [if_neg c1, if_neg c1]
  by_cases c2 : 60 < a0
  · rw [if_pos c2, if_pos c2]; exact PW.ok rfl hR
  rw [if_neg c2, if_neg c2]
  by_cases c3 : 0 ≤ a1 ∧ a1 < N 35 0
  rotate_left
  · rw [if_neg c3]
    (try simp (disch := omega) only [w32_id, q_gf_e, q_gr_e, q_pf_e, q_pz_e, q_let_e, q_call_e, q_calp_e, q_al_ok, q_as_ok, q_nz_ok, up_same, up_nei, up_ne1, Int.toNat_natCast, reduceIte, Int.reduceEq, Int.reduceLT, Int.reduceLE, Int.reduceNeg, not_true_eq_false, not_false_eq_true])
    exact PW.ok rfl hR
  rw [if_pos c3]
  have hc : ∃ kd, (kd = 0 ∧ a2 = 1 ∨ kd = 1 ∧ a2 = 0) ∧ (if a2 = 0 then f_X9_see_J36 1 a1 a0 Mc else f_X9_see_J36 0 a1 a0 Mc) = f_X9_see_J36 kd a1 a0 Mc := by
    by_cases c5 : a2 = 0
    · exact ⟨1, .inr ⟨rfl, c5⟩, by rw [if_pos c5]⟩
    · exact ⟨0, .inl ⟨rfl, by omega⟩, by rw [if_neg c5]⟩
  obtain ⟨kd, hk, hc⟩ := hc
  (try simp (disch := omega) only [w32_id, q_gf_e, q_gr_e, q_pf_e, q_pz_e, q_let_e, q_call_e, q_calp_e, q_al_ok, q_as_ok, q_nz_ok, up_same, up_nei, up_ne1, Int.toNat_natCast, reduceIte, Int.reduceEq, Int.reduceLT, Int.reduceLE, Int.reduceNeg, not_true_eq_false, not_false_eq_true])
  rw [hc, if_pos h2]
  unfold f_X9_see_J36 f_X5_add
  simp (disch := omega) only [w32_id, q_gf_e, q_gr_e, q_pf_e, q_pz_e, q_let_e, q_call_e, q_calp_e, q_al_ok, q_as_ok, q_nz_ok, up_same, up_nei, up_ne1, Int.toNat_natCast, reduceIte, Int.reduceEq, Int.reduceLT, Int.reduceLE, Int.reduceNeg, not_true_eq_false, not_false_eq_true, n1]
  by_cases c4 : N 0 58 = 24
  · rw [if_neg (by omega), if_neg (by omega)]
    (try simp (disch := omega) only [w32_id, q_gf_e, q_gr_e, q_pf_e, q_pz_e, q_let_e, q_call_e, q_calp_e, q_al_ok, q_as_ok, q_nz_ok, up_same, up_nei, up_ne1, Int.toNat_natCast, reduceIte, Int.reduceEq, Int.reduceLT, Int.reduceLE, Int.reduceNeg, not_true_eq_false, not_false_eq_true])
    exact PW.ok rfl hR
  · rw [if_pos (by omega), if_pos c4]
    simp (disch := omega) only [w32_id, q_gf_e, q_gr_e, q_pf_e, q_pz_e, q_let_e, q_call_e, q_calp_e, q_al_ok, q_as_ok, q_nz_ok, up_same, up_nei, up_ne1, Int.toNat_natCast, reduceIte, Int.reduceEq, Int.reduceLT, Int.reduceLE, Int.reduceNeg, not_true_eq_false, not_false_eq_true, n1]
    refine PW.ok (by omega) ⟨t, hr.seen ?_ ?_ ?_ ?_⟩
    · intro n a b
      rw [up_ne1 a, up_ne1 (by omega), up_ne1 (by omega), up_ne1 (by omega)]
    · intro n a b
      rw [up_ne1 a, up_ne1 (by omega), up_ne1 (by omega), up_ne1 (by omega), up_ne1 (by omega)]
    · intro i a b
      rw [up_nei a, up_ne1 (by omega), up_ne1 (by omega), up_ne1 (by omega), up_ne1 (by omega)]
    · unfold NR
      (try simp (disch := omega) only [w32_id, q_gf_e, q_gr_e, q_pf_e, q_pz_e, q_let_e, q_call_e, q_calp_e, q_al_ok, q_as_ok, q_nz_ok, up_same, up_nei, up_ne1, Int.toNat_natCast, reduceIte, Int.reduceEq, Int.reduceLT, Int.reduceLE, Int.reduceNeg, not_true_eq_false, not_false_eq_true])
      refine ⟨by first | trivial | omega, by omega, by omega, n4, n5, by omega, fun i a b => ?_⟩
      by_cases ci : i = N 0 58
      · subst ci
        (try simp (disch := omega) only [w32_id, q_gf_e, q_gr_e, q_pf_e, q_pz_e, q_let_e, q_call_e, q_calp_e, q_al_ok, q_as_ok, q_nz_ok, up_same, up_nei, up_ne1, Int.toNat_natCast, reduceIte, Int.reduceEq, Int.reduceLT, Int.reduceLE, Int.reduceNeg, not_true_eq_false, not_false_eq_true])
        right
        exact ⟨by omega, by first | rfl | trivial, by first | rfl | trivial, by omega, by omega, by first | rfl | trivial, c3.1, c3.2⟩
      · (try simp (disch := omega) only [w32_id, q_gf_e, q_gr_e, q_pf_e, q_pz_e, q_let_e, q_call_e, q_calp_e, q_al_ok, q_as_ok, q_nz_ok, up_same, up_nei, up_ne1, Int.toNat_natCast, reduceIte, Int.reduceEq, Int.reduceLT, Int.reduceLE, Int.reduceNeg, not_true_eq_false, not_false_eq_true])
        exact n7 i a (by omega)
theorem o_strike : rs_strike Rel := by
  intro Mc Mm a0 hR h0
  obtain ⟨t, hr⟩ := hR
  have hr := hr.thr (v := 0)
  show PW _ _
  unfold f_X9_strike f_X10_strike
  rw [q_pf_e]
  generalize up Mm 0 0 0 = N at hr ⊢
  have hR : Rel Mc N := ⟨t, hr⟩
  have hN := hr.2.2.2.2.2.1
  have hN' := hN
  obtain ⟨n1, n2, n3, n4, n5, n6, n7⟩ := hN'
  unfold in32 at h0
  simp (disch := omega) only [w32_id, q_gf_e, q_gr_e, q_pf_e, q_pz_e, q_let_e, q_call_e, q_calp_e, q_al_ok, q_as_ok, q_nz_ok, up_same, up_nei, up_ne1, Int.toNat_natCast, reduceIte, Int.reduceEq, Int.reduceLT, Int.reduceLE, Int.reduceNeg, not_true_eq_false, not_false_eq_true, n1]
  by_cases c1 : a0 < 0
  · rw [if_pos c1, if_pos c1]; exact PW.ok rfl hR
  rw [if_neg c1, if_neg c1]
  by_cases c2 : N 0 58 ≤ a0
  · rw [if_neg (by omega), if_pos c2]; exact PW.ok rfl hR
  rw [if_pos (by omega), if_neg c2]
  unfold f_X5_add
  simp (disch := omega) only [w32_id, q_gf_e, q_gr_e, q_pf_e, q_pz_e, q_let_e, q_call_e, q_calp_e, q_al_ok, q_as_ok, q_nz_ok, up_same, up_nei, up_ne1, Int.toNat_natCast, reduceIte, Int.reduceEq, Int.reduceLT, Int.reduceLE, Int.reduceNeg, not_true_eq_false, not_false_eq_true, n1]
  by_cases c4 : N 0 58 = 24
  · rw [if_neg (by omega), if_neg (by omega)]
    (try simp (disch := omega) only [w32_id, q_gf_e, q_gr_e, q_pf_e, q_pz_e, q_let_e, q_call_e, q_calp_e, q_al_ok, q_as_ok, q_nz_ok, up_same, up_nei, up_ne1, Int.toNat_natCast, reduceIte, Int.reduceEq, Int.reduceLT, Int.reduceLE, Int.reduceNeg, not_true_eq_false, not_false_eq_true])
    exact PW.ok rfl hR
  · rw [if_pos (by omega), if_pos c4]
    simp (disch := omega) only [w32_id, q_gf_e, q_gr_e, q_pf_e, q_pz_e, q_let_e, q_call_e, q_calp_e, q_al_ok, q_as_ok, q_nz_ok, up_same, up_nei, up_ne1, Int.toNat_natCast, reduceIte, Int.reduceEq, Int.reduceLT, Int.reduceLE, Int.reduceNeg, not_true_eq_false, not_false_eq_true, n1]
    refine PW.ok (by omega) ⟨t, hr.seen ?_ ?_ ?_ ?_⟩
    · intro n a b
      rw [up_ne1 a, up_ne1 (by omega), up_ne1 (by omega), up_ne1 (by omega)]
    · intro n a b
      rw [up_ne1 a, up_ne1 (by omega)]
    · intro i a b
      rw [up_nei a, up_ne1 (by omega)]
    · unfold NR
      (try simp (disch := omega) only [w32_id, q_gf_e, q_gr_e, q_pf_e, q_pz_e, q_let_e, q_call_e, q_calp_e, q_al_ok, q_as_ok, q_nz_ok, up_same, up_nei, up_ne1, Int.toNat_natCast, reduceIte, Int.reduceEq, Int.reduceLT, Int.reduceLE, Int.reduceNeg, not_true_eq_false, not_false_eq_true])
      refine ⟨by first | trivial | omega, by omega, by omega, n4, n5, by omega, fun i a b => ?_⟩
      by_cases ci : i = N 0 58
      · subst ci
        (try simp (disch := omega) only [w32_id, q_gf_e, q_gr_e, q_pf_e, q_pz_e, q_let_e, q_call_e, q_calp_e, q_al_ok, q_as_ok, q_nz_ok, up_same, up_nei, up_ne1, Int.toNat_natCast, reduceIte, Int.reduceEq, Int.reduceLT, Int.reduceLE, Int.reduceNeg, not_true_eq_false, not_false_eq_true])
        left
        exact ⟨by first | rfl | trivial, by first | rfl | trivial, by omega, by omega⟩
      · (try simp (disch := omega) only [w32_id, q_gf_e, q_gr_e, q_pf_e, q_pz_e, q_let_e, q_call_e, q_calp_e, q_al_ok, q_as_ok, q_nz_ok, up_same, up_nei, up_ne1, Int.toNat_natCast, reduceIte, Int.reduceEq, Int.reduceLT, Int.reduceLE, Int.reduceNeg, not_true_eq_false, not_false_eq_true])
        exact n7 i a (by omega)
