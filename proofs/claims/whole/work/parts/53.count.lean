theorem SR.raw {S : Int} {Mc Mm : Mem} (h : SR S 4 0 Mc Mm) {p : Int} (a : 0 ≤ p) (b : p < S) : Mc 162 p = Mm 71 p ∧ Mc 163 p = Mm 72 p ∧ Mc 164 p = Mm 73 p ∧ Mc 165 p = Mm 74 p ∧ (Mc 162 p = 2 → Mc 166 p = Mm 75 p ∧ Mc 167 p = Mm 76 p) := by
  have := h.1.2.2.2.2 p a b
  simpa [cvw, mvw, mvc] using this
theorem SR.rng {S : Int} {Mc Mm : Mem} (h : SR S 4 0 Mc Mm) {p : Int} (a : 0 ≤ p) (b : p < S) : (0 ≤ Mc 162 p ∧ Mc 162 p ≤ 3) ∧ (0 ≤ Mc 163 p ∧ Mc 163 p ≤ 99) ∧ (0 ≤ Mc 164 p ∧ Mc 164 p ≤ 999) ∧ (0 ≤ Mc 165 p ∧ Mc 165 p ≤ 4 * Mc 4 0) ∧ (Mc 162 p = 2 → 0 ≤ Mc 166 p ∧ Mc 166 p < 4 ∧ 0 ≤ Mc 167 p ∧ Mc 167 p ≤ 10000) ∧ (Mc 162 p = 1 → ∃ i, 0 ≤ i ∧ i < Mc 4 9 ∧ Mc 168 i = p) := by
  have := h.2.1.2.2.2.2.2 p a b
  simpa [cvw] using this
theorem o_count : rs_count Rel := by
  intro Mc Mm a0 hR ha
  have h0 := hR
  obtain ⟨t, h⟩ := h0
  obtain ⟨⟨h3, -⟩, hT, ⟨hs, -⟩, -, hD, hN, -⟩ := h
  obtain ⟨ht, hS, hB, hse, -, -, hkn, hp, -⟩ := hT
  have e0 : Mc 4 0 = Mm 67 0 := hs.1.1
  have e9 : Mc 4 9 = Mm 69 0 := hs.1.2.2.1
  have s35 : (up Mm 0 0 0) 35 = Mm 35 := up_ne1 (by omega)
  have q1 : ∀ v, in32 v → f_X6_howMany 4 v (Mm 35 0) Mc = f_X10_soulsOf 0 v (up Mm 0 0 0) := fun v hv => by
    rw [howManyC hv (by omega) (fun j a b => by show in32 (Mc 162 j); have := (hs.rng a b).1; unfold in32; omega)]
    rw [soulsOfM (by omega) hv (by rw [s35]; omega) (fun j a b => by rw [s35] at b; rw [up_ne1 (by omega)]; have := (hs.rng a b).1; have := (hs.raw a b).1; unfold in32; simp only [Int.mul_zero, Int.zero_add]; omega)]
    rw [s35]
    congr 1
    refine smT_congr _ (fun i a b => ?_)
    rw [up_ne1 (by omega), (hs.raw a (by omega)).1]
    simp only [Int.mul_zero, Int.zero_add]
  obtain ⟨r6, q6⟩ : ∃ r, f_X10_soulsOf 0 2 (up Mm 0 0 0) = some r := ⟨_, soulsOfM (by omega) (by unfold in32; omega) (by rw [s35]; omega) (fun j a b => by rw [s35] at b; rw [up_ne1 (by omega)]; have := (hs.rng a b).1; have := (hs.raw a b).1; unfold in32; simp only [Int.mul_zero, Int.zero_add]; omega)⟩
  obtain ⟨r7, q7⟩ : ∃ r, f_X10_soulsOf 0 3 (up Mm 0 0 0) = some r := ⟨_, soulsOfM (by omega) (by unfold in32; omega) (by rw [s35]; omega) (fun j a b => by rw [s35] at b; rw [up_ne1 (by omega)]; have := (hs.rng a b).1; have := (hs.raw a b).1; unfold in32; simp only [Int.mul_zero, Int.zero_add]; omega)⟩
  have p6 := (q1 2 (by unfold in32; omega)).trans q6
  have p7 := (q1 3 (by unfold in32; omega)).trans q7
  have p8 := kindnessC (k := 4) (M := Mc) h3 (by omega) (fun j a b => by show in32 (Mc 162 j); rw [hS.1] at b; have := (hs.rng a b).1; unfold in32; omega)
  have q8 := kindnessM (q := 0) (M := up Mm 0 0 0) (by omega) (by rw [s35]; omega) (fun j a b => by rw [s35] at b; rw [up_ne1 (by omega)]; have := (hs.rng a b).1; have := (hs.raw a b).1; unfold in32; simp only [Int.mul_zero, Int.zero_add]; omega)
  have p9 := sumC (n0 := 164) (M := Mc) h3 (by omega)
  have p10 := sumC (n0 := 165) (M := Mc) h3 (by omega)
  have q9 := allOfM (n0 := 73) (q := 0) (M := up Mm 0 0 0) (by omega) (by rw [s35]; omega)
  have q10 := allOfM (n0 := 74) (q := 0) (M := up Mm 0 0 0) (by omega) (by rw [s35]; omega)
  rw [s35] at q8 q9 q10
  rw [hS.1] at p8 p9 p10
  have f8 : smT (fun i => if Mc (32 * (4 + 1) + 2) i = 2 then Mc (32 * (t + 1) + 3) i else 0) (Mm 35 0).toNat = smT (fun i => if up Mm 0 0 0 71 (8 * 0 + i) = 2 then up Mm 0 0 0 38 i else 0) (Mm 35 0).toNat := by
    refine smT_congr _ (fun i a b => ?_)
    rw [up_ne1 (by omega), up_ne1 (by omega), (hp i a (by omega)).2.2.1.1]
    simp only [Int.mul_zero, Int.zero_add]
    rw [← (hs.raw a (by omega)).1]
  have f9 : smT (fun i => Mc 164 i) (Mm 35 0).toNat = smT (fun i => up Mm 0 0 0 73 (8 * 0 + i)) (Mm 35 0).toNat := by
    refine smT_congr _ (fun i a b => ?_)
    rw [up_ne1 (by omega), (hs.raw a (by omega)).2.2.1]
    simp only [Int.mul_zero, Int.zero_add]
  have f10 : smT (fun i => Mc 165 i) (Mm 35 0).toNat = smT (fun i => up Mm 0 0 0 74 (8 * 0 + i)) (Mm 35 0).toNat := by
    refine smT_congr _ (fun i a b => ?_)
    rw [up_ne1 (by omega), (hs.raw a (by omega)).2.2.2.1]
    simp only [Int.mul_zero, Int.zero_add]
  have hn := hN
  obtain ⟨n1, n2, n3, n4, n5, n6, -⟩ := hn
  obtain ⟨d1, -⟩ := hD
  have p12 : ∃ r, f_X5_knownMany Mc = some r ∧ f_X10_knownMany (up Mm 0 0 0) = some r := by
    unfold f_X5_knownMany f_X10_knownMany
    simp (disch := omega) only [w32_id, q_gf_e, q_gr_e, q_pf_e, q_pz_e, q_let_e, q_call_e, q_calp_e, q_al_ok, q_as_ok, q_nz_ok, up_same, up_nei, up_ne1, Int.toNat_natCast, reduceIte, Int.reduceEq, Int.reduceLT, Int.reduceLE, Int.reduceNeg, not_true_eq_false, not_false_eq_true]
    rw [n1, n4]
    by_cases c : Mm 0 59 = -1
    · exact ⟨_, by rw [if_neg (by omega)], by rw [if_neg (by omega)]⟩
    · exact ⟨_, by rw [if_pos (by omega)], by rw [if_pos (by omega)]⟩
  obtain ⟨r12, p12, q12⟩ := p12
  unfold in32 at ha
  show PM Mc _ _
  unfold f_X9_count f_X10_count
  have hw : w32 a0 = a0 := w32_id ha
  rw [hw]
  have hc : a0 = 0 ∨ a0 = 1 ∨ a0 = 2 ∨ a0 = 3 ∨ a0 = 4 ∨ a0 = 5 ∨ a0 = 6 ∨ a0 = 7 ∨ a0 = 8 ∨ a0 = 9 ∨ a0 = 10 ∨ a0 = 11 ∨ a0 = 12 ∨ a0 = 13 ∨ (a0 < 0 ∨ 13 < a0) := by omega
  rcases hc with rfl | rfl | rfl | rfl | rfl | rfl | rfl | rfl | rfl | rfl | rfl | rfl | rfl | rfl | hc
  · simp (disch := omega) only [w32_id, q_gf_e, q_gr_e, q_pf_e, q_pz_e, q_let_e, q_call_e, q_calp_e, q_al_ok, q_as_ok, q_nz_ok, up_same, up_nei, up_ne1, Int.toNat_natCast, reduceIte, Int.reduceEq, Int.reduceLT, Int.reduceLE, Int.reduceNeg, not_true_eq_false, not_false_eq_true, h3]; exact PM.ok (by omega) hR.thr
  · simp (disch := omega) only [w32_id, q_gf_e, q_gr_e, q_pf_e, q_pz_e, q_let_e, q_call_e, q_calp_e, q_al_ok, q_as_ok, q_nz_ok, up_same, up_nei, up_ne1, Int.toNat_natCast, reduceIte, Int.reduceEq, Int.reduceLT, Int.reduceLE, Int.reduceNeg, not_true_eq_false, not_false_eq_true, h3]; exact PM.ok (by omega) hR.thr
  · simp (disch := omega) only [w32_id, q_gf_e, q_gr_e, q_pf_e, q_pz_e, q_let_e, q_call_e, q_calp_e, q_al_ok, q_as_ok, q_nz_ok, up_same, up_nei, up_ne1, Int.toNat_natCast, reduceIte, Int.reduceEq, Int.reduceLT, Int.reduceLE, Int.reduceNeg, not_true_eq_false, not_false_eq_true, h3]; exact PM.ok (by omega) hR.thr
  · simp (disch := omega) only [w32_id, q_gf_e, q_gr_e, q_pf_e, q_pz_e, q_let_e, q_call_e, q_calp_e, q_al_ok, q_as_ok, q_nz_ok, up_same, up_nei, up_ne1, Int.toNat_natCast, reduceIte, Int.reduceEq, Int.reduceLT, Int.reduceLE, Int.reduceNeg, not_true_eq_false, not_false_eq_true, h3]; exact PM.ok (by omega) hR.thr
  · simp (disch := omega) only [w32_id, q_gf_e, q_gr_e, q_pf_e, q_pz_e, q_let_e, q_call_e, q_calp_e, q_al_ok, q_as_ok, q_nz_ok, up_same, up_nei, up_ne1, Int.toNat_natCast, reduceIte, Int.reduceEq, Int.reduceLT, Int.reduceLE, Int.reduceNeg, not_true_eq_false, not_false_eq_true, h3]; exact PM.ok (by omega) hR.thr
  · simp (disch := omega) only [w32_id, q_gf_e, q_gr_e, q_pf_e, q_pz_e, q_let_e, q_call_e, q_calp_e, q_al_ok, q_as_ok, q_nz_ok, up_same, up_nei, up_ne1, Int.toNat_natCast, reduceIte, Int.reduceEq, Int.reduceLT, Int.reduceLE, Int.reduceNeg, not_true_eq_false, not_false_eq_true, h3]; exact PM.ok (by omega) hR.thr
  · simp (disch := omega) only [w32_id, q_gf_e, q_gr_e, q_pf_e, q_pz_e, q_let_e, q_call_e, q_calp_e, q_al_ok, q_as_ok, q_nz_ok, up_same, up_nei, up_ne1, Int.toNat_natCast, reduceIte, Int.reduceEq, Int.reduceLT, Int.reduceLE, Int.reduceNeg, not_true_eq_false, not_false_eq_true, h3, hS.1, p6, q6]; exact PM.ok rfl hR.thr
  · simp (disch := omega) only [w32_id, q_gf_e, q_gr_e, q_pf_e, q_pz_e, q_let_e, q_call_e, q_calp_e, q_al_ok, q_as_ok, q_nz_ok, up_same, up_nei, up_ne1, Int.toNat_natCast, reduceIte, Int.reduceEq, Int.reduceLT, Int.reduceLE, Int.reduceNeg, not_true_eq_false, not_false_eq_true, h3, hS.1, p7, q7]; exact PM.ok rfl hR.thr
  · simp (disch := omega) only [w32_id, q_gf_e, q_gr_e, q_pf_e, q_pz_e, q_let_e, q_call_e, q_calp_e, q_al_ok, q_as_ok, q_nz_ok, up_same, up_nei, up_ne1, Int.toNat_natCast, reduceIte, Int.reduceEq, Int.reduceLT, Int.reduceLE, Int.reduceNeg, not_true_eq_false, not_false_eq_true, h3, p8, q8]; exact PM.ok f8 hR.thr
  · simp (disch := omega) only [w32_id, q_gf_e, q_gr_e, q_pf_e, q_pz_e, q_let_e, q_call_e, q_calp_e, q_al_ok, q_as_ok, q_nz_ok, up_same, up_nei, up_ne1, Int.toNat_natCast, reduceIte, Int.reduceEq, Int.reduceLT, Int.reduceLE, Int.reduceNeg, not_true_eq_false, not_false_eq_true, h3, p9, q9]; exact PM.ok f9 hR.thr
  · simp (disch := omega) only [w32_id, q_gf_e, q_gr_e, q_pf_e, q_pz_e, q_let_e, q_call_e, q_calp_e, q_al_ok, q_as_ok, q_nz_ok, up_same, up_nei, up_ne1, Int.toNat_natCast, reduceIte, Int.reduceEq, Int.reduceLT, Int.reduceLE, Int.reduceNeg, not_true_eq_false, not_false_eq_true, h3, p10, q10]; exact PM.ok f10 hR.thr
  · simp (disch := omega) only [w32_id, q_gf_e, q_gr_e, q_pf_e, q_pz_e, q_let_e, q_call_e, q_calp_e, q_al_ok, q_as_ok, q_nz_ok, up_same, up_nei, up_ne1, Int.toNat_natCast, reduceIte, Int.reduceEq, Int.reduceLT, Int.reduceLE, Int.reduceNeg, not_true_eq_false, not_false_eq_true]; exact PM.ok (by omega) hR.thr
  · simp (disch := omega) only [w32_id, q_gf_e, q_gr_e, q_pf_e, q_pz_e, q_let_e, q_call_e, q_calp_e, q_al_ok, q_as_ok, q_nz_ok, up_same, up_nei, up_ne1, Int.toNat_natCast, reduceIte, Int.reduceEq, Int.reduceLT, Int.reduceLE, Int.reduceNeg, not_true_eq_false, not_false_eq_true, p12, q12]; exact PM.ok rfl hR.thr
  · simp (disch := omega) only [w32_id, q_gf_e, q_gr_e, q_pf_e, q_pz_e, q_let_e, q_call_e, q_calp_e, q_al_ok, q_as_ok, q_nz_ok, up_same, up_nei, up_ne1, Int.toNat_natCast, reduceIte, Int.reduceEq, Int.reduceLT, Int.reduceLE, Int.reduceNeg, not_true_eq_false, not_false_eq_true]; exact PM.ok (by omega) hR.thr
  · simp (disch := omega) only [if_neg, q_pf_e]
    exact PM.ok rfl hR.thr
