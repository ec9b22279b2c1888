/-- here a stand begins -/
def BGC (k n0 : Nat) (sd x : Int) (M : Mem) : Mem := fun n i => if n = k ∧ (i = 0 ∨ i = 9) then 0 else if n = k ∧ i = 1 then sd else if 32 * (k + 1) + 2 ≤ n ∧ n ≤ 32 * (k + 1) + 7 ∧ 0 ≤ i ∧ i < x then (if n = 32 * (k + 1) + 3 then M n0 i else if 32 * (k + 1) + 6 ≤ n then -2 else 0) else M n i
theorem beginC {k n0 : Nat} {sd : Int} {M : Mem} (hk : k < 32) (hn : n0 ≠ k ∧ (n0 < 32 * (k + 1) + 2 ∨ 32 * (k + 1) + 7 < n0)) : f_X6_begin k n0 8 sd M = some (0, BGC k n0 sd 8 M) := by
  rw [← wpo_eq]
  unfold f_X6_begin
  simp (disch := omega) only [w32_id, q_gf_e, q_gr_e, q_pf_e, q_pz_e, q_let_e, q_call_e, q_calp_e, q_al_ok, q_as_ok, q_nz_ok, up_same, up_nei, up_ne1, Int.toNat_natCast, reduceIte, Int.reduceEq, Int.reduceLT, Int.reduceLE, Int.reduceNeg, not_true_eq_false, not_false_eq_true]
  unfold f_X6_begin_L17
  refine qlm1_N (fun x M' => 0 ≤ x ∧ x ≤ 8 ∧ ∀ n i, M' n i = BGC k n0 sd x M n i) (fun x _ => (8 - x).toNat) _ _ ⟨by omega, by omega, ?_⟩ (by omega) ?_
  · intro n i
    unfold up BGC
    grind
  · intro x M' g ⟨h1, h2, h3⟩ ih
    unfold f_X6_begin_B17
    simp (disch := omega) only [w32_id, q_gf_e, q_gr_e, q_pf_e, q_pz_e, q_let_e, q_call_e, q_calp_e, q_al_ok, q_as_ok, q_nz_ok, up_same, up_nei, up_ne1, Int.toNat_natCast, reduceIte, Int.reduceEq, Int.reduceLT, Int.reduceLE, Int.reduceNeg, not_true_eq_false, not_false_eq_true]
    refine wpo_ite (fun c => wpo_some.mpr ?_) (fun c => ?_)
    · congr 1
      funext n i
      rw [h3, show x = 8 by omega]
    · have e0 : M' n0 x = M n0 x := by
        rw [h3]
        unfold BGC
        rw [if_neg (by omega), if_neg (by omega), if_neg (by omega)]
      rw [if_neg (by omega)]
      unfold f_X6_begin_J48
      (try simp (disch := omega) only [w32_id, q_gf_e, q_gr_e, q_pf_e, q_pz_e, q_let_e, q_call_e, q_calp_e, q_al_ok, q_as_ok, q_nz_ok, up_same, up_nei, up_ne1, Int.toNat_natCast, reduceIte, Int.reduceEq, Int.reduceLT, Int.reduceLE, Int.reduceNeg, not_true_eq_false, not_false_eq_true])
      refine ih _ _ ⟨by omega, by omega, ?_⟩ (by omega)
      rw [e0]
      intro n i
      by_cases hi : i = x
      · subst hi
        by_cases hr : 32 * (k + 1) + 2 ≤ n ∧ n ≤ 32 * (k + 1) + 7
        · obtain ⟨d, rfl⟩ : ∃ d, n = 32 * (k + 1) + d := ⟨n - 32 * (k + 1), by omega⟩
          have hd : d = 2 ∨ d = 3 ∨ d = 4 ∨ d = 5 ∨ d = 6 ∨ d = 7 := by omega
          unfold BGC up
          rcases hd with rfl | rfl | rfl | rfl | rfl | rfl <;> grind
        · simp (disch := omega) only [up_ne1]
          rw [h3]
          unfold BGC
          grind
      · simp (disch := omega) only [up_nej]
        rw [h3]
        unfold BGC
        grind
/-- the reference's -/
def STM (q x : Int) (M : Mem) : Mem := fun n i => if (n = 67 ∨ n = 69) ∧ i = q then 0 else if n = 68 ∧ i = q then M 35 5 else if 70 ≤ n ∧ n ≤ 76 ∧ 8 * q ≤ i ∧ i < 8 * q + x then (if n = 72 then (if i - 8 * q < M 35 0 then M 39 (i - 8 * q) else 0) else if n = 70 ∨ 75 ≤ n then -1 else 0) else M n i
theorem startsM {q : Int} {M : Mem} (hq : 0 ≤ q ∧ q < 23) (hs : 0 ≤ M 35 0 ∧ M 35 0 ≤ 8) : f_X10_starts q M = some (0, STM q 8 M) := by
  rw [← wpo_eq]
  unfold f_X10_starts
  simp (disch := omega) only [w32_id, q_gf_e, q_gr_e, q_pf_e, q_pz_e, q_let_e, q_call_e, q_calp_e, q_al_ok, q_as_ok, q_nz_ok, up_same, up_nei, up_ne1, Int.toNat_natCast, reduceIte, Int.reduceEq, Int.reduceLT, Int.reduceLE, Int.reduceNeg, not_true_eq_false, not_false_eq_true]
  unfold f_X10_starts_L28
  refine qlm1_N (fun x M' => 0 ≤ x ∧ x ≤ 8 ∧ ∀ n i, M' n i = STM q x M n i) (fun x _ => (8 - x).toNat) _ _ ⟨by omega, by omega, ?_⟩ (by omega) ?_
  · intro n i
    unfold up STM
    grind
  · intro x M' g ⟨h1, h2, h3⟩ ih
    unfold f_X10_starts_B28
    simp (disch := omega) only [w32_id, q_gf_e, q_gr_e, q_pf_e, q_pz_e, q_let_e, q_call_e, q_calp_e, q_al_ok, q_as_ok, q_nz_ok, up_same, up_nei, up_ne1, Int.toNat_natCast, reduceIte, Int.reduceEq, Int.reduceLT, Int.reduceLE, Int.reduceNeg, not_true_eq_false, not_false_eq_true]
    refine wpo_ite (fun c => wpo_some.mpr ?_) (fun c => ?_)
    · congr 1
      funext n i
      rw [h3, show x = 8 by omega]
    · have e0 : M' 35 0 = M 35 0 := by
        rw [h3]
        unfold STM
        rw [if_neg (by omega), if_neg (by omega), if_neg (by omega)]
      have e1 : M' 39 x = M 39 x := by
        rw [h3]
        unfold STM
        rw [if_neg (by omega), if_neg (by omega), if_neg (by omega)]
      (try simp (disch := omega) only [w32_id, q_gf_e, q_gr_e, q_pf_e, q_pz_e, q_let_e, q_call_e, q_calp_e, q_al_ok, q_as_ok, q_nz_ok, up_same, up_nei, up_ne1, Int.toNat_natCast, reduceIte, Int.reduceEq, Int.reduceLT, Int.reduceLE, Int.reduceNeg, not_true_eq_false, not_false_eq_true])
      rw [e0]
      unfold f_X10_starts_J80
      refine wpo_ite (fun c => ?_) (fun c => ?_)
      all_goals
        (try simp (disch := omega) only [w32_id, q_gf_e, q_gr_e, q_pf_e, q_pz_e, q_let_e, q_call_e, q_calp_e, q_al_ok, q_as_ok, q_nz_ok, up_same, up_nei, up_ne1, Int.toNat_natCast, reduceIte, Int.reduceEq, Int.reduceLT, Int.reduceLE, Int.reduceNeg, not_true_eq_false, not_false_eq_true])
        refine ih _ _ ⟨by omega, by omega, ?_⟩ (by omega)
        intro n i
        by_cases hi : i = 8 * q + x
        · subst hi
          by_cases hr : 70 ≤ n ∧ n ≤ 76
          · have hd : n = 70 ∨ n = 71 ∨ n = 72 ∨ n = 73 ∨ n = 74 ∨ n = 75 ∨ n = 76 := by omega
            have e9 : (8 * q + x - 8 * q) = x := by omega
            unfold STM
            rw [e9]
            unfold up
            rcases hd with rfl | rfl | rfl | rfl | rfl | rfl | rfl <;> grind
          · simp (disch := omega) only [up_ne1]
            rw [h3]
            unfold STM
            grind
        · simp (disch := omega) only [up_nej]
          rw [h3]
          unfold STM
          grind
