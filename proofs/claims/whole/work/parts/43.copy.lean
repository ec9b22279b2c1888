/-- here a stand is taken over from another -/
def CPC (k k0 : Nat) (M : Mem) : Mem := fun n i => if n = k ∧ (i = 0 ∨ i = 1 ∨ i = 9) then M k0 i else if 32 * (k + 1) + 2 ≤ n ∧ n ≤ 32 * (k + 1) + 8 ∧ 0 ≤ i ∧ i < 8 then M (32 * (k0 + 1) + (n - 32 * (k + 1))) i else M n i
theorem copyC {k k0 : Nat} {M : Mem} (hk : k < 32) (hk0 : k0 < 32) (hn : k ≠ k0) : f_X6_copy k k0 M = some (0, CPC k k0 M) := by
  rw [← wpo_eq]
  unfold f_X6_copy
  simp (disch := omega) only [w32_id, q_gf_e, q_gr_e, q_pf_e, q_pz_e, q_let_e, q_call_e, q_calp_e, q_al_ok, q_as_ok, q_nz_ok, up_same, up_nei, up_ne1, Int.toNat_natCast, reduceIte, Int.reduceEq, Int.reduceLT, Int.reduceLE, Int.reduceNeg, not_true_eq_false, not_false_eq_true]
  unfold f_X6_copy_L26
  refine qlm1_N (fun x M' => 0 ≤ x ∧ x ≤ 8 ∧ ∀ n i, M' n i = (if n = k ∧ (i = 0 ∨ i = 1 ∨ i = 9) then M k0 i else if 32 * (k + 1) + 2 ≤ n ∧ n ≤ 32 * (k + 1) + 8 ∧ 0 ≤ i ∧ i < x then M (32 * (k0 + 1) + (n - 32 * (k + 1))) i else M n i)) (fun x _ => (8 - x).toNat) _ _ ⟨by omega, by omega, ?_⟩ (by omega) ?_
  · intro n i
    unfold up
    grind
  · intro x M' g ⟨h1, h2, h3⟩ ih
    have er : ∀ n i, n ≠ k → (n < 32 * (k + 1) + 2 ∨ 32 * (k + 1) + 8 < n) → M' n i = M n i := by grind
    have e2 := er (32 * (k0 + 1) + 2) x (by omega) (by omega)
    have e3 := er (32 * (k0 + 1) + 3) x (by omega) (by omega)
    have e4 := er (32 * (k0 + 1) + 4) x (by omega) (by omega)
    have e5 := er (32 * (k0 + 1) + 5) x (by omega) (by omega)
    have e6 := er (32 * (k0 + 1) + 6) x (by omega) (by omega)
    have e7 := er (32 * (k0 + 1) + 7) x (by omega) (by omega)
    have e8 := er (32 * (k0 + 1) + 8) x (by omega) (by omega)
    unfold f_X6_copy_B26
    simp (disch := omega) only [w32_id, q_gf_e, q_gr_e, q_pf_e, q_pz_e, q_let_e, q_call_e, q_calp_e, q_al_ok, q_as_ok, q_nz_ok, up_same, up_nei, up_ne1, Int.toNat_natCast, reduceIte, Int.reduceEq, Int.reduceLT, Int.reduceLE, Int.reduceNeg, not_true_eq_false, not_false_eq_true]
    refine wpo_ite (fun c => wpo_some.mpr ?_) (fun c => ?_)
    · congr 1
      funext n i
      unfold CPC
      grind
    · (try simp (disch := omega) only [w32_id, q_gf_e, q_gr_e, q_pf_e, q_pz_e, q_let_e, q_call_e, q_calp_e, q_al_ok, q_as_ok, q_nz_ok, up_same, up_nei, up_ne1, Int.toNat_natCast, reduceIte, Int.reduceEq, Int.reduceLT, Int.reduceLE, Int.reduceNeg, not_true_eq_false, not_false_eq_true])
      refine ih _ _ ⟨by omega, by omega, ?_⟩ (by omega)
      rw [e2, e3, e4, e5, e6, e7, e8]
      intro n i
      by_cases hi : i = x
      · subst hi
        by_cases hr : 32 * (k + 1) + 2 ≤ n ∧ n ≤ 32 * (k + 1) + 8
        · obtain ⟨d, rfl⟩ : ∃ d, n = 32 * (k + 1) + d := ⟨n - 32 * (k + 1), by omega⟩
          have hd : d = 2 ∨ d = 3 ∨ d = 4 ∨ d = 5 ∨ d = 6 ∨ d = 7 ∨ d = 8 := by omega
          rw [Nat.add_sub_cancel_left]
          unfold up
          rcases hd with rfl | rfl | rfl | rfl | rfl | rfl | rfl <;> grind
        · simp (disch := omega) only [up_ne1]
          rw [h3]
          grind
      · simp (disch := omega) only [up_nej]
        rw [h3]
        grind
/-- the reference's: a queue is taken over from another -/
def CPM (q q0 : Int) (M : Mem) : Mem := fun n i => if 67 ≤ n ∧ n ≤ 69 ∧ i = q then M n q0 else if 70 ≤ n ∧ n ≤ 76 ∧ 8 * q ≤ i ∧ i < 8 * q + 8 then M n (8 * q0 + (i - 8 * q)) else M n i
theorem copiesM {q q0 : Int} {M : Mem} (hq : 0 ≤ q ∧ q < 23) (hq0 : 0 ≤ q0 ∧ q0 < 23) (hn : q ≠ q0) : f_X10_copies q q0 M = some (0, CPM q q0 M) := by
  rw [← wpo_eq]
  unfold f_X10_copies
  simp (disch := omega) only [w32_id, q_gf_e, q_gr_e, q_pf_e, q_pz_e, q_let_e, q_call_e, q_calp_e, q_al_ok, q_as_ok, q_nz_ok, up_same, up_nei, up_ne1, Int.toNat_natCast, reduceIte, Int.reduceEq, Int.reduceLT, Int.reduceLE, Int.reduceNeg, not_true_eq_false, not_false_eq_true]
  unfold f_X10_copies_L38
  refine qlm1_N (fun x M' => 0 ≤ x ∧ x ≤ 8 ∧ ∀ n i, M' n i = (if 67 ≤ n ∧ n ≤ 69 ∧ i = q then M n q0 else if 70 ≤ n ∧ n ≤ 76 ∧ 8 * q ≤ i ∧ i < 8 * q + x then M n (8 * q0 + (i - 8 * q)) else M n i)) (fun x _ => (8 - x).toNat) _ _ ⟨by omega, by omega, ?_⟩ (by omega) ?_
  · intro n i
    by_cases hi : i = q
    · subst hi
      by_cases hr : 67 ≤ n ∧ n ≤ 69
      · have hd : n = 67 ∨ n = 68 ∨ n = 69 := by omega
        unfold up
        rcases hd with rfl | rfl | rfl <;> grind
      · simp (disch := omega) only [up_ne1]
        grind
    · simp (disch := omega) only [up_nej]
      grind
  · intro x M' g ⟨h1, h2, h3⟩ ih
    unfold f_X10_copies_B38
    simp (disch := omega) only [w32_id, q_gf_e, q_gr_e, q_pf_e, q_pz_e, q_let_e, q_call_e, q_calp_e, q_al_ok, q_as_ok, q_nz_ok, up_same, up_nei, up_ne1, Int.toNat_natCast, reduceIte, Int.reduceEq, Int.reduceLT, Int.reduceLE, Int.reduceNeg, not_true_eq_false, not_false_eq_true]
    refine wpo_ite (fun c => wpo_some.mpr ?_) (fun c => ?_)
    · congr 1
      funext n i
      unfold CPM
      grind
    · have hx8 : x < 8 := by omega
      have er : ∀ n, 70 ≤ n ∧ n ≤ 76 → M' n (8 * q0 + x) = M n (8 * q0 + x) := by
        intro n hn
        rw [h3, if_neg (by omega), if_neg (by omega)]
      have e2 := er 70 (by omega)
      have e3 := er 71 (by omega)
      have e4 := er 72 (by omega)
      have e5 := er 73 (by omega)
      have e6 := er 74 (by omega)
      have e7 := er 75 (by omega)
      have e8 := er 76 (by omega)
      (try simp (disch := omega) only [w32_id, q_gf_e, q_gr_e, q_pf_e, q_pz_e, q_let_e, q_call_e, q_calp_e, q_al_ok, q_as_ok, q_nz_ok, up_same, up_nei, up_ne1, Int.toNat_natCast, reduceIte, Int.reduceEq, Int.reduceLT, Int.reduceLE, Int.reduceNeg, not_true_eq_false, not_false_eq_true])
      refine ih _ _ ⟨by omega, by omega, ?_⟩ (by omega)
      rw [e2, e3, e4, e5, e6, e7, e8]
      intro n i
      by_cases hi : i = 8 * q + x
      · subst hi
        by_cases hr : 70 ≤ n ∧ n ≤ 76
        · have hd : n = 70 ∨ n = 71 ∨ n = 72 ∨ n = 73 ∨ n = 74 ∨ n = 75 ∨ n = 76 := by omega
          have e9 : 8 * q0 + (8 * q + x - 8 * q) = 8 * q0 + x := by omega
          rw [e9]
          unfold up
          rcases hd with rfl | rfl | rfl | rfl | rfl | rfl | rfl <;> grind
        · simp (disch := omega) only [up_ne1]
          rw [h3]
          grind
      · simp (disch := omega) only [up_nej]
        rw [h3]
        grind
