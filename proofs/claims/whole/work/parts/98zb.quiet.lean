/-! with a fault the reference reads on and changes nothing -/
def FQa (M : Mem) : Prop := 1 ≤ M 0 26 ∧ M 0 26 ≤ 5
theorem FQa.w {M : Mem} (h : FQa M) : ¬ w32 (M 0 26) = 0 := by
  unfold FQa at h
  rw [w32_id (by omega)]
  omega
theorem q_fresh {n l : Nat} {a b : Int} {M : Mem} (h : FQa M) : f_X10_fresh n l a b M = some (0, M) := by
  unfold f_X10_fresh
  rw [q_gf_e, if_neg h.w]
theorem q_numeral {a b : Int} {M : Mem} (h : FQa M) : f_X10_numeral a b M = some (a, M) := by
  unfold f_X10_numeral
  rw [q_gf_e, if_neg h.w]
theorem q_hand {M : Mem} (h : FQa M) : f_X10_soulAtHand M = some (0, M) := by
  unfold f_X10_soulAtHand
  rw [q_gf_e, if_neg h.w]
theorem q_goOn {M : Mem} (h : FQa M) : f_X10_goOn M = some (0, M) := by
  unfold f_X10_goOn
  rw [q_gf_e, if_pos h.w]
theorem q_puts {a b : Int} {M : Mem} (h : FQa M) : f_X10_puts a b M = some (0, M) := by
  unfold f_X10_puts
  rw [q_gf_e, if_neg h.w]
theorem q_knot {M : Mem} (h : FQa M) : f_X10_knot M = some (0, M) := by
  unfold f_X10_knot
  rw [q_gf_e, if_neg h.w]
theorem q_wrong {a : Int} {M : Mem} (h : FQa M) : f_X10_wrong a M = some (0, M) := by
  unfold f_X10_wrong
  rw [q_gf_e, if_neg h.w]
theorem q_isWord {a : Int} {M : Mem} (h : FQa M) : f_X10_isWord a M = some 0 := by
  unfold f_X10_isWord
  rw [q_gf_e, if_pos h.w]
theorem q_isSign {a : Int} {M : Mem} (h : FQa M) : f_X10_isSign a M = some 0 := by
  unfold f_X10_isSign
  rw [q_gf_e, if_pos h.w]
theorem q_J367 {M : Mem} (h : FQa M) : f_X10_line_J367 M = some (0, M) := by
  unfold f_X10_line_J367
  rw [q_gf_e, if_neg h.w]
theorem q_J70 {x : Int} {M : Mem} (h : FQa M) : f_X10_line_J70 x M = some (0, M) := by
  unfold f_X10_line_J70
  rw [q_gf_e, if_neg h.w]
theorem qlm0_stop {B : Mem → (Mem → Res) → Res} {n : Nat} {M : Mem} {r : Int × Mem} (h : ∀ g, B M g = some r) : qlm0 B (n + 1) M = some r := h _
theorem q_N_succ : ∃ k, q_N = k + 1 := ⟨99999, rfl⟩
theorem q_primary {F : Mem → Res} {M : Mem} (h : FQa M) : f_X10_primary_G F M = some (0, M) := by
  unfold f_X10_primary_G
  rw [q_gf_e, if_neg h.w]
theorem q_product {F : Mem → Res} {M : Mem} (h : FQa M) (hF : F M = some (0, M)) : f_X10_product_G F M = some (0, M) := by
  unfold f_X10_product_G f_X10_product_L4
  obtain ⟨k, hk⟩ := q_N_succ
  rw [hF, q_call_e, hk, qlm0_stop (r := (0, M))]
  intro g
  unfold f_X10_product_B4
  rw [q_isSign h, q_calp_e, if_neg (by decide), q_isSign h, q_calp_e, if_pos (by decide)]
theorem q_sum {F : Mem → Res} {M : Mem} (h : FQa M) (hF : F M = some (0, M)) : f_X10_sum_G F M = some (0, M) := by
  unfold f_X10_sum_G f_X10_sum_L4
  obtain ⟨k, hk⟩ := q_N_succ
  rw [hF, q_call_e, hk, qlm0_stop (r := (0, M))]
  intro g
  unfold f_X10_sum_B4
  rw [q_isSign h, q_calp_e, if_neg (by decide), q_isSign h, q_calp_e, if_pos (by decide)]
theorem q_negation {F G : Mem → Res} {M : Mem} (h : FQa M) (hG : G M = some (0, M)) : f_X10_negation_G F G M = some (0, M) := by
  unfold f_X10_negation_G
  rw [q_isWord h, q_calp_e, if_pos (by decide), hG, q_call_e, q_gf_e, if_pos h.w]
theorem q_conjunction {F : Mem → Res} {M : Mem} (h : FQa M) (hF : F M = some (0, M)) : f_X10_conjunction_G F M = some (0, M) := by
  unfold f_X10_conjunction_G f_X10_conjunction_L4
  obtain ⟨k, hk⟩ := q_N_succ
  rw [hF, q_call_e, hk, qlm0_stop (r := (0, M))]
  intro g
  unfold f_X10_conjunction_B4
  rw [q_isWord h, q_calp_e, if_pos (by decide)]
theorem q_expression {F : Mem → Res} {M : Mem} (h : FQa M) (hF : F M = some (0, M)) : f_X10_expression_G F M = some (0, M) := by
  unfold f_X10_expression_G f_X10_expression_L4
  obtain ⟨k, hk⟩ := q_N_succ
  rw [hF, q_call_e, hk, qlm0_stop (r := (0, M))]
  intro g
  unfold f_X10_expression_B4
  rw [q_isWord h, q_calp_e, if_pos (by decide)]
/-- any rule at a fault -/
theorem q_E {M : Mem} (h : FQa M) (d : Nat) : f_E (d + 1) 5 M = some (0, M) ∧ f_E (d + 2) 4 M = some (0, M) ∧ f_E (d + 3) 3 M = some (0, M) ∧ f_E (d + 4) 2 M = some (0, M) ∧ f_E (d + 5) 1 M = some (0, M) ∧ f_E (d + 6) 0 M = some (0, M) := by
  have e5 : ∀ d, f_E (d + 1) 5 M = some (0, M) := fun d => q_primary h
  have e4 : ∀ d, f_E (d + 2) 4 M = some (0, M) := fun d => q_product h (e5 d)
  have e3 : ∀ d, f_E (d + 3) 3 M = some (0, M) := fun d => q_sum h (e4 d)
  have e2 : ∀ d, f_E (d + 4) 2 M = some (0, M) := fun d => q_negation h (e3 d)
  have e1 : ∀ d, f_E (d + 5) 1 M = some (0, M) := fun d => q_conjunction h (e2 d)
  exact ⟨e5 d, e4 d, e3 d, e2 d, e1 d, q_expression h (e1 d)⟩
