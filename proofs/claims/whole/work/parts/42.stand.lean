/-- who stands behind the place moves up -/
def TOC (k : Nat) (p : Int) (M : Mem) : Mem := fun n i => if n = 32 * (k + 1) + 8 ∧ p ≤ i ∧ i < M k 9 - 1 then M n (i + 1) else if n = k ∧ i = 9 then M k 9 - 1 else M n i
theorem takeOutC {k : Nat} {p : Int} {M : Mem} (hk : k < 32) (hw : M k 9 ≤ 8) (hp : 0 ≤ p ∧ p < M k 9) : f_X6_takeOut k p M = some (0, TOC k p M) := by
  rw [← wpo_eq]
  unfold f_X6_takeOut
  simp (disch := omega) only [w32_id, q_gf_e, q_gr_e, q_pf_e, q_pz_e, q_let_e, q_call_e, q_calp_e, q_al_ok, q_as_ok, q_nz_ok, up_same, up_nei, up_ne1, Int.toNat_natCast, reduceIte, Int.reduceEq, Int.reduceLT, Int.reduceLE, Int.reduceNeg, not_true_eq_false, not_false_eq_true]
  rw [if_neg (by omega), if_pos (by omega)]
  unfold f_X6_takeOut_L25
  refine qlm1_N (fun x M' => p ≤ x ∧ x ≤ M k 9 - 1 ∧ ∀ n i, M' n i = (if n = 32 * (k + 1) + 8 ∧ p ≤ i ∧ i < x then M n (i + 1) else if n = k ∧ i = 9 then M k 9 - 1 else M n i)) (fun x _ => (M k 9 - x).toNat) _ _ ⟨by omega, by omega, ?_⟩ (by omega) ?_
  · intro n i
    unfold up
    grind
  · intro x M' g ⟨h1, h2, h3⟩ ih
    have e9 : M' k 9 = M k 9 - 1 := by grind
    have er : M' (32 * (k + 1) + 8) (x + 1) = M (32 * (k + 1) + 8) (x + 1) := by grind
    unfold f_X6_takeOut_B25
    simp (disch := omega) only [w32_id, q_gf_e, q_gr_e, q_pf_e, q_pz_e, q_let_e, q_call_e, q_calp_e, q_al_ok, q_as_ok, q_nz_ok, up_same, up_nei, up_ne1, Int.toNat_natCast, reduceIte, Int.reduceEq, Int.reduceLT, Int.reduceLE, Int.reduceNeg, not_true_eq_false, not_false_eq_true, e9]
    refine wpo_ite (fun c => wpo_some.mpr ?_) (fun c => ?_)
    · congr 1
      funext n i
      unfold TOC
      grind
    · rw [if_neg (by omega)]
      (try simp (disch := omega) only [w32_id, q_gf_e, q_gr_e, q_pf_e, q_pz_e, q_let_e, q_call_e, q_calp_e, q_al_ok, q_as_ok, q_nz_ok, up_same, up_nei, up_ne1, Int.toNat_natCast, reduceIte, Int.reduceEq, Int.reduceLT, Int.reduceLE, Int.reduceNeg, not_true_eq_false, not_false_eq_true])
      refine ih _ _ ⟨by omega, by omega, ?_⟩ (by omega)
      intro n i
      unfold up
      grind
/-- the reference's: the soul stands otherwise, and who stands behind it moves up -/
def LVM (q s p v : Int) (M : Mem) : Mem := fun n i => if n = 70 ∧ 8 * q + p ≤ i ∧ i < 8 * q + (M 69 q - 1) then M n (i + 1) else if n = 69 ∧ i = q then M 69 q - 1 else if n = 71 ∧ i = 8 * q + s then v else M n i
theorem leavesM {q s p v : Int} {M : Mem} (hq : 0 ≤ q ∧ q < 23) (hs : 0 ≤ s ∧ s < 8) (hw : M 69 q ≤ 8) (hp : 0 ≤ p ∧ p < M 69 q) (hf : f_X10_placeOf q s M = some p) : f_X10_leaves q s v M = some (0, LVM q s p v M) := by
  rw [← wpo_eq]
  unfold f_X10_leaves
  rw [hf]
  simp (disch := omega) only [w32_id, q_gf_e, q_gr_e, q_pf_e, q_pz_e, q_let_e, q_call_e, q_calp_e, q_al_ok, q_as_ok, q_nz_ok, up_same, up_nei, up_ne1, Int.toNat_natCast, reduceIte, Int.reduceEq, Int.reduceLT, Int.reduceLE, Int.reduceNeg, not_true_eq_false, not_false_eq_true]
  rw [if_pos (by omega)]
  unfold f_X10_leaves_L41
  refine qlm1_N (fun x M' => p ≤ x ∧ x ≤ M 69 q - 1 ∧ ∀ n i, M' n i = (if n = 70 ∧ 8 * q + p ≤ i ∧ i < 8 * q + x then M n (i + 1) else if n = 69 ∧ i = q then M 69 q - 1 else if n = 71 ∧ i = 8 * q + s then v else M n i)) (fun x _ => (M 69 q - x).toNat) _ _ ⟨by omega, by omega, ?_⟩ (by omega) ?_
  · intro n i
    unfold up
    grind
  · intro x M' g ⟨h1, h2, h3⟩ ih
    have e9 : M' 69 q = M 69 q - 1 := by grind
    have er : M' 70 (8 * q + x + 1) = M 70 (8 * q + x + 1) := by grind
    unfold f_X10_leaves_B41
    simp (disch := omega) only [w32_id, q_gf_e, q_gr_e, q_pf_e, q_pz_e, q_let_e, q_call_e, q_calp_e, q_al_ok, q_as_ok, q_nz_ok, up_same, up_nei, up_ne1, Int.toNat_natCast, reduceIte, Int.reduceEq, Int.reduceLT, Int.reduceLE, Int.reduceNeg, not_true_eq_false, not_false_eq_true, e9]
    refine wpo_ite (fun c => wpo_some.mpr ?_) (fun c => ?_)
    · congr 1
      funext n i
      unfold LVM
      grind
    · (try simp (disch := omega) only [w32_id, q_gf_e, q_gr_e, q_pf_e, q_pz_e, q_let_e, q_call_e, q_calp_e, q_al_ok, q_as_ok, q_nz_ok, up_same, up_nei, up_ne1, Int.toNat_natCast, reduceIte, Int.reduceEq, Int.reduceLT, Int.reduceLE, Int.reduceNeg, not_true_eq_false, not_false_eq_true])
      refine ih _ _ ⟨by omega, by omega, ?_⟩ (by omega)
      intro n i
      unfold up
      grind
/-- here a soul is put in -/
def PIC (k : Nat) (s p : Int) (M : Mem) : Mem := fun n i => if n = 32 * (k + 1) + 8 ∧ i = p then s else if n = 32 * (k + 1) + 8 ∧ p < i ∧ i ≤ M k 9 then M n (i - 1) else if n = 32 * (k + 1) + 2 ∧ i = s then 1 else if n = k ∧ i = 9 then M k 9 + 1 else M n i
theorem putInC {k : Nat} {s p : Int} {M : Mem} (hk : k < 32) (hs : 0 ≤ s ∧ s < 8) (hw : M k 9 < 8) (hp : 0 ≤ p ∧ p ≤ M k 9) : f_X6_putIn k s p M = some (0, PIC k s p M) := by
  rw [← wpo_eq]
  unfold f_X6_putIn
  simp (disch := omega) only [w32_id, q_gf_e, q_gr_e, q_pf_e, q_pz_e, q_let_e, q_call_e, q_calp_e, q_al_ok, q_as_ok, q_nz_ok, up_same, up_nei, up_ne1, Int.toNat_natCast, reduceIte, Int.reduceEq, Int.reduceLT, Int.reduceLE, Int.reduceNeg, not_true_eq_false, not_false_eq_true]
  rw [if_neg (by omega), if_neg (by omega), if_pos (by omega)]
  unfold f_X6_putIn_L27
  refine qlm1_N (fun x M' => p ≤ x ∧ x ≤ M k 9 ∧ ∀ n i, M' n i = (if n = 32 * (k + 1) + 8 ∧ x < i ∧ i ≤ M k 9 then M n (i - 1) else M n i)) (fun x _ => (x - p).toNat) _ _ ⟨by omega, by omega, ?_⟩ (by omega) ?_
  · intro n i
    grind
  · intro x M' g ⟨h1, h2, h3⟩ ih
    have e9 : M' k 9 = M k 9 := by grind
    unfold f_X6_putIn_B27
    simp (disch := omega) only [w32_id, q_gf_e, q_gr_e, q_pf_e, q_pz_e, q_let_e, q_call_e, q_calp_e, q_al_ok, q_as_ok, q_nz_ok, up_same, up_nei, up_ne1, Int.toNat_natCast, reduceIte, Int.reduceEq, Int.reduceLT, Int.reduceLE, Int.reduceNeg, not_true_eq_false, not_false_eq_true]
    refine wpo_ite (fun c => ?_) (fun c => ?_)
    · (try simp (disch := omega) only [w32_id, q_gf_e, q_gr_e, q_pf_e, q_pz_e, q_let_e, q_call_e, q_calp_e, q_al_ok, q_as_ok, q_nz_ok, up_same, up_nei, up_ne1, Int.toNat_natCast, reduceIte, Int.reduceEq, Int.reduceLT, Int.reduceLE, Int.reduceNeg, not_true_eq_false, not_false_eq_true])
      refine wpo_some.mpr ?_
      congr 1
      funext n i
      unfold PIC up
      grind
    · (try simp (disch := omega) only [w32_id, q_gf_e, q_gr_e, q_pf_e, q_pz_e, q_let_e, q_call_e, q_calp_e, q_al_ok, q_as_ok, q_nz_ok, up_same, up_nei, up_ne1, Int.toNat_natCast, reduceIte, Int.reduceEq, Int.reduceLT, Int.reduceLE, Int.reduceNeg, not_true_eq_false, not_false_eq_true])
      refine ih _ _ ⟨by omega, by omega, ?_⟩ (by omega)
      intro n i
      unfold up
      grind
/-- the reference's: a soul stands at the end -/
def JNM (q s : Int) (M : Mem) : Mem := fun n i => if n = 70 ∧ i = 8 * q + M 69 q then s else if n = 69 ∧ i = q then M 69 q + 1 else if n = 71 ∧ i = 8 * q + s then 1 else M n i
theorem joinsM {q s : Int} {M : Mem} (hq : 0 ≤ q ∧ q < 23) (hs : 0 ≤ s ∧ s < 8) (hw : 0 ≤ M 69 q ∧ M 69 q < 8) : f_X10_joins q s M = some (0, JNM q s M) := by
  unfold f_X10_joins
  simp (disch := omega) only [w32_id, q_gf_e, q_gr_e, q_pf_e, q_pz_e, q_let_e, q_call_e, q_calp_e, q_al_ok, q_as_ok, q_nz_ok, up_same, up_nei, up_ne1, Int.toNat_natCast, reduceIte, Int.reduceEq, Int.reduceLT, Int.reduceLE, Int.reduceNeg, not_true_eq_false, not_false_eq_true]
  congr 2
  funext n i
  unfold JNM up
  grind
