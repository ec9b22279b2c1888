/-- sums and bits over the first so many -/
def smT (f : Int → Int) : Nat → Int
  | 0 => 0
  | n + 1 => smT f n + f n
def orT (f : Int → Int) : Nat → Int
  | 0 => 0
  | n + 1 => q_or (orT f n) (f n)
theorem smT_succ (f : Int → Int) {x : Int} (h : 0 ≤ x) : smT f (x + 1).toNat = smT f x.toNat + f x := by
  have e : (x + 1).toNat = x.toNat + 1 := by omega
  rw [e]
  show smT f x.toNat + f (x.toNat : Int) = _
  rw [Int.toNat_of_nonneg h]
theorem orT_succ (f : Int → Int) {x : Int} (h : 0 ≤ x) : orT f (x + 1).toNat = q_or (orT f x.toNat) (f x) := by
  have e : (x + 1).toNat = x.toNat + 1 := by omega
  rw [e]
  show q_or (orT f x.toNat) (f (x.toNat : Int)) = _
  rw [Int.toNat_of_nonneg h]
theorem smT_congr {f g : Int → Int} : ∀ n : Nat, (∀ i : Int, 0 ≤ i → i < n → f i = g i) → smT f n = smT g n
  | 0, _ => rfl
  | n + 1, h => by
    show smT f n + f n = smT g n + g n
    rw [smT_congr n (fun i a b => h i a (by omega)), h n (by omega) (by omega)]
theorem orT_congr {f g : Int → Int} : ∀ n : Nat, (∀ i : Int, 0 ≤ i → i < n → f i = g i) → orT f n = orT g n
  | 0, _ => rfl
  | n + 1, h => by
    show q_or (orT f n) (f n) = q_or (orT g n) (g n)
    rw [orT_congr n (fun i a b => h i a (by omega)), h n (by omega) (by omega)]
theorem smT_rng {f : Int → Int} {b : Int} : ∀ n : Nat, (∀ i : Int, 0 ≤ i → i < n → 0 ≤ f i ∧ f i ≤ b) → 0 ≤ smT f n ∧ smT f n ≤ b * n
  | 0, _ => ⟨Int.le_refl _, by simp [smT]⟩
  | n + 1, h => by
    have h1 := smT_rng n (fun i a b => h i a (by omega))
    have h2 := h n (by omega) (by omega)
    have e : b * ((n + 1 : Nat) : Int) = b * n + b := by rw [Int.natCast_succ, Int.mul_add, Int.mul_one]
    rw [e]
    show 0 ≤ smT f n + f n ∧ smT f n + f n ≤ b * n + b
    omega
theorem q_or_rng (x y : Int) : in32 (q_or x y) := by
  have h1 := Int32.le_toInt (qI x ||| qI y)
  have h2 := Int32.toInt_lt (qI x ||| qI y)
  exact ⟨by simpa [q_or] using h1, by simpa [q_or] using h2⟩
theorem q_and_rng (x y : Int) : in32 (q_and x y) := by
  have h1 := Int32.le_toInt (qI x &&& qI y)
  have h2 := Int32.toInt_lt (qI x &&& qI y)
  exact ⟨by simpa [q_and] using h1, by simpa [q_and] using h2⟩
theorem q_or_zero {x : Int} (h : in32 x) : q_or x 0 = x := by
  unfold q_or
  rw [qI_0, Int32.or_zero, qI_toInt, w32_id h]
theorem orT_rng (f : Int → Int) : ∀ n : Nat, in32 (orT f n)
  | 0 => by unfold in32 orT; omega
  | n + 1 => q_or_rng _ _
theorem howManyC {k : Nat} {v S : Int} {M : Mem} (hv : in32 v) (hS : 0 ≤ S ∧ S ≤ 8) (hr : ∀ j, 0 ≤ j → j < S → in32 (M (32 * (k + 1) + 2) j)) : f_X6_howMany k v S M = some (smT (fun i => if M (32 * (k + 1) + 2) i = v then 1 else 0) S.toNat) := by
  rw [← wpo_eq]
  unfold f_X6_howMany f_X6_howMany_L5
  unfold in32 at hv
  refine qlp2_N (fun a x => 0 ≤ x ∧ x ≤ S ∧ a = smT (fun i => if M (32 * (k + 1) + 2) i = v then 1 else 0) x.toNat) (fun _ x => (8 - x).toNat) _ _ ⟨by omega, by omega, rfl⟩ (by omega) ?_
  intro a x g ⟨h1, h2, h3⟩ ih
  unfold f_X6_howMany_B5
  simp (disch := omega) only [w32_id, q_gf_e, q_gr_e, q_pf_e, q_pz_e, q_let_e, q_call_e, q_calp_e, q_al_ok, q_as_ok, q_nz_ok, up_same, up_nei, up_ne1, Int.toNat_natCast, reduceIte, Int.reduceEq, Int.reduceLT, Int.reduceLE, Int.reduceNeg, not_true_eq_false, not_false_eq_true]
  refine wpo_ite (fun c => wpo_some.mpr ?_) (fun c => ?_)
  · rw [h3, show x = S by omega]
  · rw [if_neg (by omega)]
    have hx := hr x h1 (by omega)
    unfold in32 at hx
    (try simp (disch := omega) only [w32_id, q_gf_e, q_gr_e, q_pf_e, q_pz_e, q_let_e, q_call_e, q_calp_e, q_al_ok, q_as_ok, q_nz_ok, up_same, up_nei, up_ne1, Int.toNat_natCast, reduceIte, Int.reduceEq, Int.reduceLT, Int.reduceLE, Int.reduceNeg, not_true_eq_false, not_false_eq_true])
    refine wpo_ite (fun c' => ih _ _ ⟨by omega, by omega, ?_⟩ (by omega)) (fun c' => ih _ _ ⟨by omega, by omega, ?_⟩ (by omega))
    · rw [smT_succ _ h1, ← h3, if_neg c', Int.add_zero]
    · rw [smT_succ _ h1, ← h3, if_pos (by omega)]
theorem soulsOfM {q v : Int} {M : Mem} (hq : 0 ≤ q ∧ q < 23) (hv : in32 v) (hS : 0 ≤ M 35 0 ∧ M 35 0 ≤ 8) (hr : ∀ j, 0 ≤ j → j < M 35 0 → in32 (M 71 (8 * q + j))) : f_X10_soulsOf q v M = some (smT (fun i => if M 71 (8 * q + i) = v then 1 else 0) (M 35 0).toNat) := by
  rw [← wpo_eq]
  unfold f_X10_soulsOf f_X10_soulsOf_L5
  unfold in32 at hv
  refine qlp2_N (fun a x => 0 ≤ x ∧ x ≤ M 35 0 ∧ a = smT (fun i => if M 71 (8 * q + i) = v then 1 else 0) x.toNat) (fun _ x => (8 - x).toNat) _ _ ⟨by omega, by omega, rfl⟩ (by omega) ?_
  intro a x g ⟨h1, h2, h3⟩ ih
  unfold f_X10_soulsOf_B5
  simp (disch := omega) only [w32_id, q_gf_e, q_gr_e, q_pf_e, q_pz_e, q_let_e, q_call_e, q_calp_e, q_al_ok, q_as_ok, q_nz_ok, up_same, up_nei, up_ne1, Int.toNat_natCast, reduceIte, Int.reduceEq, Int.reduceLT, Int.reduceLE, Int.reduceNeg, not_true_eq_false, not_false_eq_true]
  refine wpo_ite (fun c => wpo_some.mpr ?_) (fun c => ?_)
  · rw [h3, show x = M 35 0 by omega]
  · have hx := hr x h1 (by omega)
    unfold in32 at hx
    (try simp (disch := omega) only [w32_id, q_gf_e, q_gr_e, q_pf_e, q_pz_e, q_let_e, q_call_e, q_calp_e, q_al_ok, q_as_ok, q_nz_ok, up_same, up_nei, up_ne1, Int.toNat_natCast, reduceIte, Int.reduceEq, Int.reduceLT, Int.reduceLE, Int.reduceNeg, not_true_eq_false, not_false_eq_true])
    refine wpo_ite (fun c' => ih _ _ ⟨by omega, by omega, ?_⟩ (by omega)) (fun c' => ih _ _ ⟨by omega, by omega, ?_⟩ (by omega))
    · rw [smT_succ _ h1, ← h3, if_neg c', Int.add_zero]
    · rw [smT_succ _ h1, ← h3, if_pos (by omega)]
theorem kindnessM {q : Int} {M : Mem} (hq : 0 ≤ q ∧ q < 23) (hS : 0 ≤ M 35 0 ∧ M 35 0 ≤ 8) (hr : ∀ j, 0 ≤ j → j < M 35 0 → in32 (M 71 (8 * q + j))) : f_X10_kindness q M = some (smT (fun i => if M 71 (8 * q + i) = 2 then M 38 i else 0) (M 35 0).toNat) := by
  rw [← wpo_eq]
  unfold f_X10_kindness f_X10_kindness_L4
  refine qlp2_N (fun a x => 0 ≤ x ∧ x ≤ M 35 0 ∧ a = smT (fun i => if M 71 (8 * q + i) = 2 then M 38 i else 0) x.toNat) (fun _ x => (8 - x).toNat) _ _ ⟨by omega, by omega, rfl⟩ (by omega) ?_
  intro a x g ⟨h1, h2, h3⟩ ih
  unfold f_X10_kindness_B4
  simp (disch := omega) only [w32_id, q_gf_e, q_gr_e, q_pf_e, q_pz_e, q_let_e, q_call_e, q_calp_e, q_al_ok, q_as_ok, q_nz_ok, up_same, up_nei, up_ne1, Int.toNat_natCast, reduceIte, Int.reduceEq, Int.reduceLT, Int.reduceLE, Int.reduceNeg, not_true_eq_false, not_false_eq_true]
  refine wpo_ite (fun c => wpo_some.mpr ?_) (fun c => ?_)
  · rw [h3, show x = M 35 0 by omega]
  · have hx := hr x h1 (by omega)
    unfold in32 at hx
    (try simp (disch := omega) only [w32_id, q_gf_e, q_gr_e, q_pf_e, q_pz_e, q_let_e, q_call_e, q_calp_e, q_al_ok, q_as_ok, q_nz_ok, up_same, up_nei, up_ne1, Int.toNat_natCast, reduceIte, Int.reduceEq, Int.reduceLT, Int.reduceLE, Int.reduceNeg, not_true_eq_false, not_false_eq_true])
    refine wpo_ite (fun c' => ih _ _ ⟨by omega, by omega, ?_⟩ (by omega)) (fun c' => ih _ _ ⟨by omega, by omega, ?_⟩ (by omega))
    · rw [smT_succ _ h1, ← h3, if_neg c', Int.add_zero]
    · rw [smT_succ _ h1, ← h3, if_pos (by omega)]
theorem kindnessC {k t : Nat} {M : Mem} (ht : M 0 3 = t) (hS : 0 ≤ M t 0 ∧ M t 0 ≤ 8) (hr : ∀ j, 0 ≤ j → j < M t 0 → in32 (M (32 * (k + 1) + 2) j)) : f_X9_kindnessGone k M = some (smT (fun i => if M (32 * (k + 1) + 2) i = 2 then M (32 * (t + 1) + 3) i else 0) (M t 0).toNat) := by
  rw [← wpo_eq]
  unfold f_X9_kindnessGone f_X9_kindnessGone_L4
  refine qlp2_N (fun a x => 0 ≤ x ∧ x ≤ M t 0 ∧ a = smT (fun i => if M (32 * (k + 1) + 2) i = 2 then M (32 * (t + 1) + 3) i else 0) x.toNat) (fun _ x => (8 - x).toNat) _ _ ⟨by omega, by omega, rfl⟩ (by omega) ?_
  intro a x g ⟨h1, h2, h3⟩ ih
  unfold f_X9_kindnessGone_B4
  simp (disch := omega) only [w32_id, q_gf_e, q_gr_e, q_pf_e, q_pz_e, q_let_e, q_call_e, q_calp_e, q_al_ok, q_as_ok, q_nz_ok, up_same, up_nei, up_ne1, Int.toNat_natCast, reduceIte, Int.reduceEq, Int.reduceLT, Int.reduceLE, Int.reduceNeg, not_true_eq_false, not_false_eq_true, ht]
  refine wpo_ite (fun c => wpo_some.mpr ?_) (fun c => ?_)
  · rw [h3, show x = M t 0 by omega]
  · have hx := hr x h1 (by omega)
    unfold in32 at hx
    (try simp (disch := omega) only [w32_id, q_gf_e, q_gr_e, q_pf_e, q_pz_e, q_let_e, q_call_e, q_calp_e, q_al_ok, q_as_ok, q_nz_ok, up_same, up_nei, up_ne1, Int.toNat_natCast, reduceIte, Int.reduceEq, Int.reduceLT, Int.reduceLE, Int.reduceNeg, not_true_eq_false, not_false_eq_true])
    refine wpo_ite (fun c' => ih _ _ ⟨by omega, by omega, ?_⟩ (by omega)) (fun c' => ih _ _ ⟨by omega, by omega, ?_⟩ (by omega))
    · rw [smT_succ _ h1, ← h3, if_neg c', Int.add_zero]
    · rw [smT_succ _ h1, ← h3, if_pos (by omega)]
theorem sumC {n0 t : Nat} {M : Mem} (ht : M 0 3 = t) (hS : 0 ≤ M t 0 ∧ M t 0 ≤ 8) : f_X9_sum n0 8 M = some (smT (fun i => M n0 i) (M t 0).toNat) := by
  rw [← wpo_eq]
  unfold f_X9_sum f_X9_sum_L4
  refine qlp2_N (fun a x => 0 ≤ x ∧ x ≤ M t 0 ∧ a = smT (fun i => M n0 i) x.toNat) (fun _ x => (8 - x).toNat) _ _ ⟨by omega, by omega, rfl⟩ (by omega) ?_
  intro a x g ⟨h1, h2, h3⟩ ih
  unfold f_X9_sum_B4
  simp (disch := omega) only [w32_id, q_gf_e, q_gr_e, q_pf_e, q_pz_e, q_let_e, q_call_e, q_calp_e, q_al_ok, q_as_ok, q_nz_ok, up_same, up_nei, up_ne1, Int.toNat_natCast, reduceIte, Int.reduceEq, Int.reduceLT, Int.reduceLE, Int.reduceNeg, not_true_eq_false, not_false_eq_true, ht]
  refine wpo_ite (fun c => wpo_some.mpr ?_) (fun c => ?_)
  · rw [h3, show x = M t 0 by omega]
  · rw [if_neg (by omega)]
    (try simp (disch := omega) only [w32_id, q_gf_e, q_gr_e, q_pf_e, q_pz_e, q_let_e, q_call_e, q_calp_e, q_al_ok, q_as_ok, q_nz_ok, up_same, up_nei, up_ne1, Int.toNat_natCast, reduceIte, Int.reduceEq, Int.reduceLT, Int.reduceLE, Int.reduceNeg, not_true_eq_false, not_false_eq_true])
    refine ih _ _ ⟨by omega, by omega, ?_⟩ (by omega)
    rw [smT_succ _ h1, ← h3]
theorem allOfM {n0 : Nat} {q : Int} {M : Mem} (hq : 0 ≤ q ∧ q < 23) (hS : 0 ≤ M 35 0 ∧ M 35 0 ≤ 8) : f_X10_allOf n0 184 q M = some (smT (fun i => M n0 (8 * q + i)) (M 35 0).toNat) := by
  rw [← wpo_eq]
  unfold f_X10_allOf f_X10_allOf_L5
  refine qlp2_N (fun a x => 0 ≤ x ∧ x ≤ M 35 0 ∧ a = smT (fun i => M n0 (8 * q + i)) x.toNat) (fun _ x => (8 - x).toNat) _ _ ⟨by omega, by omega, rfl⟩ (by omega) ?_
  intro a x g ⟨h1, h2, h3⟩ ih
  unfold f_X10_allOf_B5
  simp (disch := omega) only [w32_id, q_gf_e, q_gr_e, q_pf_e, q_pz_e, q_let_e, q_call_e, q_calp_e, q_al_ok, q_as_ok, q_nz_ok, up_same, up_nei, up_ne1, Int.toNat_natCast, reduceIte, Int.reduceEq, Int.reduceLT, Int.reduceLE, Int.reduceNeg, not_true_eq_false, not_false_eq_true]
  refine wpo_ite (fun c => wpo_some.mpr ?_) (fun c => ?_)
  · rw [h3, show x = M 35 0 by omega]
  · (try simp (disch := omega) only [w32_id, q_gf_e, q_gr_e, q_pf_e, q_pz_e, q_let_e, q_call_e, q_calp_e, q_al_ok, q_as_ok, q_nz_ok, up_same, up_nei, up_ne1, Int.toNat_natCast, reduceIte, Int.reduceEq, Int.reduceLT, Int.reduceLE, Int.reduceNeg, not_true_eq_false, not_false_eq_true])
    refine ih _ _ ⟨by omega, by omega, ?_⟩ (by omega)
    rw [smT_succ _ h1, ← h3]
theorem findC {n0 l0 : Nat} {w s : Int} {M : Mem} (hl : (l0 : Int) ≤ 1000) (hw : 0 ≤ w ∧ w ≤ l0) (hs : in32 s) (hr : ∀ j, 0 ≤ j → j < w → in32 (M n0 j)) : wpo (f_X9_find n0 l0 w s M) (FIND (M n0) w s (-1)) := by
  unfold f_X9_find f_X9_find_L2
  refine qlp1_N (fun x => 0 ≤ x ∧ x ≤ w ∧ ∀ j, 0 ≤ j → j < x → M n0 j ≠ s) (fun x => (w - x).toNat) _ ⟨by omega, by omega, fun j h1 h2 => by omega⟩ (by omega) ?_
  intro x g ⟨h1, h2, h3⟩ ih
  unfold f_X9_find_B2
  unfold in32 at hs
  simp (disch := omega) only [w32_id, q_gf_e, q_gr_e, q_pf_e, q_pz_e, q_let_e, q_call_e, q_calp_e, q_al_ok, q_as_ok, q_nz_ok, up_same, up_nei, up_ne1, Int.toNat_natCast, reduceIte, Int.reduceEq, Int.reduceLT, Int.reduceLE, Int.reduceNeg, not_true_eq_false, not_false_eq_true]
  refine wpo_ite (fun c => wpo_some.mpr (.inr ⟨rfl, fun j a b => h3 j a (by omega)⟩)) (fun c => ?_)
  refine wpo_ite (fun c => by omega) (fun c => ?_)
  have hx := hr x h1 (by omega)
  unfold in32 at hx
  (try simp (disch := omega) only [w32_id, q_gf_e, q_gr_e, q_pf_e, q_pz_e, q_let_e, q_call_e, q_calp_e, q_al_ok, q_as_ok, q_nz_ok, up_same, up_nei, up_ne1, Int.toNat_natCast, reduceIte, Int.reduceEq, Int.reduceLT, Int.reduceLE, Int.reduceNeg, not_true_eq_false, not_false_eq_true])
  refine wpo_ite (fun c => ih _ ⟨by omega, by omega, fun j a b => ?_⟩ (by omega)) (fun c => wpo_some.mpr (.inl ⟨h1, by omega, by simpa using c, h3⟩))
  by_cases hj : j = x
  · rw [hj]; exact c
  · exact h3 j a (by omega)
theorem foundM {n0 l0 : Nat} {b w s : Int} {M : Mem} (hl : (l0 : Int) ≤ 1000) (hw : 0 ≤ w ∧ 0 ≤ b ∧ b + w ≤ l0) (hs : in32 s) (hr : ∀ j, 0 ≤ j → j < w → in32 (M n0 (b + j))) : wpo (f_X10_found n0 l0 b w s M) (FIND (fun j => M n0 (b + j)) w s (-1)) := by
  unfold f_X10_found f_X10_found_L3
  refine qlp1_N (fun x => 0 ≤ x ∧ x ≤ w ∧ ∀ j, 0 ≤ j → j < x → M n0 (b + j) ≠ s) (fun x => (w - x).toNat) _ ⟨by omega, by omega, fun j h1 h2 => by omega⟩ (by omega) ?_
  intro x g ⟨h1, h2, h3⟩ ih
  unfold f_X10_found_B3
  unfold in32 at hs
  simp (disch := omega) only [w32_id, q_gf_e, q_gr_e, q_pf_e, q_pz_e, q_let_e, q_call_e, q_calp_e, q_al_ok, q_as_ok, q_nz_ok, up_same, up_nei, up_ne1, Int.toNat_natCast, reduceIte, Int.reduceEq, Int.reduceLT, Int.reduceLE, Int.reduceNeg, not_true_eq_false, not_false_eq_true]
  refine wpo_ite (fun c => wpo_some.mpr (.inr ⟨rfl, fun j a b => h3 j a (by omega)⟩)) (fun c => ?_)
  have hx := hr x h1 (by omega)
  unfold in32 at hx
  (try simp (disch := omega) only [w32_id, q_gf_e, q_gr_e, q_pf_e, q_pz_e, q_let_e, q_call_e, q_calp_e, q_al_ok, q_as_ok, q_nz_ok, up_same, up_nei, up_ne1, Int.toNat_natCast, reduceIte, Int.reduceEq, Int.reduceLT, Int.reduceLE, Int.reduceNeg, not_true_eq_false, not_false_eq_true])
  refine wpo_ite (fun c => ih _ ⟨by omega, by omega, fun j a b => ?_⟩ (by omega)) (fun c => wpo_some.mpr (.inl ⟨h1, by omega, by simpa using c, h3⟩))
  by_cases hj : j = x
  · rw [hj]; exact c
  · exact h3 j a (by omega)
