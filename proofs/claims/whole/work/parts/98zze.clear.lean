/-! the start of a text: what is cleared -/
def C2L (k : Nat) (x : Int) (M : Mem) : Mem := fun n i => if n = k ∧ (i = 5 ∨ i = 6) then 0 else if (n = 32 * (k + 1) + 2 ∨ n = 32 * (k + 1) + 3) ∧ 0 ≤ i ∧ i < x then 0 else M n i
theorem clear2C {k : Nat} {M : Mem} (hk : k < 32) : f_X2_clear k M = some (0, C2L k 3 M) := by
  rw [← wpo_eq]
  unfold f_X2_clear f_X2_clear_L12
  rw [q_pf_e, q_pf_e]
  refine qlm1_N (fun x M' => 0 ≤ x ∧ x ≤ 3 ∧ ∀ n i, M' n i = C2L k x M n i) (fun x _ => (3 - x).toNat) _ _ ⟨by omega, by omega, ?_⟩ (by omega) ?_
  · intro n i
    unfold up C2L
    by_cases c : n = k ∧ i = 6
    · rw [if_pos c, if_pos (by omega)]
    · rw [if_neg c]
      by_cases d : n = k ∧ i = 5
      · rw [if_pos d, if_pos (by omega)]
      · rw [if_neg d, if_neg (by omega), if_neg (by omega)]
  · intro x M' g ⟨h1, h2, h3⟩ ih
    unfold f_X2_clear_B12
    rw [w32_id (x := 3) (by omega), w32_id (x := x) (by omega)]
    refine wpo_ite (fun c => wpo_some.mpr ?_) (fun c => ?_)
    · congr 1
      funext n i
      rw [h3, show x = 3 by omega]
    · rw [q_as_ok (by omega), q_as_ok (by omega)]
      refine ih _ _ ⟨by omega, by omega, ?_⟩ (by omega)
      intro n i
      unfold up
      by_cases c1 : n = 32 * (k + 1) + 3 ∧ i = x
      · rw [if_pos c1]
        unfold C2L
        rw [if_neg (by omega), if_pos (by omega)]
      · rw [if_neg c1]
        by_cases c2 : n = 32 * (k + 1) + 2 ∧ i = x
        · rw [if_pos c2]
          unfold C2L
          rw [if_neg (by omega), if_pos (by omega)]
        · rw [if_neg c2, h3]
          unfold C2L
          by_cases c3 : n = k ∧ (i = 5 ∨ i = 6)
          · rw [if_pos c3, if_pos c3]
          · rw [if_neg c3, if_neg c3]
            by_cases c4 : (n = 32 * (k + 1) + 2 ∨ n = 32 * (k + 1) + 3) ∧ 0 ≤ i ∧ i < x
            · rw [if_pos c4, if_pos (by omega)]
            · rw [if_neg c4, if_neg (by omega)]
def C8L (k : Nat) (x : Int) (M : Mem) : Mem := fun n i => if n = k ∧ i = 0 then 0 else if (n = 32 * (k + 1) + 4 ∨ n = 32 * (k + 1) + 5) ∧ 0 ≤ i ∧ i < x then 0 else M n i
def CLC (k : Nat) (M : Mem) : Mem := C2L (k + 10) 3 (up (up (up (up (up (C8L k 8 M) k 6 0) k 7 0) k 13 2) k 14 0) k 15 0)
theorem clearC {k : Nat} {M : Mem} (hk : k < 20) : f_X8_clear k M = some (0, CLC k M) := by
  rw [← wpo_eq]
  unfold f_X8_clear f_X8_clear_L7
  rw [q_pf_e]
  refine qlm1_N (fun x M' => 0 ≤ x ∧ x ≤ 8 ∧ ∀ n i, M' n i = C8L k x M n i) (fun x _ => (8 - x).toNat) _ _ ⟨by omega, by omega, ?_⟩ (by omega) ?_
  · intro n i
    unfold up C8L
    by_cases c : n = k ∧ i = 0
    · rw [if_pos c, if_pos c]
    · rw [if_neg c, if_neg c, if_neg (by omega)]
  · intro x M' g ⟨h1, h2, h3⟩ ih
    unfold f_X8_clear_B7
    rw [w32_id (x := 8) (by omega), w32_id (x := x) (by omega)]
    refine wpo_ite (fun c => ?_) (fun c => ?_)
    · have e : M' = C8L k 8 M := by
        funext n i
        rw [h3, show x = 8 by omega]
      rw [q_pf_e, q_pf_e, q_pf_e, q_pf_e, q_pf_e, clear2C (by omega), q_call_e, e]
      exact wpo_some.mpr rfl
    · rw [q_as_ok (by omega), q_as_ok (by omega)]
      refine ih _ _ ⟨by omega, by omega, ?_⟩ (by omega)
      intro n i
      unfold up
      by_cases c1 : n = 32 * (k + 1) + 4 ∧ i = x
      · rw [if_pos c1]
        unfold C8L
        rw [if_neg (by omega), if_pos (by omega)]
      · rw [if_neg c1]
        by_cases c2 : n = 32 * (k + 1) + 5 ∧ i = x
        · rw [if_pos c2]
          unfold C8L
          rw [if_neg (by omega), if_pos (by omega)]
        · rw [if_neg c2, h3]
          unfold C8L
          by_cases c3 : n = k ∧ i = 0
          · rw [if_pos c3, if_pos c3]
          · rw [if_neg c3, if_neg c3]
            by_cases c4 : (n = 32 * (k + 1) + 4 ∨ n = 32 * (k + 1) + 5) ∧ 0 ≤ i ∧ i < x
            · rw [if_pos c4, if_pos (by omega)]
            · rw [if_neg c4, if_neg (by omega)]
/-- what the cleared memory holds -/
theorem CLC.is {k : Nat} {M : Mem} (hk : k = 2 ∨ k = 3) : (∀ i, (i = 0 ∨ i = 6 ∨ i = 7 ∨ i = 14 ∨ i = 15) → CLC k M k i = 0) ∧ CLC k M k 13 = 2 ∧ (∀ i, 0 ≤ i → i < 8 → CLC k M (32 * (k + 1) + 5) i = 0) ∧ (∀ i, (i = 5 ∨ i = 6) → CLC k M (k + 10) i = 0) ∧ (∀ i, 0 ≤ i → i < 3 → CLC k M (32 * (k + 11) + 2) i = 0 ∧ CLC k M (32 * (k + 11) + 3) i = 0) ∧ (∀ n, n ≠ k → n ≠ k + 10 → n ≠ 32 * (k + 1) + 4 → n ≠ 32 * (k + 1) + 5 → n ≠ 32 * (k + 11) + 2 → n ≠ 32 * (k + 11) + 3 → CLC k M n = M n) := by
  unfold CLC
  have e2 : ∀ (N : Mem) n i, n ≠ k + 10 → n ≠ 32 * (k + 11) + 2 → n ≠ 32 * (k + 11) + 3 → C2L (k + 10) 3 N n i = N n i := fun N n i a b c => by
    unfold C2L
    rw [if_neg (by omega), if_neg (by omega)]
  refine ⟨?_, ?_, ?_, ?_, ?_, ?_⟩
  · intro i hi
    rw [e2 _ _ _ (by omega) (by omega) (by omega)]
    unfold up
    by_cases c15 : i = 15
    · rw [if_pos ⟨rfl, c15⟩]
    · rw [if_neg (by omega)]
      by_cases c14 : i = 14
      · rw [if_pos ⟨rfl, c14⟩]
      · rw [if_neg (by omega), if_neg (by omega)]
        by_cases c7 : i = 7
        · rw [if_pos ⟨rfl, c7⟩]
        · rw [if_neg (by omega)]
          by_cases c6 : i = 6
          · rw [if_pos ⟨rfl, c6⟩]
          · rw [if_neg (by omega)]
            unfold C8L
            rw [if_pos (by omega)]
  · rw [e2 _ _ _ (by omega) (by omega) (by omega), up_nei (by omega), up_nei (by omega), up_same]
  · intro i a b
    rw [e2 _ _ _ (by omega) (by omega) (by omega), up_ne1 (by omega), up_ne1 (by omega), up_ne1 (by omega), up_ne1 (by omega), up_ne1 (by omega)]
    unfold C8L
    rw [if_neg (by omega), if_pos (by omega)]
  · intro i hi
    unfold C2L
    rw [if_pos ⟨rfl, hi⟩]
  · intro i a b
    unfold C2L
    exact ⟨by rw [if_neg (by omega), if_pos (by omega)], by rw [if_neg (by omega), if_pos (by omega)]⟩
  · intro n a b c d e f
    funext i
    rw [e2 _ _ _ b e f, up_ne1 a, up_ne1 a, up_ne1 a, up_ne1 a, up_ne1 a]
    unfold C8L
    rw [if_neg (by omega), if_neg (by omega)]
/-- the reference's -/
def R7 (x : Int) (M : Mem) : Mem := fun n i => if n = 35 ∧ 7 ≤ i ∧ i < 7 + x then (if i = 10 then 2 else 0) else M n i
def S3 (x : Int) (M : Mem) : Mem := fun n i => if (n = 47 ∨ n = 48) ∧ 3 ≤ i ∧ i < x then 0 else M n i
def tailM (M : Mem) : Res := q_call (f_X10_token (up (up (up (up M 0 19 0) 0 20 0) 0 30 0) 0 31 0)) fun _ M6 => f_X10_text_L126 q_N M6
theorem L76_succ {n : Nat} {x : Int} {M : Mem} : f_X10_text_L76 (n + 1) x M = f_X10_text_B76 x M (fun x N => f_X10_text_L76 n x N) := rfl
theorem L47_succ {n : Nat} {x : Int} {M : Mem} : f_X10_text_L47 (n + 1) x M = f_X10_text_B47 x M (fun x N => f_X10_text_L47 n x N) := rfl
theorem L76M {M : Mem} : ∀ (j n : Nat) (x : Int), x = 6 - j → 3 ≤ x → f_X10_text_L76 (n + j + 1) x (S3 x M) = tailM (S3 6 M)
  | 0, n, x, hx, h3 => by
    rw [show x = 6 by omega, show n + 0 + 1 = n + 1 by omega, L76_succ]
    unfold f_X10_text_B76 tailM
    rw [if_pos (show w32 6 ≤ w32 6 by omega), q_pf_e, q_pf_e, q_pf_e, q_pf_e]
  | j + 1, n, x, hx, h3 => by
    rw [show n + (j + 1) + 1 = (n + j + 1) + 1 by omega, L76_succ]
    unfold f_X10_text_B76
    have e : up (up (S3 x M) 47 x 0) 48 x 0 = S3 (x + 1) M := by
      funext n i
      unfold up
      by_cases c1 : n = 48 ∧ i = x
      · rw [if_pos c1]
        unfold S3
        rw [if_pos (by omega)]
      · rw [if_neg c1]
        by_cases c2 : n = 47 ∧ i = x
        · rw [if_pos c2]
          unfold S3
          rw [if_pos (by omega)]
        · rw [if_neg c2]
          unfold S3
          by_cases c3 : (n = 47 ∨ n = 48) ∧ 3 ≤ i ∧ i < x
          · rw [if_pos c3, if_pos (by omega)]
          · rw [if_neg c3, if_neg (by omega)]
    rw [w32_id (x := 6) (by omega), w32_id (x := x) (by omega), if_neg (by omega), q_as_ok (by omega), q_as_ok (by omega), e]
    exact L76M j n (x + 1) (by omega) (by omega)
theorem L47M {M : Mem} : ∀ (j n : Nat) (x : Int), x = 7 - j → 0 ≤ x → f_X10_text_L47 (n + j + 1) x (R7 x M) = f_X10_text_L76 q_N 3 (R7 7 M)
  | 0, n, x, hx, h3 => by
    rw [show x = 7 by omega, show n + 0 + 1 = n + 1 by omega, L47_succ]
    unfold f_X10_text_B47
    rw [if_pos (show w32 7 ≤ w32 7 by omega)]
  | j + 1, n, x, hx, h3 => by
    rw [show n + (j + 1) + 1 = (n + j + 1) + 1 by omega, L47_succ]
    unfold f_X10_text_B47 f_X10_text_J65
    have e : ∀ v : Int, v = (if x = 3 then 2 else 0) → up (R7 x M) 35 (7 + x) v = R7 (x + 1) M := by
      intro v hv
      funext n i
      unfold up
      by_cases c1 : n = 35 ∧ i = 7 + x
      · rw [if_pos c1]
        unfold R7
        rw [if_pos (by omega), hv]
        by_cases c2 : x = 3
        · rw [if_pos c2, if_pos (by omega)]
        · rw [if_neg c2, if_neg (by omega)]
      · rw [if_neg c1]
        unfold R7
        by_cases c3 : n = 35 ∧ 7 ≤ i ∧ i < 7 + x
        · rw [if_pos c3, if_pos (show n = 35 ∧ 7 ≤ i ∧ i < 7 + (x + 1) by omega)]
        · rw [if_neg c3, if_neg (show ¬ (n = 35 ∧ 7 ≤ i ∧ i < 7 + (x + 1)) by omega)]
    rw [w32_id (x := 7) (by omega), w32_id (x := x) (by omega), w32_id (x := 3) (by omega), if_neg (by omega), readsM (by omega), readsM (by omega), q_call_e, q_call_e]
    have ih := L47M (M := M) j n (x + 1) (by omega) (by omega)
    by_cases c : x = 3
    · rw [if_neg (fun z => z c), e 2 (by rw [if_pos c])]
      exact ih
    · rw [if_pos c, e 0 (by rw [if_neg c])]
      exact ih
