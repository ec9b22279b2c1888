/-- two runs side by side -/
def W2 {α β γ δ : Type} (o : Option α) (o' : Option β) (hF : γ → Option α) (hG : δ → Option β) (Q : γ → δ → Prop) : Prop := ∃ c d, o = hF c ∧ o' = hG d ∧ Q c d
theorem W2.ok {α β γ δ : Type} {o : Option α} {o' : Option β} {hF : γ → Option α} {hG : δ → Option β} {Q : γ → δ → Prop} (c : γ) (d : δ) (h1 : o = hF c) (h2 : o' = hG d) (h3 : Q c d) : W2 o o' hF hG Q := ⟨c, d, h1, h2, h3⟩
theorem lock {σ τ α β γ δ : Type} (F : Nat → σ → Option α) (G : Nat → τ → Option β) (hF : γ → Option α) (hG : δ → Option β) (Q : γ → δ → Prop) (I : σ → τ → Prop) (m : σ → τ → Nat) (hs : ∀ n n' s t, I s t → (∀ s' t', I s' t' → m s' t' < m s t → W2 (F n s') (G n' t') hF hG Q) → W2 (F (n + 1) s) (G (n' + 1) t) hF hG Q) : ∀ n n' s t, I s t → m s t < n → m s t < n' → W2 (F n s) (G n' t) hF hG Q
  | 0, _, _, _, _, h, _ => absurd h (Nat.not_lt_zero _)
  | _ + 1, 0, _, _, _, _, h => absurd h (Nat.not_lt_zero _)
  | n + 1, n' + 1, s, t, hi, h, h' => hs n n' s t hi (fun s' t' hi' hm => lock F G hF hG Q I m hs n n' s' t' hi' (Nat.lt_of_lt_of_le hm (Nat.le_of_lt_succ h)) (Nat.lt_of_lt_of_le hm (Nat.le_of_lt_succ h')))
def in64 (x : Int) : Prop := -9223372036854775808 ≤ x ∧ x < 9223372036854775808
def bd (x : Int) : Prop := -1000000000000 ≤ x ∧ x ≤ 1000000000000
theorem cmp_v {x y : Int} (hx : -9223372036854775808 ≤ x ∧ x < 9223372036854775808) (hy : -9223372036854775808 ≤ y ∧ y < 9223372036854775808) : w32 (q_cmp x y) = (if x < y then -1 else if x = y then 0 else 1) := by
  unfold q_cmp
  rw [w64_id hx, w64_id hy]
  split
  · decide
  · split <;> decide
theorem J349 {v : Int} {M : Mem} (hv : in64 v) : f_X2_joined_J349 v M = some (if -1000000000000 ≤ v ∧ v ≤ 1000000000000 then v else -9223372036854775808) := by
  unfold in64 at hv
  unfold f_X2_joined_J349
  rw [cmp_v hv (by omega), cmp_v hv (by omega)]
  repeat' split
  all_goals first
    | rfl
    | (exfalso; omega)
theorem J407 {v d : Int} {M : Mem} (hv : in64 v) (hd : 1 ≤ d ∧ d ≤ 64) (h : M 0 34 = d) : f_X10_works_J407 v M = some (if -1000000000000 ≤ v ∧ v ≤ 1000000000000 then 1 else 0, up M 65 (d - 1) v) := by
  unfold in64 at hv
  unfold f_X10_works_J407
  simp (disch := omega) only [w32_id, q_gf_e, q_gr_e, q_pf_e, q_pz_e, q_let_e, q_call_e, q_calp_e, q_al_ok, q_as_ok, q_nz_ok, up_same, up_nei, up_ne1, Int.toNat_natCast, reduceIte, Int.reduceEq, Int.reduceLT, Int.reduceLE, Int.reduceNeg, not_true_eq_false, not_false_eq_true, h]
  rw [cmp_v hv (by omega), cmp_v hv (by omega)]
  repeat' split
  all_goals first
    | rfl
    | (exfalso; omega)
def JW (tok val a b d : Int) (Mc Mm : Mem) : Prop := (∃ v, bd v ∧ f_X2_joined tok a b Mc = some v ∧ f_X10_works val Mm = some (1, up (up Mm 0 34 (d - 1)) 65 (d - 2) v)) ∨ (f_X2_joined tok a b Mc = some (-9223372036854775808) ∧ ∃ Mm', f_X10_works val Mm = some (0, Mm') ∧ (∀ n, n ≠ 65 → n ≠ 0 → Mm' n = Mm n) ∧ ∀ f, f ≠ 34 → Mm' 0 f = Mm 0 f)
theorem JW.of {tok val a b d v : Int} {Mc Mm : Mem} (hv : in64 v) (hd : 2 ≤ d ∧ d ≤ 64) (h1 : f_X2_joined tok a b Mc = f_X2_joined_J349 v Mc) (h2 : f_X10_works val Mm = f_X10_works_J407 v (up Mm 0 34 (d - 1))) : JW tok val a b d Mc Mm := by
  rw [J349 hv] at h1
  rw [J407 hv (d := d - 1) (by omega) (up_same _ _ _ _), show d - 1 - 1 = d - 2 by omega] at h2
  by_cases c : -1000000000000 ≤ v ∧ v ≤ 1000000000000
  · rw [if_pos c] at h1 h2
    exact .inl ⟨v, c, h1, h2⟩
  · rw [if_neg c] at h1 h2
    exact .inr ⟨h1, _, h2, fun n a b => by rw [up_ne1 a, up_ne1 b], fun f a => by rw [up_ne1 (by omega), up_nei a]⟩
theorem mulbd {A B : Int} (hA : 0 < A) (hB : 0 ≤ B) (h : B ≤ (1000000000000 : Int).tdiv A) : 0 ≤ A * B ∧ A * B ≤ 1000000000000 := by
  rw [Int.tdiv_eq_ediv_of_nonneg (by omega)] at h
  have h1 : A * B ≤ A * (1000000000000 / A) := Int.mul_le_mul_of_nonneg_left h (by omega)
  have h2 : A * (1000000000000 / A) ≤ 1000000000000 := Int.mul_ediv_self_le (by omega)
  exact ⟨Int.mul_nonneg (by omega) hB, by omega⟩
set_option maxHeartbeats 4000000 in
theorem joinW {tok val a b d : Int} {Mc Mm : Mem} (hk : (tok, val) ∈ TKS) (hn : val ≠ 260) (ha : bd a) (hb : bd b) (hd : 2 ≤ d ∧ d ≤ 64) (h34 : Mm 0 34 = d) (hb' : Mm 65 (d - 1) = b) (ha' : Mm 65 (d - 2) = a) : JW tok val a b d Mc Mm := by
  unfold bd at ha hb
  simp only [TKS, List.mem_cons, Prod.mk.injEq, List.not_mem_nil, or_false] at hk
  have key : ∀ v, in64 v → f_X2_joined tok a b Mc = f_X2_joined_J349 v Mc → f_X10_works val Mm = f_X10_works_J407 v (up Mm 0 34 (d - 1)) → JW tok val a b d Mc Mm := fun v hv h1 h2 => JW.of hv hd h1 h2
  rcases hk with ⟨rfl, rfl⟩ | ⟨rfl, rfl⟩ | ⟨rfl, rfl⟩ | ⟨rfl, rfl⟩ | ⟨rfl, rfl⟩ | ⟨rfl, rfl⟩ | ⟨rfl, rfl⟩ | ⟨rfl, rfl⟩ | ⟨rfl, rfl⟩ | ⟨rfl, rfl⟩ | ⟨rfl, rfl⟩ | ⟨rfl, rfl⟩ | ⟨rfl, rfl⟩
  · exact absurd rfl hn
  · refine key (if a ≠ 0 ∨ b ≠ 0 then 1 else 0) (by unfold in64; omega) ?_ ?_
    · unfold f_X2_joined
      simp (disch := omega) only [w32_id, q_gf_e, q_gr_e, q_pf_e, q_pz_e, q_let_e, q_call_e, q_calp_e, q_al_ok, q_as_ok, q_nz_ok, up_same, up_nei, up_ne1, Int.toNat_natCast, reduceIte, Int.reduceEq, Int.reduceLT, Int.reduceLE, Int.reduceNeg, not_true_eq_false, not_false_eq_true, cmp_v]
      repeat' split
      all_goals first
        | (exfalso; omega)
        | rfl
    · unfold f_X10_works
      simp (disch := omega) only [w32_id, q_gf_e, q_gr_e, q_pf_e, q_pz_e, q_let_e, q_call_e, q_calp_e, q_al_ok, q_as_ok, q_nz_ok, up_same, up_nei, up_ne1, Int.toNat_natCast, reduceIte, Int.reduceEq, Int.reduceLT, Int.reduceLE, Int.reduceNeg, not_true_eq_false, not_false_eq_true, cmp_v, h34, ha', hb']
      repeat' split
      all_goals first
        | (exfalso; omega)
        | rfl
  · refine key (if a ≠ 0 ∧ b ≠ 0 then 1 else 0) (by unfold in64; omega) ?_ ?_
    · unfold f_X2_joined
      simp (disch := omega) only [w32_id, q_gf_e, q_gr_e, q_pf_e, q_pz_e, q_let_e, q_call_e, q_calp_e, q_al_ok, q_as_ok, q_nz_ok, up_same, up_nei, up_ne1, Int.toNat_natCast, reduceIte, Int.reduceEq, Int.reduceLT, Int.reduceLE, Int.reduceNeg, not_true_eq_false, not_false_eq_true, cmp_v]
      repeat' split
      all_goals first
        | (exfalso; omega)
        | rfl
    · unfold f_X10_works
      simp (disch := omega) only [w32_id, q_gf_e, q_gr_e, q_pf_e, q_pz_e, q_let_e, q_call_e, q_calp_e, q_al_ok, q_as_ok, q_nz_ok, up_same, up_nei, up_ne1, Int.toNat_natCast, reduceIte, Int.reduceEq, Int.reduceLT, Int.reduceLE, Int.reduceNeg, not_true_eq_false, not_false_eq_true, cmp_v, h34, ha', hb']
      repeat' split
      all_goals first
        | (exfalso; omega)
        | rfl
  · refine key (if a < b then 1 else 0) (by unfold in64; omega) ?_ ?_
    · unfold f_X2_joined
      simp (disch := omega) only [w32_id, q_gf_e, q_gr_e, q_pf_e, q_pz_e, q_let_e, q_call_e, q_calp_e, q_al_ok, q_as_ok, q_nz_ok, up_same, up_nei, up_ne1, Int.toNat_natCast, reduceIte, Int.reduceEq, Int.reduceLT, Int.reduceLE, Int.reduceNeg, not_true_eq_false, not_false_eq_true, cmp_v]
      repeat' split
      all_goals first
        | (exfalso; omega)
        | rfl
    · unfold f_X10_works
      simp (disch := omega) only [w32_id, q_gf_e, q_gr_e, q_pf_e, q_pz_e, q_let_e, q_call_e, q_calp_e, q_al_ok, q_as_ok, q_nz_ok, up_same, up_nei, up_ne1, Int.toNat_natCast, reduceIte, Int.reduceEq, Int.reduceLT, Int.reduceLE, Int.reduceNeg, not_true_eq_false, not_false_eq_true, cmp_v, h34, ha', hb']
      repeat' split
      all_goals first
        | (exfalso; omega)
        | rfl
  · refine key (if a ≤ b then 1 else 0) (by unfold in64; omega) ?_ ?_
    · unfold f_X2_joined
      simp (disch := omega) only [w32_id, q_gf_e, q_gr_e, q_pf_e, q_pz_e, q_let_e, q_call_e, q_calp_e, q_al_ok, q_as_ok, q_nz_ok, up_same, up_nei, up_ne1, Int.toNat_natCast, reduceIte, Int.reduceEq, Int.reduceLT, Int.reduceLE, Int.reduceNeg, not_true_eq_false, not_false_eq_true, cmp_v]
      repeat' split
      all_goals first
        | (exfalso; omega)
        | rfl
    · unfold f_X10_works
      simp (disch := omega) only [w32_id, q_gf_e, q_gr_e, q_pf_e, q_pz_e, q_let_e, q_call_e, q_calp_e, q_al_ok, q_as_ok, q_nz_ok, up_same, up_nei, up_ne1, Int.toNat_natCast, reduceIte, Int.reduceEq, Int.reduceLT, Int.reduceLE, Int.reduceNeg, not_true_eq_false, not_false_eq_true, cmp_v, h34, ha', hb']
      repeat' split
      all_goals first
        | (exfalso; omega)
        | rfl
  · refine key (if a = b then 1 else 0) (by unfold in64; omega) ?_ ?_
    · unfold f_X2_joined
      simp (disch := omega) only [w32_id, q_gf_e, q_gr_e, q_pf_e, q_pz_e, q_let_e, q_call_e, q_calp_e, q_al_ok, q_as_ok, q_nz_ok, up_same, up_nei, up_ne1, Int.toNat_natCast, reduceIte, Int.reduceEq, Int.reduceLT, Int.reduceLE, Int.reduceNeg, not_true_eq_false, not_false_eq_true, cmp_v]
      repeat' split
      all_goals first
        | (exfalso; omega)
        | rfl
    · unfold f_X10_works
      simp (disch := omega) only [w32_id, q_gf_e, q_gr_e, q_pf_e, q_pz_e, q_let_e, q_call_e, q_calp_e, q_al_ok, q_as_ok, q_nz_ok, up_same, up_nei, up_ne1, Int.toNat_natCast, reduceIte, Int.reduceEq, Int.reduceLT, Int.reduceLE, Int.reduceNeg, not_true_eq_false, not_false_eq_true, cmp_v, h34, ha', hb']
      repeat' split
      all_goals first
        | (exfalso; omega)
        | rfl
  · refine key (if a ≠ b then 1 else 0) (by unfold in64; omega) ?_ ?_
    · unfold f_X2_joined
      simp (disch := omega) only [w32_id, q_gf_e, q_gr_e, q_pf_e, q_pz_e, q_let_e, q_call_e, q_calp_e, q_al_ok, q_as_ok, q_nz_ok, up_same, up_nei, up_ne1, Int.toNat_natCast, reduceIte, Int.reduceEq, Int.reduceLT, Int.reduceLE, Int.reduceNeg, not_true_eq_false, not_false_eq_true, cmp_v]
      repeat' split
      all_goals first
        | (exfalso; omega)
        | rfl
    · unfold f_X10_works
      simp (disch := omega) only [w32_id, q_gf_e, q_gr_e, q_pf_e, q_pz_e, q_let_e, q_call_e, q_calp_e, q_al_ok, q_as_ok, q_nz_ok, up_same, up_nei, up_ne1, Int.toNat_natCast, reduceIte, Int.reduceEq, Int.reduceLT, Int.reduceLE, Int.reduceNeg, not_true_eq_false, not_false_eq_true, cmp_v, h34, ha', hb']
      repeat' split
      all_goals first
        | (exfalso; omega)
        | rfl
  · refine key (if b ≤ a then 1 else 0) (by unfold in64; omega) ?_ ?_
    · unfold f_X2_joined
      simp (disch := omega) only [w32_id, q_gf_e, q_gr_e, q_pf_e, q_pz_e, q_let_e, q_call_e, q_calp_e, q_al_ok, q_as_ok, q_nz_ok, up_same, up_nei, up_ne1, Int.toNat_natCast, reduceIte, Int.reduceEq, Int.reduceLT, Int.reduceLE, Int.reduceNeg, not_true_eq_false, not_false_eq_true, cmp_v]
      repeat' split
      all_goals first
        | (exfalso; omega)
        | rfl
    · unfold f_X10_works
      simp (disch := omega) only [w32_id, q_gf_e, q_gr_e, q_pf_e, q_pz_e, q_let_e, q_call_e, q_calp_e, q_al_ok, q_as_ok, q_nz_ok, up_same, up_nei, up_ne1, Int.toNat_natCast, reduceIte, Int.reduceEq, Int.reduceLT, Int.reduceLE, Int.reduceNeg, not_true_eq_false, not_false_eq_true, cmp_v, h34, ha', hb']
      repeat' split
      all_goals first
        | (exfalso; omega)
        | rfl
  · refine key (if b < a then 1 else 0) (by unfold in64; omega) ?_ ?_
    · unfold f_X2_joined
      simp (disch := omega) only [w32_id, q_gf_e, q_gr_e, q_pf_e, q_pz_e, q_let_e, q_call_e, q_calp_e, q_al_ok, q_as_ok, q_nz_ok, up_same, up_nei, up_ne1, Int.toNat_natCast, reduceIte, Int.reduceEq, Int.reduceLT, Int.reduceLE, Int.reduceNeg, not_true_eq_false, not_false_eq_true, cmp_v]
      repeat' split
      all_goals first
        | (exfalso; omega)
        | rfl
    · unfold f_X10_works
      simp (disch := omega) only [w32_id, q_gf_e, q_gr_e, q_pf_e, q_pz_e, q_let_e, q_call_e, q_calp_e, q_al_ok, q_as_ok, q_nz_ok, up_same, up_nei, up_ne1, Int.toNat_natCast, reduceIte, Int.reduceEq, Int.reduceLT, Int.reduceLE, Int.reduceNeg, not_true_eq_false, not_false_eq_true, cmp_v, h34, ha', hb']
      repeat' split
      all_goals first
        | (exfalso; omega)
        | rfl
  · refine key (a + b) (by unfold in64; omega) ?_ ?_
    · unfold f_X2_joined
      simp (disch := omega) only [w32_id, q_gf_e, q_gr_e, q_pf_e, q_pz_e, q_let_e, q_call_e, q_calp_e, q_al_ok, q_as_ok, q_nz_ok, up_same, up_nei, up_ne1, Int.toNat_natCast, reduceIte, Int.reduceEq, Int.reduceLT, Int.reduceLE, Int.reduceNeg, not_true_eq_false, not_false_eq_true, cmp_v]
      repeat' split
      all_goals first
        | (exfalso; omega)
        | rfl
    · unfold f_X10_works
      simp (disch := omega) only [w32_id, q_gf_e, q_gr_e, q_pf_e, q_pz_e, q_let_e, q_call_e, q_calp_e, q_al_ok, q_as_ok, q_nz_ok, up_same, up_nei, up_ne1, Int.toNat_natCast, reduceIte, Int.reduceEq, Int.reduceLT, Int.reduceLE, Int.reduceNeg, not_true_eq_false, not_false_eq_true, cmp_v, h34, ha', hb']
      repeat' split
      all_goals first
        | (exfalso; omega)
        | rfl
  · refine key (a - b) (by unfold in64; omega) ?_ ?_
    · unfold f_X2_joined
      simp (disch := omega) only [w32_id, q_gf_e, q_gr_e, q_pf_e, q_pz_e, q_let_e, q_call_e, q_calp_e, q_al_ok, q_as_ok, q_nz_ok, up_same, up_nei, up_ne1, Int.toNat_natCast, reduceIte, Int.reduceEq, Int.reduceLT, Int.reduceLE, Int.reduceNeg, not_true_eq_false, not_false_eq_true, cmp_v]
      repeat' split
      all_goals first
        | (exfalso; omega)
        | rfl
    · unfold f_X10_works
      simp (disch := omega) only [w32_id, q_gf_e, q_gr_e, q_pf_e, q_pz_e, q_let_e, q_call_e, q_calp_e, q_al_ok, q_as_ok, q_nz_ok, up_same, up_nei, up_ne1, Int.toNat_natCast, reduceIte, Int.reduceEq, Int.reduceLT, Int.reduceLE, Int.reduceNeg, not_true_eq_false, not_false_eq_true, cmp_v, h34, ha', hb']
      repeat' split
      all_goals first
        | (exfalso; omega)
        | rfl
  · -- times
    have hA : ∃ A, A = (if a < 0 then -a else a) ∧ 0 ≤ A := ⟨_, rfl, by split <;> omega⟩
    have hB : ∃ B, B = (if b < 0 then -b else b) ∧ 0 ≤ B := ⟨_, rfl, by split <;> omega⟩
    obtain ⟨A, eA, A0⟩ := hA
    obtain ⟨B, eB, B0⟩ := hB
    have c1 : f_X2_joined 27 a b Mc = (if A = 0 then f_X2_joined_J349 (a * b) Mc else if B ≤ (1000000000000 : Int).tdiv A then f_X2_joined_J349 (a * b) Mc else some (-9223372036854775808)) := by
      have hq : A ≠ 0 → -9223372036854775808 ≤ (1000000000000 : Int).tdiv A ∧ (1000000000000 : Int).tdiv A < 9223372036854775808 := fun h => by
        have := Int.natAbs_tdiv_le_natAbs 1000000000000 A
        omega
      unfold f_X2_joined f_X2_joined_J284 f_X2_joined_J305 f_X2_joined_J319
      simp (disch := omega) only [w32_id, q_gf_e, q_gr_e, q_pf_e, q_pz_e, q_let_e, q_call_e, q_calp_e, q_al_ok, q_as_ok, q_nz_ok, up_same, up_nei, up_ne1, Int.toNat_natCast, reduceIte, Int.reduceEq, Int.reduceLT, Int.reduceLE, Int.reduceNeg, not_true_eq_false, not_false_eq_true, cmp_v]
      by_cases z : A = 0
      · have za : a = 0 := by revert eA; split <;> omega
        subst za
        simp [z]
      · have hq := hq z
        rw [if_neg z]
        by_cases na : a < 0
        · have e : A = -a := by rw [eA, if_pos na]
          subst e
          by_cases nb : b < 0
          · have e : B = -b := by rw [eB, if_pos nb]
            subst e
            simp (disch := omega) only [w32_id, q_gf_e, q_gr_e, q_pf_e, q_pz_e, q_let_e, q_call_e, q_calp_e, q_al_ok, q_as_ok, q_nz_ok, up_same, up_nei, up_ne1, Int.toNat_natCast, reduceIte, Int.reduceEq, Int.reduceLT, Int.reduceLE, Int.reduceNeg, not_true_eq_false, not_false_eq_true, cmp_v, w64_id, q_nzl_ok]
            repeat' split
            all_goals first
              | (exfalso; omega)
              | rfl
          · have e : B = b := by rw [eB, if_neg nb]
            subst e
            simp (disch := omega) only [w32_id, q_gf_e, q_gr_e, q_pf_e, q_pz_e, q_let_e, q_call_e, q_calp_e, q_al_ok, q_as_ok, q_nz_ok, up_same, up_nei, up_ne1, Int.toNat_natCast, reduceIte, Int.reduceEq, Int.reduceLT, Int.reduceLE, Int.reduceNeg, not_true_eq_false, not_false_eq_true, cmp_v, w64_id, q_nzl_ok]
            repeat' split
            all_goals first
              | (exfalso; omega)
              | rfl
        · have e : A = a := by rw [eA, if_neg na]
          subst e
          by_cases nb : b < 0
          · have e : B = -b := by rw [eB, if_pos nb]
            subst e
            simp (disch := omega) only [w32_id, q_gf_e, q_gr_e, q_pf_e, q_pz_e, q_let_e, q_call_e, q_calp_e, q_al_ok, q_as_ok, q_nz_ok, up_same, up_nei, up_ne1, Int.toNat_natCast, reduceIte, Int.reduceEq, Int.reduceLT, Int.reduceLE, Int.reduceNeg, not_true_eq_false, not_false_eq_true, cmp_v, w64_id, q_nzl_ok]
            repeat' split
            all_goals first
              | (exfalso; omega)
              | rfl
          · have e : B = b := by rw [eB, if_neg nb]
            subst e
            simp (disch := omega) only [w32_id, q_gf_e, q_gr_e, q_pf_e, q_pz_e, q_let_e, q_call_e, q_calp_e, q_al_ok, q_as_ok, q_nz_ok, up_same, up_nei, up_ne1, Int.toNat_natCast, reduceIte, Int.reduceEq, Int.reduceLT, Int.reduceLE, Int.reduceNeg, not_true_eq_false, not_false_eq_true, cmp_v, w64_id, q_nzl_ok]
            repeat' split
            all_goals first
              | (exfalso; omega)
              | rfl
    have c2 : f_X10_works 42 Mm = (if A = 0 then f_X10_works_J407 (a * b) (up Mm 0 34 (d - 1)) else if B ≤ (1000000000000 : Int).tdiv A then f_X10_works_J407 (a * b) (up Mm 0 34 (d - 1)) else some (0, up Mm 0 34 (d - 1))) := by
      have hq : A ≠ 0 → -9223372036854775808 ≤ (1000000000000 : Int).tdiv A ∧ (1000000000000 : Int).tdiv A < 9223372036854775808 := fun h => by
        have := Int.natAbs_tdiv_le_natAbs 1000000000000 A
        omega
      have qa : q_absl a = A := by unfold q_absl; rw [w64_id (by omega), eA]; repeat' split
                                   all_goals omega
      have qb : q_absl b = B := by unfold q_absl; rw [w64_id (by omega), eB]; repeat' split
                                   all_goals omega
      have rA : A ≤ 1000000000000 := by rw [eA]; split <;> omega
      have rB : B ≤ 1000000000000 := by rw [eB]; split <;> omega
      unfold f_X10_works f_X10_works_J212
      simp (disch := omega) only [w32_id, q_gf_e, q_gr_e, q_pf_e, q_pz_e, q_let_e, q_call_e, q_calp_e, q_al_ok, q_as_ok, q_nz_ok, up_same, up_nei, up_ne1, Int.toNat_natCast, reduceIte, Int.reduceEq, Int.reduceLT, Int.reduceLE, Int.reduceNeg, not_true_eq_false, not_false_eq_true, cmp_v, h34, ha', hb', qa, qb]
      by_cases z : A = 0
      · have za : a = 0 := by revert eA; split <;> omega
        subst za
        simp [z]
      · have hq := hq z
        have za : a ≠ 0 := by intro h; apply z; rw [eA, h]; rfl
        rw [if_neg z]
        simp (disch := omega) only [w32_id, q_gf_e, q_gr_e, q_pf_e, q_pz_e, q_let_e, q_call_e, q_calp_e, q_al_ok, q_as_ok, q_nz_ok, up_same, up_nei, up_ne1, Int.toNat_natCast, reduceIte, Int.reduceEq, Int.reduceLT, Int.reduceLE, Int.reduceNeg, not_true_eq_false, not_false_eq_true, cmp_v, w64_id, q_nzl_ok]
        repeat' split
        all_goals first
          | (exfalso; omega)
          | rfl
    by_cases z : A = 0
    · have za : a = 0 := by revert eA; split <;> omega
      rw [if_pos z] at c1 c2
      refine key _ ?_ c1 c2
      rw [za, Int.zero_mul]; unfold in64; omega
    · rw [if_neg z] at c1 c2
      by_cases c : B ≤ (1000000000000 : Int).tdiv A
      · rw [if_pos c] at c1 c2
        refine key _ ?_ c1 c2
        have h := mulbd (by omega) B0 c
        have e : a * b = A * B ∨ a * b = -(A * B) := by
          rw [eA, eB]
          split <;> split
          · left; rw [Int.neg_mul_neg]
          · right; rw [Int.neg_mul, Int.neg_neg]
          · right; rw [Int.mul_neg, Int.neg_neg]
          · left; rfl
        unfold in64
        omega
      · rw [if_neg c] at c1 c2
        exact .inr ⟨c1, _, c2, fun n a b => up_ne1 b, fun f a => up_nei a⟩
  · -- over
    by_cases z : b = 0
    · subst z
      refine .inr ⟨?_, up Mm 0 34 (d - 1), ?_, fun n a b => up_ne1 b, fun f a => up_nei a⟩
      · unfold f_X2_joined
        simp (disch := omega) only [w32_id, q_gf_e, q_gr_e, q_pf_e, q_pz_e, q_let_e, q_call_e, q_calp_e, q_al_ok, q_as_ok, q_nz_ok, up_same, up_nei, up_ne1, Int.toNat_natCast, reduceIte, Int.reduceEq, Int.reduceLT, Int.reduceLE, Int.reduceNeg, not_true_eq_false, not_false_eq_true, cmp_v]
      · unfold f_X10_works
        simp (disch := omega) only [w32_id, q_gf_e, q_gr_e, q_pf_e, q_pz_e, q_let_e, q_call_e, q_calp_e, q_al_ok, q_as_ok, q_nz_ok, up_same, up_nei, up_ne1, Int.toNat_natCast, reduceIte, Int.reduceEq, Int.reduceLT, Int.reduceLE, Int.reduceNeg, not_true_eq_false, not_false_eq_true, cmp_v, h34, ha', hb']
    · have hq : -1000000000000 ≤ a.tdiv b ∧ a.tdiv b ≤ 1000000000000 := by
        have := Int.natAbs_tdiv_le_natAbs a b
        omega
      refine key (a.tdiv b) (by unfold in64; omega) ?_ ?_
      · unfold f_X2_joined
        simp (disch := omega) only [w32_id, q_gf_e, q_gr_e, q_pf_e, q_pz_e, q_let_e, q_call_e, q_calp_e, q_al_ok, q_as_ok, q_nz_ok, up_same, up_nei, up_ne1, Int.toNat_natCast, reduceIte, Int.reduceEq, Int.reduceLT, Int.reduceLE, Int.reduceNeg, not_true_eq_false, not_false_eq_true, cmp_v, w64_id, q_nzl_ok]
        repeat' split
        all_goals first
          | (exfalso; omega)
          | rfl
      · unfold f_X10_works
        simp (disch := omega) only [w32_id, q_gf_e, q_gr_e, q_pf_e, q_pz_e, q_let_e, q_call_e, q_calp_e, q_al_ok, q_as_ok, q_nz_ok, up_same, up_nei, up_ne1, Int.toNat_natCast, reduceIte, Int.reduceEq, Int.reduceLT, Int.reduceLE, Int.reduceNeg, not_true_eq_false, not_false_eq_true, cmp_v, h34, ha', hb', w64_id, q_nzl_ok]
        repeat' split
        all_goals first
          | (exfalso; omega)
          | rfl
