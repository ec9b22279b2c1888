theorem dryT : ∀ a : Fin 101, ∀ n : Fin 7, (a.val / Nat.gcd 100 a.val) ^ n.val = a.val ^ n.val / Nat.gcd (a.val ^ n.val) (100 ^ n.val) ∧ (100 / Nat.gcd 100 a.val) ^ n.val = 100 ^ n.val / Nat.gcd (a.val ^ n.val) (100 ^ n.val) := by decide +kernel
theorem gcdC {a : Nat} {M : Mem} (ha : a ≤ 100) : f_X9_commonDivisor a 100 M = some ((Nat.gcd 100 a : Nat) : Int) := by
  rw [← wpo_eq]
  unfold f_X9_commonDivisor f_X9_commonDivisor_L7
  refine qlp3_N (fun x y i => 0 ≤ i ∧ i ≤ 100 ∧ ∃ u v : Nat, x = u ∧ y = v ∧ u ≤ 100 ∧ (v : Int) + i ≤ 100 ∧ Nat.gcd u v = Nat.gcd 100 a) (fun _ _ i => (100 - i).toNat) _ _ _ ⟨by omega, by omega, 100, a, rfl, rfl, by omega, by omega, rfl⟩ (by omega) ?_
  intro x y i g ⟨i1, i2, u, v, e1, e2, i3, i4, i5⟩ ih
  subst e1 e2
  unfold f_X9_commonDivisor_B7
  (try simp (disch := omega) only [w32_id, q_gf_e, q_gr_e, q_pf_e, q_pz_e, q_let_e, q_call_e, q_calp_e, q_al_ok, q_as_ok, q_nz_ok, up_same, up_nei, up_ne1, Int.toNat_natCast, reduceIte, Int.reduceEq, Int.reduceLT, Int.reduceLE, Int.reduceNeg, not_true_eq_false, not_false_eq_true])
  refine wpo_ite (fun c => wpo_some.mpr ?_) (fun c => ?_)
  · have hv : v = 0 := by omega
    subst hv
    rw [← i5, Nat.gcd_zero_right]
  · refine wpo_ite (fun c' => wpo_some.mpr ?_) (fun c' => ?_)
    · have hv : v = 0 := by omega
      subst hv
      rw [← i5, Nat.gcd_zero_right]
    · (try simp (disch := omega) only [w32_id, q_gf_e, q_gr_e, q_pf_e, q_pz_e, q_let_e, q_call_e, q_calp_e, q_al_ok, q_as_ok, q_nz_ok, up_same, up_nei, up_ne1, Int.toNat_natCast, reduceIte, Int.reduceEq, Int.reduceLT, Int.reduceLE, Int.reduceNeg, not_true_eq_false, not_false_eq_true])
      have hv : 0 < v := by omega
      have hm : u % v < v := Nat.mod_lt _ hv
      have et : (u : Int).tmod v = ((u % v : Nat) : Int) := rfl
      rw [et]
      refine ih _ _ _ ⟨by omega, by omega, v, u % v, rfl, rfl, by omega, by omega, ?_⟩ (by omega)
      rw [← i5, Nat.gcd_comm u v, Nat.gcd_rec v u, Nat.gcd_comm]
theorem gcdM {M : Mem} : ∀ (n : Nat) (x y : Nat), y ≤ x → x ≤ 1000000000000 → x * y + 1 ≤ 2 ^ n → f_X10_common_L6 M (n + 1) x y = some ((Nat.gcd x y : Nat) : Int)
  | 0, x, y, h, hx, hp => by
    show f_X10_common_B6 M x y _ = _
    have h0 : x * y = 0 := by omega
    have hy : y = 0 := by
      rcases Nat.mul_eq_zero.mp h0 with e | e
      · omega
      · exact e
    subst hy
    unfold f_X10_common_B6
    rw [cmp_v (by omega) (by omega)]
    simp
  | n + 1, x, y, h, hx, hp => by
    show f_X10_common_B6 M x y (fun a b => f_X10_common_L6 M (n + 1) a b) = _
    unfold f_X10_common_B6
    rw [cmp_v (by omega) (by omega)]
    by_cases hy : y = 0
    · subst hy; simp
    · have hc : ¬ (if (y : Int) < 0 then (-1 : Int) else if (y : Int) = 0 then 0 else 1) = 0 := by
        rw [if_neg (by omega), if_neg (by omega)]; omega
      rw [if_neg hc, q_nzl_ok (by omega), w64_id (by omega), w64_id (by omega)]
      have et : (x : Int).tmod y = ((x % y : Nat) : Int) := rfl
      have hm : x % y < y := Nat.mod_lt _ (by omega)
      have hd := Nat.mod_add_div x y
      have hq : 1 ≤ x / y := (Nat.one_le_div_iff (by omega)).mpr h
      have hx2 : 2 * (x % y) < x := by
        have : y * 1 ≤ y * (x / y) := Nat.mul_le_mul_left y hq
        omega
      have hp2 : y * (x % y) + 1 ≤ 2 ^ n := by
        have e1 : 2 * (y * (x % y)) + y ≤ x * y := by
          have : (2 * (x % y) + 1) * y ≤ x * y := Nat.mul_le_mul_right y (by omega)
          rw [Nat.add_mul, Nat.one_mul, Nat.mul_assoc, Nat.mul_comm (x % y) y] at this
          exact this
        have e2 : 2 ^ (n + 1) = 2 * 2 ^ n := by rw [Nat.pow_succ, Nat.mul_comm]
        omega
      rw [et]
      have := gcdM (M := M) n y (x % y) (by omega) (by omega) hp2
      show f_X10_common_L6 M (n + 1) y ((x % y : Nat) : Int) = _
      rw [this]
      congr 2
      rw [Nat.gcd_comm x y, Nat.gcd_rec y x, Nat.gcd_comm]
theorem gcdM2 {x y : Nat} {M : Mem} (hx : x ≤ 1000000000000) (hy : y ≤ 1000000000000) : f_X10_common x y M = some ((Nat.gcd x y : Nat) : Int) := by
  unfold f_X10_common
  have big : ∀ m : Nat, 90 ≤ m → ∀ u v : Nat, u ≤ 1000000000000 → v ≤ 1000000000000 → u * v + 1 ≤ 2 ^ m := by
    intro m hm u v hu hv
    have h1 : u * v ≤ 1000000000000 * 1000000000000 := Nat.mul_le_mul hu hv
    have h2 : 2 ^ 90 ≤ 2 ^ m := Nat.pow_le_pow_right (by omega) hm
    have h3 : 1000000000000 * 1000000000000 + 1 ≤ 2 ^ 90 := by decide
    omega
  have key : ∀ m : Nat, 91 ≤ m → f_X10_common_L6 M (m + 1) x y = some ((Nat.gcd x y : Nat) : Int) := by
    intro m hm
    by_cases c : y ≤ x
    · exact gcdM m x y c hx (big m (by omega) x y hx hy)
    · obtain ⟨m', rfl⟩ : ∃ m', m = m' + 1 := ⟨m - 1, by omega⟩
      show f_X10_common_B6 M x y (fun a b => f_X10_common_L6 M (m' + 1) a b) = _
      unfold f_X10_common_B6
      rw [cmp_v (by omega) (by omega)]
      have hc : ¬ (if (y : Int) < 0 then (-1 : Int) else if (y : Int) = 0 then 0 else 1) = 0 := by
        rw [if_neg (by omega), if_neg (by omega)]; omega
      rw [if_neg hc, q_nzl_ok (by omega), w64_id (by omega), w64_id (by omega)]
      have et : (x : Int).tmod y = ((x % y : Nat) : Int) := rfl
      rw [et, Nat.mod_eq_of_lt (by omega)]
      show f_X10_common_L6 M (m' + 1) y x = _
      rw [gcdM m' y x (by omega) hy (big m' (by omega) y x hy hx), Nat.gcd_comm]
  exact key 99999 (by omega)
theorem powC {n p : Nat} {M : Mem} (hn : n ≤ 6) (hp : p ≤ 100) : f_X9_dry_L77 n p M q_N 1 0 = some ((p ^ n : Nat) : Int) := by
  rw [← wpo_eq]
  unfold f_X9_dry_L77
  refine qlp2_N (fun a i => ∃ k : Nat, i = k ∧ k ≤ n ∧ a = ((p ^ k : Nat) : Int)) (fun _ i => (6 - i).toNat) _ _ ⟨0, rfl, by omega, rfl⟩ (by omega) ?_
  intro a i g ⟨k, e1, e2, e3⟩ ih
  subst e1
  unfold f_X9_dry_B77
  (try simp (disch := omega) only [w32_id, q_gf_e, q_gr_e, q_pf_e, q_pz_e, q_let_e, q_call_e, q_calp_e, q_al_ok, q_as_ok, q_nz_ok, up_same, up_nei, up_ne1, Int.toNat_natCast, reduceIte, Int.reduceEq, Int.reduceLT, Int.reduceLE, Int.reduceNeg, not_true_eq_false, not_false_eq_true])
  refine wpo_ite (fun c => wpo_some.mpr ?_) (fun c => ?_)
  · rw [e3, show k = n by omega]
  · refine ih _ _ ⟨k + 1, by omega, by omega, ?_⟩ (by omega)
    rw [e3, Nat.pow_succ]
    norm_cast
theorem o_dry : rs_dry Rel := by
  intro Mc Mm a0 a1 hR h0 h1
  obtain ⟨t, hr⟩ := hR
  have hr := hr.thr (v := 0)
  show PM Mc _ _
  unfold f_X9_dry f_X10_dry
  rw [q_pf_e]
  generalize up Mm 0 0 0 = N at hr ⊢
  have hR : Rel Mc N := ⟨t, hr⟩
  have h03 := hr.1.1
  have hRn := hr.2.1.2.2.2.2.1
  unfold in32 at h0 h1
  (try simp (disch := omega) only [w32_id, q_gf_e, q_gr_e, q_pf_e, q_pz_e, q_let_e, q_call_e, q_calp_e, q_al_ok, q_as_ok, q_nz_ok, up_same, up_nei, up_ne1, Int.toNat_natCast, reduceIte, Int.reduceEq, Int.reduceLT, Int.reduceLE, Int.reduceNeg, not_true_eq_false, not_false_eq_true])
  by_cases c1 : a0 < 0
  · rw [if_pos c1, if_pos c1]; exact PM.ok rfl hR
  rw [if_neg c1, if_neg c1]
  by_cases c2 : 6 < a0
  · rw [if_pos c2, if_pos c2]; exact PM.ok rfl hR
  rw [if_neg c2, if_neg c2]
  by_cases c3 : a1 < 0
  · rw [if_pos c3, if_pos c3]; exact PM.ok rfl hR
  rw [if_neg c3, if_neg c3]
  by_cases c4 : a1 ≤ 1
  rotate_left
  · rw [if_neg c4, if_neg c4]; exact PM.ok rfl hR
  rw [if_pos c4, if_pos c4]
  obtain ⟨a, ea⟩ : ∃ a : Nat, 100 - N 35 4 = a := ⟨(100 - N 35 4).toNat, by omega⟩
  obtain ⟨n, en⟩ : ∃ n : Nat, a0 = n := ⟨a0.toNat, by omega⟩
  have ha : a ≤ 100 := by omega
  have hn : n ≤ 6 := by omega
  have hg : 1 ≤ Nat.gcd 100 a ∧ Nat.gcd 100 a ≤ 100 := ⟨Nat.gcd_pos_of_pos_left _ (by omega), Nat.gcd_le_left _ (by omega)⟩
  have hT := dryT ⟨a, by omega⟩ ⟨n, by omega⟩
  simp only at hT
  have pb : ∀ p : Nat, p ≤ 100 → p ^ n ≤ 1000000000000 := by
    intro p hp
    have h1 : p ^ n ≤ 100 ^ n := Nat.pow_le_pow_left hp n
    have h2 : 100 ^ n ≤ 100 ^ 6 := Nat.pow_le_pow_right (by omega) hn
    have h3 : (100 : Nat) ^ 6 = 1000000000000 := by decide
    omega
  have h100 : 1 ≤ 100 ^ n := Nat.one_le_pow _ _ (by omega)
  have hG : 1 ≤ Nat.gcd (a ^ n) (100 ^ n) ∧ Nat.gcd (a ^ n) (100 ^ n) ≤ 1000000000000 := ⟨Nat.gcd_pos_of_pos_right _ (by omega), Nat.le_trans (Nat.gcd_le_right _ (by omega)) (pb 100 (by omega))⟩
  have hm : f_X10_dry_L36 a0 a1 N q_N 1 1 0 = some (if a1 = 0 then ((a ^ n / Nat.gcd (a ^ n) (100 ^ n) : Nat) : Int) else ((100 ^ n / Nat.gcd (a ^ n) (100 ^ n) : Nat) : Int), N) := by
    rw [← wpo_eq]
    unfold f_X10_dry_L36
    refine qlp3_N (fun x y i => ∃ k : Nat, i = k ∧ k ≤ n ∧ x = ((a ^ k : Nat) : Int) ∧ y = ((100 ^ k : Nat) : Int)) (fun _ _ i => (6 - i).toNat) _ _ _ ⟨0, rfl, by omega, rfl, rfl⟩ (by omega) ?_
    intro x y i g ⟨k, e1, e2, e3, e4⟩ ih
    subst e1
    unfold f_X10_dry_B36
    (try simp (disch := omega) only [w32_id, q_gf_e, q_gr_e, q_pf_e, q_pz_e, q_let_e, q_call_e, q_calp_e, q_al_ok, q_as_ok, q_nz_ok, up_same, up_nei, up_ne1, Int.toNat_natCast, reduceIte, Int.reduceEq, Int.reduceLT, Int.reduceLE, Int.reduceNeg, not_true_eq_false, not_false_eq_true])
    refine wpo_ite (fun c => ?_) (fun c => ?_)
    · have ek : k = n := by omega
      subst ek
      rw [e3, e4, gcdM2 (pb a ha) (pb 100 (by omega))]
      have p1 := pb a ha
      have p2 := pb 100 (by omega)
      clear hT pb ih
      generalize a ^ k = A at *
      generalize 100 ^ k = B at *
      generalize Nat.gcd A B = G at *
      simp (disch := omega) only [w32_id, q_gf_e, q_gr_e, q_pf_e, q_pz_e, q_let_e, q_call_e, q_calp_e, q_al_ok, q_as_ok, q_nz_ok, up_same, up_nei, up_ne1, Int.toNat_natCast, reduceIte, Int.reduceEq, Int.reduceLT, Int.reduceLE, Int.reduceNeg, not_true_eq_false, not_false_eq_true, w64_id, q_nzl_ok]
      refine wpo_ite (fun c5 => wpo_some.mpr ?_) (fun c5 => wpo_some.mpr ?_)
      · rw [if_neg c5]; rfl
      · rw [if_pos (by omega)]; rfl
    · refine ih _ _ _ ⟨k + 1, by omega, by omega, ?_, ?_⟩ (by omega)
      · rw [e3, ea, Nat.pow_succ]; norm_cast
      · rw [e4, Nat.pow_succ]; norm_cast
  have hgc := gcdC (M := Mc) ha
  have q1 : (a : Int).tdiv (Nat.gcd 100 a : Nat) = ((a / Nat.gcd 100 a : Nat) : Int) := rfl
  have q2 : (100 : Int).tdiv (Nat.gcd 100 a : Nat) = ((100 / Nat.gcd 100 a : Nat) : Int) := rfl
  have l1 : a / Nat.gcd 100 a ≤ 100 := Nat.le_trans (Nat.div_le_self _ _) ha
  have l2 : 100 / Nat.gcd 100 a ≤ 100 := Nat.div_le_self _ _
  rw [hm]
  unfold f_X9_dry_J67
  simp (disch := omega) only [w32_id, q_gf_e, q_gr_e, q_pf_e, q_pz_e, q_let_e, q_call_e, q_calp_e, q_al_ok, q_as_ok, q_nz_ok, up_same, up_nei, up_ne1, Int.toNat_natCast, reduceIte, Int.reduceEq, Int.reduceLT, Int.reduceLE, Int.reduceNeg, not_true_eq_false, not_false_eq_true, h03, hRn.1, ea, hgc]
  rw [if_pos (by omega)]
  by_cases c5 : a1 = 0
  · rw [if_neg (fun h => h c5), if_pos c5]
    simp (disch := omega) only [w32_id, q_gf_e, q_gr_e, q_pf_e, q_pz_e, q_let_e, q_call_e, q_calp_e, q_al_ok, q_as_ok, q_nz_ok, up_same, up_nei, up_ne1, Int.toNat_natCast, reduceIte, Int.reduceEq, Int.reduceLT, Int.reduceLE, Int.reduceNeg, not_true_eq_false, not_false_eq_true, q1, en, powC hn l1]
    exact PM.ok (by rw [hT.1]) hR
  · rw [if_pos c5, if_neg c5]
    simp (disch := omega) only [w32_id, q_gf_e, q_gr_e, q_pf_e, q_pz_e, q_let_e, q_call_e, q_calp_e, q_al_ok, q_as_ok, q_nz_ok, up_same, up_nei, up_ne1, Int.toNat_natCast, reduceIte, Int.reduceEq, Int.reduceLT, Int.reduceLE, Int.reduceNeg, not_true_eq_false, not_false_eq_true, q2, en, powC hn l2]
    exact PM.ok (by rw [hT.2]) hR
