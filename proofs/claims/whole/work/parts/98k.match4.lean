theorem o_match : rs_match Rel := by
  intro Mc Mm a0 hR h0
  obtain ⟨t, hr⟩ := hR
  have hr := hr.thr (v := 0)
  show PW _ _
  unfold f_X9_match f_X10_match
  rw [q_pf_e]
  generalize up Mm 0 0 0 = N at hr ⊢
  have hR : Rel Mc N := ⟨t, hr⟩
  have hT := hr.2.1
  have hS := hT.2.1
  have hBB := hT.2.2.1
  have h47 := hr.2.2.2.2.2.2.2.1
  unfold in32 at h0
  (try simp (disch := omega) only [w32_id, q_gf_e, q_gr_e, q_pf_e, q_pz_e, q_let_e, q_call_e, q_calp_e, q_al_ok, q_as_ok, q_nz_ok, up_same, up_nei, up_ne1, Int.toNat_natCast, reduceIte, Int.reduceEq, Int.reduceLT, Int.reduceLE, Int.reduceNeg, not_true_eq_false, not_false_eq_true])
  by_cases c1 : a0 < 0
  · rw [if_pos c1, if_pos c1]; exact PW.ok rfl hR
  rw [if_neg c1, if_neg c1]
  by_cases c2 : a0 ≤ 4
  rotate_left
  · rw [if_neg c2, if_neg c2]; exact PW.ok rfl hR
  rw [if_pos c2, if_pos c2]
  obtain ⟨B, hBN⟩ : ∃ B : Nat, N 35 1 = B := ⟨(N 35 1).toNat, by omega⟩
  have hB4 : B ≤ 4 := by omega
  obtain ⟨m, M', c, b1, b2, b3, b4, b5, b6⟩ := bestC hr hBN
  have hkn : ∀ p, 0 ≤ p → p < N 35 0 → 0 ≤ N 38 p ∧ N 38 p ≤ 99 := fun p a b => (hT.2.2.2.2.2.2.2.1 p a b).2.2.1.2
  have s0 : SM2 N (up N 0 57 (-1)) := ⟨fun n a _ _ _ _ => up_ne1 a, fun f _ _ _ a => up_nei a⟩
  have ms0 : MS N B (0 * 9 ^ (B - 0)) (up N 0 57 (-1)) := by
    refine ⟨s0, by rw [up_same]; omega, 0, ?_, fun h => by rw [up_same] at h; omega⟩
    rw [up_same, Nat.zero_mul]
    exact .inl ⟨rfl, fun c' h => by omega⟩
  obtain ⟨P', d1, d2, -⟩ := dfsM (nowMR0 hr) h47 hBN hkn q_D 0 0 0 0 (up N 0 57 (-1)) (by omega) (by show B - 0 < 200; omega) ms0 ⟨fun b' h => by omega, fun b1 b2 _ h => by omega⟩ (fun b' h => by omega) (fun dd a b => ⟨fun h => by rw [Bt_0] at h; exact absurd h (by decide), fun ⟨b', h, _⟩ => by omega⟩) rfl
  have d1 : f_X10_matches 0 0 0 (up N 0 57 (-1)) = some (0, P') := d1
  have e9 : (0 + 1) * 9 ^ (B - 0) = 9 ^ B := by rw [Nat.zero_add, Nat.one_mul, Nat.sub_zero]
  rw [e9] at d2
  obtain ⟨x1, x2, c', x3, x4⟩ := d2
  obtain ⟨u1, u2⟩ := b5.uniq x3
  have u2 := u2 b3
  subst u2
  have x4 := x4 (by omega)
  have fm : FM N P' := x1.fm
  have hr' := hr.frm b2 fm
  have hR' : Rel M' P' := ⟨t, hr'⟩
  have m03 : M' 0 3 = t := hr'.1.1
  have p35 : P' 35 = N 35 := fm.1 35 (by omega)
  have mt7 : M' t 7 = N 35 1 := by rw [hr'.2.1.2.2.1.1, p35]
  rw [b1, d1]
  simp (disch := omega) only [w32_id, q_gf_e, q_gr_e, q_pf_e, q_pz_e, q_let_e, q_call_e, q_calp_e, q_al_ok, q_as_ok, q_nz_ok, up_same, up_nei, up_ne1, Int.toNat_natCast, reduceIte, Int.reduceEq, Int.reduceLT, Int.reduceLE, Int.reduceNeg, not_true_eq_false, not_false_eq_true, m03, mt7, p35]
  by_cases c4 : a0 = 4
  · have n4 : ¬ ¬ a0 = 4 := fun h => h c4
    rw [if_neg n4, if_neg n4]
    exact PW.ok u1 hR'
  · rw [if_pos c4, if_pos c4]
    by_cases c5 : N 35 1 ≤ a0
    · rw [if_pos c5, if_pos c5]; exact PW.ok rfl hR'
    · rw [if_neg c5, if_neg c5]
      obtain ⟨b, hb⟩ : ∃ b : Nat, a0 = b := ⟨a0.toNat, by omega⟩
      have e45 := b6 b (by omega)
      have e88 := x4 b (by omega)
      have d9 : DG 9 B c b < 9 := Nat.mod_lt _ (by omega)
      rw [hb] at *
      simp (disch := omega) only [w32_id, q_gf_e, q_gr_e, q_pf_e, q_pz_e, q_let_e, q_call_e, q_calp_e, q_al_ok, q_as_ok, q_nz_ok, up_same, up_nei, up_ne1, Int.toNat_natCast, reduceIte, Int.reduceEq, Int.reduceLT, Int.reduceLE, Int.reduceNeg, not_true_eq_false, not_false_eq_true, e45, e88]
      unfold dec
      by_cases c8 : DG 9 B c b = 8
      · rw [if_pos (by omega), if_pos c8]; exact PW.ok rfl hR'
      · rw [if_neg (by omega), if_neg c8]; exact PW.ok rfl hR'
