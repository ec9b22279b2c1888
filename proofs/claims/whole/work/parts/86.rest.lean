theorem areTwoM {t : Nat} {a b : Int} {Mc N : Mem} (hr : RelT t Mc N) (ha : in32 a) (hb : in32 b) : f_X10_areTwo a b N = some (if (0 ≤ a ∧ a < N 35 0) ∧ (0 ≤ b ∧ b < N 35 0) ∧ a ≠ b then 1 else 0) := by
  have hS := hr.2.1.2.1
  have e1 := isSoulM (M := N) (a := a) (by omega) ha
  have e2 := isSoulM (M := N) (a := b) (by omega) hb
  unfold in32 at ha hb
  unfold f_X10_areTwo
  rw [e1, e2]
  by_cases c1 : 0 ≤ a ∧ a < N 35 0
  · by_cases c2 : 0 ≤ b ∧ b < N 35 0
    · rw [if_pos c1, if_pos c2]
      (try simp (disch := omega) only [w32_id, q_gf_e, q_gr_e, q_pf_e, q_pz_e, q_let_e, q_call_e, q_calp_e, q_al_ok, q_as_ok, q_nz_ok, up_same, up_nei, up_ne1, Int.toNat_natCast, reduceIte, Int.reduceEq, Int.reduceLT, Int.reduceLE, Int.reduceNeg, not_true_eq_false, not_false_eq_true])
      by_cases c3 : a = b
      · have hn : ¬ ((0 ≤ a ∧ a < N 35 0) ∧ (0 ≤ b ∧ b < N 35 0) ∧ a ≠ b) := fun h => h.2.2 c3
        rw [if_pos c3, if_neg hn]
      · have hn : ((0 ≤ a ∧ a < N 35 0) ∧ (0 ≤ b ∧ b < N 35 0) ∧ a ≠ b) := ⟨c1, c2, c3⟩
        rw [if_neg c3, if_pos hn]
    · have hn : ¬ ((0 ≤ a ∧ a < N 35 0) ∧ (0 ≤ b ∧ b < N 35 0) ∧ a ≠ b) := fun h => c2 h.2.1
      rw [if_pos c1, if_neg c2, if_neg hn]
      (try simp (disch := omega) only [w32_id, q_gf_e, q_gr_e, q_pf_e, q_pz_e, q_let_e, q_call_e, q_calp_e, q_al_ok, q_as_ok, q_nz_ok, up_same, up_nei, up_ne1, Int.toNat_natCast, reduceIte, Int.reduceEq, Int.reduceLT, Int.reduceLE, Int.reduceNeg, not_true_eq_false, not_false_eq_true])
  · have hn : ¬ ((0 ≤ a ∧ a < N 35 0) ∧ (0 ≤ b ∧ b < N 35 0) ∧ a ≠ b) := fun h => c1 h.1
    rw [if_neg c1, if_neg hn]
    (try simp (disch := omega) only [w32_id, q_gf_e, q_gr_e, q_pf_e, q_pz_e, q_let_e, q_call_e, q_calp_e, q_al_ok, q_as_ok, q_nz_ok, up_same, up_nei, up_ne1, Int.toNat_natCast, reduceIte, Int.reduceEq, Int.reduceLT, Int.reduceLE, Int.reduceNeg, not_true_eq_false, not_false_eq_true])
theorem restsL {t : Nat} {a b : Int} {Mc N : Mem} (hr : RelT t Mc N) (ha : 0 ≤ a ∧ a < N 35 0) (hb : 0 ≤ b ∧ b < N 35 0) : W2 (f_X9_rests_L28 a b Mc q_N 0 0) (f_X10_restOf a b (-1) N) some some (fun x y => x = y) := by
  unfold f_X10_restOf f_X9_rests_L28 f_X10_restOf_L6
  refine lock (fun m (u : Int × Int) => qlp2 (fun x3 x4 g28 => f_X9_rests_B28 a b Mc x3 x4 g28) m u.1 u.2) (fun m (u : Int × Int) => qlp2 (fun x4 x5 g6 => f_X10_restOf_B6 a b (-1) N x4 x5 g6) m u.1 u.2) _ _ _ (fun u v => u = v ∧ 0 ≤ v.1 ∧ v.1 ≤ v.2 ∧ v.2 ≤ 4) (fun u v => (4 - v.2).toNat) ?_ q_N q_N (0, 0) (0, 0) ⟨rfl, by show (0 : Int) ≤ 0; omega, by show (0 : Int) ≤ 0; omega, by show (0 : Int) ≤ 4; omega⟩ (q_N_lt (by show (4 - 0 : Int).toNat < 100000; omega)) (q_N_lt (by show (4 - 0 : Int).toNat < 100000; omega))
  intro m m' ⟨x2, x3⟩ ⟨y2, y3⟩ ⟨i1, i0, i2, i3⟩ ih
  cases i1
  simp only at i0 i2 i3
  show W2 (f_X9_rests_B28 a b Mc x2 x3 (qlp2 (fun x3 x4 g28 => f_X9_rests_B28 a b Mc x3 x4 g28) m)) (f_X10_restOf_B6 a b (-1) N x2 x3 (qlp2 (fun x4 x5 g6 => f_X10_restOf_B6 a b (-1) N x4 x5 g6) m')) _ _ _
  generalize qlp2 (fun x3 x4 g28 => f_X9_rests_B28 a b Mc x3 x4 g28) m = Gc at ih ⊢
  generalize qlp2 (fun x4 x5 g6 => f_X10_restOf_B6 a b (-1) N x4 x5 g6) m' = Gm at ih ⊢
  unfold f_X9_rests_B28 f_X10_restOf_B6
  (try simp (disch := omega) only [w32_id, q_gf_e, q_gr_e, q_pf_e, q_pz_e, q_let_e, q_call_e, q_calp_e, q_al_ok, q_as_ok, q_nz_ok, up_same, up_nei, up_ne1, Int.toNat_natCast, reduceIte, Int.reduceEq, Int.reduceLT, Int.reduceLE, Int.reduceNeg, not_true_eq_false, not_false_eq_true])
  by_cases c : 4 ≤ x3
  · rw [if_pos c, if_pos c]; exact W2.ok x2 x2 rfl rfl rfl
  rw [if_neg c, if_neg c]
  obtain ⟨z, z1, z2, z3, -⟩ := isRestW (x := x3) hr ha hb (by omega)
  have nx : ∀ w, 0 ≤ w → w ≤ x3 + 1 → W2 (Gc w (x3 + 1)) (Gm w (x3 + 1)) some some (fun x y => x = y) := fun w h1 h2 => ih (w, x3 + 1) (w, x3 + 1) ⟨rfl, h1, h2, by show x3 + 1 ≤ 4; omega⟩ (by show (4 - (x3 + 1)).toNat < (4 - x3).toNat; omega)
  rw [z1, z2]
  rcases z3 with rfl | rfl
  · (try simp (disch := omega) only [w32_id, q_gf_e, q_gr_e, q_pf_e, q_pz_e, q_let_e, q_call_e, q_calp_e, q_al_ok, q_as_ok, q_nz_ok, up_same, up_nei, up_ne1, Int.toNat_natCast, reduceIte, Int.reduceEq, Int.reduceLT, Int.reduceLE, Int.reduceNeg, not_true_eq_false, not_false_eq_true])
    exact nx _ i0 (by omega)
  · (try simp (disch := omega) only [w32_id, q_gf_e, q_gr_e, q_pf_e, q_pz_e, q_let_e, q_call_e, q_calp_e, q_al_ok, q_as_ok, q_nz_ok, up_same, up_nei, up_ne1, Int.toNat_natCast, reduceIte, Int.reduceEq, Int.reduceLT, Int.reduceLE, Int.reduceNeg, not_true_eq_false, not_false_eq_true])
    rw [if_pos (by omega)]
    exact nx _ (by omega) (by omega)
theorem restL {t : Nat} {a b k : Int} {Mc N : Mem} (hr : RelT t Mc N) (ha : 0 ≤ a ∧ a < N 35 0) (hb : 0 ≤ b ∧ b < N 35 0) (hk : 0 ≤ k ∧ k < 2147483648) : W2 (f_X9_rest_L33 a b k Mc q_N 0 0) (f_X10_restOf a b k N) some some (fun x y => x = y) := by
  unfold f_X10_restOf f_X9_rest_L33 f_X10_restOf_L6
  refine lock (fun m (u : Int × Int) => qlp2 (fun x4 x5 g33 => f_X9_rest_B33 a b k Mc x4 x5 g33) m u.1 u.2) (fun m (u : Int × Int) => qlp2 (fun x4 x5 g6 => f_X10_restOf_B6 a b k N x4 x5 g6) m u.1 u.2) _ _ _ (fun u v => u = v ∧ 0 ≤ v.1 ∧ v.1 ≤ v.2 ∧ v.2 ≤ 4) (fun u v => (4 - v.2).toNat) ?_ q_N q_N (0, 0) (0, 0) ⟨rfl, by show (0 : Int) ≤ 0; omega, by show (0 : Int) ≤ 0; omega, by show (0 : Int) ≤ 4; omega⟩ (q_N_lt (by show (4 - 0 : Int).toNat < 100000; omega)) (q_N_lt (by show (4 - 0 : Int).toNat < 100000; omega))
  intro m m' ⟨x2, x3⟩ ⟨y2, y3⟩ ⟨i1, i0, i2, i3⟩ ih
  cases i1
  simp only at i0 i2 i3
  show W2 (f_X9_rest_B33 a b k Mc x2 x3 (qlp2 (fun x4 x5 g33 => f_X9_rest_B33 a b k Mc x4 x5 g33) m)) (f_X10_restOf_B6 a b k N x2 x3 (qlp2 (fun x4 x5 g6 => f_X10_restOf_B6 a b k N x4 x5 g6) m')) _ _ _
  generalize qlp2 (fun x4 x5 g33 => f_X9_rest_B33 a b k Mc x4 x5 g33) m = Gc at ih ⊢
  generalize qlp2 (fun x4 x5 g6 => f_X10_restOf_B6 a b k N x4 x5 g6) m' = Gm at ih ⊢
  unfold f_X9_rest_B33 f_X10_restOf_B6
  (try simp (disch := omega) only [w32_id, q_gf_e, q_gr_e, q_pf_e, q_pz_e, q_let_e, q_call_e, q_calp_e, q_al_ok, q_as_ok, q_nz_ok, up_same, up_nei, up_ne1, Int.toNat_natCast, reduceIte, Int.reduceEq, Int.reduceLT, Int.reduceLE, Int.reduceNeg, not_true_eq_false, not_false_eq_true])
  by_cases c : 4 ≤ x3
  · rw [if_pos c, if_pos c, if_pos (by omega)]; exact W2.ok (-2) (-2) rfl rfl rfl
  rw [if_neg c, if_neg c]
  obtain ⟨z, z1, z2, z3, z4, z5⟩ := isRestW (x := x3) hr ha hb (by omega)
  have nx : ∀ w, 0 ≤ w → w ≤ x3 + 1 → W2 (Gc w (x3 + 1)) (Gm w (x3 + 1)) some some (fun x y => x = y) := fun w h1 h2 => ih (w, x3 + 1) (w, x3 + 1) ⟨rfl, h1, h2, by show x3 + 1 ≤ 4; omega⟩ (by show (4 - (x3 + 1)).toNat < (4 - x3).toNat; omega)
  rw [z1, z2]
  rcases z3 with rfl | rfl
  · (try simp (disch := omega) only [w32_id, q_gf_e, q_gr_e, q_pf_e, q_pz_e, q_let_e, q_call_e, q_calp_e, q_al_ok, q_as_ok, q_nz_ok, up_same, up_nei, up_ne1, Int.toNat_natCast, reduceIte, Int.reduceEq, Int.reduceLT, Int.reduceLE, Int.reduceNeg, not_true_eq_false, not_false_eq_true])
    exact nx _ i0 (by omega)
  · (try simp (disch := omega) only [w32_id, q_gf_e, q_gr_e, q_pf_e, q_pz_e, q_let_e, q_call_e, q_calp_e, q_al_ok, q_as_ok, q_nz_ok, up_same, up_nei, up_ne1, Int.toNat_natCast, reduceIte, Int.reduceEq, Int.reduceLT, Int.reduceLE, Int.reduceNeg, not_true_eq_false, not_false_eq_true])
    by_cases c2 : x2 = k
    · have n2 : ¬ ¬ x2 = k := fun h => h c2
      rw [if_neg n2, if_neg n2, z4, z5]
      exact W2.ok _ _ rfl rfl rfl
    · rw [if_pos c2, if_pos c2]
      exact nx _ (by omega) (by omega)
theorem o_rests : rs_rests Rel := by
  intro Mc Mm a0 a1 hR h0 h1
  obtain ⟨t, hr⟩ := hR
  have hr := hr.thr (v := 0)
  show PM Mc _ _
  unfold f_X9_rests f_X10_rests
  rw [q_pf_e]
  generalize up Mm 0 0 0 = N at hr ⊢
  have hR : Rel Mc N := ⟨t, hr⟩
  have h03 := hr.1.1
  have hS := hr.2.1.2.1
  have e0 := isSoulC (a := a0) h03 (by omega) h0
  have e1 := isSoulC (a := a1) h03 (by omega) h1
  rw [hS.1] at e0 e1
  rw [areTwoM hr h0 h1, e0, e1]
  unfold in32 at h0 h1
  by_cases c0 : 0 ≤ a0 ∧ a0 < N 35 0
  rotate_left
  · have hn : ¬ ((0 ≤ a0 ∧ a0 < N 35 0) ∧ (0 ≤ a1 ∧ a1 < N 35 0) ∧ a0 ≠ a1) := fun h => c0 h.1
    rw [if_neg c0, if_neg hn]
    (try simp (disch := omega) only [w32_id, q_gf_e, q_gr_e, q_pf_e, q_pz_e, q_let_e, q_call_e, q_calp_e, q_al_ok, q_as_ok, q_nz_ok, up_same, up_nei, up_ne1, Int.toNat_natCast, reduceIte, Int.reduceEq, Int.reduceLT, Int.reduceLE, Int.reduceNeg, not_true_eq_false, not_false_eq_true])
    exact PM.ok rfl hR
  by_cases c1 : 0 ≤ a1 ∧ a1 < N 35 0
  rotate_left
  · have hn : ¬ ((0 ≤ a0 ∧ a0 < N 35 0) ∧ (0 ≤ a1 ∧ a1 < N 35 0) ∧ a0 ≠ a1) := fun h => c1 h.2.1
    rw [if_pos c0, if_neg c1, if_neg hn]
    (try simp (disch := omega) only [w32_id, q_gf_e, q_gr_e, q_pf_e, q_pz_e, q_let_e, q_call_e, q_calp_e, q_al_ok, q_as_ok, q_nz_ok, up_same, up_nei, up_ne1, Int.toNat_natCast, reduceIte, Int.reduceEq, Int.reduceLT, Int.reduceLE, Int.reduceNeg, not_true_eq_false, not_false_eq_true])
    exact PM.ok rfl hR
  rw [if_pos c0, if_pos c1]
  by_cases c2 : a0 = a1
  · have hn : ¬ ((0 ≤ a0 ∧ a0 < N 35 0) ∧ (0 ≤ a1 ∧ a1 < N 35 0) ∧ a0 ≠ a1) := fun h => h.2.2 c2
    rw [if_neg hn]
    (try simp (disch := omega) only [w32_id, q_gf_e, q_gr_e, q_pf_e, q_pz_e, q_let_e, q_call_e, q_calp_e, q_al_ok, q_as_ok, q_nz_ok, up_same, up_nei, up_ne1, Int.toNat_natCast, reduceIte, Int.reduceEq, Int.reduceLT, Int.reduceLE, Int.reduceNeg, not_true_eq_false, not_false_eq_true])
    rw [if_neg (fun h => h c2)]
    exact PM.ok rfl hR
  · have hn : ((0 ≤ a0 ∧ a0 < N 35 0) ∧ (0 ≤ a1 ∧ a1 < N 35 0) ∧ a0 ≠ a1) := ⟨c0, c1, c2⟩
    rw [if_pos hn]
    obtain ⟨r, r', g1, g2, rfl⟩ := restsL hr c0 c1
    simp (disch := omega) only [w32_id, q_gf_e, q_gr_e, q_pf_e, q_pz_e, q_let_e, q_call_e, q_calp_e, q_al_ok, q_as_ok, q_nz_ok, up_same, up_nei, up_ne1, Int.toNat_natCast, reduceIte, Int.reduceEq, Int.reduceLT, Int.reduceLE, Int.reduceNeg, not_true_eq_false, not_false_eq_true, g1, g2]
    rw [if_pos c2]
    exact PM.ok rfl hR
theorem o_rest : rs_rest Rel := by
  intro Mc Mm a0 a1 a2 hR h0 h1 h2
  obtain ⟨t, hr⟩ := hR
  have hr := hr.thr (v := 0)
  show PM Mc _ _
  unfold f_X9_rest f_X10_rest
  rw [q_pf_e]
  generalize up Mm 0 0 0 = N at hr ⊢
  have hR : Rel Mc N := ⟨t, hr⟩
  have h03 := hr.1.1
  have hS := hr.2.1.2.1
  have e0 := isSoulC (a := a0) h03 (by omega) h0
  have e1 := isSoulC (a := a1) h03 (by omega) h1
  rw [hS.1] at e0 e1
  rw [areTwoM hr h0 h1, e0, e1]
  unfold in32 at h0 h1 h2
  by_cases c0 : 0 ≤ a0 ∧ a0 < N 35 0
  rotate_left
  · have hn : ¬ ((0 ≤ a0 ∧ a0 < N 35 0) ∧ (0 ≤ a1 ∧ a1 < N 35 0) ∧ a0 ≠ a1) := fun h => c0 h.1
    rw [if_neg c0, if_neg hn]
    (try simp (disch := omega) only [w32_id, q_gf_e, q_gr_e, q_pf_e, q_pz_e, q_let_e, q_call_e, q_calp_e, q_al_ok, q_as_ok, q_nz_ok, up_same, up_nei, up_ne1, Int.toNat_natCast, reduceIte, Int.reduceEq, Int.reduceLT, Int.reduceLE, Int.reduceNeg, not_true_eq_false, not_false_eq_true])
    exact PM.ok rfl hR
  by_cases c1 : 0 ≤ a1 ∧ a1 < N 35 0
  rotate_left
  · have hn : ¬ ((0 ≤ a0 ∧ a0 < N 35 0) ∧ (0 ≤ a1 ∧ a1 < N 35 0) ∧ a0 ≠ a1) := fun h => c1 h.2.1
    rw [if_pos c0, if_neg c1, if_neg hn]
    (try simp (disch := omega) only [w32_id, q_gf_e, q_gr_e, q_pf_e, q_pz_e, q_let_e, q_call_e, q_calp_e, q_al_ok, q_as_ok, q_nz_ok, up_same, up_nei, up_ne1, Int.toNat_natCast, reduceIte, Int.reduceEq, Int.reduceLT, Int.reduceLE, Int.reduceNeg, not_true_eq_false, not_false_eq_true])
    exact PM.ok rfl hR
  rw [if_pos c0, if_pos c1]
  by_cases c2 : a0 = a1
  · have hn : ¬ ((0 ≤ a0 ∧ a0 < N 35 0) ∧ (0 ≤ a1 ∧ a1 < N 35 0) ∧ a0 ≠ a1) := fun h => h.2.2 c2
    rw [if_neg hn]
    (try simp (disch := omega) only [w32_id, q_gf_e, q_gr_e, q_pf_e, q_pz_e, q_let_e, q_call_e, q_calp_e, q_al_ok, q_as_ok, q_nz_ok, up_same, up_nei, up_ne1, Int.toNat_natCast, reduceIte, Int.reduceEq, Int.reduceLT, Int.reduceLE, Int.reduceNeg, not_true_eq_false, not_false_eq_true])
    rw [if_pos c2]
    exact PM.ok rfl hR
  · have hn : ((0 ≤ a0 ∧ a0 < N 35 0) ∧ (0 ≤ a1 ∧ a1 < N 35 0) ∧ a0 ≠ a1) := ⟨c0, c1, c2⟩
    rw [if_pos hn]
    by_cases c3 : 0 ≤ a2
    · obtain ⟨r, r', g1, g2, rfl⟩ := restL (k := a2) hr c0 c1 ⟨c3, h2.2⟩
      simp (disch := omega) only [w32_id, q_gf_e, q_gr_e, q_pf_e, q_pz_e, q_let_e, q_call_e, q_calp_e, q_al_ok, q_as_ok, q_nz_ok, up_same, up_nei, up_ne1, Int.toNat_natCast, reduceIte, Int.reduceEq, Int.reduceLT, Int.reduceLE, Int.reduceNeg, not_true_eq_false, not_false_eq_true, g1, g2]
      rw [if_neg c2, if_pos c3, if_neg (by omega)]
      exact PM.ok rfl hR
    · (try simp (disch := omega) only [w32_id, q_gf_e, q_gr_e, q_pf_e, q_pz_e, q_let_e, q_call_e, q_calp_e, q_al_ok, q_as_ok, q_nz_ok, up_same, up_nei, up_ne1, Int.toNat_natCast, reduceIte, Int.reduceEq, Int.reduceLT, Int.reduceLE, Int.reduceNeg, not_true_eq_false, not_false_eq_true])
      rw [if_neg c2, if_neg c3, if_pos (by omega)]
      exact PM.ok rfl hR
