theorem meetNone {f1 v1 f2 v2 t0 : Int} (h1 : 1 ≤ v1) (h2 : 1 ≤ v2 ∧ v2 ≤ 30) (c1 : CM f1 v1 t0) (c2 : f2 ≤ t0) (hno : ∀ j, t0 ≤ j → j < t0 + 30 * v1 → ¬ (CM f1 v1 j ∧ CM f2 v2 j)) : ∀ j, t0 ≤ j → ¬ (CM f1 v1 j ∧ CM f2 v2 j) := by
  intro j a ⟨d1, d2⟩
  have hp : 0 < v1 * v2 := Int.mul_pos (by omega) (by omega)
  have hd := Int.emod_add_mul_ediv (j - t0) (v1 * v2)
  have hm0 := Int.emod_nonneg (j - t0) (show v1 * v2 ≠ 0 by omega)
  have hm1 := Int.emod_lt_of_pos (j - t0) hp
  have hle : v1 * v2 ≤ 30 * v1 := by
    rw [Int.mul_comm 30 v1]
    exact Int.mul_le_mul_of_nonneg_left h2.2 (by omega)
  have e1 : v1 * v2 * ((j - t0) / (v1 * v2)) = v1 * (v2 * ((j - t0) / (v1 * v2))) := Int.mul_assoc _ _ _
  have e2 : v1 * v2 * ((j - t0) / (v1 * v2)) = v2 * (v1 * ((j - t0) / (v1 * v2))) := by rw [Int.mul_comm v1 v2]; exact Int.mul_assoc _ _ _
  have f1t := c1.1
  refine hno (j - v1 * v2 * ((j - t0) / (v1 * v2))) (by omega) (by omega) ⟨?_, ?_⟩
  · rw [e1]; exact d1.sub (by rw [← e1]; omega)
  · rw [e2]; exact d2.sub (by rw [← e2]; omega)
theorem o_meet : rs_meet Rel := by
  intro Mc Mm a0 a1 hR h0 h1
  obtain ⟨t, hr⟩ := hR
  have hr := hr.thr (v := 0)
  show PM Mc _ _
  unfold f_X9_meet f_X10_meet
  rw [q_pf_e]
  generalize up Mm 0 0 0 = N at hr ⊢
  have hR : Rel Mc N := ⟨t, hr⟩
  have h03 := hr.1.1
  have hB := hr.2.1.2.2.1
  have h98 := hr.m98
  have ec := isBusC (a := a0) h03 (by omega) h0
  have em := isBusM (M := N) (a := a0) (by omega) h0
  have ec1 := isBusC (a := a1) h03 (by omega) h1
  have em1 := isBusM (M := N) (a := a1) (by omega) h1
  rw [hB.1] at ec ec1
  unfold in32 at h0 h1
  rw [ec, em, ec1, em1]
  by_cases c : 0 ≤ a0 ∧ a0 < N 35 1
  rotate_left
  · rw [if_neg c]
    (try simp (disch := omega) only [w32_id, q_gf_e, q_gr_e, q_pf_e, q_pz_e, q_let_e, q_call_e, q_calp_e, q_al_ok, q_as_ok, q_nz_ok, up_same, up_nei, up_ne1, Int.toNat_natCast, reduceIte, Int.reduceEq, Int.reduceLT, Int.reduceLE, Int.reduceNeg, not_true_eq_false, not_false_eq_true])
    exact PM.ok rfl hR
  by_cases c1 : 0 ≤ a1 ∧ a1 < N 35 1
  rotate_left
  · rw [if_pos c, if_neg c1]
    (try simp (disch := omega) only [w32_id, q_gf_e, q_gr_e, q_pf_e, q_pz_e, q_let_e, q_call_e, q_calp_e, q_al_ok, q_as_ok, q_nz_ok, up_same, up_nei, up_ne1, Int.toNat_natCast, reduceIte, Int.reduceEq, Int.reduceLT, Int.reduceLE, Int.reduceNeg, not_true_eq_false, not_false_eq_true])
    exact PM.ok rfl hR
  rw [if_pos c, if_pos c1]
  (try simp (disch := omega) only [w32_id, q_gf_e, q_gr_e, q_pf_e, q_pz_e, q_let_e, q_call_e, q_calp_e, q_al_ok, q_as_ok, q_nz_ok, up_same, up_nei, up_ne1, Int.toNat_natCast, reduceIte, Int.reduceEq, Int.reduceLT, Int.reduceLE, Int.reduceNeg, not_true_eq_false, not_false_eq_true])
  by_cases c2 : a0 = a1
  · have n2 : ¬ ¬ a0 = a1 := fun h => h c2
    rw [if_neg n2, if_neg n2]
    exact PM.ok rfl hR
  rw [if_pos c2, if_pos c2]
  obtain ⟨b1, b2⟩ := hr.b c
  obtain ⟨d1, d2⟩ := hr.b c1
  have emx : q_max (N 67 0) (N 41 a1) = if N 67 0 < N 41 a1 then N 41 a1 else N 67 0 := by
    unfold q_max
    rw [w32_id (by omega), w32_id (by omega)]
  obtain ⟨st, hst, hst'⟩ : ∃ st, q_max (N 67 0) (N 41 a1) = st ∧ (N 67 0 ≤ st ∧ N 41 a1 ≤ st ∧ (st = N 67 0 ∨ st = N 41 a1)) := by
    refine ⟨_, rfl, ?_⟩
    rw [emx]
    split <;> omega
  obtain ⟨s1, s2, s3⟩ := FF.spec (f := N 41 a0) (v := N 42 a0) (m := st) (by omega)
  have s4 := FF.le (f := N 41 a0) (v := N 42 a0) (m := st) (by omega)
  have hf := firstC (m := st) hr c (by omega)
  generalize ht0 : FF (N 41 a0) (N 42 a0) st = t0 at s1 s2 s3 s4 hf
  have s5 : t0 ≤ N 67 0 + 228 := by
    revert s4; split <;> omega
  -- one finds the first, or there is none
  have hc : wpo (f_X9_meet_L54 a0 a1 Mc q_N t0 0) (fun r => (∃ T, r = T - N 67 0 ∧ N 67 0 ≤ T ∧ T ≤ t0 + 870 ∧ CM (N 41 a0) (N 42 a0) T ∧ CM (N 41 a1) (N 42 a1) T ∧ ∀ j, N 67 0 ≤ j → j < T → ¬ (CM (N 41 a0) (N 42 a0) j ∧ CM (N 41 a1) (N 42 a1) j)) ∨ (r = -2 ∧ ∀ j, N 67 0 ≤ j → ¬ (CM (N 41 a0) (N 42 a0) j ∧ CM (N 41 a1) (N 42 a1) j))) := by
    unfold f_X9_meet_L54
    have low : ∀ j, N 67 0 ≤ j → j < t0 → ¬ (CM (N 41 a0) (N 42 a0) j ∧ CM (N 41 a1) (N 42 a1) j) := by
      intro j a b hj
      by_cases cj : st ≤ j
      · exact s3 j cj b hj.1
      · have := hj.2.1; omega
    refine qlp2_N (fun x i => 0 ≤ i ∧ i ≤ 30 ∧ x = t0 + i * N 42 a0 ∧ t0 ≤ x ∧ x ≤ t0 + 30 * i ∧ CM (N 41 a0) (N 42 a0) x ∧ ∀ j, N 67 0 ≤ j → j < x → ¬ (CM (N 41 a0) (N 42 a0) j ∧ CM (N 41 a1) (N 42 a1) j)) (fun _ i => (30 - i).toNat) _ _ ⟨by omega, by omega, by omega, by omega, by omega, s2, low⟩ (by omega) ?_
    intro x i g ⟨i1, i2, i3, i4, i5, i6, i7⟩ ih
    unfold f_X9_meet_B54
    have hf2 := firstC (m := x) hr c1 (by omega)
    obtain ⟨y1, y2, y3⟩ := FF.spec (f := N 41 a1) (v := N 42 a1) (m := x) (by omega)
    have y4 := FF.le (f := N 41 a1) (v := N 42 a1) (m := x) (by omega)
    have y5 : FF (N 41 a1) (N 42 a1) x ≤ x + 200 := by revert y4; split <;> omega
    simp (disch := omega) only [w32_id, q_gf_e, q_gr_e, q_pf_e, q_pz_e, q_let_e, q_call_e, q_calp_e, q_al_ok, q_as_ok, q_nz_ok, up_same, up_nei, up_ne1, Int.toNat_natCast, reduceIte, Int.reduceEq, Int.reduceLT, Int.reduceLE, Int.reduceNeg, not_true_eq_false, not_false_eq_true, hf2, h03, b2.1, h98.1]
    refine wpo_ite (fun ci => wpo_some.mpr (.inr ⟨rfl, ?_⟩)) (fun ci => ?_)
    · have ei : i = 30 := by omega
      subst ei
      intro j a
      by_cases cj : t0 ≤ j
      · exact meetNone (by omega) d2.2 s2 (by omega) (fun j a b => i7 j (by omega) (by rw [i3]; exact b)) j cj
      · exact low j a (by omega)
    · refine wpo_ite (fun cx => ?_) (fun cx => ?_)
      · -- the other one doesn't come
        have nc : ¬ CM (N 41 a1) (N 42 a1) x := by
          intro h
          have : x < FF (N 41 a1) (N 42 a1) x := by omega
          exact y3 x (Int.le_refl _) this h
        refine ih _ _ ⟨by omega, by omega, ?_, by omega, by omega, i6.add (by omega), fun j a b hj => ?_⟩ (by omega)
        · rw [i3, Int.add_mul, Int.one_mul]; omega
        · by_cases l : j < x
          · exact i7 j a l hj
          · by_cases e : j = x
            · subst e; exact nc hj.2
            · exact i6.next (by omega) (by omega) b hj.1
      · have ex : FF (N 41 a1) (N 42 a1) x = x := by simpa using cx
        rw [ex] at y2
        exact wpo_some.mpr (.inl ⟨x, rfl, by omega, by omega, i6, y2, i7⟩)
  obtain ⟨r, r1, r2⟩ := hc
  have hm : f_X10_meet_L30 a0 a1 N q_N 0 = some (r, N) := by
    rw [← wpo_eq]
    unfold f_X10_meet_L30
    refine qlp1_N (fun x => 0 ≤ x ∧ x ≤ 1101 ∧ ∀ j, N 67 0 ≤ j → j < N 67 0 + x → ¬ (CM (N 41 a0) (N 42 a0) j ∧ CM (N 41 a1) (N 42 a1) j)) (fun x => (1101 - x).toNat) _ ⟨by omega, by omega, fun j a b => by omega⟩ (by omega) ?_
    intro x g ⟨i1, i2, i3⟩ ih
    unfold f_X10_meet_B30
    (try simp (disch := omega) only [w32_id, q_gf_e, q_gr_e, q_pf_e, q_pz_e, q_let_e, q_call_e, q_calp_e, q_al_ok, q_as_ok, q_nz_ok, up_same, up_nei, up_ne1, Int.toNat_natCast, reduceIte, Int.reduceEq, Int.reduceLT, Int.reduceLE, Int.reduceNeg, not_true_eq_false, not_false_eq_true])
    refine wpo_ite (fun cx => ?_) (fun cx => ?_)
    · rcases r2 with ⟨T, rfl, t1, t2, t3, t4, t5⟩ | ⟨rfl, -⟩
      · exact absurd ⟨t3, t4⟩ (i3 T t1 (by omega))
      · exact wpo_some.mpr rfl
    · obtain ⟨z, z1, z2⟩ := comingM (at' := N 67 0 + x) hr c (by omega)
      obtain ⟨w, w1, w2⟩ := comingM (at' := N 67 0 + x) hr c1 (by omega)
      have nx : ¬ (CM (N 41 a0) (N 42 a0) (N 67 0 + x) ∧ CM (N 41 a1) (N 42 a1) (N 67 0 + x)) → wpo (g (x + 1)) (fun y => y = (r, N)) := fun hn => ih _ ⟨by omega, by omega, fun j a b hj => by
        by_cases e : j = N 67 0 + x
        · subst e; exact hn hj
        · exact i3 j a (by omega) hj⟩ (by omega)
      rw [z1, w1]
      rcases z2 with ⟨rfl, z2⟩ | ⟨rfl, z2⟩
      · rcases w2 with ⟨rfl, w2⟩ | ⟨rfl, w2⟩
        · (try simp (disch := omega) only [w32_id, q_gf_e, q_gr_e, q_pf_e, q_pz_e, q_let_e, q_call_e, q_calp_e, q_al_ok, q_as_ok, q_nz_ok, up_same, up_nei, up_ne1, Int.toNat_natCast, reduceIte, Int.reduceEq, Int.reduceLT, Int.reduceLE, Int.reduceNeg, not_true_eq_false, not_false_eq_true])
          refine wpo_some.mpr ?_
          congr 1
          rcases r2 with ⟨T, rfl, t1, t2, t3, t4, t5⟩ | ⟨rfl, t5⟩
          · rcases Int.lt_trichotomy (N 67 0 + x) T with l | l | l
            · exact absurd ⟨z2, w2⟩ (t5 _ (by omega) l)
            · omega
            · exact absurd ⟨t3, t4⟩ (i3 T t1 l)
          · exact absurd ⟨z2, w2⟩ (t5 _ (by omega))
        · (try simp (disch := omega) only [w32_id, q_gf_e, q_gr_e, q_pf_e, q_pz_e, q_let_e, q_call_e, q_calp_e, q_al_ok, q_as_ok, q_nz_ok, up_same, up_nei, up_ne1, Int.toNat_natCast, reduceIte, Int.reduceEq, Int.reduceLT, Int.reduceLE, Int.reduceNeg, not_true_eq_false, not_false_eq_true])
          exact nx (fun h => w2 h.2)
      · (try simp (disch := omega) only [w32_id, q_gf_e, q_gr_e, q_pf_e, q_pz_e, q_let_e, q_call_e, q_calp_e, q_al_ok, q_as_ok, q_nz_ok, up_same, up_nei, up_ne1, Int.toNat_natCast, reduceIte, Int.reduceEq, Int.reduceLT, Int.reduceLE, Int.reduceNeg, not_true_eq_false, not_false_eq_true])
        exact nx (fun h => z2 h.1)
  simp (disch := omega) only [w32_id, q_gf_e, q_gr_e, q_pf_e, q_pz_e, q_let_e, q_call_e, q_calp_e, q_al_ok, q_as_ok, q_nz_ok, up_same, up_nei, up_ne1, Int.toNat_natCast, reduceIte, Int.reduceEq, Int.reduceLT, Int.reduceLE, Int.reduceNeg, not_true_eq_false, not_false_eq_true, h98.1, h03, d1.1, hst, hf, r1, hm]
  exact PM.ok rfl hR
