theorem isSoulC {t : Nat} {a : Int} {M : Mem} (ht : M 0 3 = t) (hS : 0 ≤ M t 0 ∧ M t 0 ≤ 8) (ha : in32 a) : f_X9_isSoul a M = some (if 0 ≤ a ∧ a < M t 0 then 1 else 0) := by
  unfold in32 at ha
  unfold f_X9_isSoul
  simp (disch := omega) only [w32_id, q_gf_e, q_gr_e, q_pf_e, q_pz_e, q_let_e, q_call_e, q_calp_e, q_al_ok, q_as_ok, q_nz_ok, up_same, up_nei, up_ne1, Int.toNat_natCast, reduceIte, Int.reduceEq, Int.reduceLT, Int.reduceLE, Int.reduceNeg, not_true_eq_false, not_false_eq_true, ht]
  repeat' split
  all_goals first
    | (exfalso; omega)
    | rfl
theorem isBusC {t : Nat} {a : Int} {M : Mem} (ht : M 0 3 = t) (hS : 0 ≤ M t 7 ∧ M t 7 ≤ 4) (ha : in32 a) : f_X9_isBus a M = some (if 0 ≤ a ∧ a < M t 7 then 1 else 0) := by
  unfold in32 at ha
  unfold f_X9_isBus
  simp (disch := omega) only [w32_id, q_gf_e, q_gr_e, q_pf_e, q_pz_e, q_let_e, q_call_e, q_calp_e, q_al_ok, q_as_ok, q_nz_ok, up_same, up_nei, up_ne1, Int.toNat_natCast, reduceIte, Int.reduceEq, Int.reduceLT, Int.reduceLE, Int.reduceNeg, not_true_eq_false, not_false_eq_true, ht]
  repeat' split
  all_goals first
    | (exfalso; omega)
    | rfl
theorem isSoulM {a : Int} {M : Mem} (hS : 0 ≤ M 35 0 ∧ M 35 0 ≤ 8) (ha : in32 a) : f_X10_isSoul a M = some (if 0 ≤ a ∧ a < M 35 0 then 1 else 0) := by
  unfold in32 at ha
  unfold f_X10_isSoul
  simp (disch := omega) only [w32_id, q_gf_e, q_gr_e, q_pf_e, q_pz_e, q_let_e, q_call_e, q_calp_e, q_al_ok, q_as_ok, q_nz_ok, up_same, up_nei, up_ne1, Int.toNat_natCast, reduceIte, Int.reduceEq, Int.reduceLT, Int.reduceLE, Int.reduceNeg, not_true_eq_false, not_false_eq_true]
  repeat' split
  all_goals first
    | (exfalso; omega)
    | rfl
theorem isBusM {a : Int} {M : Mem} (hS : 0 ≤ M 35 1 ∧ M 35 1 ≤ 4) (ha : in32 a) : f_X10_isBus a M = some (if 0 ≤ a ∧ a < M 35 1 then 1 else 0) := by
  unfold in32 at ha
  unfold f_X10_isBus
  simp (disch := omega) only [w32_id, q_gf_e, q_gr_e, q_pf_e, q_pz_e, q_let_e, q_call_e, q_calp_e, q_al_ok, q_as_ok, q_nz_ok, up_same, up_nei, up_ne1, Int.toNat_natCast, reduceIte, Int.reduceEq, Int.reduceLT, Int.reduceLE, Int.reduceNeg, not_true_eq_false, not_false_eq_true]
  repeat' split
  all_goals first
    | (exfalso; omega)
    | rfl
theorem o_named : rs_named Rel := by
  intro Mc Mm a0 a1 hR ha ha1
  have h0 := hR
  obtain ⟨t, h⟩ := h0
  obtain ⟨⟨h3, -⟩, hT, -⟩ := h
  obtain ⟨ht, hS, hB, -, -, -, -, hp, -, hb, -⟩ := hT
  have fs : ∃ r, f_X9_find (32 * (t + 1) + 1) 8 (Mm 35 0) a1 Mc = some r ∧ f_X10_found 36 16 0 (Mm 35 0) a1 (up Mm 0 0 0) = some r := by
    obtain ⟨r, e, f⟩ := findC (M := Mc) (n0 := 32 * (t + 1) + 1) (l0 := 8) (w := Mm 35 0) (s := a1) (by omega) (by omega) ha1 (fun j a b => by rw [(hp j a b).1.1]; exact (hp j a b).1.2)
    obtain ⟨r', e', f'⟩ := foundM (M := up Mm 0 0 0) (n0 := 36) (l0 := 16) (b := 0) (w := Mm 35 0) (s := a1) (by omega) (by omega) ha1 (fun j a b => by rw [up_ne1 (by omega), Int.zero_add]; exact (hp j a b).1.2)
    refine ⟨r, e, ?_⟩
    rw [e']
    rcases f.same f' (fun j a b => by simp only [Int.zero_add]; rw [up_ne1 (by omega)]; exact (hp j a b).1.1) with h | h
    · rw [h.1]
    · rw [h.1, h.2]
  have fb : ∃ r, f_X9_find (32 * (t + 1) + 8) 4 (Mm 35 1) a1 Mc = some r ∧ f_X10_found 40 8 0 (Mm 35 1) a1 (up Mm 0 0 0) = some r := by
    obtain ⟨r, e, f⟩ := findC (M := Mc) (n0 := 32 * (t + 1) + 8) (l0 := 4) (w := Mm 35 1) (s := a1) (by omega) (by omega) ha1 (fun j a b => by rw [(hb j a b).1.1]; exact (hb j a b).1.2)
    obtain ⟨r', e', f'⟩ := foundM (M := up Mm 0 0 0) (n0 := 40) (l0 := 8) (b := 0) (w := Mm 35 1) (s := a1) (by omega) (by omega) ha1 (fun j a b => by rw [up_ne1 (by omega), Int.zero_add]; exact (hb j a b).1.2)
    refine ⟨r, e, ?_⟩
    rw [e']
    rcases f.same f' (fun j a b => by simp only [Int.zero_add]; rw [up_ne1 (by omega)]; exact (hb j a b).1.1) with h | h
    · rw [h.1]
    · rw [h.1, h.2]
  obtain ⟨rs, s1, s2⟩ := fs
  obtain ⟨rb, b1, b2⟩ := fb
  unfold in32 at ha
  show PM Mc _ _
  unfold f_X9_named f_X10_named
  simp (disch := omega) only [w32_id, q_gf_e, q_gr_e, q_pf_e, q_pz_e, q_let_e, q_call_e, q_calp_e, q_al_ok, q_as_ok, q_nz_ok, up_same, up_nei, up_ne1, Int.toNat_natCast, reduceIte, Int.reduceEq, Int.reduceLT, Int.reduceLE, Int.reduceNeg, not_true_eq_false, not_false_eq_true, h3, hS.1, hB.1, s1, s2, b1, b2]
  repeat' split
  all_goals first
    | (exfalso; omega)
    | exact PM.ok rfl hR.thr
