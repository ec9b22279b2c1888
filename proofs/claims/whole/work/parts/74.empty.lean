theorem emptyW {t : Nat} {q b : Int} {Mc Mm : Mem} (h : MR t 5 1 q b Mc Mm) (h03 : Mc 0 3 = t) : ∃ z, f_X9_isEmpty 5 Mc = some z ∧ (z = 0 ∨ z = 1) ∧ ∀ (g : Int → Mem → Res) x, 0 ≤ x → x ≤ 199 → f_X10_empty_B13 x Mm g = if z = 0 then f_X10_empty_J40 g x Mm else some (x, Mm) := by
  have hS := h.1.2.1
  have hv := h.2.2.2.2
  have e3 := h.raw.2.2.1
  have r3 := h.rng.2.2.1
  obtain ⟨r, g1, g2, g3⟩ := cntW (v := 0) (by omega) hv.1 hv.2.1 (by omega) (by unfold in32; omega)
  unfold f_X9_isEmpty
  simp (disch := omega) only [w32_id, q_gf_e, q_gr_e, q_pf_e, q_pz_e, q_let_e, q_call_e, q_calp_e, q_al_ok, q_as_ok, q_nz_ok, up_same, up_nei, up_ne1, Int.toNat_natCast, reduceIte, Int.reduceEq, Int.reduceLT, Int.reduceLE, Int.reduceNeg, not_true_eq_false, not_false_eq_true, e3, h03, hS.1, g1]
  by_cases c : Mm 69 1 = 0
  · by_cases c2 : r = 0
    · refine ⟨1, ?_, .inr rfl, fun g x a b => ?_⟩
      · simp [c, c2]
      · unfold f_X10_empty_B13
        simp (disch := omega) only [w32_id, q_gf_e, q_gr_e, q_pf_e, q_pz_e, q_let_e, q_call_e, q_calp_e, q_al_ok, q_as_ok, q_nz_ok, up_same, up_nei, up_ne1, Int.toNat_natCast, reduceIte, Int.reduceEq, Int.reduceLT, Int.reduceLE, Int.reduceNeg, not_true_eq_false, not_false_eq_true, g2]
        rw [if_neg (by omega)]
        simp [c, c2]
    · refine ⟨0, ?_, .inl rfl, fun g x a b => ?_⟩
      · simp [c, c2]
      · unfold f_X10_empty_B13
        simp (disch := omega) only [w32_id, q_gf_e, q_gr_e, q_pf_e, q_pz_e, q_let_e, q_call_e, q_calp_e, q_al_ok, q_as_ok, q_nz_ok, up_same, up_nei, up_ne1, Int.toNat_natCast, reduceIte, Int.reduceEq, Int.reduceLT, Int.reduceLE, Int.reduceNeg, not_true_eq_false, not_false_eq_true, g2]
        rw [if_neg (by omega)]
        simp [c, c2]
  · refine ⟨0, ?_, .inl rfl, fun g x a b => ?_⟩
    · simp [c]
    · unfold f_X10_empty_B13
      simp (disch := omega) only [w32_id, q_gf_e, q_gr_e, q_pf_e, q_pz_e, q_let_e, q_call_e, q_calp_e, q_al_ok, q_as_ok, q_nz_ok, up_same, up_nei, up_ne1, Int.toNat_natCast, reduceIte, Int.reduceEq, Int.reduceLT, Int.reduceLE, Int.reduceNeg, not_true_eq_false, not_false_eq_true, g2]
      rw [if_neg (by omega)]
      simp [c]
theorem emptyL {t : Nat} {Mc Mm : Mem} (h : MR t 5 1 0 0 Mc Mm) (h03 : Mc 0 3 = t) (hm : Mm 67 1 ≤ 9800) : W2 (f_X9_empty_L6 q_N 0 Mc) (f_X10_empty_L13 q_N 0 Mm) some some (FQ t Mc Mm) := by
  have ht := h.1.1
  unfold f_X9_empty_L6 f_X10_empty_L13
  refine lock2 (fun m (u : Int × Mem) => qlm1 (fun x1 M g6 => f_X9_empty_B6 x1 M g6) m u.1 u.2) (fun m (u : Int × Mem) => qlm1 (fun x1 M g13 => f_X10_empty_B13 x1 M g13) m u.1 u.2) _ _ _ (fun u v => u.1 = v.1 ∧ 0 ≤ v.1 ∧ v.1 ≤ 199 ∧ MN t 5 1 0 v.1 Mc Mm u.2 v.2) (fun u v => (200 - v.1).toNat) ?_ q_N q_N (0, Mc) (0, Mm) ⟨rfl, by show (0 : Int) ≤ 0; omega, by show (0 : Int) ≤ 199; omega, h, GC.refl _ _, GM.refl _ _, by show Mm 67 1 = Mm 67 1 + 0; omega⟩ (q_N_lt (by show (200 - 0 : Int).toNat < 100000; omega)) (q_N_lt (by show (200 - 0 : Int).toNat < 100000; omega))
  intro m m' ⟨x, M⟩ ⟨y, M'⟩ f1 f2 ⟨i1, i2, i3, i4⟩ ih
  simp only at f1 f2 i1 i2 i3 i4 ih
  subst i1
  show W2 (f_X9_empty_B6 x M (qlm1 (fun x1 M g6 => f_X9_empty_B6 x1 M g6) m)) (f_X10_empty_B13 x M' (qlm1 (fun x1 M g13 => f_X10_empty_B13 x1 M g13) m')) _ _ _
  have m0 : M 0 3 = t := by rw [i4.2.1 0 (by omega) (by omega) (by omega) (by omega) (by omega) (by omega)]; exact h03
  obtain ⟨z, z1, z2, z3⟩ := emptyW i4.1 m0
  obtain ⟨M1, N1, a1, a2, a3, a4, a5, a6⟩ := pass1W i4.1 (by rw [i4.2.2.2]; omega)
  have fc := i4.2.1.fc ht
  have fm := i4.2.2.1.fm
  rw [z3 _ x i2 i3]
  have hGm2 : ∀ m'', m' = m'' + 1 → ∀ N, qlm1 (fun x1 M g13 => f_X10_empty_B13 x1 M g13) m' (199 + 1) N = some (-2, N) := by
    intro m'' e N
    subst e
    show f_X10_empty_B13 (199 + 1) N (qlm1 (fun x1 M g13 => f_X10_empty_B13 x1 M g13) m'') = _
    unfold f_X10_empty_B13
    rw [if_pos (by decide)]
  generalize hGc : qlm1 (fun x1 M g6 => f_X9_empty_B6 x1 M g6) m = Gc at ih ⊢
  generalize hGm : qlm1 (fun x1 M g13 => f_X10_empty_B13 x1 M g13) m' = Gm at ih hGm2 ⊢
  unfold f_X9_empty_B6 f_X10_empty_J40
  rw [z1, a1, a2]
  (try simp (disch := omega) only [w32_id, q_gf_e, q_gr_e, q_pf_e, q_pz_e, q_let_e, q_call_e, q_calp_e, q_al_ok, q_as_ok, q_nz_ok, up_same, up_nei, up_ne1, Int.toNat_natCast, reduceIte, Int.reduceEq, Int.reduceLT, Int.reduceLE, Int.reduceNeg, not_true_eq_false, not_false_eq_true])
  rcases z2 with rfl | rfl
  · (try simp (disch := omega) only [w32_id, q_gf_e, q_gr_e, q_pf_e, q_pz_e, q_let_e, q_call_e, q_calp_e, q_al_ok, q_as_ok, q_nz_ok, up_same, up_nei, up_ne1, Int.toNat_natCast, reduceIte, Int.reduceEq, Int.reduceLT, Int.reduceLE, Int.reduceNeg, not_true_eq_false, not_false_eq_true])
    by_cases c9 : 199 ≤ x
    · rw [if_pos c9]
      have ex : x = 199 := by omega
      subst ex
      exact W2.ok (-2, M) (-2, N1) rfl (hGm2 (m' - 1) (by omega) N1) ⟨rfl, fc, fm.trans a5.fm⟩
    · rw [if_neg c9]
      exact ih (x + 1, M1) (x + 1, N1) ⟨rfl, by show 0 ≤ x + 1; omega, by show x + 1 ≤ 199; omega, a3, i4.2.1.trans a4, i4.2.2.1.trans a5, by show N1 67 1 = Mm 67 1 + (x + 1); rw [a6, i4.2.2.2]; omega⟩ (by show (200 - (x + 1)).toNat < (200 - x).toNat; omega)
  · (try simp (disch := omega) only [w32_id, q_gf_e, q_gr_e, q_pf_e, q_pz_e, q_let_e, q_call_e, q_calp_e, q_al_ok, q_as_ok, q_nz_ok, up_same, up_nei, up_ne1, Int.toNat_natCast, reduceIte, Int.reduceEq, Int.reduceLT, Int.reduceLE, Int.reduceNeg, not_true_eq_false, not_false_eq_true])
    by_cases c9 : 199 ≤ x
    · rw [if_pos c9]
      exact W2.ok (199, M) (x, M') rfl rfl ⟨by show (199 : Int) = x; omega, fc, fm⟩
    · rw [if_neg c9]
      exact W2.ok (x, M) (x, M') rfl rfl ⟨rfl, fc, fm⟩
theorem RelT.m98 {t : Nat} {Mc Mm : Mem} (h : RelT t Mc Mm) : Mc 4 0 = Mm 67 0 ∧ 0 ≤ Mm 67 0 ∧ Mm 67 0 ≤ 9800 := by
  have h1 := h.2.2.1.2
  have h2 : Mc 4 0 = Mm 67 0 := h.2.2.1.1.1.1
  have h3 : 0 ≤ Mc 4 0 := h.2.2.1.1.2.1.1.1
  omega
theorem o_empty : rs_empty Rel := by
  intro Mc Mm hR
  obtain ⟨t, hr⟩ := hR
  have hr := hr.thr (v := 0)
  show PW _ _
  unfold f_X9_empty f_X10_empty
  rw [q_pf_e]
  generalize up Mm 0 0 0 = N at hr ⊢
  obtain ⟨Mc1, Mm1, b1, b2, b3, b4, b5, b6, b7⟩ := tryW hr
  have m67 : Mm1 67 1 = N 67 0 := b6.1
  have h98 := hr.m98
  have m0 : Mc1 0 3 = t := by rw [b4 0 (by unfold KC; omega)]; exact hr.1.1
  obtain ⟨⟨r, Mc2⟩, ⟨r', Mm2⟩, d1, d2, d3, d4, d5⟩ := emptyL b3 m0 (by omega)
  simp (disch := omega) only [w32_id, q_gf_e, q_gr_e, q_pf_e, q_pz_e, q_let_e, q_call_e, q_calp_e, q_al_ok, q_as_ok, q_nz_ok, up_same, up_nei, up_ne1, Int.toNat_natCast, reduceIte, Int.reduceEq, Int.reduceLT, Int.reduceLE, Int.reduceNeg, not_true_eq_false, not_false_eq_true, b1, b2, d1, d2]
  exact PW.ok d3 ⟨t, hr.frm (b4.trans d4) (b5.trans d5)⟩
/-- the stand of now goes on -/
theorem nowMR {t : Nat} {r : Int} {Mc Mc1 Mm : Mem} (h : RelT t Mc Mm) (fc : FC t Mc Mc1) (h7 : Mc1 7 0 = t ∧ Mc1 7 1 = 4 ∧ Mc1 7 2 = r ∧ Mc1 7 3 = 0 ∧ Mc1 7 4 = -1) (hr : r = 0 ∨ r = 1) : MR t 4 0 r 0 Mc1 Mm := by
  have h' := h.frm fc (FM.refl _)
  obtain ⟨-, hT, ⟨hs, -⟩, -, -, -, -, h47, h48⟩ := h'
  exact ⟨hT, .inl ⟨rfl, rfl⟩, ⟨h7.1, h7.2.1⟩, ⟨⟨h7.2.2.1, hr⟩, ⟨by rw [h7.2.2.2.1, h47], by omega, by omega⟩, ⟨by rw [h7.2.2.2.2, h48], by omega, by omega, fun h => absurd h48 h⟩⟩, hs.1, hs.2.1, hs.2.2⟩
/-- the relation behind minutes of now, with no deed to be undone -/
theorem nowRel {t : Nat} {r : Int} {Mc Mc' Mm Mm' : Mem} (h : RelT t Mc Mm) (fc : ∀ n, n ≠ 4 → n ≠ 8 → (n < 162 ∨ 168 < n) → KC t n → Mc' n = Mc n) (fm : ∀ n, (n < 67 ∨ 76 < n) → n ≠ 0 → n ≠ 64 → n ≠ 65 → n ≠ 82 → Mm' n = Mm n) (f0 : ∀ f, f ≠ 34 → f ≠ 51 → f ≠ 46 → f ≠ 0 → Mm' 0 f = Mm 0 f) (f1 : ∀ n i, 67 ≤ n → n ≤ 69 → i ≠ 0 → Mm' n i = Mm n i) (f2 : ∀ n i, 70 ≤ n → n ≤ 76 → 8 ≤ i → Mm' n i = Mm n i) (hm : MR t 4 0 r 0 Mc' Mm') (h98 : Mm' 67 0 ≤ 9800) (hd : Mc' 8 3 = 0 ∧ Mm' 0 46 = 0) : RelT t Mc' Mm' := by
  obtain ⟨h1, hT, -, h4, -, h6, h7, h8, h9⟩ := h
  have ht := hT.1
  have hS := hT.2.1
  have e35 : Mm' 35 = Mm 35 := fm 35 (by omega) (by omega) (by omega) (by omega) (by omega)
  have c0 : Mc' 0 = Mc 0 := fc 0 (by omega) (by omega) (by omega) (by unfold KC; omega)
  have c1 : Mc' 1 = Mc 1 := fc 1 (by omega) (by omega) (by omega) (by unfold KC; omega)
  refine ⟨by rw [c0, c1]; exact h1, hm.1, ⟨⟨hm.2.2.2.2.1, hm.2.2.2.2.2.1, hm.2.2.2.2.2.2⟩, ?_⟩, ?_, ⟨by rw [hd.1, hd.2], by omega, by omega, fun j a b => by omega⟩, ?_, ?_, by rw [f0 47 (by omega) (by omega) (by omega) (by omega)]; exact h8, by rw [f0 48 (by omega) (by omega) (by omega) (by omega)]; exact h9⟩
  · have := hm.raw.1; omega
  · rw [c0, f0 45 (by omega) (by omega) (by omega) (by omega), e35]
    refine ⟨h4.1, h4.2.1, fun c => ?_⟩
    obtain ⟨g1, g2⟩ := h4.2.2 c
    have ec : VEQ (cvw 6 Mc) (cvw 6 Mc') := by
      have e6 : Mc' 6 = Mc 6 := fc 6 (by omega) (by omega) (by omega) (by unfold KC; omega)
      refine ⟨?_, ?_, ?_, fun f i a b c d => ?_⟩
      · show Mc 6 0 = Mc' 6 0; rw [e6]
      · show Mc 6 1 = Mc' 6 1; rw [e6]
      · show Mc 6 9 = Mc' 6 9; rw [e6]
      · unfold cvw
        rw [if_neg (by omega), if_neg (by omega), fc (32 * (6 + 1) + f) (by omega) (by omega) (by omega) (by unfold KC; omega)]
    have em : VEQ (mvw 2 Mm) (mvw 2 Mm') := by
      refine ⟨(f1 67 2 (by omega) (by omega) (by omega)).symm, (f1 68 2 (by omega) (by omega) (by omega)).symm, (f1 69 2 (by omega) (by omega) (by omega)).symm, fun f i a b c d => ?_⟩
      have e : 70 ≤ mvc f ∧ mvc f ≤ 76 := by unfold mvc; split <;> omega
      have ef : f ≠ 0 := by omega
      simp only [mvw, if_neg ef]
      exact (f2 _ _ e.1 e.2 (by omega)).symm
    have k1 := VEQ.to (S := Mm 35 0) ec (by omega) (by have := g1.2.1.2.2.1; omega)
    have k2 := VEQ.to (S := Mm 35 0) em (by omega) (by have := g1.2.1.2.2.1; have := g1.1.2.2.1; omega)
    refine ⟨⟨k1.symm.trans (g1.1.trans k2), WFB.of g1.2.1 k1, NOB.of g1.2.2 em (by omega)⟩, ?_⟩
    rw [fc 6 (by omega) (by omega) (by omega) (by unfold KC; omega)]
    exact g2
  · rw [e35]
    unfold NR at h6 ⊢
    rw [fc 9 (by omega) (by omega) (by omega) (by unfold KC; omega), fc 320 (by omega) (by omega) (by omega) (by unfold KC; omega), fc 321 (by omega) (by omega) (by omega) (by unfold KC; omega), fc 322 (by omega) (by omega) (by omega) (by unfold KC; omega), f0 58 (by omega) (by omega) (by omega) (by omega), f0 59 (by omega) (by omega) (by omega) (by omega), fm 92 (by omega) (by omega) (by omega) (by omega) (by omega), fm 93 (by omega) (by omega) (by omega) (by omega) (by omega), fm 94 (by omega) (by omega) (by omega) (by omega) (by omega), fm 95 (by omega) (by omega) (by omega) (by omega) (by omega)]
    exact h6
  · unfold FR at h7 ⊢
    rw [c0, c1, fc 32 (by omega) (by omega) (by omega) (by unfold KC; omega), fc 352 (by omega) (by omega) (by omega) (by unfold KC; omega), f0 2 (by omega) (by omega) (by omega) (by omega), f0 28 (by omega) (by omega) (by omega) (by omega), f0 29 (by omega) (by omega) (by omega) (by omega), fm 33 (by omega) (by omega) (by omega) (by omega) (by omega)]
    exact h7
