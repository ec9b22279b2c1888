def TG (t : Nat) (s : Int) (Mc Mm : Mem) (x y : Int × Mem) : Prop := y.1 = 0 ∧ FC t Mc x.2 ∧ FM Mm y.2 ∧ (0 ≤ y.2 71 (8 + s) ∧ y.2 71 (8 + s) ≤ 3) ∧ ((x.1 = -2 ∧ y.2 71 (8 + s) ≠ 2) ∨ (0 ≤ x.1 ∧ x.1 ≤ 60 ∧ y.2 71 (8 + s) = 2))
theorem tgW {t : Nat} {s : Int} {Mc Mm : Mem} (h : MR t 5 1 0 0 Mc Mm) (hs : 0 ≤ s ∧ s < Mm 35 0) (hm : Mm 67 1 ≤ 9800) : W2 (f_X3_tillGone s 60 Mc) (f_X10_goesOn 60 Mm) some some (TG t s Mc Mm) := by
  have hS := h.1.2.1
  have ht := h.1.1
  have e2 : Mc (32 * (5 + 1) + 2) s = Mm 71 (8 + s) := (h.raw.2.2.2.2 s hs.1 hs.2).1
  have rg : 0 ≤ Mm 71 (8 + s) ∧ Mm 71 (8 + s) ≤ 3 := (h.rng.2.2.2.2.2 s hs.1 hs.2).1
  obtain ⟨h70, h71⟩ := h.2.2.1
  unfold f_X3_tillGone f_X10_goesOn f_X10_goesOn_L2
  simp (disch := omega) only [w32_id, q_gf_e, q_gr_e, q_pf_e, q_pz_e, q_let_e, q_call_e, q_calp_e, q_al_ok, q_as_ok, q_nz_ok, up_same, up_nei, up_ne1, Int.toNat_natCast, reduceIte, Int.reduceEq, Int.reduceLT, Int.reduceLE, Int.reduceNeg, not_true_eq_false, not_false_eq_true, h71, e2]
  by_cases c3 : Mm 71 (8 + s) = 3
  · rw [if_neg (by simp [c3])]
    obtain ⟨z, z1, z2⟩ := goesRest (N := 60) q_N 0 Mm ⟨Mc, h⟩ (by omega) (by omega) (by omega) (q_N_lt (by omega)) (by omega)
    have e3 : z 71 (8 + s) = 3 := (z2.2.2.2.2 s hs.1 (by omega) (by show 2 ≤ Mm 71 (8 + s); omega)).trans c3
    exact W2.ok (-2, Mc) (0, z) rfl z1 ⟨rfl, FC.refl _ _, z2.fm, by show 0 ≤ z 71 (8 + s) ∧ z 71 (8 + s) ≤ 3; omega, .inl ⟨rfl, by show z 71 (8 + s) ≠ 2; omega⟩⟩
  · rw [if_pos c3]
    unfold f_X3_tillGone_L18
    refine lock2 (fun m (u : Int × Mem) => qlm1 (fun x3 M g18 => f_X3_tillGone_B18 s 60 x3 M g18) m u.1 u.2) (fun m (u : Int × Mem) => qlm1 (fun x2 M g2 => f_X10_goesOn_B2 60 x2 M g2) m u.1 u.2) _ _ _ (fun u v => u.1 = v.1 ∧ 0 ≤ v.1 ∧ v.1 ≤ 60 ∧ MN t 5 1 0 v.1 Mc Mm u.2 v.2) (fun u v => (60 - v.1).toNat) ?_ q_N q_N (0, Mc) (0, Mm) ⟨rfl, by show (0 : Int) ≤ 0; omega, by show (0 : Int) ≤ 60; omega, h, GC.refl _ _, GM.refl _ _, by show Mm 67 1 = Mm 67 1 + 0; omega⟩ (q_N_lt (by show (60 - 0 : Int).toNat < 100000; omega)) (q_N_lt (by show (60 - 0 : Int).toNat < 100000; omega))
    intro m m' ⟨x, M⟩ ⟨y, M'⟩ f1 f2 ⟨i1, i2, i3, i4⟩ ih
    simp only at f1 f2 i1 i2 i3 i4 ih
    subst i1
    have m35 : M' 35 = Mm 35 := i4.2.2.1.1 35 (by omega) (by omega) (by omega) (by omega) (by omega)
    have e2' : M (32 * (5 + 1) + 2) s = M' 71 (8 + s) := (i4.1.raw.2.2.2.2 s hs.1 (by rw [m35]; exact hs.2)).1
    have rg' : 0 ≤ M' 71 (8 + s) ∧ M' 71 (8 + s) ≤ 3 := (i4.1.rng.2.2.2.2.2 s hs.1 (by rw [m35]; exact hs.2)).1
    obtain ⟨h70, h71⟩ := i4.1.2.2.1
    have fc := i4.2.1.fc ht
    have fm := i4.2.2.1.fm
    obtain ⟨z, z1, z2⟩ := goesRest (N := 60) (m' + 1) x M' ⟨M, i4.1⟩ i2 i3 (by omega) (by omega) (by rw [i4.2.2.2]; omega)
    show W2 (f_X3_tillGone_B18 s 60 x M (qlm1 (fun x3 M g18 => f_X3_tillGone_B18 s 60 x3 M g18) m)) (qlm1 (fun x2 M g2 => f_X10_goesOn_B2 60 x2 M g2) (m' + 1) x M') _ _ _
    by_cases c : M' 71 (8 + s) = 2
    · rw [z1]
      have e3 : z 71 (8 + s) = 2 := (z2.2.2.2.2 s hs.1 (by omega) (by show 2 ≤ M' 71 (8 + s); omega)).trans c
      unfold f_X3_tillGone_B18
      simp (disch := omega) only [w32_id, q_gf_e, q_gr_e, q_pf_e, q_pz_e, q_let_e, q_call_e, q_calp_e, q_al_ok, q_as_ok, q_nz_ok, up_same, up_nei, up_ne1, Int.toNat_natCast, reduceIte, Int.reduceEq, Int.reduceLT, Int.reduceLE, Int.reduceNeg, not_true_eq_false, not_false_eq_true, h71, e2', c]
      refine W2.ok (x, M) (0, z) ?_ rfl ⟨rfl, fc, fm.trans z2.fm, by show 0 ≤ z 71 (8 + s) ∧ z 71 (8 + s) ≤ 3; omega, .inr ⟨i2, i3, e3⟩⟩
      by_cases c9 : 60 ≤ x
      · rw [if_pos c9, show x = 60 by omega]
      · rw [if_neg c9]
    · by_cases c9 : 60 ≤ x
      · have e : qlm1 (fun x2 M g2 => f_X10_goesOn_B2 60 x2 M g2) (m' + 1) x M' = some (0, M') := by
          show f_X10_goesOn_B2 60 x M' (qlm1 (fun x2 M g2 => f_X10_goesOn_B2 60 x2 M g2) m') = _
          unfold f_X10_goesOn_B2
          rw [w32_id (by omega), w32_id (by omega), if_pos c9]
        rw [e]
        unfold f_X3_tillGone_B18
        simp (disch := omega) only [w32_id, q_gf_e, q_gr_e, q_pf_e, q_pz_e, q_let_e, q_call_e, q_calp_e, q_al_ok, q_as_ok, q_nz_ok, up_same, up_nei, up_ne1, Int.toNat_natCast, reduceIte, Int.reduceEq, Int.reduceLT, Int.reduceLE, Int.reduceNeg, not_true_eq_false, not_false_eq_true, h71, e2']
        rw [if_pos c9, if_pos c]
        exact W2.ok (-2, M) (0, M') rfl rfl ⟨rfl, fc, fm, rg', .inl ⟨rfl, c⟩⟩
      · obtain ⟨M1, N1, a1, a2, a3, a4, a5, a6⟩ := pass1W i4.1 (by rw [i4.2.2.2]; omega)
        show W2 (f_X3_tillGone_B18 s 60 x M (qlm1 (fun x3 M g18 => f_X3_tillGone_B18 s 60 x3 M g18) m)) (f_X10_goesOn_B2 60 x M' (qlm1 (fun x2 M g2 => f_X10_goesOn_B2 60 x2 M g2) m')) _ _ _
        generalize hGc : qlm1 (fun x3 M g18 => f_X3_tillGone_B18 s 60 x3 M g18) m = Gc at ih ⊢
        generalize hGm : qlm1 (fun x2 M g2 => f_X10_goesOn_B2 60 x2 M g2) m' = Gm at ih ⊢
        unfold f_X3_tillGone_B18 f_X10_goesOn_B2
        simp (disch := omega) only [w32_id, q_gf_e, q_gr_e, q_pf_e, q_pz_e, q_let_e, q_call_e, q_calp_e, q_al_ok, q_as_ok, q_nz_ok, up_same, up_nei, up_ne1, Int.toNat_natCast, reduceIte, Int.reduceEq, Int.reduceLT, Int.reduceLE, Int.reduceNeg, not_true_eq_false, not_false_eq_true, h71, e2', a1, a2]
        rw [if_neg c9, if_pos c, if_neg c9]
        exact ih (x + 1, M1) (x + 1, N1) ⟨rfl, by show 0 ≤ x + 1; omega, by show x + 1 ≤ 60; omega, a3, i4.2.1.trans a4, i4.2.2.1.trans a5, by show N1 67 1 = Mm 67 1 + (x + 1); rw [a6, i4.2.2.2]; omega⟩ (by show (60 - (x + 1)).toNat < (60 - x).toNat; omega)
/-- one try with so many coins more -/
theorem gbW {t : Nat} {s more : Int} {Mc N : Mem} (hr : RelT t Mc N) (hs : 0 ≤ s ∧ s < N 35 0) (hmo : 0 ≤ more ∧ more ≤ 99) : ∃ M3 r Mc1 z Mm1, f_X9_tryFromNow Mc = some (0, M3) ∧ M3 195 s = N 72 s ∧ f_X3_tillGone s 60 (up M3 195 s (if 99 < N 72 s + more then 99 else N 72 s + more)) = some (r, Mc1) ∧ f_X10_isGoneBy s more N = some (z, Mm1) ∧ FC t Mc Mc1 ∧ FM N Mm1 ∧ ((z = 0 ∧ r = -2) ∨ (z = 1 ∧ 0 ≤ r ∧ r ≤ 60)) := by
  have h98 := hr.m98
  have hT := hr.2.1
  have ht := hT.1
  have hS := hT.2.1
  obtain ⟨M3, N3, b1, b2, b3, b4, b5, b6, b7⟩ := tryW hr
  have m67 : N3 67 1 = N 67 0 := b6.1
  have e35 : N3 35 = N 35 := b5.1 35 (by omega)
  have c72 : N3 72 (8 + s) = N 72 s := by
    have := b6.2.2.2 3 s (by omega) (by omega) hs.1 (by omega)
    simpa [mvw, mvc] using this
  have c195 : M3 195 s = N3 72 (8 + s) := by
    have := (b3.raw.2.2.2.2 s hs.1 (by rw [e35]; exact hs.2)).2.1
    simpa using this
  have rC := (b3.rng.2.2.2.2.2 s hs.1 (by rw [e35]; exact hs.2)).2.1
  have rC : 0 ≤ N 72 s ∧ N 72 s ≤ 99 := by rw [← c72]; simpa using rC
  generalize hc : (if 99 < N 72 s + more then 99 else N 72 s + more) = c
  have hc' : 0 ≤ c ∧ c ≤ 99 := by rw [← hc]; split <;> omega
  have st := setW (s := s) (c := c) (f := 3) b3 (by rw [e35]; exact hs) (.inr ⟨rfl, hc'⟩)
  have st1 : MR t 5 1 0 0 (up M3 195 s c) (up N3 72 (8 + s) c) := st.1
  have q67 : up N3 72 (8 + s) c 67 1 = N 67 0 := by rw [up_ne1 (by omega)]; exact m67
  obtain ⟨⟨r, Mc1⟩, ⟨z0, Mm1⟩, d1, d2, d3, d4, d5, d6, d7⟩ := tgW (s := s) st1 (by rw [up_ne1 (by omega), e35]; exact hs) (by omega)
  simp only at d3 d4 d5 d6 d7
  have qm : q_min 99 (N 72 s + more) = c := by
    unfold q_min
    rw [w32_id (by omega), w32_id (by omega), ← hc]
    split <;> split <;> omega
  have fc1 : FC t Mc Mc1 := b4.trans ((st.2.1.fc ht).trans d4)
  have fm1 : FM N Mm1 := b5.trans (FM.trans (st.2.2.1.fm) d5)
  have hz : ∃ z, f_X10_isGoneBy s more N = some (z, Mm1) ∧ ((z = 0 ∧ r = -2) ∨ (z = 1 ∧ 0 ≤ r ∧ r ≤ 60)) := by
    unfold f_X10_isGoneBy
    rw [b2]
    simp (disch := omega) only [w32_id, q_gf_e, q_gr_e, q_pf_e, q_pz_e, q_let_e, q_call_e, q_calp_e, q_al_ok, q_as_ok, q_nz_ok, up_same, up_nei, up_ne1, Int.toNat_natCast, reduceIte, Int.reduceEq, Int.reduceLT, Int.reduceLE, Int.reduceNeg, not_true_eq_false, not_false_eq_true, c72, qm, d2]
    rcases d7 with ⟨g1, g2⟩ | ⟨g1, g2, g3⟩
    · exact ⟨0, by rw [if_pos g2], .inl ⟨rfl, g1⟩⟩
    · refine ⟨1, ?_, .inr ⟨rfl, g1, g2⟩⟩
      rw [if_neg (by simp [g3])]
  obtain ⟨z, z1, z2⟩ := hz
  exact ⟨M3, r, Mc1, z, Mm1, b1, c195.trans c72, d1, z1, fc1, fm1, z2⟩
theorem coinsTail {t : Nat} {s : Int} {Mc0 : Mem} (hno : ∀ N, RelT t Mc0 N → ∀ x, 0 ≤ x → x ≤ 99 → 99 ≤ N 72 s + x → ∃ N1, f_X10_isGoneBy s x N = some (0, N1) ∧ FM N N1) : ∀ (n : Nat) (x : Int) (N : Mem), RelT t Mc0 N → 0 ≤ x → x ≤ 100 → 99 ≤ N 72 s + x → (0 ≤ s ∧ s < 8) → (100 - x).toNat < n → ∃ N1, qlm1 (fun x2 M g17 => f_X10_coins_B17 s x2 M g17) n x N = some (-2, N1) ∧ FM N N1
  | 0, _, _, _, _, _, _, _, h => absurd h (Nat.not_lt_zero _)
  | n + 1, x, N, hr, h0, h1, h99, hs, h => by
    show ∃ N1, f_X10_coins_B17 s x N (qlm1 (fun x2 M g17 => f_X10_coins_B17 s x2 M g17) n) = some (-2, N1) ∧ FM N N1
    generalize hG : qlm1 (fun x2 M g17 => f_X10_coins_B17 s x2 M g17) n = G
    unfold f_X10_coins_B17
    (try simp (disch := omega) only [w32_id, q_gf_e, q_gr_e, q_pf_e, q_pz_e, q_let_e, q_call_e, q_calp_e, q_al_ok, q_as_ok, q_nz_ok, up_same, up_nei, up_ne1, Int.toNat_natCast, reduceIte, Int.reduceEq, Int.reduceLT, Int.reduceLE, Int.reduceNeg, not_true_eq_false, not_false_eq_true])
    by_cases c : 99 < x
    · rw [if_pos c]; exact ⟨N, rfl, FM.refl _⟩
    · rw [if_neg c]
      obtain ⟨N1, a1, a2⟩ := hno N hr x h0 (by omega) h99
      rw [a1]
      (try simp (disch := omega) only [w32_id, q_gf_e, q_gr_e, q_pf_e, q_pz_e, q_let_e, q_call_e, q_calp_e, q_al_ok, q_as_ok, q_nz_ok, up_same, up_nei, up_ne1, Int.toNat_natCast, reduceIte, Int.reduceEq, Int.reduceLT, Int.reduceLE, Int.reduceNeg, not_true_eq_false, not_false_eq_true])
      have e72 : N1 72 s = N 72 s := a2.2.2.2 72 s (by omega) (by omega) (by omega)
      obtain ⟨N2, b1, b2⟩ := coinsTail hno n (x + 1) N1 (hr.frm (FC.refl _ _) a2) (by omega) (by omega) (by omega) hs (by omega)
      rw [← hG]
      exact ⟨N2, b1, a2.trans b2⟩
theorem coinsL {t : Nat} {s : Int} {Mc N : Mem} (hr : RelT t Mc N) (hs : 0 ≤ s ∧ s < N 35 0) : W2 (f_X9_coins_L12 s q_N 0 Mc) (f_X10_coins_L17 s q_N 0 N) some some (FQ t Mc N) := by
  have hT := hr.2.1
  have hS := hT.2.1
  have eC0 : Mc 163 s = N 72 s := (hr.2.2.1.1.raw hs.1 hs.2).2.1
  have rC0 := (hr.2.2.1.1.rng hs.1 hs.2).2.1
  unfold f_X9_coins_L12 f_X10_coins_L17
  refine lock2 (fun m (u : Int × Mem) => qlm1 (fun x2 M g12 => f_X9_coins_B12 s x2 M g12) m u.1 u.2) (fun m (u : Int × Mem) => qlm1 (fun x2 M g17 => f_X10_coins_B17 s x2 M g17) m u.1 u.2) _ _ _ (fun u v => u.1 = v.1 ∧ 0 ≤ v.1 ∧ N 72 s + v.1 ≤ 100 ∧ RelT t u.2 v.2 ∧ FC t Mc u.2 ∧ FM N v.2 ∧ (99 < N 72 s + v.1 → ∃ Mc0, RelT t Mc0 v.2 ∧ ∀ N, RelT t Mc0 N → ∀ x, 0 ≤ x → x ≤ 99 → 99 ≤ N 72 s + x → ∃ N1, f_X10_isGoneBy s x N = some (0, N1) ∧ FM N N1)) (fun u v => (100 - v.1).toNat) ?_ q_N q_N (0, Mc) (0, N) ⟨rfl, by show (0 : Int) ≤ 0; omega, by show N 72 s + 0 ≤ 100; omega, hr, FC.refl _ _, FM.refl _, fun h => by have h : 99 < N 72 s + 0 := h; omega⟩ (q_N_lt (by show (100 - 0 : Int).toNat < 100000; omega)) (q_N_lt (by show (100 - 0 : Int).toNat < 100000; omega))
  intro m m' ⟨x, M⟩ ⟨y, M'⟩ f1 f2 ⟨i1, i2, i3, i4, i5, i6, i7⟩ ih
  simp only at f1 f2 i1 i2 i3 i4 i5 i6 i7 ih
  subst i1
  have e35 : M' 35 = N 35 := i6.1 35 (by omega)
  have e72 : M' 72 s = N 72 s := i6.2.2.2 72 s (by omega) (by omega) (by omega)
  have eC : M 163 s = N 72 s := by
    have : M 163 = Mc 163 := i5 163 (by unfold KC; omega)
    rw [this]; exact eC0
  show W2 (f_X9_coins_B12 s x M (qlm1 (fun x2 M g12 => f_X9_coins_B12 s x2 M g12) m)) (qlm1 (fun x2 M g17 => f_X10_coins_B17 s x2 M g17) (m' + 1) x M') _ _ _
  by_cases c : 99 < N 72 s + x
  · obtain ⟨Mc0, j1, j2⟩ := i7 c
    obtain ⟨N1, a1, a2⟩ := coinsTail j2 (m' + 1) x M' j1 i2 (by omega) (by omega) (by omega) (by omega)
    rw [a1]
    unfold f_X9_coins_B12
    simp (disch := omega) only [w32_id, q_gf_e, q_gr_e, q_pf_e, q_pz_e, q_let_e, q_call_e, q_calp_e, q_al_ok, q_as_ok, q_nz_ok, up_same, up_nei, up_ne1, Int.toNat_natCast, reduceIte, Int.reduceEq, Int.reduceLT, Int.reduceLE, Int.reduceNeg, not_true_eq_false, not_false_eq_true, eC]
    rw [if_pos c]
    exact W2.ok (-2, M) (-2, N1) rfl rfl ⟨rfl, i5, i6.trans a2⟩
  · obtain ⟨M3, r, Mc1, z, Mm1, a1, a2, a3, a4, a5, a6, a7⟩ := gbW (more := x) i4 (by rw [e35]; exact hs) (by omega)
    rw [e72] at a2 a3
    rw [if_neg c] at a3
    show W2 (f_X9_coins_B12 s x M (qlm1 (fun x2 M g12 => f_X9_coins_B12 s x2 M g12) m)) (f_X10_coins_B17 s x M' (qlm1 (fun x2 M g17 => f_X10_coins_B17 s x2 M g17) m')) _ _ _
    generalize hGc : qlm1 (fun x2 M g12 => f_X9_coins_B12 s x2 M g12) m = Gc at ih ⊢
    generalize hGm : qlm1 (fun x2 M g17 => f_X10_coins_B17 s x2 M g17) m' = Gm at ih ⊢
    unfold f_X9_coins_B12 f_X10_coins_B17
    simp (disch := omega) only [w32_id, q_gf_e, q_gr_e, q_pf_e, q_pz_e, q_let_e, q_call_e, q_calp_e, q_al_ok, q_as_ok, q_nz_ok, up_same, up_nei, up_ne1, Int.toNat_natCast, reduceIte, Int.reduceEq, Int.reduceLT, Int.reduceLE, Int.reduceNeg, not_true_eq_false, not_false_eq_true, eC, a1, a2, a3, a4]
    rw [if_neg c, if_neg (show ¬ 99 < x by omega)]
    have a7' := a7
    rcases a7' with ⟨rfl, rfl⟩ | ⟨rfl, g1, g2⟩
    · (try simp (disch := omega) only [w32_id, q_gf_e, q_gr_e, q_pf_e, q_pz_e, q_let_e, q_call_e, q_calp_e, q_al_ok, q_as_ok, q_nz_ok, up_same, up_nei, up_ne1, Int.toNat_natCast, reduceIte, Int.reduceEq, Int.reduceLT, Int.reduceLE, Int.reduceNeg, not_true_eq_false, not_false_eq_true])
      refine ih (x + 1, Mc1) (x + 1, Mm1) ⟨rfl, by show 0 ≤ x + 1; omega, by show N 72 s + (x + 1) ≤ 100; omega, i4.frm a5 a6, i5.trans a5, i6.trans a6, fun hx => ?_⟩ (by show (100 - (x + 1)).toNat < (100 - x).toNat; omega)
      have hx : 99 < N 72 s + (x + 1) := hx
      refine ⟨M, i4.frm (FC.refl _ _) a6, ?_⟩
      intro N' hN' x' x1 x2 x3
      have e35' : N' 35 0 = N 35 0 := by
        have q1 := hN'.2.1.2.1.1
        have q2 := i4.2.1.2.1.1
        rw [e35] at q2
        omega
      obtain ⟨M3', r', Mc1', z', Mm1', b1, b2, b3, b4, b5, b6, b7⟩ := gbW (more := x') hN' (by rw [e35']; exact hs) (by omega)
      rw [a1] at b1
      have eM : M3 = M3' := by simpa using b1
      subst eM
      have ec : (if 99 < N' 72 s + x' then 99 else N' 72 s + x') = N 72 s + x := by
        split <;> omega
      rw [ec, a3] at b3
      have er : r' = -2 := by simp at b3; omega
      rcases b7 with ⟨rfl, -⟩ | ⟨-, g, -⟩
      · exact ⟨Mm1', b4, b6⟩
      · omega
    · (try simp (disch := omega) only [w32_id, q_gf_e, q_gr_e, q_pf_e, q_pz_e, q_let_e, q_call_e, q_calp_e, q_al_ok, q_as_ok, q_nz_ok, up_same, up_nei, up_ne1, Int.toNat_natCast, reduceIte, Int.reduceEq, Int.reduceLT, Int.reduceLE, Int.reduceNeg, not_true_eq_false, not_false_eq_true])
      rw [if_neg (by omega)]
      exact W2.ok (x, Mc1) (x, Mm1) rfl rfl ⟨rfl, i5.trans a5, i6.trans a6⟩
theorem o_coins : rs_coins Rel := by
  intro Mc Mm a0 hR h0
  obtain ⟨t, hr⟩ := hR
  have hr := hr.thr (v := 0)
  show PW _ _
  unfold f_X9_coins f_X10_coins
  rw [q_pf_e]
  generalize up Mm 0 0 0 = N at hr ⊢
  have hR : Rel Mc N := ⟨t, hr⟩
  have h03 := hr.1.1
  have hT := hr.2.1
  have hS := hT.2.1
  have ec := isSoulC (a := a0) h03 (by omega) h0
  have em := isSoulM (M := N) (a := a0) (by omega) h0
  rw [hS.1] at ec
  rw [ec, em]
  by_cases c6 : 0 ≤ a0 ∧ a0 < N 35 0
  · rw [if_pos c6]
    obtain ⟨⟨r, Mc2⟩, ⟨r', Mm2⟩, d1, d2, d3, d4, d5⟩ := coinsL hr c6
    simp (disch := omega) only [w32_id, q_gf_e, q_gr_e, q_pf_e, q_pz_e, q_let_e, q_call_e, q_calp_e, q_al_ok, q_as_ok, q_nz_ok, up_same, up_nei, up_ne1, Int.toNat_natCast, reduceIte, Int.reduceEq, Int.reduceLT, Int.reduceLE, Int.reduceNeg, not_true_eq_false, not_false_eq_true, d1, d2]
    exact PW.ok d3 ⟨t, hr.frm d4 d5⟩
  · rw [if_neg c6]
    (try simp (disch := omega) only [w32_id, q_gf_e, q_gr_e, q_pf_e, q_pz_e, q_let_e, q_call_e, q_calp_e, q_al_ok, q_as_ok, q_nz_ok, up_same, up_nei, up_ne1, Int.toNat_natCast, reduceIte, Int.reduceEq, Int.reduceLT, Int.reduceLE, Int.reduceNeg, not_true_eq_false, not_false_eq_true])
    exact PW.ok rfl hR
