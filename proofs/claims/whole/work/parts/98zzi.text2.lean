/-! a text that holds: the new beginning -/
set_option maxHeartbeats 2000000 in
theorem textGood {t u : Nat} {L : Int} {Mc Mm Xc Xm Fc Fm B8 P N : Mem} (h : RelT t Mc Mm) (hu : u + t = 5) (fc : fcW u (up Mc 0 1 0) Xc) (fm : fmT Mm Xm) (hl : RLn u L Xc Xm) (m2 : Xm 0 2 = 0) (hN : N = up (up Xm 0 28 0) 0 29 (Xm 0 27)) (hP : P = up (up (up (up (HA N) 0 58 0) 0 59 (-1)) 0 45 0) 0 46 0) (hFm : Fm = STM 0 8 P) (hB : B8 = up (up Xc 1 2 t) 0 3 u) (hFc : Fc = up (up (up (up (BGC 4 (32 * (u + 1) + 4) (B8 u 15) 8 B8) 0 7 0) 8 3 0) 9 3 0) 9 4 (-1)) : RelT u Fc Fm := by
  have ht := h.2.1.1
  obtain ⟨⟨l1, l2, l3, l4, l5, l6, l7, l8, l9, l10⟩, -, -, -, -⟩ := hl
  obtain ⟨⟨h03, h12⟩, -, -, -, -, -, ⟨-, -, -, -, f7⟩, g8, g9⟩ := h
  obtain ⟨q1, q2, q3, q4⟩ := l9 3 (by omega) (by omega)
  have x8 : Xc 352 = Mc 352 := by
    funext i
    rw [fc 352 i (by omega) (by omega) (by omega) (by omega) (by omega) (by omega) (by omega) (by omega), up_ne1 (by omega)]
  have x01 : Xc 0 1 = 0 := by
    rw [fc 0 1 (by omega) (by omega) (by omega) (by omega) (by omega) (by omega) (by omega) (by omega), up_same]
  -- the program's memory
  have bN : ∀ n, n ≠ 0 → n ≠ 1 → B8 n = Xc n := fun n z0 z1 => by rw [hB, up_ne1 z0, up_ne1 z1]
  have gN : ∀ n, n ≠ 4 → (n < 162 ∨ 167 < n) → BGC 4 (32 * (u + 1) + 4) (B8 u 15) 8 B8 n = B8 n := fun n a b => by
    funext i; unfold BGC; rw [if_neg (by omega), if_neg (by omega), if_neg (by omega)]
  have cB : ∀ n, n ≠ 0 → n ≠ 8 → n ≠ 9 → Fc n = BGC 4 (32 * (u + 1) + 4) (B8 u 15) 8 B8 n := fun n z0 z8 z9 => by
    rw [hFc, up_ne1 z9, up_ne1 z9, up_ne1 z8, up_ne1 z0]
  have cN : ∀ n, n ≠ 0 → n ≠ 1 → n ≠ 4 → n ≠ 8 → n ≠ 9 → (n < 162 ∨ 167 < n) → Fc n = Xc n := fun n z0 z1 z4 z8 z9 z => by
    rw [cB n z0 z8 z9, gN n z4 z, bN n z0 z1]
  have c03 : Fc 0 3 = u := by
    rw [hFc, up_ne1 (by omega), up_ne1 (by omega), up_ne1 (by omega), up_nei (by omega), gN 0 (by omega) (by omega), hB, up_same]
  have c01 : Fc 0 1 = 0 := by
    rw [hFc, up_ne1 (by omega), up_ne1 (by omega), up_ne1 (by omega), up_nei (by omega), gN 0 (by omega) (by omega), hB, up_nei (by omega), up_ne1 (by omega), x01]
  have c07 : Fc 0 7 = 0 := by
    rw [hFc, up_ne1 (by omega), up_ne1 (by omega), up_ne1 (by omega), up_same]
  have c12 : Fc 1 2 = t := by
    rw [cB 1 (by omega) (by omega) (by omega), gN 1 (by omega) (by omega), hB, up_ne1 (by omega), up_same]
  have c1 : ∀ i, i ≠ 2 → Fc 1 i = Xc 1 i := fun i z => by
    rw [cB 1 (by omega) (by omega) (by omega), gN 1 (by omega) (by omega), hB, up_ne1 (by omega), up_nei z]
  have c83 : Fc 8 3 = 0 := by rw [hFc, up_ne1 (by omega), up_ne1 (by omega), up_same]
  have c93 : Fc 9 3 = 0 := by rw [hFc, up_nei (by omega), up_same]
  have c94 : Fc 9 4 = -1 := by rw [hFc, up_same]
  have c40 : Fc 4 0 = 0 := by
    rw [cB 4 (by omega) (by omega) (by omega)]; unfold BGC; rw [if_pos ⟨rfl, .inl rfl⟩]
  have c41 : Fc 4 1 = Xc u 15 := by
    rw [cB 4 (by omega) (by omega) (by omega)]; unfold BGC; rw [if_neg (by omega), if_pos ⟨rfl, rfl⟩, bN u (by omega) (by omega)]
  have c49 : Fc 4 9 = 0 := by
    rw [cB 4 (by omega) (by omega) (by omega)]; unfold BGC; rw [if_pos ⟨rfl, .inr rfl⟩]
  have cz : ∀ n p, (n = 162 ∨ n = 164 ∨ n = 165) → 0 ≤ p → p < 8 → Fc n p = 0 := fun n p z a b => by
    rw [cB n (by omega) (by omega) (by omega)]; unfold BGC; rw [if_neg (by omega), if_neg (by omega), if_pos (by omega), if_neg (by omega), if_neg (by omega)]
  have c163 : ∀ p, 0 ≤ p → p < 8 → Fc 163 p = Xc (32 * (u + 1) + 4) p := fun p a b => by
    rw [cB 163 (by omega) (by omega) (by omega)]; unfold BGC; rw [if_neg (by omega), if_neg (by omega), if_pos (by omega), if_pos (by omega), bN _ (by omega) (by omega)]
  -- the reference's
  have nX : ∀ n, n ≠ 0 → N n = Xm n := fun n z => by rw [hN, up_ne1 z, up_ne1 z]
  have n0 : ∀ j, j ≠ 28 → j ≠ 29 → N 0 j = Xm 0 j := fun j z1 z2 => by rw [hN, up_nei z2, up_nei z1]
  have pN : ∀ n, n ≠ 0 → P n = HA N n := fun n z => by rw [hP, up_ne1 z, up_ne1 z, up_ne1 z, up_ne1 z]
  have p0 : ∀ j, j ≠ 45 → j ≠ 46 → j ≠ 58 → j ≠ 59 → P 0 j = N 0 j := fun j z1 z2 z3 z4 => by
    rw [hP, up_nei z2, up_nei z1, up_nei z4, up_nei z3, HA.ne (by omega)]
  have hvN : ∀ n i, 35 ≤ n → hv N n i = hv Xm n i := fun n i z => by
    unfold hv
    rw [nX 35 (by omega), nX n (by omega)]
  have pL : ∀ n i, LOW n i → P n i = hv Xm n i := fun n i z => by
    have z' := z
    unfold LOW at z'
    rw [pN n (by omega), HA.lo z, hvN n i (by omega)]
  have sN : ∀ n, (n < 67 ∨ 76 < n) → Fm n = P n := fun n a => by
    rw [hFm]; funext i; unfold STM; rw [if_neg (by omega), if_neg (by omega), if_neg (by omega)]
  have mL : ∀ n i, LOW n i → Fm n i = hv Xm n i := fun n i z => by
    have z' := z
    unfold LOW at z'
    rw [sN n (by omega), pL n i z]
  have m0 : ∀ j, j ≠ 28 → j ≠ 29 → j ≠ 45 → j ≠ 46 → j ≠ 58 → j ≠ 59 → Fm 0 j = Xm 0 j := fun j z1 z2 z3 z4 z5 z6 => by
    rw [sN 0 (by omega), p0 j z3 z4 z5 z6, n0 j z1 z2]
  have m28 : Fm 0 28 = 0 := by rw [sN 0 (by omega), p0 28 (by omega) (by omega) (by omega) (by omega), hN, up_nei (by omega), up_same]
  have m29 : Fm 0 29 = -1 := by rw [sN 0 (by omega), p0 29 (by omega) (by omega) (by omega) (by omega), hN, up_same, q4]
  have m45 : Fm 0 45 = 0 := by rw [sN 0 (by omega), hP, up_nei (by omega), up_same]
  have m46 : Fm 0 46 = 0 := by rw [sN 0 (by omega), hP, up_same]
  have m58 : Fm 0 58 = 0 := by rw [sN 0 (by omega), hP, up_nei (by omega), up_nei (by omega), up_nei (by omega), up_same]
  have m59 : Fm 0 59 = -1 := by rw [sN 0 (by omega), hP, up_nei (by omega), up_nei (by omega), up_same]
  have hTu : TR u Fc Fm := l6.lo (fun n a => cN n (by omega) (by omega) (by omega) (by omega) (by omega) (by omega)) mL
  obtain ⟨S, eS⟩ : ∃ S, Fm 35 0 = S := ⟨_, rfl⟩
  have hS : Fc u 0 = S ∧ 0 ≤ S ∧ S ≤ 8 := by rw [← eS]; exact hTu.2.1
  have hsd : Fc u 15 = Fm 35 5 ∧ 0 ≤ Fm 35 5 ∧ Fm 35 5 ≤ 99999 := hTu.2.2.2.2.2.1
  have hco : ∀ p, 0 ≤ p → p < S → Fc (32 * (u + 1) + 4) p = Fm 39 p ∧ 0 ≤ Fm 39 p ∧ Fm 39 p ≤ 99 := fun p a b => (hTu.2.2.2.2.2.2.2.1 p a (by omega)).2.2.2.1
  have eu : Fc u = Xc u := cN u (by omega) (by omega) (by omega) (by omega) (by omega) (by omega)
  have ec : Fc (32 * (u + 1) + 4) = Xc (32 * (u + 1) + 4) := cN _ (by omega) (by omega) (by omega) (by omega) (by omega) (by omega)
  have p35 : P 35 = Fm 35 := (sN 35 (by omega)).symm
  have p39 : P 39 = Fm 39 := (sN 39 (by omega)).symm
  have w67 : Fm 67 0 = 0 := by rw [hFm]; unfold STM; rw [if_pos (by omega)]
  have w68 : Fm 68 0 = Fm 35 5 := by
    have e : Fm 68 0 = P 35 5 := by rw [hFm]; unfold STM; rw [if_neg (by omega), if_pos ⟨rfl, rfl⟩]
    rw [e, p35]
  have w69 : Fm 69 0 = 0 := by rw [hFm]; unfold STM; rw [if_pos (by omega)]
  have wz : ∀ n p, (n = 71 ∨ n = 73 ∨ n = 74) → 0 ≤ p → p < 8 → Fm n (8 * 0 + p) = 0 := fun n p z a b => by
    rw [hFm]; unfold STM; rw [if_neg (by omega), if_neg (by omega), if_pos (by omega), if_neg (by omega), if_neg (by omega)]
  have w75 : ∀ p, 0 ≤ p → p < 8 → Fm 75 (8 * 0 + p) = -1 := fun p a b => by
    rw [hFm]; unfold STM; rw [if_neg (by omega), if_neg (by omega), if_pos (by omega), if_neg (by omega), if_pos (by omega)]
  have w72 : ∀ p, 0 ≤ p → p < S → Fm 72 (8 * 0 + p) = Fm 39 p := fun p a b => by
    have e : Fm 72 (8 * 0 + p) = P 39 p := by
      rw [hFm]; unfold STM; rw [if_neg (by omega), if_neg (by omega), if_pos (by omega), if_pos rfl, p35, eS, show (8 * 0 + p - 8 * 0 : Int) = p by omega, if_pos b]
    rw [e, p39]
  have v2 : ∀ p, 0 ≤ p → p < 8 → cvw 4 Fc 2 p = 0 := fun p a b => cz 162 p (by omega) a b
  have v3 : ∀ p, 0 ≤ p → p < 8 → cvw 4 Fc 3 p = Xc (32 * (u + 1) + 4) p := fun p a b => c163 p a b
  have v4 : ∀ p, 0 ≤ p → p < 8 → cvw 4 Fc 4 p = 0 := fun p a b => cz 164 p (by omega) a b
  have v5 : ∀ p, 0 ≤ p → p < 8 → cvw 4 Fc 5 p = 0 := fun p a b => cz 165 p (by omega) a b
  have y2 : ∀ p, 0 ≤ p → p < 8 → mvw 0 Fm 2 p = 0 := fun p a b => wz 71 p (by omega) a b
  have y3 : ∀ p, 0 ≤ p → p < S → mvw 0 Fm 3 p = Fm 39 p := fun p a b => w72 p a b
  have y4 : ∀ p, 0 ≤ p → p < 8 → mvw 0 Fm 4 p = 0 := fun p a b => wz 73 p (by omega) a b
  have y5 : ∀ p, 0 ≤ p → p < 8 → mvw 0 Fm 5 p = 0 := fun p a b => wz 74 p (by omega) a b
  have y6 : ∀ p, 0 ≤ p → p < 8 → mvw 0 Fm 6 p = -1 := fun p a b => w75 p a b
  have v00 : cvw 4 Fc 0 0 = 0 := c40
  have v01 : cvw 4 Fc 0 1 = Fm 35 5 := by
    show Fc 4 1 = Fm 35 5
    rw [c41, ← eu, hsd.1]
  have v09 : cvw 4 Fc 0 9 = 0 := c49
  have y00 : mvw 0 Fm 0 0 = 0 := w67
  have y01 : mvw 0 Fm 0 1 = Fm 35 5 := w68
  have y09 : mvw 0 Fm 0 9 = 0 := w69
  have hsr : SR S 4 0 Fc Fm := by
    refine ⟨⟨by rw [v00, y00], by rw [v01, y01], by rw [v09, y09], fun i a b => by rw [v09] at b; omega, fun p a b => ?_⟩, ⟨by rw [v00]; omega, by rw [v01]; unfold in32; omega, by rw [v09]; omega, fun i a b => by rw [v09] at b; omega, fun i j a b c => by rw [v09] at c; omega, fun p a b => ?_⟩, fun p a b c => y6 p a (by omega)⟩
    · have := hco p a b
      refine ⟨by rw [v2 p a (by omega), y2 p a (by omega)], ?_, by rw [v4 p a (by omega), y4 p a (by omega)], by rw [v5 p a (by omega), y5 p a (by omega)], fun c => ?_⟩
      · rw [v3 p a (by omega), y3 p a b, ← ec, this.1]
      · rw [v2 p a (by omega)] at c; omega
    · have := hco p a b
      rw [v00, v2 p a (by omega), v3 p a (by omega), v4 p a (by omega), v5 p a (by omega), ← ec]
      exact ⟨by omega, by omega, by omega, by omega, fun c => by omega, fun c => by omega⟩
  unfold RelT
  rw [eS, c03, c12, c40, c07, m45, m0 47 (by omega) (by omega) (by omega) (by omega) (by omega) (by omega), m0 48 (by omega) (by omega) (by omega) (by omega) (by omega) (by omega)]
  refine ⟨⟨rfl, by omega⟩, hTu, ⟨hsr, by omega⟩, ⟨rfl, .inl rfl, fun c => by omega⟩, ?_, ?_, ?_, ?_, ?_⟩
  · unfold DR
    rw [c83, m46]
    exact ⟨rfl, by omega, by omega, fun j a b => by omega⟩
  · unfold NR
    rw [c93, c94, m58, m59]
    exact ⟨rfl, by omega, by omega, rfl, by omega, by omega, fun i a b => by omega⟩
  · unfold FR
    rw [c01, m0 2 (by omega) (by omega) (by omega) (by omega) (by omega) (by omega), m2, c1 4 (by omega), c1 5 (by omega), q2, q3, m28, m29, cN 352 (by omega) (by omega) (by omega) (by omega) (by omega) (by omega), x8]
    exact ⟨⟨rfl, by omega, by omega⟩, fun i a b => by omega, ⟨rfl, by unfold in32; omega⟩, ⟨rfl, by unfold in32; omega⟩, f7⟩
  · rw [fm 0 47 (by omega) (by omega) (by omega) (by omega) (by omega) (by omega) (by omega)]; exact g8
  · rw [fm 0 48 (by omega) (by omega) (by omega) (by omega) (by omega) (by omega) (by omega)]; exact g9
/-! the call text -/
set_option maxHeartbeats 1000000 in
theorem o_text : rs_text Rel := by
  intro Mc Mm a0 hR ha
  obtain ⟨t, hr⟩ := hR
  show PW _ _
  have ht := hr.2.1.1
  have hr0 := hr.thr (v := 0)
  have hF := hr.2.2.2.2.2.2.1
  obtain ⟨⟨f1, f2, f3⟩, -⟩ := id hF
  obtain ⟨h03, h12⟩ := hr.1
  unfold in32 at ha
  unfold f_X9_text
  rw [w32_id (x := a0) ha]
  by_cases c1 : a0 < 0
  · unfold f_X10_text
    rw [if_pos c1, q_pf_e, w32_id (x := a0) ha, if_pos c1]
    exact PW.ok rfl ⟨t, hr0⟩
  rw [if_neg c1, q_gf_e, f1, w32_id (x := Mm 0 2) (by omega)]
  by_cases c2 : a0 ≤ Mm 0 2
  case neg =>
    unfold f_X10_text
    rw [if_neg c2, q_pf_e, w32_id (x := a0) ha, if_neg c1, q_gf_e, up_nei (n := 0) (i := 0) (i' := 2) (by omega), w32_id (x := Mm 0 2) (by omega), if_neg c2]
    exact PW.ok rfl ⟨t, hr0⟩
  obtain ⟨u, hu⟩ : ∃ u, u + t = 5 := ⟨5 - t, by omega⟩
  obtain ⟨Zc, Zm, s1, s2, s3, s4, s5, s8, s6, s7⟩ := startW hr hu ⟨by omega, c2⟩
  obtain ⟨r, Xc, Xm, k1, k2, k3, k4, k5⟩ := linesW (u := u) (L := a0) a0.toNat q_N q_N 0 Zc Zm s3 ⟨by omega, s4.1, fun z => by have := s4.2 z; omega⟩ s5 (by omega) (q_N_lt (by omega)) (q_N_lt (by omega))
  have fcX := s6.trans k3
  have fmX := s7.w k4
  have m2 : Xm 0 2 = 0 := by rw [k4 0 2 (by omega) (by omega) (by omega) (by omega) (by omega) (by omega) (by omega), s8]
  rw [if_pos c2, q_pf_e, s1, k1, q_call_e, s2, k2]
  rcases k5 with ⟨b1, b2, b3, b4⟩ | ⟨b1, b2, b3, b4, b5⟩
  · have x03 : (Xc 0 3).toNat = t := by
      rw [fcX 0 3 (by omega) (by omega) (by omega) (by omega) (by omega) (by omega) (by omega) (by omega), up_nei (by omega), h03]; rfl
    have x12 : (Xc 1 2).toNat = u := by rw [b1.1.2.1]; rfl
    have hs : 0 ≤ Xm 35 7 ∧ Xm 35 7 ≤ 8 := b1.1.2.2.2.2.2.1.2.1.2
    obtain ⟨B8, hB⟩ : ∃ B, B = up (up Xc 1 2 t) 0 3 u := ⟨_, rfl⟩
    have eB : (B8 0 3).toNat = u := by rw [hB, up_same]; rfl
    unfold f_X4_exchange f_X5_clear
    rw [w32_id (x := r) (by omega), if_pos (show ¬ r = w32 (-1) by rw [w32_id (x := -1) (by omega)]; omega), q_gr_e, x03, q_gr_e, x12, q_pf_e, q_call_e, q_pf_e, Int.toNat_natCast, ← hB, q_gr_e, eB, q_gr_e, eB, q_gf_e, beginC (by omega) (by omega), q_call_e, q_pz_e (.inl rfl), q_pf_e, q_pf_e, q_pf_e, q_call_e, J148g b1.1.2.2.2.2.1 hs]
    exact PW.ok b2 ⟨u, textGood hr hu fcX fmX b1 m2 rfl rfl rfl hB rfl⟩
  · rw [b1, if_neg (fun z => z rfl), J148b b2]
    exact PW.ok rfl ⟨t, textBad hr hu fcX fmX b2 m2 b3 b4 b5⟩
