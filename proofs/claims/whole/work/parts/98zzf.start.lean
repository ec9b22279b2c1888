/-! the start of a text: both sides -/
def fmT (M M' : Mem) : Prop := ∀ n i, ¬ (n = 0 ∧ (i = 0 ∨ i = 2 ∨ (19 ≤ i ∧ i ≤ 31 ∧ i ≠ 28 ∧ i ≠ 29))) → ¬ (n = 35 ∧ 7 ≤ i) → ¬ (36 ≤ n ∧ n ≤ 39 ∧ 8 ≤ i) → ¬ (40 ≤ n ∧ n ≤ 44 ∧ 4 ≤ i) → ¬ ((n = 45 ∨ n = 46) ∧ 8 ≤ i) → ¬ ((n = 47 ∨ n = 48) ∧ 3 ≤ i) → ¬ ((n = 49 ∨ n = 50) ∧ 64 ≤ i) → M' n i = M n i
theorem fmT.w {M M' M'' : Mem} (h : fmT M M') (h' : fmW M' M'') : fmT M M'' := fun n i a b c d e f g => by rw [h' n i (by omega) b c d e f g, h n i a b c d e f g]
set_option maxHeartbeats 2000000 in
theorem startW {t u : Nat} {Mc Mm : Mem} {a0 : Int} (h : RelT t Mc Mm) (hu : u + t = 5) (ha : 0 ≤ a0 ∧ a0 ≤ Mm 0 2) : ∃ Zc Zm, f_X4_read a0 (up Mc 0 1 0) = f_X4_read_L32 q_N 0 Zc ∧ f_X10_text a0 Mm = f_X10_text_L126 q_N Zm ∧ RLn u a0 Zc Zm ∧ (0 ≤ Zm 0 22 ∧ (Zm 0 24 ≠ 4 → 1 ≤ Zm 0 22)) ∧ Zm 0 20 = 0 ∧ Zm 0 2 = 0 ∧ fcW u (up Mc 0 1 0) Zc ∧ fmT Mm Zm := by
  obtain ⟨⟨h03, h12⟩, hT, -, -, -, -, ⟨⟨f1, f2, f3⟩, f4, f5, f6, f7⟩, -, -⟩ := h
  have ht := hT.1
  have hu2 : u = 2 ∨ u = 3 := by omega
  -- the program
  obtain ⟨M2, hM2⟩ : ∃ M, M = up Mc 0 1 0 := ⟨_, rfl⟩
  have m2N : ∀ n, n ≠ 0 → M2 n = Mc n := fun n z => by rw [hM2, up_ne1 z]
  have tu : (M2 1 2).toNat = u := by rw [m2N 1 (by omega), h12]; omega
  obtain ⟨q1, q2, q3, q4, q5, q6⟩ := CLC.is (M := M2) hu2
  obtain ⟨Ac, hAc⟩ : ∃ A, A = up (up (up (up (up (CLC u M2) 1 3 0) 1 4 0) 1 5 (-1)) 10 2 a0) 10 3 0 := ⟨_, rfl⟩
  have aN : ∀ n, n ≠ 1 → n ≠ 10 → Ac n = CLC u M2 n := fun n z1 z2 => by
    rw [hAc, up_ne1 z2, up_ne1 z2, up_ne1 z1, up_ne1 z1, up_ne1 z1]
  have aM : ∀ n, n ≠ 1 → n ≠ 10 → n ≠ u → n ≠ u + 10 → n ≠ 32 * (u + 1) + 4 → n ≠ 32 * (u + 1) + 5 → n ≠ 32 * (u + 11) + 2 → n ≠ 32 * (u + 11) + 3 → Ac n = M2 n := fun n z1 z2 z3 z4 z5 z6 z7 z8 => by
    rw [aN n z1 z2, q6 n z3 z4 z5 z6 z7 z8]
  have a12 : ∀ i, i ≠ 3 → i ≠ 4 → i ≠ 5 → Ac 1 i = M2 1 i := fun i z3 z4 z5 => by
    rw [hAc, up_ne1 (by omega), up_ne1 (by omega), up_nei z5, up_nei z4, up_nei z3, q6 1 (by omega) (by omega) (by omega) (by omega) (by omega) (by omega)]
  have a13 : Ac 1 3 = 0 := by rw [hAc, up_ne1 (by omega), up_ne1 (by omega), up_nei (by omega), up_nei (by omega), up_same]
  have a14 : Ac 1 4 = 0 := by rw [hAc, up_ne1 (by omega), up_ne1 (by omega), up_nei (by omega), up_same]
  have a15 : Ac 1 5 = -1 := by rw [hAc, up_ne1 (by omega), up_ne1 (by omega), up_same]
  have a102 : Ac 10 2 = a0 := by rw [hAc, up_nei (by omega), up_same]
  have a103 : Ac 10 3 = 0 := by rw [hAc, up_same]
  have hmin : q_min a0 ((700 : Nat) : Int) = a0 := by
    unfold q_min
    rw [w32_id (x := a0) (by omega), w32_id (x := ((700 : Nat) : Int)) (by omega), if_neg (by omega)]
  have eC : ∀ Zc, f_X7_advance Ac = some (0, Zc) → f_X4_read a0 M2 = f_X4_read_L32 q_N 0 Zc := by
    intro Zc e
    unfold f_X4_read f_X7_start
    rw [q_gr_e, tu, clearC (by omega), q_call_e, q_pf_e, q_pf_e, q_pf_e, hmin, q_pf_e, q_pf_e, ← hAc, e, q_call_e, q_call_e]
  -- the reference
  obtain ⟨M7, hM7⟩ : ∃ M, M = up (up (up (up (up (up Mm 0 0 0) 0 21 a0) 0 2 0) 0 22 0) 0 26 0) 0 27 (-1) := ⟨_, rfl⟩
  have m7N : ∀ n, n ≠ 0 → M7 n = Mm n := fun n z => by rw [hM7, up_ne1 z, up_ne1 z, up_ne1 z, up_ne1 z, up_ne1 z, up_ne1 z]
  obtain ⟨Y, hY⟩ : ∃ Y, Y = S3 6 (R7 7 M7) := ⟨_, rfl⟩
  obtain ⟨Am, hAm⟩ : ∃ A, A = up (up (up (up Y 0 19 0) 0 20 0) 0 30 0) 0 31 0 := ⟨_, rfl⟩
  have y0 : ∀ i, Y 0 i = M7 0 i := fun i => by
    rw [hY]; unfold S3 R7
    rw [if_neg (by omega), if_neg (by omega)]
  have eM : f_X10_text_L47 q_N 0 M7 = tailM Y := by
    have z0 : R7 0 M7 = M7 := by
      funext n i
      unfold R7
      rw [if_neg (by omega)]
    have z3 : S3 3 (R7 7 M7) = R7 7 M7 := by
      funext n i
      unfold S3
      rw [if_neg (by omega)]
    obtain ⟨n1, hn1⟩ : ∃ n, n + 7 + 1 = q_N := ⟨99992, rfl⟩
    obtain ⟨n2, hn2⟩ : ∃ n, n + 3 + 1 = q_N := ⟨99996, rfl⟩
    have e1 := L47M (M := M7) 7 n1 0 (by omega) (by omega)
    have e2 := L76M (M := R7 7 M7) 3 n2 3 (by omega) (by omega)
    rw [hn1, z0] at e1
    rw [hn2, z3] at e2
    rw [e1, e2, hY]
  have eR : ∀ Zm, f_X10_token Am = some (0, Zm) → f_X10_text a0 Mm = f_X10_text_L126 q_N Zm := by
    intro Zm e
    unfold f_X10_text
    rw [q_pf_e, w32_id (x := a0) (by omega), if_neg (by omega), q_gf_e, up_nei (n := 0) (i := 0) (i' := 2) (by omega), w32_id (x := Mm 0 2) (by omega), if_pos ha.2, q_pf_e, q_pf_e, q_pf_e, q_pf_e, q_pf_e, ← hM7, eM]
    unfold tailM
    rw [← hAm, e, q_call_e]
  have b0 : ∀ j, j ≠ 0 → j ≠ 2 → j ≠ 19 → j ≠ 20 → j ≠ 21 → j ≠ 22 → j ≠ 26 → j ≠ 27 → j ≠ 30 → j ≠ 31 → Am 0 j = Mm 0 j := fun j z1 z2 z3 z4 z5 z6 z7 z8 z9 z10 => by
    rw [hAm, up_nei z10, up_nei z9, up_nei z4, up_nei z3, y0, hM7, up_nei z8, up_nei z7, up_nei z6, up_nei z2, up_nei z5, up_nei z1]
  have b19 : Am 0 19 = 0 := by rw [hAm, up_nei (by omega), up_nei (by omega), up_nei (by omega), up_same]
  have b20 : Am 0 20 = 0 := by rw [hAm, up_nei (by omega), up_nei (by omega), up_same]
  have b30 : Am 0 30 = 0 := by rw [hAm, up_nei (by omega), up_same]
  have b31 : Am 0 31 = 0 := by rw [hAm, up_same]
  have b21 : Am 0 21 = a0 := by rw [hAm, up_nei (by omega), up_nei (by omega), up_nei (by omega), up_nei (by omega), y0, hM7, up_nei (by omega), up_nei (by omega), up_nei (by omega), up_nei (by omega), up_same]
  have b22 : Am 0 22 = 0 := by rw [hAm, up_nei (by omega), up_nei (by omega), up_nei (by omega), up_nei (by omega), y0, hM7, up_nei (by omega), up_nei (by omega), up_same]
  have b26 : Am 0 26 = 0 := by rw [hAm, up_nei (by omega), up_nei (by omega), up_nei (by omega), up_nei (by omega), y0, hM7, up_nei (by omega), up_same]
  have b27 : Am 0 27 = -1 := by rw [hAm, up_nei (by omega), up_nei (by omega), up_nei (by omega), up_nei (by omega), y0, hM7, up_same]
  have b2 : Am 0 2 = 0 := by rw [hAm, up_nei (by omega), up_nei (by omega), up_nei (by omega), up_nei (by omega), y0, hM7, up_nei (by omega), up_nei (by omega), up_nei (by omega), up_same]
  have bY : ∀ n, n ≠ 0 → Am n = Y n := fun n z => by rw [hAm, up_ne1 z, up_ne1 z, up_ne1 z, up_ne1 z]
  have bN : ∀ n i, n ≠ 0 → ¬ (n = 35 ∧ 7 ≤ i) → ¬ ((n = 47 ∨ n = 48) ∧ 3 ≤ i) → Am n i = Mm n i := fun n i z1 z2 z3 => by
    rw [bY n z1, hY]; unfold S3 R7
    rw [if_neg (by omega), if_neg (by omega), m7N n z1]
  have b35 : ∀ i, 7 ≤ i → i < 14 → Am 35 i = if i = 10 then 2 else 0 := fun i z1 z2 => by
    rw [bY 35 (by omega), hY]; unfold S3 R7
    rw [if_neg (by omega), if_pos (by omega)]
  have b47 : ∀ n i, (n = 47 ∨ n = 48) → 3 ≤ i → i < 6 → Am n i = 0 := fun n i z1 z2 z3 => by
    rw [bY n (by omega), hY]; unfold S3
    rw [if_pos (by omega)]
  have htb : TB a0 Ac Am := by
    unfold TB BY
    rw [a102, a103, b21, b22, aM 32 (by omega) (by omega) (by omega) (by omega) (by omega) (by omega) (by omega) (by omega), aM 352 (by omega) (by omega) (by omega) (by omega) (by omega) (by omega) (by omega) (by omega), m2N 32 (by omega), m2N 352 (by omega)]
    refine ⟨⟨by omega, fun i z1 z2 => ?_⟩, f7, rfl, rfl, rfl, by omega, by omega⟩
    rw [bN 33 i (by omega) (by omega) (by omega)]
    exact f4 i z1 (by omega)
  obtain ⟨Zc, Zm, i1, i2, i3, i4, i5⟩ := NXT.of2 htb
  obtain ⟨d1, d2, d3, d4, d5⟩ := i3.wM
  rw [b22] at i5 d5
  have d0 : ∀ j, j ≠ 22 → j ≠ 23 → j ≠ 24 → j ≠ 25 → Zm 0 j = Am 0 j := fun j z1 z2 z3 z4 => i3.2.1 0 j (by omega)
  have s0 : ∀ i, 7 ≤ i → i < 14 → Zm 35 i = if i = 10 then 2 else 0 := fun i z1 z2 => by rw [d2 35 (by omega), b35 i z1 z2]
  refine ⟨Zc, Zm, ?_, eR Zm i2, ?_, ⟨d5, fun z => by have := i5 z; omega⟩, by rw [d0 20 (by omega) (by omega) (by omega) (by omega), b20], by rw [d0 2 (by omega) (by omega) (by omega) (by omega), b2], ?_, ?_⟩
  · rw [← hM2]; exact eC Zc i1
  · have s7 := s0 7 (by omega) (by omega)
    have s8 := s0 8 (by omega) (by omega)
    have s9 := s0 9 (by omega) (by omega)
    have s10 := s0 10 (by omega) (by omega)
    have s11 := s0 11 (by omega) (by omega)
    have s12 := s0 12 (by omega) (by omega)
    have s13 := s0 13 (by omega) (by omega)
    rw [if_neg (by omega)] at s7 s8 s9 s11 s12 s13
    rw [if_pos rfl] at s10
    have cu : Zc u = CLC u M2 u := by rw [d1 u (by omega), aN u (by omega) (by omega)]
    have cv : Zc (u + 10) = CLC u M2 (u + 10) := by rw [d1 _ (by omega), aN _ (by omega) (by omega)]
    have l47 : ∀ l, 0 ≤ l → l < 3 → Zm 47 (3 + l) = 0 ∧ Zm 48 (3 + l) = 0 := fun l z1 z2 => ⟨by rw [d2 47 (by omega), b47 47 _ (.inl rfl) (by omega) (by omega)], by rw [d2 48 (by omega), b47 48 _ (.inr rfl) (by omega) (by omega)]⟩
    have cl : ∀ l, 0 ≤ l → l < 3 → Zc (32 * (u + 11) + 2) l = 0 ∧ Zc (32 * (u + 11) + 3) l = 0 := fun l z1 z2 => by
      rw [d1 _ (by omega), d1 _ (by omega), aN _ (by omega) (by omega), aN _ (by omega) (by omega)]
      exact q5 l z1 z2
    refine ⟨⟨hu2, ?_, i3.2.2.1, i3.2.2.2.1, by rw [i4, b26], ?_, ?_, ?_, ?_, ?_⟩, ?_, ?_, ?_, ?_⟩
    · rw [d1 1 (by omega), a12 2 (by omega) (by omega) (by omega), m2N 1 (by omega), h12]; omega
    · refine ⟨hu2, ?_, ?_, ?_, ?_, ?_, ?_, ?_, ?_, ?_, ?_⟩
      · show Zc u 0 = Zm 35 7 ∧ 0 ≤ Zm 35 7 ∧ Zm 35 7 ≤ 8
        rw [cu, q1 0 (by omega), s7]; omega
      · show Zc u 7 = Zm 35 8 ∧ 0 ≤ Zm 35 8 ∧ Zm 35 8 ≤ 4
        rw [cu, q1 7 (by omega), s8]; omega
      · show Zc u 13 = Zm 35 10 ∧ 0 ≤ Zm 35 10 ∧ Zm 35 10 ≤ 8
        rw [cu, q2, s10]; omega
      · show Zc u 14 = Zm 35 11 ∧ 0 ≤ Zm 35 11 ∧ Zm 35 11 ≤ 100
        rw [cu, q1 14 (by omega), s11]; omega
      · show Zc u 15 = Zm 35 12 ∧ 0 ≤ Zm 35 12 ∧ Zm 35 12 ≤ 99999
        rw [cu, q1 15 (by omega), s12]; omega
      · show Zc (u + 10) 6 = Zm 35 13 ∧ 0 ≤ Zm 35 13 ∧ Zm 35 13 ≤ 64
        rw [cv, q4 6 (by omega), s13]; omega
      · intro p z1 z2
        have z2 : p < Zm 35 7 := z2
        omega
      · refine ⟨?_, ?_, fun j z1 z2 => ?_⟩
        · show 0 ≤ Zm 35 9; omega
        · show Zm 35 9 ≤ 8; omega
        · have z2 : j < Zm 35 9 := z2
          omega
      · intro p z1 z2
        have z2 : p < Zm 35 8 := z2
        omega
      · intro l z1 z2
        have e47 : hv Zm 47 l = 0 := (l47 l z1 z2).1
        have e48 : hv Zm 48 l = 0 := (l47 l z1 z2).2
        rw [e47, e48, (cl l z1 z2).1, (cl l z1 z2).2]
        exact ⟨rfl, rfl, by omega, by omega, by omega, fun i z3 z4 => by omega, .inl rfl⟩
    · rw [cu, q1 6 (by omega), s9]
    · intro p z1 z2
      rw [d1 _ (by omega), aN _ (by omega) (by omega)]
      exact q3 p (by omega) z2
    · intro k z1 z2
      rw [d1 1 (by omega), a13, a14, a15, d0 19 (by omega) (by omega) (by omega) (by omega), b19, d0 27 (by omega) (by omega) (by omega) (by omega), b27]
      exact ⟨rfl, rfl, rfl, rfl⟩
    · intro l z1 z2
      rw [(cl l z1 z2).1, (cl l z1 z2).2, d0 19 (by omega) (by omega) (by omega) (by omega), b19, Bt_0]
      exact ⟨fun z => by omega, fun z => by cases z⟩
    · rw [cv, q4 5 (by omega), s13]
    · rw [d0 31 (by omega) (by omega) (by omega) (by omega), b31, s13]
    · rw [d0 30 (by omega) (by omega) (by omega) (by omega), b30]
    · intro l z1 z2
      rw [(l47 l z1 z2).2, s13]; omega
  · rw [← hM2]
    intro n i z1 z2 z3 z4 z5 z6 z7 z8
    rw [d1 n z1]
    by_cases c : n = 1
    · subst c; rw [a12 i (by omega) (by omega) (by omega)]
    · rw [aM n c z1 z3 z4 (by omega) (by omega) (by omega) (by omega)]
  · intro n i z1 z2 z3 z4 z5 z6 z7
    by_cases c : n = 0
    · subst c
      by_cases c2 : i = 22 ∨ i = 23 ∨ i = 24 ∨ i = 25
      · omega
      · rw [d0 i (by omega) (by omega) (by omega) (by omega), b0 i (by omega) (by omega) (by omega) (by omega) (by omega) (by omega) (by omega) (by omega) (by omega) (by omega)]
    · rw [d2 n c, bN n i c z2 z6]
