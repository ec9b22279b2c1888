/-! tokens: what both make of a span of blanks, digits or letters -/
def hereV (M : Mem) : Int := if M 0 21 ≤ M 0 22 then -1 else M 33 (M 0 22)
theorem hereM {M : Mem} (h1 : 0 ≤ M 0 21 ∧ M 0 21 ≤ 700) (h2 : 0 ≤ M 0 22 ∧ M 0 22 ≤ 700) : f_X10_here M = some (hereV M) := by
  unfold f_X10_here hereV
  rw [q_gf_e, q_gf_e, w32_id (by omega), w32_id (by omega)]
  by_cases c : M 0 21 ≤ M 0 22
  · rw [if_pos c, if_pos c]
  · rw [if_neg c, if_neg c]
    simp (disch := omega) only [w32_id, q_gf_e, q_gr_e, q_pf_e, q_pz_e, q_let_e, q_call_e, q_calp_e, q_al_ok, q_as_ok, q_nz_ok, up_same, up_nei, up_ne1, Int.toNat_natCast, reduceIte, Int.reduceEq, Int.reduceLT, Int.reduceLE, Int.reduceNeg, not_true_eq_false, not_false_eq_true]
/-- the reference behind the blanks -/
def tokM (M : Mem) : Res := q_gf M 0 22 fun v3 => q_pf M 0 23 v3 fun M4 => q_calp (f_X10_here M4) fun r5 => if ¬ w32 r5 = w32 (-1) then (q_calp (f_X10_isSmall r5 M4) fun r6 => if w32 r6 = 0 then (q_calp (f_X10_isDigit r5 M4) fun r7 => if w32 r7 = 0 then (q_call (f_X10_sign r5 M4) fun r8 M9 => some (0, M9)) else (q_pf M4 0 24 2 fun M10 => q_pf M10 0 25 0 fun M11 => f_X10_token_L162 q_N M11)) else (f_X10_token_L64 q_N M4)) else (q_pf M4 0 24 4 fun M12 => some (0, M12))
theorem skipM {L : Int} {B : Int → Int} (hL : 0 ≤ L ∧ L ≤ 700) (hB : ∀ i, 0 ≤ i → i < L → 0 ≤ B i ∧ B i < 256) : ∀ (n fl : Nat) (a : Int) (M : Mem), M 33 = B → n < fl → M 0 22 = a → 0 ≤ a → M 0 21 = L → SPN (pSp M) a L n → f_X10_token_L0 fl M = tokM (up M 0 22 (a + n))
  | n, 0, a, M, _, h, _, _, _, _ => absurd h (Nat.not_lt_zero n)
  | 0, fl + 1, a, M, hb, h, e3, ha, e2, hs => by
    have hz := hs.zero
    unfold f_X10_token_L0
    show f_X10_token_B0 M _ = _
    generalize qlm0 _ fl = g
    unfold f_X10_token_B0
    rw [show a + ((0 : Nat) : Int) = a by omega, up_id e3, hereM (by omega) (by omega), q_calp_e, q_calp_e]
    have hv : hereV M ≠ 10 ∧ hereV M ≠ 32 ∧ -1 ≤ hereV M ∧ hereV M < 256 := by
      unfold hereV
      rw [e2, e3]
      split
      · omega
      · have hp := hz.2 (by omega)
        unfold pSp at hp
        have := hB a ha (by omega)
        rw [hb] at hp ⊢
        omega
    rw [w32_id (by omega), w32_id (by omega), w32_id (by omega), if_neg hv.1, if_pos hv.2.1]
    rfl
  | n + 1, fl + 1, a, M, hb, h, e3, ha, e2, hs => by
    obtain ⟨s1, s2, s3⟩ := hs.succ
    have ih := skipM hL hB n fl (a + 1) (up M 0 22 (a + 1)) (by rw [up_ne1 (by omega)]; exact hb) (by omega) (up_same _ _ _ _) (by omega) (by rw [up_nei (by omega), e2]) (by
      have : pSp (up M 0 22 (a + 1)) = pSp M := by funext i; unfold pSp; rw [up_ne1 (by omega)]
      rw [this]; exact s3)
    rw [up_up, show a + 1 + (n : Int) = a + ((n + 1 : Nat) : Int) by omega] at ih
    rw [← ih]
    unfold f_X10_token_L0
    show f_X10_token_B0 M _ = _
    generalize qlm0 _ fl = g
    unfold f_X10_token_B0 f_X10_token_J18
    rw [hereM (by omega) (by omega), q_calp_e, q_calp_e]
    have hv : hereV M = M 33 a := by unfold hereV; rw [e2, e3, if_neg (by omega)]
    unfold pSp at s1
    rw [hv, w32_id (x := M 33 a) (by omega)]
    rcases s1 with hr | hr
    · rw [hr]
      simp (disch := omega) only [w32_id, q_gf_e, q_gr_e, q_pf_e, q_pz_e, q_let_e, q_call_e, q_calp_e, q_al_ok, q_as_ok, q_nz_ok, up_same, up_nei, up_ne1, Int.toNat_natCast, reduceIte, Int.reduceEq, Int.reduceLT, Int.reduceLE, Int.reduceNeg, not_true_eq_false, not_false_eq_true, e3]
    · rw [hr]
      simp (disch := omega) only [w32_id, q_gf_e, q_gr_e, q_pf_e, q_pz_e, q_let_e, q_call_e, q_calp_e, q_al_ok, q_as_ok, q_nz_ok, up_same, up_nei, up_ne1, Int.toNat_natCast, reduceIte, Int.reduceEq, Int.reduceLT, Int.reduceLE, Int.reduceNeg, not_true_eq_false, not_false_eq_true, e3]
/-- numbers -/
def nmC (B : Int → Int) (a : Int) : Nat → Int
  | 0 => 0
  | n + 1 => q_min (nmC B a n * 10 + B (a + n) - 48) 1000000
def nmM (B : Int → Int) (a : Int) : Nat → Int
  | 0 => 0
  | n + 1 => if nmM B a n ≤ 99999 then 10 * nmM B a n + B (a + n) - 48 else nmM B a n
theorem nm_eq (B : Int → Int) (a : Int) : ∀ n : Nat, (∀ i : Nat, i < n → 48 ≤ B (a + i) ∧ B (a + i) ≤ 57) → (0 ≤ nmC B a n ∧ nmC B a n ≤ 1000000 ∧ 0 ≤ nmM B a n ∧ nmM B a n ≤ 999999) ∧ (nmC B a n = nmM B a n ∨ (100000 ≤ nmC B a n ∧ 100000 ≤ nmM B a n))
  | 0, _ => ⟨by unfold nmC nmM; omega, .inl rfl⟩
  | n + 1, h => by
    obtain ⟨h1, h2⟩ := nm_eq B a n (fun i hi => h i (by omega))
    have hd := h n (by omega)
    have hc : nmC B a (n + 1) = if nmC B a n * 10 + B (a + n) - 48 ≤ 1000000 then nmC B a n * 10 + B (a + n) - 48 else 1000000 := by
      show q_min _ _ = _
      unfold q_min
      rw [w32_id (by omega), w32_id (by omega)]
      (try rfl)
      (try (split <;> split <;> omega))
    have hm : nmM B a (n + 1) = if nmM B a n ≤ 99999 then 10 * nmM B a n + B (a + n) - 48 else nmM B a n := rfl
    rw [hc, hm]
    split <;> split <;> omega
theorem numC {L : Int} {Mm : Mem} {a0 : Int} : ∀ (n j fl : Nat) (M : Mem), BY L M Mm → n < fl → M 10 3 = a0 + j → 0 ≤ a0 → M 10 2 = L → SPN (pDg Mm) (a0 + j) L n → M 10 6 = nmC (Mm 33) a0 j → (∀ i : Nat, i < j → 48 ≤ Mm 33 (a0 + i) ∧ Mm 33 (a0 + i) ≤ 57) → ∃ M', f_X7_readNumber_L6 fl M = some (0, M') ∧ M' = up (up M 10 6 (nmC (Mm 33) a0 (j + n))) 10 3 (a0 + j + n)
  | n, j, 0, M, _, h, _, _, _, _, _, _ => absurd h (Nat.not_lt_zero n)
  | 0, j, fl + 1, M, hb, h, e3, ha, e2, hs, e6, hd => by
    have hz := hs.zero
    have h0 := hb.1
    refine ⟨M, ?_, ?_⟩
    · unfold f_X7_readNumber_L6
      show f_X7_readNumber_B6 M _ = _
      generalize qlm0 _ fl = g
      unfold f_X7_readNumber_B6
      rw [q_gf_e, q_gf_e, e2, e3, w32_id (by omega), w32_id (by omega)]
      by_cases c : L ≤ a0 + j
      · rw [if_pos c]
      · have hh := hb.2 (a0 + j) (by omega) (by omega)
        have hp := hz.2 (by omega)
        unfold pDg at hp
        have hr : -128 ≤ M 32 (a0 + j) ∧ M 32 (a0 + j) < 128 ∧ (M 32 (a0 + j) < 48 ∨ 57 < M 32 (a0 + j)) := by rw [hh.2.2]; split <;> omega
        rw [if_neg c]
        simp (disch := omega) only [w32_id, q_gf_e, q_gr_e, q_pf_e, q_pz_e, q_let_e, q_call_e, q_calp_e, q_al_ok, q_as_ok, q_nz_ok, up_same, up_nei, up_ne1, Int.toNat_natCast, reduceIte, Int.reduceEq, Int.reduceLT, Int.reduceLE, Int.reduceNeg, not_true_eq_false, not_false_eq_true, e3]
        rcases hr.2.2 with c1 | c1
        · rw [if_pos c1]
        · rw [if_neg (by omega), if_pos c1]
    · rw [show j + 0 = j from rfl, show a0 + (j : Int) + ((0 : Nat) : Int) = a0 + j by omega, up_id e6, up_id e3]
  | n + 1, j, fl + 1, M, hb, h, e3, ha, e2, hs, e6, hd => by
    obtain ⟨s1, s2, s3⟩ := hs.succ
    have h0 := hb.1
    have hh := hb.2 (a0 + j) (by omega) s2
    unfold pDg at s1
    have hr : M 32 (a0 + j) = Mm 33 (a0 + j) := by rw [hh.2.2, if_pos (by omega)]
    obtain ⟨M', k1, k2⟩ := numC n (j + 1) fl (up (up M 10 6 (nmC (Mm 33) a0 (j + 1))) 10 3 (a0 + ((j + 1 : Nat) : Int))) ⟨hb.1, fun i a b => by rw [up_ne1 (by omega), up_ne1 (by omega)]; exact hb.2 i a b⟩ (by omega) (up_same _ _ _ _) (by omega) (by rw [up_nei (by omega), up_nei (by omega), e2]) (by rw [show a0 + ((j + 1 : Nat) : Int) = a0 + j + 1 by omega]; exact s3) (by rw [up_nei (by omega), up_same]) (fun i hi => by
      rcases Nat.lt_or_ge i j with c | c
      · exact hd i c
      · rw [show i = j by omega]; exact s1)
    refine ⟨M', ?_, ?_⟩
    · rw [← k1]
      unfold f_X7_readNumber_L6
      show f_X7_readNumber_B6 M _ = _
      generalize qlm0 _ fl = g
      unfold f_X7_readNumber_B6
      rw [q_gf_e, q_gf_e, e2, e3, w32_id (by omega), w32_id (by omega), if_neg (by omega)]
      simp (disch := omega) only [w32_id, q_gf_e, q_gr_e, q_pf_e, q_pz_e, q_let_e, q_call_e, q_calp_e, q_al_ok, q_as_ok, q_nz_ok, up_same, up_nei, up_ne1, Int.toNat_natCast, reduceIte, Int.reduceEq, Int.reduceLT, Int.reduceLE, Int.reduceNeg, not_true_eq_false, not_false_eq_true, e3, e6, hr]
      rw [if_neg (by omega), if_neg (by omega)]
      (try simp (disch := omega) only [w32_id, q_gf_e, q_gr_e, q_pf_e, q_pz_e, q_let_e, q_call_e, q_calp_e, q_al_ok, q_as_ok, q_nz_ok, up_same, up_nei, up_ne1, Int.toNat_natCast, reduceIte, Int.reduceEq, Int.reduceLT, Int.reduceLE, Int.reduceNeg, not_true_eq_false, not_false_eq_true, e3, e6, hr])
      rw [show a0 + ((j + 1 : Nat) : Int) = a0 + j + 1 by omega]
      rfl
    · rw [k2]
      funext x y
      unfold up
      rw [show j + 1 + n = j + (n + 1) by omega]
      grind
theorem numM {L : Int} {B : Int → Int} {a0 : Int} (hL : 0 ≤ L ∧ L ≤ 700) (hB : ∀ i, 0 ≤ i → i < L → 0 ≤ B i ∧ B i < 256) : ∀ (n j fl : Nat) (M : Mem), M 33 = B → n < fl → M 0 22 = a0 + j → 0 ≤ a0 → M 0 21 = L → SPN (pDg M) (a0 + j) L n → M 0 25 = nmM B a0 j → (∀ i : Nat, i < j → 48 ≤ B (a0 + i) ∧ B (a0 + i) ≤ 57) → ∃ M', f_X10_token_L162 fl M = some (0, M') ∧ M' = up (up M 0 25 (nmM B a0 (j + n))) 0 22 (a0 + j + n)
  | n, j, 0, M, _, h, _, _, _, _, _, _ => absurd h (Nat.not_lt_zero n)
  | 0, j, fl + 1, M, hb, h, e3, ha, e2, hs, e6, hd => by
    have hz := hs.zero
    refine ⟨M, ?_, ?_⟩
    · unfold f_X10_token_L162
      show f_X10_token_B162 M _ = _
      generalize qlm0 _ fl = g
      unfold f_X10_token_B162 f_X10_isDigit
      rw [hereM (by omega) (by omega), q_calp_e]
      have hv : (hereV M < 48 ∨ 57 < hereV M) ∧ -1 ≤ hereV M ∧ hereV M < 256 := by
        unfold hereV
        rw [e2, e3]
        split
        · omega
        · have hp := hz.2 (by omega)
          unfold pDg at hp
          have := hB (a0 + j) (by omega) (by omega)
          rw [hb] at hp ⊢
          omega
      rw [w32_id (x := hereV M) (by omega), w32_id (by omega), w32_id (by omega)]
      rcases hv.1 with c | c
      · rw [if_pos c]; (try simp (disch := omega) only [w32_id, q_gf_e, q_gr_e, q_pf_e, q_pz_e, q_let_e, q_call_e, q_calp_e, q_al_ok, q_as_ok, q_nz_ok, up_same, up_nei, up_ne1, Int.toNat_natCast, reduceIte, Int.reduceEq, Int.reduceLT, Int.reduceLE, Int.reduceNeg, not_true_eq_false, not_false_eq_true])
      · rw [if_neg (by omega), if_pos c]; (try simp (disch := omega) only [w32_id, q_gf_e, q_gr_e, q_pf_e, q_pz_e, q_let_e, q_call_e, q_calp_e, q_al_ok, q_as_ok, q_nz_ok, up_same, up_nei, up_ne1, Int.toNat_natCast, reduceIte, Int.reduceEq, Int.reduceLT, Int.reduceLE, Int.reduceNeg, not_true_eq_false, not_false_eq_true])
    · rw [show j + 0 = j from rfl, show a0 + (j : Int) + ((0 : Nat) : Int) = a0 + j by omega, up_id e6, up_id e3]
  | n + 1, j, fl + 1, M, hb, h, e3, ha, e2, hs, e6, hd => by
    obtain ⟨s1, s2, s3⟩ := hs.succ
    unfold pDg at s1
    rw [hb] at s1
    have hnm := (nm_eq B a0 j hd).1
    obtain ⟨M', k1, k2⟩ := numM hL hB n (j + 1) fl (up (up M 0 25 (nmM B a0 (j + 1))) 0 22 (a0 + ((j + 1 : Nat) : Int))) (by rw [up_ne1 (by omega), up_ne1 (by omega), hb]) (by omega) (up_same _ _ _ _) (by omega) (by rw [up_nei (by omega), up_nei (by omega), e2]) (by
      have : ∀ (x y : Int), pDg (up (up M 0 25 x) 0 22 y) = pDg M := fun x y => by funext i; unfold pDg; rw [up_ne1 (by omega), up_ne1 (by omega)]
      rw [this, show a0 + ((j + 1 : Nat) : Int) = a0 + j + 1 by omega]; exact s3) (by rw [up_nei (by omega), up_same]) (fun i hi => by
      rcases Nat.lt_or_ge i j with c | c
      · exact hd i c
      · rw [show i = j by omega]; exact s1)
    refine ⟨M', ?_, ?_⟩
    · rw [← k1]
      unfold f_X10_token_L162
      show f_X10_token_B162 M _ = _
      generalize qlm0 _ fl = g
      unfold f_X10_token_B162 f_X10_isDigit f_X10_token_J204
      have hv : hereV M = B (a0 + j) := by unfold hereV; rw [e2, e3, if_neg (by omega), hb]
      rw [hereM (by omega) (by omega), hv, q_calp_e, w32_id (x := B (a0 + j)) (by omega), w32_id (x := 48) (by omega), w32_id (x := 57) (by omega), if_neg (by omega), if_neg (by omega), q_calp_e]
      have hm : nmM B a0 (j + 1) = if nmM B a0 j ≤ 99999 then 10 * nmM B a0 j + B (a0 + j) - 48 else nmM B a0 j := rfl
      rw [hm, show a0 + ((j + 1 : Nat) : Int) = a0 + j + 1 by omega]
      simp (disch := omega) only [w32_id, q_gf_e, q_gr_e, q_pf_e, q_pz_e, q_let_e, q_call_e, q_calp_e, q_al_ok, q_as_ok, q_nz_ok, up_same, up_nei, up_ne1, Int.toNat_natCast, reduceIte, Int.reduceEq, Int.reduceLT, Int.reduceLE, Int.reduceNeg, not_true_eq_false, not_false_eq_true, e3, e6]
      split
      · simp (disch := omega) only [w32_id, q_gf_e, q_gr_e, q_pf_e, q_pz_e, q_let_e, q_call_e, q_calp_e, q_al_ok, q_as_ok, q_nz_ok, up_same, up_nei, up_ne1, Int.toNat_natCast, reduceIte, Int.reduceEq, Int.reduceLT, Int.reduceLE, Int.reduceNeg, not_true_eq_false, not_false_eq_true, e3, e6]
      · simp (disch := omega) only [w32_id, q_gf_e, q_gr_e, q_pf_e, q_pz_e, q_let_e, q_call_e, q_calp_e, q_al_ok, q_as_ok, q_nz_ok, up_same, up_nei, up_ne1, Int.toNat_natCast, reduceIte, Int.reduceEq, Int.reduceLT, Int.reduceLE, Int.reduceNeg, not_true_eq_false, not_false_eq_true, e3, e6]
    · rw [k2]
      funext x y
      unfold up
      rw [show j + 1 + n = j + (n + 1) by omega]
      grind
