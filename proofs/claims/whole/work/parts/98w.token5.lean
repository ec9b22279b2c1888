/-! tokens: names, the end of a word, signs -/
def PN (B : Int → Int) (a : Int) (n : Nat) : Nat → Int
  | 0 => 0
  | j + 1 => PN B a n j * 32 + dgW B a n j
theorem PN_rng {B : Int → Int} {a : Int} {n : Nat} (h : ∀ i : Nat, i < n → 97 ≤ B (a + i) ∧ B (a + i) ≤ 122) {j : Nat} (hj : j < 6) : 0 ≤ PN B a n j ∧ PN B a n j < 33554432 := by
  have h0 := dgW_rng h 0
  have h1 := dgW_rng h 1
  have h2 := dgW_rng h 2
  have h3 := dgW_rng h 3
  have h4 := dgW_rng h 4
  rcases (show j = 0 ∨ j = 1 ∨ j = 2 ∨ j = 3 ∨ j = 4 ∨ j = 5 by omega) with rfl | rfl | rfl | rfl | rfl | rfl <;> simp only [PN] <;> omega
theorem PN_6 (B : Int → Int) (a : Int) (n : Nat) : PN B a n 6 = P6 B a n := by
  simp only [PN, P6]
  omega
theorem nameM {B : Int → Int} {n : Nat} {a0 : Int} (ha : 0 ≤ a0) (hn : a0 + n ≤ 700) (hB : ∀ i : Nat, i < n → 97 ≤ B (a0 + i) ∧ B (a0 + i) ≤ 122) : ∀ (k j fl : Nat) (M : Mem), M 33 = B → M 0 22 = a0 + n → M 0 23 = a0 → j + k = 6 → k < fl → M 0 25 = PN B a0 n j → f_X10_name_L7 fl j M = some (0, up M 0 25 (P6 B a0 n))
  | k, j, 0, _, _, _, _, _, h, _ => absurd h (Nat.not_lt_zero k)
  | 0, j, fl + 1, M, e33, e22, e23, e, h, e25 => by
    unfold f_X10_name_L7
    show f_X10_name_B7 j M _ = _
    unfold f_X10_name_B7
    rw [show j = 6 by omega] at e25 ⊢
    rw [if_pos (show w32 6 ≤ w32 ((6 : Nat) : Int) by decide), ← PN_6, up_id e25]
  | k + 1, j, fl + 1, M, e33, e22, e23, e, h, e25 => by
    have hr := PN_rng hB (j := j) (by omega)
    have hd := dgW_rng hB j
    have ih := nameM ha hn hB k (j + 1) fl (up M 0 25 (PN B a0 n (j + 1))) (by rw [up_ne1 (by omega), e33]) (by rw [up_nei (by omega), e22]) (by rw [up_nei (by omega), e23]) (by omega) (by omega) (up_same _ _ _ _)
    rw [up_up] at ih
    rw [← ih]
    unfold f_X10_name_L7
    show f_X10_name_B7 j M _ = _
    generalize qlm1 _ fl = g
    unfold f_X10_name_B7
    have eo : q_or (q_shl (PN B a0 n j) 5) (dgW B a0 n j) = PN B a0 n (j + 1) := by
      rw [show (5 : Int) = ((5 : Nat) : Int) from rfl, shlK (by omega) (by omega) (by omega), orK (by omega) (by omega) (by omega)]
      show _ = PN B a0 n j * 32 + dgW B a0 n j
      omega
    rw [w32_id (x := 6) (by omega), w32_id (x := (j : Int)) (by omega), if_neg (by omega)]
    simp (disch := omega) only [w32_id, q_gf_e, q_gr_e, q_pf_e, q_pz_e, q_let_e, q_call_e, q_calp_e, q_al_ok, q_as_ok, q_nz_ok, up_same, up_nei, up_ne1, Int.toNat_natCast, reduceIte, Int.reduceEq, Int.reduceLT, Int.reduceLE, Int.reduceNeg, not_true_eq_false, not_false_eq_true, e22, e23, e25]
    rw [show ((j + 1 : Nat) : Int) = (j : Int) + 1 by omega]
    by_cases c : n ≤ j
    · rw [if_pos (by omega)]
      rw [show dgW B a0 n j = 0 by unfold dgW; rw [if_neg (by omega)]] at eo
      rw [eo]
    · rw [if_neg (by omega)]
      rw [show dgW B a0 n j = M 33 (a0 + j) - 97 + 1 by unfold dgW; rw [if_pos (by omega), e33]; omega] at eo
      (try simp (disch := omega) only [w32_id, q_gf_e, q_gr_e, q_pf_e, q_pz_e, q_let_e, q_call_e, q_calp_e, q_al_ok, q_as_ok, q_nz_ok, up_same, up_nei, up_ne1, Int.toNat_natCast, reduceIte, Int.reduceEq, Int.reduceLT, Int.reduceLE, Int.reduceNeg, not_true_eq_false, not_false_eq_true])
      rw [eo]
/-- what the reference does behind the letters -/
def wdEnd (M : Mem) : Res := q_calp (f_X10_word M) fun r3 => q_pf M 0 25 r3 fun M4 => q_gf M4 0 25 fun v5 => if w32 v5 = w32 (-1) then (q_gf M4 0 22 fun v6 => q_gf M4 0 23 fun v7 => if w32 (v6 - v7) ≤ w32 6 then (f_X10_token_J127 1 M4) else (f_X10_token_J127 5 M4)) else (f_X10_token_J127 0 M4)
theorem lettersM {L : Int} {B : Int → Int} (hL : 0 ≤ L ∧ L ≤ 700) (hB : ∀ i, 0 ≤ i → i < L → 0 ≤ B i ∧ B i < 256) : ∀ (n fl : Nat) (a : Int) (M : Mem), M 33 = B → n < fl → M 0 22 = a → 0 ≤ a → M 0 21 = L → SPN (pLt M) a L n → f_X10_token_L64 fl M = wdEnd (up M 0 22 (a + n))
  | n, 0, a, M, _, h, _, _, _, _ => absurd h (Nat.not_lt_zero n)
  | 0, fl + 1, a, M, hb, h, e3, ha, e2, hs => by
    have hz := hs.zero
    unfold f_X10_token_L64
    show f_X10_token_B64 M _ = _
    generalize qlm0 _ fl = g
    unfold f_X10_token_B64 f_X10_isSmall
    rw [show a + ((0 : Nat) : Int) = a by omega, up_id e3, hereM (by omega) (by omega), q_calp_e]
    have hv : (hereV M < 97 ∨ 122 < hereV M) ∧ -1 ≤ hereV M ∧ hereV M < 256 := by
      unfold hereV
      rw [e2, e3]
      split
      · omega
      · have hp := hz.2 (by omega)
        unfold pLt at hp
        have := hB a ha (by omega)
        rw [hb] at hp ⊢
        omega
    rw [w32_id (x := hereV M) (by omega), w32_id (x := 97) (by omega), w32_id (x := 122) (by omega)]
    rcases hv.1 with c | c
    · rw [if_pos c, q_calp_e, if_pos (show w32 0 = 0 by decide)]; rfl
    · rw [if_neg (by omega), if_pos c, q_calp_e, if_pos (show w32 0 = 0 by decide)]; rfl
  | n + 1, fl + 1, a, M, hb, h, e3, ha, e2, hs => by
    obtain ⟨s1, s2, s3⟩ := hs.succ
    have ih := lettersM hL hB n fl (a + 1) (up M 0 22 (a + 1)) (by rw [up_ne1 (by omega)]; exact hb) (by omega) (up_same _ _ _ _) (by omega) (by rw [up_nei (by omega), e2]) (by
      have : pLt (up M 0 22 (a + 1)) = pLt M := by funext i; unfold pLt; rw [up_ne1 (by omega)]
      rw [this]; exact s3)
    rw [up_up, show a + 1 + (n : Int) = a + ((n + 1 : Nat) : Int) by omega] at ih
    rw [← ih]
    unfold f_X10_token_L64
    show f_X10_token_B64 M _ = _
    generalize qlm0 _ fl = g
    unfold f_X10_token_B64 f_X10_isSmall
    unfold pLt at s1
    have hv : hereV M = M 33 a := by unfold hereV; rw [e2, e3, if_neg (by omega)]
    rw [hereM (by omega) (by omega), q_calp_e, hv, w32_id (x := M 33 a) (by omega), w32_id (x := 97) (by omega), w32_id (x := 122) (by omega), if_neg (by omega), if_neg (by omega), q_calp_e, if_neg (by decide)]
    simp (disch := omega) only [w32_id, q_gf_e, q_gr_e, q_pf_e, q_pz_e, q_let_e, q_call_e, q_calp_e, q_al_ok, q_as_ok, q_nz_ok, up_same, up_nei, up_ne1, Int.toNat_natCast, reduceIte, Int.reduceEq, Int.reduceLT, Int.reduceLE, Int.reduceNeg, not_true_eq_false, not_false_eq_true, e3]
/-- a token of both sides -/
def SGS : List (Int × Int) := [(22, 59), (23, 40), (24, 41), (25, 43), (26, 45), (27, 42), (28, 47), (29, 60), (30, 256), (31, 61), (32, 257), (33, 258), (34, 62)]
def TKR (tok wor srt val : Int) : Prop := (srt = 0 ∧ tok = val ∧ 0 ≤ val ∧ val < 20) ∨ (srt = 1 ∧ tok = 20 ∧ wor = val ∧ 0 ≤ val ∧ val < 1073741824) ∨ (srt = 2 ∧ tok = 21 ∧ (0 ≤ wor ∧ wor ≤ 1000000 ∧ 0 ≤ val ∧ val ≤ 999999) ∧ (wor = val ∨ (100000 ≤ wor ∧ 100000 ≤ val))) ∨ (srt = 3 ∧ (tok, val) ∈ SGS) ∨ (srt = 4 ∧ tok = 35) ∨ (srt = 5 ∧ tok = 36)
/-- a word, both sides -/
theorem wordW {n : Nat} {a0 : Int} {Mc Mm : Mem} (ht : ∀ i, 0 ≤ i → i < 20 → Mc 352 i = tokR i) (ha : 0 ≤ a0) (hn : a0 + n ≤ 700) (hn1 : 1 ≤ n) (hB : ∀ i : Nat, i < n → 97 ≤ Mm 33 (a0 + i) ∧ Mm 33 (a0 + i) ≤ 122) (e22 : Mm 0 22 = a0 + n) (e23 : Mm 0 23 = a0) (e6 : Mc 10 6 = P6 (Mm 33) a0 n) : ∃ tok srt val, f_X7_readWord_J92 n Mc = some (0, up Mc 10 4 tok) ∧ wdEnd Mm = some (0, up (up Mm 0 25 val) 0 24 srt) ∧ TKR tok (Mc 10 6) srt val ∧ srt ≠ 4 := by
  have hP := P6_rng hB
  obtain ⟨r, w1, w2⟩ := wordM' (M := Mm) ha hn e22 e23 hB 20 0 q_N (by omega) (q_N_lt (by omega))
  have w1 : f_X10_word Mm = some r := w1
  unfold wdEnd
  rw [w1, q_calp_e, q_pf_e, q_gf_e, up_same]
  unfold f_X7_readWord_J92 f_X10_token_J127
  rw [w32_id (x := (n : Int)) (by omega), w32_id (x := 6) (by omega)]
  by_cases c6 : n ≤ 6
  · have hR : ∀ j, 0 ≤ j → j < 20 → in32 (Mc 352 j) := fun j j1 j2 => by
      obtain ⟨w, rfl⟩ : ∃ w : Nat, j = w := ⟨j.toNat, by omega⟩
      rw [ht w j1 j2, show tokR (w : Int) = P6 q_wc (wdO w) (wdL w) from wd_tok ⟨w, by omega⟩]
      have := P6_rng (wdC (w := w) (by omega)).2.2.1
      unfold in32
      omega
    obtain ⟨s, f1, f2⟩ := findC (n0 := 352) (l0 := 20) (w := 20) (s := P6 (Mm 33) a0 n) (M := Mc) (by omega) (by omega) (by unfold in32; omega) hR
    have mt : ∀ w : Nat, w < 20 → (MTW (Mm 33) a0 n w ↔ Mc 352 w = P6 (Mm 33) a0 n) := fun w hw => by
      rw [ht w (by omega) (by omega)]
      exact MTW_P6 hw ⟨hn1, c6⟩ hB
    rw [if_pos (by omega), q_gf_e, e6, f1, q_calp_e]
    rcases w2 with ⟨v, v1, v2, v3, v4, v5⟩ | ⟨v1, v2⟩
    · have es : s = v := by
        rcases f2 with ⟨g1, g2, g3, g4⟩ | ⟨g1, g2⟩
        · obtain ⟨u, rfl⟩ : ∃ u : Nat, s = u := ⟨s.toNat, by omega⟩
          rcases Nat.lt_trichotomy u v with c | c | c
          · exact absurd ((mt u (by omega)).mpr g3) (v5 u (by omega) c)
          · rw [c]
          · exact absurd ((mt v v2).mp v4) (g4 v (by omega) (by omega))
        · exact absurd ((mt v v2).mp v4) (g2 v (by omega) (by omega))
      refine ⟨v, 0, v, ?_, ?_, .inl ⟨rfl, rfl, by omega, by omega⟩, by decide⟩
      · rw [es, w32_id (by omega), w32_id (by omega), if_pos (by omega), q_pf_e]
      · rw [v3, w32_id (by omega), w32_id (by omega), if_neg (by omega), q_pf_e, q_gf_e, up_same, if_pos (by decide)]
    · have es : s = -1 := by
        rcases f2 with ⟨g1, g2, g3, g4⟩ | ⟨g1, g2⟩
        · obtain ⟨u, rfl⟩ : ∃ u : Nat, s = u := ⟨s.toNat, by omega⟩
          exact absurd ((mt u (by omega)).mpr g3) (v2 u (by omega) (by omega))
        · exact g1
      refine ⟨20, 1, P6 (Mm 33) a0 n, ?_, ?_, .inr (.inl ⟨rfl, rfl, rfl, by omega, by omega⟩), by decide⟩
      · rw [es, if_neg (fun h => h rfl), q_pf_e]
      · rw [v1, if_pos rfl, q_gf_e, q_gf_e, up_nei (by omega), up_nei (by omega), e22, e23, w32_id (x := a0 + n - a0) (by omega), if_pos (by omega), q_pf_e, q_gf_e, up_same, if_neg (fun h => h rfl)]
        unfold f_X10_name
        have := nameM (B := Mm 33) ha hn hB 6 0 q_N (up (up (up Mm 0 25 (-1)) 0 24 1) 0 25 0) (by rw [up_ne1 (by omega), up_ne1 (by omega), up_ne1 (by omega)]) (by simp (disch := omega) only [w32_id, q_gf_e, q_gr_e, q_pf_e, q_pz_e, q_let_e, q_call_e, q_calp_e, q_al_ok, q_as_ok, q_nz_ok, up_same, up_nei, up_ne1, Int.toNat_natCast, reduceIte, Int.reduceEq, Int.reduceLT, Int.reduceLE, Int.reduceNeg, not_true_eq_false, not_false_eq_true]; exact e22) (by simp (disch := omega) only [w32_id, q_gf_e, q_gr_e, q_pf_e, q_pz_e, q_let_e, q_call_e, q_calp_e, q_al_ok, q_as_ok, q_nz_ok, up_same, up_nei, up_ne1, Int.toNat_natCast, reduceIte, Int.reduceEq, Int.reduceLT, Int.reduceLE, Int.reduceNeg, not_true_eq_false, not_false_eq_true]; exact e23) (by omega) (q_N_lt (by omega)) (by rw [up_same]; rfl)
        rw [q_pf_e]
        rw [show ((0 : Nat) : Int) = 0 from rfl] at this
        rw [this, q_call_e, up_up]
        congr 2
        funext x y
        unfold up
        grind
  · have hno : ∀ w : Nat, w < 20 → ¬ MTW (Mm 33) a0 n w := fun w hw h => by
      have := (wdC hw).1
      have := h.1
      omega
    have er : r = -1 := by
      rcases w2 with ⟨v, v1, v2, v3, v4, v5⟩ | ⟨v1, v2⟩
      · exact absurd v4 (hno v v2)
      · exact v1
    refine ⟨36, 5, -1, ?_, ?_, .inr (.inr (.inr (.inr (.inr ⟨rfl, rfl⟩)))), by decide⟩
    · rw [if_neg (by omega), q_pf_e]
    · rw [er, if_pos rfl, q_gf_e, q_gf_e, up_nei (by omega), up_nei (by omega), e22, e23, w32_id (x := a0 + n - a0) (by omega), if_neg (by omega), q_pf_e, q_gf_e, up_same, if_pos (by decide)]
