/-! tokens: words -/
theorem orK {X y : Int} {s : Nat} (hX : 0 ≤ X) (hy : 0 ≤ y ∧ y < 2 ^ s) (h : X * 2 ^ s + y < 2147483648) : q_or (X * 2 ^ s) y = X * 2 ^ s + y := by
  obtain ⟨a, rfl⟩ : ∃ a : Nat, X = a := ⟨X.toNat, by omega⟩
  obtain ⟨b, rfl⟩ : ∃ b : Nat, y = b := ⟨y.toNat, by omega⟩
  have hb : b < 2 ^ s := by have := hy.2; exact_mod_cast this
  have e : (a : Int) * 2 ^ s = ((a * 2 ^ s : Nat) : Int) := by simp
  have h1 : a * 2 ^ s + b < 2147483648 := by rw [e] at h; generalize a * 2 ^ s = z at h ⊢; omega
  rw [e, q_or_nat (by omega) (by omega), ← Nat.shiftLeft_eq, ← Nat.shiftLeft_add_eq_or_of_lt hb]
  simp
theorem shlK {x : Int} {s : Nat} (hs : s < 32) (hx : 0 ≤ x) (h : x * 2 ^ s < 2147483648) : q_shl x (s : Int) = x * 2 ^ s := by
  obtain ⟨a, rfl⟩ : ∃ a : Nat, x = a := ⟨x.toNat, by omega⟩
  have e : (a : Int) * 2 ^ s = ((a * 2 ^ s : Nat) : Int) := by simp
  rw [e] at h ⊢
  exact q_shl_nat hs (by generalize a * 2 ^ s = z at h ⊢; omega)
def dgW (B : Int → Int) (a : Int) (n : Nat) (j : Nat) : Int := if j < n then B (a + j) - 96 else 0
def P6 (B : Int → Int) (a : Int) (n : Nat) : Int := dgW B a n 0 * 33554432 + dgW B a n 1 * 1048576 + dgW B a n 2 * 32768 + dgW B a n 3 * 1024 + dgW B a n 4 * 32 + dgW B a n 5
theorem dgW_rng {B : Int → Int} {a : Int} {n : Nat} (h : ∀ i : Nat, i < n → 97 ≤ B (a + i) ∧ B (a + i) ≤ 122) (j : Nat) : 0 ≤ dgW B a n j ∧ dgW B a n j ≤ 26 := by
  unfold dgW
  split
  · rename_i c; have := h j c; omega
  · omega
theorem P6_rng {B : Int → Int} {a : Int} {n : Nat} (h : ∀ i : Nat, i < n → 97 ≤ B (a + i) ∧ B (a + i) ≤ 122) : 0 ≤ P6 B a n ∧ P6 B a n < 1073741824 := by
  have h0 := dgW_rng h 0
  have h1 := dgW_rng h 1
  have h2 := dgW_rng h 2
  have h3 := dgW_rng h 3
  have h4 := dgW_rng h 4
  have h5 := dgW_rng h 5
  unfold P6
  omega
theorem P6_far (B : Int → Int) (a : Int) {n : Nat} (h : 6 ≤ n) : P6 B a (n + 1) = P6 B a n := by
  unfold P6 dgW
  rw [if_pos (by omega), if_pos (by omega), if_pos (by omega), if_pos (by omega), if_pos (by omega), if_pos (by omega), if_pos (by omega), if_pos (by omega), if_pos (by omega), if_pos (by omega), if_pos (by omega), if_pos (by omega)]
theorem P6_step {B : Int → Int} {a : Int} {n : Nat} (h : ∀ i : Nat, i < n + 1 → 97 ≤ B (a + i) ∧ B (a + i) ≤ 122) (hn : n < 6) : q_or (P6 B a n) (q_shl (B (a + n) - 97 + 1) (5 * (5 - (n : Int)))) = P6 B a (n + 1) := by
  have hd : ∀ i : Nat, i < n + 1 → 1 ≤ B (a + i) - 96 ∧ B (a + i) - 96 ≤ 26 := fun i hi => by have := h i hi; omega
  rw [show B (a + n) - 97 + 1 = B (a + n) - 96 by omega]
  have hn' : n = 0 ∨ n = 1 ∨ n = 2 ∨ n = 3 ∨ n = 4 ∨ n = 5 := by omega
  unfold P6 dgW
  rcases hn' with rfl | rfl | rfl | rfl | rfl | rfl
  · have d0 := hd 0 (by omega)
    rw [show (5 * (5 - ((0 : Nat) : Int))) = ((25 : Nat) : Int) by rfl, shlK (by omega) (by omega) (by omega)]
    have := orK (X := 0) (y := (B (a + ((0 : Nat) : Int)) - 96) * 2 ^ 25) (s := 30) (by omega) (by omega) (by omega)
    simp at this ⊢
    omega
  · have d0 := hd 0 (by omega)
    have d1 := hd 1 (by omega)
    rw [show (5 * (5 - ((1 : Nat) : Int))) = ((20 : Nat) : Int) by rfl, shlK (by omega) (by omega) (by omega)]
    have := orK (X := (B (a + ((0 : Nat) : Int)) - 96)) (y := (B (a + ((1 : Nat) : Int)) - 96) * 2 ^ 20) (s := 25) (by omega) (by omega) (by omega)
    simp at this ⊢
    omega
  · have d0 := hd 0 (by omega)
    have d1 := hd 1 (by omega)
    have d2 := hd 2 (by omega)
    rw [show (5 * (5 - ((2 : Nat) : Int))) = ((15 : Nat) : Int) by rfl, shlK (by omega) (by omega) (by omega)]
    have := orK (X := (B (a + ((0 : Nat) : Int)) - 96) * 32 + (B (a + ((1 : Nat) : Int)) - 96)) (y := (B (a + ((2 : Nat) : Int)) - 96) * 2 ^ 15) (s := 20) (by omega) (by omega) (by omega)
    simp [Int.add_mul, Int.mul_assoc] at this ⊢
    omega
  · have d0 := hd 0 (by omega)
    have d1 := hd 1 (by omega)
    have d2 := hd 2 (by omega)
    have d3 := hd 3 (by omega)
    rw [show (5 * (5 - ((3 : Nat) : Int))) = ((10 : Nat) : Int) by rfl, shlK (by omega) (by omega) (by omega)]
    have := orK (X := (B (a + ((0 : Nat) : Int)) - 96) * 1024 + (B (a + ((1 : Nat) : Int)) - 96) * 32 + (B (a + ((2 : Nat) : Int)) - 96)) (y := (B (a + ((3 : Nat) : Int)) - 96) * 2 ^ 10) (s := 15) (by omega) (by omega) (by omega)
    simp [Int.add_mul, Int.mul_assoc] at this ⊢
    omega
  · have d0 := hd 0 (by omega)
    have d1 := hd 1 (by omega)
    have d2 := hd 2 (by omega)
    have d3 := hd 3 (by omega)
    have d4 := hd 4 (by omega)
    rw [show (5 * (5 - ((4 : Nat) : Int))) = ((5 : Nat) : Int) by rfl, shlK (by omega) (by omega) (by omega)]
    have := orK (X := (B (a + ((0 : Nat) : Int)) - 96) * 32768 + (B (a + ((1 : Nat) : Int)) - 96) * 1024 + (B (a + ((2 : Nat) : Int)) - 96) * 32 + (B (a + ((3 : Nat) : Int)) - 96)) (y := (B (a + ((4 : Nat) : Int)) - 96) * 2 ^ 5) (s := 10) (by omega) (by omega) (by omega)
    simp [Int.add_mul, Int.mul_assoc] at this ⊢
    omega
  · have d0 := hd 0 (by omega)
    have d1 := hd 1 (by omega)
    have d2 := hd 2 (by omega)
    have d3 := hd 3 (by omega)
    have d4 := hd 4 (by omega)
    have d5 := hd 5 (by omega)
    rw [show (5 * (5 - ((5 : Nat) : Int))) = ((0 : Nat) : Int) by rfl, shlK (by omega) (by omega) (by omega)]
    have := orK (X := (B (a + ((0 : Nat) : Int)) - 96) * 1048576 + (B (a + ((1 : Nat) : Int)) - 96) * 32768 + (B (a + ((2 : Nat) : Int)) - 96) * 1024 + (B (a + ((3 : Nat) : Int)) - 96) * 32 + (B (a + ((4 : Nat) : Int)) - 96)) (y := (B (a + ((5 : Nat) : Int)) - 96) * 2 ^ 0) (s := 5) (by omega) (by omega) (by omega)
    simp [Int.add_mul, Int.mul_assoc] at this ⊢
    omega
theorem wordC {L : Int} {Mm : Mem} {a0 : Int} : ∀ (n j fl : Nat) (M : Mem), BY L M Mm → n < fl → M 10 3 = a0 + j → 0 ≤ a0 → M 10 2 = L → SPN (pLt Mm) (a0 + j) L n → M 10 6 = P6 (Mm 33) a0 j → (∀ i : Nat, i < j → 97 ≤ Mm 33 (a0 + i) ∧ Mm 33 (a0 + i) ≤ 122) → f_X7_readWord_L2 fl j M = f_X7_readWord_J92 ((j + n : Nat) : Int) (up (up M 10 6 (P6 (Mm 33) a0 (j + n))) 10 3 (a0 + j + n))
  | n, j, 0, M, _, h, _, _, _, _, _, _ => absurd h (Nat.not_lt_zero n)
  | 0, j, fl + 1, M, hb, h, e3, ha, e2, hs, e6, hd => by
    have hz := hs.zero
    have h0 := hb.1
    rw [show j + 0 = j from rfl, show a0 + (j : Int) + ((0 : Nat) : Int) = a0 + j by omega, up_id e6, up_id e3]
    unfold f_X7_readWord_L2
    show f_X7_readWord_B2 j M _ = _
    generalize qlm1 _ fl = g
    unfold f_X7_readWord_B2
    rw [q_gf_e, q_gf_e, e2, e3, w32_id (by omega), w32_id (by omega)]
    by_cases c : L ≤ a0 + j
    · rw [if_pos c]
    · have hh := hb.2 (a0 + j) (by omega) (by omega)
      have hp := hz.2 (by omega)
      unfold pLt at hp
      have hr : -128 ≤ M 32 (a0 + j) ∧ M 32 (a0 + j) < 128 ∧ (M 32 (a0 + j) < 97 ∨ 122 < M 32 (a0 + j)) := by rw [hh.2.2]; split <;> omega
      rw [if_neg c]
      simp (disch := omega) only [w32_id, q_gf_e, q_gr_e, q_pf_e, q_pz_e, q_let_e, q_call_e, q_calp_e, q_al_ok, q_as_ok, q_nz_ok, up_same, up_nei, up_ne1, Int.toNat_natCast, reduceIte, Int.reduceEq, Int.reduceLT, Int.reduceLE, Int.reduceNeg, not_true_eq_false, not_false_eq_true, e3]
      rcases hr.2.2 with c1 | c1
      · rw [if_pos c1]
      · rw [if_neg (by omega), if_pos c1]
  | n + 1, j, fl + 1, M, hb, h, e3, ha, e2, hs, e6, hd => by
    obtain ⟨s1, s2, s3⟩ := hs.succ
    have h0 := hb.1
    have hh := hb.2 (a0 + j) (by omega) s2
    unfold pLt at s1
    have hr : M 32 (a0 + j) = Mm 33 (a0 + j) := by rw [hh.2.2, if_pos (by omega)]
    have hd' : ∀ i : Nat, i < j + 1 → 97 ≤ Mm 33 (a0 + i) ∧ Mm 33 (a0 + i) ≤ 122 := fun i hi => by
      rcases Nat.lt_or_ge i j with c | c
      · exact hd i c
      · rw [show i = j by omega]; exact s1
    have ih := wordC n (j + 1) fl (up (up M 10 6 (P6 (Mm 33) a0 (j + 1))) 10 3 (a0 + ((j + 1 : Nat) : Int))) ⟨hb.1, fun i a b => by rw [up_ne1 (by omega), up_ne1 (by omega)]; exact hb.2 i a b⟩ (by omega) (up_same _ _ _ _) (by omega) (by rw [up_nei (by omega), up_nei (by omega), e2]) (by rw [show a0 + ((j + 1 : Nat) : Int) = a0 + j + 1 by omega]; exact s3) (by rw [up_nei (by omega), up_same]) hd'
    have eM : up (up (up (up M 10 6 (P6 (Mm 33) a0 (j + 1))) 10 3 (a0 + ((j + 1 : Nat) : Int))) 10 6 (P6 (Mm 33) a0 (j + 1 + n))) 10 3 (a0 + ((j + 1 : Nat) : Int) + n) = up (up M 10 6 (P6 (Mm 33) a0 (j + (n + 1)))) 10 3 (a0 + j + ((n + 1 : Nat) : Int)) := by
      rw [show j + 1 + n = j + (n + 1) by omega]
      funext x y
      unfold up
      grind
    rw [eM, show j + 1 + n = j + (n + 1) by omega] at ih
    rw [← ih]
    unfold f_X7_readWord_L2
    show f_X7_readWord_B2 j M _ = _
    generalize qlm1 _ fl = g
    unfold f_X7_readWord_B2 f_X7_readWord_J76
    rw [q_gf_e, q_gf_e, e2, e3, w32_id (by omega), w32_id (by omega), if_neg (by omega)]
    simp (disch := omega) only [w32_id, q_gf_e, q_gr_e, q_pf_e, q_pz_e, q_let_e, q_call_e, q_calp_e, q_al_ok, q_as_ok, q_nz_ok, up_same, up_nei, up_ne1, Int.toNat_natCast, reduceIte, Int.reduceEq, Int.reduceLT, Int.reduceLE, Int.reduceNeg, not_true_eq_false, not_false_eq_true, e3, e6, hr]
    rw [if_neg (by omega), if_neg (by omega)]
    rw [show ((j + 1 : Nat) : Int) = (j : Int) + 1 by omega, show a0 + ((j : Int) + 1) = a0 + j + 1 by omega]
    by_cases c6 : (6 : Int) ≤ j
    · rw [if_pos c6, P6_far _ _ (by omega), ← e6, up_id rfl]
    · rw [if_neg c6, P6_step hd' (by omega)]
