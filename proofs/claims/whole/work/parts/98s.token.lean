/-! tokens: numbers of bits, spans of bytes, the letters of a word -/
theorem q_or_nat {x y : Nat} (hx : x < 2147483648) (hy : y < 2147483648) : q_or (x : Int) (y : Int) = ((x ||| y : Nat) : Int) := by
  have hlt : x ||| y < 2147483648 := Nat.or_lt_two_pow (n := 31) hx hy
  have e : ∀ z : Nat, z < 2147483648 → (qI (z : Int)).toBitVec.toNat = z := fun z hz => by
    unfold qI
    rw [Int32.toBitVec_ofInt, BitVec.toNat_ofInt]
    omega
  unfold q_or
  show (qI (x : Int) ||| qI (y : Int)).toBitVec.toInt = _
  rw [Int32.toBitVec_or, BitVec.toInt_eq_toNat_cond, BitVec.toNat_or, e x hx, e y hy, if_pos (by omega)]
theorem q_shl_nat {x s : Nat} (hs : s < 32) (hx : x * 2 ^ s < 2147483648) : q_shl (x : Int) (s : Int) = ((x * 2 ^ s : Nat) : Int) := by
  have hx' : x < 2147483648 := Nat.lt_of_le_of_lt (Nat.le_mul_of_pos_right x (Nat.two_pow_pos s)) hx
  have e : ∀ z : Nat, z < 2147483648 → (qI (z : Int)).toBitVec.toNat = z := fun z hz => by
    unfold qI
    rw [Int32.toBitVec_ofInt, BitVec.toNat_ofInt]
    omega
  have e31 : ∀ s : Fin 32, (qI (s.val : Int) &&& 31).toBitVec.smod 32 = BitVec.ofNat 32 s.val := by decide
  unfold q_shl
  show (qI (x : Int) <<< (qI (s : Int) &&& 31)).toBitVec.toInt = _
  rw [Int32.toBitVec_shiftLeft, e31 ⟨s, hs⟩, BitVec.toInt_eq_toNat_cond, BitVec.shiftLeft_eq', BitVec.toNat_shiftLeft, e x hx', BitVec.toNat_ofNat, Nat.mod_eq_of_lt (show s < 2 ^ 32 by omega), Nat.shiftLeft_eq, Nat.mod_eq_of_lt (by omega), if_pos (by omega)]
/-- so many in a row -/
def SPN (p : Int → Prop) (a L : Int) (n : Nat) : Prop := (∀ i : Nat, i < n → p (a + i)) ∧ a + n ≤ L ∧ (a + n < L → ¬ p (a + n))
theorem SPN.ex (p : Int → Prop) : ∀ (m : Nat) (a L : Int), L - a = m → ∃ n, SPN p a L n
  | 0, a, L, h => ⟨0, fun i hi => absurd hi (Nat.not_lt_zero i), by omega, fun h' => by omega⟩
  | m + 1, a, L, h => by
    by_cases hp : p a
    · obtain ⟨n, h1, h2, h3⟩ := SPN.ex p m (a + 1) L (by omega)
      refine ⟨n + 1, fun i hi => ?_, by omega, fun h' => ?_⟩
      · rcases Nat.eq_zero_or_pos i with rfl | hi'
        · simpa using hp
        · have := h1 (i - 1) (by omega)
          rw [show a + 1 + ((i - 1 : Nat) : Int) = a + i by omega] at this
          exact this
      · rw [show a + ((n + 1 : Nat) : Int) = a + 1 + n by omega]
        exact h3 (by omega)
    · exact ⟨0, fun i hi => absurd hi (Nat.not_lt_zero i), by omega, fun _ => by simpa using hp⟩
theorem SPN.succ {p : Int → Prop} {a L : Int} {n : Nat} (h : SPN p a L (n + 1)) : p a ∧ a < L ∧ SPN p (a + 1) L n := by
  obtain ⟨h1, h2, h3⟩ := h
  refine ⟨by simpa using h1 0 (by omega), by omega, fun i hi => ?_, by omega, fun h' => ?_⟩
  · have := h1 (i + 1) (by omega)
    rw [show a + ((i + 1 : Nat) : Int) = a + 1 + i by omega] at this
    exact this
  · have := h3 (by omega)
    rw [show a + ((n + 1 : Nat) : Int) = a + 1 + n by omega] at this
    exact this
theorem SPN.zero {p : Int → Prop} {a L : Int} (h : SPN p a L 0) : a ≤ L ∧ (a < L → ¬ p a) := by
  obtain ⟨h1, h2, h3⟩ := h
  refine ⟨by omega, fun h' => ?_⟩
  have := h3 (by omega)
  simpa using this
theorem up_up (M : Mem) (n : Nat) (i v w : Int) : up (up M n i v) n i w = up M n i w := by
  funext a b
  unfold up
  split <;> rfl
theorem up_id {M : Mem} {n : Nat} {i v : Int} (h : M n i = v) : up M n i v = M := by
  funext a b
  unfold up
  split
  · rename_i c; rw [c.1, c.2, h]
  · rfl
/-- what both know of the bytes -/
def BY (L : Int) (Mc Mm : Mem) : Prop := (0 ≤ L ∧ L ≤ 700) ∧ ∀ i, 0 ≤ i → i < L → 0 ≤ Mm 33 i ∧ Mm 33 i < 256 ∧ Mc 32 i = (if Mm 33 i < 128 then Mm 33 i else Mm 33 i - 256)
def pSp (Mm : Mem) (i : Int) : Prop := Mm 33 i = 32 ∨ Mm 33 i = 10
def pLt (Mm : Mem) (i : Int) : Prop := 97 ≤ Mm 33 i ∧ Mm 33 i ≤ 122
def pDg (Mm : Mem) (i : Int) : Prop := 48 ≤ Mm 33 i ∧ Mm 33 i ≤ 57
theorem skipC {L : Int} {Mm : Mem} : ∀ (n fl : Nat) (a : Int) (M : Mem), BY L M Mm → n < fl → M 10 3 = a → 0 ≤ a → M 10 2 = L → SPN (pSp Mm) a L n → f_X7_advance_L0 fl M = f_X7_advance_J52 (up M 10 3 (a + n))
  | n, 0, a, M, _, h, _, _, _, _ => absurd h (Nat.not_lt_zero n)
  | 0, fl + 1, a, M, hb, h, e3, ha, e2, hs => by
    have hz := hs.zero
    have h0 := hb.1
    unfold f_X7_advance_L0
    show f_X7_advance_B0 M _ = _
    generalize qlm0 _ fl = g
    unfold f_X7_advance_B0
    rw [show a + ((0 : Nat) : Int) = a by omega, up_id e3]
    rw [q_gf_e, q_gf_e, e2, e3, w32_id (by omega), w32_id (by omega)]
    by_cases c : L ≤ a
    · rw [if_pos c]
    · have hh := hb.2 a ha (by omega)
      have hp := hz.2 (by omega)
      unfold pSp at hp
      have hr : -128 ≤ M 32 a ∧ M 32 a < 128 ∧ M 32 a ≠ 32 ∧ M 32 a ≠ 10 := by rw [hh.2.2]; split <;> omega
      rw [if_neg c]
      simp (disch := omega) only [w32_id, q_gf_e, q_gr_e, q_pf_e, q_pz_e, q_let_e, q_call_e, q_calp_e, q_al_ok, q_as_ok, q_nz_ok, up_same, up_nei, up_ne1, Int.toNat_natCast, reduceIte, Int.reduceEq, Int.reduceLT, Int.reduceLE, Int.reduceNeg, not_true_eq_false, not_false_eq_true, e3]
      rw [if_neg hr.2.2.1, if_pos hr.2.2.2]
  | n + 1, fl + 1, a, M, hb, h, e3, ha, e2, hs => by
    obtain ⟨s1, s2, s3⟩ := hs.succ
    have h0 := hb.1
    have ih := skipC n fl (a + 1) (up M 10 3 (a + 1)) ⟨hb.1, fun i a b => by rw [up_ne1 (by omega)]; exact hb.2 i a b⟩ (by omega) (up_same _ _ _ _) (by omega) (by rw [up_nei (by omega), e2]) s3
    rw [up_up, show a + 1 + (n : Int) = a + ((n + 1 : Nat) : Int) by omega] at ih
    rw [← ih]
    unfold f_X7_advance_L0
    show f_X7_advance_B0 M _ = _
    generalize qlm0 _ fl = g
    unfold f_X7_advance_B0 f_X7_advance_J39
    have hh := hb.2 a ha s2
    unfold pSp at s1
    have hr : M 32 a = 32 ∨ M 32 a = 10 := by rw [hh.2.2]; split <;> omega
    rw [q_gf_e, q_gf_e, e2, e3, w32_id (by omega), w32_id (by omega), if_neg (by omega)]
    rcases hr with hr | hr
    · simp (disch := omega) only [w32_id, q_gf_e, q_gr_e, q_pf_e, q_pz_e, q_let_e, q_call_e, q_calp_e, q_al_ok, q_as_ok, q_nz_ok, up_same, up_nei, up_ne1, Int.toNat_natCast, reduceIte, Int.reduceEq, Int.reduceLT, Int.reduceLE, Int.reduceNeg, not_true_eq_false, not_false_eq_true, e3, hr]
    · simp (disch := omega) only [w32_id, q_gf_e, q_gr_e, q_pf_e, q_pz_e, q_let_e, q_call_e, q_calp_e, q_al_ok, q_as_ok, q_nz_ok, up_same, up_nei, up_ne1, Int.toNat_natCast, reduceIte, Int.reduceEq, Int.reduceLT, Int.reduceLE, Int.reduceNeg, not_true_eq_false, not_false_eq_true, e3, hr]
