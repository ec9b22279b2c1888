theorem and_nat {a b : Nat} (ha : a < 2147483648) (hb : b < 2147483648) : q_and a b = ((a &&& b : Nat) : Int) := by
  have e : (qI (a : Int) &&& qI (b : Int)).toBitVec.toNat = a &&& b := by
    have h1 : ∀ c : Nat, c < 2147483648 → (qI (c : Int)).toBitVec.toNat = c := by
      intro c hc
      show (BitVec.ofInt 32 (c : Int)).toNat = c
      rw [BitVec.toNat_ofInt]
      omega
    rw [Int32.toBitVec_and, BitVec.toNat_and, h1 a ha, h1 b hb]
  have hlt : a &&& b < 2147483648 := Nat.lt_of_le_of_lt Nat.and_le_left ha
  show (qI (a : Int) &&& qI (b : Int)).toBitVec.toInt = _
  rw [BitVec.toInt_eq_toNat_of_lt (by rw [e]; omega), e]
theorem ushr_nat {a : Nat} (ha : a < 2147483648) (k : Nat) (hk : k = 1 ∨ k = 2 ∨ k = 4 ∨ k = 8 ∨ k = 16) : q_ushr a (k : Int) = ((a / 2 ^ k : Nat) : Int) := by
  have hs : ((qI (k : Int)).toUInt32 &&& Int32.toUInt32 31).toNat = k := by
    rcases hk with rfl | rfl | rfl | rfl | rfl <;> decide
  have h1 : (qI (a : Int)).toUInt32.toNat = a := by
    show (BitVec.ofInt 32 (a : Int)).toNat = a
    rw [BitVec.toNat_ofInt]
    omega
  have e : ((qI (a : Int)).toUInt32 >>> ((qI (k : Int)).toUInt32 &&& Int32.toUInt32 31)).toInt32.toBitVec.toNat = a / 2 ^ k := by
    show ((qI (a : Int)).toUInt32 >>> ((qI (k : Int)).toUInt32 &&& Int32.toUInt32 31)).toNat = _
    rw [UInt32.toNat_shiftRight, h1, hs, Nat.shiftRight_eq_div_pow, Nat.mod_eq_of_lt (by omega)]
  have hlt : a / 2 ^ k ≤ a := Nat.div_le_self _ _
  unfold q_ushr
  show ((qI (a : Int)).toUInt32 >>> ((qI (k : Int)).toUInt32 &&& Int32.toUInt32 31)).toInt32.toBitVec.toInt = _
  rw [BitVec.toInt_eq_toNat_of_lt (by rw [e]; omega), e]
/-- by bytes -/
theorem and_byte {y b m n : Nat} (hb : b < 256) (hn : n < 256) : (256 * y + b) &&& (256 * m + n) = 256 * (y &&& m) + (b &&& n) := by
  apply Nat.eq_of_testBit_eq
  intro i
  have hlt : b &&& n < 2 ^ 8 := Nat.lt_of_le_of_lt Nat.and_le_left hb
  have e : (256 : Nat) = 2 ^ 8 := by decide
  rw [Nat.testBit_and, e, Nat.testBit_two_pow_mul_add _ hb, Nat.testBit_two_pow_mul_add _ hn, Nat.testBit_two_pow_mul_add _ hlt]
  split
  · rw [Nat.testBit_and]
  · rw [Nat.testBit_and]
def s1 (b : Nat) : Nat := b - (b / 2 &&& 85)
def s2 (c : Nat) : Nat := (c &&& 51) + (c / 4 &&& 51)
def s3 (d : Nat) : Nat := (d + d / 16) &&& 15
def tb (x p : Nat) : Nat := if x.testBit p then 1 else 0
def pc8 (b : Nat) : Nat := tb b 0 + tb b 1 + tb b 2 + tb b 3 + tb b 4 + tb b 5 + tb b 6 + tb b 7
theorem byteT : ∀ b : Fin 256, s1 b.val < 256 ∧ s2 (s1 b.val) ≤ 68 ∧ s2 (s1 b.val) % 16 ≤ 4 ∧ s3 (s2 (s1 b.val)) = pc8 b.val := by decide +kernel
theorem D1 : ∀ r : Fin 2, ∀ b : Fin 256, (128 * r.val + b.val / 2) &&& 85 = (b.val / 2 &&& 85) := by decide +kernel
theorem D2 : ∀ r : Fin 4, ∀ b : Fin 256, (64 * r.val + b.val / 4) &&& 51 = (b.val / 4 &&& 51) := by decide +kernel
theorem S1b {y b m : Nat} (hb : b < 256) : (256 * y + b) - ((256 * y + b) / 2 &&& (256 * m + 85)) = 256 * (y - (y / 2 &&& m)) + s1 b := by
  have e : (256 * y + b) / 2 = 256 * (y / 2) + (128 * (y % 2) + b / 2) := by omega
  have d := D1 ⟨y % 2, by omega⟩ ⟨b, hb⟩
  simp only at d
  rw [e, and_byte (by omega) (by omega), d]
  unfold s1
  have h1 : y / 2 &&& m ≤ y / 2 := Nat.and_le_left
  have h2 : b / 2 &&& 85 ≤ b / 2 := Nat.and_le_left
  omega
theorem S2b {y c m : Nat} (hc : c < 256) : ((256 * y + c) &&& (256 * m + 51)) + ((256 * y + c) / 4 &&& (256 * m + 51)) = 256 * ((y &&& m) + (y / 4 &&& m)) + s2 c := by
  have e : (256 * y + c) / 4 = 256 * (y / 4) + (64 * (y % 4) + c / 4) := by omega
  have d := D2 ⟨y % 4, by omega⟩ ⟨c, hc⟩
  simp only at d
  rw [e, and_byte hc (by omega), and_byte (by omega) (by omega), d]
  unfold s2
  omega
theorem S3b {y d m : Nat} (hd : d ≤ 68) (hy : y % 16 ≤ 4) : ((256 * y + d) + (256 * y + d) / 16) &&& (256 * m + 15) = 256 * ((y + y / 16) &&& m) + s3 d := by
  have e : (256 * y + d) + (256 * y + d) / 16 = 256 * (y + y / 16) + (d + 16 * (y % 16) + d / 16) := by omega
  have m15 : ∀ n : Nat, n &&& 15 = n % 16 := fun n => Nat.and_two_pow_sub_one_eq_mod n 4
  rw [e, and_byte (by omega) (by omega)]
  unfold s3
  rw [m15, m15]
  omega
theorem tb_byte {y b : Nat} (hb : b < 256) (p : Nat) : tb (256 * y + b) p = if p < 8 then tb b p else tb y (p - 8) := by
  unfold tb
  have e : (256 : Nat) = 2 ^ 8 := by decide
  rw [e, Nat.testBit_two_pow_mul_add _ hb]
  split <;> rfl
theorem Bt_nat {x : Nat} (hx : x < 2147483648) {p : Nat} : Bt (x : Int) (p : Int) = x.testBit p := by
  unfold Bt
  rw [Int.toNat_natCast]
  have h1 : (qI (x : Int)).toBitVec.toNat = x := by
    show (BitVec.ofInt 32 (x : Int)).toNat = x
    rw [BitVec.toNat_ofInt]
    omega
  rw [BitVec.getLsbD, h1]
/-- how many bits are set -/
def pcB (x : Int) : Int := smT (fun p => if Bt x p = true then 1 else 0) 32
theorem bitCountC {x : Int} {M : Mem} (hx : 0 ≤ x ∧ x < 1073741824) : f_J6_bitCount_0f7a4 x M = some (pcB x) := by
  obtain ⟨n, rfl⟩ : ∃ n : Nat, x = n := ⟨x.toNat, by omega⟩
  have hn : n < 1073741824 := by omega
  obtain ⟨b0, b1, b2, b3, hb, h0, h1, h2, h3⟩ : ∃ b0 b1 b2 b3 : Nat, n = 256 * (256 * (256 * b3 + b2) + b1) + b0 ∧ b0 < 256 ∧ b1 < 256 ∧ b2 < 256 ∧ b3 < 64 := ⟨n % 256, n / 256 % 256, n / 65536 % 256, n / 16777216, by omega, by omega, by omega, by omega, by omega⟩
  have t0 := byteT ⟨b0, h0⟩
  have t1 := byteT ⟨b1, h1⟩
  have t2 := byteT ⟨b2, h2⟩
  have t3 := byteT ⟨b3, by omega⟩
  simp only at t0 t1 t2 t3
  have c1 : n - (n / 2 &&& 1431655765) = 256 * (256 * (256 * s1 b3 + s1 b2) + s1 b1) + s1 b0 := by
    rw [hb, show 1431655765 = 256 * (256 * (256 * 85 + 85) + 85) + 85 by rfl, S1b h0, S1b h1, S1b h2]; rfl
  obtain ⟨v0, e0⟩ : ∃ v0, v0 = n - (n / 2 &&& 1431655765) := ⟨_, rfl⟩
  rw [← e0] at c1
  have hv0 : v0 ≤ n := by rw [e0]; exact Nat.sub_le _ _
  have c2 : (v0 &&& 858993459) + (v0 / 4 &&& 858993459) = 256 * (256 * (256 * s2 (s1 b3) + s2 (s1 b2)) + s2 (s1 b1)) + s2 (s1 b0) := by
    rw [c1, show 858993459 = 256 * (256 * (256 * 51 + 51) + 51) + 51 by rfl, S2b t0.1, S2b t1.1, S2b t2.1]; rfl
  obtain ⟨v1, e1⟩ : ∃ v1, v1 = (v0 &&& 858993459) + (v0 / 4 &&& 858993459) := ⟨_, rfl⟩
  rw [← e1] at c2
  have c3 : (v1 + v1 / 16) &&& 252645135 = 256 * (256 * (256 * s3 (s2 (s1 b3)) + s3 (s2 (s1 b2))) + s3 (s2 (s1 b1))) + s3 (s2 (s1 b0)) := by
    rw [c2, show 252645135 = 256 * (256 * (256 * 15 + 15) + 15) + 15 by rfl, S3b t0.2.1 (by omega), S3b t1.2.1 (by omega), S3b t2.2.1 (by omega)]; rfl
  obtain ⟨v2, e2⟩ : ∃ v2, v2 = (v1 + v1 / 16) &&& 252645135 := ⟨_, rfl⟩
  rw [← e2, t0.2.2.2, t1.2.2.2, t2.2.2.2, t3.2.2.2] at c3
  have p8 : ∀ b, pc8 b ≤ 8 := by
    intro b
    unfold pc8 tb
    repeat' split
    all_goals omega
  have hp0 := p8 b0
  have hp1 := p8 b1
  have hp2 := p8 b2
  have hp3 := p8 b3
  have hr : (v2 + v2 / 256 + (v2 + v2 / 256) / 65536) &&& 63 = pc8 b0 + pc8 b1 + pc8 b2 + pc8 b3 := by
    have m63 : ∀ n : Nat, n &&& 63 = n % 64 := fun n => Nat.and_two_pow_sub_one_eq_mod n 6
    have q1 : v2 / 256 = 256 * (256 * pc8 b3 + pc8 b2) + pc8 b1 := by omega
    have q2 : (v2 + v2 / 256) / 65536 = 256 * pc8 b3 + (pc8 b2 + pc8 b3) := by omega
    rw [m63, q2, q1]
    omega
  have hs : pcB (n : Int) = ((pc8 b0 + pc8 b1 + pc8 b2 + pc8 b3 : Nat) : Int) := by
    unfold pcB
    have ec : ∀ p : Nat, (if Bt (n : Int) (p : Int) = true then (1 : Int) else 0) = ((tb n p : Nat) : Int) := by
      intro p
      rw [Bt_nat (by omega)]
      unfold tb
      split <;> rfl
    simp only [smT, ec]
    have tbn : ∀ p, tb n p = if p < 8 then tb b0 p else if p < 16 then tb b1 (p - 8) else if p < 24 then tb b2 (p - 16) else tb b3 (p - 24) := by
      intro p
      rw [hb, tb_byte h0]
      split
      · rfl
      · rw [tb_byte h1]
        by_cases c : p - 8 < 8
        · rw [if_pos c, if_pos (by omega)]
        · rw [if_neg c, if_neg (by omega), tb_byte h2]
          by_cases c' : p - 8 - 8 < 8
          · rw [if_pos c', if_pos (by omega)]; congr 1
          · rw [if_neg c', if_neg (by omega)]; congr 1
    simp only [tbn]
    unfold pc8
    simp
    omega
  unfold f_J6_bitCount_0f7a4
  simp only [q_let_e]
  have u1 := ushr_nat (a := n) (by omega) 1 (by omega)
  have a1 := and_nat (a := n / 2 ^ 1) (b := 1431655765) (by omega) (by omega)
  have g0 : (n : Int) - q_and (q_ushr (n : Int) 1) 1431655765 = ((v0 : Nat) : Int) := by
    rw [show (1 : Int) = ((1 : Nat) : Int) by rfl, u1, show (1431655765 : Int) = ((1431655765 : Nat) : Int) by rfl, a1, e0]
    have : n / 2 &&& 1431655765 ≤ n / 2 := Nat.and_le_left
    show (n : Int) - ((n / 2 &&& 1431655765 : Nat) : Int) = ((n - (n / 2 &&& 1431655765) : Nat) : Int)
    omega
  have hv1 : v1 < 2147483648 := by rw [c2]; omega
  have g1 : q_and (v0 : Int) 858993459 + q_and (q_ushr (v0 : Int) 2) 858993459 = ((v1 : Nat) : Int) := by
    have u2 := ushr_nat (a := v0) (by omega) 2 (by omega)
    have a2 := and_nat (a := v0) (b := 858993459) (by omega) (by omega)
    have a3 := and_nat (a := v0 / 2 ^ 2) (b := 858993459) (by omega) (by omega)
    rw [show (2 : Int) = ((2 : Nat) : Int) by rfl, u2, show (858993459 : Int) = ((858993459 : Nat) : Int) by rfl, a2, a3, e1]
    norm_cast
  have hv2 : v2 < 2147483648 := by rw [c3]; omega
  have g2 : q_and ((v1 : Int) + q_ushr (v1 : Int) 4) 252645135 = ((v2 : Nat) : Int) := by
    have u2 := ushr_nat (a := v1) (by omega) 4 (by omega)
    have ev : (v1 : Int) + ((v1 / 2 ^ 4 : Nat) : Int) = ((v1 + v1 / 16 : Nat) : Int) := by
      show (v1 : Int) + ((v1 / 16 : Nat) : Int) = _
      omega
    have lv : v1 + v1 / 16 < 2147483648 := by omega
    rw [show (4 : Int) = ((4 : Nat) : Int) by rfl, u2, ev, show (252645135 : Int) = ((252645135 : Nat) : Int) by rfl, and_nat lv (by omega), e2]
  have g3 : q_ushr (v2 : Int) 8 = ((v2 / 256 : Nat) : Int) := by
    rw [show (8 : Int) = ((8 : Nat) : Int) by rfl, ushr_nat hv2 8 (by omega)]
  have g4 : (v2 : Int) + ((v2 / 256 : Nat) : Int) = ((v2 + v2 / 256 : Nat) : Int) := by omega
  have lv2 : v2 + v2 / 256 < 2147483648 := by omega
  have g5 : q_ushr ((v2 + v2 / 256 : Nat) : Int) 16 = (((v2 + v2 / 256) / 65536 : Nat) : Int) := by
    rw [show (16 : Int) = ((16 : Nat) : Int) by rfl, ushr_nat lv2 16 (by omega)]
  have g6 : ((v2 + v2 / 256 : Nat) : Int) + (((v2 + v2 / 256) / 65536 : Nat) : Int) = ((v2 + v2 / 256 + (v2 + v2 / 256) / 65536 : Nat) : Int) := by omega
  have lv3 : v2 + v2 / 256 + (v2 + v2 / 256) / 65536 < 2147483648 := by omega
  have g7 : q_and ((v2 + v2 / 256 + (v2 + v2 / 256) / 65536 : Nat) : Int) 63 = ((pc8 b0 + pc8 b1 + pc8 b2 + pc8 b3 : Nat) : Int) := by
    rw [show (63 : Int) = ((63 : Nat) : Int) by rfl, and_nat lv3 (by omega), hr]
  rw [g0, g1, g2, g3, g4, g5, g6, g7, hs]
