/-! numbers as Ints: an int is held modulo 2^32, a long modulo 2^64; w32, w64 give the number that the machine sees -/
abbrev Mem : Type := Nat → Int → Int
abbrev Res : Type := Option (Int × Mem)
def qI (x : Int) : Int32 := Int32.ofInt x
def qJ (x : Int) : Int64 := Int64.ofInt x
def w32 (x : Int) : Int := (Int32.ofInt x).toInt
def w64 (x : Int) : Int := (Int64.ofInt x).toInt
def up (M : Mem) (n : Nat) (i v : Int) : Mem := fun n' i' => if n' = n ∧ i' = i then v else M n' i'
def q_and (x y : Int) : Int := (qI x &&& qI y).toInt
def q_or (x y : Int) : Int := (qI x ||| qI y).toInt
def q_xor (x y : Int) : Int := (qI x ^^^ qI y).toInt
def q_shl (x y : Int) : Int := (qI x <<< (qI y &&& 31)).toInt
def q_shr (x y : Int) : Int := (qI x >>> (qI y &&& 31)).toInt
def q_ushr (x y : Int) : Int := ((qI x).toUInt32 >>> ((qI y).toUInt32 &&& Int32.toUInt32 31)).toInt32.toInt
def q_land (x y : Int) : Int := (qJ x &&& qJ y).toInt
def q_i2b (x : Int) : Int := (qI x).toInt8.toInt32.toInt
theorem qI_toInt (x : Int) : (qI x).toInt = w32 x := rfl
theorem qJ_toInt (x : Int) : (qJ x).toInt = w64 x := rfl
theorem qI_of (x : Int32) : qI x.toInt = x := Int32.ofInt_toInt x
theorem qJ_of (x : Int64) : qJ x.toInt = x := Int64.ofInt_toInt x
theorem qI_w (x : Int) : qI (w32 x) = qI x := qI_of _
theorem qJ_w (x : Int) : qJ (w64 x) = qJ x := qJ_of _
theorem w32_bmod (x : Int) : w32 x = x.bmod (2 ^ 32) := Int32.toInt_ofInt
theorem w64_bmod (x : Int) : w64 x = x.bmod (2 ^ 64) := Int64.toInt_ofInt
theorem w32_id {x : Int} (h : -2147483648 ≤ x ∧ x < 2147483648) : w32 x = x := by
  rw [w32_bmod]
  exact Int.bmod_eq_of_le (by omega) (by omega)
theorem w64_id {x : Int} (h : -9223372036854775808 ≤ x ∧ x < 9223372036854775808) : w64 x = x := by
  rw [w64_bmod]
  exact Int.bmod_eq_of_le (by omega) (by omega)
theorem w32_rng (x : Int) : -2147483648 ≤ w32 x ∧ w32 x < 2147483648 := by
  have h1 := Int32.le_toInt (qI x)
  have h2 := Int32.toInt_lt (qI x)
  exact ⟨by simpa [w32, qI] using h1, by simpa [w32, qI] using h2⟩
theorem qI_add (a b : Int) : qI (a + b) = qI a + qI b := Int32.ofInt_add a b
theorem qI_sub (a b : Int) : qI (a - b) = qI a - qI b := Int32.ofInt_sub a b
theorem qI_mul (a b : Int) : qI (a * b) = qI a * qI b := Int32.ofInt_mul a b
theorem qI_neg (a : Int) : qI (-a) = - qI a := Int32.ofInt_neg a
theorem qJ_add (a b : Int) : qJ (a + b) = qJ a + qJ b := Int64.ofInt_add a b
theorem qJ_sub (a b : Int) : qJ (a - b) = qJ a - qJ b := Int64.ofInt_sub a b
theorem qJ_mul (a b : Int) : qJ (a * b) = qJ a * qJ b := Int64.ofInt_mul a b
theorem qJ_neg (a : Int) : qJ (-a) = - qJ a := Int64.ofInt_neg a
theorem qI_lt {a b : Int} : qI a < qI b ↔ w32 a < w32 b := Int32.lt_iff_toInt_lt
theorem qI_le {a b : Int} : qI a ≤ qI b ↔ w32 a ≤ w32 b := Int32.le_iff_toInt_le
theorem qI_eq {a b : Int} : qI a = qI b ↔ w32 a = w32 b := Int32.toInt_inj.symm
theorem qJ_lt {a b : Int} : qJ a < qJ b ↔ w64 a < w64 b := Int64.lt_iff_toInt_lt
theorem qJ_le {a b : Int} : qJ a ≤ qJ b ↔ w64 a ≤ w64 b := Int64.le_iff_toInt_le
theorem qJ_eq {a b : Int} : qJ a = qJ b ↔ w64 a = w64 b := Int64.toInt_inj.symm
theorem qI_0 : qI 0 = 0 := by decide
theorem w32_0 : w32 0 = 0 := by decide
theorem qI_div (a b : Int) : qI a / qI b = qI ((w32 a).tdiv (w32 b)) := by
  apply Int32.toInt_inj.mp
  rw [Int32.toInt_div, qI_toInt, qI_toInt, qI_toInt, w32_bmod ((w32 a).tdiv (w32 b))]
theorem qI_rem (a b : Int) : qI a % qI b = qI ((w32 a).tmod (w32 b)) := by
  rw [← qI_of (qI a % qI b), Int32.toInt_mod, qI_toInt, qI_toInt]
theorem qJ_div (a b : Int) : qJ a / qJ b = qJ ((w64 a).tdiv (w64 b)) := by
  apply Int64.toInt_inj.mp
  rw [Int64.toInt_div, qJ_toInt, qJ_toInt, qJ_toInt, w64_bmod ((w64 a).tdiv (w64 b))]
theorem qJ_rem (a b : Int) : qJ a % qJ b = qJ ((w64 a).tmod (w64 b)) := by
  rw [← qJ_of (qJ a % qJ b), Int64.toInt_mod, qJ_toInt, qJ_toInt]
theorem qI_rem2 (a b : Int) : qI a - qI a / qI b * qI b = qI ((w32 a).tmod (w32 b)) := by
  rw [qI_div, Int.tmod_def, qI_sub, qI_mul, qI_w, qI_w, Int32.mul_comm]
theorem qJ_rem2 (a b : Int) : qJ a - qJ a / qJ b * qJ b = qJ ((w64 a).tmod (w64 b)) := by
  rw [qJ_div, Int.tmod_def, qJ_sub, qJ_mul, qJ_w, qJ_w, Int64.mul_comm]
theorem qI_i2l (x : Int) : (qI x).toInt64 = qJ (w32 x) := by
  apply Int64.toInt_inj.mp
  rw [Int32.toInt_toInt64, qI_toInt, qJ_toInt]
  have h := w32_rng x
  rw [w64_id ⟨by omega, by omega⟩]
theorem qJ_l2i (x : Int) : (qJ x).toInt32 = qI x := by
  apply Int32.toInt_inj.mp
  rw [Int64.toInt_toInt32, qI_toInt, qJ_toInt, w32_bmod, w64_bmod]
  exact Int.bmod_bmod_of_dvd (by decide)
theorem q_and_I (x y : Int) : qI x &&& qI y = qI (q_and x y) := (qI_of _).symm
theorem q_or_I (x y : Int) : qI x ||| qI y = qI (q_or x y) := (qI_of _).symm
theorem q_xor_I (x y : Int) : qI x ^^^ qI y = qI (q_xor x y) := (qI_of _).symm
theorem q_shl_I (x y : Int) : qI x <<< (qI y &&& 31) = qI (q_shl x y) := (qI_of _).symm
theorem q_shr_I (x y : Int) : qI x >>> (qI y &&& 31) = qI (q_shr x y) := (qI_of _).symm
theorem q_ushr_I (x y : Int) : ((qI x).toUInt32 >>> ((qI y).toUInt32 &&& Int32.toUInt32 31)).toInt32 = qI (q_ushr x y) := (qI_of _).symm
theorem q_land_I (x y : Int) : qJ x &&& qJ y = qJ (q_land x y) := (qJ_of _).symm
theorem q_i2b_I (x : Int) : (qI x).toInt8.toInt32 = qI (q_i2b x) := (qI_of _).symm
/-- compare two longs: -1, 0, 1 -/
def q_cmp (x y : Int) : Int := if w64 x < w64 y then -1 else if w64 x = w64 y then 0 else 1
