/-! the relation between the two memories. A view of a stand: 0: 0 minute, 1 number, 9 waiting; 2 where, 3 coins, 4 wet, 5 passed, 6 bus, 7 went, 8 row -/
def cvw (k : Nat) (M : Mem) : Mem := fun f i => if f = 0 then M k i else M (32 * (k + 1) + f) i
def mvc (f : Nat) : Nat := if f = 8 then 70 else f + 69
def mvw (q : Int) (M : Mem) : Mem := fun f i => if f = 0 then (if i = 0 then M 67 q else if i = 1 then M 68 q else M 69 q) else M (mvc f) (8 * q + i)
/-- two views that tell the same of so many souls -/
def EQV (S : Int) (v w : Mem) : Prop := v 0 0 = w 0 0 ∧ v 0 1 = w 0 1 ∧ v 0 9 = w 0 9 ∧ (∀ i, 0 ≤ i → i < v 0 9 → v 8 i = w 8 i) ∧ ∀ p, 0 ≤ p → p < S → v 2 p = w 2 p ∧ v 3 p = w 3 p ∧ v 4 p = w 4 p ∧ v 5 p = w 5 p ∧ (v 2 p = 2 → v 6 p = w 6 p ∧ v 7 p = w 7 p)
/-- a view that can be -/
def WFB (S b : Int) (v : Mem) : Prop := (0 ≤ v 0 0 ∧ v 0 0 ≤ 10000) ∧ in32 (v 0 1) ∧ (0 ≤ v 0 9 ∧ v 0 9 ≤ S) ∧ (∀ i, 0 ≤ i → i < v 0 9 → 0 ≤ v 8 i ∧ v 8 i < S ∧ v 2 (v 8 i) = 1) ∧ (∀ i j, 0 ≤ i → i < j → j < v 0 9 → v 8 i ≠ v 8 j) ∧ ∀ p, 0 ≤ p → p < S → (0 ≤ v 2 p ∧ v 2 p ≤ 3) ∧ (0 ≤ v 3 p ∧ v 3 p ≤ 99) ∧ (0 ≤ v 4 p ∧ v 4 p ≤ 999) ∧ (0 ≤ v 5 p ∧ v 5 p ≤ 4 * v 0 0 + b) ∧ (v 2 p = 2 → 0 ≤ v 6 p ∧ v 6 p < 4 ∧ 0 ≤ v 7 p ∧ v 7 p ≤ 10000) ∧ (v 2 p = 1 → ∃ i, 0 ≤ i ∧ i < v 0 9 ∧ v 8 i = p)
def WFV (S : Int) (v : Mem) : Prop := WFB S 0 v
/-- in the reference who isn't gone has no bus -/
def NOB (S : Int) (w : Mem) : Prop := ∀ p, 0 ≤ p → p < S → w 2 p ≠ 2 → w 6 p = -1
def SR (S : Int) (k : Nat) (q : Int) (Mc Mm : Mem) : Prop := EQV S (cvw k Mc) (mvw q Mm) ∧ WFV S (cvw k Mc) ∧ NOB S (mvw q Mm)
/-- a knot of one side and one of the other -/
def TKS : List (Int × Int) := [(12, 260), (10, 262), (11, 261), (29, 60), (30, 256), (31, 61), (32, 257), (33, 258), (34, 62), (25, 43), (26, 45), (27, 42), (28, 47)]
def TK (tok num srt val : Int) : Prop := (srt = 0 ∧ tok = 21 ∧ num = val ∧ 0 ≤ val ∧ val ≤ 9999) ∨ (srt = 1 ∧ tok = 13 + val ∧ 0 ≤ val ∧ val ≤ 6) ∨ (srt = 2 ∧ (tok, val) ∈ TKS)
/-- how many values lie in the stack behind so many knots -/
def dpt (R V : Int → Int) (a : Int) : Nat → Int
  | 0 => 0
  | n + 1 => dpt R V a n + (if R (a + n) = 2 then (if V (a + n) = 260 then 0 else -1) else 1)
def WFL (R V : Int → Int) (a b : Int) : Prop := a = b ∨ ((∀ n : Nat, a + n < b → R (a + n) = 2 → (if V (a + n) = 260 then 1 else 2) ≤ dpt R V a n) ∧ dpt R V a (b - a).toNat = 1)
def LR (t : Nat) (Mc Mm : Mem) : Prop := ∀ l, 0 ≤ l → l < 3 → Mc (32 * (t + 11) + 2) l = Mm 47 l ∧ Mc (32 * (t + 11) + 3) l = Mm 48 l ∧ 0 ≤ Mm 47 l ∧ Mm 47 l ≤ Mm 48 l ∧ Mm 48 l ≤ 64 ∧ (∀ i, Mm 47 l ≤ i → i < Mm 48 l → TK (Mc (32 * (t + 11)) i) (Mc (32 * (t + 11) + 1) i) (Mm 49 i) (Mm 50 i)) ∧ WFL (Mm 49) (Mm 50) (Mm 47 l) (Mm 48 l)
/-- what a text tells -/
def TR (t : Nat) (Mc Mm : Mem) : Prop := (t = 2 ∨ t = 3) ∧ (Mc t 0 = Mm 35 0 ∧ 0 ≤ Mm 35 0 ∧ Mm 35 0 ≤ 8) ∧ (Mc t 7 = Mm 35 1 ∧ 0 ≤ Mm 35 1 ∧ Mm 35 1 ≤ 4) ∧ (Mc t 13 = Mm 35 3 ∧ 0 ≤ Mm 35 3 ∧ Mm 35 3 ≤ 8) ∧ (Mc t 14 = Mm 35 4 ∧ 0 ≤ Mm 35 4 ∧ Mm 35 4 ≤ 100) ∧ (Mc t 15 = Mm 35 5 ∧ 0 ≤ Mm 35 5 ∧ Mm 35 5 ≤ 99999) ∧ (Mc (t + 10) 6 = Mm 35 6 ∧ 0 ≤ Mm 35 6 ∧ Mm 35 6 ≤ 64) ∧ (∀ p, 0 ≤ p → p < Mm 35 0 → (Mc (32 * (t + 1) + 1) p = Mm 36 p ∧ in32 (Mm 36 p)) ∧ (Mc (32 * (t + 1) + 2) p = Mm 37 p ∧ 0 ≤ Mm 37 p ∧ Mm 37 p ≤ 99) ∧ (Mc (32 * (t + 1) + 3) p = Mm 38 p ∧ 0 ≤ Mm 38 p ∧ Mm 38 p ≤ 99) ∧ (Mc (32 * (t + 1) + 4) p = Mm 39 p ∧ 0 ≤ Mm 39 p ∧ Mm 39 p ≤ 99) ∧ Mc (32 * (t + 1) + 5) p = orT (fun j => if Mm 45 j = p then q_shl 1 (Mm 46 j) else 0) (Mm 35 2).toNat) ∧ (0 ≤ Mm 35 2 ∧ Mm 35 2 ≤ 8 ∧ ∀ j, 0 ≤ j → j < Mm 35 2 → 0 ≤ Mm 45 j ∧ Mm 45 j < Mm 35 0 ∧ 0 ≤ Mm 46 j ∧ Mm 46 j < Mm 35 0) ∧ (∀ b, 0 ≤ b → b < Mm 35 1 → (Mc (32 * (t + 1) + 8) b = Mm 40 b ∧ in32 (Mm 40 b)) ∧ (Mc (32 * (t + 1) + 9) b = Mm 41 b ∧ 0 ≤ Mm 41 b ∧ Mm 41 b ≤ 99) ∧ (Mc (32 * (t + 1) + 10) b = Mm 42 b ∧ 1 ≤ Mm 42 b ∧ Mm 42 b ≤ 30) ∧ (Mc (32 * (t + 1) + 11) b = Mm 43 b ∧ 1 ≤ Mm 43 b ∧ Mm 43 b ≤ 8) ∧ (Mc (32 * (t + 1) + 12) b = Mm 44 b ∧ 0 ≤ Mm 44 b ∧ Mm 44 b ≤ 99)) ∧ LR t Mc Mm
/-- what a deed's undoing makes of a view -/
def TOV (p : Int) (v : Mem) : Mem := fun f i => if f = 8 ∧ p ≤ i ∧ i < v 0 9 - 1 then v 8 (i + 1) else if f = 0 ∧ i = 9 then v 0 9 - 1 else v f i
def PIV (s p : Int) (v : Mem) : Mem := fun f i => if f = 8 ∧ i = p then s else if f = 8 ∧ p < i ∧ i ≤ v 0 9 then v 8 (i - 1) else if f = 2 ∧ i = s then 1 else if f = 0 ∧ i = 9 then v 0 9 + 1 else v f i
def UND (S kd s fo : Int) (v w : Mem) : Prop := (0 ≤ s ∧ s < S) ∧ ((kd = 0 ∧ ∃ p, 0 ≤ p ∧ p < v 0 9 ∧ v 8 p = s ∧ 0 ≤ fo ∧ fo < v 0 9 ∧ EQV S (PIV s fo (TOV p v)) w) ∨ (kd = 1 ∧ EQV S (up v 3 s fo) w) ∨ (kd = 2 ∧ v 2 s = 3 ∧ 0 ≤ fo ∧ fo ≤ v 0 9 ∧ v 0 9 < S ∧ EQV S (PIV s fo v) w))
/-- the deeds and the reference's images of what was ahead of them -/
def DR (S : Int) (Mc Mm : Mem) : Prop := Mc 8 3 = Mm 0 46 ∧ 0 ≤ Mm 0 46 ∧ Mm 0 46 ≤ 20 ∧ ∀ j, 0 ≤ j → j < Mm 0 46 → WFV S (mvw (3 + j) Mm) ∧ NOB S (mvw (3 + j) Mm) ∧ UND S (Mc 288 j) (Mc 289 j) (Mc 290 j) (mvw (if j + 1 = Mm 0 46 then 0 else 4 + j) Mm) (mvw (3 + j) Mm)
/-- what was seen -/
def NR (S : Int) (Mc Mm : Mem) : Prop := Mc 9 3 = Mm 0 58 ∧ 0 ≤ Mm 0 58 ∧ Mm 0 58 ≤ 24 ∧ Mc 9 4 = Mm 0 59 ∧ -1 ≤ Mm 0 59 ∧ Mm 0 59 ≤ Mm 0 58 ∧ ∀ i, 0 ≤ i → i < Mm 0 58 → (Mc 322 i = 2 ∧ Mc 321 i = Mm 95 i ∧ 0 ≤ Mm 95 i ∧ Mm 95 i < i) ∨ ((Mc 322 i = 0 ∧ Mm 94 i = 1 ∨ Mc 322 i = 1 ∧ Mm 94 i = 0) ∧ Mm 95 i = -1 ∧ Mc 320 i = Mm 92 i ∧ 1 ≤ Mm 92 i ∧ Mm 92 i ≤ 60 ∧ Mc 321 i = Mm 93 i ∧ 0 ≤ Mm 93 i ∧ Mm 93 i < S)
/-- what was fed, and the rest -/
def FR (Mc Mm : Mem) : Prop := (Mc 0 1 = Mm 0 2 ∧ 0 ≤ Mm 0 2 ∧ Mm 0 2 ≤ 700) ∧ (∀ i, 0 ≤ i → i < Mm 0 2 → 0 ≤ Mm 33 i ∧ Mm 33 i < 256 ∧ Mc 32 i = (if Mm 33 i < 128 then Mm 33 i else Mm 33 i - 256)) ∧ (Mc 1 4 = Mm 0 28 ∧ in32 (Mm 0 28)) ∧ (Mc 1 5 = Mm 0 29 ∧ in32 (Mm 0 29)) ∧ (∀ i, 0 ≤ i → i < 20 → Mc 352 i = tokR i)
def RelT (t : Nat) (Mc Mm : Mem) : Prop := (Mc 0 3 = t ∧ Mc 1 2 = 5 - t) ∧ TR t Mc Mm ∧ (SR (Mm 35 0) 4 0 Mc Mm ∧ Mc 4 0 ≤ 9800) ∧ (Mc 0 7 = Mm 0 45 ∧ (Mm 0 45 = 0 ∨ Mm 0 45 = 1) ∧ (Mm 0 45 = 1 → SR (Mm 35 0) 6 2 Mc Mm ∧ Mc 6 0 ≤ 9800)) ∧ DR (Mm 35 0) Mc Mm ∧ NR (Mm 35 0) Mc Mm ∧ FR Mc Mm ∧ Mm 0 47 = 0 ∧ Mm 0 48 = -1
def Rel (Mc Mm : Mem) : Prop := ∃ t, RelT t Mc Mm
