/-! lines: what is being read -/
def hv (M : Mem) : Mem := fun n i => if n = 35 then M 35 (7 + i) else if 36 ≤ n ∧ n ≤ 39 then M n (8 + i) else if 40 ≤ n ∧ n ≤ 44 then M n (4 + i) else if n = 45 ∨ n = 46 then M n (8 + i) else if n = 47 ∨ n = 48 then M n (3 + i) else if n = 49 ∨ n = 50 then M n (64 + i) else M n i
/-- reading without a fault: the told object u, the tokens, what was told once -/
def RD (u : Nat) (L : Int) (Mc Mm : Mem) : Prop := (u = 2 ∨ u = 3) ∧ Mc 1 2 = u ∧ TB L Mc Mm ∧ TKN Mc Mm ∧ Mm 0 26 = 0 ∧ TR u Mc (hv Mm) ∧ Mc u 6 = Mm 35 9 ∧ (∀ p, Mm 35 7 ≤ p → p < 8 → Mc (32 * (u + 1) + 5) p = 0) ∧ (∀ k, 3 ≤ k → k ≤ 5 → Bt (Mc 1 3) k = Bt (Mm 0 19) k ∧ Mc 1 4 = 0 ∧ Mc 1 5 = -1 ∧ Mm 0 27 = -1) ∧ (∀ l, 0 ≤ l → l < 3 → (Mc (32 * (u + 11) + 2) l < Mc (32 * (u + 11) + 3) l ↔ Bt (Mm 0 19) (16 + l) = true))
/-- what a line may change that is no law -/
def fcL (u : Nat) (M M' : Mem) : Prop := ∀ n i, n ≠ 10 → True → n ≠ u → True → ¬ (n = 1 ∧ (i = 3 ∨ i = 4 ∨ i = 5)) → ¬ (32 * (u + 1) ≤ n ∧ n < 32 * (u + 2)) → True → True → M' n i = M n i
def fmL (M M' : Mem) : Prop := ∀ n i, ¬ (n = 0 ∧ 19 ≤ i ∧ i ≤ 29 ∧ i ≠ 21 ∧ i ≠ 28 ∧ i ≠ 29) → ¬ (n = 35 ∧ 7 ≤ i ∧ i ≠ 13) → ¬ (36 ≤ n ∧ n ≤ 39 ∧ 8 ≤ i) → ¬ (40 ≤ n ∧ n ≤ 44 ∧ 4 ≤ i) → ¬ ((n = 45 ∨ n = 46) ∧ 8 ≤ i) → True → True → M' n i = M n i
/-- what any line may change -/
def fcW (u : Nat) (M M' : Mem) : Prop := ∀ n i, n ≠ 10 → n ≠ 11 → n ≠ u → n ≠ u + 10 → ¬ (n = 1 ∧ (i = 3 ∨ i = 4 ∨ i = 5)) → ¬ (32 * (u + 1) ≤ n ∧ n < 32 * (u + 2)) → ¬ (32 * (u + 11) ≤ n ∧ n < 32 * (u + 12)) → ¬ (384 ≤ n ∧ n < 416) → M' n i = M n i
def fmW (M M' : Mem) : Prop := ∀ n i, ¬ (n = 0 ∧ 19 ≤ i ∧ i ≤ 31 ∧ i ≠ 21 ∧ i ≠ 28 ∧ i ≠ 29) → ¬ (n = 35 ∧ 7 ≤ i) → ¬ (36 ≤ n ∧ n ≤ 39 ∧ 8 ≤ i) → ¬ (40 ≤ n ∧ n ≤ 44 ∧ 4 ≤ i) → ¬ ((n = 45 ∨ n = 46) ∧ 8 ≤ i) → ¬ ((n = 47 ∨ n = 48) ∧ 3 ≤ i) → ¬ ((n = 49 ∨ n = 50) ∧ 64 ≤ i) → M' n i = M n i
