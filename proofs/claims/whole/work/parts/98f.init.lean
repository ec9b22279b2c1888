theorem MIC.z {n : Nat} (i : Int) (h : 11 < n) (h' : n ≠ 352) : MIC n i = 0 := by
  unfold MIC
  rw [if_neg h']
  have : ∀ (l : List ((Nat × Int) × Int)), (∀ x, x ∈ l → x.1.1 ≠ n) → l.lookup (n, i) = none := by
    intro l
    induction l with
    | nil => intro _; rfl
    | cons a l ih =>
      intro hl
      have hne : ((n, i) == a.1) = false := by
        have h1 := hl a (List.mem_cons_self ..)
        cases a with
        | mk a b =>
          cases a with
          | mk a1 a2 =>
            simp only at h1
            simp
            intro e; exact absurd e.symm h1
      cases a with
      | mk a b =>
        simp only at hne
        rw [List.lookup_cons, hne]
        exact ih (fun x hx => hl x (List.mem_cons_of_mem _ hx))
  rw [this tabIC (by
    intro x hx
    simp only [tabIC, List.mem_cons, List.not_mem_nil, or_false] at hx
    rcases hx with rfl | rfl | rfl | rfl | rfl | rfl | rfl | rfl | rfl | rfl | rfl | rfl | rfl <;> simp only <;> omega)]
  rfl
theorem MIM.z {n : Nat} (i : Int) (h : 0 < n) (h' : n ≠ 35) : MIM n i = 0 := by
  unfold MIM
  rw [if_neg h']
  have h1 : ∀ k : Int, ((n, i) == ((0 : Nat), k)) = false := by
    intro k
    simp
    intro e; omega
  simp only [tabIM, List.lookup, h1]
  rfl
theorem MC0_e : MC0 = BGC 4 100 0 8 MIC := by
  unfold MC0
  rw [beginC (by omega) (by omega)]
  rfl
theorem MM0_e : MM0 = STM 0 8 MIM := by
  unfold MM0 f_X10_begins
  rw [startsM (by omega) (by decide), q_call_e]
  rfl
theorem rel_init : Rel MC0 MM0 := by
  refine ⟨2, ?_⟩
  rw [MC0_e, MM0_e]
  have bN : ∀ n, n ≠ 4 → (n < 162 ∨ 167 < n) → BGC 4 100 0 8 MIC n = MIC n := fun n a b => by
    funext i; unfold BGC; rw [if_neg (by omega), if_neg (by omega), if_neg (by omega)]
  have sN : ∀ n, (n < 67 ∨ 76 < n) → STM 0 8 MIM n = MIM n := fun n a => by
    funext i; unfold STM; rw [if_neg (by omega), if_neg (by omega), if_neg (by omega)]
  have s35 : ∀ i, MIM 35 i = numF i := fun i => rfl
  have q0 : numF 0 = 0 := by decide
  have c40 : BGC 4 100 0 8 MIC 4 0 = 0 := by unfold BGC; rw [if_pos ⟨rfl, .inl rfl⟩]
  have c41 : BGC 4 100 0 8 MIC 4 1 = 0 := by unfold BGC; rw [if_neg (by omega), if_pos ⟨rfl, rfl⟩]
  have c49 : BGC 4 100 0 8 MIC 4 9 = 0 := by unfold BGC; rw [if_pos ⟨rfl, .inr rfl⟩]
  have m67 : STM 0 8 MIM 67 0 = 0 := by unfold STM; rw [if_pos (by omega)]
  have m68 : STM 0 8 MIM 68 0 = 0 := by
    unfold STM; rw [if_neg (by omega), if_pos ⟨rfl, rfl⟩]; decide
  have m69 : STM 0 8 MIM 69 0 = 0 := by unfold STM; rw [if_pos (by omega)]
  have hlr : LR 2 (BGC 4 100 0 8 MIC) (STM 0 8 MIM) := by
    intro l a b
    rw [bN (32 * (2 + 11) + 2) (by omega) (by omega), bN (32 * (2 + 11) + 3) (by omega) (by omega), sN 47 (by omega), sN 48 (by omega), sN 49 (by omega), sN 50 (by omega), MIC.z l (by omega) (by omega), MIC.z l (by omega) (by omega), MIM.z l (by omega) (by omega), MIM.z l (by omega) (by omega)]
    exact ⟨rfl, rfl, by omega, by omega, by omega, fun i a b => by omega, .inl rfl⟩
  unfold RelT
  rw [sN 35 (by omega), s35, q0, bN 0 (by omega) (by omega), bN 1 (by omega) (by omega), bN 6 (by omega) (by omega), sN 0 (by omega)]
  refine ⟨⟨by decide, by decide⟩, ?_, ⟨⟨⟨?_, ?_, ?_, fun i a b => ?_, fun p a b => ?_⟩, ⟨?_, ?_, ?_, fun i a b => ?_, fun i j a b c => ?_, fun p a b => ?_⟩, fun p a b => ?_⟩, ?_⟩, ⟨by decide, by decide, fun h => absurd h (by decide)⟩, ?_, ?_, ?_, by decide, by decide⟩
  · unfold TR
    rw [sN 35 (by omega), bN 2 (by omega) (by omega), bN (2 + 10) (by omega) (by omega)]
    refine ⟨.inl rfl, ⟨by decide, by decide, by decide⟩, ⟨by decide, by decide, by decide⟩, ⟨by decide, by decide, by decide⟩, ⟨by decide, by decide, by decide⟩, ⟨by decide, by decide, by decide⟩, ⟨?_, by decide, by decide⟩, fun p a b => ?_, ⟨by decide, by decide, fun j a b => ?_⟩, fun p a b => ?_, hlr⟩
    · rw [MIC.z _ (by omega) (by omega)]; decide
    · have : MIM 35 0 = 0 := by decide
      omega
    · have : MIM 35 2 = 0 := by decide
      omega
    · have : MIM 35 1 = 0 := by decide
      omega
  · show BGC 4 100 0 8 MIC 4 0 = STM 0 8 MIM 67 0; rw [c40, m67]
  · show BGC 4 100 0 8 MIC 4 1 = STM 0 8 MIM 68 0; rw [c41, m68]
  · show BGC 4 100 0 8 MIC 4 9 = STM 0 8 MIM 69 0; rw [c49, m69]
  · have b : i < BGC 4 100 0 8 MIC 4 9 := b
    omega
  · omega
  · show 0 ≤ BGC 4 100 0 8 MIC 4 0 ∧ BGC 4 100 0 8 MIC 4 0 ≤ 10000; omega
  · show in32 (BGC 4 100 0 8 MIC 4 1); rw [c41]; unfold in32; omega
  · show 0 ≤ BGC 4 100 0 8 MIC 4 9 ∧ BGC 4 100 0 8 MIC 4 9 ≤ 0; omega
  · have b : i < BGC 4 100 0 8 MIC 4 9 := b
    omega
  · have c : j < BGC 4 100 0 8 MIC 4 9 := c
    omega
  · omega
  · omega
  · omega
  · have e8 : MIC 8 3 = 0 := by decide
    have e46 : MIM 0 46 = 0 := by decide
    unfold DR
    rw [bN 8 (by omega) (by omega), sN 0 (by omega), e8, e46]
    exact ⟨rfl, by omega, by omega, fun j a b => by omega⟩
  · have e1 : MIC 9 3 = 0 := by decide
    have e2 : MIC 9 4 = -1 := by decide
    have e3 : MIM 0 58 = 0 := by decide
    have e4 : MIM 0 59 = -1 := by decide
    unfold NR
    rw [bN 9 (by omega) (by omega), sN 0 (by omega), e1, e2, e3, e4]
    exact ⟨rfl, by omega, by omega, rfl, by omega, by omega, fun i a b => by omega⟩
  · have e1 : MIC 0 1 = 0 := by decide
    have e2 : MIM 0 2 = 0 := by decide
    have e3 : MIC 1 4 = 0 := by decide
    have e4 : MIM 0 28 = 0 := by decide
    have e5 : MIC 1 5 = -1 := by decide
    have e6 : MIM 0 29 = -1 := by decide
    unfold FR
    rw [bN 0 (by omega) (by omega), bN 1 (by omega) (by omega), bN 352 (by omega) (by omega), sN 0 (by omega), e1, e2, e3, e4, e5, e6]
    exact ⟨⟨rfl, by omega, by omega⟩, fun i a b => by omega, ⟨rfl, by unfold in32; omega⟩, ⟨rfl, by unfold in32; omega⟩, fun i a b => rfl⟩
