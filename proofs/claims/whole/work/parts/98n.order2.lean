/-- the first few of the queue in another row -/
def RWC (few : Nat) (f : Nat → Int) (M : Mem) : Mem := fun n i => if n = 200 ∧ 0 ≤ i ∧ i < few then f i.toNat else M n i
def RWM (few : Nat) (f : Nat → Int) (M : Mem) : Mem := fun n i => if n = 70 ∧ 8 ≤ i ∧ i < 8 + few then f (i - 8).toNat else M n i
/-- a row of the same souls -/
def PRM (few : Nat) (f : Nat → Int) (row : Int → Int) : Prop := (∀ b, b < few → ∃ i : Nat, i < few ∧ row i = f b) ∧ (∀ b b', b < b' → b' < few → f b ≠ f b') ∧ ∀ i : Nat, i < few → ∃ b, b < few ∧ f b = row i
theorem PRM.mk {few : Nat} {f : Nat → Int} {row : Int → Int} (h1 : ∀ b, b < few → ∃ i : Nat, i < few ∧ row i = f b) (h2 : ∀ b b', b < b' → b' < few → f b ≠ f b') : PRM few f row := by
  refine ⟨h1, h2, fun i hi => ?_⟩
  apply Classical.byContradiction
  intro hn
  have hn : ∀ b, b < few → f b ≠ row i := fun b hb e => hn ⟨b, hb, e⟩
  have : few + 1 ≤ few := pigeonR (fun b j => row j = if b = few then row i else f b) (fun b hb => by
    by_cases e : b = few
    · exact ⟨i, hi, by rw [if_pos e]⟩
    · obtain ⟨j, j1, j2⟩ := h1 b (by omega)
      exact ⟨j, j1, by rw [if_neg e]; exact j2⟩) (fun b b' j l1 l2 e1 e2 => by
    rw [if_neg (by omega)] at e1
    by_cases e : b' = few
    · rw [if_pos e] at e2
      exact hn b (by omega) (by omega)
    · rw [if_neg e] at e2
      exact h2 b b' l1 (by omega) (by omega))
  omega
theorem rowW {t few : Nat} {f : Nat → Int} {M3 N3 : Mem} (h : MR t 5 1 0 0 M3 N3) (hf : (few : Int) ≤ N3 69 1) (hp : PRM few f (fun i => N3 70 (8 + i))) : MR t 5 1 0 0 (RWC few f M3) (RWM few f N3) ∧ FC t M3 (RWC few f M3) ∧ FM N3 (RWM few f N3) ∧ RWM few f N3 67 1 = N3 67 1 := by
  have ht := h.1.1
  have hS := h.1.2.1
  obtain ⟨r1, r2, r3, r4, r5, r6⟩ := h.rng
  have hv := h.2.2.2.2
  obtain ⟨p1, p2, p3⟩ := hp
  have cN : ∀ n, n ≠ 200 → RWC few f M3 n = M3 n := fun n a => by funext i; unfold RWC; rw [if_neg (fun h => a h.1)]
  have mN : ∀ n, n ≠ 70 → RWM few f N3 n = N3 n := fun n a => by funext i; unfold RWM; rw [if_neg (fun h => a h.1)]
  have c8 : ∀ i, 0 ≤ i → cvw 5 (RWC few f M3) 8 i = if i < few then f i.toNat else cvw 5 M3 8 i := by
    intro i a
    show RWC few f M3 200 i = _
    unfold RWC
    by_cases d : i < few
    · rw [if_pos ⟨rfl, a, d⟩, if_pos d]
    · rw [if_neg (fun h => d h.2.2), if_neg d]; rfl
  have m8 : ∀ i, 0 ≤ i → mvw 1 (RWM few f N3) 8 i = if i < few then f i.toNat else mvw 1 N3 8 i := by
    intro i a
    show RWM few f N3 70 (8 * 1 + i) = _
    unfold RWM
    by_cases d : i < few
    · rw [if_pos ⟨rfl, by omega, by omega⟩, if_pos d, show 8 * 1 + i - 8 = i by omega]
    · rw [if_neg (fun h => by omega), if_neg d]; rfl
  have cf : ∀ g i, g = 0 ∨ (2 ≤ g ∧ g ≤ 7) → cvw 5 (RWC few f M3) g i = cvw 5 M3 g i := by
    intro g i hg
    unfold cvw
    split
    · rw [cN 5 (by omega)]
    · rw [cN _ (by omega)]
  have mf : ∀ g i, g = 0 ∨ (2 ≤ g ∧ g ≤ 7) → mvw 1 (RWM few f N3) g i = mvw 1 N3 g i := by
    intro g i hg
    have e : mvc g ≠ 70 ∨ g = 0 := by unfold mvc; split <;> omega
    unfold mvw
    rw [mN 67 (by omega), mN 68 (by omega), mN 69 (by omega)]
    split
    · rfl
    · rcases e with e | e
      · rw [mN _ e]
      · omega
  have gc : GC 5 M3 (RWC few f M3) := fun n _ a _ _ _ _ => cN n (by omega)
  have fm : FM N3 (RWM few f N3) := ⟨fun n a => mN n (by omega), fun f' a => by rw [mN 0 (by omega)], fun n q a b c => by rw [mN n (by omega)], fun n i a b c => by unfold RWM; rw [if_neg (by omega)]⟩
  have row8 : ∀ i, 0 ≤ i → i < N3 69 1 → cvw 5 M3 8 i = N3 70 (8 + i) := fun i a b => hv.1.2.2.2.1 i a (by rw [hv.1.2.2.1]; exact b)
  have w9 : cvw 5 M3 0 9 = N3 69 1 := hv.1.2.2.1
  have fmem : ∀ b, b < few → ∃ i : Int, 0 ≤ i ∧ i < few ∧ cvw 5 M3 8 i = f b := fun b hb => by
    obtain ⟨i, i1, i2⟩ := p1 b hb
    exact ⟨i, by omega, by omega, by rw [row8 i (by omega) (by omega)]; exact i2⟩
  have hT : TR t (RWC few f M3) (RWM few f N3) := TR.frm2 h.1 (fun n a => cN n (by omega)) (fun n a b => mN n (by omega))
  refine ⟨⟨hT, h.2.1, by rw [cN 7 (by omega)]; exact h.2.2.1, ?_, ?_, ?_, ?_⟩, gc.fc ht, fm, by rw [mN 67 (by omega)]⟩
  · unfold StE
    rw [cN 7 (by omega), mN 0 (by omega)]
    exact h.2.2.2.1
  · rw [mN 35 (by omega)]
    obtain ⟨x1, x2, x3, x4, x5⟩ := hv.1
    refine ⟨by rw [cf 0 _ (by omega), mf 0 _ (by omega)]; exact x1, by rw [cf 0 _ (by omega), mf 0 _ (by omega)]; exact x2, by rw [cf 0 _ (by omega), mf 0 _ (by omega)]; exact x3, fun i a b => ?_, fun p a b => ?_⟩
    · rw [cf 0 _ (by omega)] at b
      rw [c8 i a, m8 i a]
      split
      · rfl
      · exact x4 i a b
    · rw [cf 2 _ (by omega), mf 2 _ (by omega), cf 3 _ (by omega), mf 3 _ (by omega), cf 4 _ (by omega), mf 4 _ (by omega), cf 5 _ (by omega), mf 5 _ (by omega), cf 6 _ (by omega), mf 6 _ (by omega), cf 7 _ (by omega), mf 7 _ (by omega)]
      exact x5 p a b
  · rw [mN 35 (by omega)]
    obtain ⟨x1, x2, x3, x4, x5, x6⟩ := hv.2.1
    have z9 := cf 0 9 (by omega)
    refine ⟨by rw [cf 0 _ (by omega)]; exact x1, by rw [cf 0 _ (by omega)]; exact x2, by rw [z9]; exact x3, fun i a b => ?_, fun i j a b d => ?_, fun p a b => ?_⟩
    · rw [z9] at b
      rw [c8 i a, cf 2 _ (by omega)]
      by_cases e : i < few
      · rw [if_pos e]
        obtain ⟨i', i1, i2, i3⟩ := fmem i.toNat (by omega)
        rw [← i3]; exact x4 i' i1 (by omega)
      · rw [if_neg e]; exact x4 i a b
    · rw [z9] at d
      rw [c8 i a, c8 j (by omega)]
      by_cases e : j < few
      · rw [if_pos (by omega), if_pos e]; exact p2 _ _ (by omega) (by omega)
      · rw [if_neg e]
        by_cases e' : i < few
        · rw [if_pos e']
          obtain ⟨i', i1, i2, i3⟩ := fmem i.toNat (by omega)
          rw [← i3]; exact x5 i' j i1 (by omega) d
        · rw [if_neg e']; exact x5 i j a b d
    · obtain ⟨y1, y2, y3, y4, y5, y6⟩ := x6 p a b
      rw [cf 2 _ (by omega), cf 3 _ (by omega), cf 4 _ (by omega), cf 5 _ (by omega), cf 6 _ (by omega), cf 7 _ (by omega), cf 0 0 (by omega), z9]
      refine ⟨y1, y2, y3, y4, y5, fun hh => ?_⟩
      obtain ⟨i, i1, i2, i3⟩ := y6 hh
      by_cases e : i < few
      · obtain ⟨b', l1, l2⟩ := p3 i.toNat (by omega)
        refine ⟨b', by omega, by omega, ?_⟩
        rw [c8 b' (by omega), if_pos (by omega), Int.toNat_natCast, l2, ← i3, row8 i i1 (by omega)]
        show N3 70 (8 + (i.toNat : Int)) = _
        rw [Int.toNat_of_nonneg i1]
      · exact ⟨i, i1, i2, by rw [c8 i i1, if_neg e]; exact i3⟩
  · rw [mN 35 (by omega)]
    intro p a b
    rw [mf 2 _ (by omega), mf 6 _ (by omega)]
    exact hv.2.2 p a b
