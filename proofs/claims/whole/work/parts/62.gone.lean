/-- one gets on: view -/
def GON (s p bus c : Int) (v : Mem) : Mem := fun f i => if f = 8 ∧ p ≤ i ∧ i < v 0 9 - 1 then v 8 (i + 1) else if f = 0 ∧ i = 9 then v 0 9 - 1 else if f = 2 ∧ i = s then 2 else if f = 6 ∧ i = s then bus else if f = 7 ∧ i = s then v 0 0 else if f = 3 ∧ i = s then c else v f i
theorem GON.f0 {s p bus c : Int} {v : Mem} (i : Int) : GON s p bus c v 0 i = if i = 9 then v 0 9 - 1 else v 0 i := by simp [GON]
theorem GON.f2 {s p bus c : Int} {v : Mem} (i : Int) : GON s p bus c v 2 i = if i = s then 2 else v 2 i := by simp [GON]
theorem GON.f3 {s p bus c : Int} {v : Mem} (i : Int) : GON s p bus c v 3 i = if i = s then c else v 3 i := by simp [GON]
theorem GON.f4 {s p bus c : Int} {v : Mem} (i : Int) : GON s p bus c v 4 i = v 4 i := by simp [GON]
theorem GON.f5 {s p bus c : Int} {v : Mem} (i : Int) : GON s p bus c v 5 i = v 5 i := by simp [GON]
theorem GON.f6 {s p bus c : Int} {v : Mem} (i : Int) : GON s p bus c v 6 i = if i = s then bus else v 6 i := by simp [GON]
theorem GON.f7 {s p bus c : Int} {v : Mem} (i : Int) : GON s p bus c v 7 i = if i = s then v 0 0 else v 7 i := by simp [GON]
theorem GON.f8 {s p bus c : Int} {v : Mem} (i : Int) : GON s p bus c v 8 i = if p ≤ i ∧ i < v 0 9 - 1 then v 8 (i + 1) else v 8 i := by simp [GON]
theorem GON.eqv {S s p bus c : Int} {v w : Mem} (e : EQV S v w) (hp : 0 ≤ p) : EQV S (GON s p bus c v) (GON s p bus c w) := by
  obtain ⟨e1, e2, e3, e4, e5⟩ := e
  refine ⟨?_, ?_, ?_, fun i a b => ?_, fun j a b => ?_⟩
  · simpa [GON.f0] using e1
  · simpa [GON.f0] using e2
  · simpa [GON.f0] using by omega
  · rw [GON.f0, if_pos rfl] at b
    rw [GON.f8, GON.f8, ← e3]
    split
    · exact e4 _ (by omega) (by omega)
    · exact e4 _ a (by omega)
  · obtain ⟨c1, c2, c3, c4, c5⟩ := e5 j a b
    rw [GON.f2, GON.f3, GON.f4, GON.f5, GON.f6, GON.f7, GON.f2, GON.f3, GON.f4, GON.f5, GON.f6, GON.f7, ← e1]
    by_cases cj : j = s
    · simp [cj]
      rw [← cj]
      exact ⟨c3, c4⟩
    · simp only [if_neg cj]
      exact ⟨c1, c2, c3, c4, c5⟩
theorem GON.wf {S b s p bus c : Int} {v : Mem} (h : WFB S b v) (hp : 0 ≤ p ∧ p < v 0 9) (hs : v 8 p = s) (hb : 0 ≤ bus ∧ bus < 4) (hc : 0 ≤ c ∧ c ≤ 99) : WFB S b (GON s p bus c v) := by
  obtain ⟨h1, h2, h3, h4, h5, h6⟩ := h
  have h0 : GON s p bus c v 0 0 = v 0 0 := by simp [GON.f0]
  have h01 : GON s p bus c v 0 1 = v 0 1 := by simp [GON.f0]
  have h9 : GON s p bus c v 0 9 = v 0 9 - 1 := by simp [GON.f0]
  have hps := h4 p hp.1 hp.2
  -- where the one at i stood
  have hw : ∀ i, 0 ≤ i → i < v 0 9 - 1 → ∃ j, 0 ≤ j ∧ j < v 0 9 ∧ j ≠ p ∧ GON s p bus c v 8 i = v 8 j ∧ j = (if p ≤ i then i + 1 else i) := by
    intro i a b
    rw [GON.f8]
    by_cases ci : p ≤ i
    · rw [if_pos ⟨ci, b⟩, if_pos ci]
      exact ⟨i + 1, by omega, by omega, by omega, rfl, rfl⟩
    · rw [if_neg (fun h => ci h.1), if_neg ci]
      exact ⟨i, a, by omega, by omega, rfl, rfl⟩
  have inj : ∀ i j, 0 ≤ i → i < v 0 9 → 0 ≤ j → j < v 0 9 → v 8 i = v 8 j → i = j := by
    intro i j a b c d e
    rcases Int.lt_trichotomy i j with l | l | l
    · exact absurd e (h5 i j a l d)
    · exact l
    · exact absurd e.symm (h5 j i c l b)
  refine ⟨by rw [h0]; exact h1, by rw [h01]; exact h2, by rw [h9]; omega, fun i a b => ?_, fun i j a b d => ?_, fun j a b => ?_⟩
  · rw [h9] at b
    obtain ⟨j, j1, j2, j3, j4, -⟩ := hw i a b
    rw [j4]
    have hj := h4 j j1 j2
    refine ⟨hj.1, hj.2.1, ?_⟩
    rw [GON.f2, if_neg]
    · exact hj.2.2
    · intro e
      rw [← hs] at e
      exact j3 (inj j p j1 j2 hp.1 hp.2 e)
  · rw [h9] at d
    obtain ⟨i', j1, j2, j3, j4, j5⟩ := hw i a (by omega)
    obtain ⟨j', k1, k2, k3, k4, k5⟩ := hw j (by omega) d
    rw [j4, k4]
    intro e
    have := inj i' j' j1 j2 k1 k2 e
    revert j5 k5
    split <;> split <;> omega
  · obtain ⟨g1, g2, g3, g4, g5, g6⟩ := h6 j a b
    rw [GON.f2, GON.f3, GON.f4, GON.f5, GON.f6, GON.f7, h0]
    by_cases cj : j = s
    · rw [if_pos cj, if_pos cj, if_pos cj, if_pos cj]
      exact ⟨by omega, hc, g3, g4, fun _ => ⟨hb.1, hb.2, h1.1, h1.2⟩, fun e => absurd e (by omega)⟩
    · rw [if_neg cj, if_neg cj, if_neg cj, if_neg cj]
      refine ⟨g1, g2, g3, g4, g5, fun e => ?_⟩
      obtain ⟨i, i1, i2, i3⟩ := g6 e
      have hne : i ≠ p := fun e => cj (by rw [← i3, e, hs])
      by_cases ci : i < p
      · exact ⟨i, i1, by rw [h9]; omega, by rw [GON.f8, if_neg (by omega)]; exact i3⟩
      · exact ⟨i - 1, by omega, by rw [h9]; omega, by rw [GON.f8, if_pos (by omega), show i - 1 + 1 = i by omega]; exact i3⟩
theorem GON.nob {S s p bus c : Int} {w : Mem} (h : NOB S w) : NOB S (GON s p bus c w) := by
  intro j a b e
  rw [GON.f2] at e
  rw [GON.f6]
  by_cases cj : j = s
  · rw [if_pos cj] at e; exact absurd rfl e
  · rw [if_neg cj] at e ⊢; exact h j a b e
/-- what a minute leaves as it was -/
def GC (k : Nat) (M M' : Mem) : Prop := ∀ n, n ≠ k → (n < 32 * (k + 1) + 2 ∨ 32 * (k + 1) + 8 < n) → n ≠ 262 → n ≠ 263 → n ≠ 420 → n ≠ 452 → M' n = M n
def GM (q : Int) (M M' : Mem) : Prop := (∀ n, n ≠ 0 → n ≠ 64 → n ≠ 65 → n ≠ 82 → (n < 67 ∨ 76 < n) → M' n = M n) ∧ (∀ f, f ≠ 34 → f ≠ 51 → M' 0 f = M 0 f) ∧ (∀ n i, 67 ≤ n → n ≤ 69 → i ≠ q → M' n i = M n i) ∧ (∀ n i, 70 ≤ n → n ≤ 76 → (i < 8 * q ∨ 8 * q + 8 ≤ i) → M' n i = M n i) ∧ ∀ p, 0 ≤ p → p < 8 → 2 ≤ M 71 (8 * q + p) → M' 71 (8 * q + p) = M 71 (8 * q + p)
theorem GC.refl (k : Nat) (M : Mem) : GC k M M := fun _ _ _ _ _ _ _ => rfl
theorem GM.refl (q : Int) (M : Mem) : GM q M M := ⟨fun _ _ _ _ _ _ => rfl, fun _ _ _ => rfl, fun _ _ _ _ _ => rfl, fun _ _ _ _ _ => rfl, fun _ _ _ _ => rfl⟩
theorem GC.trans {k : Nat} {M M' M'' : Mem} (h : GC k M M') (h' : GC k M' M'') : GC k M M'' := fun n a b c d e f => (h' n a b c d e f).trans (h n a b c d e f)
theorem GM.trans {q : Int} {M M' M'' : Mem} (h : GM q M M') (h' : GM q M' M'') : GM q M M'' := ⟨fun n a b c d e => (h'.1 n a b c d e).trans (h.1 n a b c d e), fun f a b => (h'.2.1 f a b).trans (h.2.1 f a b), fun n i a b c => (h'.2.2.1 n i a b c).trans (h.2.2.1 n i a b c), fun n i a b c => (h'.2.2.2.1 n i a b c).trans (h.2.2.2.1 n i a b c), fun p a b c => (h'.2.2.2.2 p a b (by rw [h.2.2.2.2 p a b c]; exact c)).trans (h.2.2.2.2 p a b c)⟩
theorem SC.gc {k : Nat} {M M' : Mem} (h : SC M M') : GC k M M' := fun n _ _ a b c d => h n a b c d
theorem SM.gm {q : Int} {M M' : Mem} (h : SM M M') : GM q M M' := ⟨fun n a b c d _ => h.1 n a b c d, fun f a b => h.2 f a b, fun n i a b _ => by rw [h.1 n (by omega) (by omega) (by omega) (by omega)], fun n i a b _ => by rw [h.1 n (by omega) (by omega) (by omega) (by omega)], fun p _ _ _ => by rw [h.1 71 (by omega) (by omega) (by omega) (by omega)]⟩
theorem MR.step {t k : Nat} {q r b b' : Int} {Mc Mc' Mm Mm' : Mem} (h : MR t k q r b Mc Mm) (fc : GC k Mc Mc') (fm : GM q Mm Mm') (e : EQV (Mm 35 0) (cvw k Mc') (mvw q Mm')) (w : WFB (Mm 35 0) b' (cvw k Mc')) (n : NOB (Mm 35 0) (mvw q Mm')) : MR t k q r b' Mc' Mm' := by
  obtain ⟨h1, h2, h3, h4, h5, h6, h7⟩ := h
  have ht := h1.1
  have hT : TR t Mc' Mm' := TR.frm2 h1 (fun n a => fc n (by omega) (by omega) (by omega) (by omega) (by omega) (by omega)) (fun n a b => fm.1 n (by omega) (by omega) (by omega) (by omega) (by omega))
  unfold MR StE
  rw [fm.1 35 (by omega) (by omega) (by omega) (by omega) (by omega), fc 7 (by omega) (by omega) (by omega) (by omega) (by omega) (by omega), fm.2.1 47 (by omega) (by omega), fm.2.1 48 (by omega) (by omega), fm.2.1 49 (by omega) (by omega)]
  exact ⟨hT, h2, h3, h4, e, w, n⟩
