/-- two views that are the same where one looks -/
def VEQ (v w : Mem) : Prop := v 0 0 = w 0 0 ∧ v 0 1 = w 0 1 ∧ v 0 9 = w 0 9 ∧ ∀ f i, 2 ≤ f → f ≤ 8 → 0 ≤ i → i < 8 → v f i = w f i
theorem VEQ.symm {v w : Mem} (h : VEQ v w) : VEQ w v := ⟨h.1.symm, h.2.1.symm, h.2.2.1.symm, fun f i a b c d => (h.2.2.2 f i a b c d).symm⟩
theorem VEQ.to {v w : Mem} {S : Int} (h : VEQ v w) (hS : S ≤ 8) (hw : v 0 9 ≤ 8) : EQV S v w := by
  refine ⟨h.1, h.2.1, h.2.2.1, fun i a b => h.2.2.2 8 i (by omega) (by omega) a (by omega), fun p a b => ⟨?_, ?_, ?_, ?_, fun _ => ⟨?_, ?_⟩⟩⟩
  all_goals exact h.2.2.2 _ p (by omega) (by omega) a (by omega)
theorem EQV.refl (S : Int) (v : Mem) : EQV S v v := ⟨rfl, rfl, rfl, fun _ _ _ => rfl, fun _ _ _ => ⟨rfl, rfl, rfl, rfl, fun _ => ⟨rfl, rfl⟩⟩⟩
theorem EQV.symm {S : Int} {v w : Mem} (h : EQV S v w) : EQV S w v := by
  obtain ⟨h1, h2, h3, h4, h5⟩ := h
  refine ⟨h1.symm, h2.symm, h3.symm, fun i a b => (h4 i a (by omega)).symm, fun p a b => ?_⟩
  obtain ⟨a1, a2, a3, a4, a5⟩ := h5 p a b
  exact ⟨a1.symm, a2.symm, a3.symm, a4.symm, fun c => ⟨(a5 (by omega)).1.symm, (a5 (by omega)).2.symm⟩⟩
theorem EQV.trans {S : Int} {u v w : Mem} (h : EQV S u v) (h' : EQV S v w) : EQV S u w := by
  obtain ⟨h1, h2, h3, h4, h5⟩ := h
  obtain ⟨k1, k2, k3, k4, k5⟩ := h'
  refine ⟨h1.trans k1, h2.trans k2, h3.trans k3, fun i a b => (h4 i a b).trans (k4 i a (by omega)), fun p a b => ?_⟩
  obtain ⟨a1, a2, a3, a4, a5⟩ := h5 p a b
  obtain ⟨b1, b2, b3, b4, b5⟩ := k5 p a b
  exact ⟨a1.trans b1, a2.trans b2, a3.trans b3, a4.trans b4, fun c => ⟨(a5 c).1.trans (b5 (by omega)).1, (a5 c).2.trans (b5 (by omega)).2⟩⟩
theorem WFB.of {S b : Int} {v w : Mem} (h : WFB S b v) (e : EQV S v w) : WFB S b w := by
  obtain ⟨h1, h2, h3, h4, h5, h6⟩ := h
  obtain ⟨e1, e2, e3, e4, e5⟩ := e
  refine ⟨by omega, by rw [← e2]; exact h2, by omega, fun i a b => ?_, fun i j a b c => ?_, fun p a b => ?_⟩
  · obtain ⟨g1, g2, g3⟩ := h4 i a (by omega)
    rw [← e4 i a (by omega)]
    exact ⟨g1, g2, by rw [← (e5 _ g1 g2).1]; exact g3⟩
  · rw [← e4 i a (by omega), ← e4 j (by omega) (by omega)]
    exact h5 i j a b (by omega)
  · obtain ⟨g1, g2, g3, g4, g5, g6⟩ := h6 p a b
    obtain ⟨c1, c2, c3, c4, c5⟩ := e5 p a b
    refine ⟨by omega, by omega, by omega, by omega, fun c => ?_, fun c => ?_⟩
    · have := c5 (by omega)
      have := g5 (by omega)
      omega
    · obtain ⟨i, d1, d2, d3⟩ := g6 (by omega)
      exact ⟨i, d1, by omega, by rw [← e4 i d1 d2]; exact d3⟩
theorem NOB.of {S : Int} {v w : Mem} (h : NOB S v) (e : VEQ v w) (hS : S ≤ 8) : NOB S w := by
  intro p a b c
  rw [← e.2.2.2 6 p (by omega) (by omega) a (by omega)]
  exact h p a b (by rw [e.2.2.2 2 p (by omega) (by omega) a (by omega)]; exact c)
theorem TOV.eqv {S p : Int} {v w : Mem} (e : EQV S v w) (hp : 0 ≤ p) : EQV S (TOV p v) (TOV p w) := by
  obtain ⟨e1, e2, e3, e4, e5⟩ := e
  refine ⟨?_, ?_, ?_, fun i a b => ?_, fun p a b => ?_⟩
  · simpa [TOV] using e1
  · simpa [TOV] using e2
  · simpa [TOV] using by omega
  · have b' : i < v 0 9 - 1 := by simpa [TOV] using b
    simp only [TOV, true_and, Nat.reduceEqDiff, false_and, if_false]
    rw [← e3]
    by_cases c : p ≤ i
    · rw [if_pos ⟨c, b'⟩, if_pos ⟨c, b'⟩]
      exact e4 _ (by omega) (by omega)
    · rw [if_neg (by omega), if_neg (by omega)]
      exact e4 _ a (by omega)
  · simpa [TOV] using e5 p a b
theorem PIV.eqv {S s p : Int} {v w : Mem} (e : EQV S v w) (hp : 0 ≤ p ∧ p ≤ v 0 9) (hs : v 2 s ≠ 2) : EQV S (PIV s p v) (PIV s p w) := by
  obtain ⟨e1, e2, e3, e4, e5⟩ := e
  refine ⟨?_, ?_, ?_, fun i a b => ?_, fun q a b => ?_⟩
  · simpa [PIV] using e1
  · simpa [PIV] using e2
  · simpa [PIV] using by omega
  · have b' : i < v 0 9 + 1 := by simpa [PIV] using b
    simp only [PIV, true_and, Nat.reduceEqDiff, false_and, if_false]
    rw [← e3]
    by_cases c : i = p
    · rw [if_pos c, if_pos c]
    · rw [if_neg c, if_neg c]
      by_cases d : p < i
      · rw [if_pos ⟨d, by omega⟩, if_pos ⟨d, by omega⟩]
        exact e4 _ (by omega) (by omega)
      · rw [if_neg (by omega), if_neg (by omega)]
        exact e4 _ a (by omega)
  · have := e5 q a b
    by_cases c : q = s
    · subst c
      simp [PIV]
      exact ⟨this.2.1, this.2.2.1, this.2.2.2.1⟩
    · simpa [PIV, c] using this
