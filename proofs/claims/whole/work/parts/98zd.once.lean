/-! lines: what may be told once -/
theorem hv_up35 {M : Mem} {x v : Int} : hv (up M 35 (7 + x) v) = up (hv M) 35 x v := by
  funext n i
  unfold hv up
  by_cases c : n = 35
  · subst c
    by_cases c2 : i = x
    · subst c2; simp
    · simp [c2]
  · simp [c]
theorem TR.once {u : Nat} {x v : Int} {M N : Mem} (h : TR u M N) (hx : (x = 3 ∧ v ≤ 8) ∨ (x = 4 ∧ v ≤ 100) ∨ (x = 5 ∧ v ≤ 99999)) (hv : 0 ≤ v) : TR u (up M u (10 + x) v) (up N 35 x v) := by
  obtain ⟨h1, h2, h3, h4, h5, h6, h7, h8, h9, h10, h11⟩ := h
  have ec : ∀ n, n ≠ u → up M u (10 + x) v n = M n := fun n hn => up_ne1 hn
  have em : ∀ n, n ≠ 35 → up N 35 x v n = N n := fun n hn => up_ne1 hn
  have e0 : ∀ i, i ≠ x → up N 35 x v 35 i = N 35 i := fun i hi => up_nei hi
  have c0 : ∀ i, i ≠ 10 + x → up M u (10 + x) v u i = M u i := fun i hi => up_nei hi
  refine ⟨h1, ?_, ?_, ?_, ?_, ?_, ?_, ?_, ?_, ?_, ?_⟩
  · rw [e0 0 (by omega), c0 0 (by omega)]; exact h2
  · rw [e0 1 (by omega), c0 7 (by omega)]; exact h3
  · by_cases c : x = 3
    · subst c; rw [show (13 : Int) = 10 + 3 by rfl, up_same, up_same]; omega
    · rw [e0 3 (by omega), c0 13 (by omega)]; exact h4
  · by_cases c : x = 4
    · subst c; rw [show (14 : Int) = 10 + 4 by rfl, up_same, up_same]; omega
    · rw [e0 4 (by omega), c0 14 (by omega)]; exact h5
  · by_cases c : x = 5
    · subst c; rw [show (15 : Int) = 10 + 5 by rfl, up_same, up_same]; omega
    · rw [e0 5 (by omega), c0 15 (by omega)]; exact h6
  · rw [e0 6 (by omega), ec (u + 10) (by omega)]; exact h7
  · rw [e0 0 (by omega), e0 2 (by omega)]
    intro p a b
    rw [ec _ (by omega), ec _ (by omega), ec _ (by omega), ec _ (by omega), ec _ (by omega), em 36 (by omega), em 37 (by omega), em 38 (by omega), em 39 (by omega), em 45 (by omega), em 46 (by omega)]
    exact h8 p a b
  · rw [e0 0 (by omega), e0 2 (by omega), em 45 (by omega), em 46 (by omega)]; exact h9
  · rw [e0 1 (by omega)]
    intro p a b
    rw [ec _ (by omega), ec _ (by omega), ec _ (by omega), ec _ (by omega), ec _ (by omega), em 40 (by omega), em 41 (by omega), em 42 (by omega), em 43 (by omega), em 44 (by omega)]
    exact h10 p a b
  · intro l a b
    rw [ec _ (by omega), ec _ (by omega), ec _ (by omega), ec _ (by omega), em 47 (by omega), em 48 (by omega), em 49 (by omega), em 50 (by omega)]
    exact h11 l a b
