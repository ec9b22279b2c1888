/-! lines: one soul more, one bus more -/
theorem orT_none {f : Int → Int} {n : Nat} (h : ∀ j : Nat, j < n → f j = 0) : orT f n = 0 := by
  induction n with
  | zero => rfl
  | succ n ih =>
    show q_or (orT f n) (f n) = 0
    rw [ih (fun j hj => h j (by omega)), h n (by omega)]
    decide
theorem RD.soul {u : Nat} {L : Int} {Mc Mm : Mem} (h : RD u L Mc Mm) (hS : Mm 35 7 < 8) (h1 : Mc (32 * (u + 1) + 1) (Mm 35 7) = Mm 36 (8 + Mm 35 7) ∧ in32 (Mm 36 (8 + Mm 35 7))) (h2 : Mc (32 * (u + 1) + 2) (Mm 35 7) = Mm 37 (8 + Mm 35 7) ∧ 0 ≤ Mm 37 (8 + Mm 35 7) ∧ Mm 37 (8 + Mm 35 7) ≤ 99) (h3 : Mc (32 * (u + 1) + 3) (Mm 35 7) = Mm 38 (8 + Mm 35 7) ∧ 0 ≤ Mm 38 (8 + Mm 35 7) ∧ Mm 38 (8 + Mm 35 7) ≤ 99) (h4 : Mc (32 * (u + 1) + 4) (Mm 35 7) = Mm 39 (8 + Mm 35 7) ∧ 0 ≤ Mm 39 (8 + Mm 35 7) ∧ Mm 39 (8 + Mm 35 7) ≤ 99) : RD u L (up Mc u 0 (Mm 35 7 + 1)) (up Mm 35 7 (Mm 35 7 + 1)) := by
  obtain ⟨g1, g2, g3, g4, g5, g6, g7, g8, g9, g10⟩ := h
  have e0 : hv (up Mm 35 7 (Mm 35 7 + 1)) = up (hv Mm) 35 0 (Mm 35 7 + 1) := hv_up35 (x := 0)
  have ek : ∀ n', n' ≠ 35 → up Mm 35 7 (Mm 35 7 + 1) n' = Mm n' := fun n' q => up_ne1 q
  have el : ∀ n', n' ≠ u → up Mc u 0 (Mm 35 7 + 1) n' = Mc n' := fun n' q => up_ne1 q
  refine ⟨g1, ?_, ?_, ?_, ?_, ?_, ?_, ?_, ?_, ?_⟩
  · rw [el 1 (by omega), g2]
  · unfold TB BY at *; rw [ek 33 (by omega), ek 0 (by omega), el 32 (by omega), el 10 (by omega), el 352 (by omega)]; exact g3
  · unfold TKN at *; rw [ek 0 (by omega), el 10 (by omega)]; exact g4
  · rw [ek 0 (by omega), g5]
  · rw [e0]
    obtain ⟨k1, k2, k3, k4, k5, k6, k7, k8, k9, k10, k11⟩ := g6
    have S0 : hv Mm 35 0 = Mm 35 7 := rfl
    have nk : ∀ n', n' ≠ 35 → up (hv Mm) 35 0 (Mm 35 7 + 1) n' = hv Mm n' := fun n' q => up_ne1 q
    have nf : ∀ i, i ≠ 0 → up (hv Mm) 35 0 (Mm 35 7 + 1) 35 i = hv Mm 35 i := fun i q => up_nei q
    have ns : up (hv Mm) 35 0 (Mm 35 7 + 1) 35 0 = Mm 35 7 + 1 := up_same _ _ _ _
    have cs : up Mc u 0 (Mm 35 7 + 1) u 0 = Mm 35 7 + 1 := up_same _ _ _ _
    have cf : ∀ i, i ≠ 0 → up Mc u 0 (Mm 35 7 + 1) u i = Mc u i := fun i q => up_nei q
    rw [S0] at k2 k8 k9
    refine ⟨k1, ?_, ?_, ?_, ?_, ?_, ?_, ?_, ?_, ?_, ?_⟩
    · rw [ns, cs]; omega
    · rw [nf 1 (by omega), cf 7 (by omega)]; exact k3
    · rw [nf 3 (by omega), cf 13 (by omega)]; exact k4
    · rw [nf 4 (by omega), cf 14 (by omega)]; exact k5
    · rw [nf 5 (by omega), cf 15 (by omega)]; exact k6
    · rw [nf 6 (by omega), el (u + 10) (by omega)]; exact k7
    · rw [ns, nf 2 (by omega), nk 36 (by omega), nk 37 (by omega), nk 38 (by omega), nk 39 (by omega), nk 45 (by omega), nk 46 (by omega), el _ (by omega), el _ (by omega), el _ (by omega), el _ (by omega), el _ (by omega)]
      intro p a b
      by_cases c : p < Mm 35 7
      · exact k8 p a c
      · have ep : p = Mm 35 7 := by omega
        subst ep
        refine ⟨h1, h2, h3, h4, ?_⟩
        rw [g8 _ (by omega) hS, orT_none]
        intro j hj
        have := (k9.2.2 j (by omega) (by omega)).2.1
        rw [if_neg (by omega)]
    · rw [ns, nf 2 (by omega), nk 45 (by omega), nk 46 (by omega)]
      exact ⟨k9.1, k9.2.1, fun j a b => ⟨(k9.2.2 j a b).1, by have := k9.2.2 j a b; omega, (k9.2.2 j a b).2.2.1, by have := k9.2.2 j a b; omega⟩⟩
    · rw [nf 1 (by omega), nk 40 (by omega), nk 41 (by omega), nk 42 (by omega), nk 43 (by omega), nk 44 (by omega), el _ (by omega), el _ (by omega), el _ (by omega), el _ (by omega), el _ (by omega)]
      exact k10
    · intro l a b
      rw [el _ (by omega), el _ (by omega), el _ (by omega), el _ (by omega), nk 47 (by omega), nk 48 (by omega), nk 49 (by omega), nk 50 (by omega)]
      exact k11 l a b
  · rw [up_nei (by omega), up_nei (by omega), g7]
  · rw [up_same, el _ (by omega)]
    exact fun p a b => g8 p (by omega) b
  · rw [ek 0 (by omega), el 1 (by omega)]; exact g9
  · rw [ek 0 (by omega), el _ (by omega), el _ (by omega)]; exact g10
theorem RD.bus {u : Nat} {L : Int} {Mc Mm : Mem} (h : RD u L Mc Mm) (hS : Mm 35 8 < 4) (h1 : Mc (32 * (u + 1) + 8) (Mm 35 8) = Mm 40 (4 + Mm 35 8) ∧ in32 (Mm 40 (4 + Mm 35 8))) (h2 : Mc (32 * (u + 1) + 9) (Mm 35 8) = Mm 41 (4 + Mm 35 8) ∧ 0 ≤ Mm 41 (4 + Mm 35 8) ∧ Mm 41 (4 + Mm 35 8) ≤ 99) (h3 : Mc (32 * (u + 1) + 10) (Mm 35 8) = Mm 42 (4 + Mm 35 8) ∧ 1 ≤ Mm 42 (4 + Mm 35 8) ∧ Mm 42 (4 + Mm 35 8) ≤ 30) (h4 : Mc (32 * (u + 1) + 11) (Mm 35 8) = Mm 43 (4 + Mm 35 8) ∧ 1 ≤ Mm 43 (4 + Mm 35 8) ∧ Mm 43 (4 + Mm 35 8) ≤ 8) (h5 : Mc (32 * (u + 1) + 12) (Mm 35 8) = Mm 44 (4 + Mm 35 8) ∧ 0 ≤ Mm 44 (4 + Mm 35 8) ∧ Mm 44 (4 + Mm 35 8) ≤ 99) : RD u L (up Mc u 7 (Mm 35 8 + 1)) (up Mm 35 8 (Mm 35 8 + 1)) := by
  obtain ⟨g1, g2, g3, g4, g5, g6, g7, g8, g9, g10⟩ := h
  have e0 : hv (up Mm 35 8 (Mm 35 8 + 1)) = up (hv Mm) 35 1 (Mm 35 8 + 1) := hv_up35 (x := 1)
  have ek : ∀ n', n' ≠ 35 → up Mm 35 8 (Mm 35 8 + 1) n' = Mm n' := fun n' q => up_ne1 q
  have el : ∀ n', n' ≠ u → up Mc u 7 (Mm 35 8 + 1) n' = Mc n' := fun n' q => up_ne1 q
  refine ⟨g1, ?_, ?_, ?_, ?_, ?_, ?_, ?_, ?_, ?_⟩
  · rw [el 1 (by omega), g2]
  · unfold TB BY at *; rw [ek 33 (by omega), ek 0 (by omega), el 32 (by omega), el 10 (by omega), el 352 (by omega)]; exact g3
  · unfold TKN at *; rw [ek 0 (by omega), el 10 (by omega)]; exact g4
  · rw [ek 0 (by omega), g5]
  · rw [e0]
    obtain ⟨k1, k2, k3, k4, k5, k6, k7, k8, k9, k10, k11⟩ := g6
    have S0 : hv Mm 35 1 = Mm 35 8 := rfl
    have nk : ∀ n', n' ≠ 35 → up (hv Mm) 35 1 (Mm 35 8 + 1) n' = hv Mm n' := fun n' q => up_ne1 q
    have nf : ∀ i, i ≠ 1 → up (hv Mm) 35 1 (Mm 35 8 + 1) 35 i = hv Mm 35 i := fun i q => up_nei q
    have ns : up (hv Mm) 35 1 (Mm 35 8 + 1) 35 1 = Mm 35 8 + 1 := up_same _ _ _ _
    have cs : up Mc u 7 (Mm 35 8 + 1) u 7 = Mm 35 8 + 1 := up_same _ _ _ _
    have cf : ∀ i, i ≠ 7 → up Mc u 7 (Mm 35 8 + 1) u i = Mc u i := fun i q => up_nei q
    rw [S0] at k3 k10
    refine ⟨k1, ?_, ?_, ?_, ?_, ?_, ?_, ?_, ?_, ?_, ?_⟩
    · rw [nf 0 (by omega), cf 0 (by omega)]; exact k2
    · rw [ns, cs]; omega
    · rw [nf 3 (by omega), cf 13 (by omega)]; exact k4
    · rw [nf 4 (by omega), cf 14 (by omega)]; exact k5
    · rw [nf 5 (by omega), cf 15 (by omega)]; exact k6
    · rw [nf 6 (by omega), el (u + 10) (by omega)]; exact k7
    · rw [nf 0 (by omega), nf 2 (by omega), nk 36 (by omega), nk 37 (by omega), nk 38 (by omega), nk 39 (by omega), nk 45 (by omega), nk 46 (by omega), el _ (by omega), el _ (by omega), el _ (by omega), el _ (by omega), el _ (by omega)]
      exact k8
    · rw [nf 0 (by omega), nf 2 (by omega), nk 45 (by omega), nk 46 (by omega)]
      exact k9
    · rw [ns, nk 40 (by omega), nk 41 (by omega), nk 42 (by omega), nk 43 (by omega), nk 44 (by omega), el _ (by omega), el _ (by omega), el _ (by omega), el _ (by omega), el _ (by omega)]
      intro p a b
      by_cases c : p < Mm 35 8
      · exact k10 p a c
      · have ep : p = Mm 35 8 := by omega
        subst ep
        exact ⟨h1, h2, h3, h4, h5⟩
    · intro l a b
      rw [el _ (by omega), el _ (by omega), el _ (by omega), el _ (by omega), nk 47 (by omega), nk 48 (by omega), nk 49 (by omega), nk 50 (by omega)]
      exact k11 l a b
  · rw [up_nei (by omega), up_nei (by omega), g7]
  · rw [up_nei (by omega), el _ (by omega)]
    exact g8
  · rw [ek 0 (by omega), el 1 (by omega)]; exact g9
  · rw [ek 0 (by omega), el _ (by omega), el _ (by omega)]; exact g10
