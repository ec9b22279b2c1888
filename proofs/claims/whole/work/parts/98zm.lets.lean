/-! lines: lets -/
theorem TR.wl {u m : Nat} {v : Int} {M N : Mem} (h : TR u M N) (hm : m = 45 ∨ m = 46) : TR u M (up N m (N 35 2) v) := by
  obtain ⟨h1, h2, h3, h4, h5, h6, h7, h8, h9, h10, h11⟩ := h
  have ek : ∀ n', n' ≠ m → up N m (N 35 2) v n' = N n' := fun n' q => up_ne1 q
  have em : ∀ n' i, i ≠ N 35 2 → up N m (N 35 2) v n' i = N n' i := fun n' i q => up_ne (fun z => q z.2)
  refine ⟨h1, ?_, ?_, ?_, ?_, ?_, ?_, ?_, ?_, ?_, ?_⟩
  · rw [ek 35 (by omega)]; exact h2
  · rw [ek 35 (by omega)]; exact h3
  · rw [ek 35 (by omega)]; exact h4
  · rw [ek 35 (by omega)]; exact h5
  · rw [ek 35 (by omega)]; exact h6
  · rw [ek 35 (by omega)]; exact h7
  · rw [ek 35 (by omega), ek 36 (by omega), ek 37 (by omega), ek 38 (by omega), ek 39 (by omega)]
    intro p a b
    obtain ⟨q1, q2, q3, q4, q5⟩ := h8 p a b
    refine ⟨q1, q2, q3, q4, ?_⟩
    rw [q5]
    refine orT_congr _ (fun i c d => ?_)
    rw [em 45 i (by omega), em 46 i (by omega)]
  · rw [ek 35 (by omega)]
    refine ⟨h9.1, h9.2.1, fun j a b => ?_⟩
    rw [em 45 j (by omega), em 46 j (by omega)]
    exact h9.2.2 j a b
  · rw [ek 35 (by omega), ek 40 (by omega), ek 41 (by omega), ek 42 (by omega), ek 43 (by omega), ek 44 (by omega)]
    exact h10
  · intro l a b
    rw [ek 47 (by omega), ek 48 (by omega), ek 49 (by omega), ek 50 (by omega)]
    exact h11 l a b
theorem RD.wl {u m : Nat} {L v : Int} {Mc Mm : Mem} (h : RD u L Mc Mm) (hm : m = 45 ∨ m = 46) : RD u L Mc (up Mm m (8 + Mm 35 9) v) := by
  obtain ⟨g1, g2, g3, g4, g5, g6, g7, g8, g9, g10⟩ := h
  have g6' := g6.wl (m := m) (v := v) hm
  have ek : ∀ n', n' ≠ m → up Mm m (8 + Mm 35 9) v n' = Mm n' := fun n' q => up_ne1 q
  refine ⟨g1, g2, ?_, ?_, ?_, ?_, ?_, ?_, ?_, ?_⟩
  · unfold TB BY at *; rw [ek 33 (by omega), ek 0 (by omega)]; exact g3
  · unfold TKN at *; rw [ek 0 (by omega)]; exact g4
  · rw [ek 0 (by omega), g5]
  · rw [hv_up (by omega)]; exact g6'
  · rw [ek 35 (by omega), g7]
  · rw [ek 35 (by omega)]; exact g8
  · rw [ek 0 (by omega)]; exact g9
  · rw [ek 0 (by omega)]; exact g10
theorem RD.lets {u : Nat} {L x y : Int} {Mc Mm : Mem} (h : RD u L Mc Mm) (hn : Mm 35 9 < 8) (hx : 0 ≤ x ∧ x < Mm 35 7) (hy : 0 ≤ y ∧ y < Mm 35 7) (ex : Mm 45 (8 + Mm 35 9) = x) (ey : Mm 46 (8 + Mm 35 9) = y) : RD u L (up (up Mc (32 * (u + 1) + 5) x (q_or (Mc (32 * (u + 1) + 5) x) (q_shl 1 y))) u 6 (Mm 35 9 + 1)) (up Mm 35 9 (Mm 35 9 + 1)) := by
  obtain ⟨g1, g2, g3, g4, g5, g6, g7, g8, g9, g10⟩ := h
  obtain ⟨Pc, hPc⟩ : ∃ P, P = up (up Mc (32 * (u + 1) + 5) x (q_or (Mc (32 * (u + 1) + 5) x) (q_shl 1 y))) u 6 (Mm 35 9 + 1) := ⟨_, rfl⟩
  rw [← hPc]
  have el : ∀ n', n' ≠ u → n' ≠ 32 * (u + 1) + 5 → Pc n' = Mc n' := fun n' q q2 => by rw [hPc, up_ne1 q, up_ne1 q2]
  have cu : ∀ i, i ≠ 6 → Pc u i = Mc u i := fun i q => by rw [hPc, up_nei q, up_ne1 (by omega)]
  have c5 : ∀ p, Pc (32 * (u + 1) + 5) p = if p = x then q_or (Mc (32 * (u + 1) + 5) x) (q_shl 1 y) else Mc (32 * (u + 1) + 5) p := fun p => by
    rw [hPc, up_ne1 (n' := 32 * (u + 1) + 5) (n := u) (by omega)]
    by_cases c : p = x
    · rw [if_pos c, c, up_same]
    · rw [if_neg c, up_nei c]
  have c6 : Pc u 6 = Mm 35 9 + 1 := by rw [hPc, up_same]
  have e0 : hv (up Mm 35 9 (Mm 35 9 + 1)) = up (hv Mm) 35 2 (Mm 35 9 + 1) := hv_up35 (x := 2)
  have ek : ∀ n', n' ≠ 35 → up Mm 35 9 (Mm 35 9 + 1) n' = Mm n' := fun n' q => up_ne1 q
  have S0 : hv Mm 35 0 = Mm 35 7 := rfl
  have S2 : hv Mm 35 2 = Mm 35 9 := rfl
  obtain ⟨k1, k2, k3, k4, k5, k6, k7, k8, k9, k10, k11⟩ := g6
  rw [S2] at k8 k9
  rw [S0] at k2 k8 k9
  refine ⟨g1, ?_, ?_, ?_, ?_, ?_, ?_, ?_, ?_, ?_⟩
  · rw [el 1 (by omega) (by omega), g2]
  · unfold TB BY at *; rw [ek 33 (by omega), ek 0 (by omega), el 32 (by omega) (by omega), el 10 (by omega) (by omega), el 352 (by omega) (by omega)]; exact g3
  · unfold TKN at *; rw [ek 0 (by omega), el 10 (by omega) (by omega)]; exact g4
  · rw [ek 0 (by omega), g5]
  · rw [e0]
    have nk : ∀ n', n' ≠ 35 → up (hv Mm) 35 2 (Mm 35 9 + 1) n' = hv Mm n' := fun n' q => up_ne1 q
    have nf : ∀ i, i ≠ 2 → up (hv Mm) 35 2 (Mm 35 9 + 1) 35 i = hv Mm 35 i := fun i q => up_nei q
    have ns : up (hv Mm) 35 2 (Mm 35 9 + 1) 35 2 = Mm 35 9 + 1 := up_same _ _ _ _
    refine ⟨k1, ?_, ?_, ?_, ?_, ?_, ?_, ?_, ?_, ?_, ?_⟩
    · rw [nf 0 (by omega), cu 0 (by omega)]; exact k2
    · rw [nf 1 (by omega), cu 7 (by omega)]; exact k3
    · rw [nf 3 (by omega), cu 13 (by omega)]; exact k4
    · rw [nf 4 (by omega), cu 14 (by omega)]; exact k5
    · rw [nf 5 (by omega), cu 15 (by omega)]; exact k6
    · rw [nf 6 (by omega), el (u + 10) (by omega) (by omega)]; exact k7
    · rw [nf 0 (by omega), S0, ns, nk 36 (by omega), nk 37 (by omega), nk 38 (by omega), nk 39 (by omega), nk 45 (by omega), nk 46 (by omega), el (32 * (u + 1) + 1) (by omega) (by omega), el (32 * (u + 1) + 2) (by omega) (by omega), el (32 * (u + 1) + 3) (by omega) (by omega), el (32 * (u + 1) + 4) (by omega) (by omega)]
      intro p a b
      obtain ⟨q1, q2, q3, q4, q5⟩ := k8 p a b
      refine ⟨q1, q2, q3, q4, ?_⟩
      have ex' : hv Mm 45 (Mm 35 9) = x := ex
      have ey' : hv Mm 46 (Mm 35 9) = y := ey
      rw [orT_succ _ k9.1, c5, ex', ey']
      by_cases c : p = x
      · rw [if_pos c, if_pos c.symm, ← c, q5]
      · rw [if_neg c, if_neg (fun z => c z.symm), q_or_zero (orT_rng _ _), q5]
    · rw [nf 0 (by omega), S0, ns, nk 45 (by omega), nk 46 (by omega)]
      refine ⟨by omega, by omega, fun j a b => ?_⟩
      by_cases c : j < Mm 35 9
      · exact k9.2.2 j a c
      · have ej : j = Mm 35 9 := by omega
        have ex' : hv Mm 45 (Mm 35 9) = x := ex
        have ey' : hv Mm 46 (Mm 35 9) = y := ey
        rw [ej, ex', ey']
        omega
    · rw [nf 1 (by omega), nk 40 (by omega), nk 41 (by omega), nk 42 (by omega), nk 43 (by omega), nk 44 (by omega), el (32 * (u + 1) + 8) (by omega) (by omega), el (32 * (u + 1) + 9) (by omega) (by omega), el (32 * (u + 1) + 10) (by omega) (by omega), el (32 * (u + 1) + 11) (by omega) (by omega), el (32 * (u + 1) + 12) (by omega) (by omega)]
      exact k10
    · intro l a b
      rw [el (32 * (u + 11)) (by omega) (by omega), el (32 * (u + 11) + 1) (by omega) (by omega), el (32 * (u + 11) + 2) (by omega) (by omega), el (32 * (u + 11) + 3) (by omega) (by omega), nk 47 (by omega), nk 48 (by omega), nk 49 (by omega), nk 50 (by omega)]
      exact k11 l a b
  · rw [c6, up_same]
  · rw [up_nei (by omega)]
    intro p a b
    rw [c5, if_neg (by omega)]
    exact g8 p a b
  · rw [ek 0 (by omega), el 1 (by omega) (by omega)]; exact g9
  · rw [ek 0 (by omega), el (32 * (u + 11) + 2) (by omega) (by omega), el (32 * (u + 11) + 3) (by omega) (by omega)]; exact g10
