/-! lines: a soul, a bus: what is written beyond what counts -/
theorem hv_up {M : Mem} {m : Nat} {o x v : Int} (h : (36 ≤ m ∧ m ≤ 39 ∧ o = 8) ∨ (40 ≤ m ∧ m ≤ 44 ∧ o = 4) ∨ ((m = 45 ∨ m = 46) ∧ o = 8) ∨ ((m = 47 ∨ m = 48) ∧ o = 3) ∨ ((m = 49 ∨ m = 50) ∧ o = 64)) : hv (up M m (o + x) v) = up (hv M) m x v := by
  funext n i
  unfold hv up
  by_cases c : n = m
  · subst c
    by_cases c2 : i = x
    · subst c2
      rcases h with ⟨a, b, rfl⟩ | ⟨a, b, rfl⟩ | ⟨a, rfl⟩ | ⟨a, rfl⟩ | ⟨a, rfl⟩ <;> grind
    · rcases h with ⟨a, b, rfl⟩ | ⟨a, b, rfl⟩ | ⟨a, rfl⟩ | ⟨a, rfl⟩ | ⟨a, rfl⟩ <;> grind
  · grind
def WRT (u n m : Nat) (S o : Int) (l0 : Nat) (N : Mem) : Prop := (S = N 35 0 ∧ S < 8 ∧ 32 * (u + 1) + 1 ≤ n ∧ n ≤ 32 * (u + 1) + 4 ∧ 36 ≤ m ∧ m ≤ 39 ∧ o = 8 ∧ l0 = 8) ∨ (S = N 35 1 ∧ S < 4 ∧ 32 * (u + 1) + 8 ≤ n ∧ n ≤ 32 * (u + 1) + 12 ∧ 40 ≤ m ∧ m ≤ 44 ∧ o = 4 ∧ l0 = 4)
theorem TR.wr {u n m l0 : Nat} {S o v w : Int} {M N : Mem} (h : TR u M N) (hw : WRT u n m S o l0 N) : TR u (up M n S v) (up N m S w) := by
  obtain ⟨h1, h2, h3, h4, h5, h6, h7, h8, h9, h10, h11⟩ := h
  unfold WRT at hw
  have ec : ∀ n' i, (n' ≠ n ∨ i ≠ S) → up M n S v n' i = M n' i := fun n' i q => up_ne (by omega)
  have em : ∀ n' i, (n' ≠ m ∨ i ≠ S) → up N m S w n' i = N n' i := fun n' i q => up_ne (by omega)
  have ek : ∀ n', n' ≠ m → up N m S w n' = N n' := fun n' q => up_ne1 q
  have el : ∀ n', n' ≠ n → up M n S v n' = M n' := fun n' q => up_ne1 q
  refine ⟨h1, ?_, ?_, ?_, ?_, ?_, ?_, ?_, ?_, ?_, ?_⟩
  · rw [ek 35 (by omega), el u (by omega)]; exact h2
  · rw [ek 35 (by omega), el u (by omega)]; exact h3
  · rw [ek 35 (by omega), el u (by omega)]; exact h4
  · rw [ek 35 (by omega), el u (by omega)]; exact h5
  · rw [ek 35 (by omega), el u (by omega)]; exact h6
  · rw [ek 35 (by omega), el (u + 10) (by omega)]; exact h7
  · rw [ek 35 (by omega), ek 45 (by omega), ek 46 (by omega)]
    intro p a b
    rw [ec _ p (by omega), ec _ p (by omega), ec _ p (by omega), ec _ p (by omega), ec _ p (by omega), em 36 p (by omega), em 37 p (by omega), em 38 p (by omega), em 39 p (by omega)]
    exact h8 p a b
  · rw [ek 35 (by omega), ek 45 (by omega), ek 46 (by omega)]; exact h9
  · rw [ek 35 (by omega)]
    intro p a b
    rw [ec _ p (by omega), ec _ p (by omega), ec _ p (by omega), ec _ p (by omega), ec _ p (by omega), em 40 p (by omega), em 41 p (by omega), em 42 p (by omega), em 43 p (by omega), em 44 p (by omega)]
    exact h10 p a b
  · intro l a b
    rw [el _ (by omega), el _ (by omega), el _ (by omega), el _ (by omega), ek 47 (by omega), ek 48 (by omega), ek 49 (by omega), ek 50 (by omega)]
    exact h11 l a b
theorem RD.wr {u n m l0 : Nat} {L S o v w : Int} {Mc Mm : Mem} (h : RD u L Mc Mm) (hw : WRT u n m S o l0 (hv Mm)) : RD u L (up Mc n S v) (up Mm m (o + S) w) := by
  obtain ⟨g1, g2, g3, g4, g5, g6, g7, g8, g9, g10⟩ := h
  have g6' := g6.wr (v := v) (w := w) hw
  have hm := hw
  unfold WRT at hm
  have ek : ∀ n', n' ≠ m → up Mm m (o + S) w n' = Mm n' := fun n' q => up_ne1 q
  have el : ∀ n', n' ≠ n → up Mc n S v n' = Mc n' := fun n' q => up_ne1 q
  refine ⟨g1, ?_, ?_, ?_, ?_, ?_, ?_, ?_, ?_, ?_⟩
  · rw [el 1 (by omega), g2]
  · unfold TB BY at *; rw [ek 33 (by omega), ek 0 (by omega), el 32 (by omega), el 10 (by omega), el 352 (by omega)]; exact g3
  · unfold TKN at *; rw [ek 0 (by omega), el 10 (by omega)]; exact g4
  · rw [ek 0 (by omega), g5]
  · rw [hv_up (by omega)]; exact g6'
  · rw [el u (by omega), ek 35 (by omega), g7]
  · rw [ek 35 (by omega), el _ (by omega)]; exact g8
  · rw [ek 0 (by omega), el 1 (by omega)]; exact g9
  · rw [ek 0 (by omega), el _ (by omega), el _ (by omega)]; exact g10
