/-! lines: a number told once -/
theorem NXT.upM {L : Int} {Mc Mm Mc' Mm' : Mem} (h : NXT L Mc Mm Mc' Mm') {n : Nat} {i v : Int} (hn : n ≠ 0 ∧ n ≠ 33) : NXT L Mc (up Mm n i v) Mc' (up Mm' n i v) := by
  obtain ⟨h1, h2, h3, h4, h5⟩ := h
  refine ⟨h1, fun m j hm => ?_, ?_, ?_, ?_⟩
  · unfold up
    split
    · rfl
    · exact h2 m j hm
  · unfold TB BY at *; rw [up_ne1 (n' := 33) (by omega), up_ne1 (n' := 0) (by omega)]; exact h3
  · unfold TKN at *; rw [up_ne1 (n' := 0) (by omega)]; exact h4
  · rw [up_ne1 (n' := 0) (by omega), up_ne1 (n' := 0) (by omega)]; exact h5
theorem RD.once {u : Nat} {L x v : Int} {Mc Mm : Mem} (h : RD u L Mc Mm) (hx : (x = 3 ∧ v ≤ 8) ∨ (x = 4 ∧ v ≤ 100) ∨ (x = 5 ∧ v ≤ 99999)) (hv : 0 ≤ v) : RD u L (up Mc u (10 + x) v) (up Mm 35 (7 + x) v) := by
  obtain ⟨g1, g2, g3, g4, g5, g6, g7, g8, g9, g10⟩ := h
  have em : ∀ n, n ≠ 35 → up Mm 35 (7 + x) v n = Mm n := fun n hn => up_ne1 hn
  have ec : ∀ n, n ≠ u → up Mc u (10 + x) v n = Mc n := fun n hn => up_ne1 hn
  refine ⟨g1, ?_, ?_, ?_, ?_, ?_, ?_, ?_, ?_, ?_⟩
  · rw [ec 1 (by omega), g2]
  · unfold TB BY at *; rw [em 33 (by omega), em 0 (by omega), ec 32 (by omega), ec 10 (by omega), ec 352 (by omega)]; exact g3
  · unfold TKN at *; rw [em 0 (by omega), ec 10 (by omega)]; exact g4
  · rw [em 0 (by omega), g5]
  · rw [hv_up35]; exact g6.once hx hv
  · rw [up_nei (by omega), up_nei (by omega), g7]
  · rw [up_nei (by omega), ec _ (by omega)]; exact g8
  · rw [ec 1 (by omega), em 0 (by omega)]; exact g9
  · rw [ec _ (by omega), ec _ (by omega), em 0 (by omega)]; exact g10
