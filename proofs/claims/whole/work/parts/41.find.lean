def FIND (R : Int → Int) (w s no r : Int) : Prop := (0 ≤ r ∧ r < w ∧ R r = s ∧ ∀ j, 0 ≤ j → j < r → R j ≠ s) ∨ (r = no ∧ ∀ j, 0 ≤ j → j < w → R j ≠ s)
theorem FIND.same {R R' : Int → Int} {w s no no' r r' : Int} (h : FIND R w s no r) (h' : FIND R' w s no' r') (e : ∀ j, 0 ≤ j → j < w → R j = R' j) : (r = r' ∧ 0 ≤ r ∧ r < w ∧ R r = s) ∨ (r = no ∧ r' = no') := by
  rcases h with ⟨a1, a2, a3, a4⟩ | ⟨a1, a2⟩ <;> rcases h' with ⟨b1, b2, b3, b4⟩ | ⟨b1, b2⟩
  · left
    refine ⟨?_, a1, a2, a3⟩
    rcases Int.lt_trichotomy r r' with h | h | h
    · exact absurd (by rw [← e r a1 a2]; exact a3) (b4 r a1 h)
    · exact h
    · exact absurd (by rw [e r' b1 b2]; exact b3) (a4 r' b1 h)
  · exact absurd (by rw [← e r a1 a2]; exact a3) (b2 r a1 a2)
  · exact absurd (by rw [e r' b1 b2]; exact b3) (a2 r' b1 b2)
  · exact .inr ⟨a1, b1⟩
theorem placeOfC {k : Nat} {s : Int} {M : Mem} (hw : 0 ≤ M k 9 ∧ M k 9 ≤ 8) (hs : in32 s) (hr : ∀ j, 0 ≤ j → j < M k 9 → in32 (M (32 * (k + 1) + 8) j)) : wpo (f_X6_placeOf k s M) (FIND (M (32 * (k + 1) + 8)) (M k 9) s (-2)) := by
  unfold f_X6_placeOf f_X6_placeOf_L2
  refine qlp1_wp (fun x => 0 ≤ x ∧ x ≤ M k 9 ∧ ∀ j, 0 ≤ j → j < x → M (32 * (k + 1) + 8) j ≠ s) (fun x => (M k 9 - x).toNat) ?_ _ _ ⟨by omega, by omega, fun j h1 h2 => by omega⟩ (by unfold q_N; omega)
  intro x g ⟨h1, h2, h3⟩ ih
  unfold f_X6_placeOf_B2 q_gf
  unfold in32 at hs
  simp (disch := omega) only [w32_id]
  refine wpo_ite (fun c => wpo_some.mpr (.inr ⟨rfl, fun j a b => h3 j a (by omega)⟩)) (fun c => ?_)
  refine wpo_ite (fun c => by omega) (fun c => ?_)
  have hx := hr x h1 (by omega)
  unfold in32 at hx
  simp (disch := omega) only [w32_id, q_al_ok]
  refine wpo_ite (fun c => ih _ ⟨by omega, by omega, fun j a b => ?_⟩ (by omega)) (fun c => wpo_some.mpr (.inl ⟨h1, by omega, by simpa using c, h3⟩))
  by_cases hj : j = x
  · rw [hj]; exact c
  · exact h3 j a (by omega)
theorem placeOfM {q : Int} {s : Int} {M : Mem} (hq : 0 ≤ q ∧ q < 23) (hw : 0 ≤ M 69 q ∧ M 69 q ≤ 8) (hs : in32 s) (hr : ∀ j, 0 ≤ j → j < M 69 q → in32 (M 70 (8 * q + j))) : wpo (f_X10_placeOf q s M) (FIND (fun j => M 70 (8 * q + j)) (M 69 q) s (-1)) := by
  unfold f_X10_placeOf f_X10_placeOf_L2
  refine qlp1_wp (fun x => 0 ≤ x ∧ x ≤ M 69 q ∧ ∀ j, 0 ≤ j → j < x → M 70 (8 * q + j) ≠ s) (fun x => (M 69 q - x).toNat) ?_ _ _ ⟨by omega, by omega, fun j h1 h2 => by omega⟩ (by unfold q_N; omega)
  intro x g ⟨h1, h2, h3⟩ ih
  unfold f_X10_placeOf_B2
  unfold in32 at hs
  simp (disch := omega) only [w32_id, q_al_ok]
  refine wpo_ite (fun c => wpo_some.mpr (.inr ⟨rfl, fun j a b => h3 j a (by omega)⟩)) (fun c => ?_)
  have hx := hr x h1 (by omega)
  unfold in32 at hx
  simp (disch := omega) only [w32_id, q_al_ok]
  refine wpo_ite (fun c => ih _ ⟨by omega, by omega, fun j a b => ?_⟩ (by omega)) (fun c => wpo_some.mpr (.inl ⟨h1, by omega, by simpa using c, h3⟩))
  by_cases hj : j = x
  · rw [hj]; exact c
  · exact h3 j a (by omega)
