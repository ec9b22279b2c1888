/-! all lines -/
theorem L32_succ {n : Nat} {x : Int} {M : Mem} : f_X4_read_L32 (n + 1) x M = f_X4_read_B32 x M (fun x N => f_X4_read_L32 n x N) := rfl
theorem L126_succ {n : Nat} {M : Mem} : f_X10_text_L126 (n + 1) M = f_X10_text_B126 M (fun N => f_X10_text_L126 n N) := rfl
theorem fcW.refl (u : Nat) (M : Mem) : fcW u M M := fun _ _ _ _ _ _ _ _ _ _ => rfl
theorem fmW.refl (M : Mem) : fmW M M := fun _ _ _ _ _ _ _ _ _ => rfl
def LSW (u : Nat) (L : Int) (Mc Mm : Mem) (r : Int) (Mc' Mm' : Mem) : Prop := fcW u Mc Mc' ∧ fmW Mm Mm' ∧ ((RLn u L Mc' Mm' ∧ r = Mm' 0 20 ∧ 0 ≤ r ∧ r ≤ 700) ∨ (r = -1 ∧ FQa Mm' ∧ Mc' 1 4 = Mm' 0 26 ∧ Mc' 1 5 = Mm' 0 27 ∧ in32 (Mm' 0 27)))
theorem linesW {u : Nat} {L : Int} : ∀ (k n n' : Nat) (x : Int) (Mc Mm : Mem), RLn u L Mc Mm → (0 ≤ x ∧ x ≤ Mm 0 22 ∧ (Mm 0 24 ≠ 4 → x + 1 ≤ Mm 0 22)) → Mm 0 20 = x → L - x ≤ k → k < n → k + 1 < n' → ∃ r Mc' Mm', f_X4_read_L32 n x Mc = some (r, Mc') ∧ f_X10_text_L126 n' Mm = f_X10_text_J148 Mm' ∧ LSW u L Mc Mm r Mc' Mm' := by
  intro k
  induction k with
  | zero =>
    intro n n' x Mc Mm h hx e20 hk hn hn'
    obtain ⟨m, rfl⟩ : ∃ m, n = m + 1 := ⟨n - 1, by omega⟩
    obtain ⟨m', rfl⟩ : ∃ m, n' = m + 1 := ⟨n' - 1, by omega⟩
    obtain ⟨g1, g2, g3, g4, g5, _⟩ := id h.1
    obtain ⟨⟨⟨t1, t1'⟩, _⟩, t2, t3, t4, t5, t6, t7⟩ := g3
    have w3 := g4.2.2.word.2.2
    have n3 := g4.2.2.num.2.2
    have c : Mm 0 24 = 4 := by
      by_cases c : Mm 0 24 = 4
      · exact c
      · have := hx.2.2 c
        omega
    rw [L32_succ, L126_succ]
    unfold f_X4_read_B32 f_X10_text_B126
    rw [q_gf_e, w32_id (x := Mc 10 4) (by omega), w32_id (x := 35) (by omega), if_pos (w3.mpr c), q_gf_e, g5, if_neg (show ¬ ¬ w32 0 = 0 by decide), q_gf_e, w32_id (x := Mm 0 24) (by omega), w32_id (x := 4) (by omega), if_pos c]
    exact ⟨x, Mc, Mm, rfl, rfl, fcW.refl _ _, fmW.refl _, .inl ⟨h, e20.symm, by omega, by omega⟩⟩
  | succ k ih =>
    intro n n' x Mc Mm h hx e20 hk hn hn'
    obtain ⟨m, rfl⟩ : ∃ m, n = m + 1 := ⟨n - 1, by omega⟩
    obtain ⟨m', rfl⟩ : ∃ m, n' = m + 1 := ⟨n' - 1, by omega⟩
    obtain ⟨g1, g2, g3, g4, g5, _⟩ := id h.1
    obtain ⟨⟨⟨t1, t1'⟩, _⟩, t2, t3, t4, t5, t6, t7⟩ := g3
    have w3 := g4.2.2.word.2.2
    have n3 := g4.2.2.num.2.2
    rw [L32_succ, L126_succ]
    unfold f_X4_read_B32 f_X10_text_B126
    rw [q_gf_e, w32_id (x := Mc 10 4) (by omega), w32_id (x := 35) (by omega), q_gf_e, g5, if_neg (show ¬ ¬ w32 0 = 0 by decide), q_gf_e, w32_id (x := Mm 0 24) (by omega), w32_id (x := 4) (by omega)]
    by_cases c : Mm 0 24 = 4
    · rw [if_pos (w3.mpr c), if_pos c]
      exact ⟨x, Mc, Mm, rfl, rfl, fcW.refl _ _, fmW.refl _, .inl ⟨h, e20.symm, by omega, by omega⟩⟩
    · have hx1 := hx.2.2 c
      obtain ⟨r, Mc1, Mm1, z1, z2, f1, f2, f3⟩ := lineW h
      rw [if_neg (fun z => c (w3.mp z)), if_neg c, w32_id (x := 700) (by omega), w32_id (x := x) (by omega), if_neg (by omega), z1, z2, q_call_e, q_call_e]
      rcases f3 with ⟨rfl, b2, b3, b4, b5⟩ | ⟨rfl, b2, b3, b4, b5⟩
      · rw [if_pos (show ¬ w32 1 = 0 by decide)]
        obtain ⟨r, Mc', Mm', y1, y2, y3, y4, y5⟩ := ih m m' (x + 1) Mc1 Mm1 b2 ⟨by omega, by omega, fun z => by have := b5 z; omega⟩ (by rw [b3, e20]) (by omega) (by omega) (by omega)
        exact ⟨r, Mc', Mm', y1, y2, f1.trans y3, f2.trans y4, y5⟩
      · obtain ⟨m2, rfl⟩ : ∃ m, m' = m + 1 := ⟨m' - 1, by omega⟩
        rw [if_neg (show ¬ ¬ w32 0 = 0 by decide)]
        refine ⟨-1, Mc1, Mm1, rfl, ?_, f1, f2, .inr ⟨rfl, b2, b3, b4, b5⟩⟩
        show f_X10_text_L126 (m2 + 1) Mm1 = _
        rw [L126_succ]
        unfold f_X10_text_B126
        rw [q_gf_e, if_pos b2.w]
