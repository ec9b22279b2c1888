/-! the law: every rule, at every depth -/
theorem EW.neg {F : Mem → Res} {top : Bool} {lr lo lt dd B : Int} (hB : B < 0) : EW F top lr lo lt dd B := by
  intro u L a s D i Mc Mm h _ _ hb
  have h1 := h.1.2.2.2.2.1
  have h2 := h.1.2.2.2.2.2.1
  omega
theorem EW.mono {F : Mem → Res} {top : Bool} {lr lo lt dd B B' : Int} (h : EW F top lr lo lt dd B) (hB : B' ≤ B) : EW F top lr lo lt dd B' := fun u L a s D i Mc Mm h1 h2 h3 h4 => h u L a s D i Mc Mm h1 h2 h3 (by omega)
theorem QF_E {d : Nat} (hd : 6 ≤ d) : QF (f_E d 0) ∧ QF (f_E d 1) ∧ QF (f_E d 2) ∧ QF (f_E d 3) ∧ QF (f_E d 4) ∧ QF (f_E d 5) := by
  obtain ⟨k, rfl⟩ : ∃ k, d = k + 6 := ⟨d - 6, by omega⟩
  exact ⟨fun M h => (q_E h k).2.2.2.2.2, fun M h => (q_E h (k + 1)).2.2.2.2.1, fun M h => (q_E h (k + 2)).2.2.2.1, fun M h => (q_E h (k + 3)).2.2.1, fun M h => (q_E h (k + 4)).2.1, fun M h => (q_E h (k + 5)).1⟩
theorem E_all : ∀ d : Nat, EW (f_E d 0) true 1 1 1 0 (d - 16) ∧ EW (f_E d 1) true 2 2 2 0 (d - 15) ∧ EW (f_E d 2) true 4 3 4 0 (d - 14) ∧ EW (f_E d 3) false 5 5 5 1 (d - 13) ∧ EW (f_E d 4) false 6 6 6 1 (d - 12) ∧ EW (f_E d 5) false 7 7 7 1 (d - 11)
  | 0 => ⟨EW.neg (by omega), EW.neg (by omega), EW.neg (by omega), EW.neg (by omega), EW.neg (by omega), EW.neg (by omega)⟩
  | d + 1 => by
    by_cases c : d < 6
    · exact ⟨EW.neg (by omega), EW.neg (by omega), EW.neg (by omega), EW.neg (by omega), EW.neg (by omega), EW.neg (by omega)⟩
    obtain ⟨q0, q1, q2, q3, q4, q5⟩ := QF_E (d := d) (by omega)
    obtain ⟨h0, h1, h2, h3, h4, h5⟩ := E_all d
    have e0 : f_E (d + 1) 0 = f_X10_expression_G (f_E d 1) := rfl
    have e1 : f_E (d + 1) 1 = f_X10_conjunction_G (f_E d 2) := rfl
    have e2 : f_E (d + 1) 2 = f_X10_negation_G (f_E d 2) (f_E d 3) := rfl
    have e3 : f_E (d + 1) 3 = f_X10_sum_G (f_E d 4) := rfl
    have e4 : f_E (d + 1) 4 = f_X10_product_G (f_E d 5) := rfl
    have e5 : f_E (d + 1) 5 = f_X10_primary_G (f_E d 0) := rfl
    rw [e0, e1, e2, e3, e4, e5]
    exact ⟨(exprW h1 q1).mono (by omega), (conjW h2 q2).mono (by omega), (negW (B := (d : Int) - 13) (h2.mono (by omega)) h3 q2 q3).mono (by omega), (sumW h4 q4).mono (by omega), (prodW h5 q5).mono (by omega), (primW h0).mono (by omega)⟩
theorem exprAll : EW f_X10_expression true 1 1 1 0 120 := by
  have e : f_X10_expression = f_E 200 0 := rfl
  rw [e]
  exact (E_all 200).1.mono (by omega)
/-- the program's LawReader against the reference's expression -/
theorem readLawW {u : Nat} {L a : Int} {Mc Mm : Mem} (hx : LX u L 0 Mc Mm) (hk : LK u a 0 0 0 Mc Mm) (h5 : Mc (u + 10) 5 = Mm 35 13) (ht : Mc 11 5 = 1) (hb : Mc 11 6 = 1) (hc : Mc 388 (Mm 0 30) = 0) : ∃ Mm', f_X10_expression Mm = some (0, Mm') ∧ ((∃ Mc' j, f_X1_read_L29 (u + 10) q_N 0 Mc = some (0, Mc') ∧ LX u L j Mc' Mm' ∧ LK u a 0 1 0 Mc' Mm' ∧ Mc' (u + 10) 5 = Mm' 35 13 ∧ Mm' 0 30 = Mm 0 30 ∧ feC u a 0 0 Mc Mc' ∧ feM a Mm Mm' ∧ Mc' 10 4 = 22 ∧ Mm 0 22 ≤ Mm' 0 22) ∨ (∃ Mc' j, f_X1_read_L29 (u + 10) q_N 0 Mc = some (1, Mc') ∧ LX u L j Mc' Mm' ∧ feC u a 0 0 Mc Mc' ∧ feM a Mm Mm' ∧ Mc' 10 4 ≠ 22) ∨ (∃ r Mc', f_X1_read_L29 (u + 10) q_N 0 Mc = some (r, Mc') ∧ FQa Mm' ∧ r = Mm' 0 26 ∧ Mc' 10 5 = Mm' 0 27 ∧ (0 ≤ Mm' 0 27 ∧ Mm' 0 27 ≤ 700) ∧ feC u a 0 0 Mc Mc' ∧ feM a Mm Mm')) := by
  have hvs : VS u L a 0 0 0 Mc Mm := ⟨hx, hk, h5, ht⟩
  have x4 := hx.2.2.2.2.1
  have x13 := hx.2.1.2.2.2.2.1
  have x5 := hx.2.2.2.2.2.1
  have d0 : Mm 0 30 = 0 := by have := hk.2.2.2.1; omega
  obtain ⟨Mm', e, o⟩ := exprAll u L a 0 0 0 Mc Mm hvs (.inl rfl) ⟨fun _ => ⟨hb, hc⟩, (fun z => by cases z)⟩ (by omega)
  refine ⟨Mm', e, ?_⟩
  have en : ∀ j : Int, 0 ≤ j → j ≤ 700 → ∃ n, q_N = n + 1 + (j - 0).toNat := fun j p q => ⟨100000 - 1 - (j - 0).toNat, by unfold q_N; omega⟩
  rcases o with ⟨j, Mc', g1, g2, g3, g4, g5, g6, g7⟩ | ⟨r, Mc', g1, g2, g3, g4, g5, g6, g7⟩
  · obtain ⟨hx2, hlk2, h52⟩ := id g2
    have hi := hx2.i700
    obtain ⟨n, hn⟩ := en j g1.1.1 (by omega)
    have y13 := hx2.2.1.2.2.2.2.1
    have hat : Mm 0 22 ≤ Mm' 0 22 := by have := g1.1.2; omega
    have g5' := g5.mono (s' := 0) (dp' := 0) (by omega) (by omega)
    by_cases c : Mc' 10 4 = 22
    · obtain ⟨M4, p1, p2, p3, p4⟩ := flushW (l := 1) hx2.1 hlk2 (by omega) (.inl rfl)
      left
      have fx : ∀ n : Nat, n ≠ 11 → n ≠ u + 10 → n ≠ 32 * (u + 11) → n ≠ 32 * (u + 11) + 1 → M4 n = Mc' n := fun n z1 z2 z3 z4 => by
        funext jj
        exact p4 n jj (by omega) (by omega) (by omega)
      have hu := hx2.1
      obtain ⟨y0, y1, y2, y3, y4, y5, y6, y7, y8⟩ := id hx2
      refine ⟨M4, j, ?_, ?_, ?_, p3, g3, g5'.trans p4.fe, g6, ?_, hat⟩
      · rw [hn, g1.2 (n + 1), stE hx2 h52 ⟨by rw [g3, d0], c⟩ n, p1, q_call_e]
      · refine hx2.chg (fx 10 (by omega) (by omega) (by omega) (by omega)) (fx 32 (by omega) (by omega) (by omega) (by omega)) (fx 352 (by omega) (by omega) (by omega) (by omega)) rfl (fun _ _ _ => rfl) ?_ ?_ ?_ ?_
        · rw [p4 11 3 (by omega) (by omega) (by omega)]; exact y4
        · rw [p4 (u + 10) 6 (by omega) (by omega) (by omega)]; exact y5
        · rw [p4 11 6 (by omega) (by omega) (by omega)]; exact y7
        · rw [fx 388 (by omega) (by omega) (by omega) (by omega)]; exact y8
      · obtain ⟨b1, b2, b3, b4, b5, b6, b7, b8⟩ := p2
        exact ⟨b1, b2, b3, b4, b5, b6, fun q z1 z2 => by omega, b8⟩
      · rw [fx 10 (by omega) (by omega) (by omega) (by omega), c]
    · right; left
      refine ⟨Mc', j, ?_, hx2, g5', g6, c⟩
      rw [hn, g1.2 (n + 1), stS hx2 h52 (fun z => c z.2) n, badSC hx2 (.inr (by rw [g3, d0])) g7.bad, q_call_e, j90_r (by omega)]
  · right; right
    obtain ⟨j, b1, b2, b3⟩ := g1
    obtain ⟨n, hn⟩ := en j b1 b2
    exact ⟨r, Mc', by rw [hn, b3 n], g2, g3, g4, g5, g6, g7⟩
