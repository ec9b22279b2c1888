/-! the law: the four rules that are loops -/
theorem SS.weak {u : Nat} {L a s D lo lo' i : Int} {Mc Mm : Mem} (h : SS u L a s D lo' i Mc Mm) (hl : lo ≤ lo') : SS u L a s D lo i Mc Mm := by
  obtain ⟨h1, h2, h3⟩ := h
  obtain ⟨b1, b2, b3, b4, b5, b6, b7, b8⟩ := h2
  exact ⟨h1, ⟨b1, b2, b3, b4, b5, b6, fun q p1 p2 => ⟨(b7 q p1 p2).1, (b7 q p1 p2).2.1, by have := (b7 q p1 p2).2.2; omega⟩, b8⟩, h3⟩
theorem TL.weak {s l l' : Int} {Mc : Mem} (h : TL s l Mc) (hl : l ≤ l') : TL s l' Mc := by
  rcases h with h | ⟨h1, h2⟩
  · exact .inl h
  · exact .inr ⟨h1, by omega⟩
theorem FX.fqa {u : Nat} {a i : Int} {Mc Mm Mm' : Mem} (h : FX u a i Mc Mm Mm') : FQa Mm' := by
  obtain ⟨r, Mc', _, z, _⟩ := h
  exact z
theorem SS.D0 {u : Nat} {L a s D lo i : Int} {Mc Mm : Mem} (h : SS u L a s D lo i Mc Mm) : 0 ≤ D := h.2.1.2.2.2.2.2.2.2.2.2
theorem TL.fe {u : Nat} {a s l dp : Int} {Mc Mc' : Mem} (hu : u = 2 ∨ u = 3) (h : TL s l Mc) (hf : feC u a s dp Mc Mc') : TL s l Mc' := by
  rcases h with h | h
  · exact .inl h
  · right
    rw [hf 385 (s - 1) (by omega) (by omega) (by omega) (by omega) (by omega) (by omega)]
    exact h
set_option maxHeartbeats 1000000 in
theorem loopW {F : Mem → Res} {Bd : Mem → (Mem → Res) → Res} {top : Bool} {lr lo lt l B : Int} (hF : EW F top lr lo lt (dF l) B) (hQ : QF F) (hl : 1 ≤ l ∧ l ≤ lo ∧ l < lr ∧ l ≠ 4 ∧ l ≠ 3) (hpf : ∀ t c : Int, lvl t = l → (top = true → yF t = 1 ∧ cF l c = 0) ∧ (top = false → yF t = 0)) (hnt : ∀ t : Int, t ≠ 12 → lvl t < lt → lvl t ≠ l → lvl t < l) (hq0 : ∀ M g, FQa M → Bd M g = some (0, M)) (hq1 : ∀ Mc M g, TKN Mc M → M 0 26 = 0 → lvl (Mc 10 4) ≠ l → Bd M g = some (0, M)) (hq2 : ∀ Mc M g, TKN Mc M → M 0 26 = 0 → lvl (Mc 10 4) = l → ∃ v, (Mc 10 4, v) ∈ TKS ∧ Bd M g = q_call (f_X10_knot M) fun _ M3 => q_call (f_X10_goOn M3) fun _ M5 => q_call (F M5) fun _ M7 => q_call (f_X10_puts 2 v M7) fun _ M9 => g M9) : ∀ u L a s D i Mc Mm Mm1, (u = 2 ∨ u = 3) → TL s l Mc → 0 ≤ Mm 0 30 → 0 ≤ s → 0 ≤ D → 7 * (8 - Mm 0 30) + (64 - Mm 0 31) ≤ B → OUT u L a s D l lt (dF l) i Mc Mm Mm1 → ∃ Mm', qlm0 Bd q_N Mm1 = some (0, Mm') ∧ OUT u L a s D l l (dF l) i Mc Mm Mm' := by
  intro u L a s D i Mc Mm Mm1 hu tl hd0 hs0 hD hB ho
  have dF0 : 0 ≤ dF l := by unfold dF; split <;> omega
  have hw : wpo (qlm0 Bd q_N Mm1) (fun y => y.1 = 0 ∧ OUT u L a s D l l (dF l) i Mc Mm y.2) := by
    refine qlm0_N (fun M => OUT u L a s D l lt (dF l) i Mc Mm M) (fun M => if M 0 26 = 0 then (65 - M 0 31).toNat else 0) _ ho ?_ ?_
    · split
      · next z =>
        rcases ho with ⟨j, Mc', g1, g2, g3, g4, g5, g6, g7⟩ | hfx
        · have := g2.1.2.2.2.2.2.1
          omega
        · have := hfx.fqa
          unfold FQa at this
          omega
      · omega
    · intro M g hM ih
      rcases hM with ⟨j, Mc', g1, g2, g3, g4, g5, g6, g7⟩ | hfx
      case inr =>
        rw [hq0 M g hfx.fqa]
        exact wpo_some.mpr ⟨rfl, .inr hfx⟩
      obtain ⟨hx, hlk, h5⟩ := id g2
      obtain ⟨x0, x1, x2, x3, x4, x5, x6, x7, x8⟩ := id hx
      by_cases c : lvl (Mc' 10 4) = l
      case neg =>
        rw [hq1 Mc' M g x2 x3 c]
        refine wpo_some.mpr ⟨rfl, .inl ⟨j, Mc', g1, g2, g3, g4, g5, g6, ?_⟩⟩
        intro z1 z2
        rcases g7 z1 z2 with q | q
        · exact .inl (hnt _ z2 q c)
        · exact .inr q
      obtain ⟨v, hv, eB⟩ := hq2 Mc' M g x2 x3 c
      have h12 : Mc' 10 4 ≠ 12 := fun z => by
        rw [z, show lvl 12 = 3 by decide] at c
        omega
      have hv260 : v ≠ 260 := fun z => h12 ((TKS.rng hv).2.2.1.mpr z)
      have tl' : TL s l Mc' := tl.fe hu g5
      obtain ⟨M3, M5, e1, e2, e3⟩ := opW g2 c (by omega) h12 tl' (by omega)
      rw [eB, e1, q_call_e, e2, q_call_e]
      have m1 : (if M 0 26 = 0 then (65 - M 0 31).toNat else 0) = (65 - M 0 31).toNat := if_pos x3
      have m0 : ∀ Mx : Mem, FQa Mx → (if Mx 0 26 = 0 then (65 - Mx 0 31).toNat else 0) < (if M 0 26 = 0 then (65 - M 0 31).toNat else 0) := by
        intro Mx hq
        unfold FQa at hq
        rw [if_neg (by omega), m1]
        omega
      rcases e3 with ⟨k64, Mc2, r1, r2, r3, r4, r5, r6, r7, r8, r9⟩ | hfx
      case inr =>
        have hq := hfx.fqa
        rw [hQ M5 hq, q_call_e, q_puts hq, q_call_e]
        exact ih M5 (.inr (hfx.pre g1 g5 g6 hs0 (by omega))) (m0 M5 hq)
      have hp := hpf (Mc' 10 4) (Mc' 388 (M 0 30)) c
      have tl2 : TL (s + 1) lr Mc2 := by
        right
        rw [show s + 1 - 1 = s by omega, r3, c]
        have := (TKS.rng hv).1
        exact ⟨by omega, by omega⟩
      have pf2 : PF top Mc2 M5 := by
        refine ⟨fun z => ?_, fun z => ?_⟩
        · rw [r8, r4, r9]; exact hp.1 z
        · left; rw [r8]; exact hp.2 z
      obtain ⟨M7, f1, f2⟩ := hF u L a (s + 1) (D + 1) (j + 1) Mc2 M5 r2 tl2 pf2 (by rw [r4, r5, g3]; omega)
      rw [f1, q_call_e]
      have crA := g1.trans r1
      have fcA : feC u a s (Mm 0 30 + dF l) Mc Mc2 := g5.trans (by rw [← g3]; exact r6)
      have fmA := g6.trans r7
      rcases f2 with ⟨k, Mc3, s1, s2, s3, s4, s5, s6, s7⟩ | hfx
      case inr =>
        have hq := hfx.fqa
        rw [q_puts hq, q_call_e]
        exact ih M7 (.inr (hfx.pre crA fcA fmA hs0 (by omega))) (m0 M7 hq)
      have t3 : Mc3 385 s = Mc' 10 4 := by
        rw [s5 385 s (by omega) (by omega) (by omega) (by omega) (by omega) (by omega), r3]
      obtain ⟨M9, p1, p2, p3, p4⟩ := putW (lo := l) (v := v) (s := s) s2 (by rw [t3]; exact hv) (by rw [t3, c]; omega) (by rw [if_neg hv260]; omega) (by have := hlk.2.2.2.1; rw [s3, r4]; omega)
      rw [if_neg hv260, show D + 1 + 1 - 1 = D + 1 by omega] at p2
      rw [p1, q_call_e]
      refine ih M9 (.inl ⟨k, Mc3, crA.trans s1, p2, ?_, ?_, ?_, ?_, ?_⟩) ?_
      · rw [p3, s3, r4, g3]
      · rw [p3]; omega
      · refine fcA.trans (s5.mono (by omega) ?_)
        rw [r4, g3]; omega
      · exact (fmA.trans s6).trans p4
      · unfold NTK at *
        rw [p3]
        exact s7
      · have q3 := p2.1.2.2.2.1
        have q5 := p2.1.2.2.2.2.2.1
        rw [if_pos q3, m1]
        rw [p3] at q5 ⊢
        omega
  obtain ⟨⟨r, Mm'⟩, e, p1, p2⟩ := hw
  simp only at p1 p2
  rw [p1] at e
  exact ⟨Mm', e, p2⟩
