/-! the law: product, sum, conjunction, expression, negation -/
theorem VS.f {u : Nat} {L a s D i : Int} {Mc Mm : Mem} (h : VS u L a s D i Mc Mm) : (u = 2 ∨ u = 3) ∧ (0 ≤ Mm 0 30 ∧ Mm 0 30 ≤ s) ∧ 0 ≤ D := ⟨h.1.1, ⟨h.2.1.2.2.2.1.1, h.2.1.2.2.2.1.2.1⟩, h.2.1.2.2.2.2.2.2.2.2.2⟩
theorem OUT.weak {u : Nat} {L a s D lo lo' lt dd i : Int} {Mc Mm Mm' : Mem} (h : OUT u L a s D lo' lt dd i Mc Mm Mm') (hl : lo ≤ lo') : OUT u L a s D lo lt dd i Mc Mm Mm' := by
  rcases h with ⟨j, Mc', g1, g2, g3, g4, g5, g6, g7⟩ | h
  · exact .inl ⟨j, Mc', g1, g2.weak hl, g3, g4, g5, g6, g7⟩
  · exact .inr h
theorem SGS.val {Mc Mm : Mem} (hk : TKN Mc Mm) {t v : Int} (hm : (t, v) ∈ SGS) (ht : Mc 10 4 = t) : Mm 0 25 = v := ((hk.2.2.sgn t v hm).mp ht).2
theorem prodW {F : Mem → Res} {B : Int} (hF : EW F false 7 7 7 1 B) (hQ : QF F) : EW (f_X10_product_G F) false 6 6 6 1 B := by
  intro u L a s D i Mc Mm h tl hp hB
  obtain ⟨f1, f2, f3⟩ := h.f
  obtain ⟨Mm1, e, o⟩ := hF u L a s D i Mc Mm h (tl.weak (by omega)) hp hB
  unfold f_X10_product_G f_X10_product_L4
  rw [e, q_call_e]
  refine loopW (F := F) (top := false) (lr := 7) (lo := 7) (lt := 7) (l := 6) (B := B) hF hQ (by omega) ?_ ?_ ?_ ?_ ?_ u L a s D i Mc Mm Mm1 f1 tl f2.1 (by omega) f3 hB (o.weak (by omega))
  · intro t c ht
    refine ⟨(fun z => by cases z), fun _ => ?_⟩
    have := lvl_inv t
    unfold yF
    rw [if_neg (by omega)]
  · intro t _ h1 h2
    have := (lvl_rng t).2
    omega
  · intro M g hq
    unfold f_X10_product_B4
    rw [q_isSign hq, q_calp_e, if_neg (by decide), q_isSign hq, q_calp_e, if_pos (by decide)]
  · intro C M g hk h26 hne
    have inv := (lvl_inv (C 10 4)).2.2.2.2.2
    unfold f_X10_product_B4
    rw [isSignM (t := 27) (v := 42) hk h26 (by decide), q_calp_e, isSignM (t := 28) (v := 47) hk h26 (by decide), q_calp_e, if_neg (show ¬ C 10 4 = 27 by omega), if_neg (show ¬ C 10 4 = 28 by omega), if_neg (show ¬ ¬ w32 0 = 0 by decide), if_pos (show w32 0 = 0 by decide)]
  · intro C M g hk h26 he
    have inv := ((lvl_inv (C 10 4)).2.2.2.2.2).mp he
    unfold f_X10_product_B4 f_X10_product_J22
    rw [isSignM (t := 27) (v := 42) hk h26 (by decide), q_calp_e, isSignM (t := 28) (v := 47) hk h26 (by decide), q_calp_e, q_gf_e]
    rcases inv with inv | inv
    · rw [if_pos inv, if_pos (show ¬ w32 1 = 0 by decide), SGS.val hk (t := 27) (v := 42) (by decide) inv]
      exact ⟨42, by rw [inv]; decide, rfl⟩
    · rw [if_neg (show ¬ C 10 4 = 27 by omega), if_pos inv, if_neg (show ¬ ¬ w32 0 = 0 by decide), if_neg (show ¬ w32 1 = 0 by decide), SGS.val hk (t := 28) (v := 47) (by decide) inv]
      exact ⟨47, by rw [inv]; decide, rfl⟩
theorem sumW {F : Mem → Res} {B : Int} (hF : EW F false 6 6 6 1 B) (hQ : QF F) : EW (f_X10_sum_G F) false 5 5 5 1 B := by
  intro u L a s D i Mc Mm h tl hp hB
  obtain ⟨f1, f2, f3⟩ := h.f
  obtain ⟨Mm1, e, o⟩ := hF u L a s D i Mc Mm h (tl.weak (by omega)) hp hB
  unfold f_X10_sum_G f_X10_sum_L4
  rw [e, q_call_e]
  refine loopW (F := F) (top := false) (lr := 6) (lo := 6) (lt := 6) (l := 5) (B := B) hF hQ (by omega) ?_ ?_ ?_ ?_ ?_ u L a s D i Mc Mm Mm1 f1 tl f2.1 (by omega) f3 hB (o.weak (by omega))
  · intro t c ht
    refine ⟨(fun z => by cases z), fun _ => ?_⟩
    have := lvl_inv t
    unfold yF
    rw [if_neg (by omega)]
  · intro t _ h1 h2
    omega
  · intro M g hq
    unfold f_X10_sum_B4
    rw [q_isSign hq, q_calp_e, if_neg (by decide), q_isSign hq, q_calp_e, if_pos (by decide)]
  · intro C M g hk h26 hne
    have inv := (lvl_inv (C 10 4)).2.2.2.2.1
    unfold f_X10_sum_B4
    rw [isSignM (t := 25) (v := 43) hk h26 (by decide), q_calp_e, isSignM (t := 26) (v := 45) hk h26 (by decide), q_calp_e, if_neg (show ¬ C 10 4 = 25 by omega), if_neg (show ¬ C 10 4 = 26 by omega), if_neg (show ¬ ¬ w32 0 = 0 by decide), if_pos (show w32 0 = 0 by decide)]
  · intro C M g hk h26 he
    have inv := ((lvl_inv (C 10 4)).2.2.2.2.1).mp he
    unfold f_X10_sum_B4 f_X10_sum_J22
    rw [isSignM (t := 25) (v := 43) hk h26 (by decide), q_calp_e, isSignM (t := 26) (v := 45) hk h26 (by decide), q_calp_e, q_gf_e]
    rcases inv with inv | inv
    · rw [if_pos inv, if_pos (show ¬ w32 1 = 0 by decide), SGS.val hk (t := 25) (v := 43) (by decide) inv]
      exact ⟨43, by rw [inv]; decide, rfl⟩
    · rw [if_neg (show ¬ C 10 4 = 25 by omega), if_pos inv, if_neg (show ¬ ¬ w32 0 = 0 by decide), if_neg (show ¬ w32 1 = 0 by decide), SGS.val hk (t := 26) (v := 45) (by decide) inv]
      exact ⟨45, by rw [inv]; decide, rfl⟩
theorem conjW {F : Mem → Res} {B : Int} (hF : EW F true 4 3 4 0 B) (hQ : QF F) : EW (f_X10_conjunction_G F) true 2 2 2 0 B := by
  intro u L a s D i Mc Mm h tl hp hB
  obtain ⟨f1, f2, f3⟩ := h.f
  obtain ⟨Mm1, e, o⟩ := hF u L a s D i Mc Mm h (tl.weak (by omega)) hp hB
  unfold f_X10_conjunction_G f_X10_conjunction_L4
  rw [e, q_call_e]
  refine loopW (F := F) (top := true) (lr := 4) (lo := 3) (lt := 4) (l := 2) (B := B) hF hQ (by omega) ?_ ?_ ?_ ?_ ?_ u L a s D i Mc Mm Mm1 f1 tl f2.1 (by omega) f3 hB (o.weak (by omega))
  · intro t c ht
    refine ⟨fun _ => ⟨?_, rfl⟩, (fun z => by cases z)⟩
    have := lvl_inv t
    unfold yF
    rw [if_pos (by omega)]
  · intro t h0 h1 h2
    have := (lvl_inv t).2.2.1
    omega
  · intro M g hq
    unfold f_X10_conjunction_B4
    rw [q_isWord hq, q_calp_e, if_pos (by decide)]
  · intro C M g hk h26 hne
    have inv := (lvl_inv (C 10 4)).2.1
    unfold f_X10_conjunction_B4
    rw [isWordM (t := 11) hk h26 (by omega), q_calp_e, if_neg (show ¬ C 10 4 = 11 by omega), if_pos (show w32 0 = 0 by decide)]
  · intro C M g hk h26 he
    have inv := ((lvl_inv (C 10 4)).2.1).mp he
    unfold f_X10_conjunction_B4
    rw [isWordM (t := 11) hk h26 (by omega), q_calp_e, if_pos inv, if_neg (show ¬ w32 1 = 0 by decide)]
    exact ⟨261, by rw [inv]; decide, rfl⟩
theorem exprW {F : Mem → Res} {B : Int} (hF : EW F true 2 2 2 0 B) (hQ : QF F) : EW (f_X10_expression_G F) true 1 1 1 0 B := by
  intro u L a s D i Mc Mm h tl hp hB
  obtain ⟨f1, f2, f3⟩ := h.f
  obtain ⟨Mm1, e, o⟩ := hF u L a s D i Mc Mm h (tl.weak (by omega)) hp hB
  unfold f_X10_expression_G f_X10_expression_L4
  rw [e, q_call_e]
  refine loopW (F := F) (top := true) (lr := 2) (lo := 2) (lt := 2) (l := 1) (B := B) hF hQ (by omega) ?_ ?_ ?_ ?_ ?_ u L a s D i Mc Mm Mm1 f1 tl f2.1 (by omega) f3 hB (o.weak (by omega))
  · intro t c ht
    refine ⟨fun _ => ⟨?_, rfl⟩, (fun z => by cases z)⟩
    have := lvl_inv t
    unfold yF
    rw [if_pos (by omega)]
  · intro t h0 h1 h2
    omega
  · intro M g hq
    unfold f_X10_expression_B4
    rw [q_isWord hq, q_calp_e, if_pos (by decide)]
  · intro C M g hk h26 hne
    have inv := (lvl_inv (C 10 4)).1
    unfold f_X10_expression_B4
    rw [isWordM (t := 10) hk h26 (by omega), q_calp_e, if_neg (show ¬ C 10 4 = 10 by omega), if_pos (show w32 0 = 0 by decide)]
  · intro C M g hk h26 he
    have inv := ((lvl_inv (C 10 4)).1).mp he
    unfold f_X10_expression_B4
    rw [isWordM (t := 10) hk h26 (by omega), q_calp_e, if_pos inv, if_neg (show ¬ w32 1 = 0 by decide)]
    exact ⟨262, by rw [inv]; decide, rfl⟩
