/-! the law line: what holds between lines; a law more -/
theorem WFL.congr {R V R' V' : Int → Int} {a b : Int} (h : WFL R V a b) (he : ∀ j, a ≤ j → j < b → R' j = R j ∧ V' j = V j) : WFL R' V' a b := by
  rcases h with h | ⟨h1, h2⟩
  · exact .inl h
  · refine .inr ⟨fun n hn hr => ?_, ?_⟩
    · have e := he (a + n) (by omega) hn
      rw [dpt_congr n (fun j hj => he _ (by omega) (by omega)), e.2]
      exact h1 n hn (by rw [← e.1]; exact hr)
    · rw [dpt_congr _ (fun j hj => he _ (by omega) (by omega))]
      exact h2
def RLn (u : Nat) (L : Int) (Mc Mm : Mem) : Prop := RD u L Mc Mm ∧ Mc (u + 10) 5 = Mm 35 13 ∧ Mm 0 31 = Mm 35 13 ∧ Mm 0 30 = 0 ∧ ∀ l, 0 ≤ l → l < 3 → Mm 48 (3 + l) ≤ Mm 35 13
theorem RLn.law {u : Nat} {L l a b : Int} {Qc Qm Vc Vm : Mem} (h : RLn u L Qc Qm) (hl : 0 ≤ l ∧ l < 3) (ea : Qm 35 13 = a) (fc : ∀ n i, n ≠ 10 → n ≠ 11 → n ≠ 385 → n ≠ 388 → ¬ (n = u + 10 ∧ (i = 5 ∨ i = 6)) → ¬ ((n = 32 * (u + 11) ∨ n = 32 * (u + 11) + 1) ∧ a ≤ i) → ¬ ((n = 32 * (u + 11) + 2 ∨ n = 32 * (u + 11) + 3) ∧ i = l) → Vc n i = Qc n i) (fm : ∀ n i, n ≠ 0 → ¬ (n = 35 ∧ i = 13) → ¬ ((n = 49 ∨ n = 50) ∧ 64 + a ≤ i) → ¬ ((n = 47 ∨ n = 48) ∧ i = 3 + l) → Vm n i = Qm n i) (m19 : Vm 0 19 = q_or (Qm 0 19) (q_shl 1 (16 + l))) (hb : TB L Vc Vm) (hk : TKN Vc Vm) (h26 : Vm 0 26 = 0) (h27 : Vm 0 27 = -1) (h30 : Vm 0 30 = 0) (c5 : Vc (u + 10) 5 = b) (c6 : Vc (u + 10) 6 = b) (m13 : Vm 35 13 = b) (m31 : Vm 0 31 = b) (c2 : Vc (32 * (u + 11) + 2) l = a) (c3 : Vc (32 * (u + 11) + 3) l = b) (m47 : Vm 47 (3 + l) = a) (m48 : Vm 48 (3 + l) = b) (hab : a < b ∧ b ≤ 64) (tk : ∀ i, a ≤ i → i < b → TK (Vc (32 * (u + 11)) i) (Vc (32 * (u + 11) + 1) i) (Vm 49 (64 + i)) (Vm 50 (64 + i))) (wf : WFK (fun j => Vm 49 (64 + j)) (fun j => Vm 50 (64 + j)) a b 1) : RLn u L Vc Vm := by
  obtain ⟨⟨g1, g2, g3, g4, g5, g6, g7, g8, g9, g10⟩, r5, r31, r30, r48⟩ := h
  obtain ⟨k1, k2, k3, k4, k5, k6, k7, k8, k9, k10, k11⟩ := g6
  have a0 : 0 ≤ a := by
    have z : 0 ≤ Qm 35 13 := k7.2.1
    omega
  have cN : ∀ n, n ≠ 10 → n ≠ 11 → n ≠ 385 → n ≠ 388 → n ≠ u + 10 → (n < 32 * (u + 11) ∨ 32 * (u + 11) + 3 < n) → Vc n = Qc n := fun n z1 z2 z3 z4 z5 z6 => by
    funext i
    exact fc n i z1 z2 z3 z4 (by omega) (by omega) (by omega)
  have mN : ∀ n, n ≠ 0 → n ≠ 35 → (n < 47 ∨ 50 < n) → Vm n = Qm n := fun n z1 z2 z3 => by
    funext i
    exact fm n i z1 (by omega) (by omega) (by omega)
  have m35 : ∀ i, i ≠ 13 → Vm 35 i = Qm 35 i := fun i z => fm 35 i (by omega) (by omega) (by omega) (by omega)
  have hN : ∀ n, 36 ≤ n → n ≤ 46 → hv Vm n = hv Qm n := fun n z1 z2 => by
    funext i
    unfold hv
    rw [if_neg (show ¬ n = 35 by omega), if_neg (show ¬ n = 35 by omega), mN n (by omega) (by omega) (by omega)]
  have h35 : ∀ i, i ≠ 6 → hv Vm 35 i = hv Qm 35 i := fun i z => m35 (7 + i) (by omega)
  have cu := cN u (by omega) (by omega) (by omega) (by omega) (by omega) (by omega)
  have cA : ∀ d, d ≤ 12 → Vc (32 * (u + 1) + d) = Qc (32 * (u + 1) + d) := fun d z => cN _ (by omega) (by omega) (by omega) (by omega) (by omega) (by omega)
  have c1 := cN 1 (by omega) (by omega) (by omega) (by omega) (by omega) (by omega)
  refine ⟨⟨g1, ?_, hb, hk, h26, ?_, ?_, ?_, ?_, ?_⟩, by rw [c5, m13], by rw [m31, m13], h30, ?_⟩
  · rw [c1, g2]
  · refine ⟨k1, ?_, ?_, ?_, ?_, ?_, ?_, ?_, ?_, ?_, ?_⟩
    · rw [cu, h35 0 (by omega)]; exact k2
    · rw [cu, h35 1 (by omega)]; exact k3
    · rw [cu, h35 3 (by omega)]; exact k4
    · rw [cu, h35 4 (by omega)]; exact k5
    · rw [cu, h35 5 (by omega)]; exact k6
    · show Vc (u + 10) 6 = Vm 35 13 ∧ 0 ≤ Vm 35 13 ∧ Vm 35 13 ≤ 64
      rw [c6, m13]; omega
    · rw [h35 0 (by omega), h35 2 (by omega), hN 36 (by omega) (by omega), hN 37 (by omega) (by omega), hN 38 (by omega) (by omega), hN 39 (by omega) (by omega), hN 45 (by omega) (by omega), hN 46 (by omega) (by omega), cA 1 (by omega), cA 2 (by omega), cA 3 (by omega), cA 4 (by omega), cA 5 (by omega)]
      exact k8
    · rw [h35 0 (by omega), h35 2 (by omega), hN 45 (by omega) (by omega), hN 46 (by omega) (by omega)]
      exact k9
    · rw [h35 1 (by omega), hN 40 (by omega) (by omega), hN 41 (by omega) (by omega), hN 42 (by omega) (by omega), hN 43 (by omega) (by omega), hN 44 (by omega) (by omega), cA 8 (by omega), cA 9 (by omega), cA 10 (by omega), cA 11 (by omega), cA 12 (by omega)]
      exact k10
    · intro l' p q
      by_cases c : l' = l
      · subst c
        have e47 : hv Vm 47 l' = a := m47
        have e48 : hv Vm 48 l' = b := m48
        rw [e47, e48]
        exact ⟨c2, c3, a0, by omega, by omega, tk, .inr ⟨wf.1, wf.2.1⟩⟩
      · obtain ⟨w1, w2, w3, w4, w5, w6, w7⟩ := k11 l' p q
        have hle : hv Qm 48 l' ≤ a := by
          rw [← ea]; exact r48 l' p q
        have e47 : hv Vm 47 l' = hv Qm 47 l' := fm 47 (3 + l') (by omega) (by omega) (by omega) (by omega)
        have e48 : hv Vm 48 l' = hv Qm 48 l' := fm 48 (3 + l') (by omega) (by omega) (by omega) (by omega)
        have e49 : ∀ i, i < a → hv Vm 49 i = hv Qm 49 i := fun i z => fm 49 (64 + i) (by omega) (by omega) (by omega) (by omega)
        have e50 : ∀ i, i < a → hv Vm 50 i = hv Qm 50 i := fun i z => fm 50 (64 + i) (by omega) (by omega) (by omega) (by omega)
        rw [fc (32 * (u + 11) + 2) l' (by omega) (by omega) (by omega) (by omega) (by omega) (by omega) (by omega), fc (32 * (u + 11) + 3) l' (by omega) (by omega) (by omega) (by omega) (by omega) (by omega) (by omega), e47, e48]
        refine ⟨w1, w2, w3, w4, w5, fun i x y => ?_, WFL.congr w7 (fun j x y => ⟨e49 j (by omega), e50 j (by omega)⟩)⟩
        rw [fc (32 * (u + 11)) i (by omega) (by omega) (by omega) (by omega) (by omega) (by omega) (by omega), fc (32 * (u + 11) + 1) i (by omega) (by omega) (by omega) (by omega) (by omega) (by omega) (by omega), e49 i (by omega), e50 i (by omega)]
        exact w6 i x y
  · rw [cu, m35 9 (by omega), g7]
  · rw [m35 7 (by omega), cA 5 (by omega)]; exact g8
  · intro k x y
    obtain ⟨q1, q2, q3, q4⟩ := g9 k x y
    refine ⟨?_, by rw [c1, q2], by rw [c1, q3], h27⟩
    rw [c1, m19, Bt_or, Bt_shl (by omega) (by omega), decide_eq_false (by omega), Bool.or_false]
    exact q1
  · intro l' p q
    rw [m19, Bt_or, Bt_shl (by omega) (by omega)]
    by_cases c : l' = l
    · subst c
      rw [c2, c3, decide_eq_true rfl, Bool.or_true]
      exact ⟨fun _ => rfl, fun _ => hab.1⟩
    · rw [fc (32 * (u + 11) + 2) l' (by omega) (by omega) (by omega) (by omega) (by omega) (by omega) (by omega), fc (32 * (u + 11) + 3) l' (by omega) (by omega) (by omega) (by omega) (by omega) (by omega) (by omega), decide_eq_false (by omega), Bool.or_false]
      exact g10 l' p q
  · intro l' p q
    rw [m13]
    by_cases c : l' = l
    · subst c; rw [m48]; omega
    · rw [fm 48 (3 + l') (by omega) (by omega) (by omega) (by omega)]
      have := r48 l' p q
      omega
/-! any line: outcomes -/
def LWW (u : Nat) (L : Int) (Mc Mm : Mem) (r : Int) (Mc' Mm' : Mem) : Prop := fcW u Mc Mc' ∧ fmW Mm Mm' ∧ ((r = 1 ∧ RLn u L Mc' Mm' ∧ Mm' 0 20 = Mm 0 20 + 1 ∧ Mm 0 22 ≤ Mm' 0 22 ∧ (Mm' 0 24 ≠ 4 → Mm 0 22 < Mm' 0 22)) ∨ (r = 0 ∧ FQa Mm' ∧ Mc' 1 4 = Mm' 0 26 ∧ Mc' 1 5 = Mm' 0 27 ∧ in32 (Mm' 0 27)))
theorem fcL.w {u : Nat} {M M' : Mem} (h : fcL u M M') : fcW u M M' := fun n i a b c d e f g k => h n i a trivial c trivial e f trivial trivial
theorem fmL.w {M M' : Mem} (h : fmL M M') : fmW M M' := fun n i a b c d e f g => h n i (by omega) (by omega) c d e trivial trivial
theorem fcW.trans {u : Nat} {M M' M'' : Mem} (h : fcW u M M') (h' : fcW u M' M'') : fcW u M M'' := fun n i a b c d e f g k => by rw [h' n i a b c d e f g k, h n i a b c d e f g k]
theorem fmW.trans {M M' M'' : Mem} (h : fmW M M') (h' : fmW M' M'') : fmW M M'' := fun n i a b c d e f g => by rw [h' n i a b c d e f g, h n i a b c d e f g]
theorem LW.w {u : Nat} {L r : Int} {Mc Mm Mc' Mm' : Mem} (h : LW u L Mc Mm r Mc' Mm') (hr : RLn u L Mc Mm) : LWW u L Mc Mm r Mc' Mm' := by
  obtain ⟨h1, h2, h3⟩ := h
  have hu := hr.1.1
  have e13 : Mm' 35 13 = Mm 35 13 := h2 35 13 (by omega) (by omega) (by omega) (by omega) (by omega) trivial trivial
  refine ⟨h1.w, h2.w, ?_⟩
  rcases h3 with ⟨b1, b2, b3, b4, b5⟩ | h3
  · refine .inl ⟨b1, ⟨b2, ?_, ?_, ?_, ?_⟩, b3, b4, b5⟩
    · rw [h1 (u + 10) 5 (by omega) trivial (by omega) trivial (by omega) (by omega) trivial trivial, e13]
      exact hr.2.1
    · rw [h2 0 31 (by omega) (by omega) (by omega) (by omega) (by omega) trivial trivial, e13]
      exact hr.2.2.1
    · rw [h2 0 30 (by omega) (by omega) (by omega) (by omega) (by omega) trivial trivial]
      exact hr.2.2.2.1
    · intro l p q
      rw [h2 48 (3 + l) (by omega) (by omega) (by omega) (by omega) (by omega) trivial trivial, e13]
      exact hr.2.2.2.2 l p q
  · exact .inr h3
theorem LWW.pre {u : Nat} {L r : Int} {Mc Mm Mc1 Mm1 Mc' Mm' : Mem} (h : LWW u L Mc1 Mm1 r Mc' Mm') (hc : fcW u Mc Mc1) (hm : fmW Mm Mm1) (e20 : Mm1 0 20 = Mm 0 20) (e22 : Mm 0 22 ≤ Mm1 0 22) : LWW u L Mc Mm r Mc' Mm' := by
  obtain ⟨h1, h2, h3⟩ := h
  refine ⟨hc.trans h1, hm.trans h2, ?_⟩
  rcases h3 with ⟨a, b, c, d, g⟩ | h3
  · exact .inl ⟨a, b, by rw [c, e20], by omega, fun z => by have := g z; omega⟩
  · exact .inr h3
theorem q_lJ30 {M : Mem} (h : FQa M) : f_X10_lawLine_J30 M = some (0, M) := by
  unfold f_X10_lawLine_J30 f_X10_lawLine_J65
  rw [q_gf_e, q_gf_e, if_pos h.w, q_gf_e, if_neg h.w]
theorem q_lJ65 {x : Int} {M : Mem} (h : FQa M) : f_X10_lawLine_J65 x M = some (0, M) := by
  unfold f_X10_lawLine_J65
  rw [q_gf_e, if_neg h.w]
