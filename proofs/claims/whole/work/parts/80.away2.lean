theorem MR.placeC {t k : Nat} {q r b : Int} {Mc Mm : Mem} (h : MR t k q r b Mc Mm) {s : Int} (hs : in32 s) : ∃ x, f_X6_placeOf k s Mc = some x ∧ ((0 ≤ x ∧ x < Mm 69 q ∧ Mm 70 (8 * q + x) = s) ∨ (x = -2 ∧ ∀ j, 0 ≤ j → j < Mm 69 q → Mm 70 (8 * q + j) ≠ s)) := by
  obtain ⟨r1, r2, r3, r4, r5, r6⟩ := h.rng
  obtain ⟨e1, e2, e3, e4, e5⟩ := h.raw
  have hS := h.1.2.1
  obtain ⟨x, a1, a2⟩ := placeOfC (k := k) (s := s) (M := Mc) (by omega) hs (fun j a b => by rw [e4 j a (by omega)]; have := r4 j a (by omega); unfold in32; omega)
  refine ⟨x, a1, ?_⟩
  rcases a2 with ⟨f1, f2, f3, f4⟩ | ⟨f1, f2⟩
  · exact .inl ⟨f1, by omega, by rw [← e4 x f1 (by omega)]; exact f3⟩
  · exact .inr ⟨f1, fun j a b => by rw [← e4 j a b]; exact f2 j a (by omega)⟩
theorem placeNone {q s : Int} {M : Mem} (hq : 0 ≤ q ∧ q < 23) (hw : 0 ≤ M 69 q ∧ M 69 q ≤ 8) (hs : in32 s) (hr : ∀ j, 0 ≤ j → j < M 69 q → in32 (M 70 (8 * q + j))) (hn : ∀ j, 0 ≤ j → j < M 69 q → M 70 (8 * q + j) ≠ s) : f_X10_placeOf q s M = some (-1) := by
  obtain ⟨x, a1, a2⟩ := placeOfM hq hw hs hr
  rw [a1]
  rcases a2 with ⟨f1, f2, f3, f4⟩ | ⟨f1, f2⟩
  · exact absurd f3 (hn x f1 f2)
  · rw [f1]
theorem MR.inq {t k : Nat} {q r b : Int} {Mc Mm : Mem} (h : MR t k q r b Mc Mm) {s : Int} (hs : 0 ≤ s ∧ s < Mm 35 0) (h1 : Mm 71 (8 * q + s) = 1) : ∃ p, 0 ≤ p ∧ p < Mm 69 q ∧ Mm 70 (8 * q + p) = s := by
  have h6 : WFB (Mm 35 0) b (mvw q Mm) := WFB.of h.2.2.2.2.2.1 h.2.2.2.2.1
  obtain ⟨i, i1, i2, i3⟩ := (h6.2.2.2.2.2 s hs.1 hs.2).2.2.2.2.2 h1
  exact ⟨i, i1, i2, i3⟩
/-- one is sent away in a trial that is tried otherwise -/
theorem awayW {t : Nat} {i x1 : Int} {Mc1 Mm1 : Mem} (h : MR t 5 1 0 0 Mc1 Mm1) (hi : 0 ≤ i ∧ i < Mm1 35 0) (hx : 0 ≤ x1 ∧ x1 ≤ 5) : ∃ Mc2 Mm2, f_X9_sendAway i (up Mc1 7 3 x1) = some (0, Mc2) ∧ ((2 ≤ Mm1 71 (8 + i) → Mm2 = Mm1) ∧ (Mm1 71 (8 + i) < 2 → f_X10_leaves 1 i 3 Mm1 = some (0, Mm2))) ∧ MR t 5 1 0 0 Mc2 (up Mm2 0 47 x1) ∧ FC t Mc1 Mc2 ∧ FM Mm1 Mm2 ∧ Mm2 67 1 = Mm1 67 1 := by
  have ht := h.1.1
  have hS := h.1.2.1
  have hN : MR t 5 1 0 0 (up Mc1 7 3 x1) (up Mm1 0 47 x1) := by
    obtain ⟨g1, g2⟩ := h.2.2.1
    obtain ⟨g3, -, g4⟩ := h.2.2.2.1
    refine h.set (fun n a => up_ne1 a) (fun n a => up_ne1 a) ⟨by rw [up_nei (by omega)]; exact g1, by rw [up_nei (by omega)]; exact g2⟩ ⟨by rw [up_nei (by omega)]; exact g3, by rw [up_same, up_same]; exact ⟨rfl, hx⟩, ?_⟩
    rw [up_nei (by omega), up_nei (by omega), up_nei (by omega), up_nei (by omega)]
    exact g4
  have fc3 : FC t Mc1 (up Mc1 7 3 x1) := fun n hn => up_ne1 (by unfold KC at hn; omega)
  have n71 : up Mm1 0 47 x1 71 = Mm1 71 := up_ne1 (by omega)
  have n69 : up Mm1 0 47 x1 69 = Mm1 69 := up_ne1 (by omega)
  have n70 : up Mm1 0 47 x1 70 = Mm1 70 := up_ne1 (by omega)
  have n35 : up Mm1 0 47 x1 35 = Mm1 35 := up_ne1 (by omega)
  have hi' : 0 ≤ i ∧ i < up Mm1 0 47 x1 35 0 := by rw [n35]; exact hi
  obtain ⟨r1, r2, r3, r4, r5, r6⟩ := h.rng
  have e194 : up Mc1 7 3 x1 194 i = Mm1 71 (8 + i) := by
    have := (hN.raw.2.2.2.2 i hi'.1 hi'.2).1
    rw [n71] at this
    exact this
  have rw1 : 0 ≤ Mm1 71 (8 + i) ∧ Mm1 71 (8 + i) ≤ 3 := (r6 i hi.1 hi.2).1
  have e9 := hN.raw.2.2.1
  have hv := hN.2.2.2.2
  have m2 : mvw 1 (up Mm1 0 47 x1) 2 i = Mm1 71 (8 + i) := by
    show up Mm1 0 47 x1 71 (8 * 1 + i) = _
    rw [n71]; rfl
  have c2 : cvw 5 (up Mc1 7 3 x1) 2 i = Mm1 71 (8 + i) := e194
  unfold f_X9_sendAway f_X9_sendAway_J35
  simp (disch := omega) only [w32_id, q_gf_e, q_gr_e, q_pf_e, q_pz_e, q_let_e, q_call_e, q_calp_e, q_al_ok, q_as_ok, q_nz_ok, up_same, up_nei, up_ne1, Int.toNat_natCast, reduceIte, Int.reduceEq, Int.reduceLT, Int.reduceLE, Int.reduceNeg, not_true_eq_false, not_false_eq_true, e194]
  by_cases cg : Mm1 71 (8 + i) = 2
  · -- gone
    rw [if_neg (by simp [cg])]
    exact ⟨_, _, rfl, ⟨fun _ => rfl, fun h => absurd h (by omega)⟩, hN, fc3, FM.refl _, rfl⟩
  rw [if_pos cg]
  by_cases cw : Mm1 71 (8 + i) = 1
  · -- it waits
    obtain ⟨p, p1, p2, p3⟩ := h.inq hi cw
    have hpl : f_X10_placeOf 1 i Mm1 = some p := by
      have := h.place p1 p2
      rwa [p3] at this
    have hl := leavesM (q := 1) (s := i) (p := p) (v := 3) (M := Mm1) (by omega) (by omega) (by omega) ⟨p1, p2⟩ hpl
    obtain ⟨x, y1, y2⟩ := hN.placeC (s := i) (by unfold in32; omega)
    rw [n69, n70] at y2
    have ex : x = p := by
      rcases y2 with ⟨z1, z2, z3⟩ | ⟨-, z2⟩
      · rcases Int.lt_trichotomy x p with l | l | l
        · exact absurd (z3.trans p3.symm) (r5 x p z1 l p2)
        · exact l
        · exact absurd (p3.trans z3.symm) (r5 p x p1 l z2)
      · exact absurd p3 (z2 p p1 p2)
    subst ex
    rw [n69] at e9
    have ho := takeOutC (k := 5) (p := x) (M := up Mc1 7 3 x1) (by omega) (by omega) (by omega)
    rw [y1]
    simp (disch := omega) only [w32_id, q_gf_e, q_gr_e, q_pf_e, q_pz_e, q_let_e, q_call_e, q_calp_e, q_al_ok, q_as_ok, q_nz_ok, up_same, up_nei, up_ne1, Int.toNat_natCast, reduceIte, Int.reduceEq, Int.reduceLT, Int.reduceLE, Int.reduceNeg, not_true_eq_false, not_false_eq_true, ho]
    rw [if_neg (by omega)]
    have eN : up (LVM 1 i x 3 Mm1) 0 47 x1 = LVM 1 i x 3 (up Mm1 0 47 x1) := by
      funext n j
      unfold LVM
      simp only [n69]
      by_cases c0 : n = 0
      · subst c0
        have m1 : ¬ ((0 : Nat) = 70 ∧ 8 * 1 + x ≤ j ∧ j < 8 * 1 + (Mm1 69 1 - 1)) := by omega
        have m2 : ¬ ((0 : Nat) = 69 ∧ j = 1) := by omega
        have m3 : ¬ ((0 : Nat) = 71 ∧ j = 8 * 1 + i) := by omega
        rw [if_neg m1, if_neg m2, if_neg m3]
        by_cases cj : j = 47
        · rw [cj, up_same, up_same]
        · rw [up_nei cj, up_nei cj]
          rw [if_neg m1, if_neg m2, if_neg m3]
      · simp only [up_ne1 c0]
    have gc : GC 5 (up Mc1 7 3 x1) (up (TOC 5 x (up Mc1 7 3 x1)) 194 i 3) := by
      intro n a b _ _ _ _
      rw [up_ne1 (by omega)]
      funext j
      unfold TOC
      rw [if_neg (by omega), if_neg (by omega)]
    have gm : ∀ M : Mem, M 69 1 ≤ 8 → M 71 (8 * 1 + i) = 1 → GM 1 M (LVM 1 i x 3 M) := by
      intro M hM h1
      refine ⟨fun n a b c d e => ?_, fun f a b => ?_, fun n j a b c => ?_, fun n j a b c => ?_, fun p a b c => ?_⟩
      · funext j; unfold LVM; rw [if_neg (by omega), if_neg (by omega), if_neg (by omega)]
      · unfold LVM; rw [if_neg (by omega), if_neg (by omega), if_neg (by omega)]
      · unfold LVM; rw [if_neg (by omega), if_neg (by omega), if_neg (by omega)]
      · unfold LVM; rw [if_neg (by omega), if_neg (by omega), if_neg (by omega)]
      · unfold LVM
        rw [if_neg (by omega), if_neg (by omega), if_neg]
        intro hh
        rw [hh.2] at c
        omega
    refine ⟨_, _, rfl, ⟨fun h => absurd h (by omega), fun _ => hl⟩, ?_, fc3.trans (gc.fc ht), (gm Mm1 (by omega) cw).fm, ?_⟩
    · rw [eN]
      have w9 : cvw 5 (up Mc1 7 3 x1) 0 9 = Mm1 69 1 := e9
      have w9' : mvw 1 (up Mm1 0 47 x1) 0 9 = Mm1 69 1 := by show up Mm1 0 47 x1 69 1 = _; rw [n69]
      have k1 := VEQ.to (S := up Mm1 0 47 x1 35 0) (TOCU.vw (k := 5) (s := i) (p := x) (M := up Mc1 7 3 x1)) (by rw [n35]; omega) (by rw [TOCU.vw.2.2.1, AWV.f0, if_pos rfl]; omega)
      have k2 := VEQ.to (S := up Mm1 0 47 x1 35 0) (LVM3.vw (q := 1) (s := i) (p := x) (M := up Mm1 0 47 x1)) (by rw [n35]; omega) (by rw [LVM3.vw.2.2.1, AWV.f0, if_pos rfl]; omega)
      have e8 : cvw 5 (up Mc1 7 3 x1) 8 x = i := by
        rw [hv.1.2.2.2.1 x p1 (by omega)]
        show up Mm1 0 47 x1 70 (8 * 1 + x) = i
        rw [n70]; exact p3
      refine hN.step gc (gm _ (by rw [n69]; omega) (by rw [n71]; exact cw)) (k1.trans ((AWV.eqv hv.1 p1).trans k2.symm)) (WFB.of (AWV.wf hv.2.1 ⟨p1, by omega⟩ e8) k1.symm) (NOB.of (AWV.nob hv.2.2 (by omega)) LVM3.vw.symm (by rw [n35]; omega))
    · unfold LVM
      rw [if_neg (by omega), if_neg (by omega), if_neg (by omega)]
  -- it doesn't stand in the queue
  have hno : ∀ j, 0 ≤ j → j < Mm1 69 1 → Mm1 70 (8 * 1 + j) ≠ i := fun j a b e => by
    have := (r4 j a b).2.2
    rw [e] at this
    exact cw this
  obtain ⟨x, y1, y2⟩ := hN.placeC (s := i) (by unfold in32; omega)
  rw [n69, n70] at y2
  have ex : x = -2 := by
    rcases y2 with ⟨z1, z2, z3⟩ | ⟨z, -⟩
    · exact absurd z3 (hno x z1 z2)
    · exact z
  subst ex
  rw [y1]
  (try simp (disch := omega) only [w32_id, q_gf_e, q_gr_e, q_pf_e, q_pz_e, q_let_e, q_call_e, q_calp_e, q_al_ok, q_as_ok, q_nz_ok, up_same, up_nei, up_ne1, Int.toNat_natCast, reduceIte, Int.reduceEq, Int.reduceLT, Int.reduceLE, Int.reduceNeg, not_true_eq_false, not_false_eq_true])
  have gc : GC 5 (up Mc1 7 3 x1) (up (up Mc1 7 3 x1) 194 i 3) := fun n _ a _ _ _ _ => up_ne1 (by omega)
  have kv : VEQ (cvw 5 (up (up Mc1 7 3 x1) 194 i 3)) (up (cvw 5 (up Mc1 7 3 x1)) 2 i 3) := by
    refine ⟨?_, ?_, ?_, fun f j a b c d => ?_⟩
    · rw [up_ne1 (by omega)]
      show up (up Mc1 7 3 x1) 194 i 3 5 0 = up Mc1 7 3 x1 5 0
      rw [up_ne1 (by omega)]
    · rw [up_ne1 (by omega)]
      show up (up Mc1 7 3 x1) 194 i 3 5 1 = up Mc1 7 3 x1 5 1
      rw [up_ne1 (by omega)]
    · rw [up_ne1 (by omega)]
      show up (up Mc1 7 3 x1) 194 i 3 5 9 = up Mc1 7 3 x1 5 9
      rw [up_ne1 (by omega)]
    · have ef : f ≠ 0 := by omega
      by_cases cc : f = 2 ∧ j = i
      · rw [cc.1, cc.2, up_same]
        show up (up Mc1 7 3 x1) 194 i 3 194 i = 3
        rw [up_same]
      · rw [up_ne cc]
        simp only [cvw, if_neg ef]
        rw [up_ne (by omega)]
  have w9 : cvw 5 (up Mc1 7 3 x1) 0 9 = Mm1 69 1 := by rw [n69] at e9; exact e9
  have k1 := VEQ.to (S := up Mm1 0 47 x1 35 0) kv (by rw [n35]; omega) (by rw [kv.2.2.1, up_ne1 (by omega)]; omega)
  have kq := OFV.eqv (s := i) hv.1
  have kw := OFV.wf (s := i) hv.2.1 (by omega)
  have kn := OFV.nob (s := i) hv.2.2 (by omega)
  by_cases c3 : 2 ≤ Mm1 71 (8 + i)
  · have em : VEQ (up (mvw 1 (up Mm1 0 47 x1)) 2 i 3) (mvw 1 (up Mm1 0 47 x1)) := by
      refine ⟨by rw [up_ne1 (by omega)], by rw [up_ne1 (by omega)], by rw [up_ne1 (by omega)], fun f j a b c d => ?_⟩
      by_cases cc : f = 2 ∧ j = i
      · rw [cc.1, cc.2, up_same, m2]; omega
      · rw [up_ne cc]
    have w9' : up (mvw 1 (up Mm1 0 47 x1)) 2 i 3 0 9 = Mm1 69 1 := by
      rw [up_ne1 (by omega)]
      show up Mm1 0 47 x1 69 1 = _
      rw [n69]
    have k2 := VEQ.to (S := up Mm1 0 47 x1 35 0) em (by rw [n35]; omega) (by omega)
    exact ⟨_, _, rfl, ⟨fun _ => rfl, fun h => absurd h (by omega)⟩, hN.step gc (GM.refl _ _) (k1.trans (kq.trans k2)) (WFB.of kw k1.symm) hv.2.2, fc3.trans (gc.fc ht), FM.refl _, rfl⟩
  · have hpl := placeNone (q := 1) (s := i) (M := Mm1) (by omega) (by omega) (by unfold in32; omega) (fun j a b => by have := r4 j a b; unfold in32; omega) hno
    have hl : f_X10_leaves 1 i 3 Mm1 = some (0, up Mm1 71 (8 * 1 + i) 3) := by
      unfold f_X10_leaves
      rw [hpl]
      (try simp (disch := omega) only [w32_id, q_gf_e, q_gr_e, q_pf_e, q_pz_e, q_let_e, q_call_e, q_calp_e, q_al_ok, q_as_ok, q_nz_ok, up_same, up_nei, up_ne1, Int.toNat_natCast, reduceIte, Int.reduceEq, Int.reduceLT, Int.reduceLE, Int.reduceNeg, not_true_eq_false, not_false_eq_true])
    have gm : ∀ M : Mem, M 71 (8 * 1 + i) < 2 → GM 1 M (up M 71 (8 * 1 + i) 3) := fun M hM => by
      refine ⟨fun n a b c d e => up_ne1 (by omega), fun f a b => by rw [up_ne1 (by omega)], fun n j a b c => by rw [up_ne1 (by omega)], fun n j a b c => up_ne (by omega), fun p a b c => ?_⟩
      rw [up_nei]
      intro hh
      rw [hh] at c
      omega
    have eN : up (up Mm1 71 (8 * 1 + i) 3) 0 47 x1 = up (up Mm1 0 47 x1) 71 (8 * 1 + i) 3 := by
      funext n j
      unfold up
      repeat' split
      all_goals first
        | rfl
        | (exfalso; omega)
    have em : VEQ (mvw 1 (up (up Mm1 0 47 x1) 71 (8 * 1 + i) 3)) (up (mvw 1 (up Mm1 0 47 x1)) 2 i 3) := by
      refine ⟨?_, ?_, ?_, fun f j a b c d => ?_⟩
      · rw [up_ne1 (by omega)]
        show up (up Mm1 0 47 x1) 71 (8 * 1 + i) 3 67 1 = up Mm1 0 47 x1 67 1
        rw [up_ne1 (by omega)]
      · rw [up_ne1 (by omega)]
        show up (up Mm1 0 47 x1) 71 (8 * 1 + i) 3 68 1 = up Mm1 0 47 x1 68 1
        rw [up_ne1 (by omega)]
      · rw [up_ne1 (by omega)]
        show up (up Mm1 0 47 x1) 71 (8 * 1 + i) 3 69 1 = up Mm1 0 47 x1 69 1
        rw [up_ne1 (by omega)]
      · have ef : f ≠ 0 := by omega
        by_cases cc : f = 2 ∧ j = i
        · rw [cc.1, cc.2, up_same]
          show up (up Mm1 0 47 x1) 71 (8 * 1 + i) 3 71 (8 * 1 + i) = 3
          rw [up_same]
        · rw [up_ne cc]
          simp only [mvw, if_neg ef]
          rw [up_ne]
          unfold mvc
          split <;> omega
    have w9' : mvw 1 (up (up Mm1 0 47 x1) 71 (8 * 1 + i) 3) 0 9 = Mm1 69 1 := by
      show up (up Mm1 0 47 x1) 71 (8 * 1 + i) 3 69 1 = _
      rw [up_ne1 (by omega), n69]
    have k2 := VEQ.to (S := up Mm1 0 47 x1 35 0) em (by rw [n35]; omega) (by omega)
    refine ⟨_, _, rfl, ⟨fun h => absurd h c3, fun _ => hl⟩, ?_, fc3.trans (gc.fc ht), (gm Mm1 (by show Mm1 71 (8 + i) < 2; omega)).fm, by rw [up_ne1 (by omega)]⟩
    rw [eN]
    exact hN.step gc (gm _ (by rw [n71]; show Mm1 71 (8 + i) < 2; omega)) (k1.trans (kq.trans k2.symm)) (WFB.of kw k1.symm) (NOB.of kn em.symm (by rw [n35]; omega))
