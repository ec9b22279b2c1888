/-! lines: the soul line -/
theorem fresherM {x : Int} {M : Mem} (hx : 0 ≤ x ∧ x < 7) : f_X10_fresher x M = some (M 35 (7 + x)) := by
  unfold f_X10_fresher
  rw [q_al_ok (by omega)]
theorem readsM {x v : Int} {M : Mem} (hx : 0 ≤ x ∧ x < 7) : f_X10_reads x v M = some (0, up M 35 (7 + x) v) := by
  unfold f_X10_reads
  rw [q_as_ok (by omega)]
theorem FQa.up {M : Mem} {n : Nat} {i v : Int} (h : FQa M) (hn : n ≠ 0) : FQa (up M n i v) := by
  unfold FQa
  rw [up_ne1 (n' := 0) (by omega)]
  exact h
theorem SG.wrt {u n m n2 m2 l0 : Nat} {L S o v : Int} {Mc Mm Mc' Mm' : Mem} (h : SG u n m L S o v Mc Mm Mc' Mm') (hw : WRT u n2 m2 S o l0 (hv Mm)) (hm : m ≠ 35) : WRT u n2 m2 S o l0 (hv (up Mm' m (o + S) v)) := by
  unfold WRT at *
  rw [hv35, hv35, up_ne1 (n' := 35) (by omega), h.2.2.2.1 35 (by omega)]
  exact hw
theorem soulW {u : Nat} {L : Int} {Mc Mm : Mem} (h : RD u L Mc Mm) (hS : Mm 35 7 < 8) : ∃ r Mc1 Mm1, f_X4_readSoul Mc = some (r, Mc1) ∧ f_X10_line_J70 0 Mm = f_X10_line_J367 Mm1 ∧ GB u L Mc Mm r Mc1 Mm1 := by
  have hh := h
  obtain ⟨g1, g2, g3, g4, g5, g6, g7, g8, g9, g10⟩ := h
  have hs0 : 0 ≤ Mm 35 7 := g6.2.1.2.1
  have hsc : Mc u 0 = Mm 35 7 := g6.2.1.1
  obtain ⟨S, eS⟩ : ∃ S, S = Mm 35 7 := ⟨_, rfl⟩
  have hm := hh.mark0 (x := 0) (by omega)
  obtain ⟨Pm, hPm⟩ : ∃ P, P = up Mm 0 19 (q_or (Mm 0 19) (q_shl 1 0)) := ⟨_, rfl⟩
  rw [← hPm] at hm
  have fm1 : fmL Mm Pm := fun n i a b c d e f g => by rw [hPm, up_ne (by omega)]
  have e20 : Pm 0 20 = Mm 0 20 := by rw [hPm, up_nei (by omega)]
  have e22 : Pm 0 22 = Mm 0 22 := by rw [hPm, up_nei (by omega)]
  have e35 : Pm 35 = Mm 35 := by rw [hPm, up_ne1 (by omega)]
  obtain ⟨Qc, Qm, p1, p2, p3, p4⟩ := NXT.of hm.2.2.1
  have hq := hm.nxt p3
  obtain ⟨a1, a2, a3, a4, a5⟩ := p3.wM
  have tq : (Qc 1 2).toNat = u := by rw [a1 1 (by omega), g2]; rfl
  have sq : Qm 35 7 = S := by rw [a2 35 (by omega), e35, eS]
  have w0 : ∀ n m : Nat, 32 * (u + 1) + 1 ≤ n → n ≤ 32 * (u + 1) + 4 → 36 ≤ m → m ≤ 39 → WRT u n m S 8 8 (hv Qm) := fun n m b1 b2 b3 b4 => .inl ⟨by rw [hv35]; exact sq.symm, by omega, b1, b2, b3, b4, rfl, rfl⟩
  have fc0 : fcL u Mc Qc := p3.1.fcL
  have fm0 : fmL Mm Qm := fm1.trans p3.2.1.fmL
  have pre : ∀ r Mc' Mm', GB u L Qc Qm r Mc' Mm' → GB u L Mc Mm r Mc' Mm' := by
    intro r Mc' Mm' z
    rcases z with ⟨z1, z2, z3, z4, z5, z6⟩ | ⟨z1, z2⟩
    · exact .inl ⟨z1, z2, fc0.trans z3, fm0.trans z4, by rw [z5, a3, e20], by omega⟩
    · exact .inr ⟨z1, z2.pre fc0 fm0 (by rw [a3, e20]) (by omega)⟩
  unfold f_X4_readSoul f_X10_line_J70
  have tc : (Mc 1 2).toNat = u := by rw [g2]; rfl
  rw [q_gr_e, tc, q_gf_e, hsc, ← eS, w32_id (x := S) (by omega), w32_id (x := 8) (by omega), if_pos (by omega), p1, q_call_e, q_gr_e, tq]
  rw [q_gf_e, g5, if_pos (show w32 0 = 0 by decide), q_gf_e, q_pf_e, ← hPm, p2, q_call_e, if_pos (show w32 0 = 0 by decide), fresherM (by omega), q_calp_e, q_calp_e]
  rw [show (7 : Int) + 0 = 7 by rfl, sq]
  obtain ⟨r1, v1, C1, D1, s1, s2, s3⟩ := stepW (n := 32 * (u + 1) + 1) (m := 36) (k0 := 16) hq (w0 _ _ (by omega) (by omega) (by omega) (by omega)) (.inl ⟨rfl, rfl, rfl⟩)
  rw [s1, s2, q_call_e, q_call_e, q_as_ok (by omega)]
  rcases s3 with ⟨rfl, s4, s5⟩ | ⟨rfl, s4, s5⟩
  case inr =>
    have f1 := s4.up (n := 36) (i := 8 + S) (v := v1) (by omega)
    have f2 := f1.up (n := 37) (i := 8 + S) (v := 0) (by omega)
    have f3 := f2.up (n := 38) (i := 8 + S) (v := 0) (by omega)
    rw [if_pos (show w32 0 = 0 by decide), q_numeral f1, q_call_e, q_as_ok (by omega), q_numeral f2, q_call_e, q_as_ok (by omega), q_numeral f3, q_call_e, q_as_ok (by omega), fresherM (by omega), q_calp_e, readsM (by omega), q_call_e]
    exact ⟨0, C1, _, rfl, rfl, pre _ _ _ (.inr ⟨rfl, ((((s5.wr (by omega)).wr (by omega)).wr (by omega)).wr (by omega)).wr (by omega)⟩)⟩
  obtain ⟨q1, q2, q3, q4, q5, q6, q7, q8⟩ := id s5
  obtain ⟨r2, v2, C2, D2, t1, t2, t3⟩ := stepN (n := 32 * (u + 1) + 2) (m := 37) (lo := 0) (hi := 99) q1 (s5.wrt (w0 _ _ (by omega) (by omega) (by omega) (by omega)) (by omega)) (by omega)
  rw [if_neg (show ¬ w32 1 = 0 by decide), q_gr_e, q3 1 (by omega) (by omega), tq, t1, t2, q_call_e, q_call_e, q_as_ok (by omega)]
  rcases t3 with ⟨rfl, t4, t5⟩ | ⟨rfl, t4, t5⟩
  case inr =>
    have f2 := t4.up (n := 37) (i := 8 + S) (v := v2) (by omega)
    have f3 := f2.up (n := 38) (i := 8 + S) (v := 0) (by omega)
    rw [if_pos (show w32 0 = 0 by decide), q_numeral f2, q_call_e, q_as_ok (by omega), q_numeral f3, q_call_e, q_as_ok (by omega), fresherM (by omega), q_calp_e, readsM (by omega), q_call_e]
    refine ⟨0, C2, _, rfl, rfl, pre _ _ _ (.inr ⟨rfl, (((t5.wr (by omega)).wr (by omega)).wr (by omega)).wr (by omega) |>.pre q7 q8 ?_ ?_⟩)⟩
    · rw [up_ne1 (by omega), q5]
    · rw [up_ne1 (by omega)]; exact q6
  obtain ⟨i1, i2, i3, i4, i5, i6, i7, i8⟩ := id t5
  obtain ⟨r3, v3, C3, D3, x1, x2, x3⟩ := stepN (n := 32 * (u + 1) + 3) (m := 38) (lo := 0) (hi := 99) i1 (t5.wrt (s5.wrt (w0 _ _ (by omega) (by omega) (by omega) (by omega)) (by omega)) (by omega)) (by omega)
  rw [if_neg (show ¬ w32 1 = 0 by decide), q_gr_e, i3 1 (by omega) (by omega), q3 1 (by omega) (by omega), tq, x1, x2, q_call_e, q_call_e, q_as_ok (by omega)]
  rcases x3 with ⟨rfl, x4, x5⟩ | ⟨rfl, x4, x5⟩
  case inr =>
    have f3 := x4.up (n := 38) (i := 8 + S) (v := v3) (by omega)
    rw [if_pos (show w32 0 = 0 by decide), q_numeral f3, q_call_e, q_as_ok (by omega), fresherM (by omega), q_calp_e, readsM (by omega), q_call_e]
    refine ⟨0, C3, _, rfl, rfl, pre _ _ _ (.inr ⟨rfl, ((x5.wr (by omega)).wr (by omega)).wr (by omega) |>.pre (q7.trans i7) (q8.trans i8) ?_ ?_⟩)⟩
    · rw [up_ne1 (by omega), i5, up_ne1 (by omega), q5]
    · rw [up_ne1 (by omega)]; rw [up_ne1 (by omega)] at i6; omega
  obtain ⟨j1, j2, j3, j4, j5, j6, j7, j8⟩ := id x5
  obtain ⟨r4, v4, C4, D4, y1, y2, y3⟩ := stepN (n := 32 * (u + 1) + 4) (m := 39) (lo := 0) (hi := 99) j1 (x5.wrt (t5.wrt (s5.wrt (w0 _ _ (by omega) (by omega) (by omega) (by omega)) (by omega)) (by omega)) (by omega)) (by omega)
  rw [if_neg (show ¬ w32 1 = 0 by decide), q_gr_e, j3 1 (by omega) (by omega), i3 1 (by omega) (by omega), q3 1 (by omega) (by omega), tq, y1, y2, q_call_e, q_call_e, q_as_ok (by omega), fresherM (by omega), q_calp_e, readsM (by omega), q_call_e]
  rcases y3 with ⟨rfl, y4, y5⟩ | ⟨rfl, y4, y5⟩
  case inr =>
    rw [if_neg (show ¬ ¬ w32 0 = 0 by decide)]
    refine ⟨0, C4, _, rfl, rfl, pre _ _ _ (.inr ⟨rfl, (y5.wr (by omega)).wr (by omega) |>.pre ((q7.trans i7).trans j7) ((q8.trans i8).trans j8) ?_ ?_⟩)⟩
    · rw [up_ne1 (by omega), j5, up_ne1 (by omega), i5, up_ne1 (by omega), q5]
    · rw [up_ne1 (by omega)]; rw [up_ne1 (by omega)] at i6 j6; omega
  obtain ⟨k1, k2, k3, k4, k5, k6, k7, k8⟩ := id y5
  have z35 : D4 35 = Qm 35 := by rw [k4 35 (by omega), up_ne1 (by omega), j4 35 (by omega), up_ne1 (by omega), i4 35 (by omega), up_ne1 (by omega), q4 35 (by omega)]
  rw [if_pos (show ¬ w32 1 = 0 by decide), q_gr_e, k3 1 (by omega) (by omega), j3 1 (by omega) (by omega), i3 1 (by omega) (by omega), q3 1 (by omega) (by omega), tq, q_gf_e, k3 u (by omega) (by omega), j3 u (by omega) (by omega), i3 u (by omega) (by omega), q3 u (by omega) (by omega), a1 u (by omega), hsc, q_pf_e]
  have eD : (up D4 39 (8 + S) v4) 35 (7 + 0) = S := by rw [up_ne1 (by omega), z35]; exact sq
  rw [eD, ← eS]
  refine ⟨1, _, _, rfl, rfl, pre _ _ _ (.inl ⟨rfl, ?_, ?_, ?_, ?_, ?_⟩)⟩
  · have eD' : (up D4 39 (8 + S) v4) 35 7 = S := eD
    have r0 := k1.soul (by rw [eD']; omega)
    rw [eD'] at r0
    refine r0 ?_ ?_ ?_ ?_
    · rw [k3 _ (by omega) (by omega), j3 _ (by omega) (by omega), i3 _ (by omega) (by omega), q2, up_ne1 (by omega), k4 36 (by omega), up_ne1 (by omega), j4 36 (by omega), up_ne1 (by omega), i4 36 (by omega), up_same]
      exact ⟨rfl, s4⟩
    · rw [k3 _ (by omega) (by omega), j3 _ (by omega) (by omega), i2, up_ne1 (by omega), k4 37 (by omega), up_ne1 (by omega), j4 37 (by omega), up_same]
      exact ⟨rfl, t4⟩
    · rw [k3 _ (by omega) (by omega), j2, up_ne1 (by omega), k4 38 (by omega), up_same]
      exact ⟨rfl, x4⟩
    · rw [k2, up_same]
      exact ⟨rfl, y4⟩
  · exact (((q7.trans i7).trans j7).trans k7).trans (fun n i a b c d e f g k => up_ne (by omega))
  · exact (((q8.trans i8).trans j8).trans k8).trans (fun n i a b c d e f g => up_ne (by omega))
  · rw [up_ne1 (by omega), up_ne1 (by omega), k5, up_ne1 (by omega), j5, up_ne1 (by omega), i5, up_ne1 (by omega), q5]
  · rw [up_ne1 (by omega), up_ne1 (by omega)]
    rw [up_ne1 (by omega)] at i6 j6 k6
    omega
