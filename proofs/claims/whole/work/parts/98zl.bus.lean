/-! lines: the bus line -/
theorem busW {u : Nat} {L : Int} {Mc Mm : Mem} (h : RD u L Mc Mm) (hS : Mm 35 8 < 4) : ∃ r Mc1 Mm1, f_X4_readBus Mc = some (r, Mc1) ∧ f_X10_line_J70 1 Mm = f_X10_line_J367 Mm1 ∧ GB u L Mc Mm r Mc1 Mm1 := by
  have hh := h
  obtain ⟨g1, g2, g3, g4, g5, g6, g7, g8, g9, g10⟩ := h
  have hs0 : 0 ≤ Mm 35 8 := g6.2.2.1.2.1
  have hsc : Mc u 7 = Mm 35 8 := g6.2.2.1.1
  obtain ⟨S, eS⟩ : ∃ S, S = Mm 35 8 := ⟨_, rfl⟩
  have hm := hh.mark0 (x := 1) (by omega)
  obtain ⟨Pm, hPm⟩ : ∃ P, P = up Mm 0 19 (q_or (Mm 0 19) (q_shl 1 1)) := ⟨_, rfl⟩
  rw [← hPm] at hm
  have fm1 : fmL Mm Pm := fun n i a b c d e f g => by rw [hPm, up_ne (by omega)]
  have e20 : Pm 0 20 = Mm 0 20 := by rw [hPm, up_nei (by omega)]
  have e22 : Pm 0 22 = Mm 0 22 := by rw [hPm, up_nei (by omega)]
  have e35 : Pm 35 = Mm 35 := by rw [hPm, up_ne1 (by omega)]
  obtain ⟨Qc, Qm, p1, p2, p3, p4⟩ := NXT.of hm.2.2.1
  have hq := hm.nxt p3
  obtain ⟨a1, a2, a3, a4, a5⟩ := p3.wM
  have tq : (Qc 1 2).toNat = u := by rw [a1 1 (by omega), g2]; rfl
  have sq : Qm 35 8 = S := by rw [a2 35 (by omega), e35, eS]
  have w0 : ∀ n m : Nat, 32 * (u + 1) + 8 ≤ n → n ≤ 32 * (u + 1) + 12 → 40 ≤ m → m ≤ 44 → WRT u n m S 4 4 (hv Qm) := fun n m b1 b2 b3 b4 => .inr ⟨by rw [hv35]; exact sq.symm, by omega, b1, b2, b3, b4, rfl, rfl⟩
  have fc0 : fcL u Mc Qc := p3.1.fcL
  have fm0 : fmL Mm Qm := fm1.trans p3.2.1.fmL
  have pre : ∀ r Mc' Mm', GB u L Qc Qm r Mc' Mm' → GB u L Mc Mm r Mc' Mm' := by
    intro r Mc' Mm' z
    rcases z with ⟨z1, z2, z3, z4, z5, z6⟩ | ⟨z1, z2⟩
    · exact .inl ⟨z1, z2, fc0.trans z3, fm0.trans z4, by rw [z5, a3, e20], by omega⟩
    · exact .inr ⟨z1, z2.pre fc0 fm0 (by rw [a3, e20]) (by omega)⟩
  unfold f_X4_readBus f_X10_line_J70
  have tc : (Mc 1 2).toNat = u := by rw [g2]; rfl
  rw [q_gr_e, tc, q_gf_e, hsc, ← eS, w32_id (x := S) (by omega), w32_id (x := 4) (by omega), if_pos (by omega), p1, q_call_e, q_gr_e, tq]
  rw [q_gf_e, g5, if_pos (show w32 0 = 0 by decide), q_gf_e, q_pf_e, ← hPm, p2, q_call_e, if_neg (show ¬ w32 1 = 0 by decide), if_pos (show w32 1 = 1 by decide), fresherM (by omega), q_calp_e, q_calp_e]
  rw [show (7 : Int) + 1 = 8 by rfl, sq]
  obtain ⟨r1, v1, C1, D1, s11, s12, s13⟩ := stepW (n := 32 * (u + 1) + 8) (m := 40) (k0 := 8) hq (w0 _ _ (by omega) (by omega) (by omega) (by omega)) (.inr ⟨rfl, rfl, rfl⟩)
  rw [s11, s12, q_call_e, q_call_e, q_as_ok (by omega)]
  rcases s13 with ⟨rfl, s14, s15⟩ | ⟨rfl, s14, s15⟩
  case inr =>
    have f1 := s14.up (n := 40) (i := 4 + S) (v := v1) (by omega)
    have f2 := f1.up (n := 41) (i := 4 + S) (v := 0) (by omega)
    have f3 := f2.up (n := 42) (i := 4 + S) (v := 1) (by omega)
    have f4 := f3.up (n := 43) (i := 4 + S) (v := 1) (by omega)
    rw [if_pos (show w32 0 = 0 by decide), q_numeral f1, q_call_e, q_as_ok (by omega), q_numeral f2, q_call_e, q_as_ok (by omega), q_numeral f3, q_call_e, q_as_ok (by omega), q_numeral f4, q_call_e, q_as_ok (by omega), fresherM (by omega), q_calp_e, readsM (by omega), q_call_e]
    exact ⟨0, C1, _, rfl, rfl, pre _ _ _ (.inr ⟨rfl, ((((((s15.wr (by omega)).wr (by omega)).wr (by omega)).wr (by omega)).wr (by omega)).wr (by omega))⟩)⟩
  obtain ⟨c1a, c1b, c1c, c1d, c1e, c1f, c1g, c1h⟩ := id s15
  obtain ⟨r2, v2, C2, D2, s21, s22, s23⟩ := stepN (n := 32 * (u + 1) + 9) (m := 41) (lo := 0) (hi := 99) c1a (s15.wrt (w0 _ _ (by omega) (by omega) (by omega) (by omega)) (by omega)) (by omega)
  rw [if_neg (show ¬ w32 1 = 0 by decide), q_gr_e, c1c 1 (by omega) (by omega), tq, s21, s22, q_call_e, q_call_e, q_as_ok (by omega)]
  rcases s23 with ⟨rfl, s24, s25⟩ | ⟨rfl, s24, s25⟩
  case inr =>
    have f2 := s24.up (n := 41) (i := 4 + S) (v := v2) (by omega)
    have f3 := f2.up (n := 42) (i := 4 + S) (v := 1) (by omega)
    have f4 := f3.up (n := 43) (i := 4 + S) (v := 1) (by omega)
    rw [if_pos (show w32 0 = 0 by decide), q_numeral f2, q_call_e, q_as_ok (by omega), q_numeral f3, q_call_e, q_as_ok (by omega), q_numeral f4, q_call_e, q_as_ok (by omega), fresherM (by omega), q_calp_e, readsM (by omega), q_call_e]
    refine ⟨0, C2, _, rfl, rfl, pre _ _ _ (.inr ⟨rfl, (((((s25.wr (by omega)).wr (by omega)).wr (by omega)).wr (by omega)).wr (by omega)).pre c1g c1h ?_ ?_⟩)⟩
    · rw [up_ne1 (by omega), c1e]
    · rw [up_ne1 (by omega)]; omega
  obtain ⟨c2a, c2b, c2c, c2d, c2e, c2f, c2g, c2h⟩ := id s25
  obtain ⟨r3, v3, C3, D3, s31, s32, s33⟩ := stepN (n := 32 * (u + 1) + 10) (m := 42) (lo := 1) (hi := 30) c2a (s25.wrt (s15.wrt (w0 _ _ (by omega) (by omega) (by omega) (by omega)) (by omega)) (by omega)) (by omega)
  rw [if_neg (show ¬ w32 1 = 0 by decide), q_gr_e, c2c 1 (by omega) (by omega), c1c 1 (by omega) (by omega), tq, s31, s32, q_call_e, q_call_e, q_as_ok (by omega)]
  rcases s33 with ⟨rfl, s34, s35⟩ | ⟨rfl, s34, s35⟩
  case inr =>
    have f3 := s34.up (n := 42) (i := 4 + S) (v := v3) (by omega)
    have f4 := f3.up (n := 43) (i := 4 + S) (v := 1) (by omega)
    rw [if_pos (show w32 0 = 0 by decide), q_numeral f3, q_call_e, q_as_ok (by omega), q_numeral f4, q_call_e, q_as_ok (by omega), fresherM (by omega), q_calp_e, readsM (by omega), q_call_e]
    refine ⟨0, C3, _, rfl, rfl, pre _ _ _ (.inr ⟨rfl, ((((s35.wr (by omega)).wr (by omega)).wr (by omega)).wr (by omega)).pre (c1g.trans c2g) (c1h.trans c2h) ?_ ?_⟩)⟩
    · rw [up_ne1 (by omega), c2e, up_ne1 (by omega), c1e]
    · rw [up_ne1 (by omega)]; rw [up_ne1 (by omega)] at c2f; omega
  obtain ⟨c3a, c3b, c3c, c3d, c3e, c3f, c3g, c3h⟩ := id s35
  obtain ⟨r4, v4, C4, D4, s41, s42, s43⟩ := stepN (n := 32 * (u + 1) + 11) (m := 43) (lo := 1) (hi := 8) c3a (s35.wrt (s25.wrt (s15.wrt (w0 _ _ (by omega) (by omega) (by omega) (by omega)) (by omega)) (by omega)) (by omega)) (by omega)
  rw [if_neg (show ¬ w32 1 = 0 by decide), q_gr_e, c3c 1 (by omega) (by omega), c2c 1 (by omega) (by omega), c1c 1 (by omega) (by omega), tq, s41, s42, q_call_e, q_call_e, q_as_ok (by omega)]
  rcases s43 with ⟨rfl, s44, s45⟩ | ⟨rfl, s44, s45⟩
  case inr =>
    have f4 := s44.up (n := 43) (i := 4 + S) (v := v4) (by omega)
    rw [if_pos (show w32 0 = 0 by decide), q_numeral f4, q_call_e, q_as_ok (by omega), fresherM (by omega), q_calp_e, readsM (by omega), q_call_e]
    refine ⟨0, C4, _, rfl, rfl, pre _ _ _ (.inr ⟨rfl, (((s45.wr (by omega)).wr (by omega)).wr (by omega)).pre ((c1g.trans c2g).trans c3g) ((c1h.trans c2h).trans c3h) ?_ ?_⟩)⟩
    · rw [up_ne1 (by omega), c3e, up_ne1 (by omega), c2e, up_ne1 (by omega), c1e]
    · rw [up_ne1 (by omega)]; rw [up_ne1 (by omega)] at c2f c3f; omega
  obtain ⟨c4a, c4b, c4c, c4d, c4e, c4f, c4g, c4h⟩ := id s45
  obtain ⟨r5, v5, C5, D5, s51, s52, s53⟩ := stepN (n := 32 * (u + 1) + 12) (m := 44) (lo := 0) (hi := 99) c4a (s45.wrt (s35.wrt (s25.wrt (s15.wrt (w0 _ _ (by omega) (by omega) (by omega) (by omega)) (by omega)) (by omega)) (by omega)) (by omega)) (by omega)
  rw [if_neg (show ¬ w32 1 = 0 by decide), q_gr_e, c4c 1 (by omega) (by omega), c3c 1 (by omega) (by omega), c2c 1 (by omega) (by omega), c1c 1 (by omega) (by omega), tq, s51, s52, q_call_e, q_call_e, q_as_ok (by omega), fresherM (by omega), q_calp_e, readsM (by omega), q_call_e]
  rcases s53 with ⟨rfl, s54, s55⟩ | ⟨rfl, s54, s55⟩
  case inr =>
    rw [if_neg (show ¬ ¬ w32 0 = 0 by decide)]
    refine ⟨0, C5, _, rfl, rfl, pre _ _ _ (.inr ⟨rfl, ((s55.wr (by omega)).wr (by omega)).pre (((c1g.trans c2g).trans c3g).trans c4g) (((c1h.trans c2h).trans c3h).trans c4h) ?_ ?_⟩)⟩
    · rw [up_ne1 (by omega), c4e, up_ne1 (by omega), c3e, up_ne1 (by omega), c2e, up_ne1 (by omega), c1e]
    · rw [up_ne1 (by omega)]; rw [up_ne1 (by omega)] at c2f c3f c4f; omega
  obtain ⟨c5a, c5b, c5c, c5d, c5e, c5f, c5g, c5h⟩ := id s55
  have z35 : D5 35 = Qm 35 := by rw [c5d 35 (by omega), up_ne1 (by omega), c4d 35 (by omega), up_ne1 (by omega), c3d 35 (by omega), up_ne1 (by omega), c2d 35 (by omega), up_ne1 (by omega), c1d 35 (by omega)]
  rw [if_pos (show ¬ w32 1 = 0 by decide), q_gr_e, c5c 1 (by omega) (by omega), c4c 1 (by omega) (by omega), c3c 1 (by omega) (by omega), c2c 1 (by omega) (by omega), c1c 1 (by omega) (by omega), tq, q_gf_e, c5c u (by omega) (by omega), c4c u (by omega) (by omega), c3c u (by omega) (by omega), c2c u (by omega) (by omega), c1c u (by omega) (by omega), a1 u (by omega), hsc, q_pf_e]
  have eD : (up D5 44 (4 + S) v5) 35 (7 + 1) = S := by rw [up_ne1 (by omega), z35]; exact sq
  rw [eD, ← eS]
  refine ⟨1, _, _, rfl, rfl, pre _ _ _ (.inl ⟨rfl, ?_, ?_, ?_, ?_, ?_⟩)⟩
  · have eD' : (up D5 44 (4 + S) v5) 35 8 = S := eD
    have r0 := c5a.bus (by rw [eD']; omega)
    rw [eD'] at r0
    refine r0 ?_ ?_ ?_ ?_ ?_
    · rw [c5c _ (by omega) (by omega), c4c _ (by omega) (by omega), c3c _ (by omega) (by omega), c2c _ (by omega) (by omega), c1b, up_ne1 (by omega), c5d 40 (by omega), up_ne1 (by omega), c4d 40 (by omega), up_ne1 (by omega), c3d 40 (by omega), up_ne1 (by omega), c2d 40 (by omega), up_same]
      exact ⟨rfl, s14⟩
    · rw [c5c _ (by omega) (by omega), c4c _ (by omega) (by omega), c3c _ (by omega) (by omega), c2b, up_ne1 (by omega), c5d 41 (by omega), up_ne1 (by omega), c4d 41 (by omega), up_ne1 (by omega), c3d 41 (by omega), up_same]
      exact ⟨rfl, s24⟩
    · rw [c5c _ (by omega) (by omega), c4c _ (by omega) (by omega), c3b, up_ne1 (by omega), c5d 42 (by omega), up_ne1 (by omega), c4d 42 (by omega), up_same]
      exact ⟨rfl, s34⟩
    · rw [c5c _ (by omega) (by omega), c4b, up_ne1 (by omega), c5d 43 (by omega), up_same]
      exact ⟨rfl, s44⟩
    · rw [c5b, up_same]
      exact ⟨rfl, s54⟩
  · exact ((((c1g.trans c2g).trans c3g).trans c4g).trans c5g).trans (fun n i a b c d e f g k => up_ne (by omega))
  · exact ((((c1h.trans c2h).trans c3h).trans c4h).trans c5h).trans (fun n i a b c d e f g => up_ne (by omega))
  · rw [up_ne1 (by omega), up_ne1 (by omega), c5e, up_ne1 (by omega), c4e, up_ne1 (by omega), c3e, up_ne1 (by omega), c2e, up_ne1 (by omega), c1e]
  · rw [up_ne1 (by omega), up_ne1 (by omega)]
    rw [up_ne1 (by omega)] at c2f c3f c4f c5f
    omega
