/-! lines: the line of lets -/
theorem GB.pre {u : Nat} {L r : Int} {Mc Mm Qc Qm Mc' Mm' : Mem} (z : GB u L Qc Qm r Mc' Mm') (fc0 : fcL u Mc Qc) (fm0 : fmL Mm Qm) (e20 : Qm 0 20 = Mm 0 20) (e22 : Mm 0 22 ≤ Qm 0 22) : GB u L Mc Mm r Mc' Mm' := by
  rcases z with ⟨z1, z2, z3, z4, z5, z6⟩ | ⟨z1, z2⟩
  · exact .inl ⟨z1, z2, fc0.trans z3, fm0.trans z4, by rw [z5, e20], by omega⟩
  · exact .inr ⟨z1, z2.pre fc0 fm0 e20 e22⟩
theorem LWfl {u : Nat} {L f : Int} {Mc Mm : Mem} (h : RD u L Mc Mm) (hf : 1 ≤ f ∧ f ≤ 5) : LW u L Mc Mm 0 (up (up Mc 1 4 f) 1 5 (Mm 0 23)) (flt f Mm) := LW.flt h.2.2.2.1 (flt_fq hf)
set_option maxHeartbeats 1600000 in
theorem letsW {u : Nat} {L : Int} {Mc Mm : Mem} (h : RD u L Mc Mm) (hS : Mm 35 9 < 8) : ∃ r Mc1 Mm1, f_X4_readLets Mc = some (r, Mc1) ∧ f_X10_line_J70 2 Mm = f_X10_line_J367 Mm1 ∧ GB u L Mc Mm r Mc1 Mm1 := by
  have hh := h
  obtain ⟨g1, g2, g3, g4, g5, g6, g7, g8, g9, g10⟩ := h
  have u10 : u ≠ 10 ∧ u ≠ 32 ∧ u ≠ 352 := by omega
  have u5 : 32 * (u + 1) + 5 ≠ 10 ∧ 32 * (u + 1) + 5 ≠ 32 ∧ 32 * (u + 1) + 5 ≠ 352 := by omega
  have hn0 : 0 ≤ Mm 35 9 := g6.2.2.2.2.2.2.2.2.1.1
  obtain ⟨n, en⟩ : ∃ n, n = Mm 35 9 := ⟨_, rfl⟩
  have hm := hh.mark0 (x := 2) (by omega)
  obtain ⟨Pm, hPm⟩ : ∃ P, P = up Mm 0 19 (q_or (Mm 0 19) (q_shl 1 2)) := ⟨_, rfl⟩
  rw [← hPm] at hm
  have fm1 : fmL Mm Pm := fun n i a b c d e f g => by rw [hPm, up_ne (by omega)]
  have e20 : Pm 0 20 = Mm 0 20 := by rw [hPm, up_nei (by omega)]
  have e22 : Pm 0 22 = Mm 0 22 := by rw [hPm, up_nei (by omega)]
  have e35 : Pm 35 = Mm 35 := by rw [hPm, up_ne1 (by omega)]
  obtain ⟨Qc, Qm, p1, p2, p3, p4⟩ := NXT.of hm.2.2.1
  have hq := hm.nxt p3
  obtain ⟨a1, a2, a3, a4, a5⟩ := p3.wM
  have s8 : Qm 35 7 ≤ 8 := hq.2.2.2.2.2.1.2.1.2.2
  have tc : (Mc 1 2).toNat = u := by rw [g2]; rfl
  have tq : (Qc 1 2).toNat = u := by rw [a1 1 (by omega), g2]; rfl
  have nq : Qm 35 9 = n := by rw [a2 35 (by omega), e35, en]
  have fc0 : fcL u Mc Qc := p3.1.fcL
  have fm0 : fmL Mm Qm := fm1.trans p3.2.1.fmL
  have pre : ∀ r Mc' Mm', GB u L Qc Qm r Mc' Mm' → GB u L Mc Mm r Mc' Mm' := fun r Mc' Mm' z => z.pre fc0 fm0 (by rw [a3, e20]) (by omega)
  unfold f_X4_readLets f_X10_line_J70
  rw [q_gr_e, tc, q_gf_e, g7, ← en, w32_id (x := n) (by omega), w32_id (x := 8) (by omega), if_pos (by omega), p1, q_call_e, q_gr_e, q_gr_e, tq, q_gf_e, q_gf_e]
  rw [q_gf_e, g5, if_pos (show w32 0 = 0 by decide), q_gf_e, q_pf_e, ← hPm, p2, q_call_e, if_neg (show ¬ w32 2 = 0 by decide), if_neg (show ¬ w32 2 = 1 by decide), if_pos (show w32 2 = 2 by decide)]
  unfold f_X10_letsLine
  rw [fresherM (by omega), q_calp_e, show (7 : Int) + 2 = 9 by rfl, nq]
  obtain ⟨x, w1, w2, w3, w4, w5⟩ := handW hq
  obtain ⟨t1, t2, t3, t4⟩ := hq.2.2.2.1.2.2.num
  rw [w1, q_calp_e, q_gf_e, w32_id (x := Qc 10 4) (by omega), w32_id (x := 20) (by omega), w32_id (x := x) (by omega), w32_id (x := -1) (by omega)]
  -- a fault at the first name
  have bad1 : ∀ f : Int, (1 ≤ f ∧ f ≤ 5) → f_X10_soulAtHand Qm = some (0, flt f Qm) → ∃ Mm1, (q_call (q_call (f_X10_soulAtHand Qm) fun r2 M3 => q_as M3 45 16 (8 + n) r2 fun M4 => q_call (f_X10_goOn M4) fun r5 M6 => q_call (f_X10_soulAtHand M6) fun r7 M8 => q_as M8 46 16 (8 + n) r7 fun M9 => f_X10_letsLine_L36 (8 + n) q_N 8 M9) fun r43 M44 => f_X10_line_J367 M44) = f_X10_line_J367 Mm1 ∧ GB u L Mc Mm 0 (up (up Qc 1 4 f) 1 5 (Qm 0 23)) Mm1 := by
    intro f hf e
    have q1 := (flt_FQa hf Qm).up (n := 45) (i := 8 + n) (v := 0) (by omega)
    have q2 := q1.up (n := 46) (i := 8 + n) (v := 0) (by omega)
    rw [e, q_call_e, q_as_ok (by omega), q_goOn q1, q_call_e, q_hand q1, q_call_e, q_as_ok (by omega), lets_lq (by omega) q2, q_call_e]
    exact ⟨_, rfl, pre _ _ _ (.inr ⟨rfl, (((LWfl hq hf).wr (by omega)).wr (by omega)).wr (by omega)⟩)⟩
  by_cases c1 : Qc 10 4 = 20
  case neg =>
    obtain ⟨Mm1, b1, b2⟩ := bad1 1 (by omega) (w3 c1)
    unfold f_X4_readLets_J67 f_X4_readLets_J85
    rw [if_pos c1, q_gf_e, w32_id (x := Qc 10 4) (by omega), w32_id (x := 20) (by omega), if_neg c1, refuseC hq.2.2.2.1, q_call_e, q_bit_e (.inl rfl), b1]
    exact ⟨0, _, Mm1, rfl, rfl, b2⟩
  rw [if_neg (fun z => z c1)]
  by_cases c2 : x = -1
  case pos =>
    obtain ⟨Mm1, b1, b2⟩ := bad1 4 (by omega) (w4 c1 c2)
    unfold f_X4_readLets_J67 f_X4_readLets_J85
    rw [if_neg (fun z => z c2), q_gf_e, w32_id (x := Qc 10 4) (by omega), w32_id (x := 20) (by omega), if_pos c1, refuseC hq.2.2.2.1, q_call_e, q_bit_e (.inl rfl), b1]
    exact ⟨0, _, Mm1, rfl, rfl, b2⟩
  rw [if_pos c2, w5 c1 c2, q_call_e, q_as_ok (by omega)]
  -- the second name
  have hr : RD u L Qc (up Qm 45 (8 + n) x) := by rw [← nq]; exact hq.wl (.inl rfl)
  obtain ⟨Rc, Rm, i1, i2, i3, i4⟩ := NXT.of hr.2.2.1
  have hr2 := hr.nxt i3
  obtain ⟨d1, d2, d3, d4, d5⟩ := i3.wM
  rw [up_ne1 (by omega)] at d3 d4 d5
  have go : f_X10_goOn (up Qm 45 (8 + n) x) = some (0, Rm) := by
    unfold f_X10_goOn
    rw [q_gf_e, hr.2.2.2.2.1, if_neg (show ¬ ¬ w32 0 = 0 by decide), i2, q_call_e]
  have tr : (Rc 1 2).toNat = u := by rw [d1 1 (by omega)]; exact tq
  have nr : Rm 35 9 = n := by rw [d2 35 (by omega), up_ne1 (by omega), nq]
  have xr : Rm 45 (8 + n) = x := by rw [d2 45 (by omega), up_same]
  have sr : Rm 35 7 = Qm 35 7 := by rw [d2 35 (by omega), up_ne1 (by omega)]
  have pre2 : ∀ r Mc' Mm', GB u L Rc Rm r Mc' Mm' → GB u L Mc Mm r Mc' Mm' := fun r Mc' Mm' z => pre _ _ _ (z.pre i3.1.fcL (fmL.trans (fun n i a b c d e f g => up_ne (by omega)) i3.2.1.fmL) d3 d5)
  rw [i1, q_call_e, q_gr_e, q_gr_e, tr, q_gf_e, q_gf_e, go, q_call_e]
  obtain ⟨y, y1, y2, y3, y4, y5⟩ := handW hr2
  obtain ⟨s1, s2, s3, s4⟩ := hr2.2.2.2.1.2.2.num
  rw [y1, q_calp_e, q_gf_e, w32_id (x := Rc 10 4) (by omega), w32_id (x := y) (by omega)]
  have bad2 : ∀ f : Int, (1 ≤ f ∧ f ≤ 5) → f_X10_soulAtHand Rm = some (0, flt f Rm) → ∃ Mm1, (q_call (q_call (f_X10_soulAtHand Rm) fun r7 M8 => q_as M8 46 16 (8 + n) r7 fun M9 => f_X10_letsLine_L36 (8 + n) q_N 8 M9) fun r43 M44 => f_X10_line_J367 M44) = f_X10_line_J367 Mm1 ∧ GB u L Mc Mm 0 (up (up Rc 1 4 f) 1 5 (Rm 0 23)) Mm1 := by
    intro f hf e
    have q1 := (flt_FQa hf Rm).up (n := 46) (i := 8 + n) (v := 0) (by omega)
    rw [e, q_call_e, q_as_ok (by omega), lets_lq (by omega) q1, q_call_e]
    exact ⟨_, rfl, pre2 _ _ _ (.inr ⟨rfl, ((LWfl hr2 hf).wr (by omega)).wr (by omega)⟩)⟩
  by_cases c3 : Rc 10 4 = 20
  case neg =>
    obtain ⟨Mm1, b1, b2⟩ := bad2 1 (by omega) (y3 c3)
    unfold f_X4_readLets_J138 f_X4_readLets_J156
    rw [if_pos c3, q_gf_e, w32_id (x := Rc 10 4) (by omega), w32_id (x := 20) (by omega), if_neg c3, refuseC hr2.2.2.2.1, q_call_e, q_bit_e (.inl rfl), b1]
    exact ⟨0, _, Mm1, rfl, rfl, b2⟩
  rw [if_neg (fun z => z c3)]
  by_cases c4 : y = -1
  case pos =>
    obtain ⟨Mm1, b1, b2⟩ := bad2 4 (by omega) (y4 c3 c4)
    unfold f_X4_readLets_J138 f_X4_readLets_J156
    rw [if_neg (fun z => z c4), q_gf_e, w32_id (x := Rc 10 4) (by omega), w32_id (x := 20) (by omega), if_pos c3, refuseC hr2.2.2.2.1, q_call_e, q_bit_e (.inl rfl), b1]
    exact ⟨0, _, Mm1, rfl, rfl, b2⟩
  rw [if_pos c4, y5 c3 c4, q_call_e, q_as_ok (by omega), q_gr_e, tr]
  obtain ⟨Sm, hSm⟩ : ∃ P, P = up Rm 46 (8 + n) y := ⟨_, rfl⟩
  rw [← hSm]
  have hs : RD u L Rc Sm := by rw [hSm, ← nr]; exact hr2.wl (.inr rfl)
  have z0 : Sm 0 = Rm 0 := by rw [hSm, up_ne1 (by omega)]
  have z35 : Sm 35 = Rm 35 := by rw [hSm, up_ne1 (by omega)]
  have xs : Sm 45 (8 + n) = x := by rw [hSm, up_ne1 (by omega), xr]
  have ys : Sm 46 (8 + n) = y := by rw [hSm, up_same]
  have ns : Sm 35 9 = n := by rw [z35, nr]
  have ss : Sm 35 7 = Qm 35 7 := by rw [z35, sr]
  have pre3 : ∀ r Mc' Mm', GB u L Rc Sm r Mc' Mm' → GB u L Mc Mm r Mc' Mm' := fun r Mc' Mm' z => pre2 _ _ _ (z.pre (fcL.refl _ _) (fun n i a b c d e f g => by rw [hSm]; exact up_ne (by omega)) (by rw [z0]) (by rw [z0]; omega))
  have k9 := hs.2.2.2.2.2.1.2.2.2.2.2.2.2.2.1
  have k8 := hs.2.2.2.2.2.1.2.2.2.2.2.2.2.1
  rw [show hv Sm 35 2 = n from ns, show hv Sm 35 0 = Qm 35 7 from ss] at k9 k8
  have hb : ∀ j, 0 ≤ j → j ≤ n → in32 (Sm 45 (8 + j)) ∧ in32 (Sm 46 (8 + j)) := by
    intro j a b
    by_cases cj : j = n
    · rw [cj, xs, ys]; unfold in32; omega
    · have := k9.2.2 j a (by omega)
      have e1 : hv Sm 45 j = Sm 45 (8 + j) := rfl
      have e2 : hv Sm 46 j = Sm 46 (8 + j) := rfl
      rw [e1, e2] at this
      unfold in32; omega
  have hd : w32 (q_and (Rc (32 * (u + 1) + 5) x) (q_shl 1 y)) = 0 ↔ ¬ DUP n Sm n := by
    rw [(k8 x (by omega) (by omega)).2.2.2.2, orT_and]
    constructor
    · rintro q ⟨j, a, b, e1, e2⟩
      have := q j a (by omega)
      rw [xs] at e1
      rw [ys] at e2
      rw [if_pos (show hv Sm 45 j = x from e1), show hv Sm 46 j = y from e2, and1 (by omega), Bt_shl (by omega) (by omega)] at this
      simp at this
    · intro q j a b
      by_cases e1 : hv Sm 45 j = x
      · have hj := k9.2.2 j a (by omega)
        rw [if_pos e1, and1 (by omega), Bt_shl (by omega) (by omega), decide_eq_false_iff_not]
        intro e2
        exact q ⟨j, a, by omega, by rw [xs]; exact e1, by rw [ys]; exact e2⟩
      · rw [if_neg e1, and1 (by omega), Bt_0]
  rw [q_al_ok (by omega)]
  have bad3 : ∀ f : Int, (1 ≤ f ∧ f ≤ 5) → ((DUP n Sm n ∧ flt f Sm = flt 3 Sm) ∨ (¬ DUP n Sm n ∧ Sm 45 (8 + n) ≠ Sm 46 (8 + n) ∧ flt f Sm = Sm) ∨ (¬ DUP n Sm n ∧ Sm 45 (8 + n) = Sm 46 (8 + n) ∧ flt f Sm = flt 5 Sm)) → ∃ Mm1, (q_call (f_X10_letsLine_L36 (8 + n) q_N 8 Sm) fun r43 M44 => f_X10_line_J367 M44) = f_X10_line_J367 Mm1 ∧ GB u L Mc Mm 0 (up (up Rc 1 4 f) 1 5 (Sm 0 23)) Mm1 := by
    intro f hf e
    rw [lets_l (by omega) hs.2.2.2.2.1 hb e (lets_q (flt_FQa hf Sm)), q_call_e]
    exact ⟨_, rfl, pre3 _ _ _ (.inr ⟨rfl, (LWfl hs hf).wr (by omega)⟩)⟩
  by_cases c5 : DUP n Sm n
  · obtain ⟨Mm1, b1, b2⟩ := bad3 3 (by omega) (.inl ⟨c5, rfl⟩)
    rw [if_neg (fun z => hd.mp z c5), refuseC hs.2.2.2.1, q_call_e, q_bit_e (.inl rfl), b1]
    exact ⟨0, _, Mm1, rfl, rfl, b2⟩
  rw [if_pos (hd.mpr c5)]
  by_cases c6 : x = y
  · obtain ⟨Mm1, b1, b2⟩ := bad3 5 (by omega) (.inr (.inr ⟨c5, by rw [xs, ys, c6], rfl⟩))
    rw [if_neg (fun z => z c6), refuseC hs.2.2.2.1, q_call_e, q_bit_e (.inl rfl), b1]
    exact ⟨0, _, Mm1, rfl, rfl, b2⟩
  have hf := hs.lets (x := x) (y := y) (by rw [ns]; omega) (by omega) (by omega) (by rw [ns]; exact xs) (by rw [ns]; exact ys)
  rw [ns] at hf
  obtain ⟨Tc, hTc⟩ : ∃ P, P = up (up Rc (32 * (u + 1) + 5) x (q_or (Rc (32 * (u + 1) + 5) x) (q_shl 1 y))) u 6 (n + 1) := ⟨_, rfl⟩
  have htb : TB L Tc Sm := by
    rw [hTc]
    have q1 : TB L (up Rc (32 * (u + 1) + 5) x (q_or (Rc (32 * (u + 1) + 5) x) (q_shl 1 y))) Sm := TB.up hs.2.2.1 u5
    exact TB.up q1 u10
  obtain ⟨Uc, Um, o1, o2, o3, o4⟩ := NXT.of htb
  rw [← hTc] at hf
  have hu := hf.nxt (o3.upM (n := 35) (i := 9) (v := n + 1) (by omega))
  obtain ⟨v1, v2, v3, v4, v5⟩ := o3.wM
  have hJ : f_X10_letsLine_J116 Sm = some (0, up Um 35 9 (n + 1)) := by
    unfold f_X10_letsLine_J116 f_X10_goOn
    rw [q_gf_e, hs.2.2.2.2.1, if_neg (show ¬ ¬ w32 0 = 0 by decide), o2, q_call_e, q_call_e, fresherM (by omega), q_calp_e, readsM (by omega), q_call_e, show (7 : Int) + 2 = 9 by rfl, v2 35 (by omega), ns]
  rw [lets_l (X := Sm) (by omega) hs.2.2.2.2.1 hb (.inr (.inl ⟨c5, by rw [xs, ys]; exact c6, rfl⟩)) hJ, q_call_e]
  have r6 : Rc u 6 = n := by rw [hs.2.2.2.2.2.2.1, ns]
  rw [if_pos c6, q_gr_e, tr, q_al_ok (by omega), q_as_ok (by omega), q_gr_e, up_ne1 (by omega), tr, q_gf_e, up_ne1 (by omega), r6, q_pf_e, ← hTc, o1, q_call_e]
  refine ⟨1, Uc, _, rfl, rfl, pre3 _ _ _ (.inl ⟨rfl, hu, ?_, ?_, ?_, ?_⟩)⟩
  · refine fcL.trans ?_ o3.1.fcL
    intro n i a b c d e f g k
    rw [hTc, up_ne (by omega), up_ne (by omega)]
  · exact o3.2.1.fmL.trans (fun n i a b c d e f g => up_ne (by omega))
  · rw [up_ne1 (by omega), v3]
  · rw [up_ne1 (by omega)]; exact v5
