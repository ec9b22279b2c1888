/-! the law: brackets -/
theorem openC {u : Nat} {L a s D i : Int} {Mc Mm : Mem} (h : VS u L a s D i Mc Mm) (ht : Mc 10 4 = 23) (hd : Mm 0 30 < 8) : f_X1_takeValue (u + 10) Mc = some (0, up (up (up (up (up Mc 11 3 (Mm 0 30 + 1)) 388 (Mm 0 30 + 1) 0) 11 6 1) 385 s 23) 11 2 (s + 1)) := by
  obtain ⟨hx, hlk, h5, h6⟩ := h
  obtain ⟨x0, x1, x2, x3, x4, x5, x6, x7, x8⟩ := id hx
  obtain ⟨b1, b2, b3, b4, b5, b6, b7, b8⟩ := hlk
  have e2 : (up (up (up Mc 11 3 (Mm 0 30 + 1)) 388 (Mm 0 30 + 1) 0) 11 6 1) 11 2 = s := by rw [up_nei (by omega), up_ne1 (by omega), up_nei (by omega)]; omega
  unfold f_X1_takeValue f_X1_takeOpen
  rw [q_gf_e, ht, if_neg (show ¬ ¬ w32 23 = w32 23 from fun z => z rfl), q_gf_e, x4.1, w32_id (x := Mm 0 30) (by omega), w32_id (x := 8) (by omega), if_pos hd, q_gf_e, x4.1, q_pf_e, q_gf_e, up_same, if_pos (.inl rfl), q_as_ok (by omega), q_pz_e (.inr rfl), pushC (by rw [e2]; omega), q_call_e, q_call_e, e2]
set_option maxHeartbeats 2000000 in
theorem primW {F : Mem → Res} {B : Int} (hF : EW F true 1 1 1 0 B) : EW (f_X10_primary_G F) false 7 7 7 1 (B + 7) := by
  intro u L a s D i Mc Mm h tl hp hB
  have hh := h
  have hst := stV h.1 h.2.2.2
  obtain ⟨hx, hlk, h5, h6⟩ := h
  obtain ⟨x0, x1, x2, x3, x4, x5, x6, x7, x8⟩ := id hx
  obtain ⟨t1, t2, t3, t4⟩ := x2.2.2.num
  unfold f_X10_primary_G
  rw [q_gf_e, x3, if_pos (show w32 0 = 0 by decide), isSignM (t := 23) (v := 40) x2 x3 (by decide), q_calp_e]
  by_cases c : Mc 10 4 = 23
  case neg =>
    rw [if_neg c, if_pos (show w32 0 = 0 by decide)]
    exact valueW hh c hp
  rw [if_pos c, if_neg (show ¬ w32 1 = 0 by decide), q_gf_e, w32_id (x := Mm 0 30) (by omega), w32_id (x := 8) (by omega)]
  by_cases c8 : Mm 0 30 = 8
  · have hq := flt_FQa (f := 2) (by omega) Mm
    unfold f_X10_primary_J31
    rw [if_neg (fun z => z c8), wrongF x3, q_call_e, q_gf_e, if_neg hq.w]
    refine ⟨_, rfl, .inr (FX.here hx (by omega) (Mc' := Mc) (fun n => ?_) rfl (feC.refl _))⟩
    rw [hst n]
    unfold f_X1_takeValue f_X1_takeOpen
    rw [q_gf_e, c, if_neg (show ¬ ¬ w32 23 = w32 23 from fun z => z rfl), q_gf_e, x4.1, w32_id (x := Mm 0 30) (by omega), w32_id (x := 8) (by omega), if_neg (by omega), q_call_e, q_call_e, j90_r (by omega)]
  have hC := openC hh c (by omega)
  obtain ⟨b1, b2, b3, b4, b5, b6, b7, b8⟩ := hlk
  have hnend : Mm 0 24 ≠ 4 := fun z => by have := x2.2.2.word.2.2.mpr z; omega
  obtain ⟨N, hN⟩ : ∃ N, N = up (up (up (up (up Mc 11 3 (Mm 0 30 + 1)) 388 (Mm 0 30 + 1) 0) 11 6 1) 385 s 23) 11 2 (s + 1) := ⟨_, rfl⟩
  rw [← hN] at hC
  obtain ⟨O, hO⟩ : ∃ O, O = up Mm 0 30 (Mm 0 30 + 1) := ⟨_, rfl⟩
  have o30 : O 0 30 = Mm 0 30 + 1 := by rw [hO, up_same]
  have o0 : ∀ j, j ≠ 30 → O 0 j = Mm 0 j := fun j hj => by rw [hO, up_nei hj]
  have oc : ∀ n, n ≠ 0 → O n = Mm n := fun n hn => by rw [hO, up_ne1 hn]
  have nc : ∀ n : Nat, n ≠ 11 → n ≠ 385 → n ≠ 388 → N n = Mc n := fun n p1 p2 p3 => by
    rw [hN, up_ne1 p1, up_ne1 p2, up_ne1 p1, up_ne1 p3, up_ne1 p1]
  have n2 : N 11 2 = s + 1 := by rw [hN, up_same]
  have n3 : N 11 3 = Mm 0 30 + 1 := by rw [hN, up_nei (by omega), up_ne1 (by omega), up_nei (by omega), up_ne1 (by omega), up_same]
  have n5 : N 11 5 = 1 := by rw [hN, up_nei (by omega), up_ne1 (by omega), up_nei (by omega), up_ne1 (by omega), up_nei (by omega), h6]
  have n6 : N 11 6 = 1 := by rw [hN, up_nei (by omega), up_ne1 (by omega), up_same]
  have n385 : ∀ j, N 385 j = if j = s then 23 else Mc 385 j := fun j => by
    rw [hN, up_ne1 (by omega)]
    split
    · next z => rw [z, up_same]
    · next z => rw [up_nei z, up_ne1 (by omega), up_ne1 (by omega), up_ne1 (by omega)]
  have n388 : ∀ j, N 388 j = if j = Mm 0 30 + 1 then 0 else Mc 388 j := fun j => by
    rw [hN, up_ne1 (by omega), up_ne1 (by omega), up_ne1 (by omega)]
    split
    · next z => rw [z, up_same]
    · next z => rw [up_nei z, up_ne1 (by omega)]
  clear hN
  have hxN : LX u L i N O := by
    refine hx.chg (nc 10 (by omega) (by omega) (by omega)) (nc 32 (by omega) (by omega) (by omega)) (nc 352 (by omega) (by omega) (by omega)) (oc 33 (by omega)) (fun j p1 p2 => o0 j (by omega)) ?_ ?_ ?_ ?_
    · rw [n3, o30]; omega
    · rw [nc (u + 10) (by omega) (by omega) (by omega), o0 31 (by omega)]; exact x5
    · right; exact n6
    · left; rw [o30, n388, if_pos rfl]
  have hlN : LK u a (s + 1) D 0 N O := by
    unfold LK
    rw [nc (u + 10) (by omega) (by omega) (by omega), nc (32 * (u + 11)) (by omega) (by omega) (by omega), nc (32 * (u + 11) + 1) (by omega) (by omega) (by omega), n2, oc 35 (by omega), oc 49 (by omega), oc 50 (by omega), o30, o0 31 (by omega)]
    exact ⟨b1, b2, by omega, by omega, by omega, b6, fun q p1 p2 => by omega, b8⟩
  obtain ⟨Mc1, Mm1, a1, a2, a3, a4, a5⟩ := hxN.adv (by rw [o0 24 (by omega)]; exact hnend)
  have hv1 : VS u L a (s + 1) D (i + 1) Mc1 Mm1 := by
    refine ⟨a3, hlN.frm x0 a4 a5, ?_, ?_⟩
    · rw [a4.cell (by omega), nc (u + 10) (by omega) (by omega) (by omega), a5.cell (by omega), oc 35 (by omega), h5]
    · rw [a4.cell (by omega), n5]
  have d1 : Mm1 0 30 = Mm 0 30 + 1 := by rw [a5 0 30 (by omega), o30]
  have k1 : Mm1 0 31 = Mm 0 31 := by rw [a5 0 31 (by omega), o0 31 (by omega)]
  have tl1 : TL (s + 1) 1 Mc1 := by
    right
    rw [a4.cell (by omega), n385, if_pos (by omega)]
    decide
  have pf1 : PF true Mc1 Mm1 := by
    refine ⟨fun _ => ⟨?_, ?_⟩, fun z => by cases z⟩
    · rw [a4.cell (by omega), n6]
    · rw [a4.cell (by omega), d1, n388, if_pos rfl]
  have cr1 : CR u i Mc (i + 1) Mc1 := CR.one (hxN.mon (nc 10 (by omega) (by omega) (by omega)) a1) (fun n => by rw [hst n, hC, q_call_e, j90_0, a1, q_call_e])
  have fc1 : feC u a s (Mm 0 30 + 1) Mc Mc1 := by
    refine feC.trans ?_ a4.fe
    intro n j p1 p2 p3 p4 p5 p6
    by_cases q1 : n = 385
    · subst q1; rw [n385, if_neg (by omega)]
    · by_cases q2 : n = 388
      · subst q2; rw [n388, if_neg (by omega)]
      · rw [nc n p2 q1 q2]
  have fm1 : feM a Mm Mm1 := feM.trans (fun n j p1 p2 p3 => by rw [hO, up_ne (by omega)]) a5.fe
  obtain ⟨Mm2, e2, o2⟩ := hF u L a (s + 1) D (i + 1) Mc1 Mm1 hv1 tl1 pf1 (by rw [d1, k1]; omega)
  unfold f_X10_primary_J31
  rw [if_pos c8, q_gf_e, x3, if_pos (show w32 0 = 0 by decide), q_gf_e, q_pf_e, ← hO, a2, q_call_e, e2, q_call_e, q_gf_e]
  unfold f_X10_primary_J78
  rcases o2 with ⟨j, Mc2, g1, g2, g3, g4, g5, g6, g7⟩ | hfx
  case inr =>
    have hq : FQa Mm2 := by obtain ⟨r, Mc', _, z, _⟩ := id hfx; exact z
    rw [if_pos hq.w, q_gf_e, if_neg hq.w]
    exact ⟨_, rfl, .inr (hfx.pre cr1 fc1 fm1 (by omega) (by omega))⟩
  obtain ⟨hx2, hlk2, h52⟩ := id g2
  obtain ⟨y0, y1, y2, y3, y4, y5, y6, y7, y8⟩ := id hx2
  obtain ⟨tt1, tt2, tt3, tt4⟩ := y2.2.2.num
  rw [y3, if_neg (show ¬ ¬ w32 0 = 0 by decide), isSignM (t := 24) (v := 41) y2 y3 (by decide), q_calp_e]
  by_cases c24 : Mc2 10 4 = 24
  case neg =>
    have hq := flt_FQa (f := 1) (by omega) Mm2
    rw [if_neg c24, if_neg (show ¬ ¬ w32 0 = 0 by decide), wrongF y3, q_call_e, q_gf_e, if_neg hq.w]
    have fx2 : FX u a j Mc2 Mm2 (flt 1 Mm2) := FX.here hx2 (by omega) (Mc' := Mc2) (fun n => by rw [stS hx2 h52 (by omega) n, badSC hx2 (.inl c24) g7.bad, q_call_e, j90_r (by omega)]) rfl (feC.refl _)
    exact ⟨_, rfl, .inr ((fx2.pre g1 g5 g6 (by omega) (by omega)).pre cr1 fc1 fm1 (by omega) (by omega))⟩
  rw [if_pos c24, if_pos (show ¬ w32 1 = 0 by decide), q_gf_e, y3, if_pos (show w32 0 = 0 by decide), q_gf_e, q_pf_e]
  have n2385 : Mc2 385 s = 23 := by
    rw [g5 385 s (by omega) (by omega) (by omega) (by omega) (by omega) (by omega), a4.cell (by omega), n385, if_pos rfl]
  have n2388 : Mc2 388 (Mm 0 30) = Mc 388 (Mm 0 30) := by
    rw [g5 388 (Mm 0 30) (by omega) (by omega) (by omega) (by omega) (by omega) (by omega), a4.cell (by omega), n388, if_neg (by omega)]
  have tl2 : TL (s + 1) 1 Mc2 := by
    right
    rw [show s + 1 - 1 = s by omega, n2385]
    decide
  obtain ⟨M4, p1, p2, p3, p4⟩ := flushW x0 hlk2 (by omega) tl2
  obtain ⟨l1, l2, l3, l4, l5, l6, l7, l8⟩ := p2
  have m3 : M4 11 3 = Mm 0 30 + 1 := by rw [p4 11 3 (by omega) (by omega) (by omega), y4.1, g3, d1]
  obtain ⟨P, hP⟩ : ∃ P, P = up (up M4 11 2 (M4 11 2 - 1)) 11 3 (Mm 0 30 + 1 - 1) := ⟨_, rfl⟩
  have hC2 : f_X1_takeSign (u + 10) Mc2 = some (0, P) := by
    unfold f_X1_takeSign
    rw [q_gf_e, c24, if_neg (show ¬ ¬ w32 24 = w32 24 from fun z => z rfl), q_gf_e, y4.1, g3, d1, w32_id (x := Mm 0 30 + 1) (by omega), if_neg (by omega), p1, q_call_e, q_gf_e, q_pf_e, q_gf_e, up_nei (n := 11) (i := 2) (i' := 3) (by omega), m3, q_pf_e, hP]
  obtain ⟨Q, hQ⟩ : ∃ Q, Q = up Mm2 0 30 (Mm2 0 30 - 1) := ⟨_, rfl⟩
  rw [← hQ]
  have q30 : Q 0 30 = Mm 0 30 := by rw [hQ, up_same, g3, d1]; omega
  have q0 : ∀ j, j ≠ 30 → Q 0 j = Mm2 0 j := fun j hj => by rw [hQ, up_nei hj]
  have qc : ∀ n, n ≠ 0 → Q n = Mm2 n := fun n hn => by rw [hQ, up_ne1 hn]
  have pc : ∀ n, n ≠ 11 → P n = M4 n := fun n hn => by rw [hP, up_ne1 hn, up_ne1 hn]
  have pp2 : P 11 2 = s := by rw [hP, up_nei (by omega), up_same]; omega
  have pp3 : P 11 3 = Mm 0 30 := by rw [hP, up_same]; omega
  have pp : ∀ j, j ≠ 2 → j ≠ 3 → P 11 j = M4 11 j := fun j z1 z2 => by rw [hP, up_nei z2, up_nei z1]
  clear hP
  have f4 : ∀ n : Nat, n ≠ 11 → n ≠ u + 10 → n ≠ 32 * (u + 11) → n ≠ 32 * (u + 11) + 1 → P n = Mc2 n := fun n z1 z2 z3 z4 => by
    rw [pc n z1]
    funext j
    exact p4 n j (by omega) (by omega) (by omega)
  have kk6 : P (u + 10) 6 = Mc2 (u + 10) 6 := by rw [pc _ (by omega), p4 (u + 10) 6 (by omega) (by omega) (by omega)]
  have hxP : LX u L j P Q := by
    refine hx2.chg (f4 10 (by omega) (by omega) (by omega) (by omega)) (f4 32 (by omega) (by omega) (by omega) (by omega)) (f4 352 (by omega) (by omega) (by omega) (by omega)) (qc 33 (by omega)) (fun j z1 z2 => q0 j (by omega)) ?_ ?_ ?_ ?_
    · rw [pp3, q30]; omega
    · rw [kk6, q0 31 (by omega)]; exact y5
    · rw [pp 6 (by omega) (by omega), p4 11 6 (by omega) (by omega) (by omega)]; exact y7
    · rw [q30, f4 388 (by omega) (by omega) (by omega) (by omega), n2388]; exact x8
  have hlP : LK u a s (D + 1) 7 P Q := by
    unfold LK
    rw [pc (u + 10) (by omega), pc (32 * (u + 11)) (by omega), pc (32 * (u + 11) + 1) (by omega), pp2, qc 35 (by omega), qc 49 (by omega), qc 50 (by omega), q30, q0 31 (by omega)]
    exact ⟨l1, l2, by omega, by omega, by omega, l6, fun q z1 z2 => by omega, l8⟩
  have hnend2 : Mm2 0 24 ≠ 4 := fun z => by have := y2.2.2.word.2.2.mpr z; omega
  obtain ⟨Mc3, Mm3, r1, r2, r3, r4, r5⟩ := hxP.adv (by rw [q0 24 (by omega)]; exact hnend2)
  rw [r2, q_call_e]
  have cr3 : CR u j Mc2 (j + 1) Mc3 := CR.one (hxP.mon (f4 10 (by omega) (by omega) (by omega) (by omega)) r1) (fun n => by rw [stS hx2 h52 (by omega) n, hC2, q_call_e, j90_0, r1, q_call_e])
  refine ⟨Mm3, rfl, .inl ⟨j + 1, Mc3, (cr1.trans g1).trans cr3, ⟨r3, hlP.frm x0 r4 r5, ?_⟩, ?_, ?_, ?_, ?_, ?_⟩⟩
  · rw [r4.cell (by omega), pp 5 (by omega) (by omega), p4 11 5 (by omega) (by omega) (by omega), h52]
  · rw [r5 0 30 (by omega), q30]
  · rw [r5 0 31 (by omega), q0 31 (by omega)]; omega
  · refine ((fc1.trans (g5.mono (by omega) (by omega))).trans ?_).trans r4.fe
    intro n jj z1 z2 z3 z4 z5 z6
    rw [pc n z2]
    exact p4 n jj (by omega) (by omega) z6
  · refine ((fm1.trans g6).trans ?_).trans r5.fe
    intro n jj z1 z2 z3
    rw [hQ, up_ne (by omega)]
  · intro z1 z2
    left
    have := (lvl_rng (Mc3 10 4)).2
    omega
