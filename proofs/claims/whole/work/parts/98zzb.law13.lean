/-! the law line -/
def lawT (l : Int) (M : Mem) : Res := q_call (f_X7_advance M) fun _ M9 => q_gr M9 1 2 fun t10 => q_call (f_X2_start (t10 + 10) l M9) fun _ M12 => q_gr M12 1 2 fun t13 => q_call (f_X1_read (t13 + 10) M12) fun r14 M15 => q_gr M15 1 2 fun t16 => q_call (f_X2_end (t16 + 10) l M15) fun _ M18 => if w32 r14 = 0 then some (1, M18) else (q_call (f_X4_refuse r14 M18) fun r19 M20 => if w32 r19 = 0 then some (0, M20) else some (1, M20))
set_option maxHeartbeats 2000000 in
theorem lawB {u : Nat} {L l : Int} {Qc Qm : Mem} (h : RLn u L Qc Qm) (hl : 0 ≤ l ∧ l < 3) (hat : 1 ≤ Qm 0 22) : ∃ r Mc' Mm', (q_call (lawT l Qc) fun r M => f_X4_readLine_J101 r M) = some (r, Mc') ∧ (q_call (f_X10_lawLine_J65 l Qm) fun _ M => f_X10_line_J367 M) = some (0, Mm') ∧ LWW u L Qc Qm r Mc' Mm' := by
  have hh := h
  obtain ⟨⟨g1, g2, g3, g4, g5, g6, g7, g8, g9, g10⟩, r5, r31, r30, r48⟩ := h
  obtain ⟨a, ea⟩ : ∃ a, Qm 35 13 = a := ⟨_, rfl⟩
  have k6 : Qc (u + 10) 6 = Qm 35 13 ∧ 0 ≤ Qm 35 13 ∧ Qm 35 13 ≤ 64 := g6.2.2.2.2.2.2.1
  rw [ea] at r5 r31 r48 k6
  -- the mark, the token behind the law's name
  obtain ⟨Pm, hPm⟩ : ∃ P, P = up Qm 0 19 (q_or (Qm 0 19) (q_shl 1 (16 + l))) := ⟨_, rfl⟩
  have pm : ∀ n, n ≠ 0 → Pm n = Qm n := fun n z => by rw [hPm, up_ne1 z]
  have p0 : ∀ j, j ≠ 19 → Pm 0 j = Qm 0 j := fun j z => by rw [hPm, up_nei z]
  have p19 : Pm 0 19 = q_or (Qm 0 19) (q_shl 1 (16 + l)) := by rw [hPm, up_same]
  have htb : TB L Qc Pm := by
    unfold TB BY at *
    rw [pm 33 (by omega), p0 21 (by omega), p0 22 (by omega)]
    exact g3
  obtain ⟨Rc, Rm, i1, i2, i3, i4, i5⟩ := NXT.of2 htb
  obtain ⟨d1, d2, d3, d4, d5⟩ := i3.wM
  rw [p0 26 (by omega), g5] at i4
  rw [p0 22 (by omega)] at i5 d5
  rw [p0 20 (by omega)] at d3
  rw [p19] at d4
  have d30 : Rm 0 30 = 0 := by rw [i3.2.1 0 30 (by omega), p0 30 (by omega), r30]
  have d31 : Rm 0 31 = a := by rw [i3.2.1 0 31 (by omega), p0 31 (by omega), r31]
  have d13 : Rm 35 13 = a := by rw [d2 35 (by omega), pm 35 (by omega), ea]
  have tq : (Rc 1 2).toNat = u := by rw [d1 1 (by omega), g2]; rfl
  have rc5 : Rc (u + 10) 5 = a := by rw [d1 _ (by omega), r5]
  have rc6 : Rc (u + 10) 6 = a := by rw [d1 _ (by omega), k6.1]
  have rtb := i3.2.2.1
  have rtk := i3.2.2.2.1
  -- the program's beginning
  obtain ⟨Sc, hSc⟩ : ∃ S, S = up Rc (32 * (u + 11) + 2) l a := ⟨_, rfl⟩
  have eS : f_X2_start (u + 10) l Rc = some (0, Sc) := by
    unfold f_X2_start
    rw [w32_id (x := l) (by omega), if_neg (by omega), w32_id (x := 3) (by omega), if_neg (by omega), q_gf_e, q_as_ok (by omega), rc5, show 32 * (u + 10 + 1) + 2 = 32 * (u + 11) + 2 by omega, hSc]
  have tS : (Sc 1 2).toNat = u := by rw [hSc, up_ne1 (by omega), tq]
  obtain ⟨Tc, hTc⟩ : ∃ T, T = up (up (up (up (up Sc 11 2 0) 11 3 0) 388 0 0) 11 5 1) 11 6 1 := ⟨_, rfl⟩
  have eR : f_X1_read (u + 10) Sc = f_X1_read_L29 (u + 10) q_N 0 Tc := by
    unfold f_X1_read
    rw [q_pf_e, q_pf_e, if_pos (.inl rfl), q_as_ok (by omega), q_pz_e (.inr rfl), q_pz_e (.inr rfl), hTc]
  have tN : ∀ n, n ≠ 11 → n ≠ 388 → n ≠ 32 * (u + 11) + 2 → Tc n = Rc n := fun n z1 z2 z3 => by
    rw [hTc, up_ne1 z1, up_ne1 z1, up_ne1 z2, up_ne1 z1, up_ne1 z1, hSc, up_ne1 z3]
  have t2 : Tc 11 2 = 0 := by rw [hTc, up_nei (by omega), up_nei (by omega), up_ne1 (by omega), up_nei (by omega), up_same]
  have t3 : Tc 11 3 = 0 := by rw [hTc, up_nei (by omega), up_nei (by omega), up_ne1 (by omega), up_same]
  have t5 : Tc 11 5 = 1 := by rw [hTc, up_nei (by omega), up_same]
  have t6 : Tc 11 6 = 1 := by rw [hTc, up_same]
  have t388 : Tc 388 0 = 0 := by rw [hTc, up_ne1 (by omega), up_ne1 (by omega), up_same]
  have tl2 : ∀ i, Tc (32 * (u + 11) + 2) i = if i = l then a else Rc (32 * (u + 11) + 2) i := fun i => by
    rw [hTc, up_ne1 (by omega), up_ne1 (by omega), up_ne1 (by omega), up_ne1 (by omega), up_ne1 (by omega), hSc]
    split
    · next z => rw [z, up_same]
    · next z => rw [up_nei z]
  clear hTc
  -- the reference's
  obtain ⟨Sm, hSm⟩ : ∃ S, S = up Rm 47 (3 + l) a := ⟨_, rfl⟩
  have sN : ∀ n, n ≠ 47 → Sm n = Rm n := fun n z => by rw [hSm, up_ne1 z]
  have s47 : ∀ i, Sm 47 i = if i = 3 + l then a else Rm 47 i := fun i => by
    rw [hSm]
    split
    · next z => rw [z, up_same]
    · next z => rw [up_nei z]
  clear hSm
  have eJ : ∀ Um : Mem, f_X10_expression Sm = some (0, Um) → (q_call (f_X10_lawLine_J65 l Qm) fun _ M => f_X10_line_J367 M) = f_X10_line_J367 (up Um 48 (3 + l) (Um 35 13)) := by
    intro Um e
    unfold f_X10_lawLine_J65
    have hS : Sm = up Rm 47 (3 + l) a := by
      funext n i
      by_cases z : n = 47
      · subst z
        rw [s47]
        split
        · next q => rw [q, up_same]
        · next q => rw [up_nei q]
      · rw [sN n z, up_ne1 z]
    rw [q_gf_e, g5, if_pos (show w32 0 = 0 by decide), q_gf_e, q_pf_e, ← hPm, i2, q_call_e, fresherM (by omega), q_calp_e, show (7 : Int) + 6 = 13 by rfl, d13, q_as_ok (by omega), ← hS, e, q_call_e, fresherM (by omega), q_calp_e, show (7 : Int) + 6 = 13 by rfl, q_as_ok (by omega), q_call_e]
  have hx : LX u L 0 Tc Sm := by
    refine ⟨g1, ?_, ?_, ?_, ?_, ?_, ?_, .inr t6, ?_⟩
    · unfold TB BY at *; rw [tN 10 (by omega) (by omega) (by omega), tN 32 (by omega) (by omega) (by omega), tN 352 (by omega) (by omega) (by omega), sN 33 (by omega), sN 0 (by omega)]; exact rtb
    · unfold TKN at *; rw [tN 10 (by omega) (by omega) (by omega), sN 0 (by omega)]; exact rtk
    · rw [sN 0 (by omega), i4]
    · rw [t3, sN 0 (by omega), d30]; omega
    · rw [tN (u + 10) (by omega) (by omega) (by omega), rc6, sN 0 (by omega), d31]; omega
    · rw [sN 0 (by omega)]
      exact ⟨by omega, by omega, by rw [i3.2.1 0 27 (by omega), p0 27 (by omega)]; exact (g9 3 (by omega) (by omega)).2.2.2, fun z => by have := i5 z; omega⟩
    · left; rw [sN 0 (by omega), d30, t388]
  have hk : LK u a 0 0 0 Tc Sm := by
    unfold LK
    rw [tN (u + 10) (by omega) (by omega) (by omega), rc5, sN 35 (by omega), d13, t2, sN 0 (by omega), d30, d31]
    refine ⟨by omega, by omega, by omega, by omega, by omega, fun j z1 z2 => by omega, fun q z1 z2 => by omega, fun n z1 z2 => by omega, ?_, by omega⟩
    rw [show (a - a).toNat = 0 by omega]
    rfl
  have h513 : Tc (u + 10) 5 = Sm 35 13 := by rw [tN (u + 10) (by omega) (by omega) (by omega), rc5, sN 35 (by omega), d13]
  obtain ⟨Um, e1, e2⟩ := readLawW hx hk h513 t5 t6 (by rw [sN 0 (by omega), d30, t388])
  rw [eJ Um e1]
  have eT : ∀ r Uc, f_X1_read_L29 (u + 10) q_N 0 Tc = some (r, Uc) → (Uc 1 2).toNat = u → lawT l Qc = if w32 r = 0 then some (1, up Uc (32 * (u + 11) + 3) l (Uc (u + 10) 5)) else some (0, up (up (up Uc (32 * (u + 11) + 3) l (Uc (u + 10) 5)) 1 4 r) 1 5 (Uc 10 5)) := by
    intro r Uc e tU
    have eE : f_X2_end (u + 10) l Uc = some (0, up Uc (32 * (u + 11) + 3) l (Uc (u + 10) 5)) := by
      unfold f_X2_end
      rw [w32_id (x := l) (by omega), if_neg (by omega), w32_id (x := 3) (by omega), if_neg (by omega), q_gf_e, q_as_ok (by omega), show 32 * (u + 10 + 1) + 3 = 32 * (u + 11) + 3 by omega]
    unfold lawT f_X4_refuse
    rw [i1, q_call_e, q_gr_e, tq, eS, q_call_e, q_gr_e, tS, eR, e, q_call_e, q_gr_e, tU, eE, q_call_e, q_pf_e, q_gf_e, q_pf_e, q_call_e, if_pos (show w32 0 = 0 by decide), up_ne1 (n' := 10) (by omega), up_ne1 (n' := 10) (by omega)]
  have fcA : ∀ Uc, feC u a 0 0 Tc Uc → fcW u Qc (up Uc (32 * (u + 11) + 3) l (Uc (u + 10) 5)) := by
    intro Uc f n i b1 b2 b3 b4 b5 b6 b7 b8
    rw [up_ne (by omega), f n i b1 b2 (by omega) (by omega) (by omega) (by omega), tN n b2 (by omega) (by omega), d1 n b1]
  have fmA : feM a Sm Um → fmW Qm (up Um 48 (3 + l) (Um 35 13)) := by
    intro f n i b1 b2 b3 b4 b5 b6 b7
    rw [up_ne (by omega), f n i (by omega) (by omega) (by omega)]
    have e : Sm n i = Rm n i := by
      by_cases z : n = 47
      · subst z; rw [s47, if_neg (by omega)]
      · rw [sN n z]
    rw [e, i3.2.1 n i (by omega), hPm, up_ne (by omega)]
  have u12 : ∀ Uc, feC u a 0 0 Tc Uc → Uc 1 2 = u := by
    intro Uc f
    rw [f 1 2 (by omega) (by omega) (by omega) (by omega) (by omega) (by omega), tN 1 (by omega) (by omega) (by omega), d1 1 (by omega), g2]
  rcases e2 with ⟨Uc, j, z1, z2, z3, z4, z5, z6, z7, z8, z9⟩ | ⟨Uc, j, z1, z2, z6, z7, z8⟩ | ⟨r, Uc, z1, z2, z3, z4, z5, z6, z7⟩
  · -- all went well
    have tU := u12 Uc z6
    rw [eT 0 Uc z1 (by rw [tU]; rfl), if_pos (show w32 0 = 0 by decide), q_call_e]
    obtain ⟨Vc, hVc⟩ : ∃ V, V = up Uc (32 * (u + 11) + 3) l (Uc (u + 10) 5) := ⟨_, rfl⟩
    obtain ⟨Vm, hVm⟩ : ∃ V, V = up Um 48 (3 + l) (Um 35 13) := ⟨_, rfl⟩
    have fcV := fcA Uc z6
    have fmV := fmA z7
    rw [← hVc] at fcV ⊢
    rw [← hVm] at fmV ⊢
    have vN : ∀ n, n ≠ 32 * (u + 11) + 3 → Vc n = Uc n := fun n z => by rw [hVc, up_ne1 z]
    have wN : ∀ n, n ≠ 48 → Vm n = Um n := fun n z => by rw [hVm, up_ne1 z]
    obtain ⟨y0, y1, y2, y3, y4, y5, y6, y7, y8⟩ := z2
    obtain ⟨b1, b2, b3, b4, b5, b6, b7, b8⟩ := z3
    have m30 : Um 0 30 = 0 := by rw [z5, sN 0 (by omega), d30]
    obtain ⟨b, eb⟩ : ∃ b, Um 35 13 = b := ⟨_, rfl⟩
    have hab : a < b := by
      have q : a ≤ b := by omega
      by_cases c : a = b
      · have := b8.2.1
        rw [eb, c, show (b - b).toNat = 0 by omega] at this
        have q0 : dpt (fun j => Um 49 (64 + j)) (fun j => Um 50 (64 + j)) b 0 = 0 := rfl
        omega
      · omega
    have hrl : RLn u L Vc Vm := by
      refine hh.law (l := l) (a := a) (b := b) hl ea ?_ ?_ ?_ ?_ ?_ ?_ ?_ ?_ ?_ ?_ ?_ ?_ ?_ ?_ ?_ ?_ ⟨hab, by omega⟩ ?_ ?_
      · intro n i q1 q2 q3 q4 q5 q6 q7
        rw [hVc, up_ne (by omega), z6 n i q1 q2 (by omega) (by omega) q5 q6]
        have e : Tc n i = Rc n i := by
          by_cases z : n = 32 * (u + 11) + 2
          · subst z; rw [tl2, if_neg (by omega)]
          · rw [tN n q2 q4 z]
        rw [e, d1 n q1]
      · intro n i q1 q2 q3 q4
        rw [hVm, up_ne (by omega), z7 n i (by omega) q2 q3]
        have e : Sm n i = Rm n i := by
          by_cases z : n = 47
          · subst z; rw [s47, if_neg (by omega)]
          · rw [sN n z]
        rw [e, d2 n q1, pm n q1]
      · rw [wN 0 (by omega), z7 0 19 (by omega) (by omega) (by omega), sN 0 (by omega), d4]
      · unfold TB BY at *; rw [vN 10 (by omega), vN 32 (by omega), vN 352 (by omega), wN 33 (by omega), wN 0 (by omega)]; exact y1
      · unfold TKN at *; rw [vN 10 (by omega), wN 0 (by omega)]; exact y2
      · rw [wN 0 (by omega), y3]
      · rw [wN 0 (by omega), y6.2.2.1]
      · rw [wN 0 (by omega), m30]
      · rw [vN _ (by omega), z4, eb]
      · rw [vN _ (by omega), y5.1]; omega
      · rw [wN 35 (by omega), eb]
      · rw [wN 0 (by omega)]; omega
      · rw [vN _ (by omega), z6 _ _ (by omega) (by omega) (by omega) (by omega) (by omega) (by omega), tl2, if_pos rfl]
      · rw [hVc, up_same, z4, eb]
      · rw [wN 47 (by omega), z7 47 (3 + l) (by omega) (by omega) (by omega), s47, if_pos rfl]
      · rw [hVm, up_same, eb]
      · intro i q1 q2
        rw [vN _ (by omega), vN _ (by omega), wN 49 (by omega), wN 50 (by omega)]
        exact b6 i q1 (by omega)
      · rw [wN 49 (by omega), wN 50 (by omega), ← eb]; exact b8
    obtain ⟨r, Mc', Mm', w1, w2, w3⟩ := semiW hrl.1
    refine ⟨r, Mc', Mm', w1, w2, (w3.w hrl).pre fcV fmV ?_ ?_⟩
    · rw [wN 0 (by omega), z7 0 20 (by omega) (by omega) (by omega), sN 0 (by omega), d3]
    · rw [wN 0 (by omega)]
      rw [sN 0 (by omega)] at z9
      omega
  · -- no semicolon behind the law
    have tU := u12 Uc z6
    obtain ⟨y0, y1, y2, y3, y4, y5, y6, y7, y8⟩ := z2
    rw [eT 1 Uc z1 (by rw [tU]; rfl), if_neg (show ¬ w32 1 = 0 by decide), q_call_e, j101_0]
    have fcV := fcA Uc z6
    have fmV := fmA z7
    obtain ⟨Vm, hVm⟩ : ∃ V, V = up Um 48 (3 + l) (Um 35 13) := ⟨_, rfl⟩
    rw [← hVm] at fmV ⊢
    have wN : ∀ n, n ≠ 48 → Vm n = Um n := fun n z => by rw [hVm, up_ne1 z]
    have v26 : Vm 0 26 = 0 := by rw [wN 0 (by omega), y3]
    have hkV : TKN Uc Vm := by
      unfold TKN at *; rw [wN 0 (by omega)]; exact y2
    have e367 : f_X10_line_J367 Vm = some (0, up (flt 1 Vm) 0 20 (Vm 0 20 + 1)) := by
      unfold f_X10_line_J367 f_X10_line_J396
      rw [q_gf_e, v26, if_pos (show w32 0 = 0 by decide), isSignM (t := 22) (v := 59) hkV v26 (by decide), q_calp_e, if_neg z8, if_neg (show ¬ ¬ w32 0 = 0 by decide), wrongF v26, q_call_e, q_gf_e, q_pf_e]
      have : flt 1 Vm 0 20 = Vm 0 20 := by unfold flt; rw [up_nei (by omega), up_nei (by omega)]
      rw [this]
    rw [e367]
    have f26 : up (flt 1 Vm) 0 20 (Vm 0 20 + 1) 0 26 = 1 := by unfold flt; rw [up_nei (by omega), up_nei (by omega), up_same]
    have f27 : up (flt 1 Vm) 0 20 (Vm 0 20 + 1) 0 27 = Vm 0 23 := by unfold flt; rw [up_nei (by omega), up_same]
    refine ⟨0, _, _, rfl, rfl, ?_, ?_, .inr ⟨rfl, ?_, ?_, ?_, ?_⟩⟩
    · exact fcV.trans (fun n i b1 b2 b3 b4 b5 b6 b7 b8 => by rw [up_ne (by omega), up_ne (by omega)])
    · exact fmV.trans (fun n i b1 b2 b3 b4 b5 b6 b7 => by unfold flt; rw [up_ne (by omega), up_ne (by omega), up_ne (by omega)])
    · unfold FQa; rw [f26]; omega
    · rw [f26, up_nei (by omega), up_same]
    · rw [f27, up_same]; exact hkV.1
    · rw [f27]; have := hkV.2.1; unfold in32; omega
  · -- both failed
    have tU := u12 Uc z6
    have hr : 1 ≤ r ∧ r ≤ 5 := by rw [z3]; exact z2
    rw [eT r Uc z1 (by rw [tU]; rfl), w32_id (x := r) (by omega), if_neg (by omega), q_call_e, j101_0, q_J367 (z2.up (by omega))]
    refine ⟨0, _, _, rfl, rfl, ?_, fmA z7, .inr ⟨rfl, z2.up (by omega), ?_, ?_, ?_⟩⟩
    · exact (fcA Uc z6).trans (fun n i b1 b2 b3 b4 b5 b6 b7 b8 => by rw [up_ne (by omega), up_ne (by omega)])
    · rw [up_nei (by omega), up_same, up_ne1 (by omega), z3]
    · rw [up_same, up_ne1 (by omega), z4]
    · rw [up_ne1 (by omega)]; unfold in32; omega
set_option maxHeartbeats 2000000 in
theorem lawW {u : Nat} {L : Int} {Mc Mm : Mem} (h : RLn u L Mc Mm) : ∃ r Mc' Mm', (q_call (f_X4_readLaw Mc) fun r M => f_X4_readLine_J101 r M) = some (r, Mc') ∧ f_X10_line_J70 6 Mm = some (0, Mm') ∧ LWW u L Mc Mm r Mc' Mm' := by
  have hh := h
  obtain ⟨hrd, r5, r31, r30, r48⟩ := h
  obtain ⟨g1, g2, g3, g4, g5, g6, g7, g8, g9, g10⟩ := id hrd
  have hm := hrd.mark0 (x := 6) (.inr rfl)
  obtain ⟨Pm, hPm⟩ : ∃ P, P = up Mm 0 19 (q_or (Mm 0 19) (q_shl 1 6)) := ⟨_, rfl⟩
  rw [← hPm] at hm
  have pm : ∀ n, n ≠ 0 → Pm n = Mm n := fun n z => by rw [hPm, up_ne1 z]
  have p0 : ∀ j, j ≠ 19 → Pm 0 j = Mm 0 j := fun j z => by rw [hPm, up_nei z]
  obtain ⟨Qc, Qm, i1, i2, i3, i4, i5⟩ := NXT.of2 hm.2.2.1
  have hq := hm.nxt i3
  obtain ⟨d1, d2, d3, d4, d5⟩ := i3.wM
  rw [p0 22 (by omega)] at i5 d5
  rw [p0 20 (by omega)] at d3
  have hat0 : 0 ≤ Mm 0 22 := g3.2.2.2.2.2.1
  have fcQ : fcW u Mc Qc := fun n i b1 b2 b3 b4 b5 b6 b7 b8 => by rw [d1 n b1]
  have fmQ : fmW Mm Qm := fun n i b1 b2 b3 b4 b5 b6 b7 => by rw [i3.2.1 n i (by omega), hPm, up_ne (by omega)]
  have hrl : RLn u L Qc Qm := by
    refine ⟨hq, ?_, ?_, ?_, ?_⟩
    · rw [d1 _ (by omega), d2 35 (by omega), pm 35 (by omega), r5]
    · rw [i3.2.1 0 31 (by omega), p0 31 (by omega), d2 35 (by omega), pm 35 (by omega), r31]
    · rw [i3.2.1 0 30 (by omega), p0 30 (by omega), r30]
    · rw [d2 48 (by omega), pm 48 (by omega), d2 35 (by omega), pm 35 (by omega)]; exact r48
  have tq : (Qc 1 2).toNat = u := by rw [hq.2.1]; rfl
  obtain ⟨n1, n2, n3, n4⟩ := hq.2.2.2.1.2.2.num
  obtain ⟨w1, w2, w3⟩ := hq.2.2.2.1.2.2.word
  have q26 := hq.2.2.2.2.1
  -- a fault here
  have bad : ∀ f : Int, 1 ≤ f ∧ f ≤ 5 → LWW u L Mc Mm 0 (up (up Qc 1 4 f) 1 5 (Qm 0 23)) (flt f Qm) := fun f hf => ((LWfl hq hf).w hrl).pre fcQ fmQ d3 d5
  have eM : f_X10_line_J70 6 Mm = q_call (f_X10_lawLine Qm) fun _ M => f_X10_line_J367 M := by
    unfold f_X10_line_J70
    rw [q_gf_e, g5, if_pos (show w32 0 = 0 by decide), q_gf_e, q_pf_e, ← hPm, i2, q_call_e, if_neg (show ¬ w32 6 = 0 by decide), if_neg (show ¬ w32 6 = 1 by decide), if_neg (show ¬ w32 6 = 2 by decide), if_neg (show ¬ w32 6 = 3 by decide), if_neg (show ¬ w32 6 = 4 by decide), if_neg (show ¬ w32 6 = 5 by decide)]
  rw [eM]
  have fl1 := flt_FQa (f := 1) (by omega) Qm
  have e25 : f_X10_lawLine_J25 Qm = some (0, flt 1 Qm) := by
    unfold f_X10_lawLine_J25
    rw [wrongF q26, q_call_e, q_lJ30 fl1]
  by_cases c : 7 ≤ Qc 10 4 ∧ Qc 10 4 ≤ 9
  case neg =>
    have eL : f_X10_lawLine Qm = some (0, flt 1 Qm) := by
      unfold f_X10_lawLine
      rw [q_gf_e, e25, w32_id (x := Qm 0 24) (by omega)]
      by_cases c0 : Qm 0 24 = 0
      · have hv := w2 c0
        rw [if_neg (fun z => z c0), q_gf_e, q_gf_e, w32_id (x := Qm 0 25) (by omega), w32_id (x := 7) (by omega), w32_id (x := 9) (by omega)]
        by_cases c7 : Qm 0 25 < 7
        · rw [if_pos c7]
        · rw [if_neg c7, if_neg (by omega)]
      · rw [if_pos c0]
    have eC : f_X4_readLaw Mc = some (0, up (up Qc 1 4 1) 1 5 (Qm 0 23)) := by
      unfold f_X4_readLaw f_X4_readLaw_J31
      rw [i1, q_call_e, q_gf_e, w32_id (x := Qc 10 4) (by omega), w32_id (x := 7) (by omega), refuseC hq.2.2.2.1, q_call_e, q_bit_e (.inl rfl)]
      by_cases c7 : Qc 10 4 < 7
      · rw [if_pos c7]
      · rw [if_neg c7, q_gf_e, w32_id (x := Qc 10 4) (by omega), w32_id (x := 9) (by omega), if_neg (by omega)]
    rw [eC, q_call_e, j101_0, eL, q_call_e, q_J367 fl1]
    exact ⟨0, _, _, rfl, rfl, bad 1 (by omega)⟩
  have c0 : Qm 0 24 = 0 := w1.mp (by omega)
  have hv := w2 c0
  obtain ⟨l, el⟩ : ∃ l, Qm 0 25 - 7 = l := ⟨_, rfl⟩
  have el2 : Qc 10 4 - 7 = l := by omega
  have hl : 0 ≤ l ∧ l < 3 := by omega
  have g10' := hq.2.2.2.2.2.2.2.2.2 l hl.1 hl.2
  obtain ⟨v1, v2, v3, v4, v5, v6, v7⟩ := hq.2.2.2.2.2.1.2.2.2.2.2.2.2.2.2.2 l hl.1 hl.2
  have eL : f_X10_lawLine Qm = if ¬ w32 (if Bt (Qm 0 19) (16 + l) = true then 1 else 0) = w32 1 then f_X10_lawLine_J65 l Qm else some (0, flt 3 Qm) := by
    unfold f_X10_lawLine f_X10_lawLine_J30
    have fl3 := flt_FQa (f := 3) (by omega) Qm
    rw [q_gf_e, w32_id (x := Qm 0 24) (by omega), if_neg (fun z => z c0), q_gf_e, q_gf_e, w32_id (x := Qm 0 25) (by omega), w32_id (x := 7) (by omega), w32_id (x := 9) (by omega), if_neg (by omega), if_pos (by omega), q_gf_e, q_gf_e, q26, if_neg (show ¬ ¬ w32 0 = 0 by decide), q_gf_e, el, shr1 (by omega), wrongF q26, q_call_e, q_lJ65 fl3]
  have eC : f_X4_readLaw Mc = if Qc (32 * (u + 11) + 3) l ≤ Qc (32 * (u + 11) + 2) l then lawT l Qc else some (0, up (up Qc 1 4 3) 1 5 (Qm 0 23)) := by
    have eI : f_X2_isTold (u + 10) l Qc = if Qc (32 * (u + 11) + 3) l ≤ Qc (32 * (u + 11) + 2) l then some 0 else some 1 := by
      unfold f_X2_isTold
      rw [w32_id (x := l) (by omega), if_neg (by omega), w32_id (x := 3) (by omega), if_neg (by omega), q_al_ok (by omega), q_al_ok (by omega), show 32 * (u + 10 + 1) + 3 = 32 * (u + 11) + 3 by omega, show 32 * (u + 10 + 1) + 2 = 32 * (u + 11) + 2 by omega, w32_id (x := Qc (32 * (u + 11) + 3) l) (by omega), w32_id (x := Qc (32 * (u + 11) + 2) l) (by omega)]
    unfold f_X4_readLaw
    rw [i1, q_call_e, q_gf_e, w32_id (x := Qc 10 4) (by omega), w32_id (x := 7) (by omega), if_neg (by omega), q_gf_e, w32_id (x := Qc 10 4) (by omega), w32_id (x := 9) (by omega), if_pos c.2, q_gf_e, el2, q_gr_e, tq, eI]
    by_cases ct : Qc (32 * (u + 11) + 3) l ≤ Qc (32 * (u + 11) + 2) l
    · rw [if_pos ct, if_pos ct, q_calp_e, if_pos (show w32 0 = 0 by decide)]
      unfold lawT
      rfl
    · rw [if_neg ct, if_neg ct, q_calp_e, if_neg (show ¬ w32 1 = 0 by decide), refuseC hq.2.2.2.1, q_call_e, q_bit_e (.inl rfl)]
  rw [eC, eL]
  by_cases ct : Bt (Qm 0 19) (16 + l) = true
  · have := g10'.mpr ct
    have fl3 := flt_FQa (f := 3) (by omega) Qm
    rw [if_neg (show ¬ Qc (32 * (u + 11) + 3) l ≤ Qc (32 * (u + 11) + 2) l by omega), if_pos ct, if_neg (show ¬ ¬ w32 1 = w32 1 from fun z => z rfl), q_call_e, j101_0, q_call_e, q_J367 fl3]
    exact ⟨0, _, _, rfl, rfl, bad 3 (by omega)⟩
  · have : ¬ Qc (32 * (u + 11) + 2) l < Qc (32 * (u + 11) + 3) l := fun z => ct (g10'.mp z)
    have hat : 1 ≤ Qm 0 22 := by have := i5 (by omega); omega
    obtain ⟨r, Mc', Mm', z1, z2, z3⟩ := lawB hrl hl hat
    rw [if_pos (show Qc (32 * (u + 11) + 3) l ≤ Qc (32 * (u + 11) + 2) l by omega), if_neg ct, if_pos (show ¬ w32 0 = w32 1 by decide)]
    exact ⟨r, Mc', Mm', z1, z2, z3.pre fcQ fmQ d3 d5⟩
