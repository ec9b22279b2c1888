/-! the law: not, and comparisons -/
set_option maxHeartbeats 1000000 in
theorem notW {u : Nat} {L a s D i : Int} {Mc Mm : Mem} (h : VS u L a s D i Mc Mm) (ht : Mc 10 4 = 12) (h116 : Mc 11 6 = 1) (h388 : Mc 388 (Mm 0 30) = 0) : ∃ Mm1 Mm2, f_X10_knot Mm = some (0, Mm1) ∧ f_X10_goOn Mm1 = some (0, Mm2) ∧ ((Mm 0 31 < 64 ∧ ∃ Mc', CR u i Mc (i + 1) Mc' ∧ VS u L a (s + 1) D (i + 1) Mc' Mm2 ∧ Mc' 385 s = 12 ∧ Mm2 0 30 = Mm 0 30 ∧ Mm2 0 31 = Mm 0 31 + 1 ∧ feC u a s (Mm 0 30 + 1) Mc Mc' ∧ feM a Mm Mm2 ∧ PF true Mc' Mm2) ∨ FX u a i Mc Mm Mm2) := by
  have hst := stV h.1 h.2.2.2
  obtain ⟨hx, hlk, h5, h6⟩ := h
  obtain ⟨x0, x1, x2, x3, x4, x5, x6, x7, x8⟩ := id hx
  obtain ⟨b1, b2, b3, b4, b5, b6, b7, b8⟩ := hlk
  have hnend : Mm 0 24 ≠ 4 := fun z => by have := x2.2.2.word.2.2.mpr z; omega
  rw [knotM x3 x5.2]
  by_cases c : Mm 0 31 = 64
  · rw [if_pos c]
    have hq := flt_FQa (f := 2) (by omega) Mm
    refine ⟨_, _, rfl, q_goOn hq, .inr (FX.here hx (by omega) (Mc' := Mc) (fun n => ?_) rfl (feC.refl _))⟩
    rw [hst n]
    unfold f_X1_takeValue
    rw [q_gf_e, ht, if_pos (show ¬ w32 12 = w32 23 by decide), if_neg (fun z => z rfl), q_gf_e, h116, if_neg (show ¬ w32 1 = 0 by decide), knotC (by omega), if_pos (by omega), q_call_e, if_pos (show w32 0 = 0 by decide), q_call_e, j90_r (by omega)]
  · rw [if_neg c]
    obtain ⟨N, hN⟩ : ∃ N, N = up (up (up Mc (u + 10) 6 (Mm 0 31 + 1)) 385 s 12) 11 2 (s + 1) := ⟨_, rfl⟩
    have hC : f_X1_takeValue (u + 10) Mc = some (0, N) := by
      have e2 : (up Mc (u + 10) 6 (Mm 0 31 + 1)) 11 2 = s := by rw [up_ne1 (by omega)]; omega
      unfold f_X1_takeValue
      rw [q_gf_e, ht, if_pos (show ¬ w32 12 = w32 23 by decide), if_neg (fun z => z rfl), q_gf_e, h116, if_neg (show ¬ w32 1 = 0 by decide), knotC (by omega), if_neg (by omega), q_call_e, if_neg (show ¬ w32 1 = 0 by decide), x5.1, pushC (by rw [e2]; omega), q_call_e, e2, hN]
    have nc : ∀ n : Nat, n ≠ 11 → n ≠ 385 → n ≠ u + 10 → N n = Mc n := fun n p1 p2 p3 => by rw [hN, up_ne1 p1, up_ne1 p2, up_ne1 p3]
    have n2 : N 11 2 = s + 1 := by rw [hN, up_same]
    have n11 : ∀ j, j ≠ 2 → N 11 j = Mc 11 j := fun j p => by rw [hN, up_nei p, up_ne1 (by omega), up_ne1 (by omega)]
    have n385 : ∀ j, N 385 j = if j = s then 12 else Mc 385 j := fun j => by
      rw [hN, up_ne1 (by omega)]
      split
      · next z => rw [z, up_same]
      · next z => rw [up_nei z, up_ne1 (by omega)]
    have k6 : N (u + 10) 6 = Mm 0 31 + 1 := by rw [hN, up_ne1 (by omega), up_ne1 (by omega), up_same]
    have kj : ∀ j, j ≠ 6 → N (u + 10) j = Mc (u + 10) j := fun j p => by rw [hN, up_ne1 (by omega), up_ne1 (by omega), up_nei p]
    clear hN
    obtain ⟨O, hO⟩ : ∃ O, O = up Mm 0 31 (Mm 0 31 + 1) := ⟨_, rfl⟩
    rw [← hO]
    have o31 : O 0 31 = Mm 0 31 + 1 := by rw [hO, up_same]
    have o0 : ∀ j, j ≠ 31 → O 0 j = Mm 0 j := fun j hj => by rw [hO, up_nei hj]
    have oc : ∀ n, n ≠ 0 → O n = Mm n := fun n hn => by rw [hO, up_ne1 hn]
    have hxN : LX u L i N O := by
      refine hx.chg (nc 10 (by omega) (by omega) (by omega)) (nc 32 (by omega) (by omega) (by omega)) (nc 352 (by omega) (by omega) (by omega)) (oc 33 (by omega)) (fun j p1 p2 => o0 j (by omega)) ?_ ?_ ?_ ?_
      · rw [n11 3 (by omega), o0 30 (by omega)]; exact x4
      · rw [k6, o31]; omega
      · rw [n11 6 (by omega)]; exact x7
      · rw [o0 30 (by omega), nc 388 (by omega) (by omega) (by omega)]; exact x8
    have hlN : LK u a (s + 1) D 0 N O := by
      unfold LK
      rw [kj 5 (by omega), nc (32 * (u + 11)) (by omega) (by omega) (by omega), nc (32 * (u + 11) + 1) (by omega) (by omega) (by omega), n2, oc 35 (by omega), oc 49 (by omega), oc 50 (by omega), o31, o0 30 (by omega)]
      exact ⟨b1, b2, by omega, by omega, by omega, b6, fun q p1 p2 => by omega, b8⟩
    obtain ⟨Mc', Mm', a1, a2, a3, a4, a5⟩ := hxN.adv (by rw [o0 24 (by omega)]; exact hnend)
    refine ⟨O, Mm', rfl, goOnM (by rw [o0 26 (by omega), x3]) a2, .inl ⟨by omega, Mc', CR.one (hxN.mon (nc 10 (by omega) (by omega) (by omega)) a1) (fun n => ?_), ⟨a3, hlN.frm x0 a4 a5, ?_, ?_⟩, ?_, ?_, ?_, ?_, ?_, ?_, ?_⟩⟩
    · rw [hst n, hC, q_call_e, j90_0, a1, q_call_e]
    · rw [a4.cell (by omega), kj 5 (by omega), a5.cell (by omega), oc 35 (by omega), h5]
    · rw [a4.cell (by omega), n11 5 (by omega), h6]
    · rw [a4.cell (by omega), n385, if_pos rfl]
    · rw [a5 0 30 (by omega), o0 30 (by omega)]
    · rw [a5 0 31 (by omega), o31]
    · refine feC.trans ?_ a4.fe
      intro n j p1 p2 p3 p4 p5 p6
      by_cases q1 : n = 385
      · subst q1; rw [n385, if_neg (by omega)]
      · by_cases q2 : n = u + 10
        · subst q2; rw [kj j (by omega)]
        · rw [nc n p2 q1 q2]
    · exact feM.trans (fun n j p1 p2 p3 => by rw [hO, up_ne (by omega)]) a5.fe
    · intro _
      rw [a4.cell (by omega), n11 6 (by omega), a5 0 30 (by omega), o0 30 (by omega), a4.cell (by omega), nc 388 (by omega) (by omega) (by omega)]
      exact ⟨h116, h388⟩
    · intro z
      cases z
theorem cmpTK {Mc Mm : Mem} (hk : TKN Mc Mm) : (lvl (Mc 10 4) = 4 ↔ Mm 0 24 = 3 ∧ (Mm 0 25 = 60 ∨ Mm 0 25 = 62 ∨ Mm 0 25 = 61 ∨ 256 ≤ Mm 0 25)) ∧ (lvl (Mc 10 4) = 4 → (Mc 10 4, Mm 0 25) ∈ TKS) := by
  have inv := (lvl_inv (Mc 10 4)).2.2.2.1
  rw [inv]
  rcases hk.2.2 with ⟨a, b⟩ | ⟨a, b⟩ | ⟨a, b⟩ | ⟨a, b⟩ | ⟨a, b⟩ | ⟨a, b⟩
  · exact ⟨by omega, fun z => by omega⟩
  · exact ⟨by omega, fun z => by omega⟩
  · exact ⟨by omega, fun z => by omega⟩
  · simp [SGS] at b
    refine ⟨by omega, fun z => ?_⟩
    rcases b with ⟨p, q⟩ | ⟨p, q⟩ | ⟨p, q⟩ | ⟨p, q⟩ | ⟨p, q⟩ | ⟨p, q⟩ | ⟨p, q⟩ | ⟨p, q⟩ | ⟨p, q⟩ | ⟨p, q⟩ | ⟨p, q⟩ | ⟨p, q⟩ | ⟨p, q⟩ <;> first | omega | (rw [p, q]; decide)
  · exact ⟨by omega, fun z => by omega⟩
  · exact ⟨by omega, fun z => by omega⟩
set_option maxHeartbeats 2000000 in
theorem negW {G F : Mem → Res} {B : Int} (hG : EW G true 4 3 4 0 (B - 1)) (hF : EW F false 5 5 5 1 B) (qG : QF G) (qF : QF F) : EW (f_X10_negation_G G F) true 4 3 4 0 B := by
  intro u L a s D i Mc Mm h tl hp hB
  obtain ⟨f1, f2, f3⟩ := h.f
  obtain ⟨hp1, hp2⟩ := hp.1 rfl
  have x2 := h.1.2.2.1
  have x3 := h.1.2.2.2.1
  unfold f_X10_negation_G
  rw [isWordM (t := 12) x2 x3 (by omega), q_calp_e]
  by_cases c : Mc 10 4 = 12
  · rw [if_pos c, if_neg (show ¬ w32 1 = 0 by decide)]
    obtain ⟨M3, M5, e1, e2, e3⟩ := notW h c hp1 hp2
    rw [e1, q_call_e, e2, q_call_e]
    rcases e3 with ⟨k64, Mc2, r1, r2, r3, r4, r5, r6, r7, r8⟩ | hfx
    case inr =>
      have hq := hfx.fqa
      rw [qG M5 hq, q_call_e, q_puts hq, q_call_e]
      exact ⟨_, rfl, .inr hfx⟩
    have tl2 : TL (s + 1) 4 Mc2 := by
      right
      rw [show s + 1 - 1 = s by omega, r3]
      decide
    obtain ⟨M7, g1, g2⟩ := hG u L a (s + 1) D (i + 1) Mc2 M5 r2 tl2 r8 (by rw [r4, r5]; omega)
    rw [g1, q_call_e]
    rcases g2 with ⟨k, Mc3, s1, s2, s3, s4, s5, s6, s7⟩ | hfx
    case inr =>
      have hq := hfx.fqa
      rw [q_puts hq, q_call_e]
      exact ⟨_, rfl, .inr (hfx.pre r1 r6 r7 (by omega) (by omega))⟩
    have t3 : Mc3 385 s = 12 := by
      rw [s5 385 s (by omega) (by omega) (by omega) (by omega) (by omega) (by omega), r3]
    obtain ⟨M9, p1, p2, p3, p4⟩ := putW (lo := 3) (v := 260) (s := s) s2 (by rw [t3]; decide) (by rw [t3]; decide) (by rw [if_pos rfl]; omega) (by rw [s3, r4]; omega)
    rw [if_pos rfl] at p2
    rw [p1, q_call_e]
    refine ⟨M9, rfl, .inl ⟨k, Mc3, r1.trans s1, p2, ?_, ?_, ?_, ?_, ?_⟩⟩
    · rw [p3, s3, r4]
    · rw [p3]; omega
    · refine (r6.mono (by omega) (by omega)).trans (s5.mono (by omega) ?_)
      rw [r4]; omega
    · exact (r7.trans s6).trans p4
    · unfold NTK at *
      rw [p3]
      exact s7
  · rw [if_neg c, if_pos (show w32 0 = 0 by decide)]
    obtain ⟨M3, g1, g2⟩ := hF u L a s D i Mc Mm h (tl.weak (by omega)) ⟨(fun z => by cases z), fun _ => .inr c⟩ hB
    rw [g1, q_call_e, q_gf_e]
    rcases g2 with ⟨k, Mc3, s1, s2, s3, s4, s5, s6, s7⟩ | hfx
    case inr =>
      have hq := hfx.fqa
      rw [if_pos hq.w]
      exact ⟨_, rfl, .inr hfx⟩
    have y2 := s2.1.2.2.1
    have y3 := s2.1.2.2.2.1
    obtain ⟨tt1, tt2, tt3, tt4⟩ := y2.2.2.num
    have hsg := y2.2.2.sg
    have hc3 : Mc3 388 (M3 0 30) = 0 := by
      rw [s3, s5 388 (Mm 0 30) (by omega) (by omega) (by omega) (by omega) (by omega) (by omega), hp2]
    obtain ⟨cm1, cm2⟩ := cmpTK y2
    rw [y3, if_neg (show ¬ ¬ w32 0 = 0 by decide), q_gf_e, w32_id (x := M3 0 24) (by omega), w32_id (x := 3) (by omega), q_gf_e, q_gf_e, q_gf_e, q_gf_e, w32_id (x := 60) (by omega), w32_id (x := 61) (by omega), w32_id (x := 62) (by omega), w32_id (x := 256) (by omega)]
    by_cases c4 : lvl (Mc3 10 4) = 4
    case neg =>
      have cn : ¬ (M3 0 24 = 3 ∧ (M3 0 25 = 60 ∨ M3 0 25 = 62 ∨ M3 0 25 = 61 ∨ 256 ≤ M3 0 25)) := fun z => c4 (cm1.mpr z)
      have fin : OUT u L a s D 3 4 0 i Mc Mm M3 := by
        refine .inl ⟨k, Mc3, s1, s2.weak (by omega), s3, s4, s5.mono (by omega) (by omega), s6, ?_⟩
        intro z1 z2
        rcases s7 z1 z2 with q | q
        · left; omega
        · exact .inr q
      by_cases cs : M3 0 24 = 3
      · rw [if_neg (fun z => z cs), w32_id (x := M3 0 25) (by omega), if_neg (by omega), if_neg (by omega), if_neg (by omega), if_neg (by omega)]
        exact ⟨M3, rfl, fin⟩
      · rw [if_pos cs]
        exact ⟨M3, rfl, fin⟩
    obtain ⟨cs, cv⟩ := cm1.mp c4
    have hv := cm2 c4
    have c12 : Mc3 10 4 ≠ 12 := fun z => by
      rw [z, show lvl 12 = 3 by decide] at c4
      omega
    have hv260 : M3 0 25 ≠ 260 := fun z => c12 ((TKS.rng hv).2.2.1.mpr z)
    obtain ⟨v, ev⟩ : ∃ v, v = M3 0 25 := ⟨_, rfl⟩
    have e87 : ∀ X Y : Res, (if ¬ M3 0 24 = 3 then X else if w32 (M3 0 25) = 60 then f_X10_negation_J87 G F M3 else if w32 (M3 0 25) = 62 then f_X10_negation_J87 G F M3 else if w32 (M3 0 25) = 61 then f_X10_negation_J87 G F M3 else if 256 ≤ w32 (M3 0 25) then f_X10_negation_J87 G F M3 else Y) = f_X10_negation_J87 G F M3 := by
      intro X Y
      rw [if_neg (fun z => z cs), w32_id (x := M3 0 25) (by omega)]
      rcases cv with q | q | q | q
      · rw [if_pos q]
      · rw [if_neg (by omega), if_pos q]
      · rw [if_neg (by omega), if_neg (by omega), if_pos q]
      · rw [if_neg (by omega), if_neg (by omega), if_neg (by omega), if_pos q]
    rw [e87]
    unfold f_X10_negation_J87
    rw [q_gf_e, ← ev]
    rw [← ev] at hv hv260
    have tl3 : TL s 4 Mc3 := tl.fe f1 s5
    obtain ⟨M5, M7, e1, e2, e3⟩ := opW s2 c4 (by omega) c12 tl3 (fun _ => hc3)
    rw [e1, q_call_e, e2, q_call_e]
    rcases e3 with ⟨k64, Mc4, r1, r2, r3, r4, r5, r6, r7, r8, r9⟩ | hfx
    case inr =>
      have hq := hfx.fqa
      rw [qF M7 hq, q_call_e, q_puts hq, q_call_e]
      exact ⟨_, rfl, .inr (hfx.pre s1 s5 s6 (by omega) (by omega))⟩
    have tl4 : TL (s + 1) 5 Mc4 := by
      right
      rw [show s + 1 - 1 = s by omega, r3, c4]
      have := (TKS.rng hv).1
      exact ⟨by omega, by omega⟩
    have h29 := (lvl_inv (Mc3 10 4)).2.2.2.1.mp c4
    have pf4 : PF false Mc4 M7 := by
      refine ⟨(fun z => by cases z), fun _ => .inl ?_⟩
      rw [r8]
      unfold yF
      rw [if_neg (by omega)]
    obtain ⟨M9, g1', g2'⟩ := hF u L a (s + 1) (D + 1) (k + 1) Mc4 M7 r2 tl4 pf4 (by rw [r4, r5, s3]; omega)
    rw [g1', q_call_e]
    have d4 : dF 4 = 0 := by decide
    rw [d4] at r6
    have crA := s1.trans r1
    have fcA : feC u a s (Mm 0 30 + 0) Mc Mc4 := (s5.mono (by omega) (by omega)).trans (by rw [← s3]; exact r6)
    have fmA := s6.trans r7
    rcases g2' with ⟨m, Mc5, w1, w2, w3, w4, w5, w6, w7⟩ | hfx
    case inr =>
      have hq := hfx.fqa
      rw [q_puts hq, q_call_e]
      exact ⟨_, rfl, .inr (hfx.pre crA fcA fmA (by omega) (by omega))⟩
    have t5 : Mc5 385 s = Mc3 10 4 := by
      rw [w5 385 s (by omega) (by omega) (by omega) (by omega) (by omega) (by omega), r3]
    have hc5 : Mc5 388 (Mm 0 30) = 1 := by
      rw [w5 388 (Mm 0 30) (by omega) (by omega) (by omega) (by omega) (by omega) (by omega), ← s3, r9]
      rfl
    obtain ⟨M11, p1, p2, p3, p4⟩ := putW (lo := 3) (v := v) (s := s) w2 (by rw [t5]; exact hv) (by rw [t5, c4]; omega) (by rw [if_neg hv260]; omega) (by rw [w3, r4, s3]; omega)
    rw [if_neg hv260, show D + 1 + 1 - 1 = D + 1 by omega] at p2
    rw [p1, q_call_e]
    refine ⟨M11, rfl, .inl ⟨m, Mc5, crA.trans w1, p2, ?_, ?_, ?_, ?_, ?_⟩⟩
    · rw [p3, w3, r4, s3]
    · rw [p3]; omega
    · refine fcA.trans (w5.mono (by omega) ?_)
      rw [r4, s3]; omega
    · exact (fmA.trans w6).trans p4
    · intro z1 z2
      have e30 : M11 0 30 = Mm 0 30 := by rw [p3, w3, r4, s3]
      rcases w7 z1 z2 with q | q
      · by_cases q4 : lvl (Mc5 10 4) = 4
        · exact .inr ⟨q4, by rw [e30]; exact hc5⟩
        · left; omega
      · exact .inr ⟨q.1, by rw [e30]; exact hc5⟩
