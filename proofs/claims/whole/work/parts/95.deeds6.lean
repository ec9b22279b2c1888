theorem o_move : rs_move Rel := by
  intro Mc Mm a0 a1 hR h0 h1
  obtain ⟨t, hr⟩ := hR
  have hr := hr.thr (v := 0)
  show PW _ _
  unfold f_X9_move f_X10_move
  rw [q_pf_e]
  generalize up Mm 0 0 0 = N at hr ⊢
  have hR : Rel Mc N := ⟨t, hr⟩
  have h03 := hr.1.1
  have hT := hr.2.1
  have ht := hT.1
  have hS := hT.2.1
  have ec := isSoulC (a := a0) h03 (by omega) h0
  have em := isSoulM (M := N) (a := a0) (by omega) h0
  rw [hS.1] at ec
  have h0' := h0
  unfold in32 at h0 h1
  rw [ec, em]
  by_cases c : 0 ≤ a0 ∧ a0 < N 35 0
  rotate_left
  · rw [if_neg c]
    (try simp (disch := omega) only [w32_id, q_gf_e, q_gr_e, q_pf_e, q_pz_e, q_let_e, q_call_e, q_calp_e, q_al_ok, q_as_ok, q_nz_ok, up_same, up_nei, up_ne1, Int.toNat_natCast, reduceIte, Int.reduceEq, Int.reduceLT, Int.reduceLE, Int.reduceNeg, not_true_eq_false, not_false_eq_true])
    exact PW.ok rfl hR
  rw [if_pos c]
  have hw := hr.raw c.1 c.2
  obtain ⟨dr1, dr2, dr3, -⟩ := hr.2.2.2.2.1
  have w0 := hr.w0
  have hs := hr.2.2.1.1
  have r9 : 0 ≤ N 69 0 ∧ N 69 0 ≤ N 35 0 := w0.2.2.1
  have e49 : Mc 4 9 = N 69 0 := hs.1.2.2.1
  rcases hr.inrow c with ⟨w1, p, p1, p2, p3, p4, p5⟩ | ⟨w1, p1⟩
  rotate_left
  · simp (disch := omega) only [w32_id, q_gf_e, q_gr_e, q_pf_e, q_pz_e, q_let_e, q_call_e, q_calp_e, q_al_ok, q_as_ok, q_nz_ok, up_same, up_nei, up_ne1, Int.toNat_natCast, reduceIte, Int.reduceEq, Int.reduceLT, Int.reduceLE, Int.reduceNeg, not_true_eq_false, not_false_eq_true, p1, e49]
    rw [if_pos w1]
    by_cases c1 : a1 < 0
    · rw [if_pos c1]; exact PW.ok rfl hR
    · rw [if_neg c1]
      split <;> exact PW.ok rfl hR
  simp (disch := omega) only [w32_id, q_gf_e, q_gr_e, q_pf_e, q_pz_e, q_let_e, q_call_e, q_calp_e, q_al_ok, q_as_ok, q_nz_ok, up_same, up_nei, up_ne1, Int.toNat_natCast, reduceIte, Int.reduceEq, Int.reduceLT, Int.reduceLE, Int.reduceNeg, not_true_eq_false, not_false_eq_true, p1, e49, w1]
  by_cases c1 : a1 < 0
  · rw [if_pos c1, if_pos c1]; exact PW.ok rfl hR
  rw [if_neg c1, if_neg c1]
  by_cases c2 : a1 < N 69 0
  rotate_left
  · rw [if_neg c2, if_neg c2]; exact PW.ok rfl hR
  rw [if_pos c2, if_pos c2, if_neg (show ¬ p < 0 by omega)]
  by_cases c3 : p = a1
  · have n3 : ¬ ¬ p = a1 := fun h => h c3
    rw [p2]
    (try simp (disch := omega) only [w32_id, q_gf_e, q_gr_e, q_pf_e, q_pz_e, q_let_e, q_call_e, q_calp_e, q_al_ok, q_as_ok, q_nz_ok, up_same, up_nei, up_ne1, Int.toNat_natCast, reduceIte, Int.reduceEq, Int.reduceLT, Int.reduceLE, Int.reduceNeg, not_true_eq_false, not_false_eq_true])
    rw [if_neg n3, if_neg n3]; exact PW.ok rfl hR
  rw [if_pos c3]
  obtain ⟨k1, k2, k3, k4, k5, k6⟩ := KNM.q (N := N) ⟨dr2, dr3⟩
  have v0 := k4 0 (by omega) (by omega)
  have k69 : KNM N 69 0 = N 69 0 := v0.2.2.1.symm
  have ek : EQV (N 35 0) (mvw 0 N) (mvw 0 (KNM N)) := VEQ.to v0 (by omega) (by show N 69 0 ≤ 8; omega)
  have k71 : KNM N 71 a0 = 1 := by
    have := v0.2.2.2 2 a0 (by omega) (by omega) c.1 (by omega)
    simp [mvw, mvc] at this
    rw [← this]; exact w1
  have ho := takeOutC (k := 4) (p := p) (M := Mc) (by omega) (by omega) (by omega)
  have t49 : TOC 4 p Mc 4 9 = N 69 0 - 1 := by unfold TOC; rw [if_neg (by omega), if_pos ⟨rfl, rfl⟩, e49]
  have hpi := putInC (k := 4) (s := a0) (p := a1) (M := TOC 4 p Mc) (by omega) (by omega) (by omega) (by omega)
  have tN : ∀ n, n ≠ 4 → (n < 162 ∨ 168 < n) → PIC 4 a0 a1 (TOC 4 p Mc) n = Mc n := fun n a b => by
    funext i
    unfold PIC
    rw [if_neg (by omega), if_neg (by omega), if_neg (by omega), if_neg (by omega)]
    unfold TOC; rw [if_neg (by omega), if_neg (by omega)]
  have hnote := noteC (kd := 0) (s := a0) (fo := p) (M := PIC 4 a0 a1 (TOC 4 p Mc)) (by rw [tN 8 (by omega) (by omega)]; omega)
  obtain ⟨n1, n2, n3, n4⟩ := NTC.at (kd := 0) (s := a0) (fo := p) (M := PIC 4 a0 a1 (TOC 4 p Mc))
  rw [tN 8 (by omega) (by omega), dr1] at n1 n2 n3
  obtain ⟨m9, mE⟩ := MVM.vw (s := a0) (f := p) (p := a1) (M := KNM N) (by omega) (by omega) k71
  have mE := mE (N 35 0)
  have vc0 : VEQ (cvw 4 (NTC 0 a0 p (PIC 4 a0 a1 (TOC 4 p Mc)))) (PIV a0 a1 (cvw 4 (TOC 4 p Mc))) := VEQ.tr (cvw_eq (n4 4 (by omega) (by omega)) (fun f a b => n4 _ (by omega) (by omega))).symm PIC.vw
  have c9 : cvw 4 Mc 0 9 = N 69 0 := e49
  have u9 : cvw 4 (TOC 4 p Mc) 0 9 = N 69 0 - 1 := t49
  have m2 : mvw 0 N 2 a0 = 1 := by simp [mvw, mvc]; exact w1
  have m8 : mvw 0 N 8 p = a0 := by simp [mvw, mvc]; exact p5
  have c8 : cvw 4 Mc 8 p = a0 := by rw [hs.1.2.2.2.1 p p3 (by omega)]; exact m8
  have c2' : cvw 4 Mc 2 a0 = 1 := by rw [(hs.1.2.2.2.2 a0 c.1 c.2).1]; exact m2
  have ET : EQV (N 35 0) (cvw 4 (TOC 4 p Mc)) (TOV p (cvw 4 Mc)) := VEQ.to TOC.vw (by omega) (by omega)
  have u2 : cvw 4 (TOC 4 p Mc) 2 a0 = 1 := by rw [(ET.2.2.2.2 a0 c.1 c.2).1, TOV.fo (by omega)]; exact c2'
  have Ec : EQV (N 35 0) (cvw 4 (NTC 0 a0 p (PIC 4 a0 a1 (TOC 4 p Mc)))) (PIV a0 a1 (TOV p (cvw 4 Mc))) := (VEQ.to vc0 (by omega) (by rw [vc0.2.2.1, PIV.f0, if_pos rfl]; omega)).trans (PIV.eqv ET (by omega) (by omega))
  have aw9 : AWV a0 p (cvw 4 Mc) 0 9 = N 69 0 - 1 := by rw [AWV.f0, if_pos rfl, c9]
  have aw2 : AWV a0 p (cvw 4 Mc) 2 a0 = 3 := by rw [AWV.f2, if_pos rfl]
  have E1 : EQV (N 35 0) (PIV a0 a1 (TOV p (cvw 4 Mc))) (PIV a0 a1 (TOV p (mvw 0 (KNM N)))) := by
    rw [← PIV_AW, ← PIV_AW]
    exact PIV.eqv (AWV.eqv (hs.1.trans ek) p3) (by omega) (by omega)
  have E2 : EQV (N 35 0) (PIV a0 a1 (TOV p (mvw 0 (KNM N)))) (PIV a0 a1 (TOV p (mvw 0 N))) := by
    rw [← PIV_AW, ← PIV_AW]
    refine PIV.eqv (AWV.eqv ek.symm p3) ?_ ?_
    · rw [AWV.f0, if_pos rfl]; have : mvw 0 (KNM N) 0 9 = N 69 0 := k69; omega
    · rw [AWV.f2, if_pos rfl]; omega
  have mN : ∀ n, n ≠ 70 → MVM a0 p a1 (KNM N) n = KNM N n := fun n a => by
    funext i; unfold MVM; rw [if_neg (by omega), if_neg (by omega), if_neg (by omega)]
  have vq : ∀ q, 1 ≤ q → VEQ (mvw q (KNM N)) (mvw q (MVM a0 p a1 (KNM N))) := fun q hq => mvw_eq (fun n a b => by rw [mN n (by omega)]) (fun n i a b d g => by unfold MVM; rw [if_neg (by omega), if_neg (by omega), if_neg (by omega)])
  have hn : 0 ≤ nn (N 0 46) := by unfold nn; split <;> omega
  have wf : WFV (N 35 0) (PIV a0 a1 (TOV p (cvw 4 Mc))) := by
    rw [← PIV_AW]
    exact PIV.wf (AWV.wf hs.2.1 (by omega) c8) c (by omega) (by omega)
  have hfin : RelT t (NTC 0 a0 p (PIC 4 a0 a1 (TOC 4 p Mc))) (MVM a0 p a1 (KNM N)) := by
    refine deedRel (kd := 0) (s := a0) (fo := p) hr n1 ?_ n3 ?_ ?_ ?_ ?_ (VEQ.tr (k4 2 (by omega) (by omega)) (vq 2 (by omega))) (fun j a b => VEQ.tr (k5 j a b) (vq _ (by omega))) (VEQ.tr k6 (vq _ (by omega))) ⟨?_, ?_, ?_⟩ ?_ ?_
    · intro c i a b d g
      rw [n2 c i a b d g, tN c (by omega) (by omega)]
    · intro n a b d g x
      rw [n4 n g x, tN n b d]
    · rw [mN 0 (by omega)]; exact k1
    · intro f a; rw [mN 0 (by omega)]; exact k2 f a
    · intro n a b; rw [mN n (by omega)]; exact k3 n a b
    · exact Ec.trans (E1.trans mE.symm)
    · exact WFB.of wf Ec.symm
    · intro j a b e
      have q6 : mvw 0 (MVM a0 p a1 (KNM N)) 6 j = mvw 0 (KNM N) 6 j := by
        show MVM a0 p a1 (KNM N) 75 _ = KNM N 75 _
        rw [mN 75 (by omega)]
      have q2 : mvw 0 (MVM a0 p a1 (KNM N)) 2 j = mvw 0 (KNM N) 2 j := by
        show MVM a0 p a1 (KNM N) 71 _ = KNM N 71 _
        rw [mN 71 (by omega)]
      rw [q2] at e
      rw [q6]
      exact (NOB.of hs.2.2 v0 (by omega)) j a b e
    · rw [n4 4 (by omega) (by omega)]
      show PIC 4 a0 a1 (TOC 4 p Mc) 4 0 ≤ 9800
      unfold PIC
      rw [if_neg (by omega), if_neg (by omega), if_neg (by omega), if_neg (by omega)]
      unfold TOC; rw [if_neg (by omega), if_neg (by omega)]
      exact hr.2.2.1.2
    · have E3 := mE.trans E2
      have g8 : mvw 0 (MVM a0 p a1 (KNM N)) 8 a1 = a0 := by
        rw [E3.2.2.2.1 a1 (by omega) (by omega), PIV.f8, if_pos rfl]
      refine ⟨c, .inl ⟨rfl, a1, by omega, by omega, g8, p3, by omega, ?_⟩⟩
      refine EQV.trans (PIV.eqv (TOV.eqv E3 (by omega)) ⟨p3, ?_⟩ ?_) (PIV_TOV ⟨p3, p4⟩ ⟨by omega, c2⟩ m8 m2)
      · rw [TOV.f0, if_pos rfl]; omega
      · rw [TOV.fo (by omega), (E3.2.2.2.2 a0 c.1 c.2).1, PIV.f2, if_pos rfl]; omega
  rw [p2, ho]
  simp (disch := omega) only [w32_id, q_gf_e, q_gr_e, q_pf_e, q_pz_e, q_let_e, q_call_e, q_calp_e, q_al_ok, q_as_ok, q_nz_ok, up_same, up_nei, up_ne1, Int.toNat_natCast, reduceIte, Int.reduceEq, Int.reduceLT, Int.reduceLE, Int.reduceNeg, not_true_eq_false, not_false_eq_true, hpi, hnote]
  rw [if_pos c3, keepM ⟨dr2, dr3⟩]
  (try simp (disch := omega) only [w32_id, q_gf_e, q_gr_e, q_pf_e, q_pz_e, q_let_e, q_call_e, q_calp_e, q_al_ok, q_as_ok, q_nz_ok, up_same, up_nei, up_ne1, Int.toNat_natCast, reduceIte, Int.reduceEq, Int.reduceLT, Int.reduceLE, Int.reduceNeg, not_true_eq_false, not_false_eq_true])
  by_cases c4 : a1 ≤ p
  · rw [if_pos c4, moveM2 (by omega) (by omega) (by omega)]
    exact PW.ok rfl ⟨t, hfin⟩
  · rw [if_neg c4, moveM1 (by omega) (by omega) (by omega)]
    exact PW.ok rfl ⟨t, hfin⟩
