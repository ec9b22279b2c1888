theorem VEQ.tr {u v w : Mem} (x : VEQ u v) (y : VEQ v w) : VEQ u w := ⟨x.1.trans y.1, x.2.1.trans y.2.1, x.2.2.1.trans y.2.2.1, fun f i a b c d => (x.2.2.2 f i a b c d).trans (y.2.2.2 f i a b c d)⟩
theorem RelT.inrow {t : Nat} {Mc N : Mem} (h : RelT t Mc N) {s : Int} (hs : 0 ≤ s ∧ s < N 35 0) : (N 71 s = 1 ∧ ∃ p, f_X6_placeOf 4 s Mc = some p ∧ f_X10_placeOf 0 s N = some p ∧ 0 ≤ p ∧ p < N 69 0 ∧ N 70 p = s) ∨ (N 71 s ≠ 1 ∧ f_X6_placeOf 4 s Mc = some (-2)) := by
  have hS := h.2.1.2.1
  obtain ⟨pc, pm, p1, p2, p3⟩ := placeNow h (s := s) (by unfold in32; omega)
  have w0 := h.w0
  rcases p3 with ⟨rfl, q1, q2, q3⟩ | ⟨rfl, rfl, q3⟩
  · left
    refine ⟨?_, pc, p1, p2, q1, q2, q3⟩
    have := (w0.2.2.2.1 pc q1 q2).2.2
    simp [mvw, mvc] at this
    rw [q3] at this
    exact this
  · right
    refine ⟨fun e => ?_, p1⟩
    have e' : mvw 0 N 2 s = 1 := by simp [mvw, mvc]; exact e
    obtain ⟨i, i1, i2, i3⟩ := (w0.2.2.2.2.2 s hs.1 hs.2).2.2.2.2.2 e'
    simp [mvw, mvc] at i3
    exact q3 i i1 i2 i3
theorem place0 {s p : Int} {N N' : Mem} (v : VEQ (mvw 0 N) (mvw 0 N')) (w : 0 ≤ N 69 0 ∧ N 69 0 ≤ 8) (hr : ∀ i, 0 ≤ i → i < N 69 0 → in32 (N 70 i)) (hs : in32 s) (h : f_X10_placeOf 0 s N = some p) : f_X10_placeOf 0 s N' = some p := by
  have e9 : N 69 0 = N' 69 0 := v.2.2.1
  have er : ∀ i, 0 ≤ i → i < N 69 0 → N 70 i = N' 70 i := fun i a b => by
    have := v.2.2.2 8 i (by omega) (by omega) a (by omega)
    simpa [mvw, mvc] using this
  obtain ⟨x, a1, a2⟩ := placeOfM (q := 0) (s := s) (M := N) (by omega) (by omega) hs (fun j a b => by simp only [Int.mul_zero, Int.zero_add]; exact hr j a b)
  obtain ⟨y, b1, b2⟩ := placeOfM (q := 0) (s := s) (M := N') (by omega) (by omega) hs (fun j a b => by simp only [Int.mul_zero, Int.zero_add]; rw [← er j a (by omega)]; exact hr j a (by omega))
  rw [a1] at h
  have ex : x = p := by simpa using h
  rw [b1, ← ex]
  rw [← e9] at b2
  rcases a2.same b2 (fun j a b => by simp only [Int.mul_zero, Int.zero_add]; exact er j a b) with ⟨h1, -⟩ | ⟨h1, h2⟩
  · rw [h1]
  · rw [h1, h2]
theorem o_off : rs_off Rel := by
  intro Mc Mm a0 hR h0
  obtain ⟨t, hr⟩ := hR
  have hr := hr.thr (v := 0)
  show PW _ _
  unfold f_X9_off f_X10_off
  rw [q_pf_e]
  generalize up Mm 0 0 0 = N at hr ⊢
  have hR : Rel Mc N := ⟨t, hr⟩
  have h03 := hr.1.1
  have hT := hr.2.1
  have ht := hT.1
  have hS := hT.2.1
  have ec := isSoulC (a := a0) h03 (by omega) h0
  have em := isSoulM (M := N) (a := a0) (by omega) h0
  rw [hS.1] at ec
  have h0' := h0
  unfold in32 at h0
  rw [ec, em]
  by_cases c : 0 ≤ a0 ∧ a0 < N 35 0
  rotate_left
  · rw [if_neg c]
    (try simp (disch := omega) only [w32_id, q_gf_e, q_gr_e, q_pf_e, q_pz_e, q_let_e, q_call_e, q_calp_e, q_al_ok, q_as_ok, q_nz_ok, up_same, up_nei, up_ne1, Int.toNat_natCast, reduceIte, Int.reduceEq, Int.reduceLT, Int.reduceLE, Int.reduceNeg, not_true_eq_false, not_false_eq_true])
    exact PW.ok rfl hR
  rw [if_pos c]
  have hw := hr.raw c.1 c.2
  obtain ⟨dr1, dr2, dr3, -⟩ := hr.2.2.2.2.1
  rcases hr.inrow c with ⟨w1, p, p1, p2, p3, p4, p5⟩ | ⟨w1, p1⟩
  rotate_left
  · simp (disch := omega) only [w32_id, q_gf_e, q_gr_e, q_pf_e, q_pz_e, q_let_e, q_call_e, q_calp_e, q_al_ok, q_as_ok, q_nz_ok, up_same, up_nei, up_ne1, Int.toNat_natCast, reduceIte, Int.reduceEq, Int.reduceLT, Int.reduceLE, Int.reduceNeg, not_true_eq_false, not_false_eq_true, p1]
    rw [if_neg w1]
    exact PW.ok rfl hR
  have w0 := hr.w0
  have hs := hr.2.2.1.1
  have r9 : N 69 0 ≤ N 35 0 := w0.2.2.1.2
  have e49 : Mc 4 9 = N 69 0 := hs.1.2.2.1
  obtain ⟨k1, k2, k3, k4, k5, k6⟩ := KNM.q (N := N) ⟨dr2, dr3⟩
  have v0 := k4 0 (by omega) (by omega)
  have rr : ∀ i, 0 ≤ i → i < N 69 0 → in32 (N 70 i) := fun i a b => by
    have := w0.2.2.2.1 i a b
    simp [mvw, mvc] at this
    unfold in32; omega
  have pk := place0 v0 (by omega) rr h0' p2
  have k69 : KNM N 69 0 = N 69 0 := v0.2.2.1.symm
  have hl := leavesM (q := 0) (s := a0) (p := p) (v := 3) (M := KNM N) (by omega) (by omega) (by omega) (by omega) pk
  have ho := takeOutC (k := 4) (p := p) (M := Mc) (by omega) (by omega) (by omega)
  have t83 : up (TOC 4 p Mc) 162 a0 3 8 3 = Mc 8 3 := by
    rw [up_ne1 (by omega)]; unfold TOC; rw [if_neg (by omega), if_neg (by omega)]
  have hnote := noteC (kd := 2) (s := a0) (fo := p) (M := up (TOC 4 p Mc) 162 a0 3) (by rw [t83]; omega)
  obtain ⟨n1, n2, n3, n4⟩ := NTC.at (kd := 2) (s := a0) (fo := p) (M := up (TOC 4 p Mc) 162 a0 3)
  rw [t83, dr1] at n1 n2 n3
  have tN : ∀ n, n ≠ 4 → (n < 162 ∨ 168 < n) → up (TOC 4 p Mc) 162 a0 3 n = Mc n := fun n a b => by
    rw [up_ne1 (by omega)]; funext i; unfold TOC; rw [if_neg (by omega), if_neg (by omega)]
  have vc0 : VEQ (cvw 4 (up (TOC 4 p Mc) 162 a0 3)) (AWV a0 p (cvw 4 Mc)) := TOCU.vw (k := 4) (s := a0) (p := p) (M := Mc)
  have vc : VEQ (cvw 4 (NTC 2 a0 p (up (TOC 4 p Mc) 162 a0 3))) (AWV a0 p (cvw 4 Mc)) := VEQ.tr (cvw_eq (n4 4 (by omega) (by omega)) (fun f a b => n4 _ (by omega) (by omega))).symm vc0
  have vm := LVM3.vw (q := 0) (s := a0) (p := p) (M := KNM N)
  have c9 : cvw 4 Mc 0 9 = N 69 0 := e49
  have m9 : mvw 0 (KNM N) 0 9 = N 69 0 := k69
  have ek : EQV (N 35 0) (mvw 0 N) (mvw 0 (KNM N)) := VEQ.to v0 (by omega) (by show N 69 0 ≤ 8; omega)
  have Ec := VEQ.to (S := N 35 0) vc (by omega) (by rw [vc.2.2.1, AWV.f0, if_pos rfl]; omega)
  have Em := VEQ.to (S := N 35 0) vm (by omega) (by rw [vm.2.2.1, AWV.f0, if_pos rfl]; omega)
  have E2 : EQV (N 35 0) (mvw 0 (LVM 0 a0 p 3 (KNM N))) (AWV a0 p (mvw 0 N)) := Em.trans (AWV.eqv ek.symm p3)
  have m2 : mvw 0 N 2 a0 = 1 := by simp [mvw, mvc]; exact w1
  have m8 : mvw 0 N 8 p = a0 := by simp [mvw, mvc]; exact p5
  have c8 : cvw 4 Mc 8 p = a0 := by rw [hs.1.2.2.2.1 p p3 (by omega)]; exact m8
  have lN : ∀ n, n ≠ 69 → n ≠ 70 → n ≠ 71 → LVM 0 a0 p 3 (KNM N) n = KNM N n := fun n a b d => by
    funext i; unfold LVM; rw [if_neg (by omega), if_neg (by omega), if_neg (by omega)]
  have vq : ∀ q, 1 ≤ q → VEQ (mvw q (KNM N)) (mvw q (LVM 0 a0 p 3 (KNM N))) := fun q hq => mvw_eq (fun n a b => by unfold LVM; rw [if_neg (by omega), if_neg (by omega), if_neg (by omega)]) (fun n i a b d g => by unfold LVM; rw [if_neg (by omega), if_neg (by omega), if_neg (by omega)])
  have hn : 0 ≤ nn (N 0 46) := by unfold nn; split <;> omega
  have hfin : RelT t (NTC 2 a0 p (up (TOC 4 p Mc) 162 a0 3)) (LVM 0 a0 p 3 (KNM N)) := by
    refine deedRel (kd := 2) (s := a0) (fo := p) hr n1 ?_ n3 ?_ ?_ ?_ ?_ (VEQ.tr (k4 2 (by omega) (by omega)) (vq 2 (by omega))) (fun j a b => VEQ.tr (k5 j a b) (vq _ (by omega))) (VEQ.tr k6 (vq _ (by omega))) ⟨?_, ?_, ?_⟩ ?_ ?_
    · intro c i a b d g
      rw [n2 c i a b d g, tN c (by omega) (by omega)]
    · intro n a b d g x
      rw [n4 n g x, tN n b d]
    · rw [lN 0 (by omega) (by omega) (by omega)]; exact k1
    · intro f a; rw [lN 0 (by omega) (by omega) (by omega)]; exact k2 f a
    · intro n a b; rw [lN n (by omega) (by omega) (by omega)]; exact k3 n a b
    · exact Ec.trans ((AWV.eqv hs.1 p3).trans E2.symm)
    · exact WFB.of (AWV.wf hs.2.1 (by omega) c8) Ec.symm
    · exact NOB.of (AWV.nob (NOB.of hs.2.2 v0 (by omega)) (by rw [← v0.2.2.2 2 a0 (by omega) (by omega) c.1 (by omega), m2]; omega)) vm.symm (by omega)
    · rw [n4 4 (by omega) (by omega), up_ne1 (by omega)]
      show TOC 4 p Mc 4 0 ≤ 9800
      unfold TOC; rw [if_neg (by omega), if_neg (by omega)]
      exact hr.2.2.1.2
    · have g9 : mvw 0 (LVM 0 a0 p 3 (KNM N)) 0 9 = N 69 0 - 1 := by rw [vm.2.2.1, AWV.f0, if_pos rfl, m9]
      have g2 : mvw 0 (LVM 0 a0 p 3 (KNM N)) 2 a0 = 3 := by rw [vm.2.2.2 2 a0 (by omega) (by omega) c.1 (by omega), AWV.f2, if_pos rfl]
      refine ⟨c, .inr (.inr ⟨rfl, g2, p3, by omega, by omega, ?_⟩)⟩
      exact (PIV.eqv E2 (by omega) (by omega)).trans (PIV_AWV ⟨p3, p4⟩ m8 m2)
  simp (disch := omega) only [w32_id, q_gf_e, q_gr_e, q_pf_e, q_pz_e, q_let_e, q_call_e, q_calp_e, q_al_ok, q_as_ok, q_nz_ok, up_same, up_nei, up_ne1, Int.toNat_natCast, reduceIte, Int.reduceEq, Int.reduceLT, Int.reduceLE, Int.reduceNeg, not_true_eq_false, not_false_eq_true, p1, w1, hl]
  rw [keepM ⟨dr2, dr3⟩]
  simp (disch := omega) only [w32_id, q_gf_e, q_gr_e, q_pf_e, q_pz_e, q_let_e, q_call_e, q_calp_e, q_al_ok, q_as_ok, q_nz_ok, up_same, up_nei, up_ne1, Int.toNat_natCast, reduceIte, Int.reduceEq, Int.reduceLT, Int.reduceLE, Int.reduceNeg, not_true_eq_false, not_false_eq_true, hl]
  rw [if_pos p3, ho]
  simp (disch := omega) only [w32_id, q_gf_e, q_gr_e, q_pf_e, q_pz_e, q_let_e, q_call_e, q_calp_e, q_al_ok, q_as_ok, q_nz_ok, up_same, up_nei, up_ne1, Int.toNat_natCast, reduceIte, Int.reduceEq, Int.reduceLT, Int.reduceLE, Int.reduceNeg, not_true_eq_false, not_false_eq_true, hnote]
  have a1 : NTC 2 a0 p (up (TOC 4 p Mc) 162 a0 3) 4 9 = N 69 0 - 1 := by
    have := vc.2.2.1
    rw [AWV.f0, if_pos rfl, c9] at this
    exact this
  have a2 : LVM 0 a0 p 3 (KNM N) 69 0 = N 69 0 - 1 := by
    have := vm.2.2.1
    rw [AWV.f0, if_pos rfl, m9] at this
    exact this
  rw [a1, a2]
  exact PW.ok rfl ⟨t, hfin⟩
