/-- the relation behind an undoing -/
theorem undoRel {t : Nat} {Mc Mc' N : Mem} (h : RelT t Mc N) (h46 : 1 ≤ N 0 46) (c8 : Mc' 8 3 = N 0 46 - 1) (cN : ∀ n, KC t n → n ≠ 4 → (n < 162 ∨ 168 < n) → n ≠ 8 → Mc' n = Mc n) (hE : EQV (N 35 0) (cvw 4 Mc') (mvw (3 + (N 0 46 - 1)) N)) (hm : Mc' 4 0 = Mc 4 0) : RelT t Mc' (CPM 0 (3 + (N 0 46 - 1)) (up N 0 46 (N 0 46 - 1))) := by
  have h98 := h.m98
  obtain ⟨h1, hT, ⟨h3, h3'⟩, h4, h5, h6, h7, h8, h9⟩ := h
  have ht := hT.1
  have hS := hT.2.1
  obtain ⟨d1, d2, d3, d4⟩ := h5
  obtain ⟨n, hn⟩ : ∃ n, n = N 0 46 - 1 := ⟨_, rfl⟩
  rw [← hn] at c8 hE ⊢
  obtain ⟨g1, g2, g3⟩ := d4 n (by omega) (by omega)
  have mN : ∀ m, m ≠ 0 → (m < 67 ∨ 76 < m) → CPM 0 (3 + n) (up N 0 46 n) m = N m := fun m a b => by
    funext i; unfold CPM; rw [if_neg (by omega), if_neg (by omega), up_ne1 a]
  have m0 : ∀ f, f ≠ 46 → CPM 0 (3 + n) (up N 0 46 n) 0 f = N 0 f := fun f a => by
    unfold CPM; rw [if_neg (by omega), if_neg (by omega), up_nei a]
  have m46 : CPM 0 (3 + n) (up N 0 46 n) 0 46 = n := by
    unfold CPM; rw [if_neg (by omega), if_neg (by omega), up_same]
  have vq : ∀ q, 1 ≤ q → VEQ (mvw q N) (mvw q (CPM 0 (3 + n) (up N 0 46 n))) := fun q hq => mvw_eq (fun m a b => by unfold CPM; rw [if_neg (by omega), if_neg (by omega), up_ne1 (by omega)]) (fun m i a b c d => by unfold CPM; rw [if_neg (by omega), if_neg (by omega), up_ne1 (by omega)])
  have v0 : VEQ (mvw (3 + n) N) (mvw 0 (CPM 0 (3 + n) (up N 0 46 n))) := by
    have x := CPM.vw (q := 0) (q0 := 3 + n) (M := up N 0 46 n)
    have y : VEQ (mvw (3 + n) N) (mvw (3 + n) (up N 0 46 n)) := mvw_eq (fun m a b => by rw [up_ne1 (by omega)]) (fun m i a b c d => by rw [up_ne1 (by omega)])
    exact y.tr x.symm
  have e35 := mN 35 (by omega) (by omega)
  have c0 : Mc' 0 = Mc 0 := cN 0 (by unfold KC; omega) (by omega) (by omega) (by omega)
  have c1 : Mc' 1 = Mc 1 := cN 1 (by unfold KC; omega) (by omega) (by omega) (by omega)
  have c6 : Mc' 6 = Mc 6 := cN 6 (by unfold KC; omega) (by omega) (by omega) (by omega)
  have v6 : VEQ (cvw 6 Mc) (cvw 6 Mc') := cvw_eq c6 (fun f a b => cN _ (by unfold KC; omega) (by omega) (by omega) (by omega))
  have k0 := VEQ.to (S := N 35 0) v0 (by omega) (by have := g1.2.2.1; omega)
  unfold RelT
  rw [e35, c0, c1, c6, m0 45 (by omega), m0 47 (by omega), m0 48 (by omega)]
  refine ⟨h1, TR.frm2 hT (fun m a => cN m (by unfold KC; omega) (by omega) (by omega) (by omega)) (fun m a b => mN m (by omega) (by omega)), ⟨⟨hE.trans k0, WFB.of g1 hE.symm, NOB.of g2 v0 (by omega)⟩, by rw [hm]; exact h3'⟩, ⟨h4.1, h4.2.1, fun c => ⟨(h4.2.2 c).1.of (by omega) v6 (vq 2 (by omega)), (h4.2.2 c).2⟩⟩, ⟨by rw [c8, m46], by rw [m46]; omega, by rw [m46]; omega, fun j a b => ?_⟩, h6.of (cN 9 (by unfold KC; omega) (by omega) (by omega) (by omega)) (fun m a b => cN m (by unfold KC; omega) (by omega) (by omega) (by omega)) (m0 58 (by omega)) (m0 59 (by omega)) (fun m a b => mN m (by omega) (by omega)), h7.of (by rw [c0]) (cN 32 (by unfold KC; omega) (by omega) (by omega) (by omega)) c1 (cN 352 (by unfold KC; omega) (by omega) (by omega) (by omega)) (m0 2 (by omega)) (m0 28 (by omega)) (m0 29 (by omega)) (mN 33 (by omega) (by omega)), h8, h9⟩
  rw [m46] at b ⊢
  obtain ⟨x1, x2, x3⟩ := d4 j a (by omega)
  have vj := vq (3 + j) (by omega)
  have kj := VEQ.to (S := N 35 0) vj (by omega) (by have := x1.2.2.1; omega)
  rw [cN 288 (by unfold KC; omega) (by omega) (by omega) (by omega), cN 289 (by unfold KC; omega) (by omega) (by omega) (by omega), cN 290 (by unfold KC; omega) (by omega) (by omega) (by omega)]
  refine ⟨WFB.of x1 kj, NOB.of x2 vj (by omega), ?_⟩
  rw [if_neg (by omega)] at x3
  have wj := (d4 (j + 1) (by omega) (by omega)).1
  rw [show 3 + (j + 1) = 4 + j by omega] at wj
  by_cases cl : j + 1 = n
  · rw [if_pos cl]
    rw [show 3 + n = 4 + j by omega] at k0
    rw [show 3 + n = 4 + j by omega] at kj ⊢
    exact x3.of wj k0 kj
  · rw [if_neg cl]
    have k2 := VEQ.to (S := N 35 0) (vq (4 + j) (by omega)) (by omega) (by have := wj.2.2.1; omega)
    exact x3.of wj k2 kj
theorem o_undo : rs_undo Rel := by
  intro Mc Mm hR
  obtain ⟨t, hr⟩ := hR
  have hr := hr.thr (v := 0)
  show PW _ _
  unfold f_X9_undo f_X10_undo
  rw [q_pf_e (M := Mm) (n := 0) (f := 0) (v := 0)]
  generalize up Mm 0 0 0 = N at hr ⊢
  have hR : Rel Mc N := ⟨t, hr⟩
  have hT := hr.2.1
  have ht := hT.1
  have hS := hT.2.1
  have hs := hr.2.2.1.1
  have w0 := hr.w0
  obtain ⟨d1, d2, d3, d4⟩ := hr.2.2.2.2.1
  simp (disch := omega) only [w32_id, q_gf_e, q_gr_e, q_pf_e, q_pz_e, q_let_e, q_call_e, q_calp_e, q_al_ok, q_as_ok, q_nz_ok, up_same, up_nei, up_ne1, Int.toNat_natCast, reduceIte, Int.reduceEq, Int.reduceLT, Int.reduceLE, Int.reduceNeg, not_true_eq_false, not_false_eq_true, d1]
  by_cases c : N 0 46 = 0
  · rw [if_neg (by omega), if_neg (fun h => h c)]; exact PW.ok rfl hR
  rw [if_pos (by omega), if_pos c]
  obtain ⟨n, hn⟩ : ∃ n, n = N 0 46 - 1 := ⟨_, rfl⟩
  obtain ⟨g1, g2, ⟨gs, g3⟩⟩ := d4 n (by omega) (by omega)
  rw [if_pos (by omega)] at g3
  have hc := copiesM (q := 0) (q0 := 3 + (N 0 46 - 1)) (M := up N 0 46 (N 0 46 - 1)) (by omega) (by omega) (by omega)
  have e46 : CPM 0 (3 + (N 0 46 - 1)) (up N 0 46 (N 0 46 - 1)) 0 46 = N 0 46 - 1 := by
    unfold CPM; rw [if_neg (by omega), if_neg (by omega), up_same]
  rw [hc]
  simp (disch := omega) only [w32_id, q_gf_e, q_gr_e, q_pf_e, q_pz_e, q_let_e, q_call_e, q_calp_e, q_al_ok, q_as_ok, q_nz_ok, up_same, up_nei, up_ne1, Int.toNat_natCast, reduceIte, Int.reduceEq, Int.reduceLT, Int.reduceLE, Int.reduceNeg, not_true_eq_false, not_false_eq_true, e46]
  have r9 : 0 ≤ N 69 0 ∧ N 69 0 ≤ N 35 0 := w0.2.2.1
  have e49 : Mc 4 9 = N 69 0 := hs.1.2.2.1
  have c9 : cvw 4 Mc 0 9 = N 69 0 := e49
  have m9 : mvw 0 N 0 9 = N 69 0 := rfl
  obtain ⟨kd, hkd⟩ : ∃ kd, kd = Mc 288 n := ⟨_, rfl⟩
  obtain ⟨s, hss⟩ : ∃ s, s = Mc 289 n := ⟨_, rfl⟩
  obtain ⟨fo, hfo⟩ : ∃ fo, fo = Mc 290 n := ⟨_, rfl⟩
  rw [← hkd, ← hss, ← hfo] at g3
  rw [← hss] at gs
  -- what is looked at when the last deed is read
  have u8 : ∀ m, m ≠ 8 → up Mc 8 3 n m = Mc m := fun m a => up_ne1 a
  have undoR : ∀ Mc', Mc' 8 3 = n → (∀ m, KC t m → m ≠ 4 → (m < 162 ∨ 168 < m) → m ≠ 8 → Mc' m = Mc m) → EQV (N 35 0) (cvw 4 Mc') (mvw (3 + n) N) → Mc' 4 0 = Mc 4 0 → RelT t Mc' (CPM 0 (3 + n) (up N 0 46 n)) := by
    intro Mc' a b d e
    rw [hn] at a d ⊢
    exact undoRel hr (by omega) a b d e
  have main : ∃ Mc', f_X0_undoLast 4 Mc = some (0, Mc') ∧ RelT t Mc' (CPM 0 (3 + (N 0 46 - 1)) (up N 0 46 (N 0 46 - 1))) ∧ Mc' 8 3 = N 0 46 - 1 := by
    unfold f_X0_undoLast
    simp (disch := omega) only [w32_id, q_gf_e, q_gr_e, q_pf_e, q_pz_e, q_let_e, q_call_e, q_calp_e, q_al_ok, q_as_ok, q_nz_ok, up_same, up_nei, up_ne1, Int.toNat_natCast, reduceIte, Int.reduceEq, Int.reduceLT, Int.reduceLE, Int.reduceNeg, not_true_eq_false, not_false_eq_true, d1]
    rw [if_pos (by omega), ← hn]
    have hk : kd = 0 ∨ kd = 1 ∨ kd = 2 := by
      rcases g3 with ⟨h, -⟩ | ⟨h, -⟩ | ⟨h, -⟩ <;> omega
    have b288 : up Mc 8 3 n 288 n = kd := by rw [u8 288 (by omega), hkd]
    have b289 : up Mc 8 3 n 289 n = s := by rw [u8 289 (by omega), hss]
    have b290 : up Mc 8 3 n 290 n = fo := by rw [u8 290 (by omega), hfo]
    have a289 : Mc 289 n = s := hss.symm
    have a290 : Mc 290 n = fo := hfo.symm
    have vu : VEQ (cvw 4 Mc) (cvw 4 (up Mc 8 3 n)) := cvw_eq (up_ne1 (by omega)) (fun f a b => up_ne1 (by omega))
    have eu : EQV (N 35 0) (cvw 4 (up Mc 8 3 n)) (mvw 0 N) := (VEQ.to vu (by omega) (by omega)).symm.trans hs.1
    have u9 : up Mc 8 3 n 4 9 = N 69 0 := by rw [u8 4 (by omega)]; exact e49
    have u40 : up Mc 8 3 n 4 0 = Mc 4 0 := by rw [u8 4 (by omega)]
    rcases g3 with ⟨k0, p, p1, p2, p3, f1, f2, q⟩ | ⟨k0, q⟩ | ⟨k0, q1, f1, f2, f3, q⟩
    · -- moved
      have p2' : p < N 69 0 := p2
      have f2' : fo < N 69 0 := f2
      have pl : f_X6_placeOf 4 s (up Mc 8 3 n) = some p := by
        obtain ⟨x, a1, a2⟩ := placeOfC (k := 4) (s := s) (M := up Mc 8 3 n) (by omega) (by unfold in32; omega) (fun j a b => by
          have := w0.2.2.2.1 j a (by omega)
          have e := eu.2.2.2.1 j a (by show j < up Mc 8 3 n 4 9; omega)
          have e' : up Mc 8 3 n (32 * (4 + 1) + 8) j = mvw 0 N 8 j := e
          rw [e']; unfold in32; omega)
        rw [a1]
        congr 1
        have er : ∀ j, 0 ≤ j → j < N 69 0 → up Mc 8 3 n (32 * (4 + 1) + 8) j = mvw 0 N 8 j := fun j a b => eu.2.2.2.1 j a (by show j < up Mc 8 3 n 4 9; omega)
        rw [u9] at a2
        rcases a2 with ⟨z1, z2, z3, z4⟩ | ⟨z1, z2⟩
        · rw [er x z1 z2] at z3
          rcases Int.lt_trichotomy x p with l | l | l
          · exact absurd (z3.trans p3.symm) (w0.2.2.2.2.1 x p z1 l p2)
          · exact l
          · exact absurd (p3.trans z3.symm) (w0.2.2.2.2.1 p x p1 l z2)
        · exact absurd p3 (by rw [← er p p1 p2]; exact z2 p p1 p2)
      have ho := takeOutC (k := 4) (p := p) (M := up Mc 8 3 n) (by omega) (by omega) (by omega)
      have t49 : TOC 4 p (up Mc 8 3 n) 4 9 = N 69 0 - 1 := by unfold TOC; rw [if_neg (by omega), if_pos ⟨rfl, rfl⟩, u9]
      have tN : ∀ m, m ≠ 4 → m ≠ 168 → TOC 4 p (up Mc 8 3 n) m = up Mc 8 3 n m := fun m a b => by
        funext i; unfold TOC; rw [if_neg (by omega), if_neg (by omega)]
      have t83 : TOC 4 p (up Mc 8 3 n) 8 3 = n := by rw [tN 8 (by omega) (by omega), up_same]
      have t290 : TOC 4 p (up Mc 8 3 n) 290 n = fo := by rw [tN 290 (by omega) (by omega)]; exact b290
      have hpi := putInC (k := 4) (s := s) (p := fo) (M := TOC 4 p (up Mc 8 3 n)) (by omega) (by omega) (by omega) (by omega)
      have a288 : Mc 288 n = 0 := hkd.symm.trans k0
      simp (disch := omega) only [w32_id, q_gf_e, q_gr_e, q_pf_e, q_pz_e, q_let_e, q_call_e, q_calp_e, q_al_ok, q_as_ok, q_nz_ok, up_same, up_nei, up_ne1, Int.toNat_natCast, reduceIte, Int.reduceEq, Int.reduceLT, Int.reduceLE, Int.reduceNeg, not_true_eq_false, not_false_eq_true, a288, a289, pl, ho, t83, t290, hpi]
      have pN : ∀ m, m ≠ 4 → (m < 162 ∨ 168 < m) → PIC 4 s fo (TOC 4 p (up Mc 8 3 n)) m = up Mc 8 3 n m := fun m a b => by
        funext i
        unfold PIC
        rw [if_neg (by omega), if_neg (by omega), if_neg (by omega), if_neg (by omega), tN m a (by omega)]
      refine ⟨_, rfl, undoR _ ?_ ?_ ?_ ?_, ?_⟩
      · rw [pN 8 (by omega) (by omega), up_same]
      · intro m a b d e
        rw [pN m b d, u8 m e]
      · have ET : EQV (N 35 0) (cvw 4 (TOC 4 p (up Mc 8 3 n))) (TOV p (mvw 0 N)) := (VEQ.to TOC.vw (by omega) (by show TOC 4 p (up Mc 8 3 n) 4 9 ≤ 8; omega)).trans (TOV.eqv eu p1)
        have u2 : cvw 4 (TOC 4 p (up Mc 8 3 n)) 2 s = 1 := by
          rw [(ET.2.2.2.2 s gs.1 gs.2).1, TOV.fo (by omega)]
          have := (w0.2.2.2.1 p p1 p2).2.2
          rw [p3] at this; exact this
        have x9 : cvw 4 (TOC 4 p (up Mc 8 3 n)) 0 9 = N 69 0 - 1 := t49
        have vp := PIC.vw (k := 4) (s := s) (p := fo) (M := TOC 4 p (up Mc 8 3 n))
        exact (VEQ.to vp (by omega) (by rw [vp.2.2.1, PIV.f0, if_pos rfl]; omega)).trans ((PIV.eqv ET (by omega) (by omega)).trans q)
      · show PIC 4 s fo (TOC 4 p (up Mc 8 3 n)) 4 0 = Mc 4 0
        unfold PIC
        rw [if_neg (by omega), if_neg (by omega), if_neg (by omega), if_neg (by omega)]
        unfold TOC
        rw [if_neg (by omega), if_neg (by omega)]; exact u40
      · rw [pN 8 (by omega) (by omega), up_same]
    · -- given
      have a288 : Mc 288 n = 1 := hkd.symm.trans k0
      simp (disch := omega) only [w32_id, q_gf_e, q_gr_e, q_pf_e, q_pz_e, q_let_e, q_call_e, q_calp_e, q_al_ok, q_as_ok, q_nz_ok, up_same, up_nei, up_ne1, Int.toNat_natCast, reduceIte, Int.reduceEq, Int.reduceLT, Int.reduceLE, Int.reduceNeg, not_true_eq_false, not_false_eq_true, a288, a289, a290]
      refine ⟨_, rfl, undoR _ ?_ ?_ ?_ ?_, ?_⟩
      · rw [up_ne1 (by omega), up_same]
      · intro m a b d e
        rw [up_ne1 (by omega), u8 m e]
      · have kv : VEQ (cvw 4 (up (up Mc 8 3 n) 163 s fo)) (up (cvw 4 (up Mc 8 3 n)) 3 s fo) := by
          refine ⟨?_, ?_, ?_, fun f i a b x y => ?_⟩
          · rw [up_ne1 (by omega)]
            show up (up Mc 8 3 n) 163 s fo 4 0 = up Mc 8 3 n 4 0
            rw [up_ne1 (by omega)]
          · rw [up_ne1 (by omega)]
            show up (up Mc 8 3 n) 163 s fo 4 1 = up Mc 8 3 n 4 1
            rw [up_ne1 (by omega)]
          · rw [up_ne1 (by omega)]
            show up (up Mc 8 3 n) 163 s fo 4 9 = up Mc 8 3 n 4 9
            rw [up_ne1 (by omega)]
          · have ef : f ≠ 0 := by omega
            by_cases cc : f = 3 ∧ i = s
            · rw [cc.1, cc.2, up_same]
              show up (up Mc 8 3 n) 163 s fo 163 s = fo
              rw [up_same]
            · rw [up_ne cc]
              simp only [cvw, if_neg ef]
              rw [up_ne (by omega)]
        exact (VEQ.to kv (by omega) (by rw [kv.2.2.1, up_ne1 (by omega)]; show up Mc 8 3 n 4 9 ≤ 8; omega)).trans ((UPV.eqv eu).trans q)
      · rw [up_ne1 (by omega)]; exact u40
      · rw [up_ne1 (by omega), up_same]
    · -- walked off
      have f2' : fo ≤ N 69 0 := f2
      have f3' : N 69 0 < N 35 0 := f3
      have hpi := putInC (k := 4) (s := s) (p := fo) (M := up Mc 8 3 n) (by omega) (by omega) (by omega) (by omega)
      have a288 : Mc 288 n = 2 := hkd.symm.trans k0
      simp (disch := omega) only [w32_id, q_gf_e, q_gr_e, q_pf_e, q_pz_e, q_let_e, q_call_e, q_calp_e, q_al_ok, q_as_ok, q_nz_ok, up_same, up_nei, up_ne1, Int.toNat_natCast, reduceIte, Int.reduceEq, Int.reduceLT, Int.reduceLE, Int.reduceNeg, not_true_eq_false, not_false_eq_true, a288, a289, a290, hpi]
      have pN : ∀ m, m ≠ 4 → (m < 162 ∨ 168 < m) → PIC 4 s fo (up Mc 8 3 n) m = up Mc 8 3 n m := fun m a b => by
        funext i
        unfold PIC
        rw [if_neg (by omega), if_neg (by omega), if_neg (by omega), if_neg (by omega)]
      refine ⟨_, rfl, undoR _ ?_ ?_ ?_ ?_, ?_⟩
      · rw [pN 8 (by omega) (by omega), up_same]
      · intro m a b d e
        rw [pN m b d, u8 m e]
      · have vp := PIC.vw (k := 4) (s := s) (p := fo) (M := up Mc 8 3 n)
        have x9 : cvw 4 (up Mc 8 3 n) 0 9 = N 69 0 := u9
        have u2 : cvw 4 (up Mc 8 3 n) 2 s = 3 := by rw [(eu.2.2.2.2 s gs.1 gs.2).1]; exact q1
        exact (VEQ.to vp (by omega) (by rw [vp.2.2.1, PIV.f0, if_pos rfl]; omega)).trans ((PIV.eqv eu (by omega) (by omega)).trans q)
      · show PIC 4 s fo (up Mc 8 3 n) 4 0 = Mc 4 0
        unfold PIC
        rw [if_neg (by omega), if_neg (by omega), if_neg (by omega), if_neg (by omega)]; exact u40
      · rw [pN 8 (by omega) (by omega), up_same]
  obtain ⟨Mc', x1, x2, x3⟩ := main
  rw [x1]
  simp (disch := omega) only [w32_id, q_gf_e, q_gr_e, q_pf_e, q_pz_e, q_let_e, q_call_e, q_calp_e, q_al_ok, q_as_ok, q_nz_ok, up_same, up_nei, up_ne1, Int.toNat_natCast, reduceIte, Int.reduceEq, Int.reduceLT, Int.reduceLE, Int.reduceNeg, not_true_eq_false, not_false_eq_true, x3]
  exact PW.ok rfl ⟨t, x2⟩
