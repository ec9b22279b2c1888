/-! the parts of the relation, each with just what it looks at -/
theorem SR.of {S : Int} {k : Nat} {q : Int} {Mc Mc' Mm Mm' : Mem} (h : SR S k q Mc Mm) (hS : S ≤ 8) (ec : VEQ (cvw k Mc) (cvw k Mc')) (em : VEQ (mvw q Mm) (mvw q Mm')) : SR S k q Mc' Mm' := by
  have k1 := VEQ.to (S := S) ec hS (by have := h.2.1.2.2.1; omega)
  have k2 := VEQ.to (S := S) em hS (by have := h.2.1.2.2.1; have := h.1.2.2.1; omega)
  exact ⟨k1.symm.trans (h.1.trans k2), WFB.of h.2.1 k1, NOB.of h.2.2 em hS⟩
theorem DR.of {S : Int} {Mc Mc' Mm Mm' : Mem} (h : DR S Mc Mm) (hS : S ≤ 8) (w0 : WFV S (mvw 0 Mm)) (c8 : Mc' 8 3 = Mc 8 3) (c : ∀ n, 288 ≤ n → n ≤ 290 → Mc' n = Mc n) (m46 : Mm' 0 46 = Mm 0 46) (em : ∀ q, q = 0 ∨ 3 ≤ q → VEQ (mvw q Mm) (mvw q Mm')) : DR S Mc' Mm' := by
  obtain ⟨h1, h2, h3, h4⟩ := h
  unfold DR
  rw [c8, c 288 (by omega) (by omega), c 289 (by omega) (by omega), c 290 (by omega) (by omega), m46]
  refine ⟨h1, h2, h3, fun j a b => ?_⟩
  obtain ⟨g1, g2, g3⟩ := h4 j a b
  have ev : ∀ q, q = 0 ∨ 3 ≤ q → WFV S (mvw q Mm) → EQV S (mvw q Mm) (mvw q Mm') := fun q hq w => VEQ.to (em q hq) hS (by have := w.2.2.1; omega)
  have e3 := ev (3 + j) (by omega) g1
  have hw : WFV S (mvw (if j + 1 = Mm 0 46 then 0 else 4 + j) Mm) := by
    by_cases c : j + 1 = Mm 0 46
    · rw [if_pos c]; exact w0
    · rw [if_neg c, show 4 + j = 3 + (j + 1) by omega]
      exact (h4 (j + 1) (by omega) (by omega)).1
  exact ⟨WFB.of g1 e3, NOB.of g2 (em _ (by omega)) hS, UND.of g3 hw (ev _ (by split <;> omega) hw) e3⟩
theorem NR.of {S : Int} {Mc Mc' Mm Mm' : Mem} (h : NR S Mc Mm) (c9 : Mc' 9 = Mc 9) (c : ∀ n, 320 ≤ n → n ≤ 322 → Mc' n = Mc n) (m58 : Mm' 0 58 = Mm 0 58) (m59 : Mm' 0 59 = Mm 0 59) (m : ∀ n, 92 ≤ n → n ≤ 95 → Mm' n = Mm n) : NR S Mc' Mm' := by
  unfold NR at h ⊢
  rw [c9, c 320 (by omega) (by omega), c 321 (by omega) (by omega), c 322 (by omega) (by omega), m58, m59, m 92 (by omega) (by omega), m 93 (by omega) (by omega), m 94 (by omega) (by omega), m 95 (by omega) (by omega)]
  exact h
theorem FR.of {Mc Mc' Mm Mm' : Mem} (h : FR Mc Mm) (c0 : Mc' 0 1 = Mc 0 1) (c32 : Mc' 32 = Mc 32) (c1 : Mc' 1 = Mc 1) (c352 : Mc' 352 = Mc 352) (m2 : Mm' 0 2 = Mm 0 2) (m28 : Mm' 0 28 = Mm 0 28) (m29 : Mm' 0 29 = Mm 0 29) (m33 : Mm' 33 = Mm 33) : FR Mc' Mm' := by
  unfold FR at h ⊢
  rw [c0, c32, c1, c352, m2, m28, m29, m33]
  exact h
theorem RelT.w0 {t : Nat} {Mc Mm : Mem} (h : RelT t Mc Mm) : WFV (Mm 35 0) (mvw 0 Mm) := WFB.of h.2.2.1.1.2.1 h.2.2.1.1.1
theorem cvw_eq {k : Nat} {M M' : Mem} (h : M' k = M k) (h' : ∀ f, 2 ≤ f → f ≤ 8 → M' (32 * (k + 1) + f) = M (32 * (k + 1) + f)) : VEQ (cvw k M) (cvw k M') := by
  refine ⟨?_, ?_, ?_, fun f i a b c d => ?_⟩
  · show M k 0 = M' k 0; rw [h]
  · show M k 1 = M' k 1; rw [h]
  · show M k 9 = M' k 9; rw [h]
  · unfold cvw
    rw [if_neg (by omega), if_neg (by omega), h' f a b]
theorem mvw_eq {q : Int} {M M' : Mem} (h : ∀ n, 67 ≤ n → n ≤ 69 → M' n q = M n q) (h' : ∀ n i, 70 ≤ n → n ≤ 76 → 8 * q ≤ i → i < 8 * q + 8 → M' n i = M n i) : VEQ (mvw q M) (mvw q M') := by
  refine ⟨(h 67 (by omega) (by omega)).symm, (h 68 (by omega) (by omega)).symm, (h 69 (by omega) (by omega)).symm, fun f i a b c d => ?_⟩
  have e : 70 ≤ mvc f ∧ mvc f ≤ 76 := by unfold mvc; split <;> omega
  have ef : f ≠ 0 := by omega
  simp only [mvw, if_neg ef]
  exact (h' _ _ e.1 e.2 (by omega) (by omega)).symm
theorem o_keep : rs_keep Rel := by
  intro Mc Mm hR
  obtain ⟨t, hr⟩ := hR
  have hr := hr.thr (v := 0)
  show PW _ _
  unfold f_X9_keep f_X10_keep
  rw [q_pf_e]
  generalize up Mm 0 0 0 = N at hr ⊢
  have h98 := hr.m98
  rw [copyC (by omega) (by omega) (by omega), copiesM (by omega) (by omega) (by omega)]
  (try simp (disch := omega) only [w32_id, q_gf_e, q_gr_e, q_pf_e, q_pz_e, q_let_e, q_call_e, q_calp_e, q_al_ok, q_as_ok, q_nz_ok, up_same, up_nei, up_ne1, Int.toNat_natCast, reduceIte, Int.reduceEq, Int.reduceLT, Int.reduceLE, Int.reduceNeg, not_true_eq_false, not_false_eq_true])
  obtain ⟨h1, hT, ⟨h3, h3'⟩, h4, h5, h6, h7, h8, h9⟩ := hr
  have ht := hT.1
  have hS := hT.2.1
  have cN : ∀ n, n ≠ 0 → n ≠ 6 → (n < 226 ∨ 232 < n) → up (CPC 6 4 Mc) 0 7 1 n = Mc n := fun n a b c => by rw [up_ne1 a, CPC.ne b (by omega)]
  have c0 : ∀ i, i ≠ 7 → up (CPC 6 4 Mc) 0 7 1 0 i = Mc 0 i := fun i a => by rw [up_nei a, CPC.ne (by omega) (by omega)]
  have mN : ∀ n, n ≠ 0 → (n < 67 ∨ 76 < n) → up (CPM 2 0 N) 0 45 1 n = N n := fun n a b => by
    rw [up_ne1 a]; funext i; unfold CPM; rw [if_neg (by omega), if_neg (by omega)]
  have m0 : ∀ i, i ≠ 45 → up (CPM 2 0 N) 0 45 1 0 i = N 0 i := fun i a => by
    rw [up_nei a]; unfold CPM; rw [if_neg (by omega), if_neg (by omega)]
  have m67 : ∀ n q, 67 ≤ n → n ≤ 69 → q ≠ 2 → up (CPM 2 0 N) 0 45 1 n q = N n q := fun n q a b c => by
    rw [up_ne1 (by omega)]; unfold CPM; rw [if_neg (by omega), if_neg (by omega)]
  have m70 : ∀ n i, 70 ≤ n → n ≤ 76 → (i < 16 ∨ 24 ≤ i) → up (CPM 2 0 N) 0 45 1 n i = N n i := fun n i a b c => by
    rw [up_ne1 (by omega)]; unfold CPM; rw [if_neg (by omega), if_neg (by omega)]
  have e35 := mN 35 (by omega) (by omega)
  have vq : ∀ q, q ≠ 2 → VEQ (mvw q N) (mvw q (up (CPM 2 0 N) 0 45 1)) := fun q hq => mvw_eq (fun n a b => m67 n q a b hq) (fun n i a b c d => m70 n i a b (by omega))
  have v4 : VEQ (cvw 4 Mc) (cvw 4 (up (CPC 6 4 Mc) 0 7 1)) := cvw_eq (cN 4 (by omega) (by omega) (by omega)) (fun f a b => cN _ (by omega) (by omega) (by omega))
  have hr' : RelT t (up (CPC 6 4 Mc) 0 7 1) (up (CPM 2 0 N) 0 45 1) := by
    unfold RelT
    rw [e35, c0 3 (by omega), cN 1 (by omega) (by omega) (by omega), m0 47 (by omega), m0 48 (by omega), up_same, up_same]
    refine ⟨h1, TR.frm2 hT (fun n a => cN n (by omega) (by omega) (by omega)) (fun n a b => mN n (by omega) (by omega)), ⟨h3.of (by omega) v4 (vq 0 (by omega)), ?_⟩, ⟨rfl, .inr rfl, fun _ => ⟨?_, ?_⟩⟩, h5.of (by omega) (WFB.of h3.2.1 h3.1) (by rw [cN 8 (by omega) (by omega) (by omega)]) (fun n a b => cN n (by omega) (by omega) (by omega)) (m0 46 (by omega)) (fun q hq => vq q (by omega)), h6.of (cN 9 (by omega) (by omega) (by omega)) (fun n a b => cN n (by omega) (by omega) (by omega)) (m0 58 (by omega)) (m0 59 (by omega)) (fun n a b => mN n (by omega) (by omega)), h7.of (c0 1 (by omega)) (cN 32 (by omega) (by omega) (by omega)) (cN 1 (by omega) (by omega) (by omega)) (cN 352 (by omega) (by omega) (by omega)) (m0 2 (by omega)) (m0 28 (by omega)) (m0 29 (by omega)) (mN 33 (by omega) (by omega)), h8, h9⟩
    · rw [cN 4 (by omega) (by omega) (by omega)]; exact h3'
    · have a1 : VEQ (cvw 4 Mc) (cvw 6 (up (CPC 6 4 Mc) 0 7 1)) := by
        have x := CPC.vw (k := 6) (k0 := 4) (M := Mc)
        have y : VEQ (cvw 6 (CPC 6 4 Mc)) (cvw 6 (up (CPC 6 4 Mc) 0 7 1)) := cvw_eq (up_ne1 (by omega)) (fun f a b => up_ne1 (by omega))
        exact ⟨x.1.symm.trans y.1, x.2.1.symm.trans y.2.1, x.2.2.1.symm.trans y.2.2.1, fun f i a b c d => (x.2.2.2 f i a b c d).symm.trans (y.2.2.2 f i a b c d)⟩
      have a2 : VEQ (mvw 0 N) (mvw 2 (up (CPM 2 0 N) 0 45 1)) := by
        have x := CPM.vw (q := 2) (q0 := 0) (M := N)
        have y : VEQ (mvw 2 (CPM 2 0 N)) (mvw 2 (up (CPM 2 0 N) 0 45 1)) := mvw_eq (fun n a b => by rw [up_ne1 (by omega)]) (fun n i a b c d => by rw [up_ne1 (by omega)])
        exact ⟨x.1.symm.trans y.1, x.2.1.symm.trans y.2.1, x.2.2.1.symm.trans y.2.2.1, fun f i a b c d => (x.2.2.2 f i a b c d).symm.trans (y.2.2.2 f i a b c d)⟩
      have k1 := VEQ.to (S := N 35 0) a1 (by omega) (by have := h3.2.1.2.2.1; omega)
      have k2 := VEQ.to (S := N 35 0) a2 (by omega) (by have := h3.2.1.2.2.1; have := h3.1.2.2.1; omega)
      exact ⟨k1.symm.trans (h3.1.trans k2), WFB.of h3.2.1 k1, NOB.of h3.2.2 a2 (by omega)⟩
    · have : up (CPC 6 4 Mc) 0 7 1 6 0 = Mc 4 0 := by
        rw [up_ne1 (by omega)]
        exact (CPC.vw (k := 6) (k0 := 4) (M := Mc)).1
      rw [this]; exact h3'
  refine PW.ok ?_ ⟨t, hr'⟩
  have e1 : CPC 6 4 Mc 4 0 = Mc 4 0 := by rw [CPC.ne (by omega) (by omega)]
  have e2 : CPM 2 0 N 67 0 = N 67 0 := by unfold CPM; rw [if_neg (by omega), if_neg (by omega)]
  rw [e1, e2]; exact h98.1
theorem o_back : rs_back Rel := by
  intro Mc Mm hR
  obtain ⟨t, hr⟩ := hR
  have hr := hr.thr (v := 0)
  show PW _ _
  unfold f_X9_back f_X10_back
  rw [q_pf_e]
  generalize up Mm 0 0 0 = N at hr ⊢
  have hR : Rel Mc N := ⟨t, hr⟩
  have hi := hr.2.2.2.1
  simp (disch := omega) only [w32_id, q_gf_e, q_gr_e, q_pf_e, q_pz_e, q_let_e, q_call_e, q_calp_e, q_al_ok, q_as_ok, q_nz_ok, up_same, up_nei, up_ne1, Int.toNat_natCast, reduceIte, Int.reduceEq, Int.reduceLT, Int.reduceLE, Int.reduceNeg, not_true_eq_false, not_false_eq_true, hi.1]
  by_cases c : N 0 45 = 0
  · have cn : ¬ ¬ N 0 45 = 0 := fun h => h c
    rw [if_neg cn, if_neg cn]; exact PW.ok rfl hR
  rw [if_pos c, if_pos c]
  obtain ⟨hi1, hi2⟩ := hi.2.2 (by omega)
  rw [copyC (by omega) (by omega) (by omega), copiesM (by omega) (by omega) (by omega)]
  (try simp (disch := omega) only [w32_id, q_gf_e, q_gr_e, q_pf_e, q_pz_e, q_let_e, q_call_e, q_calp_e, q_al_ok, q_as_ok, q_nz_ok, up_same, up_nei, up_ne1, Int.toNat_natCast, reduceIte, Int.reduceEq, Int.reduceLT, Int.reduceLE, Int.reduceNeg, not_true_eq_false, not_false_eq_true])
  have hT := hr.2.1
  have ht := hT.1
  have hS := hT.2.1
  have cN : ∀ n, n ≠ 8 → n ≠ 4 → (n < 162 ∨ 168 < n) → up (CPC 4 6 Mc) 8 3 0 n = Mc n := fun n a b c => by rw [up_ne1 a, CPC.ne b (by omega)]
  have mN : ∀ n, n ≠ 0 → (n < 67 ∨ 76 < n) → up (CPM 0 2 N) 0 46 0 n = N n := fun n a b => by
    rw [up_ne1 a]; funext i; unfold CPM; rw [if_neg (by omega), if_neg (by omega)]
  have m0 : ∀ i, i ≠ 46 → up (CPM 0 2 N) 0 46 0 0 i = N 0 i := fun i a => by
    rw [up_nei a]; unfold CPM; rw [if_neg (by omega), if_neg (by omega)]
  have m67 : ∀ n q, 67 ≤ n → n ≤ 69 → q ≠ 0 → up (CPM 0 2 N) 0 46 0 n q = N n q := fun n q a b c => by
    rw [up_ne1 (by omega)]; unfold CPM; rw [if_neg (by omega), if_neg (by omega)]
  have m70 : ∀ n i, 70 ≤ n → n ≤ 76 → 8 ≤ i → up (CPM 0 2 N) 0 46 0 n i = N n i := fun n i a b c => by
    rw [up_ne1 (by omega)]; unfold CPM; rw [if_neg (by omega), if_neg (by omega)]
  have e35 := mN 35 (by omega) (by omega)
  have a1 : VEQ (cvw 6 Mc) (cvw 4 (up (CPC 4 6 Mc) 8 3 0)) := by
    have x := CPC.vw (k := 4) (k0 := 6) (M := Mc)
    have y : VEQ (cvw 4 (CPC 4 6 Mc)) (cvw 4 (up (CPC 4 6 Mc) 8 3 0)) := cvw_eq (up_ne1 (by omega)) (fun f a b => up_ne1 (by omega))
    exact ⟨x.1.symm.trans y.1, x.2.1.symm.trans y.2.1, x.2.2.1.symm.trans y.2.2.1, fun f i a b c d => (x.2.2.2 f i a b c d).symm.trans (y.2.2.2 f i a b c d)⟩
  have a2 : VEQ (mvw 2 N) (mvw 0 (up (CPM 0 2 N) 0 46 0)) := by
    have x := CPM.vw (q := 0) (q0 := 2) (M := N)
    have y : VEQ (mvw 0 (CPM 0 2 N)) (mvw 0 (up (CPM 0 2 N) 0 46 0)) := mvw_eq (fun n a b => by rw [up_ne1 (by omega)]) (fun n i a b c d => by rw [up_ne1 (by omega)])
    exact ⟨x.1.symm.trans y.1, x.2.1.symm.trans y.2.1, x.2.2.1.symm.trans y.2.2.1, fun f i a b c d => (x.2.2.2 f i a b c d).symm.trans (y.2.2.2 f i a b c d)⟩
  have k1 := VEQ.to (S := N 35 0) a1 (by omega) (by have := hi1.2.1.2.2.1; omega)
  have k2 := VEQ.to (S := N 35 0) a2 (by omega) (by have := hi1.2.1.2.2.1; have := hi1.1.2.2.1; omega)
  have e67 : CPM 0 2 N 67 0 = N 67 2 := (CPM.vw (q := 0) (q0 := 2) (M := N)).1
  have e40 : CPC 4 6 Mc 4 0 = Mc 6 0 := (CPC.vw (k := 4) (k0 := 6) (M := Mc)).1
  have e6 : Mc 6 0 = N 67 2 := hi1.1.1
  refine PW.ok (by omega) ⟨t, ?_⟩
  obtain ⟨h1, -, -, h4, h5, h6, h7, h8, h9⟩ := hr
  have v6 : VEQ (cvw 6 Mc) (cvw 6 (up (CPC 4 6 Mc) 8 3 0)) := cvw_eq (cN 6 (by omega) (by omega) (by omega)) (fun f a b => cN _ (by omega) (by omega) (by omega))
  have v2 : VEQ (mvw 2 N) (mvw 2 (up (CPM 0 2 N) 0 46 0)) := mvw_eq (fun n a b => m67 n 2 a b (by omega)) (fun n i a b c d => m70 n i a b (by omega))
  unfold RelT
  rw [e35, cN 0 (by omega) (by omega) (by omega), cN 1 (by omega) (by omega) (by omega), cN 6 (by omega) (by omega) (by omega), m0 47 (by omega), m0 48 (by omega), m0 45 (by omega)]
  refine ⟨h1, TR.frm2 hT (fun n a => cN n (by omega) (by omega) (by omega)) (fun n a b => mN n (by omega) (by omega)), ⟨⟨k1.symm.trans (hi1.1.trans k2), WFB.of hi1.2.1 k1, NOB.of hi1.2.2 a2 (by omega)⟩, ?_⟩, ⟨h4.1, h4.2.1, fun c => ⟨(h4.2.2 c).1.of (by omega) v6 v2, (h4.2.2 c).2⟩⟩, ⟨by rw [up_same, up_same], by rw [up_same]; omega, by rw [up_same]; omega, fun j a b => by rw [up_same] at b; omega⟩, h6.of (cN 9 (by omega) (by omega) (by omega)) (fun n a b => cN n (by omega) (by omega) (by omega)) (m0 58 (by omega)) (m0 59 (by omega)) (fun n a b => mN n (by omega) (by omega)), h7.of (by rw [cN 0 (by omega) (by omega) (by omega)]) (cN 32 (by omega) (by omega) (by omega)) (cN 1 (by omega) (by omega) (by omega)) (cN 352 (by omega) (by omega) (by omega)) (m0 2 (by omega)) (m0 28 (by omega)) (m0 29 (by omega)) (mN 33 (by omega) (by omega)), h8, h9⟩
  rw [up_ne1 (by omega), e40]; exact hi2
