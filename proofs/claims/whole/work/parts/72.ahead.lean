/-- counts of two stands that tell the same -/
theorem cntW {k : Nat} {q b v : Int} {Mc Mm : Mem} (hS : 0 ≤ Mm 35 0 ∧ Mm 35 0 ≤ 8) (e : EQV (Mm 35 0) (cvw k Mc) (mvw q Mm)) (w : WFB (Mm 35 0) b (cvw k Mc)) (hq : 0 ≤ q ∧ q < 23) (hv : in32 v) : ∃ r, f_X6_howMany k v (Mm 35 0) Mc = some r ∧ f_X10_soulsOf q v Mm = some r ∧ 0 ≤ r ∧ r ≤ 8 := by
  have raw : ∀ p, 0 ≤ p → p < Mm 35 0 → Mc (32 * (k + 1) + 2) p = Mm 71 (8 * q + p) := fun p a b => (e.2.2.2.2 p a b).1
  have rg : ∀ p, 0 ≤ p → p < Mm 35 0 → 0 ≤ Mc (32 * (k + 1) + 2) p ∧ Mc (32 * (k + 1) + 2) p ≤ 3 := fun p a b => (w.2.2.2.2.2 p a b).1
  refine ⟨_, howManyC hv (by omega) (fun j a b => by have := rg j a b; unfold in32; omega), ?_, ?_⟩
  · rw [soulsOfM hq hv (by omega) (fun j a b => by have := rg j a b; have := raw j a b; unfold in32; omega)]
    congr 1
    refine smT_congr _ (fun i a b => ?_)
    rw [raw i a (by omega)]
  · have := smT_rng (f := fun i => if Mc (32 * (k + 1) + 2) i = v then 1 else 0) (b := 1) (Mm 35 0).toNat (fun i a b => by split <;> omega)
    omega
theorem kindW {t k : Nat} {q b : Int} {Mc Mm : Mem} (h03 : Mc 0 3 = t) (hT : TR t Mc Mm) (e : EQV (Mm 35 0) (cvw k Mc) (mvw q Mm)) (w : WFB (Mm 35 0) b (cvw k Mc)) (hq : 0 ≤ q ∧ q < 23) : ∃ r, f_X9_kindnessGone k Mc = some r ∧ f_X10_kindness q Mm = some r ∧ 0 ≤ r ∧ r ≤ 792 := by
  have hS := hT.2.1
  have raw : ∀ p, 0 ≤ p → p < Mm 35 0 → Mc (32 * (k + 1) + 2) p = Mm 71 (8 * q + p) := fun p a b => (e.2.2.2.2 p a b).1
  have rg : ∀ p, 0 ≤ p → p < Mm 35 0 → 0 ≤ Mc (32 * (k + 1) + 2) p ∧ Mc (32 * (k + 1) + 2) p ≤ 3 := fun p a b => (w.2.2.2.2.2 p a b).1
  refine ⟨_, kindnessC h03 (by omega) (fun j a b => by rw [hS.1] at b; have := rg j a b; unfold in32; omega), ?_, ?_⟩
  · rw [kindnessM hq (by omega) (fun j a b => by have := rg j a b; have := raw j a b; unfold in32; omega), hS.1]
    congr 1
    refine smT_congr _ (fun i a b => ?_)
    rw [raw i a (by omega), (hT.2.2.2.2.2.2.2.1 i a (by omega)).2.2.1.1]
  · have := smT_rng (f := fun i => if Mc (32 * (k + 1) + 2) i = 2 then Mc (32 * (t + 1) + 3) i else 0) (b := 99) (Mc t 0).toNat (fun i a b => by
      have := (hT.2.2.2.2.2.2.2.1 i a (by omega)).2.2.1
      split <;> omega)
    omega
theorem allW {t k n0 : Nat} {q : Int} {f : Nat} {Mc Mm : Mem} (h03 : Mc 0 3 = t) (hT : TR t Mc Mm) (hf : f = 4 ∨ f = 5) (hn : n0 = 32 * (k + 1) + f) (e : EQV (Mm 35 0) (cvw k Mc) (mvw q Mm)) (hq : 0 ≤ q ∧ q < 23) : ∃ r, f_X9_sum n0 8 Mc = some r ∧ f_X10_allOf (f + 69) 184 q Mm = some r := by
  have hS := hT.2.1
  refine ⟨_, sumC h03 (by omega), ?_⟩
  rw [allOfM hq (by omega), hS.1]
  congr 1
  refine smT_congr _ (fun i a b => ?_)
  have := e.2.2.2.2 i a (by omega)
  subst hn
  rcases hf with rfl | rfl
  · exact this.2.2.1.symm
  · exact this.2.2.2.1.symm
theorem Rel.frm {t : Nat} {Mc Mc' Mm Mm' : Mem} (h : RelT t Mc Mm) (fc : FC t Mc Mc') (fm : FM Mm Mm') : Rel Mc' Mm' := ⟨t, h.frm fc fm⟩
theorem RelT.thr {t : Nat} {Mc Mm : Mem} {v : Int} (h : RelT t Mc Mm) : RelT t Mc (up Mm 0 0 v) := h.frm (FC.refl _ _) (FM.thrown _ _)
theorem o_ahead : rs_ahead Rel := by
  intro Mc Mm a0 a1 a2 hR h0 h1 h2
  obtain ⟨t, hr⟩ := hR
  have hr := hr.thr (v := 0)
  show PW _ _
  unfold f_X9_ahead f_X10_ahead
  rw [q_pf_e]
  generalize up Mm 0 0 0 = N at hr ⊢
  have hR : Rel Mc N := ⟨t, hr⟩
  have h03 := hr.1.1
  have hT := hr.2.1
  have hS := hT.2.1
  have ec := isSoulC (a := a2) h03 (by omega) h2
  have em := isSoulM (M := N) (a := a2) (by omega) h2
  rw [hS.1] at ec
  unfold in32 at h0 h1 h2
  simp (disch := omega) only [w32_id, q_gf_e, q_gr_e, q_pf_e, q_pz_e, q_let_e, q_call_e, q_calp_e, q_al_ok, q_as_ok, q_nz_ok, up_same, up_nei, up_ne1, Int.toNat_natCast, reduceIte, Int.reduceEq, Int.reduceLT, Int.reduceLE, Int.reduceNeg, not_true_eq_false, not_false_eq_true]
  by_cases c1 : a0 < 0
  · rw [if_pos c1, if_pos c1]; exact PW.ok rfl hR
  rw [if_neg c1, if_neg c1]
  by_cases c2 : 200 < a0
  · rw [if_pos c2, if_pos c2]; exact PW.ok rfl hR
  rw [if_neg c2, if_neg c2]
  by_cases c3 : a1 < 0
  · rw [if_pos c3, if_pos c3]; exact PW.ok rfl hR
  rw [if_neg c3, if_neg c3]
  by_cases c4 : 4 < a1
  · rw [if_neg (by omega), if_pos c4]; exact PW.ok rfl hR
  rw [if_pos (by omega), if_neg c4]
  have main : (a1 = 3 → 0 ≤ a2 ∧ a2 < N 35 0) → PW (f_X9_ahead_J37 a0 a1 a2 Mc) (f_X10_ahead_J40 a0 a1 a2 N) := by
    intro hs
    obtain ⟨Mc1, Mm1, b1, b2, b3, b4, b5, b6, b7⟩ := tryW hr
    have m67 : Mm1 67 1 = N 67 0 := b6.1
    have h98 : N 67 0 ≤ 9800 := by have := hr.2.2.1.2; have : Mc 4 0 = N 67 0 := hr.2.2.1.1.1.1; omega
    obtain ⟨Mc2, Mm2, d1, d2, d3, d4, d5, d6⟩ := goesOnW b3 (n := a0) (by omega) (by omega)
    have fc : FC t Mc Mc2 := b4.trans (d4.fc hT.1)
    have fm : FM N Mm2 := b5.trans d5.fm
    have hr2 := hr.frm fc fm
    have hR2 : Rel Mc2 Mm2 := ⟨t, hr2⟩
    have e35 : Mm2 35 = N 35 := fm.1 35 (by omega)
    have hS2 := d3.1.2.1
    have hv := d3.2.2.2.2
    have h03' := hr2.1.1
    unfold f_X9_ahead_J37 f_X10_ahead_J40 f_X10_runs
    rw [b1, b2]
    (try simp (disch := omega) only [w32_id, q_gf_e, q_gr_e, q_pf_e, q_pz_e, q_let_e, q_call_e, q_calp_e, q_al_ok, q_as_ok, q_nz_ok, up_same, up_nei, up_ne1, Int.toNat_natCast, reduceIte, Int.reduceEq, Int.reduceLT, Int.reduceLE, Int.reduceNeg, not_true_eq_false, not_false_eq_true])
    rw [d1, d2]
    (try simp (disch := omega) only [w32_id, q_gf_e, q_gr_e, q_pf_e, q_pz_e, q_let_e, q_call_e, q_calp_e, q_al_ok, q_as_ok, q_nz_ok, up_same, up_nei, up_ne1, Int.toNat_natCast, reduceIte, Int.reduceEq, Int.reduceLT, Int.reduceLE, Int.reduceNeg, not_true_eq_false, not_false_eq_true])
    have hc : a1 = 0 ∨ a1 = 1 ∨ a1 = 2 ∨ a1 = 3 ∨ a1 = 4 := by omega
    rcases hc with rfl | rfl | rfl | rfl | rfl
    · obtain ⟨r, g1, g2, -⟩ := cntW (v := 2) (by omega) hv.1 hv.2.1 (by omega) (by unfold in32; omega)
      simp (disch := omega) only [w32_id, q_gf_e, q_gr_e, q_pf_e, q_pz_e, q_let_e, q_call_e, q_calp_e, q_al_ok, q_as_ok, q_nz_ok, up_same, up_nei, up_ne1, Int.toNat_natCast, reduceIte, Int.reduceEq, Int.reduceLT, Int.reduceLE, Int.reduceNeg, not_true_eq_false, not_false_eq_true, h03', hS2.1, g1, g2]
      exact PW.ok rfl hR2
    · obtain ⟨r, g1, g2, -⟩ := kindW h03' d3.1 hv.1 hv.2.1 (by omega)
      simp (disch := omega) only [w32_id, q_gf_e, q_gr_e, q_pf_e, q_pz_e, q_let_e, q_call_e, q_calp_e, q_al_ok, q_as_ok, q_nz_ok, up_same, up_nei, up_ne1, Int.toNat_natCast, reduceIte, Int.reduceEq, Int.reduceLT, Int.reduceLE, Int.reduceNeg, not_true_eq_false, not_false_eq_true, g1, g2]
      exact PW.ok rfl hR2
    · obtain ⟨r, g1, g2⟩ := allW (n0 := 197) (f := 5) h03' d3.1 (.inr rfl) rfl hv.1 (by omega)
      obtain ⟨r', g3, g4⟩ := allW (n0 := 165) (k := 4) (q := 0) (f := 5) h03' d3.1 (.inr rfl) rfl hr2.2.2.1.1.1 (by omega)
      simp (disch := omega) only [w32_id, q_gf_e, q_gr_e, q_pf_e, q_pz_e, q_let_e, q_call_e, q_calp_e, q_al_ok, q_as_ok, q_nz_ok, up_same, up_nei, up_ne1, Int.toNat_natCast, reduceIte, Int.reduceEq, Int.reduceLT, Int.reduceLE, Int.reduceNeg, not_true_eq_false, not_false_eq_true, g1, g2, g3, g4]
      exact PW.ok rfl hR2
    · have hs := hs rfl
      have := (d3.raw.2.2.2.2 a2 hs.1 (by rw [e35]; exact hs.2)).2.2.1
      (try simp (disch := omega) only [w32_id, q_gf_e, q_gr_e, q_pf_e, q_pz_e, q_let_e, q_call_e, q_calp_e, q_al_ok, q_as_ok, q_nz_ok, up_same, up_nei, up_ne1, Int.toNat_natCast, reduceIte, Int.reduceEq, Int.reduceLT, Int.reduceLE, Int.reduceNeg, not_true_eq_false, not_false_eq_true])
      exact PW.ok this hR2
    · have := d3.raw.2.2.1
      (try simp (disch := omega) only [w32_id, q_gf_e, q_gr_e, q_pf_e, q_pz_e, q_let_e, q_call_e, q_calp_e, q_al_ok, q_as_ok, q_nz_ok, up_same, up_nei, up_ne1, Int.toNat_natCast, reduceIte, Int.reduceEq, Int.reduceLT, Int.reduceLE, Int.reduceNeg, not_true_eq_false, not_false_eq_true])
      exact PW.ok this hR2
  by_cases c5 : a1 = 3
  · rw [if_neg (by simp [c5]), if_neg (by simp [c5]), ec, em]
    by_cases c6 : 0 ≤ a2 ∧ a2 < N 35 0
    · rw [if_pos c6]
      (try simp (disch := omega) only [w32_id, q_gf_e, q_gr_e, q_pf_e, q_pz_e, q_let_e, q_call_e, q_calp_e, q_al_ok, q_as_ok, q_nz_ok, up_same, up_nei, up_ne1, Int.toNat_natCast, reduceIte, Int.reduceEq, Int.reduceLT, Int.reduceLE, Int.reduceNeg, not_true_eq_false, not_false_eq_true])
      exact main (fun _ => c6)
    · rw [if_neg c6]
      (try simp (disch := omega) only [w32_id, q_gf_e, q_gr_e, q_pf_e, q_pz_e, q_let_e, q_call_e, q_calp_e, q_al_ok, q_as_ok, q_nz_ok, up_same, up_nei, up_ne1, Int.toNat_natCast, reduceIte, Int.reduceEq, Int.reduceLT, Int.reduceLE, Int.reduceNeg, not_true_eq_false, not_false_eq_true])
      exact PW.ok rfl hR
  · rw [if_pos c5, if_pos c5]
    exact main (fun h => absurd h c5)
