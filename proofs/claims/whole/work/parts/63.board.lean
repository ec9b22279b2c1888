/-- who may and had no room -/
def PSC (k : Nat) (S x : Int) (M : Mem) : Mem := fun n i => if n = 32 * (k + 1) + 5 ∧ 0 ≤ i ∧ i < S ∧ Bt x i = true then M n i + 1 else M n i
def PSM (q S x : Int) (M : Mem) : Mem := fun n i => if n = 74 ∧ 8 * q ≤ i ∧ i < 8 * q + S ∧ Bt x (i - 8 * q) = true then M n i + 1 else M n i
theorem passC {t k : Nat} {x S : Int} {M : Mem} (h70 : M 7 0 = t) (h71 : M 7 1 = k) (hS : M t 0 = S ∧ 0 ≤ S ∧ S ≤ 8) (hn : 32 * (k + 1) + 5 ≠ 7 ∧ 32 * (k + 1) + 5 ≠ t) : f_X3_board_L164 x q_N 0 M = some (0, PSC k S x M) := by
  rw [← wpo_eq]
  unfold f_X3_board_L164
  refine qlm1_N (fun y M' => 0 ≤ y ∧ y ≤ S ∧ M' = PSC k y x M) (fun y _ => (S - y).toNat) _ _ ⟨by omega, by omega, ?_⟩ (by omega) ?_
  · funext n i
    unfold PSC
    rw [if_neg (by omega)]
  · intro y M' g ⟨i1, i2, i3⟩ ih
    have m7 : M' 7 = M 7 := by
      funext i; rw [i3]; unfold PSC; rw [if_neg (by omega)]
    have mt : M' t = M t := by
      funext i; rw [i3]; unfold PSC; rw [if_neg (by omega)]
    unfold f_X3_board_B164
    simp (disch := omega) only [w32_id, q_gf_e, q_gr_e, q_pf_e, q_pz_e, q_let_e, q_call_e, q_calp_e, q_al_ok, q_as_ok, q_nz_ok, up_same, up_nei, up_ne1, Int.toNat_natCast, reduceIte, Int.reduceEq, Int.reduceLT, Int.reduceLE, Int.reduceNeg, not_true_eq_false, not_false_eq_true, m7, h70, h71, mt, hS.1]
    refine wpo_ite (fun c => wpo_some.mpr ?_) (fun c => ?_)
    · rw [i3, show y = S by omega]
    · have e5 : M' (32 * (k + 1) + 5) y = M (32 * (k + 1) + 5) y := by rw [i3]; unfold PSC; rw [if_neg (by omega)]
      simp (disch := omega) only [w32_id, q_gf_e, q_gr_e, q_pf_e, q_pz_e, q_let_e, q_call_e, q_calp_e, q_al_ok, q_as_ok, q_nz_ok, up_same, up_nei, up_ne1, Int.toNat_natCast, reduceIte, Int.reduceEq, Int.reduceLT, Int.reduceLE, Int.reduceNeg, not_true_eq_false, not_false_eq_true, e5]
      refine wpo_ite (fun cb => ih _ _ ⟨by omega, by omega, ?_⟩ (by omega)) (fun cb => ih _ _ ⟨by omega, by omega, ?_⟩ (by omega))
      · have cb := (and1 (by omega)).mp cb
        rw [i3]
        funext n i
        unfold PSC
        by_cases ci : i = y
        · subst ci
          rw [if_neg (by omega), if_neg (by simp [cb])]
        · by_cases cc : n = 32 * (k + 1) + 5 ∧ 0 ≤ i ∧ i < y ∧ Bt x i = true
          · rw [if_pos cc, if_pos ⟨cc.1, cc.2.1, by omega, cc.2.2.2⟩]
          · rw [if_neg cc, if_neg (fun h => cc ⟨h.1, h.2.1, by omega, h.2.2.2⟩)]
      · have cb : Bt x y = true := by
          cases hb : Bt x y
          · exact absurd ((and1 (by omega)).mpr hb) cb
          · rfl
        rw [i3]
        funext n i
        unfold up PSC
        by_cases cn : n = 32 * (k + 1) + 5 ∧ i = y
        · rw [if_pos cn, if_pos ⟨cn.1, by omega, by omega, by rw [cn.2]; exact cb⟩, cn.1, cn.2]
        · rw [if_neg cn]
          by_cases cc : n = 32 * (k + 1) + 5 ∧ 0 ≤ i ∧ i < y ∧ Bt x i = true
          · rw [if_pos cc, if_pos ⟨cc.1, cc.2.1, by omega, cc.2.2.2⟩]
          · rw [if_neg cc, if_neg (fun h => cc ⟨h.1, h.2.1, by omega, h.2.2.2⟩)]
theorem passM {q x S : Int} {M : Mem} (hq : q = 0 ∨ q = 1) (hx : M 0 51 = x) (hS : M 35 0 = S ∧ 0 ≤ S ∧ S ≤ 8) : f_X10_stops_L232 q q_N 0 M = some (0, PSM q S x M) := by
  rw [← wpo_eq]
  unfold f_X10_stops_L232
  refine qlm1_N (fun y M' => 0 ≤ y ∧ y ≤ S ∧ M' = PSM q y x M) (fun y _ => (S - y).toNat) _ _ ⟨by omega, by omega, ?_⟩ (by omega) ?_
  · funext n i
    unfold PSM
    rw [if_neg (by omega)]
  · intro y M' g ⟨i1, i2, i3⟩ ih
    have m35 : M' 35 = M 35 := by
      funext i; rw [i3]; unfold PSM; rw [if_neg (by omega)]
    have m0 : M' 0 = M 0 := by
      funext i; rw [i3]; unfold PSM; rw [if_neg (by omega)]
    unfold f_X10_stops_B232
    simp (disch := omega) only [w32_id, q_gf_e, q_gr_e, q_pf_e, q_pz_e, q_let_e, q_call_e, q_calp_e, q_al_ok, q_as_ok, q_nz_ok, up_same, up_nei, up_ne1, Int.toNat_natCast, reduceIte, Int.reduceEq, Int.reduceLT, Int.reduceLE, Int.reduceNeg, not_true_eq_false, not_false_eq_true, m35, hS.1, m0, hx]
    refine wpo_ite (fun c => wpo_some.mpr ?_) (fun c => ?_)
    · rw [i3, show y = S by omega]
    · have e5 : M' 74 (8 * q + y) = M 74 (8 * q + y) := by rw [i3]; unfold PSM; rw [if_neg (by omega)]
      simp (disch := omega) only [w32_id, q_gf_e, q_gr_e, q_pf_e, q_pz_e, q_let_e, q_call_e, q_calp_e, q_al_ok, q_as_ok, q_nz_ok, up_same, up_nei, up_ne1, Int.toNat_natCast, reduceIte, Int.reduceEq, Int.reduceLT, Int.reduceLE, Int.reduceNeg, not_true_eq_false, not_false_eq_true, m0, hx, e5]
      rw [shr1 (by omega)]
      refine ih _ _ ⟨by omega, by omega, ?_⟩ (by omega)
      rw [i3]
      funext n i
      unfold up PSM
      by_cases cn : n = 74 ∧ i = 8 * q + y
      · rw [if_pos cn, cn.1, cn.2, show 8 * q + y - 8 * q = y by omega]
        by_cases cb : Bt x y = true
        · rw [if_pos cb, if_pos ⟨rfl, by omega, by omega, cb⟩]
        · rw [if_neg cb, if_neg (fun h => cb h.2.2.2), Int.add_zero]
      · rw [if_neg cn]
        by_cases cc : n = 74 ∧ 8 * q ≤ i ∧ i < 8 * q + y ∧ Bt x (i - 8 * q) = true
        · rw [if_pos cc, if_pos ⟨cc.1, cc.2.1, by omega, cc.2.2.2⟩]
        · rw [if_neg cc, if_neg (fun h => cc ⟨h.1, h.2.1, by omega, h.2.2.2⟩)]
theorem WFB.mono {S b b' : Int} {v : Mem} (h : WFB S b v) (hb : b ≤ b') : WFB S b' v := by
  obtain ⟨h1, h2, h3, h4, h5, h6⟩ := h
  refine ⟨h1, h2, h3, h4, h5, fun p a b => ?_⟩
  obtain ⟨g1, g2, g3, g4, g5⟩ := h6 p a b
  exact ⟨g1, g2, g3, by omega, g5⟩
theorem MR.mono {t k : Nat} {q r b b' : Int} {Mc Mm : Mem} (h : MR t k q r b Mc Mm) (hb : b ≤ b') : MR t k q r b' Mc Mm := ⟨h.1, h.2.1, h.2.2.1, h.2.2.2.1, h.2.2.2.2.1, h.2.2.2.2.2.1.mono hb, h.2.2.2.2.2.2⟩
/-- a view where some have been passed once more -/
def PSV (S x : Int) (v : Mem) : Mem := fun f i => if f = 5 ∧ 0 ≤ i ∧ i < S ∧ Bt x i = true then v 5 i + 1 else v f i
theorem PSV.f {S x : Int} {v : Mem} {f : Nat} (h : f ≠ 5) (i : Int) : PSV S x v f i = v f i := by unfold PSV; rw [if_neg (by omega)]
theorem PSV.f5 {S x : Int} {v : Mem} (i : Int) : PSV S x v 5 i = if 0 ≤ i ∧ i < S ∧ Bt x i = true then v 5 i + 1 else v 5 i := by simp [PSV]
theorem PSV.eqv {S x : Int} {v w : Mem} (e : EQV S v w) : EQV S (PSV S x v) (PSV S x w) := by
  obtain ⟨e1, e2, e3, e4, e5⟩ := e
  refine ⟨by rw [PSV.f (by omega), PSV.f (by omega)]; exact e1, by rw [PSV.f (by omega), PSV.f (by omega)]; exact e2, by rw [PSV.f (by omega), PSV.f (by omega)]; exact e3, fun i a b => ?_, fun j a b => ?_⟩
  · rw [PSV.f (by omega)] at b
    rw [PSV.f (by omega), PSV.f (by omega)]; exact e4 i a b
  · obtain ⟨c1, c2, c3, c4, c5⟩ := e5 j a b
    simp (disch := omega) only [PSV.f, PSV.f5]
    refine ⟨c1, c2, c3, ?_, c5⟩
    rw [c4]
theorem PSV.wf {S b x : Int} {v : Mem} (h : WFB S b v) : WFB S (b + 1) (PSV S x v) := by
  obtain ⟨h1, h2, h3, h4, h5, h6⟩ := h
  unfold WFB
  simp (disch := omega) only [PSV.f, PSV.f5]
  refine ⟨h1, h2, h3, h4, h5, fun p a b => ?_⟩
  obtain ⟨g1, g2, g3, g4, g5⟩ := h6 p a b
  refine ⟨g1, g2, g3, ?_, g5⟩
  split <;> omega
theorem PSV.nob {S x : Int} {w : Mem} (h : NOB S w) : NOB S (PSV S x w) := by
  intro j a b
  rw [PSV.f (by omega), PSV.f (by omega)]
  exact h j a b
theorem passedW {t k : Nat} {q r b x : Int} {Mc Mm : Mem} (h : MR t k q r b Mc Mm) (hx : x = Mm 0 51) : ∃ Mc' Mm', f_X3_board_L164 x q_N 0 Mc = some (0, Mc') ∧ f_X10_stops_L232 q q_N 0 Mm = some (0, Mm') ∧ MR t k q r (b + 1) Mc' Mm' ∧ GC k Mc Mc' ∧ GM q Mm Mm' ∧ Mm' 67 q = Mm 67 q := by
  have hS := h.1.2.1
  have ht := h.1.1
  have hq := h.2.1
  have gc : GC k Mc (PSC k (Mm 35 0) x Mc) := fun n a b _ _ _ _ => by
    funext i; unfold PSC; rw [if_neg (by omega)]
  have gm : GM q Mm (PSM q (Mm 35 0) x Mm) := by
    refine ⟨fun n a b c d e => ?_, fun f a b => ?_, fun n i a b c => ?_, fun n i a b c => ?_, fun p a b c => ?_⟩
    · funext i; unfold PSM; rw [if_neg (by omega)]
    · unfold PSM; rw [if_neg (by omega)]
    · unfold PSM; rw [if_neg (by omega)]
    · unfold PSM; rw [if_neg (by omega)]
    · unfold PSM; rw [if_neg (by omega)]
  have vc : cvw k (PSC k (Mm 35 0) x Mc) = PSV (Mm 35 0) x (cvw k Mc) := by
    funext f i
    by_cases c5 : f = 5
    · subst c5; rw [PSV.f5]
      simp [cvw, PSC]
    · rw [PSV.f c5]
      unfold cvw PSC
      split
      · rw [if_neg (by omega)]
      · rw [if_neg (by omega)]
  have vm : VEQ (mvw q (PSM q (Mm 35 0) x Mm)) (PSV (Mm 35 0) x (mvw q Mm)) := by
    refine ⟨?_, ?_, ?_, fun f i a b c d => ?_⟩
    · rw [PSV.f (by omega)]; simp [mvw, PSM]
    · rw [PSV.f (by omega)]; simp [mvw, PSM]
    · rw [PSV.f (by omega)]; simp [mvw, PSM]
    · by_cases c5 : f = 5
      · subst c5; rw [PSV.f5]
        have e : 8 * q + i - 8 * q = i := by omega
        simp only [mvw, PSM, mvc]
        rw [e]
        simp
        by_cases cc : i < Mm 35 0 ∧ Bt x i = true
        · rw [if_pos ⟨by omega, by omega, cc.2⟩, if_pos ⟨c, cc⟩]
        · rw [if_neg (fun h => cc ⟨by omega, h.2.2⟩), if_neg (fun h => cc h.2)]
      · rw [PSV.f c5]
        have e : mvc f ≠ 74 := by unfold mvc; split <;> omega
        have ef : f ≠ 0 := by omega
        simp only [mvw, PSM, if_neg ef]
        rw [if_neg (fun h => e h.1)]
  have hv := h.2.2.2.2
  refine ⟨_, _, passC h.2.2.1.1 h.2.2.1.2 ⟨hS.1, by omega, by omega⟩ (by omega), passM (by omega) hx.symm ⟨rfl, by omega, by omega⟩, h.step gc gm ?_ ?_ ?_, gc, gm, ?_⟩
  · rw [vc]
    have w9 : mvw q Mm 0 9 ≤ 8 := by have := hv.1.2.2.1; have := hv.2.1.2.2.1; omega
    exact (PSV.eqv hv.1).trans (VEQ.to vm.symm (by omega) (by rw [PSV.f (by omega)]; exact w9))
  · rw [vc]; exact PSV.wf hv.2.1
  · exact NOB.of (PSV.nob hv.2.2) vm.symm (by omega)
  · unfold PSM; rw [if_neg (by omega)]
