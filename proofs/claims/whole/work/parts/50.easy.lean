theorem Rel.thr {Mc Mm : Mem} {v : Int} (h : Rel Mc Mm) : Rel Mc (up Mm 0 0 v) := by
  obtain ⟨t, h⟩ := h
  exact ⟨t, h.frm (FC.refl _ _) (FM.thrown _ _)⟩
/-- both answer the same, of a call that only reads; of one that writes -/
def PM (Mc : Mem) (oc : Option Int) (om : Res) : Prop := ∃ (r : Int) (Mm1 : Mem), oc = some r ∧ om = some (r, Mm1) ∧ Rel Mc Mm1
def PW (oc om : Res) : Prop := ∃ (r : Int) (Mc1 Mm1 : Mem), oc = some (r, Mc1) ∧ om = some (r, Mm1) ∧ Rel Mc1 Mm1
theorem PM.ok {Mc Mm1 : Mem} {r r' : Int} (h : r = r') (hR : Rel Mc Mm1) : PM Mc (some r) (some (r', Mm1)) := ⟨r, Mm1, rfl, by rw [h], hR⟩
theorem PW.ok {Mc1 Mm1 : Mem} {r r' : Int} (h : r = r') (hR : Rel Mc1 Mm1) : PW (some (r, Mc1)) (some (r', Mm1)) := ⟨r, Mc1, Mm1, rfl, by rw [h], hR⟩
theorem o_fault : rs_fault Rel := by
  intro Mc Mm a0 hR ha
  have h0 := hR
  obtain ⟨t, h⟩ := h0
  obtain ⟨-, -, -, -, -, -, hF, -, -⟩ := h
  obtain ⟨-, -, hf, hp, -⟩ := hF
  unfold in32 at ha
  show PM Mc _ _
  unfold f_X9_fault f_X10_fault
  simp (disch := omega) only [w32_id, q_gf_e, q_gr_e, q_pf_e, q_pz_e, q_let_e, q_call_e, q_calp_e, q_al_ok, q_as_ok, q_nz_ok, up_same, up_nei, up_ne1, Int.toNat_natCast, reduceIte, Int.reduceEq, Int.reduceLT, Int.reduceLE, Int.reduceNeg, not_true_eq_false, not_false_eq_true]
  repeat' split
  all_goals first
    | (exfalso; omega)
    | exact PM.ok (by omega) hR.thr
theorem o_queue : rs_queue Rel := by
  intro Mc Mm a0 hR ha
  have h0 := hR
  obtain ⟨t, h⟩ := h0
  obtain ⟨-, hT, ⟨⟨he, hw, -⟩, -⟩, -⟩ := h
  have hS := hT.2.1.2.2
  have e9 : Mc 4 9 = Mm 69 0 := he.2.2.1
  have w9 : 0 ≤ Mc 4 9 ∧ Mc 4 9 ≤ Mm 35 0 := hw.2.2.1
  have er : ∀ i, 0 ≤ i → i < Mc 4 9 → Mc 168 i = Mm 70 i := fun i a b => by
    have := he.2.2.2.1 i a b
    simpa [cvw, mvw, mvc] using this
  unfold in32 at ha
  show PM Mc _ _
  unfold f_X9_queue f_X10_queue
  simp (disch := omega) only [w32_id, q_gf_e, q_gr_e, q_pf_e, q_pz_e, q_let_e, q_call_e, q_calp_e, q_al_ok, q_as_ok, q_nz_ok, up_same, up_nei, up_ne1, Int.toNat_natCast, reduceIte, Int.reduceEq, Int.reduceLT, Int.reduceLE, Int.reduceNeg, not_true_eq_false, not_false_eq_true]
  repeat' split
  all_goals (try simp (disch := omega) only [w32_id, q_gf_e, q_gr_e, q_pf_e, q_pz_e, q_let_e, q_call_e, q_calp_e, q_al_ok, q_as_ok, q_nz_ok, up_same, up_nei, up_ne1, Int.toNat_natCast, reduceIte, Int.reduceEq, Int.reduceLT, Int.reduceLE, Int.reduceNeg, not_true_eq_false, not_false_eq_true])
  all_goals first
    | (exfalso; omega)
    | exact PM.ok (by omega) hR.thr
    | exact PM.ok (er _ (by omega) (by omega)) hR.thr
