def MQr (t k : Nat) (q r b : Int) (Mc Mm : Mem) (x y : Mem) : Prop := MR t k q r b x y ∧ GC k Mc x ∧ GM q Mm y ∧ y 67 q = Mm 67 q
set_option maxHeartbeats 1000000 in
theorem comeW {t k : Nat} {q r a1 b : Int} {Mc Mm : Mem} (h : MR t k q r b Mc Mm) : W2 (f_X3_letCome Mc) (f_X10_passes q a1 Mm) (fun M => some (0, M)) (fun M => f_X10_passes_L55 q a1 q_N 0 M) (MQr t k q r b Mc Mm) := by
  have hS := h.1.2.1
  have hq := h.2.1
  have ht := h.1.1
  unfold f_X3_letCome f_X10_passes f_X3_letCome_L2 f_X10_passes_L2
  refine lock (fun n (s : Int × Mem) => qlm1 (fun x1 M g2 => f_X3_letCome_B2 x1 M g2) n s.1 s.2) (fun n (s : Int × Mem) => qlm1 (fun x3 M g2 => f_X10_passes_B2 q a1 x3 M g2) n s.1 s.2) _ _ _ (fun s u => s.1 = u.1 ∧ 0 ≤ u.1 ∧ u.1 ≤ Mm 35 0 ∧ MQr t k q r b Mc Mm s.2 u.2) (fun s u => (Mm 35 0 - u.1).toNat) ?_ q_N q_N (0, Mc) (0, Mm) ⟨rfl, by show (0 : Int) ≤ 0; omega, by show 0 ≤ Mm 35 0; omega, h, GC.refl _ _, GM.refl _ _, rfl⟩ (q_N_lt (by show (Mm 35 0 - 0).toNat < 100000; omega)) (q_N_lt (by show (Mm 35 0 - 0).toNat < 100000; omega))
  intro n n' ⟨x, M⟩ ⟨y, M'⟩ ⟨i1, i2, i3, i4, i5, i6, i7⟩ ih
  simp only at i1 i2 i3 i4 i5 i6 i7 ih
  subst i1
  show W2 (f_X3_letCome_B2 x M (qlm1 (fun x1 M g2 => f_X3_letCome_B2 x1 M g2) n)) (f_X10_passes_B2 q a1 x M' (qlm1 (fun x3 M g2 => f_X10_passes_B2 q a1 x3 M g2) n')) _ _ _
  generalize hGc : qlm1 (fun x1 M g2 => f_X3_letCome_B2 x1 M g2) n = Gc at ih ⊢
  generalize hGm : qlm1 (fun x3 M g2 => f_X10_passes_B2 q a1 x3 M g2) n' = Gm at ih ⊢
  obtain ⟨r1, r2, r3, r4, r5, r6⟩ := i4.rng
  obtain ⟨e1, e2, e3, e4, e5⟩ := i4.raw
  obtain ⟨h70, h71⟩ := i4.2.2.1
  have m35 : M' 35 0 = Mm 35 0 := congrFun (i6.1 35 (by omega) (by omega) (by omega) (by omega) (by omega)) 0
  have hS' := i4.1.2.1
  unfold f_X3_letCome_B2 f_X10_passes_B2
  simp (disch := omega) only [w32_id, q_gf_e, q_gr_e, q_pf_e, q_pz_e, q_let_e, q_call_e, q_calp_e, q_al_ok, q_as_ok, q_nz_ok, up_same, up_nei, up_ne1, Int.toNat_natCast, reduceIte, Int.reduceEq, Int.reduceLT, Int.reduceLE, Int.reduceNeg, not_true_eq_false, not_false_eq_true, h70, h71, hS'.1]
  by_cases c : M' 35 0 ≤ x
  · rw [if_pos c, if_pos c]
    exact W2.ok M M' rfl rfl ⟨i4, i5, i6, i7⟩
  · rw [if_neg c, if_neg c]
    have hP := (i4.1.2.2.2.2.2.2.2.1 x i2 (by omega)).2.1
    have hw := (r6 x i2 (by omega)).1
    have ew := (e5 x i2 (by omega)).1
    simp (disch := omega) only [w32_id, q_gf_e, q_gr_e, q_pf_e, q_pz_e, q_let_e, q_call_e, q_calp_e, q_al_ok, q_as_ok, q_nz_ok, up_same, up_nei, up_ne1, Int.toNat_natCast, reduceIte, Int.reduceEq, Int.reduceLT, Int.reduceLE, Int.reduceNeg, not_true_eq_false, not_false_eq_true, hP.1, e1, ew]
    have skip : W2 (Gc (x + 1) M) (Gm (x + 1) M') (fun M => some (0, M)) (fun M => f_X10_passes_L55 q a1 q_N 0 M) (MQr t k q r b Mc Mm) := ih (x + 1, M) (x + 1, M') ⟨rfl, by show 0 ≤ x + 1; omega, by show x + 1 ≤ Mm 35 0; omega, i4, i5, i6, i7⟩ (by show (Mm 35 0 - (x + 1)).toNat < (Mm 35 0 - x).toNat; omega)
    by_cases c1 : M' 37 x = M' 67 q
    · by_cases c2 : M' 71 (8 * q + x) = 0
      · simp only [c1, c2, not_true_eq_false, if_false]
        have hv := i4.2.2.2.2
        have v2 : cvw k M 2 x = 0 := by show M (32 * (k + 1) + 2) x = 0; rw [ew]; exact c2
        have v2' : mvw q M' 2 x = 0 := c2
        have hroom := hv.2.1.room (s := x) ⟨i2, by omega⟩ (by omega)
        have w9 : cvw k M 0 9 = M k 9 := rfl
        have w9' : mvw q M' 0 9 = M' 69 q := rfl
        rw [joinsM (by omega) (by omega) (by omega), putInC (by omega) (by omega) (by omega) (by omega)]
        (try simp (disch := omega) only [w32_id, q_gf_e, q_gr_e, q_pf_e, q_pz_e, q_let_e, q_call_e, q_calp_e, q_al_ok, q_as_ok, q_nz_ok, up_same, up_nei, up_ne1, Int.toNat_natCast, reduceIte, Int.reduceEq, Int.reduceLT, Int.reduceLE, Int.reduceNeg, not_true_eq_false, not_false_eq_true])
        have k1 := VEQ.to (S := M' 35 0) (PIC.vw (k := k) (s := x) (p := M k 9) (M := M)) (by omega) (by rw [PIC.vw.2.2.1, PIV.f0, if_pos rfl]; omega)
        have k2 := VEQ.to (S := M' 35 0) (JNM.vw (q := q) (s := x) (M := M')) (by omega) (by rw [JNM.vw.2.2.1, PIV.f0, if_pos rfl]; omega)
        have k3 := PIV.eqv (s := x) (p := M k 9) hv.1 (by omega) (by omega)
        rw [e3] at k1 k3 ⊢
        refine ih (x + 1, _) (x + 1, _) ⟨rfl, by show 0 ≤ x + 1; omega, by show x + 1 ≤ Mm 35 0; omega, i4.step PIC.gc (JNM.gm (by omega) (by omega) c2) (k1.trans (k3.trans k2.symm)) ?_ ?_, i5.trans PIC.gc, i6.trans (JNM.gm (by omega) (by omega) c2), ?_⟩ (by show (Mm 35 0 - (x + 1)).toNat < (Mm 35 0 - x).toNat; omega)
        · exact WFB.of (PIV.wf hv.2.1 ⟨i2, by omega⟩ (by omega) (by omega)) k1.symm
        · exact NOB.of (PIV.nob hv.2.2 (by omega)) JNM.vw.symm (by omega)
        · rw [← i7]
          have jv := JNM.vw (q := q) (s := x) (M := M')
          exact jv.1.trans (by rw [PIV.f0, if_neg (by omega)]; rfl)
      · simp only [c1, c2, not_true_eq_false, not_false_eq_true, if_false, if_true]
        exact skip
    · simp only [c1, not_false_eq_true, if_true, ite_self]
      exact skip
theorem comesW {t k : Nat} {q r b bus : Int} {Mc Mm : Mem} (h : MR t k q r b Mc Mm) (hb : 0 ≤ bus ∧ bus < Mm 35 1) : ∃ z, f_X3_comes bus Mc = some z ∧ f_X10_isComing bus (Mm 67 q) Mm = some z ∧ (z = 0 ∨ z = 1) := by
  obtain ⟨r1, -⟩ := h.rng
  obtain ⟨e1, -⟩ := h.raw
  have hB := h.1.2.2.1
  obtain ⟨h70, h71⟩ := h.2.2.1
  obtain ⟨-, -, ⟨o1, o2, o3, o4⟩⟩ := h.2.2.2.1
  have hq := h.2.1
  obtain ⟨-, hf, he, -⟩ := h.1.2.2.2.2.2.2.2.2.2.1 bus hb.1 hb.2
  obtain ⟨ev, v1, v2, v3⟩ : ∃ ev, f_X10_everyOf bus Mm = some ev ∧ f_X3_comes bus Mc = f_X3_comes_J24 bus ev Mc ∧ 1 ≤ ev ∧ ev ≤ 30 := by
    unfold f_X3_comes f_X10_everyOf
    simp (disch := omega) only [w32_id, q_gf_e, q_gr_e, q_pf_e, q_pz_e, q_let_e, q_call_e, q_calp_e, q_al_ok, q_as_ok, q_nz_ok, up_same, up_nei, up_ne1, Int.toNat_natCast, reduceIte, Int.reduceEq, Int.reduceLT, Int.reduceLE, Int.reduceNeg, not_true_eq_false, not_false_eq_true, h70, o1]
    by_cases c : bus = Mm 0 48
    · have o4 := o4 (by omega)
      have n1 : ¬ ¬ bus = Mm 0 48 := by omega
      refine ⟨Mm 0 49, ?_, ?_, o4.2⟩
      · rw [if_neg n1]
      · rw [if_neg n1, o4.1]
    · refine ⟨Mm 42 bus, ?_, ?_, he.2⟩
      · rw [if_pos c]
      · rw [if_pos c]
        simp (disch := omega) only [w32_id, q_gf_e, q_gr_e, q_pf_e, q_pz_e, q_let_e, q_call_e, q_calp_e, q_al_ok, q_as_ok, q_nz_ok, up_same, up_nei, up_ne1, Int.toNat_natCast, reduceIte, Int.reduceEq, Int.reduceLT, Int.reduceLE, Int.reduceNeg, not_true_eq_false, not_false_eq_true, he.1]
  rw [v2]
  unfold f_X3_comes_J24 f_X10_isComing
  simp (disch := omega) only [w32_id, q_gf_e, q_gr_e, q_pf_e, q_pz_e, q_let_e, q_call_e, q_calp_e, q_al_ok, q_as_ok, q_nz_ok, up_same, up_nei, up_ne1, Int.toNat_natCast, reduceIte, Int.reduceEq, Int.reduceLT, Int.reduceLE, Int.reduceNeg, not_true_eq_false, not_false_eq_true, h70, h71, hf.1, e1, v1]
  have hm : -2147483648 ≤ (Mm 67 q - Mm 41 bus).tmod ev ∧ (Mm 67 q - Mm 41 bus).tmod ev < 2147483648 := by
    have := Int.natAbs_tmod (Mm 67 q - Mm 41 bus) ev
    have h2 : (Mm 67 q - Mm 41 bus).natAbs % ev.natAbs ≤ (Mm 67 q - Mm 41 bus).natAbs := Nat.mod_le _ _
    omega
  rw [w32_id hm]
  by_cases c1 : Mm 67 q < Mm 41 bus
  · rw [if_pos (by omega), if_pos c1]; exact ⟨0, rfl, rfl, .inl rfl⟩
  · rw [if_neg (by omega), if_neg c1, if_neg (by omega)]
    split
    · exact ⟨0, rfl, rfl, .inl rfl⟩
    · exact ⟨1, rfl, rfl, .inr rfl⟩
