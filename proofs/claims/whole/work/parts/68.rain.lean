theorem mask32 (X : Int) : q_and X 2147483647 = X % 2147483648 := by
  have e : (qI X &&& qI 2147483647).toBitVec.toNat = (X % 4294967296).toNat % 2147483648 := by
    have h1 : (qI 2147483647).toBitVec.toNat = 2 ^ 31 - 1 := by decide
    have h2 : (qI X).toBitVec.toNat = (X % 4294967296).toNat := by
      show (BitVec.ofInt 32 X).toNat = _
      rw [BitVec.toNat_ofInt]; rfl
    rw [Int32.toBitVec_and, BitVec.toNat_and, h1, h2, Nat.and_two_pow_sub_one_eq_mod]
  show (qI X &&& qI 2147483647).toBitVec.toInt = _
  rw [BitVec.toInt_eq_toNat_of_lt (by rw [e]; omega), e]
  omega
theorem mask64 (X : Int) : q_land X 2147483647 = X % 2147483648 := by
  have e : (qJ X &&& qJ 2147483647).toBitVec.toNat = (X % 18446744073709551616).toNat % 2147483648 := by
    have h1 : (qJ 2147483647).toBitVec.toNat = 2 ^ 31 - 1 := by decide
    have h2 : (qJ X).toBitVec.toNat = (X % 18446744073709551616).toNat := by
      show (BitVec.ofInt 64 X).toNat = _
      rw [BitVec.toNat_ofInt]; rfl
    rw [Int64.toBitVec_and, BitVec.toNat_and, h1, h2, Nat.and_two_pow_sub_one_eq_mod]
  show (qJ X &&& qJ 2147483647).toBitVec.toInt = _
  rw [BitVec.toInt_eq_toNat_of_lt (by rw [e]; omega), e]
  omega
theorem shr_div {x p : Int} (hx : in32 x) (hp : 0 ≤ p ∧ p < 32) : q_shr x p = x / 2 ^ p.toNat := by
  have h31 := and31_v ⟨p.toNat, by omega⟩
  simp only [Int.toNat_of_nonneg hp.1] at h31
  unfold q_shr
  show (qI x >>> (qI p &&& 31)).toBitVec.toInt = _
  rw [Int32.toBitVec_shiftRight, BitVec.sshiftRight', h31, BitVec.toInt_sshiftRight, Int.shiftRight_eq_div_pow]
  have e : (qI x).toBitVec.toInt = x := w32_id hx
  rw [e]
  norm_cast
theorem rainsW {t k : Nat} {q r b : Int} {Mc Mm : Mem} (h : MR t k q r b Mc Mm) : ∃ z Mc' Mm', f_X3_rains Mc = some (z, Mc') ∧ f_X10_doesRain q r Mm = some (z, Mm') ∧ (z = 0 ∨ z = 1) ∧ MQr t k q r b Mc Mm Mc' Mm' := by
  obtain ⟨r1, r2, r3, -⟩ := h.rng
  obtain ⟨e1, e2, e3, -⟩ := h.raw
  have ht := h.1.1
  have hS := h.1.2.1
  have hR := h.1.2.2.2.2.1
  obtain ⟨h70, h71⟩ := h.2.2.1
  obtain ⟨⟨o1, o2⟩, -⟩ := h.2.2.2.1
  have hq := h.2.1
  have hv := h.2.2.2.2
  have base : MQr t k q r b Mc Mm Mc Mm := ⟨h, GC.refl _ _, GM.refl _ _, rfl⟩
  unfold f_X3_rains f_X10_doesRain f_X3_rains_J47 f_X10_doesRain_J21
  simp (disch := omega) only [w32_id, q_gf_e, q_gr_e, q_pf_e, q_pz_e, q_let_e, q_call_e, q_calp_e, q_al_ok, q_as_ok, q_nz_ok, up_same, up_nei, up_ne1, Int.toNat_natCast, reduceIte, Int.reduceEq, Int.reduceLT, Int.reduceLE, Int.reduceNeg, not_true_eq_false, not_false_eq_true, h70, h71, o1, hR.1, e2]
  rcases o2 with rfl | rfl
  · simp only [not_true_eq_false, if_false, if_true]
    by_cases c : Mm 35 4 < 50
    · simp only [c, if_true]
      exact ⟨0, Mc, Mm, rfl, rfl, .inl rfl, base⟩
    · simp only [c, if_false]
      exact ⟨1, Mc, Mm, rfl, rfl, .inr rfl, base⟩
  · simp only [Int.reduceEq, not_false_eq_true, if_true, if_false]
    by_cases c0 : Mm 35 4 = 0
    · simp only [c0, if_true]
      exact ⟨0, Mc, Mm, rfl, rfl, .inl rfl, base⟩
    · simp only [c0, if_false]
      by_cases c1 : Mm 35 4 = 100
      · simp only [c1, not_true_eq_false, if_false]
        exact ⟨1, Mc, Mm, rfl, rfl, .inr rfl, base⟩
      · simp only [c1, not_false_eq_true, if_true]
        have r2' := r2
        unfold in32 at r2'
        simp (disch := omega) only [w32_id, q_gf_e, q_gr_e, q_pf_e, q_pz_e, q_let_e, q_call_e, q_calp_e, q_al_ok, q_as_ok, q_nz_ok, up_same, up_nei, up_ne1, Int.toNat_natCast, reduceIte, Int.reduceEq, Int.reduceLT, Int.reduceLE, Int.reduceNeg, not_true_eq_false, not_false_eq_true, h70, h71, hR.1]
        rw [mask64, mask32]
        generalize hN : (Mm 68 q * 1103515245 + 12345) % 2147483648 = N
        have hN' : 0 ≤ N ∧ N < 2147483648 := by rw [← hN]; omega
        have hd : N.tdiv 65536 = N / 65536 := Int.tdiv_eq_ediv_of_nonneg hN'.1
        have hs : q_shr N 16 = N / 65536 := by
          rw [shr_div (by unfold in32; omega) (by omega)]; rfl
        simp (disch := omega) only [w32_id, q_gf_e, q_gr_e, q_pf_e, q_pz_e, q_let_e, q_call_e, q_calp_e, q_al_ok, q_as_ok, q_nz_ok, up_same, up_nei, up_ne1, Int.toNat_natCast, reduceIte, Int.reduceEq, Int.reduceLT, Int.reduceLE, Int.reduceNeg, not_true_eq_false, not_false_eq_true, hd, hs]
        have hm : (N / 65536).tmod 100 = (N / 65536) % 100 := Int.tmod_eq_emod_of_nonneg (by omega)
        rw [hm]
        (try simp (disch := omega) only [w32_id, q_gf_e, q_gr_e, q_pf_e, q_pz_e, q_let_e, q_call_e, q_calp_e, q_al_ok, q_as_ok, q_nz_ok, up_same, up_nei, up_ne1, Int.toNat_natCast, reduceIte, Int.reduceEq, Int.reduceLT, Int.reduceLE, Int.reduceNeg, not_true_eq_false, not_false_eq_true])
        have kv : VEQ (cvw k (up Mc k 1 N)) (up (cvw k Mc) 0 1 N) := by
          refine ⟨?_, ?_, ?_, fun f i a b c d => ?_⟩
          · show up Mc k 1 N k 0 = up (cvw k Mc) 0 1 N 0 0
            rw [up_nei (by omega), up_nei (by omega)]; rfl
          · show up Mc k 1 N k 1 = up (cvw k Mc) 0 1 N 0 1
            rw [up_same, up_same]
          · show up Mc k 1 N k 9 = up (cvw k Mc) 0 1 N 0 9
            rw [up_nei (by omega), up_nei (by omega)]; rfl
          · rw [up_ne1 (by omega)]
            unfold cvw
            rw [if_neg (by omega), if_neg (by omega), up_ne1 (by omega)]
        have mv : VEQ (mvw q (up Mm 68 q N)) (up (mvw q Mm) 0 1 N) := by
          refine ⟨?_, ?_, ?_, fun f i a b c d => ?_⟩
          · show up Mm 68 q N 67 q = up (mvw q Mm) 0 1 N 0 0
            rw [up_ne1 (by omega), up_nei (by omega)]; rfl
          · show up Mm 68 q N 68 q = up (mvw q Mm) 0 1 N 0 1
            rw [up_same, up_same]
          · show up Mm 68 q N 69 q = up (mvw q Mm) 0 1 N 0 9
            rw [up_ne1 (by omega), up_nei (by omega)]; rfl
          · rw [up_ne1 (by omega)]
            have e : mvc f ≠ 68 := by unfold mvc; split <;> omega
            have ef : f ≠ 0 := by omega
            simp only [mvw, if_neg ef]
            rw [up_ne1 e]
        have uq : EQV (Mm 35 0) (up (cvw k Mc) 0 1 N) (up (mvw q Mm) 0 1 N) := by
          obtain ⟨x1, x2, x3, x4, x5⟩ := hv.1
          refine ⟨by rw [up_nei (by omega), up_nei (by omega)]; exact x1, by rw [up_same, up_same], by rw [up_nei (by omega), up_nei (by omega)]; exact x3, fun i a b => ?_, fun p a b => ?_⟩
          · rw [up_nei (by omega)] at b
            rw [up_ne1 (by omega), up_ne1 (by omega)]; exact x4 i a b
          · simp (disch := omega) only [up_ne1]
            exact x5 p a b
        have uw : WFB (Mm 35 0) b (up (cvw k Mc) 0 1 N) := by
          obtain ⟨x1, x2, x3, x4, x5, x6⟩ := hv.2.1
          unfold WFB
          simp (disch := omega) only [up_ne1, up_nei, up_same]
          exact ⟨x1, by unfold in32; omega, x3, x4, x5, x6⟩
        have un : NOB (Mm 35 0) (up (mvw q Mm) 0 1 N) := by
          intro j a b
          simp (disch := omega) only [up_ne1]
          exact hv.2.2 j a b
        have w9 : cvw k Mc 0 9 = Mc k 9 := rfl
        have w9' : mvw q Mm 0 9 = Mm 69 q := rfl
        have k1 := VEQ.to (S := Mm 35 0) kv (by omega) (by rw [kv.2.2.1, up_nei (by omega)]; omega)
        have k2 := VEQ.to (S := Mm 35 0) mv (by omega) (by rw [mv.2.2.1, up_nei (by omega)]; omega)
        have gc : GC k Mc (up Mc k 1 N) := fun n a _ _ _ _ _ => up_ne1 a
        have gm : GM q Mm (up Mm 68 q N) := ⟨fun n _ _ _ _ a => up_ne1 (by omega), fun f a b => by rw [up_ne1 (by omega)], fun n i _ _ a => up_ne (by omega), fun n i a b c => up_ne (by omega), fun p _ _ _ => by rw [up_ne1 (by omega)]⟩
        have fin : MQr t k q 1 b Mc Mm (up Mc k 1 N) (up Mm 68 q N) := ⟨h.step gc gm (k1.trans (uq.trans k2.symm)) (WFB.of uw k1.symm) (NOB.of un mv.symm (by omega)), gc, gm, by rw [up_ne1 (by omega)]⟩
        by_cases c2 : Mm 35 4 ≤ N / 65536 % 100
        · simp only [c2, if_true]
          exact ⟨0, _, _, rfl, rfl, .inl rfl, fin⟩
        · simp only [c2, if_false]
          exact ⟨1, _, _, rfl, rfl, .inr rfl, fin⟩
