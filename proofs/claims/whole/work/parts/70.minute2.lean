theorem tickW {t k : Nat} {q r b : Int} {Mc Mm : Mem} (h : MR t k q r b Mc Mm) (hb : b ≤ 4) (hm : Mm 67 q < 10000) : MR t k q r 0 (up Mc k 0 (Mc k 0 + 1)) (up Mm 67 q (Mm 67 q + 1)) ∧ GC k Mc (up Mc k 0 (Mc k 0 + 1)) ∧ GM q Mm (up Mm 67 q (Mm 67 q + 1)) := by
  have hS := h.1.2.1
  have hv := h.2.2.2.2
  have hq := h.2.1
  have e1 := h.raw.1
  have hk0 : cvw k Mc 0 0 = Mc k 0 := rfl
  have hm0 : mvw q Mm 0 0 = Mm 67 q := rfl
  have kv : VEQ (cvw k (up Mc k 0 (Mc k 0 + 1))) (up (cvw k Mc) 0 0 (Mc k 0 + 1)) := by
    refine ⟨?_, ?_, ?_, fun f i a b c d => ?_⟩
    · show up Mc k 0 (Mc k 0 + 1) k 0 = _
      rw [up_same, up_same]
    · show up Mc k 0 (Mc k 0 + 1) k 1 = up (cvw k Mc) 0 0 (Mc k 0 + 1) 0 1
      rw [up_nei (by omega), up_nei (by omega)]; rfl
    · show up Mc k 0 (Mc k 0 + 1) k 9 = up (cvw k Mc) 0 0 (Mc k 0 + 1) 0 9
      rw [up_nei (by omega), up_nei (by omega)]; rfl
    · rw [up_ne1 (by omega)]
      unfold cvw
      rw [if_neg (by omega), if_neg (by omega), up_ne1 (by omega)]
  have mv : VEQ (mvw q (up Mm 67 q (Mm 67 q + 1))) (up (mvw q Mm) 0 0 (Mm 67 q + 1)) := by
    refine ⟨?_, ?_, ?_, fun f i a b c d => ?_⟩
    · show up Mm 67 q (Mm 67 q + 1) 67 q = _
      rw [up_same, up_same]
    · show up Mm 67 q (Mm 67 q + 1) 68 q = up (mvw q Mm) 0 0 (Mm 67 q + 1) 0 1
      rw [up_ne1 (by omega), up_nei (by omega)]; rfl
    · show up Mm 67 q (Mm 67 q + 1) 69 q = up (mvw q Mm) 0 0 (Mm 67 q + 1) 0 9
      rw [up_ne1 (by omega), up_nei (by omega)]; rfl
    · rw [up_ne1 (by omega)]
      have e : mvc f ≠ 67 := by unfold mvc; split <;> omega
      have ef : f ≠ 0 := by omega
      simp only [mvw, if_neg ef]
      rw [up_ne1 e]
  have uq : EQV (Mm 35 0) (up (cvw k Mc) 0 0 (Mc k 0 + 1)) (up (mvw q Mm) 0 0 (Mm 67 q + 1)) := by
    obtain ⟨x1, x2, x3, x4, x5⟩ := hv.1
    refine ⟨by rw [up_same, up_same]; omega, by rw [up_nei (by omega), up_nei (by omega)]; exact x2, by rw [up_nei (by omega), up_nei (by omega)]; exact x3, fun i a b => ?_, fun p a b => ?_⟩
    · rw [up_nei (by omega)] at b
      rw [up_ne1 (by omega), up_ne1 (by omega)]; exact x4 i a b
    · simp (disch := omega) only [up_ne1]
      exact x5 p a b
  have uw : WFB (Mm 35 0) 0 (up (cvw k Mc) 0 0 (Mc k 0 + 1)) := by
    obtain ⟨x1, x2, x3, x4, x5, x6⟩ := hv.2.1
    unfold WFB
    simp (disch := omega) only [up_ne1, up_nei, up_same]
    refine ⟨by omega, x2, x3, x4, x5, fun p a b => ?_⟩
    obtain ⟨y1, y2, y3, y4, y5⟩ := x6 p a b
    exact ⟨y1, y2, y3, by omega, y5⟩
  have un : NOB (Mm 35 0) (up (mvw q Mm) 0 0 (Mm 67 q + 1)) := by
    intro j a b
    simp (disch := omega) only [up_ne1]
    exact hv.2.2 j a b
  have w9 : cvw k Mc 0 9 = Mc k 9 := rfl
  have w9' : mvw q Mm 0 9 = Mm 69 q := rfl
  have r3 := h.rng.2.2.1
  have e3 := h.raw.2.2.1
  have k1 := VEQ.to (S := Mm 35 0) kv (by omega) (by rw [kv.2.2.1, up_nei (by omega)]; omega)
  have k2 := VEQ.to (S := Mm 35 0) mv (by omega) (by rw [mv.2.2.1, up_nei (by omega)]; omega)
  have gc : GC k Mc (up Mc k 0 (Mc k 0 + 1)) := fun n a _ _ _ _ _ => up_ne1 a
  have gm : GM q Mm (up Mm 67 q (Mm 67 q + 1)) := ⟨fun n _ _ _ _ a => up_ne1 (by omega), fun f a b => by rw [up_ne1 (by omega)], fun n i _ _ a => up_ne (by omega), fun n i a b c => up_ne (by omega), fun p _ _ _ => by rw [up_ne1 (by omega)]⟩
  exact ⟨h.step gc gm (k1.trans (uq.trans k2.symm)) (WFB.of uw k1.symm) (NOB.of un mv.symm (by omega)), gc, gm⟩
theorem J189 {q : Int} {M : Mem} (hq : 0 ≤ q ∧ q < 23) : f_X10_passes_J189 q M = some (0, up M 67 q (M 67 q + 1)) := by
  unfold f_X10_passes_J189
  simp (disch := omega) only [w32_id, q_gf_e, q_gr_e, q_pf_e, q_pz_e, q_let_e, q_call_e, q_calp_e, q_al_ok, q_as_ok, q_nz_ok, up_same, up_nei, up_ne1, Int.toNat_natCast, reduceIte, Int.reduceEq, Int.reduceLT, Int.reduceLE, Int.reduceNeg, not_true_eq_false, not_false_eq_true]
theorem dryL {q x : Int} {M : Mem} (hq : 0 ≤ q ∧ q < 23) : f_X10_passes_L106 q 0 q_N x M = some (0, up M 67 q (M 67 q + 1)) := by
  rw [← wpo_eq]
  unfold f_X10_passes_L106
  refine qlm1_N (fun y N => N = M) (fun _ _ => 1) _ _ rfl (by omega) ?_
  intro y N g e ih
  subst e
  unfold f_X10_passes_B106
  simp (disch := omega) only [w32_id, q_gf_e, q_gr_e, q_pf_e, q_pz_e, q_let_e, q_call_e, q_calp_e, q_al_ok, q_as_ok, q_nz_ok, up_same, up_nei, up_ne1, Int.toNat_natCast, reduceIte, Int.reduceEq, Int.reduceLT, Int.reduceLE, Int.reduceNeg, not_true_eq_false, not_false_eq_true, J189]
  split <;> exact wpo_some.mpr rfl
def MI (t k : Nat) (q r : Int) (Mc Mm x y : Mem) : Prop := MR t k q r 0 x y ∧ GC k Mc x ∧ GM q Mm y ∧ y 67 q = Mm 67 q + 1
theorem passes_rain {t k : Nat} {q r b x1 x2 : Int} {g2 : Int → Mem → Res} {Mc Mm : Mem} (h : MR t k q r b Mc Mm) (hb : b ≤ 4) (hm : Mm 67 q < 10000) : W2 (q_call (f_X3_rains Mc) fun r3 M4 => if w32 r3 = 0 then (f_X3_pass_J54 g2 x1 x2 M4) else (q_call (f_X3_soak M4) fun r5 M6 => f_X3_pass_J54 g2 x1 x2 M6)) (q_call (f_X10_doesRain q r Mm) fun r2 M3 => q_al M3 35 14 3 fun v4 => f_X10_passes_L106 q r2 q_N v4 M3) (fun M => g2 (x2 + 1) M) (fun M => some (0, M)) (MI t k q r Mc Mm) := by
  have hq := h.2.1
  obtain ⟨z, M1, N1, a1, a2, a3, a4⟩ := rainsW h
  have hJ : ∀ M N, MQr t k q r b Mc Mm M N → f_X3_pass_J54 g2 x1 x2 M = g2 (x2 + 1) (up M k 0 (M k 0 + 1)) := by
    intro M N hM
    obtain ⟨h70, h71⟩ := hM.1.2.2.1
    unfold f_X3_pass_J54
    simp (disch := omega) only [w32_id, q_gf_e, q_gr_e, q_pf_e, q_pz_e, q_let_e, q_call_e, q_calp_e, q_al_ok, q_as_ok, q_nz_ok, up_same, up_nei, up_ne1, Int.toNat_natCast, reduceIte, Int.reduceEq, Int.reduceLT, Int.reduceLE, Int.reduceNeg, not_true_eq_false, not_false_eq_true, h71]
  have fin : ∀ M N, MQr t k q r b Mc Mm M N → MI t k q r Mc Mm (up M k 0 (M k 0 + 1)) (up N 67 q (N 67 q + 1)) := by
    intro M N hM
    obtain ⟨y1, y2, y3⟩ := tickW hM.1 hb (by rw [hM.2.2.2]; exact hm)
    exact ⟨y1, hM.2.1.trans y2, hM.2.2.1.trans y3, by rw [up_same, hM.2.2.2]⟩
  rw [a1, a2]
  (try simp (disch := omega) only [w32_id, q_gf_e, q_gr_e, q_pf_e, q_pz_e, q_let_e, q_call_e, q_calp_e, q_al_ok, q_as_ok, q_nz_ok, up_same, up_nei, up_ne1, Int.toNat_natCast, reduceIte, Int.reduceEq, Int.reduceLT, Int.reduceLE, Int.reduceNeg, not_true_eq_false, not_false_eq_true])
  have w1 : ¬ w32 1 = 0 := by decide
  rcases a3 with rfl | rfl
  · simp (disch := omega) only [w32_id, q_gf_e, q_gr_e, q_pf_e, q_pz_e, q_let_e, q_call_e, q_calp_e, q_al_ok, q_as_ok, q_nz_ok, up_same, up_nei, up_ne1, Int.toNat_natCast, reduceIte, Int.reduceEq, Int.reduceLT, Int.reduceLE, Int.reduceNeg, not_true_eq_false, not_false_eq_true, dryL (show 0 ≤ q ∧ q < 23 by omega)]
    exact W2.ok _ _ (hJ _ _ a4) rfl (fin _ _ a4)
  · rw [if_neg (show ¬ (1 : Int) = 0 by omega)]
    obtain ⟨M2, N2, b1, b2, b3⟩ := soakW a4.1 rfl
    rw [b1, b2]
    (try simp (disch := omega) only [w32_id, q_gf_e, q_gr_e, q_pf_e, q_pz_e, q_let_e, q_call_e, q_calp_e, q_al_ok, q_as_ok, q_nz_ok, up_same, up_nei, up_ne1, Int.toNat_natCast, reduceIte, Int.reduceEq, Int.reduceLT, Int.reduceLE, Int.reduceNeg, not_true_eq_false, not_false_eq_true])
    exact W2.ok _ _ (hJ _ _ (a4.then b3)) (J189 (by omega)) (fin _ _ (a4.then b3))
set_option maxHeartbeats 1000000 in
theorem minuteW {t k : Nat} {q r x1 x2 : Int} {g2 : Int → Mem → Res} {Mc Mm : Mem} (h : MR t k q r 0 Mc Mm) (hm : Mm 67 q < 10000) (hx : 0 ≤ x2 ∧ x2 < x1 ∧ x1 ≤ 10000) : W2 (f_X3_pass_B2 x1 x2 Mc g2) (f_X10_passes q r Mm) (fun M => g2 (x2 + 1) M) (fun M => some (0, M)) (MI t k q r Mc Mm) := by
  obtain ⟨M1, N1, a1, a2, a3⟩ := comeW (a1 := r) h
  rw [a2]
  unfold f_X3_pass_B2
  rw [a1]
  (try simp (disch := omega) only [w32_id, q_gf_e, q_gr_e, q_pf_e, q_pz_e, q_let_e, q_call_e, q_calp_e, q_al_ok, q_as_ok, q_nz_ok, up_same, up_nei, up_ne1, Int.toNat_natCast, reduceIte, Int.reduceEq, Int.reduceLT, Int.reduceLE, Int.reduceNeg, not_true_eq_false, not_false_eq_true])
  rw [if_neg (by omega)]
  unfold f_X3_pass_L13 f_X10_passes_L55
  have hB := h.1.2.2.1
  have ht := h.1.1
  refine lock (fun n (s : Int × Mem) => qlm1 (fun x3 M g13 => f_X3_pass_B13 g2 x1 x2 x3 M g13) n s.1 s.2) (fun n (s : Int × Mem) => qlm1 (fun x3 M g55 => f_X10_passes_B55 q r x3 M g55) n s.1 s.2) _ _ _ (fun s u => s.1 = u.1 ∧ 0 ≤ u.1 ∧ u.1 ≤ Mm 35 1 ∧ MQr t k q r u.1 Mc Mm s.2 u.2) (fun s u => (Mm 35 1 - u.1).toNat) ?_ q_N q_N (0, M1) (0, N1) ⟨rfl, by show (0 : Int) ≤ 0; omega, by show 0 ≤ Mm 35 1; omega, a3⟩ (q_N_lt (by show (Mm 35 1 - 0).toNat < 100000; omega)) (q_N_lt (by show (Mm 35 1 - 0).toNat < 100000; omega))
  intro n n' ⟨x, M⟩ ⟨y, M'⟩ ⟨i1, i2, i3, i4⟩ ih
  simp only at i1 i2 i3 i4 ih
  subst i1
  show W2 (f_X3_pass_B13 g2 x1 x2 x M (qlm1 (fun x3 M g13 => f_X3_pass_B13 g2 x1 x2 x3 M g13) n)) (f_X10_passes_B55 q r x M' (qlm1 (fun x3 M g55 => f_X10_passes_B55 q r x3 M g55) n')) _ _ _
  generalize hGc : qlm1 (fun x3 M g13 => f_X3_pass_B13 g2 x1 x2 x3 M g13) n = Gc at ih ⊢
  generalize hGm : qlm1 (fun x3 M g55 => f_X10_passes_B55 q r x3 M g55) n' = Gm at ih ⊢
  have i4' := i4.1
  obtain ⟨h70, h71⟩ := i4'.2.2.1
  have m35 : M' 35 = Mm 35 := i4.2.2.1.1 35 (by omega) (by omega) (by omega) (by omega) (by omega)
  have hB' := i4'.1.2.2.1
  have hq := i4'.2.1
  unfold f_X3_pass_B13 f_X10_passes_B55
  rw [m35] at hB'
  simp (disch := omega) only [w32_id, q_gf_e, q_gr_e, q_pf_e, q_pz_e, q_let_e, q_call_e, q_calp_e, q_al_ok, q_as_ok, q_nz_ok, up_same, up_nei, up_ne1, Int.toNat_natCast, reduceIte, Int.reduceEq, Int.reduceLT, Int.reduceLE, Int.reduceNeg, not_true_eq_false, not_false_eq_true, h70, hB'.1, m35]
  by_cases c : Mm 35 1 ≤ x
  · rw [if_pos c, if_pos c]
    obtain ⟨c1, d1, f1, f2, f3, f4, f5, f6⟩ := passes_rain (g2 := g2) (x1 := x1) (x2 := x2) i4' (by omega) (by rw [i4.2.2.2]; exact hm)
    exact ⟨c1, d1, f1, f2, f3, i4.2.1.trans f4, i4.2.2.1.trans f5, by rw [f6, i4.2.2.2]⟩
  · rw [if_neg c, if_neg c]
    obtain ⟨z, f1, f2, f3⟩ := comesW i4' (bus := x) ⟨i2, by rw [m35]; omega⟩
    rw [f1, f2]
    have w1 : ¬ w32 1 = 0 := by decide
    have w0 : w32 0 = 0 := by decide
    rcases f3 with rfl | rfl
    · rw [q_calp_e, q_calp_e, if_pos w0, if_pos w0]
      exact ih (x + 1, M) (x + 1, M') ⟨rfl, by show 0 ≤ x + 1; omega, by show x + 1 ≤ Mm 35 1; omega, i4'.mono (by show x ≤ x + 1; omega), i4.2⟩ (by show (Mm 35 1 - (x + 1)).toNat < (Mm 35 1 - x).toNat; omega)
    · rw [q_calp_e, q_calp_e, if_neg w1, if_neg w1]
      obtain ⟨⟨z1, M2⟩, ⟨z2, N2⟩, b1, b2, b3, b4, b5, b6⟩ := boardW i4' (bus := x) ⟨i2, by rw [m35]; omega⟩
      rw [b1, b2, q_call_e, q_call_e]
      exact ih (x + 1, M2) (x + 1, N2) ⟨rfl, by show 0 ≤ x + 1; omega, by show x + 1 ≤ Mm 35 1; omega, i4.then ⟨b3, b4, b5, b6⟩⟩ (by show (Mm 35 1 - (x + 1)).toNat < (Mm 35 1 - x).toNat; omega)
