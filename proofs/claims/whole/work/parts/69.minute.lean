theorem maxl0_rng (w : Int) (h : in64 w) : 0 ≤ q_maxl 0 (q_minl 99 w) ∧ q_maxl 0 (q_minl 99 w) ≤ 99 := by
  unfold in64 at h
  have e1 : q_minl 99 w = if w < 99 then w else 99 := by
    unfold q_minl
    rw [w64_id h, w64_id (x := 99) (by omega)]
  have e2 : ∀ m, in64 m → q_maxl 0 m = if m < 0 then 0 else m := fun m hm => by
    unfold q_maxl
    rw [w64_id hm, w64_id (x := 0) (by omega)]
  rw [e1]
  split
  · rw [e2 _ h]; split <;> omega
  · rw [e2 _ (by unfold in64; omega)]; split <;> omega
/-- one field of one soul is set on both sides -/
theorem setW {t k : Nat} {q r b s c : Int} {f : Nat} {Mc Mm : Mem} (h : MR t k q r b Mc Mm) (hs : 0 ≤ s ∧ s < Mm 35 0) (hf : (f = 4 ∧ 0 ≤ c ∧ c ≤ 999) ∨ (f = 3 ∧ 0 ≤ c ∧ c ≤ 99)) : MQr t k q r b Mc Mm (up Mc (32 * (k + 1) + f) s c) (up Mm (f + 69) (8 * q + s) c) := by
  have hS := h.1.2.1
  have hv := h.2.2.2.2
  have hq := h.2.1
  have kv : VEQ (cvw k (up Mc (32 * (k + 1) + f) s c)) (up (cvw k Mc) f s c) := by
    refine ⟨?_, ?_, ?_, fun g i a b d e => ?_⟩
    · show up Mc (32 * (k + 1) + f) s c k 0 = up (cvw k Mc) f s c 0 0
      rw [up_ne1 (by omega), up_ne1 (by omega)]; rfl
    · show up Mc (32 * (k + 1) + f) s c k 1 = up (cvw k Mc) f s c 0 1
      rw [up_ne1 (by omega), up_ne1 (by omega)]; rfl
    · show up Mc (32 * (k + 1) + f) s c k 9 = up (cvw k Mc) f s c 0 9
      rw [up_ne1 (by omega), up_ne1 (by omega)]; rfl
    · have eg : g ≠ 0 := by omega
      by_cases cc : g = f ∧ i = s
      · rw [cc.1, cc.2, up_same]
        simp only [cvw, if_neg (show f ≠ 0 by omega)]
        rw [up_same]
      · rw [up_ne cc]
        simp only [cvw, if_neg eg]
        rw [up_ne (by omega)]
  have mv : VEQ (mvw q (up Mm (f + 69) (8 * q + s) c)) (up (mvw q Mm) f s c) := by
    refine ⟨?_, ?_, ?_, fun g i a b d e => ?_⟩
    · show up Mm (f + 69) (8 * q + s) c 67 q = up (mvw q Mm) f s c 0 0
      rw [up_ne1 (by omega), up_ne1 (by omega)]; rfl
    · show up Mm (f + 69) (8 * q + s) c 68 q = up (mvw q Mm) f s c 0 1
      rw [up_ne1 (by omega), up_ne1 (by omega)]; rfl
    · show up Mm (f + 69) (8 * q + s) c 69 q = up (mvw q Mm) f s c 0 9
      rw [up_ne1 (by omega), up_ne1 (by omega)]; rfl
    · have eg : g ≠ 0 := by omega
      by_cases cc : g = f ∧ i = s
      · rw [cc.1, cc.2, up_same]
        have e8 : f ≠ 8 := by omega
        simp only [mvw, if_neg (show f ≠ 0 by omega), mvc, if_neg e8]
        rw [up_same]
      · rw [up_ne cc]
        simp only [mvw, if_neg eg]
        rw [up_ne]
        unfold mvc
        split <;> omega
  have uq : EQV (Mm 35 0) (up (cvw k Mc) f s c) (up (mvw q Mm) f s c) := by
    obtain ⟨x1, x2, x3, x4, x5⟩ := hv.1
    have z : ∀ v : Mem, up v f s c 0 = v 0 := fun v => up_ne1 (by omega)
    have z8 : ∀ v : Mem, up v f s c 8 = v 8 := fun v => up_ne1 (by omega)
    unfold EQV
    rw [z, z, z8, z8]
    refine ⟨x1, x2, x3, x4, fun p a b => ?_⟩
    have := x5 p a b
    by_cases cp : p = s
    · subst cp
      rcases hf with ⟨rfl, -⟩ | ⟨rfl, -⟩
      · simp (disch := omega) only [up_ne1, up_same]
        exact ⟨this.1, this.2.1, trivial, this.2.2.2⟩
      · simp (disch := omega) only [up_ne1, up_same]
        exact ⟨this.1, trivial, this.2.2⟩
    · simp only [up_nej cp]
      exact this
  have uw : WFB (Mm 35 0) b (up (cvw k Mc) f s c) := by
    obtain ⟨x1, x2, x3, x4, x5, x6⟩ := hv.2.1
    have z : ∀ v : Mem, up v f s c 0 = v 0 := fun v => up_ne1 (by omega)
    have z8 : ∀ v : Mem, up v f s c 8 = v 8 := fun v => up_ne1 (by omega)
    have z2 : ∀ v : Mem, up v f s c 2 = v 2 := fun v => up_ne1 (by omega)
    unfold WFB
    rw [z, z8, z2]
    refine ⟨x1, x2, x3, x4, x5, fun p a b => ?_⟩
    have := x6 p a b
    by_cases cp : p = s
    · subst cp
      rcases hf with ⟨rfl, hf⟩ | ⟨rfl, hf⟩
      · simp (disch := omega) only [up_ne1, up_same]
        exact ⟨this.1, this.2.1, hf, this.2.2.2⟩
      · simp (disch := omega) only [up_ne1, up_same]
        exact ⟨this.1, hf, this.2.2⟩
    · simp only [up_nej cp]
      exact this
  have un : NOB (Mm 35 0) (up (mvw q Mm) f s c) := by
    intro j a b
    simp (disch := omega) only [up_ne1]
    exact hv.2.2 j a b
  have w9 : cvw k Mc 0 9 = Mc k 9 := rfl
  have w9' : mvw q Mm 0 9 = Mm 69 q := rfl
  have r3 := h.rng.2.2.1
  have e3 := h.raw.2.2.1
  have k1 := VEQ.to (S := Mm 35 0) kv (by omega) (by rw [kv.2.2.1, up_ne1 (by omega)]; omega)
  have k2 := VEQ.to (S := Mm 35 0) mv (by omega) (by rw [mv.2.2.1, up_ne1 (by omega)]; omega)
  have gc : GC k Mc (up Mc (32 * (k + 1) + f) s c) := fun n _ a _ _ _ _ => up_ne1 (by omega)
  have gm : GM q Mm (up Mm (f + 69) (8 * q + s) c) := ⟨fun n _ _ _ _ a => up_ne1 (by omega), fun f a b => by rw [up_ne1 (by omega)], fun n i _ _ a => up_ne (by omega), fun n i a b c => up_ne (by omega), fun p _ _ _ => by rw [up_ne1 (by omega)]⟩
  exact ⟨h.step gc gm (k1.trans (uq.trans k2.symm)) (WFB.of uw k1.symm) (NOB.of un mv.symm (by omega)), gc, gm, by rw [up_ne1 (by omega)]⟩
theorem MQr.then {t k : Nat} {q r b b' : Int} {Mc Mm M1 N1 M2 N2 : Mem} (h : MQr t k q r b Mc Mm M1 N1) (h' : MQr t k q r b' M1 N1 M2 N2) : MQr t k q r b' Mc Mm M2 N2 := ⟨h'.1, h.2.1.trans h'.2.1, h.2.2.1.trans h'.2.2.1, h'.2.2.2.trans h.2.2.2⟩
theorem MQr.sc {t k : Nat} {q r b : Int} {Mc Mm M N : Mem} (h : MR t k q r b Mc Mm) (s : SC Mc M) (s' : SM Mm N) : MQr t k q r b Mc Mm M N := ⟨h.frm s s', s.gc, s'.gm, by rw [s'.1 67 (by omega) (by omega) (by omega) (by omega)]⟩
set_option maxHeartbeats 1000000 in
theorem soakW {t k : Nat} {q r b z : Int} {Mc Mm : Mem} (h : MR t k q r b Mc Mm) (hz : z = 1) : W2 (f_X3_soak Mc) (f_X10_passes_L106 q z q_N (Mm 35 3) Mm) (fun M => some (0, M)) (fun M => f_X10_passes_J189 q M) (MQr t k q r b Mc Mm) := by
  have hS := h.1.2.1
  have hq := h.2.1
  have ht := h.1.1
  have hse := h.1.2.2.2.1
  obtain ⟨h70, h71⟩ := h.2.2.1
  unfold f_X3_soak
  simp (disch := omega) only [w32_id, q_gf_e, q_gr_e, q_pf_e, q_pz_e, q_let_e, q_call_e, q_calp_e, q_al_ok, q_as_ok, q_nz_ok, up_same, up_nei, up_ne1, Int.toNat_natCast, reduceIte, Int.reduceEq, Int.reduceLT, Int.reduceLE, Int.reduceNeg, not_true_eq_false, not_false_eq_true, h70, hse.1]
  unfold f_X3_soak_L8 f_X10_passes_L106
  refine lock (fun n (s : Int × Mem) => qlm1 (fun x1 M g8 => f_X3_soak_B8 x1 M g8) n s.1 s.2) (fun n (s : Int × Mem) => qlm1 (fun x4 M g106 => f_X10_passes_B106 q z x4 M g106) n s.1 s.2) _ _ _ (fun s u => s.1 = u.1 ∧ 0 ≤ u.1 ∧ u.1 ≤ 16 ∧ MQr t k q r b Mc Mm s.2 u.2) (fun s u => (16 - u.1).toNat) ?_ q_N q_N (Mm 35 3, Mc) (Mm 35 3, Mm) ⟨rfl, hse.2.1, by show Mm 35 3 ≤ 16; omega, h, GC.refl _ _, GM.refl _ _, rfl⟩ (q_N_lt (by show (16 - Mm 35 3).toNat < 100000; omega)) (q_N_lt (by show (16 - Mm 35 3).toNat < 100000; omega))
  intro n n' ⟨x, M⟩ ⟨y, M'⟩ ⟨i1, i2, i3, i4⟩ ih
  simp only at i1 i2 i3 i4 ih
  subst i1
  show W2 (f_X3_soak_B8 x M (qlm1 (fun x1 M g8 => f_X3_soak_B8 x1 M g8) n)) (f_X10_passes_B106 q z x M' (qlm1 (fun x4 M g106 => f_X10_passes_B106 q z x4 M g106) n')) _ _ _
  generalize hGc : qlm1 (fun x1 M g8 => f_X3_soak_B8 x1 M g8) n = Gc at ih ⊢
  generalize hGm : qlm1 (fun x4 M g106 => f_X10_passes_B106 q z x4 M g106) n' = Gm at ih ⊢
  have i4' := i4.1
  obtain ⟨r1, r2, r3, r4, r5, r6⟩ := i4'.rng
  obtain ⟨e1, e2, e3, e4, e5⟩ := i4'.raw
  obtain ⟨h70, h71⟩ := i4'.2.2.1
  have hS' := i4'.1.2.1
  unfold f_X3_soak_B8 f_X10_passes_B106
  simp (disch := omega) only [w32_id, q_gf_e, q_gr_e, q_pf_e, q_pz_e, q_let_e, q_call_e, q_calp_e, q_al_ok, q_as_ok, q_nz_ok, up_same, up_nei, up_ne1, Int.toNat_natCast, reduceIte, Int.reduceEq, Int.reduceLT, Int.reduceLE, Int.reduceNeg, not_true_eq_false, not_false_eq_true, h70, h71, e3]
  by_cases c : M' 69 q ≤ x
  · rw [if_pos c, if_pos c]
    exact W2.ok M M' rfl rfl i4
  · rw [if_neg c, if_neg c, hz]
    have hx := r4 x i2 (by omega)
    have ex := e4 x i2 (by omega)
    generalize hs : M' 70 (8 * q + x) = s at *
    have hpl : f_X10_placeOf q s M' = some x := by rw [← hs]; exact i4'.place i2 (by omega)
    obtain ⟨Mc1, Mm1, v, Mc2, a1, a2, a3, a4, a5, a6, a7, a8⟩ := evW (l := 2) i4' ⟨hx.1, hx.2.1⟩ hpl (.inl ⟨rfl, i2, by omega⟩) (fare := 0) (by omega) (by omega)
    obtain ⟨Mm2, b1, b2⟩ := withinM (lo := 0) (hi := 99) (pl := 1) a8 a6
    rw [w32_id (x := 0) (by omega), w32_id (x := 99) (by omega)] at b1
    have w73 := (r6 s hx.1 hx.2.1).2.2.1
    have c73 := (e5 s hx.1 hx.2.1).2.2.1
    have f7 : Mc2 7 = M 7 := a5 7 (by omega) (by omega) (by omega)
    have f4 : Mc2 (32 * (k + 1) + 4) = M (32 * (k + 1) + 4) := a5 _ (by omega) (by omega) (by omega)
    have m73 : Mm1 73 = M' 73 := a6.1 73 (by omega) (by omega) (by omega)
    have hr := maxl0_rng v a7
    unfold in64 at a7
    obtain ⟨d, hd, hd'⟩ : ∃ d, d = (if v = -9223372036854775808 then 1 else q_maxl 0 (q_minl 99 v)) ∧ 0 ≤ d ∧ d ≤ 99 := ⟨_, rfl, by split <;> omega⟩
    rw [← hd] at b1
    simp (disch := omega) only [w32_id, q_gf_e, q_gr_e, q_pf_e, q_pz_e, q_let_e, q_call_e, q_calp_e, q_al_ok, q_as_ok, q_nz_ok, up_same, up_nei, up_ne1, Int.toNat_natCast, reduceIte, Int.reduceEq, Int.reduceLT, Int.reduceLE, Int.reduceNeg, not_true_eq_false, not_false_eq_true, ex, a1, a4, h70, a3, cmp_v, a2, m73, b1]
    have hc : (if ¬ (if v < -9223372036854775808 then (-1 : Int) else if v = -9223372036854775808 then 0 else 1) = 0 then f_X3_soak_J76 Gc x s (q_maxl 0 (q_minl 99 v)) Mc2 else f_X3_soak_J76 Gc x s 1 Mc2) = f_X3_soak_J76 Gc x s d Mc2 := by
      by_cases cv : v = -9223372036854775808
      · rw [if_pos cv] at hd
        have hn : ¬ ¬ (if v < -9223372036854775808 then (-1 : Int) else if v = -9223372036854775808 then 0 else 1) = 0 := by
          rw [if_neg (by omega), if_pos cv]; simp
        rw [if_neg hn, hd]
      · rw [if_neg cv] at hd
        have hn : ¬ (if v < -9223372036854775808 then (-1 : Int) else if v = -9223372036854775808 then 0 else 1) = 0 := by
          rw [if_neg (by omega), if_neg cv]; simp
        rw [if_pos hn, hd]
    rw [hc]
    unfold f_X3_soak_J76
    simp (disch := omega) only [w32_id, q_gf_e, q_gr_e, q_pf_e, q_pz_e, q_let_e, q_call_e, q_calp_e, q_al_ok, q_as_ok, q_nz_ok, up_same, up_nei, up_ne1, Int.toNat_natCast, reduceIte, Int.reduceEq, Int.reduceLT, Int.reduceLE, Int.reduceNeg, not_true_eq_false, not_false_eq_true, f7, h71, f4, c73]
    obtain ⟨e, he, he', hr'⟩ : ∃ e, q_min (M' 73 (8 * q + s) + d) 999 = e ∧ q_min 999 (M' 73 (8 * q + s) + d) = e ∧ 0 ≤ e ∧ e ≤ 999 := by
      refine ⟨_, rfl, ?_, ?_⟩
      · unfold q_min
        rw [w32_id (by omega), w32_id (by omega)]
        split <;> split <;> omega
      · unfold q_min
        rw [w32_id (by omega), w32_id (by omega)]
        split <;> omega
    rw [he, he']
    have hq2 := MQr.sc i4' a5.to b2.to
    have m35 : Mm2 35 = M' 35 := b2.1 35 (by omega) (by omega) (by omega)
    have st := setW (s := s) (c := e) (f := 4) hq2.1 (by rw [m35]; omega) (.inl ⟨rfl, hr'⟩)
    exact ih (x + 1, _) (x + 1, _) ⟨rfl, by show 0 ≤ x + 1; omega, by show x + 1 ≤ 16; omega, i4.then (hq2.then st)⟩ (by show (16 - (x + 1)).toNat < (16 - x).toNat; omega)
