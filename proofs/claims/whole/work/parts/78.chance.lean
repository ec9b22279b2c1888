/-- the number of the rain is set on both sides -/
theorem numW {t k : Nat} {q r b N : Int} {Mc Mm : Mem} (h : MR t k q r b Mc Mm) (hN : in32 N) : MQr t k q r b Mc Mm (up Mc k 1 N) (up Mm 68 q N) := by
  have hS := h.1.2.1
  have hq := h.2.1
  have hv := h.2.2.2.2
  have r3 := h.rng.2.2.1
  have e3 := h.raw.2.2.1
  have kv : VEQ (cvw k (up Mc k 1 N)) (up (cvw k Mc) 0 1 N) := by
    refine ⟨?_, ?_, ?_, fun f i a b c d => ?_⟩
    · show up Mc k 1 N k 0 = up (cvw k Mc) 0 1 N 0 0
      rw [up_nei (by omega), up_nei (by omega)]; rfl
    · show up Mc k 1 N k 1 = up (cvw k Mc) 0 1 N 0 1
      rw [up_same, up_same]
    · show up Mc k 1 N k 9 = up (cvw k Mc) 0 1 N 0 9
      rw [up_nei (by omega), up_nei (by omega)]; rfl
    · rw [up_ne1 (by omega)]
      unfold cvw
      rw [if_neg (by omega), if_neg (by omega), up_ne1 (by omega)]
  have mv : VEQ (mvw q (up Mm 68 q N)) (up (mvw q Mm) 0 1 N) := by
    refine ⟨?_, ?_, ?_, fun f i a b c d => ?_⟩
    · show up Mm 68 q N 67 q = up (mvw q Mm) 0 1 N 0 0
      rw [up_ne1 (by omega), up_nei (by omega)]; rfl
    · show up Mm 68 q N 68 q = up (mvw q Mm) 0 1 N 0 1
      rw [up_same, up_same]
    · show up Mm 68 q N 69 q = up (mvw q Mm) 0 1 N 0 9
      rw [up_ne1 (by omega), up_nei (by omega)]; rfl
    · rw [up_ne1 (by omega)]
      have e : mvc f ≠ 68 := by unfold mvc; split <;> omega
      have ef : f ≠ 0 := by omega
      simp only [mvw, if_neg ef]
      rw [up_ne1 e]
  have uq : EQV (Mm 35 0) (up (cvw k Mc) 0 1 N) (up (mvw q Mm) 0 1 N) := by
    obtain ⟨x1, x2, x3, x4, x5⟩ := hv.1
    refine ⟨by rw [up_nei (by omega), up_nei (by omega)]; exact x1, by rw [up_same, up_same], by rw [up_nei (by omega), up_nei (by omega)]; exact x3, fun i a b => ?_, fun p a b => ?_⟩
    · rw [up_nei (by omega)] at b
      rw [up_ne1 (by omega), up_ne1 (by omega)]; exact x4 i a b
    · simp (disch := omega) only [up_ne1]
      exact x5 p a b
  have uw : WFB (Mm 35 0) b (up (cvw k Mc) 0 1 N) := by
    obtain ⟨x1, x2, x3, x4, x5, x6⟩ := hv.2.1
    unfold WFB
    simp (disch := omega) only [up_ne1, up_nei, up_same]
    exact ⟨x1, hN, x3, x4, x5, x6⟩
  have un : NOB (Mm 35 0) (up (mvw q Mm) 0 1 N) := by
    intro j a b
    simp (disch := omega) only [up_ne1]
    exact hv.2.2 j a b
  have w9 : cvw k Mc 0 9 = Mc k 9 := rfl
  have w9' : mvw q Mm 0 9 = Mm 69 q := rfl
  have k1 := VEQ.to (S := Mm 35 0) kv (by omega) (by rw [kv.2.2.1, up_nei (by omega)]; omega)
  have k2 := VEQ.to (S := Mm 35 0) mv (by omega) (by rw [mv.2.2.1, up_nei (by omega)]; omega)
  have gc : GC k Mc (up Mc k 1 N) := fun n a _ _ _ _ _ => up_ne1 a
  have gm : GM q Mm (up Mm 68 q N) := ⟨fun n _ _ _ _ a => up_ne1 (by omega), fun f a b => by rw [up_ne1 (by omega)], fun n i _ _ a => up_ne (by omega), fun n i a b c => up_ne (by omega), fun p _ _ _ => by rw [up_ne1 (by omega)]⟩
  exact ⟨h.step gc gm (k1.trans (uq.trans k2.symm)) (WFB.of uw k1.symm) (NOB.of un mv.symm (by omega)), gc, gm, by rw [up_ne1 (by omega)]⟩
/-- the settings change -/
theorem MR.set {t k : Nat} {q r r' b : Int} {Mc Mc' Mm Mm' : Mem} (h : MR t k q r b Mc Mm) (fc : ∀ n, n ≠ 7 → Mc' n = Mc n) (fm : ∀ n, n ≠ 0 → Mm' n = Mm n) (h7 : Mc' 7 0 = t ∧ Mc' 7 1 = k) (hs : StE r' Mc' Mm') : MR t k q r' b Mc' Mm' := by
  obtain ⟨h1, h2, h3, h4, h5, h6, h7'⟩ := h
  have ht := h1.1
  have hS := h1.2.1
  have ec : VEQ (cvw k Mc) (cvw k Mc') := by
    have e : Mc' k = Mc k := fc k (by omega)
    refine ⟨?_, ?_, ?_, fun f i a b c d => ?_⟩
    · show Mc k 0 = Mc' k 0; rw [e]
    · show Mc k 1 = Mc' k 1; rw [e]
    · show Mc k 9 = Mc' k 9; rw [e]
    · unfold cvw
      rw [if_neg (by omega), if_neg (by omega), fc (32 * (k + 1) + f) (by omega)]
  have em : mvw q Mm' = mvw q Mm := by
    funext g i
    have e : mvc g ≠ 0 := by unfold mvc; split <;> omega
    unfold mvw
    rw [fm 67 (by omega), fm 68 (by omega), fm 69 (by omega), fm _ e]
  have k1 := VEQ.to (S := Mm 35 0) ec (by omega) (by have := h6.2.2.1; omega)
  unfold MR
  rw [em, fm 35 (by omega)]
  exact ⟨TR.frm2 h1 (fun n a => fc n (by omega)) (fun n a b => fm n (by omega)), h2, h7, hs, k1.symm.trans h5, WFB.of h6 k1, h7'⟩
theorem o_chance : rs_chance Rel := by
  intro Mc Mm a0 a1 a2 a3 hR h0 h1 h2 h3
  obtain ⟨t, hr⟩ := hR
  have hr := hr.thr (v := 0)
  show PW _ _
  unfold f_X9_chance f_X10_chance
  rw [q_pf_e]
  generalize up Mm 0 0 0 = N at hr ⊢
  have hR : Rel Mc N := ⟨t, hr⟩
  have h03 := hr.1.1
  have hT := hr.2.1
  have ht := hT.1
  have hS := hT.2.1
  have ec := isSoulC (a := a2) h03 (by omega) h2
  have em := isSoulM (M := N) (a := a2) (by omega) h2
  rw [hS.1] at ec
  have h0' := h0
  unfold in32 at h0 h1 h2 h3
  rw [ec, em]
  (try simp (disch := omega) only [w32_id, q_gf_e, q_gr_e, q_pf_e, q_pz_e, q_let_e, q_call_e, q_calp_e, q_al_ok, q_as_ok, q_nz_ok, up_same, up_nei, up_ne1, Int.toNat_natCast, reduceIte, Int.reduceEq, Int.reduceLT, Int.reduceLE, Int.reduceNeg, not_true_eq_false, not_false_eq_true])
  by_cases c1 : a0 < 0
  · rw [if_pos c1, if_pos c1]; exact PW.ok rfl hR
  rw [if_neg c1, if_neg c1]
  by_cases c2 : a1 < 1
  · rw [if_pos c2, if_pos c2]; exact PW.ok rfl hR
  rw [if_neg c2, if_neg c2]
  by_cases c3 : 99 < a1
  · rw [if_pos c3, if_pos c3]; exact PW.ok rfl hR
  rw [if_neg c3, if_neg c3]
  by_cases c4 : 0 ≤ a2 ∧ a2 < N 35 0
  rotate_left
  · rw [if_neg c4]
    (try simp (disch := omega) only [w32_id, q_gf_e, q_gr_e, q_pf_e, q_pz_e, q_let_e, q_call_e, q_calp_e, q_al_ok, q_as_ok, q_nz_ok, up_same, up_nei, up_ne1, Int.toNat_natCast, reduceIte, Int.reduceEq, Int.reduceLT, Int.reduceLE, Int.reduceNeg, not_true_eq_false, not_false_eq_true])
    exact PW.ok rfl hR
  rw [if_pos c4]
  (try simp (disch := omega) only [w32_id, q_gf_e, q_gr_e, q_pf_e, q_pz_e, q_let_e, q_call_e, q_calp_e, q_al_ok, q_as_ok, q_nz_ok, up_same, up_nei, up_ne1, Int.toNat_natCast, reduceIte, Int.reduceEq, Int.reduceLT, Int.reduceLE, Int.reduceNeg, not_true_eq_false, not_false_eq_true])
  by_cases c5 : a3 < 0
  · rw [if_pos c5, if_pos c5]; exact PW.ok rfl hR
  rw [if_neg c5, if_neg c5]
  by_cases c6 : a3 ≤ 999
  rotate_left
  · rw [if_neg c6, if_neg c6]; exact PW.ok rfl hR
  rw [if_pos c6, if_pos c6]
  have main : W2 (f_X9_chance_L47 a1 a2 a3 q_N a0 0 0 Mc) (f_X10_chance_L52 a1 a2 a3 q_N a0 0 0 N) some some (FQ t Mc N) := by
    unfold f_X9_chance_L47 f_X10_chance_L52
    refine lock (fun m (u : Int × Int × Int × Mem) => qlm3 (fun x5 x6 x7 M g47 => f_X9_chance_B47 a1 a2 a3 x5 x6 x7 M g47) m u.1 u.2.1 u.2.2.1 u.2.2.2) (fun m (u : Int × Int × Int × Mem) => qlm3 (fun x5 x6 x7 M g52 => f_X10_chance_B52 a1 a2 a3 x5 x6 x7 M g52) m u.1 u.2.1 u.2.2.1 u.2.2.2) _ _ _ (fun u v => u.1 = v.1 ∧ u.2.1 = v.2.1 ∧ u.2.2.1 = v.2.2.1 ∧ in32 v.1 ∧ 0 ≤ v.2.2.1 ∧ v.2.2.1 ≤ 10 ∧ RelT t u.2.2.2 v.2.2.2 ∧ FC t Mc u.2.2.2 ∧ FM N v.2.2.2) (fun u v => (10 - v.2.2.1).toNat) ?_ q_N q_N (a0, 0, 0, Mc) (a0, 0, 0, N) ⟨rfl, rfl, rfl, h0', by show (0 : Int) ≤ 0; omega, by show (0 : Int) ≤ 10; omega, hr, FC.refl _ _, FM.refl _⟩ (q_N_lt (by show (10 - 0 : Int).toNat < 100000; omega)) (q_N_lt (by show (10 - 0 : Int).toNat < 100000; omega))
    intro m m' ⟨x5, x6, x7, M⟩ ⟨y5, y6, y7, M'⟩ ⟨i1, i2, i3, i4, i5, i6, i7, i8, i9⟩ ih
    simp only at i1 i2 i3 i4 i5 i6 i7 i8 i9 ih
    subst i1 i2 i3
    show W2 (f_X9_chance_B47 a1 a2 a3 x5 x6 x7 M (qlm3 (fun x5 x6 x7 M g47 => f_X9_chance_B47 a1 a2 a3 x5 x6 x7 M g47) m)) (f_X10_chance_B52 a1 a2 a3 x5 x6 x7 M' (qlm3 (fun x5 x6 x7 M g52 => f_X10_chance_B52 a1 a2 a3 x5 x6 x7 M g52) m')) _ _ _
    generalize hGc : qlm3 (fun x5 x6 x7 M g47 => f_X9_chance_B47 a1 a2 a3 x5 x6 x7 M g47) m = Gc at ih ⊢
    generalize hGm : qlm3 (fun x5 x6 x7 M g52 => f_X10_chance_B52 a1 a2 a3 x5 x6 x7 M g52) m' = Gm at ih ⊢
    unfold f_X9_chance_B47 f_X10_chance_B52
    (try simp (disch := omega) only [w32_id, q_gf_e, q_gr_e, q_pf_e, q_pz_e, q_let_e, q_call_e, q_calp_e, q_al_ok, q_as_ok, q_nz_ok, up_same, up_nei, up_ne1, Int.toNat_natCast, reduceIte, Int.reduceEq, Int.reduceLT, Int.reduceLE, Int.reduceNeg, not_true_eq_false, not_false_eq_true])
    by_cases c : 10 ≤ x7
    · rw [if_pos c, if_pos c]
      exact W2.ok (x6, M) (x6, M') rfl rfl ⟨rfl, i8, i9⟩
    rw [if_neg c, if_neg c]
    have h98 := i7.m98
    have e35 : M' 35 = N 35 := i9.1 35 (by omega)
    obtain ⟨M3, N3, b1, b2, b3, b4, b5, b6, b7⟩ := tryW i7
    have m67 : N3 67 1 = M' 67 0 := b6.1
    have n35 : N3 35 = M' 35 := b5.1 35 (by omega)
    have s1 : MR t 5 1 1 0 (up M3 7 2 1) N3 := by
      obtain ⟨g1, g2⟩ := b3.2.2.1
      obtain ⟨-, g3, g4⟩ := b3.2.2.2.1
      refine b3.set (fun n a => up_ne1 a) (fun _ _ => rfl) ⟨by rw [up_nei (by omega)]; exact g1, by rw [up_nei (by omega)]; exact g2⟩ ⟨⟨up_same _ _ _ _, .inr rfl⟩, by rw [up_nei (by omega)]; exact g3, ?_⟩
      rw [up_nei (by omega), up_nei (by omega)]
      exact g4
    have s2 := numW s1 i4
    rw [b1, b2]
    (try simp (disch := omega) only [w32_id, q_gf_e, q_gr_e, q_pf_e, q_pz_e, q_let_e, q_call_e, q_calp_e, q_al_ok, q_as_ok, q_nz_ok, up_same, up_nei, up_ne1, Int.toNat_natCast, reduceIte, Int.reduceEq, Int.reduceLT, Int.reduceLE, Int.reduceNeg, not_true_eq_false, not_false_eq_true])
    have s3 : up N3 68 1 x5 67 1 = M' 67 0 := by rw [up_ne1 (by omega)]; exact m67
    unfold f_X10_chance_L76
    obtain ⟨M4, N4, d1, d2, d3, d4, d5, d6⟩ := passL (n := a1) (fun x8 M g76 => f_X10_chance_B76 Gm a1 a2 a3 x6 x7 x8 M g76) (fun M => q_al M 68 23 1 fun v1 => q_al M 73 184 (8 + a2) fun v2 => if w32 v2 < w32 a3 then (Gm v1 (x6 + 0) (x7 + 1) M) else (Gm v1 (x6 + 1) (x7 + 1) M)) (fun x M g a b => by
        unfold f_X10_chance_B76
        rw [w32_id (by omega), w32_id (by omega)]) s2.1 (by omega) (by omega)
    have fc4 : FC t M M4 := b4.trans (FC.trans (fun n hn => up_ne1 (by unfold KC at hn; omega)) (FC.trans (s2.2.1.fc ht) (d4.fc ht)))
    have fm4 : FM M' N4 := b5.trans (FM.trans s2.2.2.1.fm d5.fm)
    have e4 : N4 35 = N 35 := by
      rw [fm4.1 35 (by omega), e35]
    have ew : M4 196 a2 = N4 73 (8 + a2) := by
      have := (d3.raw.2.2.2.2 a2 c4.1 (by rw [e4]; exact c4.2)).2.2.1
      simpa using this
    have rw' : 0 ≤ N4 73 (8 + a2) ∧ N4 73 (8 + a2) ≤ 999 := (d3.rng.2.2.2.2.2 a2 c4.1 (by rw [e4]; exact c4.2)).2.2.1
    have en : M4 5 1 = N4 68 1 := d3.raw.2.1
    have rn := d3.rng.2.1
    rw [d1, d2]
    simp (disch := omega) only [w32_id, q_gf_e, q_gr_e, q_pf_e, q_pz_e, q_let_e, q_call_e, q_calp_e, q_al_ok, q_as_ok, q_nz_ok, up_same, up_nei, up_ne1, Int.toNat_natCast, reduceIte, Int.reduceEq, Int.reduceLT, Int.reduceLE, Int.reduceNeg, not_true_eq_false, not_false_eq_true, ew, en]
    have nxt : ∀ x6', W2 (Gc (N4 68 1) x6' (x7 + 1) M4) (Gm (N4 68 1) x6' (x7 + 1) N4) some some (FQ t Mc N) := fun x6' => ih (N4 68 1, x6', x7 + 1, M4) (N4 68 1, x6', x7 + 1, N4) ⟨rfl, rfl, rfl, rn, by show 0 ≤ x7 + 1; omega, by show x7 + 1 ≤ 10; omega, i7.frm fc4 fm4, i8.trans fc4, i9.trans fm4⟩ (by show (10 - (x7 + 1)).toNat < (10 - x7).toNat; omega)
    by_cases cw : N4 73 (8 + a2) < a3
    · rw [if_pos cw, if_pos cw, Int.add_zero]
      exact nxt x6
    · rw [if_neg cw, if_neg cw]
      exact nxt (x6 + 1)
  obtain ⟨⟨r, Mc2⟩, ⟨r', Mm2⟩, d1, d2, d3, d4, d5⟩ := main
  rw [d1, d2]
  exact PW.ok d3 ⟨t, hr.frm d4 d5⟩
