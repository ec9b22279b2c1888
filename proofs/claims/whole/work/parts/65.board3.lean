theorem boardS {t k : Nat} {q r b bus s p : Int} {Mc Mm : Mem} (h : MR t k q r b Mc Mm) (hb : 0 ≤ bus ∧ bus < Mm 35 1) (hp : 0 ≤ p ∧ p < Mm 69 q) (hs : Mm 70 (8 * q + p) = s) (y : Int) : ∃ c, (0 ≤ c ∧ c ≤ 99) ∧ q_max (Mm 72 (8 * q + s) - Mm 44 bus) 0 = c ∧ q_max 0 (Mm 72 (8 * q + s) - Mm 44 bus) = c ∧ MR t k q r b (UC k s p bus c Mc) (UM q s p bus c y Mm) := by
  obtain ⟨r1, r2, r3, r4, r5, r6⟩ := h.rng
  have hS := h.1.2.1
  have hB := h.1.2.2.1
  have hfa := (h.1.2.2.2.2.2.2.2.2.2.1 bus hb.1 hb.2).2.2.2.2
  have hx := r4 p hp.1 hp.2
  rw [hs] at hx
  have hC := (r6 s hx.1 hx.2.1).2.1
  have hq := h.2.1
  have hv := h.2.2.2.2
  refine ⟨if Mm 72 (8 * q + s) - Mm 44 bus < 0 then 0 else Mm 72 (8 * q + s) - Mm 44 bus, by split <;> omega, ?_, ?_, ?_⟩
  · unfold q_max
    rw [w32_id (by omega), w32_id (by omega)]
  · unfold q_max
    rw [w32_id (by omega), w32_id (by omega)]
    split <;> split <;> omega
  · generalize hc : (if Mm 72 (8 * q + s) - Mm 44 bus < 0 then 0 else Mm 72 (8 * q + s) - Mm 44 bus) = c
    have hc' : 0 ≤ c ∧ c ≤ 99 := by rw [← hc]; split <;> omega
    have w9 : cvw k Mc 0 9 = Mm 69 q := hv.1.2.2.1
    have e8 : cvw k Mc 8 p = s := by rw [hv.1.2.2.2.1 p hp.1 (by omega)]; exact hs
    have k1 := VEQ.to (S := Mm 35 0) (UC.vw (k := k) (s := s) (p := p) (bus := bus) (c := c) (M := Mc)) (by omega) (by rw [UC.vw.2.2.1, GON.f0, if_pos rfl]; omega)
    have k2 := VEQ.to (S := Mm 35 0) (UM.vw (q := q) (s := s) (p := p) (bus := bus) (c := c) (y := y) (M := Mm)) (by omega) (by rw [UM.vw.2.2.1, GON.f0, if_pos rfl]; show Mm 69 q - 1 ≤ 8; omega)
    refine h.step UC.gc (UM.gm (by omega) hp.1 (by omega) hx.2.2) (k1.trans ((GON.eqv hv.1 hp.1).trans k2.symm)) ?_ ?_
    · exact WFB.of (GON.wf hv.2.1 (by omega) e8 (by omega) hc') k1.symm
    · exact NOB.of (GON.nob hv.2.2) UM.vw.symm (by omega)
def BQ (t k : Nat) (q r b : Int) (Mc Mm : Mem) (x y : Int × Mem) : Prop := MR t k q r b x.2 y.2 ∧ GC k Mc x.2 ∧ GM q Mm y.2 ∧ y.2 67 q = Mm 67 q
set_option maxHeartbeats 2000000 in
theorem boardL {t k : Nat} {q r b bus x rm : Int} {Mc Mm : Mem} (h : MR t k q r b Mc Mm) (hb : 0 ≤ bus ∧ bus < Mm 35 1) (hx : x = Mm 0 51) (hi : in32 x) (hT : HT q x Mc Mm) (hr : 0 ≤ rm ∧ rm ≤ 8) : W2 (f_X3_board_L35 bus q_N x rm Mc) (f_X10_stops_L116 q bus q_N rm Mm) some some (BQ t k q r (b + 1) Mc Mm) := by
  unfold f_X3_board_L35 f_X10_stops_L116
  refine lock (fun n (s : Int × Int × Mem) => qlm2 (fun x2 x3 M g35 => f_X3_board_B35 bus x2 x3 M g35) n s.1 s.2.1 s.2.2) (fun n (s : Int × Mem) => qlm1 (fun x3 M g116 => f_X10_stops_B116 q bus x3 M g116) n s.1 s.2) _ _ _ (fun s u => s.2.1 = u.1 ∧ 0 ≤ u.1 ∧ u.1 ≤ 8 ∧ MR t k q r b s.2.2 u.2 ∧ GC k Mc s.2.2 ∧ GM q Mm u.2 ∧ u.2 67 q = Mm 67 q ∧ s.1 = u.2 0 51 ∧ in32 s.1 ∧ HT q s.1 s.2.2 u.2) (fun s u => u.1.toNat) ?_ q_N q_N (x, rm, Mc) (rm, Mm) ⟨rfl, hr.1, hr.2, h, GC.refl _ _, GM.refl _ _, rfl, hx, hi, hT⟩ (q_N_lt (by show rm.toNat < 100000; omega)) (q_N_lt (by show rm.toNat < 100000; omega))
  intro n n' ⟨x2, x3, M⟩ ⟨y, M'⟩ ⟨i1, i2, i3, i4, i5, i6, i7, i8, i9, i10⟩ ih
  simp only at i1 i2 i3 i4 i5 i6 i7 i8 i9 i10 ih
  subst i1
  show W2 (f_X3_board_B35 bus x2 x3 M (qlm2 (fun x2 x3 M g35 => f_X3_board_B35 bus x2 x3 M g35) n)) (f_X10_stops_B116 q bus x3 M' (qlm1 (fun x3 M g116 => f_X10_stops_B116 q bus x3 M g116) n')) _ _ _
  generalize hGc : qlm2 (fun x2 x3 M g35 => f_X3_board_B35 bus x2 x3 M g35) n = Gc at ih ⊢
  generalize hGm : qlm1 (fun x3 M g116 => f_X10_stops_B116 q bus x3 M g116) n' = Gm at ih ⊢
  unfold f_X3_board_B35 f_X10_stops_B116
  rw [w32_id (x := x3) (by omega)]
  by_cases c0 : x3 ≤ 0
  · rw [if_pos c0, if_pos c0]
    obtain ⟨M1, M2, a1, a2, a3, a4, a5, a6⟩ := passedW i4 i8
    exact W2.ok (0, M1) (0, M2) a1 a2 ⟨a3, i5.trans a4, i6.trans a5, a6.trans i7⟩
  · rw [if_neg c0, if_neg c0]
    obtain ⟨p, s, f1, f2, f3⟩ := firstW i4 i8 i10
    rw [f1, f2]
    obtain ⟨r1, r2, r3, r4, r5, r6⟩ := i4.rng
    obtain ⟨e1, e2, e3, e4, e5⟩ := i4.raw
    have hS := i4.1.2.1
    have hq := i4.2.1
    have ht := i4.1.1
    obtain ⟨h70, h71⟩ := i4.2.2.1
    rcases f3 with ⟨rfl, rfl⟩ | ⟨p1, p2, p3, p4⟩
    · (try simp (disch := omega) only [w32_id, q_gf_e, q_gr_e, q_pf_e, q_pz_e, q_let_e, q_call_e, q_calp_e, q_al_ok, q_as_ok, q_nz_ok, up_same, up_nei, up_ne1, Int.toNat_natCast, reduceIte, Int.reduceEq, Int.reduceLT, Int.reduceLE, Int.reduceNeg, not_true_eq_false, not_false_eq_true])
      exact W2.ok (0, M) (0, M') rfl rfl ⟨i4.mono (by omega), i5, i6, i7⟩
    · have hx := r4 p p1 p2
      rw [p3] at hx
      have ex := e4 p p1 p2
      rw [p3] at ex
      have hpl := i4.place p1 p2
      rw [p3] at hpl
      have m35 := i6.1 35 (by omega) (by omega) (by omega) (by omega) (by omega)
      have hb' : 0 ≤ bus ∧ bus < M' 35 1 := by rw [m35]; exact hb
      have hB := i4.1.2.2.1
      have hfa := (i4.1.2.2.2.2.2.2.2.2.2.1 bus hb'.1 hb'.2).2.2.2.2
      have eC := (e5 s hx.1 hx.2.1).2.1
      obtain ⟨c, hc, c1, c2, c3⟩ := boardS i4 hb' ⟨p1, p2⟩ p3 (q_and x2 (q_xor (q_shl 1 s) (-1)))
      have hl := leavesM (q := q) (s := s) (p := p) (v := 2) (M := M') (by omega) (by omega) (by omega) ⟨p1, p2⟩ hpl
      have ho := takeOutC (k := k) (p := p) (M := M) (by omega) (by omega) (by omega)
      have cls : (q_calp (some p) fun r1 => if 0 ≤ w32 r1 then (q_gr M 7 1 fun t2 => q_al M (32 * (t2 + 1) + 8) 8 r1 fun v3 => q_gr M 7 1 fun t4 => q_call (f_X6_takeOut t4 r1 M) fun r5 M6 => q_gr M6 7 1 fun t7 => q_as M6 (32 * (t7 + 1) + 2) 8 v3 2 fun M8 => q_gr M8 7 1 fun t9 => q_as M8 (32 * (t9 + 1) + 6) 8 v3 bus fun M10 => q_gr M10 7 1 fun t11 => q_gr M10 7 1 fun t12 => q_gf M10 t12 0 fun v13 => q_as M10 (32 * (t11 + 1) + 7) 8 v3 v13 fun M14 => q_gr M14 7 1 fun t15 => q_gr M14 7 1 fun t16 => q_al M14 (32 * (t16 + 1) + 3) 8 v3 fun v17 => q_gr M14 7 0 fun t18 => q_al M14 (32 * (t18 + 1) + 12) 4 bus fun v19 => q_as M14 (32 * (t15 + 1) + 3) 8 v3 (q_max (v17 - v19) 0) fun M20 => Gc (q_and x2 (q_xor (q_shl 1 v3) (-1))) (x3 + (-1)) M20) else (some (0, M))) = Gc (q_and x2 (q_xor (q_shl 1 s) (-1))) (x3 + (-1)) (UC k s p bus c M) := by
        have tN : ∀ n, n ≠ k → n ≠ 32 * (k + 1) + 8 → TOC k p M n = M n := fun n a b => by funext i; unfold TOC; rw [if_neg (by omega), if_neg (by omega)]
        have t7 := tN 7 (by omega) (by omega)
        have t3 := tN (32 * (k + 1) + 3) (by omega) (by omega)
        have t12 := tN (32 * (t + 1) + 12) (by omega) (by omega)
        have t0 : TOC k p M k 0 = M k 0 := by unfold TOC; rw [if_neg (by omega), if_neg (by omega)]
        simp (disch := omega) only [w32_id, q_gf_e, q_gr_e, q_pf_e, q_pz_e, q_let_e, q_call_e, q_calp_e, q_al_ok, q_as_ok, q_nz_ok, up_same, up_nei, up_ne1, Int.toNat_natCast, reduceIte, Int.reduceEq, Int.reduceLT, Int.reduceLE, Int.reduceNeg, not_true_eq_false, not_false_eq_true, h70, h71, ex, ho]
        rw [if_pos p1]
        simp (disch := omega) only [w32_id, q_gf_e, q_gr_e, q_pf_e, q_pz_e, q_let_e, q_call_e, q_calp_e, q_al_ok, q_as_ok, q_nz_ok, up_same, up_nei, up_ne1, Int.toNat_natCast, reduceIte, Int.reduceEq, Int.reduceLT, Int.reduceLE, Int.reduceNeg, not_true_eq_false, not_false_eq_true, t7, h70, h71, t0, t3, t12, eC, hfa.1, c1]
        rfl
      rw [cls]
      have rfm : (q_calp (some s) fun r1 => if ¬ w32 r1 = w32 (-1) then (q_call (f_X10_leaves q r1 2 M') fun r2 M3 => q_gf M3 0 51 fun v4 => q_pf M3 0 51 (q_and v4 (q_xor (q_shl 1 r1) (-1))) fun M5 => q_as M5 75 184 ((8 * q) + r1) bus fun M6 => q_al M6 67 23 q fun v7 => q_as M6 76 184 ((8 * q) + r1) v7 fun M8 => q_al M8 72 184 ((8 * q) + r1) fun v9 => q_al M8 44 8 bus fun v10 => q_as M8 72 184 ((8 * q) + r1) (q_max 0 (v9 - v10)) fun M11 => Gm (x3 + (-1)) M11) else (some (0, M'))) = Gm (x3 + (-1)) (UM q s p bus c (q_and x2 (q_xor (q_shl 1 s) (-1))) M') := by
        have tN : ∀ n, n ≠ 69 → n ≠ 70 → n ≠ 71 → LVM q s p 2 M' n = M' n := fun n a b c => by funext i; unfold LVM; rw [if_neg (by omega), if_neg (by omega), if_neg (by omega)]
        have t0 := tN 0 (by omega) (by omega) (by omega)
        have t67 := tN 67 (by omega) (by omega) (by omega)
        have t72 := tN 72 (by omega) (by omega) (by omega)
        have t44 := tN 44 (by omega) (by omega) (by omega)
        simp (disch := omega) only [w32_id, q_gf_e, q_gr_e, q_pf_e, q_pz_e, q_let_e, q_call_e, q_calp_e, q_al_ok, q_as_ok, q_nz_ok, up_same, up_nei, up_ne1, Int.toNat_natCast, reduceIte, Int.reduceEq, Int.reduceLT, Int.reduceLE, Int.reduceNeg, not_true_eq_false, not_false_eq_true, hl]
        rw [if_pos (by omega)]
        simp (disch := omega) only [w32_id, q_gf_e, q_gr_e, q_pf_e, q_pz_e, q_let_e, q_call_e, q_calp_e, q_al_ok, q_as_ok, q_nz_ok, up_same, up_nei, up_ne1, Int.toNat_natCast, reduceIte, Int.reduceEq, Int.reduceLT, Int.reduceLE, Int.reduceNeg, not_true_eq_false, not_false_eq_true, t0, t67, t72, t44, c2, ← i8]
        rfl
      rw [rfm]
      have u0 : UM q s p bus c (q_and x2 (q_xor (q_shl 1 s) (-1))) M' 0 51 = q_and x2 (q_xor (q_shl 1 s) (-1)) := by
        unfold UM
        rw [up_ne1 (by omega), up_ne1 (by omega), up_ne1 (by omega), up_same]
      have uv := UM.vw (q := q) (s := s) (p := p) (bus := bus) (c := c) (y := q_and x2 (q_xor (q_shl 1 s) (-1))) (M := M')
      have u67 : UM q s p bus c (q_and x2 (q_xor (q_shl 1 s) (-1))) M' 67 q = M' 67 q := uv.1.trans (by rw [GON.f0, if_neg (by omega)]; rfl)
      have u69 : UM q s p bus c (q_and x2 (q_xor (q_shl 1 s) (-1))) M' 69 q = M' 69 q - 1 := uv.2.2.1.trans (by rw [GON.f0, if_pos rfl]; rfl)
      have u82 : UM q s p bus c (q_and x2 (q_xor (q_shl 1 s) (-1))) M' 82 = M' 82 := by
        unfold UM
        simp (disch := omega) only [up_ne1]
        funext i; unfold LVM; rw [if_neg (by omega), if_neg (by omega), if_neg (by omega)]
      have u263 : UC k s p bus c M 263 = M 263 := by
        unfold UC
        simp (disch := omega) only [up_ne1]
        funext i; unfold TOC; rw [if_neg (by omega), if_neg (by omega)]
      refine ih (_, x3 + (-1), _) (x3 + (-1), _) ⟨rfl, by show 0 ≤ x3 + (-1); omega, by show x3 + (-1) ≤ 8; omega, c3, i5.trans UC.gc, i6.trans (UM.gm (by omega) p1 (by omega) hx.2.2), u67.trans i7, u0.symm, q_and_rng _ _, ?_⟩ (by show (x3 + (-1)).toNat < x3.toNat; omega)
      intro i ia ib bt
      show UC k s p bus c M 263 _ = _ ∧ _
      have ib : i < M' 69 q - 1 := by rw [← u69]; exact ib
      have e70 : UM q s p bus c (q_and x2 (q_xor (q_shl 1 s) (-1))) M' 70 (8 * q + i) = (if p ≤ i ∧ i < M' 69 q - 1 then M' 70 (8 * q + (i + 1)) else M' 70 (8 * q + i)) := by
        have := (UM.vw (q := q) (s := s) (p := p) (bus := bus) (c := c) (y := q_and x2 (q_xor (q_shl 1 s) (-1))) (M := M')).2.2.2 8 i (by omega) (by omega) ia (by omega)
        rw [GON.f8] at this
        exact this
      obtain ⟨j, j1, j2, j3⟩ : ∃ j, 0 ≤ j ∧ j < M' 69 q ∧ UM q s p bus c (q_and x2 (q_xor (q_shl 1 s) (-1))) M' 70 (8 * q + i) = M' 70 (8 * q + j) := by
        rw [e70]
        split
        · exact ⟨i + 1, by omega, by omega, rfl⟩
        · exact ⟨i, by omega, by omega, rfl⟩
      show UC k s p bus c M 263 (UM q s p bus c (q_and x2 (q_xor (q_shl 1 s) (-1))) M' 70 (8 * q + i)) = UM q s p bus c (q_and x2 (q_xor (q_shl 1 s) (-1))) M' 82 (UM q s p bus c (q_and x2 (q_xor (q_shl 1 s) (-1))) M' 70 (8 * q + i)) ∧ -9999 ≤ UM q s p bus c (q_and x2 (q_xor (q_shl 1 s) (-1))) M' 82 (UM q s p bus c (q_and x2 (q_xor (q_shl 1 s) (-1))) M' 70 (8 * q + i)) ∧ UM q s p bus c (q_and x2 (q_xor (q_shl 1 s) (-1))) M' 82 (UM q s p bus c (q_and x2 (q_xor (q_shl 1 s) (-1))) M' 70 (8 * q + i)) ≤ 9999
      rw [u82, u263, j3]
      have bt : Bt (q_and x2 (q_xor (q_shl 1 s) (-1))) (UM q s p bus c (q_and x2 (q_xor (q_shl 1 s) (-1))) M' 70 (8 * q + i)) = true := bt
      rw [j3, Bt_and] at bt
      exact i10 j j1 j2 (by revert bt; cases Bt x2 (M' 70 (8 * q + j)) <;> simp)
set_option maxHeartbeats 1000000 in
theorem boardW {t k : Nat} {q r b bus : Int} {Mc Mm : Mem} (h : MR t k q r b Mc Mm) (hb : 0 ≤ bus ∧ bus < Mm 35 1) : W2 (f_X3_board bus Mc) (f_X10_stops q bus Mm) some some (BQ t k q r (b + 1) Mc Mm) := by
  obtain ⟨⟨x, M1⟩, M1', a1, a2, a3, a4, a5, a6, a7⟩ := mayW h hb
  simp only at a3 a4 a5 a6 a7
  obtain ⟨⟨z, M2⟩, b1, b2, b3, b4⟩ := turnsC (x := x) h hb a7 a3
  simp only at b2 b3 b4
  have h' := h.frm b3 a4
  have m69 := a4.1 69 (by omega) (by omega) (by omega) (by omega)
  have m70 := a4.1 70 (by omega) (by omega) (by omega) (by omega)
  have m67 := a4.1 67 (by omega) (by omega) (by omega) (by omega)
  have m35 := a4.1 35 (by omega) (by omega) (by omega) (by omega)
  have hb' : 0 ≤ bus ∧ bus < M1' 35 1 := by rw [m35]; exact hb
  have hB := h'.1.2.2.1
  have hro := (h'.1.2.2.2.2.2.2.2.2.2.1 bus hb'.1 hb'.2).2.2.2.1
  obtain ⟨h70, h71⟩ := h'.2.2.1
  obtain ⟨-, ⟨o1, o2⟩, -⟩ := h'.2.2.2.1
  have hT : HT q x M2 M1' := by
    intro i ia ib
    rw [m69] at ib
    rw [m70]
    exact b4 i ia ib
  have main : ∀ rm, 0 ≤ rm ∧ rm ≤ 8 → W2 (f_X3_board_L35 bus q_N x rm M2) (f_X10_stops_L116 q bus q_N rm M1') some some (BQ t k q r (b + 1) Mc Mm) := by
    intro rm hrm
    obtain ⟨c, d, e1, e2, e3, e4, e5, e6⟩ := boardL h' hb' a5 a6 hT hrm
    exact ⟨c, d, e1, e2, e3, b3.gc.trans e4, a4.gm.trans e5, by rw [e6, m67]⟩
  rw [a2]
  unfold f_X3_board stopsX f_X3_board_J34 f_X10_stops_J115
  rw [a1]
  simp (disch := omega) only [w32_id, q_gf_e, q_gr_e, q_pf_e, q_pz_e, q_let_e, q_call_e, q_calp_e, q_al_ok, q_as_ok, q_nz_ok, up_same, up_nei, up_ne1, Int.toNat_natCast, reduceIte, Int.reduceEq, Int.reduceLT, Int.reduceLE, Int.reduceNeg, not_true_eq_false, not_false_eq_true, b1, o1, h70]
  by_cases c4 : M1' 0 47 = 4
  · rw [if_neg (by simp [c4]), if_neg (by simp [c4])]
    exact main 8 (by omega)
  · rw [if_pos c4, if_pos c4]
    simp (disch := omega) only [w32_id, q_gf_e, q_gr_e, q_pf_e, q_pz_e, q_let_e, q_call_e, q_calp_e, q_al_ok, q_as_ok, q_nz_ok, up_same, up_nei, up_ne1, Int.toNat_natCast, reduceIte, Int.reduceEq, Int.reduceLT, Int.reduceLE, Int.reduceNeg, not_true_eq_false, not_false_eq_true, hro.1]
    exact main _ (by omega)
