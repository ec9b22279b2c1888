/-- the turn of who stands at place i, as the one side will find it, is what the other one has noted -/
def TI (t k : Nat) (i s fare : Int) (Mc Mn : Mem) : Prop := ∀ Mc', SC Mc Mc' → ∃ Mc1 w Mc2, f_X3_look s i fare Mc' = some (0, Mc1) ∧ Mc1 7 = Mc' 7 ∧ f_X2_worth (t + 10) 262 7 1 Mc1 = some (w, Mc2) ∧ SK Mc' Mc2 ∧ in64 w ∧ Mn 82 s = (if w = -9223372036854775808 then 0 else q_maxl (-9999) (q_minl 9999 w))
def stopsX (q bus : Int) (M : Mem) : Res := if ¬ M 0 47 = 4 then f_X10_stops_J115 q bus (M 43 bus) M else f_X10_stops_J115 q bus 8 M
theorem maxl_rng (w : Int) (h : in64 w) : -9999 ≤ q_maxl (-9999) (q_minl 9999 w) ∧ q_maxl (-9999) (q_minl 9999 w) ≤ 9999 := by
  unfold in64 at h
  have e1 : q_minl 9999 w = if w < 9999 then w else 9999 := by
    unfold q_minl
    rw [w64_id h, w64_id (x := 9999) (by omega)]
  have e2 : ∀ m, in64 m → q_maxl (-9999) m = if m < -9999 then -9999 else m := fun m hm => by
    unfold q_maxl
    rw [w64_id hm, w64_id (x := -9999) (by omega)]
  rw [e1]
  split
  · rw [e2 _ h]; split <;> omega
  · rw [e2 _ (by unfold in64; omega)]; split <;> omega
set_option maxHeartbeats 4000000 in
theorem mayW {t k : Nat} {q r b bus : Int} {Mc Mm : Mem} (h : MR t k q r b Mc Mm) (hb : 0 ≤ bus ∧ bus < Mm 35 1) : W2 (f_X3_whoMay bus Mc) (f_X10_stops q bus Mm) (fun (c : Int × Mem) => some c) (fun M => stopsX q bus M) (fun c Mm' => SC Mc c.2 ∧ SM Mm Mm' ∧ c.1 = Mm' 0 51 ∧ in32 c.1 ∧ ∀ i, 0 ≤ i → i < Mm 69 q → TI t k i (Mm 70 (8 * q + i)) (Mm 44 bus) Mc Mm') := by
  have hB := h.1.2.2.1
  have hbus := h.1.2.2.2.2.2.2.2.2.2.1 bus hb.1 hb.2
  have hS := h.1.2.1
  have hq := h.2.1
  unfold f_X3_whoMay f_X10_stops f_X3_whoMay_L4 f_X10_stops_L7
  simp (disch := omega) only [w32_id, q_gf_e, q_gr_e, q_pf_e, q_pz_e, q_let_e, q_call_e, q_calp_e, q_al_ok, q_as_ok, q_nz_ok, up_same, up_nei, up_ne1, Int.toNat_natCast, reduceIte, Int.reduceEq, Int.reduceLT, Int.reduceLE, Int.reduceNeg, not_true_eq_false, not_false_eq_true]
  refine lock (fun n (s : Int × Int × Mem) => qlm2 (fun x2 x3 M g4 => f_X3_whoMay_B4 bus x2 x3 M g4) n s.1 s.2.1 s.2.2) (fun n (s : Int × Mem) => qlm1 (fun x3 M g7 => f_X10_stops_B7 q bus x3 M g7) n s.1 s.2) _ _ _ (fun s u => s.2.1 = u.1 ∧ 0 ≤ u.1 ∧ u.1 ≤ Mm 69 q ∧ SC Mc s.2.2 ∧ SM Mm u.2 ∧ s.1 = u.2 0 51 ∧ in32 s.1 ∧ ∀ i, 0 ≤ i → i < u.1 → TI t k i (Mm 70 (8 * q + i)) (Mm 44 bus) Mc u.2) (fun s u => (Mm 69 q - u.1).toNat) ?_ q_N q_N (0, 0, Mc) (0, up Mm 0 51 0) ?_ ?_ ?_
  · intro n n' ⟨x2, x3, M⟩ ⟨y, M'⟩ ⟨i1, i2, i3, i4, i5, i6, i7, i8⟩ ih
    simp only at i1 i2 i3 i4 i5 i6 i7 i8 ih
    subst i1
    have h' := h.frm i4 i5
    obtain ⟨r1, r2, r3, r4, r5, r6⟩ := h'.rng
    obtain ⟨e1, e2, e3, e4, e5⟩ := h'.raw
    have m69 := i5.1 69 (by omega) (by omega) (by omega) (by omega)
    have m70 := i5.1 70 (by omega) (by omega) (by omega) (by omega)
    have m44 := i5.1 44 (by omega) (by omega) (by omega) (by omega)
    have m35 := i5.1 35 (by omega) (by omega) (by omega) (by omega)
    have m43 := i5.1 43 (by omega) (by omega) (by omega) (by omega)
    have e69 : M' 69 q = Mm 69 q := congrFun m69 q
    have hS8 : M' 35 0 ≤ 8 := h'.1.2.1.2.2
    obtain ⟨h70, h71⟩ := h'.2.2.1
    obtain ⟨-, ⟨o1, o2⟩, -⟩ := h'.2.2.2.1
    show W2 (f_X3_whoMay_B4 bus x2 x3 M (qlm2 (fun x2 x3 M g4 => f_X3_whoMay_B4 bus x2 x3 M g4) n)) (f_X10_stops_B7 q bus x3 M' (qlm1 (fun x3 M g7 => f_X10_stops_B7 q bus x3 M g7) n')) _ _ _
    generalize hGc : qlm2 (fun x2 x3 M g4 => f_X3_whoMay_B4 bus x2 x3 M g4) n = Gc at ih ⊢
    generalize hGm : qlm1 (fun x3 M g7 => f_X10_stops_B7 q bus x3 M g7) n' = Gm at ih ⊢
    unfold f_X3_whoMay_B4 f_X10_stops_B7
    simp (disch := omega) only [w32_id, q_gf_e, q_gr_e, q_pf_e, q_pz_e, q_let_e, q_call_e, q_calp_e, q_al_ok, q_as_ok, q_nz_ok, up_same, up_nei, up_ne1, Int.toNat_natCast, reduceIte, Int.reduceEq, Int.reduceLT, Int.reduceLE, Int.reduceNeg, not_true_eq_false, not_false_eq_true, h70, h71, e3]
    by_cases c : M' 69 q ≤ x3
    · rw [if_pos c, if_pos c]
      refine W2.ok (x2, M) M' rfl ?_ ⟨i4, i5, i6, i7, fun i a b => i8 i a (by omega)⟩
      unfold stopsX
      rfl
    · rw [if_neg c, if_neg c]
      have hx := r4 x3 i2 (by omega)
      have ex := e4 x3 i2 (by omega)
      have hfa := (h'.1.2.2.2.2.2.2.2.2.2.1 bus hb.1 (by rw [m35]; exact hb.2)).2.2.2.2
      generalize hs : M' 70 (8 * q + x3) = s at *
      have hpl : f_X10_placeOf q s M' = some x3 := by rw [← hs]; exact h'.place i2 (by omega)
      obtain ⟨Mc1, Mm1, v, Mc2, a1, a2, a3, a4, a5, a6, a7, a8⟩ := evW (l := 0) h' ⟨hx.1, hx.2.1⟩ hpl (.inl ⟨rfl, i2, by omega⟩) (fare := M' 44 bus) (by omega) (by omega)
      obtain ⟨-, hC, -⟩ := r6 s hx.1 hx.2.1
      obtain ⟨-, eC, -⟩ := e5 s hx.1 hx.2.1
      have ht := h.1.1
      have f1 : Mc2 7 = M 7 := a5 7 (by omega) (by omega) (by omega)
      have f2 : Mc2 (32 * (t + 1) + 12) = M (32 * (t + 1) + 12) := a5 _ (by omega) (by omega) (by omega)
      have f3 : Mc2 (32 * (k + 1) + 3) = M (32 * (k + 1) + 3) := a5 _ (by omega) (by omega) (by omega)
      have fin : ∀ mv Mm2, (mv = 0 ∨ mv = 1) → SN M' Mm2 → W2 (Gc (if mv = 1 then q_or x2 (q_shl 1 s) else x2) (x3 + 1) Mc2) (if w32 mv = 0 then f_X10_stops_J54 Gm q bus x3 s 0 (M' 0 51) Mm2 else f_X10_stops_J54 Gm q bus x3 s (q_shl 1 s) (M' 0 51) Mm2) (fun (c : Int × Mem) => some c) (fun M => stopsX q bus M) (fun c Mm' => SC Mc c.2 ∧ SM Mm Mm' ∧ c.1 = Mm' 0 51 ∧ in32 c.1 ∧ ∀ i, 0 ≤ i → i < Mm 69 q → TI t k i (Mm 70 (8 * q + i)) (Mm 44 bus) Mc Mm') := by
        intro mv Mm2 hmv sn
        obtain ⟨y, hy⟩ : ∃ y, y = q_or (M' 0 51) (if mv = 1 then q_shl 1 s else 0) := ⟨_, rfl⟩
        have sN : SM M' (up Mm2 0 51 y) := sn.to.trans ⟨fun n a _ _ _ => up_ne1 a, fun f _ a => up_nei a⟩
        have hN := h'.frm (SC.refl _) sN
        have n69 : up Mm2 0 51 y 69 = M' 69 := sN.1 69 (by omega) (by omega) (by omega) (by omega)
        have n70 : up Mm2 0 51 y 70 = M' 70 := sN.1 70 (by omega) (by omega) (by omega) (by omega)
        have n44 : up Mm2 0 51 y 44 = M' 44 := sN.1 44 (by omega) (by omega) (by omega) (by omega)
        have n35 : up Mm2 0 51 y 35 = M' 35 := sN.1 35 (by omega) (by omega) (by omega) (by omega)
        have hplN : f_X10_placeOf q s (up Mm2 0 51 y) = some x3 := by
          have := hN.place i2 (by rw [n69]; omega)
          rwa [n70, hs] at this
        obtain ⟨-, Mm1', v', -, -, b2, -, -, -, b6, b7, b8⟩ := evW (l := 1) hN ⟨hx.1, by rw [n35]; exact hx.2.1⟩ hplN (.inl ⟨rfl, i2, by omega⟩) (fare := M' 44 bus) (by omega) (by omega)
        obtain ⟨N2, b9, b10⟩ := withinM (lo := -9999) (hi := 9999) (pl := 0) b8 b6
        have e51 : N2 0 51 = y := by rw [b10.2 51 (by omega), up_same]
        have hJ54 : (if w32 mv = 0 then f_X10_stops_J54 Gm q bus x3 s 0 (M' 0 51) Mm2 else f_X10_stops_J54 Gm q bus x3 s (q_shl 1 s) (M' 0 51) Mm2) = Gm (x3 + 1) (up N2 82 s (if v' = -9223372036854775808 then 0 else q_maxl (w32 (-9999)) (q_minl (w32 9999) v'))) := by
          unfold f_X10_stops_J54
          have n44' : up Mm2 0 51 y 44 bus = M' 44 bus := by rw [n44]
          rcases hmv with rfl | rfl
          · rw [if_neg (by omega)] at hy
            simp (disch := omega) only [w32_id, q_gf_e, q_gr_e, q_pf_e, q_pz_e, q_let_e, q_call_e, q_calp_e, q_al_ok, q_as_ok, q_nz_ok, up_same, up_nei, up_ne1, Int.toNat_natCast, reduceIte, Int.reduceEq, Int.reduceLT, Int.reduceLE, Int.reduceNeg, not_true_eq_false, not_false_eq_true, ← hy, n44', b2, b9]
          · rw [if_pos rfl] at hy
            simp (disch := omega) only [w32_id, q_gf_e, q_gr_e, q_pf_e, q_pz_e, q_let_e, q_call_e, q_calp_e, q_al_ok, q_as_ok, q_nz_ok, up_same, up_nei, up_ne1, Int.toNat_natCast, reduceIte, Int.reduceEq, Int.reduceLT, Int.reduceLE, Int.reduceNeg, not_true_eq_false, not_false_eq_true, ← hy, n44', b2, b9]
        rw [hJ54]
        have hsm : SM M' (up N2 82 s (if v' = -9223372036854775808 then 0 else q_maxl (w32 (-9999)) (q_minl (w32 9999) v'))) := sN.trans (b10.to.trans ⟨fun n _ _ _ a => up_ne1 a, fun f _ _ => by rw [up_ne1 (by omega)]⟩)
        refine ih (if mv = 1 then q_or x2 (q_shl 1 s) else x2, x3 + 1, Mc2) (x3 + 1, up N2 82 s (if v' = -9223372036854775808 then 0 else q_maxl (w32 (-9999)) (q_minl (w32 9999) v'))) ?_ (by show (Mm 69 q - (x3 + 1)).toNat < (Mm 69 q - x3).toNat; omega)
        refine ⟨rfl, by show 0 ≤ x3 + 1; omega, by show x3 + 1 ≤ Mm 69 q; omega, i4.trans a5.to, i5.trans hsm, ?_, ?_, ?_⟩
        · show (if mv = 1 then q_or x2 (q_shl 1 s) else x2) = up N2 82 s (if v' = -9223372036854775808 then 0 else q_maxl (w32 (-9999)) (q_minl (w32 9999) v')) 0 51
          rw [up_ne1 (by omega), e51, hy, ← i6]
          rcases hmv with rfl | rfl
          · rw [if_neg (by omega), if_neg (by omega), q_or_zero i7]
          · rw [if_pos rfl, if_pos rfl]
        · show in32 (if mv = 1 then q_or x2 (q_shl 1 s) else x2)
          split
          · exact q_or_rng _ _
          · exact i7
        · intro i ia ib
          by_cases ci : i = x3
          · subst ci
            rw [← m70, hs, ← m44]
            intro Mc' sc'
            have hN' := h.frm sc' (i5.trans sN)
            obtain ⟨Mc1', Mm1'', w, Mc2', z1, z2, z3, z4, z5, z6, z7, z8⟩ := evW (l := 1) hN' ⟨hx.1, by rw [n35]; exact hx.2.1⟩ hplN (.inl ⟨rfl, i2, by omega⟩) (fare := M' 44 bus) (by omega) (by omega)
            have ee : Mm1'' = Mm1' := by
              rw [z2] at b2
              simpa using b2
            subst ee
            obtain ⟨N3, z9, z10⟩ := withinM (lo := -9999) (hi := 9999) (pl := 0) z8 z6
            refine ⟨Mc1', w, Mc2', z1, z4, z3, z5, z7, ?_⟩
            show up N2 82 s (if v' = -9223372036854775808 then 0 else q_maxl (w32 (-9999)) (q_minl (w32 9999) v')) 82 s = _
            rw [up_same]
            rw [b9] at z9
            simp only [Option.some.injEq, Prod.mk.injEq] at z9
            have z9 := z9.1
            rw [w32_id (x := -9999) (by omega), w32_id (x := 9999) (by omega)] at z9 ⊢
            exact z9
          · have hi := i8 i ia (by have : i < x3 + 1 := ib; omega)
            intro Mc' sc'
            obtain ⟨Mc1', w, Mc2', z1, z2, z3, z4, z5, z6⟩ := hi Mc' sc'
            refine ⟨Mc1', w, Mc2', z1, z2, z3, z4, z5, ?_⟩
            rw [← z6]
            show up N2 82 s (if v' = -9223372036854775808 then 0 else q_maxl (w32 (-9999)) (q_minl (w32 9999) v')) 82 (Mm 70 (8 * q + i)) = _
            have hne : Mm 70 (8 * q + i) ≠ s := by
              rw [← m70, ← hs]
              exact r5 i x3 ia (by have : i < x3 + 1 := ib; omega) (by omega)
            rw [up_nei hne, b10.1 82 (by omega) (by omega) (by omega), up_ne1 (by omega), sn.1 82 (by omega) (by omega) (by omega)]
      have w1 : ¬ w32 1 = 0 := by decide
      have w0 : w32 0 = 0 := by decide
      have w3 : w32 3 = 3 := by decide
      have hJ : ∀ y, (y = 0 ∨ y = 1) → f_X3_whoMay_J110 Gc bus x2 x3 s y Mc2 = Gc (if (y = 1 ∨ M' 0 47 = 3) then q_or x2 (q_shl 1 s) else x2) (x3 + 1) Mc2 := by
        intro y hy
        unfold f_X3_whoMay_J110 f_X3_whoMay_J125
        simp (disch := omega) only [w32_id, q_gf_e, q_gr_e, q_pf_e, q_pz_e, q_let_e, q_call_e, q_calp_e, q_al_ok, q_as_ok, q_nz_ok, up_same, up_nei, up_ne1, Int.toNat_natCast, reduceIte, Int.reduceEq, Int.reduceLT, Int.reduceLE, Int.reduceNeg, not_true_eq_false, not_false_eq_true, f1, o1]
        rcases hy with rfl | rfl
        · (try simp (disch := omega) only [w32_id, q_gf_e, q_gr_e, q_pf_e, q_pz_e, q_let_e, q_call_e, q_calp_e, q_al_ok, q_as_ok, q_nz_ok, up_same, up_nei, up_ne1, Int.toNat_natCast, reduceIte, Int.reduceEq, Int.reduceLT, Int.reduceLE, Int.reduceNeg, not_true_eq_false, not_false_eq_true])
          by_cases c3 : M' 0 47 = 3
          · simp [c3]
          · simp [c3]
        · (try simp (disch := omega) only [w32_id, q_gf_e, q_gr_e, q_pf_e, q_pz_e, q_let_e, q_call_e, q_calp_e, q_al_ok, q_as_ok, q_nz_ok, up_same, up_nei, up_ne1, Int.toNat_natCast, reduceIte, Int.reduceEq, Int.reduceLT, Int.reduceLE, Int.reduceNeg, not_true_eq_false, not_false_eq_true])
          simp
      unfold in64 at a7
      simp (disch := omega) only [w32_id, q_gf_e, q_gr_e, q_pf_e, q_pz_e, q_let_e, q_call_e, q_calp_e, q_al_ok, q_as_ok, q_nz_ok, up_same, up_nei, up_ne1, Int.toNat_natCast, reduceIte, Int.reduceEq, Int.reduceLT, Int.reduceLE, Int.reduceNeg, not_true_eq_false, not_false_eq_true, h70, h71, ex, hfa.1, a1, a4, a3, f1, f2, f3, eC]
      rw [hJ 0 (.inl rfl), hJ 1 (.inr rfl), cmp_v (by omega) (by omega), cmp_v (by omega) (by omega)]
      by_cases c3 : M' 0 47 = 3
      · have hm : f_X10_mayRide q s bus M' = some (1, M') := by
          unfold f_X10_mayRide
          simp (disch := omega) only [w32_id, q_gf_e, q_gr_e, q_pf_e, q_pz_e, q_let_e, q_call_e, q_calp_e, q_al_ok, q_as_ok, q_nz_ok, up_same, up_nei, up_ne1, Int.toNat_natCast, reduceIte, Int.reduceEq, Int.reduceLT, Int.reduceLE, Int.reduceNeg, not_true_eq_false, not_false_eq_true, c3]
        rw [hm, q_call_e]
        have := fin 1 M' (.inr rfl) (SN.refl _)
        rw [if_pos rfl] at this
        simp only [c3, or_true, if_true, ite_self]
        exact this
      · obtain ⟨Mm2, hm, sm⟩ := mayM (bus := bus) a8 a6 a2 ⟨c3, by omega, by omega⟩ (by omega) (by omega) (by omega) hC (by omega)
        rw [hm, q_call_e]
        have := fin (if v = -9223372036854775808 then (if M' 72 (8 * q + s) < M' 44 bus then 0 else 1) else (if v = 0 then 0 else 1)) Mm2 (by split <;> split <;> omega) sm
        refine Eq.mp ?_ this
        congr 1
        simp only [c3, or_false]
        by_cases cv : v = -9223372036854775808
        · subst cv
          by_cases cf : M' 72 (8 * q + s) < M' 44 bus
          · simp [cf]
          · simp [cf]
        · have nv : ¬ v < -9223372036854775808 := by omega
          by_cases cz : v = 0
          · subst cz; simp
          · by_cases cl : v < 0
            · simp [cv, cz, nv, cl]
            · simp [cv, cz, nv, cl]
  · refine ⟨rfl, Int.le_refl _, ?_, SC.refl _, ⟨fun n a _ _ _ => up_ne1 a, fun f _ a => up_nei a⟩, ?_, ?_, ?_⟩
    · have := h.rng.2.2.1; show (0 : Int) ≤ Mm 69 q; omega
    · show (0 : Int) = up Mm 0 51 0 0 51
      rw [up_same]
    · show in32 0
      unfold in32; omega
    · intro i a b; exact absurd b (by show ¬ i < 0; omega)
  · exact q_N_lt (by show (Mm 69 q - 0).toNat < 100000; have := h.rng.2.2.1; omega)
  · exact q_N_lt (by show (Mm 69 q - 0).toNat < 100000; have := h.rng.2.2.1; omega)
