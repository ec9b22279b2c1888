theorem RelT.nob {t : Nat} {Mc Mm : Mem} (h : RelT t Mc Mm) {p : Int} (a : 0 ≤ p) (b : p < Mm 35 0) (c : Mm 71 p ≠ 2) : Mm 75 p = -1 := by
  have := h.2.2.1.1.2.2 p a b
  simp [mvw, mvc] at this
  exact this c
theorem RelT.raw {t : Nat} {Mc Mm : Mem} (h : RelT t Mc Mm) {p : Int} (a : 0 ≤ p) (b : p < Mm 35 0) : (Mc 162 p = Mm 71 p ∧ Mc 163 p = Mm 72 p ∧ Mc 164 p = Mm 73 p ∧ Mc 165 p = Mm 74 p ∧ (Mm 71 p = 2 → Mc 166 p = Mm 75 p ∧ Mc 167 p = Mm 76 p ∧ 0 ≤ Mm 75 p ∧ Mm 75 p < 4 ∧ 0 ≤ Mm 76 p ∧ Mm 76 p ≤ 10000)) ∧ (0 ≤ Mm 71 p ∧ Mm 71 p ≤ 3) ∧ (0 ≤ Mm 72 p ∧ Mm 72 p ≤ 99) := by
  have h1 := h.2.2.1.1.raw a b
  have h2 := h.2.2.1.1.rng a b
  refine ⟨⟨h1.1, h1.2.1, h1.2.2.1, h1.2.2.2.1, fun c => ?_⟩, by omega, by omega⟩
  have h3 := h1.2.2.2.2 (by omega)
  have h4 := h2.2.2.2.2.1 (by omega)
  omega
theorem goneBusW {t : Nat} {bus : Int} {Mc Mm : Mem} (h : RelT t Mc Mm) (hb : 0 ≤ bus ∧ bus < 4) : ∃ r, f_X9_goneByBus bus Mc = some r ∧ f_X10_goneWith bus Mm = some r := by
  have h03 := h.1.1
  have hS := h.2.1.2.1
  have hk : W2 (f_X9_goneByBus bus Mc) (f_X10_goneWith bus Mm) some some (fun a b => a = b) := by
    unfold f_X9_goneByBus f_X10_goneWith f_X9_goneByBus_L4 f_X10_goneWith_L4
    refine lock (fun m (u : Int × Int) => qlp2 (fun x2 x3 g4 => f_X9_goneByBus_B4 bus Mc x2 x3 g4) m u.1 u.2) (fun m (u : Int × Int) => qlp2 (fun x2 x3 g4 => f_X10_goneWith_B4 bus Mm x2 x3 g4) m u.1 u.2) _ _ _ (fun u v => u = v ∧ 0 ≤ v.2 ∧ v.2 ≤ Mm 35 0) (fun u v => (8 - v.2).toNat) ?_ q_N q_N (0, 0) (0, 0) ⟨rfl, by show (0 : Int) ≤ 0; omega, by show 0 ≤ Mm 35 0; omega⟩ (q_N_lt (by show (8 - 0 : Int).toNat < 100000; omega)) (q_N_lt (by show (8 - 0 : Int).toNat < 100000; omega))
    intro m m' ⟨x2, x3⟩ ⟨y2, y3⟩ ⟨i1, i2, i3⟩ ih
    cases i1
    simp only at i2 i3
    show W2 (f_X9_goneByBus_B4 bus Mc x2 x3 (qlp2 (fun x2 x3 g4 => f_X9_goneByBus_B4 bus Mc x2 x3 g4) m)) (f_X10_goneWith_B4 bus Mm x2 x3 (qlp2 (fun x2 x3 g4 => f_X10_goneWith_B4 bus Mm x2 x3 g4) m')) _ _ _
    generalize qlp2 (fun x2 x3 g4 => f_X9_goneByBus_B4 bus Mc x2 x3 g4) m = Gc at ih ⊢
    generalize qlp2 (fun x2 x3 g4 => f_X10_goneWith_B4 bus Mm x2 x3 g4) m' = Gm at ih ⊢
    unfold f_X9_goneByBus_B4 f_X10_goneWith_B4
    simp (disch := omega) only [w32_id, q_gf_e, q_gr_e, q_pf_e, q_pz_e, q_let_e, q_call_e, q_calp_e, q_al_ok, q_as_ok, q_nz_ok, up_same, up_nei, up_ne1, Int.toNat_natCast, reduceIte, Int.reduceEq, Int.reduceLT, Int.reduceLE, Int.reduceNeg, not_true_eq_false, not_false_eq_true, h03, hS.1]
    by_cases c : Mm 35 0 ≤ x3
    · rw [if_pos c, if_pos c]; exact W2.ok x2 x2 rfl rfl rfl
    rw [if_neg c, if_neg c]
    have hr := h.raw i2 (by omega)
    have hn := h.nob i2 (p := x3) (by omega)
    have nx : ∀ z, W2 (Gc z (x3 + 1)) (Gm z (x3 + 1)) some some (fun a b => a = b) := fun z => ih (z, x3 + 1) (z, x3 + 1) ⟨rfl, by show 0 ≤ x3 + 1; omega, by show x3 + 1 ≤ Mm 35 0; omega⟩ (by show (8 - (x3 + 1)).toNat < (8 - x3).toNat; omega)
    simp (disch := omega) only [w32_id, q_gf_e, q_gr_e, q_pf_e, q_pz_e, q_let_e, q_call_e, q_calp_e, q_al_ok, q_as_ok, q_nz_ok, up_same, up_nei, up_ne1, Int.toNat_natCast, reduceIte, Int.reduceEq, Int.reduceLT, Int.reduceLE, Int.reduceNeg, not_true_eq_false, not_false_eq_true, hr.1.1]
    by_cases c2 : Mm 71 x3 = 2
    · have h5 := hr.1.2.2.2.2 c2
      rw [if_neg (by simp [c2])]
      simp (disch := omega) only [w32_id, q_gf_e, q_gr_e, q_pf_e, q_pz_e, q_let_e, q_call_e, q_calp_e, q_al_ok, q_as_ok, q_nz_ok, up_same, up_nei, up_ne1, Int.toNat_natCast, reduceIte, Int.reduceEq, Int.reduceLT, Int.reduceLE, Int.reduceNeg, not_true_eq_false, not_false_eq_true, h5.1]
      by_cases c3 : Mm 75 x3 = bus
      · rw [if_neg (by simp [c3]), if_neg (by simp [c3])]; exact nx _
      · rw [if_pos c3, if_pos c3, Int.add_zero]; exact nx _
    · have hn := hn c2
      rw [if_pos c2]
      simp (disch := omega) only [w32_id, q_gf_e, q_gr_e, q_pf_e, q_pz_e, q_let_e, q_call_e, q_calp_e, q_al_ok, q_as_ok, q_nz_ok, up_same, up_nei, up_ne1, Int.toNat_natCast, reduceIte, Int.reduceEq, Int.reduceLT, Int.reduceLE, Int.reduceNeg, not_true_eq_false, not_false_eq_true, hn]
      rw [if_pos (by omega), Int.add_zero]
      exact nx _
  obtain ⟨r, r', a, b, rfl⟩ := hk
  exact ⟨r, a, b⟩
theorem goneWithW {t : Nat} {s : Int} {Mc Mm : Mem} (h : RelT t Mc Mm) (hs : 0 ≤ s ∧ s < Mm 35 0) : ∃ r, f_X9_goneWith s Mc = some r ∧ f_X10_withSoul s Mm = some r := by
  have h03 := h.1.1
  have hS := h.2.1.2.1
  have hrs := h.raw hs.1 hs.2
  unfold f_X9_goneWith
  simp (disch := omega) only [w32_id, q_gf_e, q_gr_e, q_pf_e, q_pz_e, q_let_e, q_call_e, q_calp_e, q_al_ok, q_as_ok, q_nz_ok, up_same, up_nei, up_ne1, Int.toNat_natCast, reduceIte, Int.reduceEq, Int.reduceLT, Int.reduceLE, Int.reduceNeg, not_true_eq_false, not_false_eq_true, hrs.1.1]
  by_cases cg : Mm 71 s = 2
  · rw [if_pos cg]
    have h5s := hrs.1.2.2.2.2 cg
    have hk : W2 (f_X9_goneWith_L19 s Mc q_N 0 0) (f_X10_withSoul s Mm) some some (fun a b => a = b) := by
      unfold f_X10_withSoul f_X9_goneWith_L19 f_X10_withSoul_L4
      refine lock (fun m (u : Int × Int) => qlp2 (fun x2 x3 g19 => f_X9_goneWith_B19 s Mc x2 x3 g19) m u.1 u.2) (fun m (u : Int × Int) => qlp2 (fun x2 x3 g4 => f_X10_withSoul_B4 s Mm x2 x3 g4) m u.1 u.2) _ _ _ (fun u v => u = v ∧ in32 v.1 ∧ 0 ≤ v.2 ∧ v.2 ≤ Mm 35 0) (fun u v => (8 - v.2).toNat) ?_ q_N q_N (0, 0) (0, 0) ⟨rfl, by show in32 0; unfold in32; omega, by show (0 : Int) ≤ 0; omega, by show 0 ≤ Mm 35 0; omega⟩ (q_N_lt (by show (8 - 0 : Int).toNat < 100000; omega)) (q_N_lt (by show (8 - 0 : Int).toNat < 100000; omega))
      intro m m' ⟨x2, x3⟩ ⟨y2, y3⟩ ⟨i1, i0, i2, i3⟩ ih
      cases i1
      simp only at i0 i2 i3
      show W2 (f_X9_goneWith_B19 s Mc x2 x3 (qlp2 (fun x2 x3 g19 => f_X9_goneWith_B19 s Mc x2 x3 g19) m)) (f_X10_withSoul_B4 s Mm x2 x3 (qlp2 (fun x2 x3 g4 => f_X10_withSoul_B4 s Mm x2 x3 g4) m')) _ _ _
      generalize qlp2 (fun x2 x3 g19 => f_X9_goneWith_B19 s Mc x2 x3 g19) m = Gc at ih ⊢
      generalize qlp2 (fun x2 x3 g4 => f_X10_withSoul_B4 s Mm x2 x3 g4) m' = Gm at ih ⊢
      unfold f_X9_goneWith_B19 f_X10_withSoul_B4
      simp (disch := omega) only [w32_id, q_gf_e, q_gr_e, q_pf_e, q_pz_e, q_let_e, q_call_e, q_calp_e, q_al_ok, q_as_ok, q_nz_ok, up_same, up_nei, up_ne1, Int.toNat_natCast, reduceIte, Int.reduceEq, Int.reduceLT, Int.reduceLE, Int.reduceNeg, not_true_eq_false, not_false_eq_true, h03, hS.1, cg]
      by_cases c : Mm 35 0 ≤ x3
      · rw [if_pos c, if_pos c]; exact W2.ok x2 x2 rfl rfl rfl
      rw [if_neg c, if_neg c]
      have hr := h.raw i2 (by omega)
      have hn := h.nob i2 (p := x3) (by omega)
      have nx : ∀ z, in32 z → W2 (Gc z (x3 + 1)) (Gm z (x3 + 1)) some some (fun a b => a = b) := fun z hz => ih (z, x3 + 1) (z, x3 + 1) ⟨rfl, hz, by show 0 ≤ x3 + 1; omega, by show x3 + 1 ≤ Mm 35 0; omega⟩ (by show (8 - (x3 + 1)).toNat < (8 - x3).toNat; omega)
      simp (disch := omega) only [w32_id, q_gf_e, q_gr_e, q_pf_e, q_pz_e, q_let_e, q_call_e, q_calp_e, q_al_ok, q_as_ok, q_nz_ok, up_same, up_nei, up_ne1, Int.toNat_natCast, reduceIte, Int.reduceEq, Int.reduceLT, Int.reduceLE, Int.reduceNeg, not_true_eq_false, not_false_eq_true, hr.1.1, h5s.1, h5s.2.1]
      rw [q_or_zero i0]
      by_cases c2 : Mm 71 x3 = 2
      · have h5 := hr.1.2.2.2.2 c2
        rw [if_neg (by simp [c2])]
        simp (disch := omega) only [w32_id, q_gf_e, q_gr_e, q_pf_e, q_pz_e, q_let_e, q_call_e, q_calp_e, q_al_ok, q_as_ok, q_nz_ok, up_same, up_nei, up_ne1, Int.toNat_natCast, reduceIte, Int.reduceEq, Int.reduceLT, Int.reduceLE, Int.reduceNeg, not_true_eq_false, not_false_eq_true, h5.1, h5.2.1]
        by_cases c3 : Mm 75 x3 = Mm 75 s
        · have n3 : ¬ ¬ Mm 75 x3 = Mm 75 s := fun hh => hh c3
          rw [if_neg n3, if_neg n3]
          by_cases c4 : Mm 76 x3 = Mm 76 s
          · have n4 : ¬ ¬ Mm 76 x3 = Mm 76 s := fun hh => hh c4
            rw [if_neg n4, if_neg n4]; exact nx _ (q_or_rng _ _)
          · rw [if_pos c4, if_pos c4]; exact nx _ i0
        · rw [if_pos c3, if_pos c3]; exact nx _ i0
      · have hn := hn c2
        rw [if_pos c2]
        simp (disch := omega) only [w32_id, q_gf_e, q_gr_e, q_pf_e, q_pz_e, q_let_e, q_call_e, q_calp_e, q_al_ok, q_as_ok, q_nz_ok, up_same, up_nei, up_ne1, Int.toNat_natCast, reduceIte, Int.reduceEq, Int.reduceLT, Int.reduceLE, Int.reduceNeg, not_true_eq_false, not_false_eq_true, hn]
        rw [if_pos (by omega)]
        exact nx _ i0
    obtain ⟨r, r', a, b, rfl⟩ := hk
    exact ⟨r, a, b⟩
  · rw [if_neg cg]
    refine ⟨0, rfl, ?_⟩
    rw [← wpo_eq]
    unfold f_X10_withSoul f_X10_withSoul_L4
    refine qlp2_N (fun a x => a = 0 ∧ x = 0) (fun _ _ => 1) _ _ ⟨rfl, rfl⟩ (by omega) ?_
    intro a x g ⟨e1, e2⟩ ih
    subst e1 e2
    unfold f_X10_withSoul_B4
    (try simp (disch := omega) only [w32_id, q_gf_e, q_gr_e, q_pf_e, q_pz_e, q_let_e, q_call_e, q_calp_e, q_al_ok, q_as_ok, q_nz_ok, up_same, up_nei, up_ne1, Int.toNat_natCast, reduceIte, Int.reduceEq, Int.reduceLT, Int.reduceLE, Int.reduceNeg, not_true_eq_false, not_false_eq_true])
    rw [if_neg (by omega), if_pos cg]
    exact wpo_some.mpr rfl
theorem o_bus : rs_bus Rel := by
  intro Mc Mm a0 a1 hR h0 h1
  obtain ⟨t, hr⟩ := hR
  have hr := hr.thr (v := 0)
  show PM Mc _ _
  unfold f_X9_bus f_X10_bus
  rw [q_pf_e]
  generalize up Mm 0 0 0 = N at hr ⊢
  have hR : Rel Mc N := ⟨t, hr⟩
  have h03 := hr.1.1
  have hT := hr.2.1
  have hB := hT.2.2.1
  have ec := isBusC (a := a0) h03 (by omega) h0
  have em := isBusM (M := N) (a := a0) (by omega) h0
  rw [hB.1] at ec
  unfold in32 at h0 h1
  rw [ec, em]
  by_cases c : 0 ≤ a0 ∧ a0 < N 35 1
  · rw [if_pos c]
    have hb := hT.2.2.2.2.2.2.2.2.2.1 a0 c.1 c.2
    obtain ⟨r, r1, r2⟩ := goneBusW (bus := a0) hr (by omega)
    have hc : a1 = 0 ∨ a1 = 1 ∨ a1 = 2 ∨ a1 = 3 ∨ a1 = 4 ∨ (a1 < 0 ∨ 4 < a1) := by omega
    rcases hc with rfl | rfl | rfl | rfl | rfl | hc
    · simp (disch := omega) only [w32_id, q_gf_e, q_gr_e, q_pf_e, q_pz_e, q_let_e, q_call_e, q_calp_e, q_al_ok, q_as_ok, q_nz_ok, up_same, up_nei, up_ne1, Int.toNat_natCast, reduceIte, Int.reduceEq, Int.reduceLT, Int.reduceLE, Int.reduceNeg, not_true_eq_false, not_false_eq_true, h03, hb.2.1.1]; exact PM.ok rfl hR
    · simp (disch := omega) only [w32_id, q_gf_e, q_gr_e, q_pf_e, q_pz_e, q_let_e, q_call_e, q_calp_e, q_al_ok, q_as_ok, q_nz_ok, up_same, up_nei, up_ne1, Int.toNat_natCast, reduceIte, Int.reduceEq, Int.reduceLT, Int.reduceLE, Int.reduceNeg, not_true_eq_false, not_false_eq_true, h03, hb.2.2.1.1]; exact PM.ok rfl hR
    · simp (disch := omega) only [w32_id, q_gf_e, q_gr_e, q_pf_e, q_pz_e, q_let_e, q_call_e, q_calp_e, q_al_ok, q_as_ok, q_nz_ok, up_same, up_nei, up_ne1, Int.toNat_natCast, reduceIte, Int.reduceEq, Int.reduceLT, Int.reduceLE, Int.reduceNeg, not_true_eq_false, not_false_eq_true, h03, hb.2.2.2.1.1]; exact PM.ok rfl hR
    · simp (disch := omega) only [w32_id, q_gf_e, q_gr_e, q_pf_e, q_pz_e, q_let_e, q_call_e, q_calp_e, q_al_ok, q_as_ok, q_nz_ok, up_same, up_nei, up_ne1, Int.toNat_natCast, reduceIte, Int.reduceEq, Int.reduceLT, Int.reduceLE, Int.reduceNeg, not_true_eq_false, not_false_eq_true, h03, hb.2.2.2.2.1]; exact PM.ok rfl hR
    · simp (disch := omega) only [w32_id, q_gf_e, q_gr_e, q_pf_e, q_pz_e, q_let_e, q_call_e, q_calp_e, q_al_ok, q_as_ok, q_nz_ok, up_same, up_nei, up_ne1, Int.toNat_natCast, reduceIte, Int.reduceEq, Int.reduceLT, Int.reduceLE, Int.reduceNeg, not_true_eq_false, not_false_eq_true, r1, r2]; exact PM.ok rfl hR
    · (try simp (disch := omega) only [w32_id, q_gf_e, q_gr_e, q_pf_e, q_pz_e, q_let_e, q_call_e, q_calp_e, q_al_ok, q_as_ok, q_nz_ok, up_same, up_nei, up_ne1, Int.toNat_natCast, reduceIte, Int.reduceEq, Int.reduceLT, Int.reduceLE, Int.reduceNeg, not_true_eq_false, not_false_eq_true])
      simp (disch := omega) only [if_neg]
      exact PM.ok rfl hR
  · rw [if_neg c]
    (try simp (disch := omega) only [w32_id, q_gf_e, q_gr_e, q_pf_e, q_pz_e, q_let_e, q_call_e, q_calp_e, q_al_ok, q_as_ok, q_nz_ok, up_same, up_nei, up_ne1, Int.toNat_natCast, reduceIte, Int.reduceEq, Int.reduceLT, Int.reduceLE, Int.reduceNeg, not_true_eq_false, not_false_eq_true])
    exact PM.ok rfl hR
