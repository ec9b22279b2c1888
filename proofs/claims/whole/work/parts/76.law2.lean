theorem SC.fc {t : Nat} {M M' : Mem} (h : SC M M') (ht : t = 2 ∨ t = 3) : FC t M M' := GC.fc (h.gc (k := 5)) ht
theorem SM.fm {M M' : Mem} (h : SM M M') : FM M M' := GM.fm (h.gm (q := 1))
theorem placeNow {t : Nat} {s : Int} {Mc Mm : Mem} (h : RelT t Mc Mm) (hs : in32 s) : ∃ pc pm, f_X6_placeOf 4 s Mc = some pc ∧ f_X10_placeOf 0 s Mm = some pm ∧ ((pc = pm ∧ 0 ≤ pc ∧ pc < Mm 69 0 ∧ Mm 70 pc = s) ∨ (pc = -2 ∧ pm = -1 ∧ ∀ j, 0 ≤ j → j < Mm 69 0 → Mm 70 j ≠ s)) := by
  obtain ⟨-, hT, ⟨⟨he, hw, -⟩, -⟩, -⟩ := h
  have hS := hT.2.1
  have e9 : Mc 4 9 = Mm 69 0 := he.2.2.1
  have w9 : 0 ≤ Mc 4 9 ∧ Mc 4 9 ≤ Mm 35 0 := hw.2.2.1
  have er : ∀ i, 0 ≤ i → i < Mm 69 0 → Mc 168 i = Mm 70 i := fun i a b => by
    have := he.2.2.2.1 i a (by show i < Mc 4 9; omega)
    simpa [cvw, mvw, mvc] using this
  have wr : ∀ i, 0 ≤ i → i < Mc 4 9 → 0 ≤ Mc 168 i ∧ Mc 168 i < Mm 35 0 := fun i a b => by
    have := hw.2.2.2.1 i a b
    exact ⟨this.1, this.2.1⟩
  obtain ⟨pc, a1, a2⟩ := placeOfC (k := 4) (s := s) (M := Mc) (by omega) hs (fun j a b => by have := wr j a b; unfold in32; show -2147483648 ≤ Mc 168 j ∧ Mc 168 j < 2147483648; omega)
  obtain ⟨pm, b1, b2⟩ := placeOfM (q := 0) (s := s) (M := Mm) (by omega) (by omega) hs (fun j a b => by have := wr j a (by omega); have := er j a b; unfold in32; simp only [Int.mul_zero, Int.zero_add]; omega)
  refine ⟨pc, pm, a1, b1, ?_⟩
  rw [e9] at a2
  rcases a2.same b2 (fun j a b => by simp only [Int.mul_zero, Int.zero_add]; exact er j a b) with ⟨h1, h2, h3, h4⟩ | ⟨h1, h2⟩
  · exact .inl ⟨h1, h2, h3, by rw [← er pc h2 h3]; exact h4⟩
  · refine .inr ⟨h1, h2, ?_⟩
    rcases a2 with ⟨g1, -⟩ | ⟨-, g2⟩
    · omega
    · intro j a b
      rw [← er j a b]
      exact g2 j a b
theorem o_law : rs_law Rel := by
  intro Mc Mm a0 a1 a2 hR h0 h1 h2
  obtain ⟨t, hr⟩ := hR
  have hr := hr.thr (v := 0)
  show PW _ _
  unfold f_X9_law f_X10_law
  rw [q_pf_e]
  generalize up Mm 0 0 0 = N at hr ⊢
  have hR : Rel Mc N := ⟨t, hr⟩
  have h03 := hr.1.1
  have hT := hr.2.1
  have ht := hT.1
  have hS := hT.2.1
  have hB := hT.2.2.1
  have hL := hT.2.2.2.2.2.2.2.2.2.2
  have ec := isSoulC (a := a1) h03 (by omega) h1
  have em := isSoulM (M := N) (a := a1) (by omega) h1
  rw [hS.1] at ec
  have bc := isBusC (a := a2) h03 (by omega) h2
  have bm := isBusM (M := N) (a := a2) (by omega) h2
  rw [hB.1] at bc
  obtain ⟨pc, pm, p1, p2, p3⟩ := placeNow hr h1
  unfold in32 at h0 h1 h2
  simp (disch := omega) only [w32_id, q_gf_e, q_gr_e, q_pf_e, q_pz_e, q_let_e, q_call_e, q_calp_e, q_al_ok, q_as_ok, q_nz_ok, up_same, up_nei, up_ne1, Int.toNat_natCast, reduceIte, Int.reduceEq, Int.reduceLT, Int.reduceLE, Int.reduceNeg, not_true_eq_false, not_false_eq_true]
  by_cases c1 : a0 < 0
  · rw [if_pos c1, if_pos c1]; exact PW.ok rfl hR
  rw [if_neg c1, if_neg c1]
  by_cases c2 : 3 ≤ a0
  · rw [if_pos c2, if_pos (show 2 < a0 by omega)]; exact PW.ok rfl hR
  rw [if_neg c2, if_neg (show ¬ 2 < a0 by omega)]
  have hl := hasLawM hL (l := a0) (by omega)
  -- what both do in the end
  have main : ∀ fare, 0 ≤ fare ∧ fare ≤ 99 → 0 ≤ a1 ∧ a1 < N 35 0 → ∀ p, ((pm = p ∧ 0 ≤ p ∧ p ≤ 9) ∨ (pm = -1 ∧ p = 9)) → ∃ v Mc2, f_X9_law_J98 a0 fare p a1 (RDY t 4 Mc) = some (v, Mc2) ∧ Rel Mc2 N ∧ (f_X10_hasLaw a0 N = some 0 → v = -9223372036854775808) ∧ (f_X10_hasLaw a0 N = some 1 → PW (some (v, Mc2)) (f_X10_law_J65 a0 fare a1 0 N)) := by
    intro fare hf hs p hp
    have fc0 : FC t Mc (RDY t 4 Mc) := by
      intro n hn
      unfold KC at hn
      rw [RDY.ne (by omega)]
    obtain ⟨f0, f1, f2, f3, f4, f5⟩ := RDY.f (k0 := t) (k1 := 4) (M := Mc)
    have hm := nowMR (r := 0) hr fc0 ⟨f0, f1, f2, f3, f4⟩ (.inl rfl)
    obtain ⟨Mc1, Mm1, v, Mc2, x1, x2, x3, x4, x5, x6, x7, x8⟩ := evW (l := a0) hm hs p2 hp hf (by omega)
    have r0 : Mc1 0 3 = t := by
      obtain ⟨M1', M2', y1, y2, y3, -⟩ := lookW hm hs p2 hp hf
      rw [x1] at y1
      have e : Mc1 = M1' := by simpa using y1
      rw [e, y3 0 (by omega), RDY.ne (by omega)]
      exact h03
    have hfc : FC t Mc Mc2 := fc0.trans (x5.to.fc ht)
    have hl1 : f_X10_hasLaw a0 Mm1 = f_X10_hasLaw a0 N := by
      have hL1 := (hm.frm (SC.refl _) x6.to).1.2.2.2.2.2.2.2.2.2.2
      rw [hl, hasLawM hL1 (l := a0) (by omega), x6.1 48 (by omega) (by omega) (by omega), x6.1 47 (by omega) (by omega) (by omega)]
    refine ⟨v, Mc2, ?_, ⟨t, hr.frm hfc (FM.refl _)⟩, fun e => ?_, fun e => ?_⟩
    · unfold f_X9_law_J98
      simp (disch := omega) only [w32_id, q_gf_e, q_gr_e, q_pf_e, q_pz_e, q_let_e, q_call_e, q_calp_e, q_al_ok, q_as_ok, q_nz_ok, up_same, up_nei, up_ne1, Int.toNat_natCast, reduceIte, Int.reduceEq, Int.reduceLT, Int.reduceLE, Int.reduceNeg, not_true_eq_false, not_false_eq_true, x1, r0, x3]
    · rcases x8 with ⟨g, -⟩ | ⟨g, -⟩
      · exact g
      · rw [hl1, e] at g; exact absurd g (by simp)
    · rcases x8 with ⟨-, g⟩ | ⟨-, Mm2, y, g1, g2, g3⟩
      · rw [hl1, e] at g; exact absurd g (by simp)
      · unfold f_X10_law_J65
        simp (disch := omega) only [w32_id, q_gf_e, q_gr_e, q_pf_e, q_pz_e, q_let_e, q_call_e, q_calp_e, q_al_ok, q_as_ok, q_nz_ok, up_same, up_nei, up_ne1, Int.toNat_natCast, reduceIte, Int.reduceEq, Int.reduceLT, Int.reduceLE, Int.reduceNeg, not_true_eq_false, not_false_eq_true, x2, g1]
        rcases g3 with ⟨rfl, rfl⟩ | ⟨rfl, g4, -⟩
        · (try simp (disch := omega) only [w32_id, q_gf_e, q_gr_e, q_pf_e, q_pz_e, q_let_e, q_call_e, q_calp_e, q_al_ok, q_as_ok, q_nz_ok, up_same, up_nei, up_ne1, Int.toNat_natCast, reduceIte, Int.reduceEq, Int.reduceLT, Int.reduceLE, Int.reduceNeg, not_true_eq_false, not_false_eq_true])
          exact PW.ok rfl ⟨t, hr.frm hfc g2.to.fm⟩
        · simp (disch := omega) only [w32_id, q_gf_e, q_gr_e, q_pf_e, q_pz_e, q_let_e, q_call_e, q_calp_e, q_al_ok, q_as_ok, q_nz_ok, up_same, up_nei, up_ne1, Int.toNat_natCast, reduceIte, Int.reduceEq, Int.reduceLT, Int.reduceLE, Int.reduceNeg, not_true_eq_false, not_false_eq_true, g4]
          exact PW.ok rfl ⟨t, hr.frm hfc g2.to.fm⟩
  have m2 : (a0 ≠ 2 → 0 ≤ a2 ∧ a2 < N 35 1) → 0 ≤ a1 ∧ a1 < N 35 0 → ∃ v Mc2, f_X9_law_J38 a0 a1 a2 Mc = some (v, Mc2) ∧ Rel Mc2 N ∧ (f_X10_hasLaw a0 N = some 0 → v = -9223372036854775808) ∧ (f_X10_hasLaw a0 N = some 1 → PW (some (v, Mc2)) (f_X10_law_J47 a0 a1 a2 N)) := by
    intro hb hs
    have hpp : ∃ p, ((pm = p ∧ 0 ≤ p ∧ p ≤ 9) ∨ (pm = -1 ∧ p = 9)) ∧ f_X9_law_J38 a0 a1 a2 Mc = f_X9_law_J80 a0 a2 p a1 (RDY t 4 Mc) := by
      have r9 : N 69 0 ≤ 8 := by have := hr.2.2.1.1.2.1.2.2.1; have : cvw 4 Mc 0 9 = N 69 0 := hr.2.2.1.1.1.2.2.1; omega
      unfold f_X9_law_J38
      rcases p3 with ⟨rfl, q2, q3, -⟩ | ⟨rfl, rfl, -⟩
      · refine ⟨pc, .inl ⟨rfl, q2, by omega⟩, ?_⟩
        simp (disch := omega) only [w32_id, q_gf_e, q_gr_e, q_pf_e, q_pz_e, q_let_e, q_call_e, q_calp_e, q_al_ok, q_as_ok, q_nz_ok, up_same, up_nei, up_ne1, Int.toNat_natCast, reduceIte, Int.reduceEq, Int.reduceLT, Int.reduceLE, Int.reduceNeg, not_true_eq_false, not_false_eq_true, p1, h03, readyC]
        rw [if_pos q2]
      · refine ⟨9, .inr ⟨rfl, rfl⟩, ?_⟩
        simp (disch := omega) only [w32_id, q_gf_e, q_gr_e, q_pf_e, q_pz_e, q_let_e, q_call_e, q_calp_e, q_al_ok, q_as_ok, q_nz_ok, up_same, up_nei, up_ne1, Int.toNat_natCast, reduceIte, Int.reduceEq, Int.reduceLT, Int.reduceLE, Int.reduceNeg, not_true_eq_false, not_false_eq_true, p1, h03, readyC]
    obtain ⟨p, q1, q2⟩ := hpp
    rw [q2]
    unfold f_X9_law_J80 f_X10_law_J47
    have e0 : RDY t 4 Mc 0 3 = t := by rw [RDY.ne (by omega)]; exact h03
    by_cases c : a0 = 2
    · have := main 0 (by omega) hs p q1
      simp only [c] at this ⊢
      (try simp (disch := omega) only [w32_id, q_gf_e, q_gr_e, q_pf_e, q_pz_e, q_let_e, q_call_e, q_calp_e, q_al_ok, q_as_ok, q_nz_ok, up_same, up_nei, up_ne1, Int.toNat_natCast, reduceIte, Int.reduceEq, Int.reduceLT, Int.reduceLE, Int.reduceNeg, not_true_eq_false, not_false_eq_true])
      exact this
    · have hb := hb c
      have hfa := (hT.2.2.2.2.2.2.2.2.2.1 a2 hb.1 hb.2).2.2.2.2
      have e12 : RDY t 4 Mc (32 * (t + 1) + 12) = Mc (32 * (t + 1) + 12) := RDY.ne (by omega)
      have := main (N 44 a2) (by omega) hs p q1
      simp (disch := omega) only [w32_id, q_gf_e, q_gr_e, q_pf_e, q_pz_e, q_let_e, q_call_e, q_calp_e, q_al_ok, q_as_ok, q_nz_ok, up_same, up_nei, up_ne1, Int.toNat_natCast, reduceIte, Int.reduceEq, Int.reduceLT, Int.reduceLE, Int.reduceNeg, not_true_eq_false, not_false_eq_true, e0, e12, hfa.1]
      rw [if_pos c, if_pos c]
      exact this
  rw [hl] at m2 ⊢
  rw [ec, em]
  by_cases c6 : 0 ≤ a1 ∧ a1 < N 35 0
  · rw [if_pos c6]
    (try simp (disch := omega) only [w32_id, q_gf_e, q_gr_e, q_pf_e, q_pz_e, q_let_e, q_call_e, q_calp_e, q_al_ok, q_as_ok, q_nz_ok, up_same, up_nei, up_ne1, Int.toNat_natCast, reduceIte, Int.reduceEq, Int.reduceLT, Int.reduceLE, Int.reduceNeg, not_true_eq_false, not_false_eq_true])
    rw [bc, bm]
    by_cases c7 : a0 ≠ 2 → 0 ≤ a2 ∧ a2 < N 35 1
    · obtain ⟨v, Mc2, y1, y2, y3, y4⟩ := m2 c7 c6
      have e1 : (if a0 = 2 then f_X9_law_J38 a0 a1 a2 Mc else q_calp (some (if 0 ≤ a2 ∧ a2 < N 35 1 then 1 else 0)) fun r2 => if ¬ w32 r2 = 0 then f_X9_law_J38 a0 a1 a2 Mc else some (-9223372036854775808, Mc)) = some (v, Mc2) := by
        by_cases c : a0 = 2
        · rw [if_pos c]; exact y1
        · rw [if_neg c, if_pos (c7 c)]
          (try simp (disch := omega) only [w32_id, q_gf_e, q_gr_e, q_pf_e, q_pz_e, q_let_e, q_call_e, q_calp_e, q_al_ok, q_as_ok, q_nz_ok, up_same, up_nei, up_ne1, Int.toNat_natCast, reduceIte, Int.reduceEq, Int.reduceLT, Int.reduceLE, Int.reduceNeg, not_true_eq_false, not_false_eq_true])
          exact y1
      have e2 : (if a0 = 2 then f_X10_law_J47 a0 a1 a2 N else q_calp (some (if 0 ≤ a2 ∧ a2 < N 35 1 then 1 else 0)) fun r4 => if ¬ w32 r4 = 0 then f_X10_law_J47 a0 a1 a2 N else some (-9223372036854775808, N)) = f_X10_law_J47 a0 a1 a2 N := by
        by_cases c : a0 = 2
        · rw [if_pos c]
        · rw [if_neg c, if_pos (c7 c)]
          (try simp (disch := omega) only [w32_id, q_gf_e, q_gr_e, q_pf_e, q_pz_e, q_let_e, q_call_e, q_calp_e, q_al_ok, q_as_ok, q_nz_ok, up_same, up_nei, up_ne1, Int.toNat_natCast, reduceIte, Int.reduceEq, Int.reduceLT, Int.reduceLE, Int.reduceNeg, not_true_eq_false, not_false_eq_true])
      rw [e1, e2]
      by_cases cl : N 47 a0 < N 48 a0
      · rw [if_pos cl] at y4
        rw [if_pos cl]
        (try simp (disch := omega) only [w32_id, q_gf_e, q_gr_e, q_pf_e, q_pz_e, q_let_e, q_call_e, q_calp_e, q_al_ok, q_as_ok, q_nz_ok, up_same, up_nei, up_ne1, Int.toNat_natCast, reduceIte, Int.reduceEq, Int.reduceLT, Int.reduceLE, Int.reduceNeg, not_true_eq_false, not_false_eq_true])
        exact y4 rfl
      · rw [if_neg cl] at y3
        rw [if_neg cl]
        (try simp (disch := omega) only [w32_id, q_gf_e, q_gr_e, q_pf_e, q_pz_e, q_let_e, q_call_e, q_calp_e, q_al_ok, q_as_ok, q_nz_ok, up_same, up_nei, up_ne1, Int.toNat_natCast, reduceIte, Int.reduceEq, Int.reduceLT, Int.reduceLE, Int.reduceNeg, not_true_eq_false, not_false_eq_true])
        exact PW.ok (y3 rfl) y2
    · have c8 : a0 ≠ 2 ∧ ¬ (0 ≤ a2 ∧ a2 < N 35 1) := by
        by_cases c : a0 = 2
        · exact absurd (fun h => absurd c h) c7
        · exact ⟨c, fun h => c7 (fun _ => h)⟩
      rw [if_neg c8.2, if_neg c8.1, if_neg c8.1]
      by_cases cl : N 47 a0 < N 48 a0
      · rw [if_pos cl]
        (try simp (disch := omega) only [w32_id, q_gf_e, q_gr_e, q_pf_e, q_pz_e, q_let_e, q_call_e, q_calp_e, q_al_ok, q_as_ok, q_nz_ok, up_same, up_nei, up_ne1, Int.toNat_natCast, reduceIte, Int.reduceEq, Int.reduceLT, Int.reduceLE, Int.reduceNeg, not_true_eq_false, not_false_eq_true])
        exact PW.ok rfl hR
      · rw [if_neg cl]
        (try simp (disch := omega) only [w32_id, q_gf_e, q_gr_e, q_pf_e, q_pz_e, q_let_e, q_call_e, q_calp_e, q_al_ok, q_as_ok, q_nz_ok, up_same, up_nei, up_ne1, Int.toNat_natCast, reduceIte, Int.reduceEq, Int.reduceLT, Int.reduceLE, Int.reduceNeg, not_true_eq_false, not_false_eq_true])
        exact PW.ok rfl hR
  · rw [if_neg c6]
    by_cases cl : N 47 a0 < N 48 a0
    · rw [if_pos cl]
      (try simp (disch := omega) only [w32_id, q_gf_e, q_gr_e, q_pf_e, q_pz_e, q_let_e, q_call_e, q_calp_e, q_al_ok, q_as_ok, q_nz_ok, up_same, up_nei, up_ne1, Int.toNat_natCast, reduceIte, Int.reduceEq, Int.reduceLT, Int.reduceLE, Int.reduceNeg, not_true_eq_false, not_false_eq_true])
      exact PW.ok rfl hR
    · rw [if_neg cl]
      (try simp (disch := omega) only [w32_id, q_gf_e, q_gr_e, q_pf_e, q_pz_e, q_let_e, q_call_e, q_calp_e, q_al_ok, q_as_ok, q_nz_ok, up_same, up_nei, up_ne1, Int.toNat_natCast, reduceIte, Int.reduceEq, Int.reduceLT, Int.reduceLE, Int.reduceNeg, not_true_eq_false, not_false_eq_true])
      exact PW.ok rfl hR
