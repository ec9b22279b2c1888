/-! lines: seats, rain, seed -/
theorem LW.more {u : Nat} {L : Int} {Mc Mm Mc' Mm' Mm'' : Mem} (h : LW u L Mc Mm 0 Mc' Mm') (hm : fmL Mm' Mm'') (e : Mm'' 0 = Mm' 0) : LW u L Mc Mm 0 Mc' Mm'' := by
  obtain ⟨h1, h2, h3⟩ := h
  refine ⟨h1, h2.trans hm, ?_⟩
  rcases h3 with ⟨a, _⟩ | h3
  · omega
  · right
    unfold FQa at *
    rw [e]
    exact h3
def hiO (x : Int) : Int := if x = 3 then 8 else if x = 4 then 100 else 99999
theorem onceW {u : Nat} {L x : Int} {Mc Mm : Mem} (h : RD u L Mc Mm) (hx : x = 3 ∨ x = 4 ∨ x = 5) : ∃ r Mc' Mm', (q_call (f_X4_readOnce x Mc) fun r2 M3 => f_X4_readLine_J101 r2 M3) = some (r, Mc') ∧ (if ¬ w32 (q_and (q_shr (Mm 0 19) x) 1) = w32 1 then f_X10_line_J70 x Mm else (q_call (f_X10_wrong 3 Mm) fun _ M7 => f_X10_line_J70 x M7)) = some (0, Mm') ∧ LW u L Mc Mm r Mc' Mm' := by
  have hh := h
  obtain ⟨g1, g2, g3, g4, g5, g6, g7, g8, g9, g10⟩ := h
  have eb := (g9 x (by omega) (by omega)).1
  have ea := and1 (x := Mc 1 3) (p := x) (by omega)
  have es := shr1 (x := Mm 0 19) (p := x) (by omega)
  rw [es]
  unfold f_X4_readOnce
  by_cases cb : Bt (Mm 0 19) x = true
  · have hf : FLT 3 Mc Mm (up (up Mc 1 4 3) 1 5 (Mm 0 23)) (up (up Mm 0 26 3) 0 27 (Mm 0 23)) := ⟨by omega, rfl, rfl⟩
    have hl := LW.flt (u := u) (L := L) g4 hf
    have hq : FQa (up (up Mm 0 26 3) 0 27 (Mm 0 23)) := by unfold FQa; constructor <;> simp (disch := omega) only [w32_id, q_gf_e, q_gr_e, q_pf_e, q_pz_e, q_let_e, q_call_e, q_calp_e, q_al_ok, q_as_ok, q_nz_ok, up_same, up_nei, up_ne1, Int.toNat_natCast, reduceIte, Int.reduceEq, Int.reduceLT, Int.reduceLE, Int.reduceNeg, not_true_eq_false, not_false_eq_true]
    rw [if_pos cb, if_neg (show ¬ ¬ w32 1 = w32 1 from fun h => h rfl), wrongM g5, q_call_e, q_J70 hq, q_gf_e, if_neg (by rw [ea, eb, cb]; decide), refuseC g4, q_call_e, q_bit_e (.inl rfl), q_call_e, j101_0]
    exact ⟨0, _, _, rfl, rfl, hl⟩
  · rw [if_neg cb, if_pos (show ¬ w32 0 = w32 1 by decide), q_gf_e, if_pos (by rw [ea, eb]; simpa using cb), q_gf_e, q_pf_e]
    unfold f_X10_line_J70
    rw [q_gf_e, g5, if_pos (show w32 0 = 0 by decide), q_gf_e, q_pf_e]
    have hm := hh.mark (x := x) (by omega)
    obtain ⟨Pc, hPc⟩ : ∃ P, P = up Mc 1 3 (q_or (Mc 1 3) (q_shl 1 x)) := ⟨_, rfl⟩
    obtain ⟨Pm, hPm⟩ : ∃ P, P = up Mm 0 19 (q_or (Mm 0 19) (q_shl 1 x)) := ⟨_, rfl⟩
    rw [← hPc, ← hPm] at hm ⊢
    have fc1 : fcL u Mc Pc := fun n i a b c d e f g k => by rw [hPc, up_ne (by omega)]
    have fm1 : fmL Mm Pm := fun n i a b c d e f g => by rw [hPm, up_ne (by omega)]
    have e20 : Pm 0 20 = Mm 0 20 := by rw [hPm, up_nei (by omega)]
    have e22 : Pm 0 22 = Mm 0 22 := by rw [hPm, up_nei (by omega)]
    obtain ⟨Qc, Qm, p1, p2, p3, p4⟩ := NXT.of hm.2.2.1
    have hq := hm.nxt p3
    rw [p1, p2, q_call_e, q_call_e]
    have pre : ∀ r Mc' Mm', LW u L Qc Qm r Mc' Mm' → LW u L Mc Mm r Mc' Mm' := fun r Mc' Mm' hl => hl.pre (fc1.trans p3.1.fcL) (fm1.trans p3.2.1.fmL) (by rw [p3.2.1 0 20 (by omega), e20]) (by have := p3.2.2.2.2; omega)
    obtain ⟨k1, k2, k3, k4, k5, k6, k7, k8, k9, k10⟩ := id hq
    obtain ⟨t1, t2, t3, t4⟩ := k4.2.2.num
    obtain ⟨hi, hhi⟩ : ∃ hi, hi = hiO x := ⟨_, rfl⟩
    have hhr : 0 ≤ hi ∧ hi ≤ 99999 ∧ ((x = 3 ∧ hi ≤ 8) ∨ (x = 4 ∧ hi ≤ 100) ∨ (x = 5 ∧ hi ≤ 99999)) := by
      rw [hhi]; unfold hiO; rcases hx with rfl | rfl | rfl <;> simp
    have eC : (q_gf Qc 10 4 fun v6 => if w32 v6 = w32 21 then (if ¬ w32 x = w32 3 then (if ¬ w32 x = w32 4 then (f_X4_readOnce_J76 x 99999 Qc) else (f_X4_readOnce_J76 x 100 Qc)) else (f_X4_readOnce_J76 x 8 Qc)) else (q_call (f_X4_refuse 1 Qc) fun r7 M8 => q_bit r7 (some (r7, M8)))) = if Qc 10 4 = 21 then f_X4_readOnce_J76 x hi Qc else some (0, up (up Qc 1 4 1) 1 5 (Qm 0 23)) := by
      rw [q_gf_e, w32_id (x := Qc 10 4) (by omega), w32_id (x := 21) (by omega), refuseC k4, q_call_e, q_bit_e (.inl rfl), hhi]
      rcases hx with rfl | rfl | rfl <;> rfl
    rw [eC]
    have eJ : Qm 0 24 = 2 → f_X4_readOnce_J76 x hi Qc = if Qc 10 6 ≤ hi then (q_call (f_X7_advance (up Qc u (10 + x) (Qc 10 6))) fun r1 M2 => some (1, M2)) else some (0, up (up Qc 1 4 2) 1 5 (Qm 0 23)) := fun c => by
      obtain ⟨u1, u2⟩ := t2 c
      have eg : (Qc 1 2).toNat = u := by omega
      unfold f_X4_readOnce_J76 f_X4_readOnce_J168
      rw [refuseC k4, q_call_e, q_bit_e (.inl rfl)]
      simp only [q_gf_e, q_gr_e, q_pf_e, eg]
      rw [w32_id (x := Qc 10 6) (by omega), w32_id (x := hi) (by omega)]
      rcases hx with rfl | rfl | rfl <;> rfl
    have key : ∃ r Mc' Mm', (q_call (if Qc 10 4 = 21 then f_X4_readOnce_J76 x hi Qc else some (0, up (up Qc 1 4 1) 1 5 (Qm 0 23))) fun r2 M3 => f_X4_readLine_J101 r2 M3) = some (r, Mc') ∧ (q_call (f_X10_numeral 0 hi Qm) fun r M => q_call (f_X10_reads x r M) fun _ M8 => f_X10_line_J367 M8) = some (0, Mm') ∧ LW u L Mc Mm r Mc' Mm' := by
      have rd : ∀ (v : Int) (M : Mem), f_X10_reads x v M = some (0, up M 35 (7 + x) v) := fun v M => by
        unfold f_X10_reads
        rw [q_as_ok (by omega)]
      have fq : ∀ f : Int, 1 ≤ f → f ≤ 5 → ∀ v, FQa (up (up (up Qm 0 26 f) 0 27 (Qm 0 23)) 35 (7 + x) v) := fun f a b v => by
        unfold FQa
        rw [up_ne1 (by omega), up_nei (by omega), up_same]
        exact ⟨a, b⟩
      have lf : ∀ f : Int, 1 ≤ f → f ≤ 5 → ∀ v, LW u L Mc Mm 0 (up (up Qc 1 4 f) 1 5 (Qm 0 23)) (up (up (up Qm 0 26 f) 0 27 (Qm 0 23)) 35 (7 + x) v) := fun f a b v => (pre _ _ _ (LW.flt (f := f) (u := u) (L := L) k4 ⟨⟨a, b⟩, rfl, rfl⟩)).more (fun n i q1 q2 q3 q4 q5 q6 q7 => up_ne (by omega)) (up_ne1 (by omega))
      have e26 : ∀ f : Int, (up (up Qm 0 26 f) 0 27 (Qm 0 23)) 0 26 = f := fun f => by rw [up_nei (by omega), up_same]
      unfold f_X10_numeral f_X10_numeral_J41 f_X10_numeral_J46
      rw [q_gf_e, k5, if_pos (show w32 0 = 0 by decide), q_gf_e, w32_id (x := Qm 0 24) (by omega), w32_id (x := 2) (by omega), wrongM k5, wrongM k5, q_call_e, q_call_e]
      simp only [q_gf_e, e26, k5]
      rw [if_neg (show ¬ w32 1 = 0 by decide), if_neg (show ¬ w32 2 = 0 by decide)]
      by_cases c : Qm 0 24 = 2
      · obtain ⟨u1, u2⟩ := t2 c
        rw [if_pos (t1.mpr c), eJ c, if_pos c, w32_id (x := Qm 0 25) (by omega), w32_id (x := 0) (by omega), if_neg (show ¬ Qm 0 25 < 0 by omega), w32_id (x := hi) (by omega)]
        by_cases c2 : Qm 0 25 ≤ hi
        · have ew : Qc 10 6 = Qm 0 25 := by omega
          obtain ⟨Rc, Rm, o1, o2, o3, o4⟩ := NXT.of (k3.up (n := u) (i := 10 + x) (v := Qm 0 25) (by omega))
          rw [if_pos c2, if_pos (show Qc 10 6 ≤ hi by omega), ew, o1, q_call_e, q_call_e, if_pos rfl, o2, q_call_e, q_call_e, rd, q_call_e]
          have hr2 := (hq.once (x := x) (v := Qm 0 25) (by omega) (by omega)).nxt (o3.upM (n := 35) (i := 7 + x) (v := Qm 0 25) (by omega))
          obtain ⟨r, Mc', Mm', z1, z2, z3⟩ := semiW hr2
          refine ⟨r, Mc', Mm', z1, z2, pre _ _ _ (z3.pre (fcL.trans (fun n i a b c d e f g k => up_ne (by omega)) o3.1.fcL) (o3.2.1.fmL.trans (fun n i q1 q2 q3 q4 q5 q6 q7 => up_ne (by omega))) ?_ ?_)⟩
          · rw [up_ne1 (by omega), o3.2.1 0 20 (by omega)]
          · rw [up_ne1 (by omega)]; exact o3.2.2.2.2
        · rw [if_neg c2, if_neg (show ¬ Qc 10 6 ≤ hi by omega), q_call_e, j101_0, q_call_e, rd, q_call_e, q_J367 (fq 2 (by omega) (by omega) 0)]
          exact ⟨0, _, _, rfl, rfl, lf 2 (by omega) (by omega) 0⟩
      · rw [if_neg (fun h => c (t1.mp h)), if_neg c, q_call_e, j101_0, q_call_e, rd, q_call_e, q_J367 (fq 1 (by omega) (by omega) 0)]
        exact ⟨0, _, _, rfl, rfl, lf 1 (by omega) (by omega) 0⟩
    obtain ⟨r, Mc', Mm', z1, z2, z3⟩ := key
    refine ⟨r, Mc', Mm', z1, ?_, z3⟩
    rw [hhi] at z2
    rcases hx with rfl | rfl | rfl <;> exact z2
