/-! the law: the primary -/
theorem q_J162 {F : Mem → Res} {x : Int} {M : Mem} (h : FQa M) : f_X10_primary_J162 F x M = some (0, M) := by
  have e : ∀ y z : Int, f_X10_primary_J194 F y z M = some (0, M) := fun y z => by
    unfold f_X10_primary_J194
    rw [q_puts h, q_call_e, q_goOn h, q_call_e]
  unfold f_X10_primary_J162 f_X10_primary_J176
  rw [q_knot h, q_call_e]
  simp only [q_gf_e, e, ite_self]
/-- the program finds a token that can't stand where a sign is wanted -/
theorem badSC {u : Nat} {L i : Int} {Mc Mm : Mem} (hx : LX u L i Mc Mm) (h24 : Mc 10 4 ≠ 24 ∨ Mm 0 30 = 0) (hb : lvl (Mc 10 4) = 0 ∨ Mc 10 4 = 12 ∨ (lvl (Mc 10 4) = 4 ∧ Mc 388 (Mm 0 30) = 1)) : f_X1_takeSign (u + 10) Mc = some (1, Mc) := by
  obtain ⟨x0, x1, x2, x3, x4, x5, x6, x7, x8⟩ := hx
  obtain ⟨t1, t2, t3, t4⟩ := x2.2.2.num
  have lr := lvl_rng (Mc 10 4)
  have j : f_X1_takeSign_J49 (u + 10) (Mc 10 4) Mc = some (1, Mc) := by
    unfold f_X1_takeSign_J49 f_X1_takeSign_J68
    rw [lvlC (by omega), q_calp_e, lvlC (t := 29) (by omega), q_calp_e, show lvl 29 = 4 by decide, w32_id (x := lvl _) (by omega), w32_id (x := 4) (by omega), w32_id (x := 12) (by omega), w32_id (x := Mc 10 4) (by omega)]
    rcases hb with hb | hb | ⟨hb, hb2⟩
    · rw [hb, if_pos (by omega), if_pos rfl]
    · rw [hb, show lvl 12 = 3 by decide, if_pos (by omega), if_neg (by omega), if_pos rfl]
    · rw [hb, if_neg (by omega), if_neg (by omega), if_neg (show ¬ w32 1 = 0 by decide), q_gf_e, x4.1, q_al_ok (by omega), hb2, if_neg (show ¬ w32 1 = 0 by decide)]
      simp only [ite_self]
  unfold f_X1_takeSign
  rw [q_gf_e, w32_id (x := Mc 10 4) (by omega), w32_id (x := 24) (by omega)]
  by_cases c : Mc 10 4 = 24
  · rw [if_neg (fun z => z c), q_gf_e, x4.1, w32_id (x := Mm 0 30) (by omega), if_pos (by omega), j]
  · rw [if_pos c, j]
theorem NTK.bad {Mc Mm : Mem} (h : NTK 1 Mc Mm) : lvl (Mc 10 4) = 0 ∨ Mc 10 4 = 12 ∨ (lvl (Mc 10 4) = 4 ∧ Mc 388 (Mm 0 30) = 1) := by
  unfold NTK at h
  have := lvl_rng (Mc 10 4)
  by_cases c : lvl (Mc 10 4) = 0
  · exact .inl c
  · by_cases c2 : Mc 10 4 = 12
    · exact .inr (.inl c2)
    · rcases h (by omega) c2 with q | q
      · omega
      · exact .inr (.inr q)
set_option maxHeartbeats 2000000 in
theorem valueW {u : Nat} {F : Mem → Res} {L a s D i : Int} {Mc Mm : Mem} (h : VS u L a s D i Mc Mm) (h23 : Mc 10 4 ≠ 23) (hp : PF false Mc Mm) : ∃ Mm', (q_gf Mm 0 24 fun v3 => if ¬ w32 v3 = w32 2 then f_X10_primary_J114 F 0 Mm else f_X10_primary_J114 F 1 Mm) = some (0, Mm') ∧ OUT u L a s D 7 7 1 i Mc Mm Mm' := by
  have hh := h
  have hst := stV h.1 h.2.2.2
  have hp2 := hp.2 rfl
  obtain ⟨hx, hlk, h5, h6⟩ := h
  obtain ⟨x0, x1, x2, x3, x4, x5, x6, x7, x8⟩ := id hx
  obtain ⟨t1, t2, t3, t4⟩ := x2.2.2.num
  obtain ⟨w1, w2, w3⟩ := x2.2.2.word
  have e26 : ∀ f : Int, 1 ≤ f ∧ f ≤ 5 → FQa (flt f Mm) := fun f hf => flt_FQa hf Mm
  have bad : ∀ f : Int, (1 ≤ f ∧ f ≤ 5) → f_X1_takeValue (u + 10) Mc = some (f, Mc) → OUT u L a s D 7 7 1 i Mc Mm (flt f Mm) := by
    intro f hf e
    refine .inr (FX.here hx hf (Mc' := Mc) (fun n => ?_) rfl (feC.refl _))
    rw [hst n, e, q_call_e, j90_r hf]
  have wr := fun f : Int => wrongF (f := f) x3
  have kn : f_X10_knot Mm = some (0, if Mm 0 31 = 64 then flt 2 Mm else up Mm 0 31 (Mm 0 31 + 1)) := knotM x3 x5.2
  have full : (Mc 10 4 = 21 ∧ Mc 10 6 ≤ 9999 ∧ 0 ≤ Mc 10 6) ∨ (13 ≤ Mc 10 4 ∧ Mc 10 4 ≤ 19) → Mm 0 31 = 64 → f_X1_takeValue (u + 10) Mc = some (2, Mc) := by
    intro q c
    have kc : f_X1_takeKnot (u + 10) Mc = some (0, Mc) := by rw [knotC (by omega), if_pos (by omega)]
    unfold f_X1_takeValue f_X1_takeValue_J50 f_X1_takeValue_J70 f_X1_takeValue_J89
    rw [q_gf_e, kc, q_call_e, if_neg (show ¬ ¬ w32 0 = 0 by decide), q_gf_e]
    rcases q with ⟨q1, q2, q3⟩ | ⟨q1, q2⟩
    · rw [q1, if_pos (show ¬ w32 21 = w32 23 by decide), if_pos (show ¬ w32 21 = w32 12 by decide), if_pos (show w32 21 = w32 21 from rfl)]
      simp only [ite_self]
    · rw [w32_id (x := Mc 10 4) (by omega), w32_id (x := 23) (by omega), w32_id (x := 12) (by omega), w32_id (x := 21) (by omega), w32_id (x := 13) (by omega), w32_id (x := 19) (by omega), if_pos (by omega), if_pos (by omega), if_neg (by omega), if_neg (by omega), if_pos (by omega), if_pos (by omega)]
  rw [q_gf_e, w32_id (x := Mm 0 24) (by omega), w32_id (x := 2) (by omega)]
  by_cases c : Mm 0 24 = 2
  · obtain ⟨u1, u2⟩ := t2 c
    have c' := t1.mpr c
    rw [if_neg (fun z => z c)]
    unfold f_X10_primary_J114 f_X10_primary_J137
    rw [if_neg (show ¬ w32 1 = 0 by decide), q_gf_e, w32_id (x := Mm 0 25) (by omega), w32_id (x := 9999) (by omega)]
    by_cases c2 : Mm 0 25 ≤ 9999
    · have ew : Mc 10 6 = Mm 0 25 := by omega
      rw [if_pos c2, if_pos (show ¬ w32 1 = 0 by decide)]
      by_cases ck : Mm 0 31 = 64
      · have e := full (.inl ⟨c', by omega, by omega⟩) ck
        have hq := e26 2 (by omega)
        unfold f_X10_primary_J162 f_X10_primary_J176 f_X10_primary_J194
        rw [kn, if_pos ck, q_call_e, if_neg (show ¬ w32 1 = 0 by decide), if_neg (show ¬ w32 1 = 0 by decide), q_gf_e, q_puts hq, q_call_e, q_goOn hq, q_call_e]
        exact ⟨_, rfl, bad 2 (by omega) e⟩
      · unfold f_X10_primary_J162 f_X10_primary_J176 f_X10_primary_J194
        rw [kn, if_neg ck, q_call_e, if_neg (show ¬ w32 1 = 0 by decide), if_neg (show ¬ w32 1 = 0 by decide), q_gf_e, up_nei (n := 0) (i := 31) (i' := 25) (by omega)]
        obtain ⟨Mm', z1, z2⟩ := valW (x := Mc 10 6) (t := 0) (v := Mm 0 25) hh (.inl ⟨c', by omega, by omega, rfl⟩) (by omega) (.inl ⟨rfl, c', ew, by omega, c2⟩) (by omega)
        exact ⟨Mm', z1, .inl z2⟩
    · have hq := e26 2 (by omega)
      rw [if_neg c2, wr, q_call_e, q_J162 hq]
      refine ⟨_, rfl, bad 2 (by omega) ?_⟩
      unfold f_X1_takeValue f_X1_takeValue_J50 f_X1_takeValue_J70
      rw [q_gf_e, c', if_pos (show ¬ w32 21 = w32 23 by decide), if_pos (show ¬ w32 21 = w32 12 by decide), if_pos (show w32 21 = w32 21 from rfl), if_neg (fun z => z rfl), q_gf_e, w32_id (x := 9999) (by omega), w32_id (x := Mc 10 6) (by omega), if_pos (by omega)]
  · have c' : ¬ Mc 10 4 = 21 := fun z => c (t1.mp z)
    have badv : (Mc 10 4 < 13 ∨ 19 < Mc 10 4) → f_X1_takeValue (u + 10) Mc = some (1, Mc) := by
      intro q
      have j50 : f_X1_takeValue_J50 (u + 10) (Mc 10 4) Mc = some (1, Mc) := by
        unfold f_X1_takeValue_J50
        rw [w32_id (x := Mc 10 4) (by omega), w32_id (x := 21) (by omega), w32_id (x := 13) (by omega), w32_id (x := 19) (by omega), if_neg c']
        rcases q with q | q
        · rw [if_pos q]
        · rw [if_neg (by omega), if_neg (by omega)]
      unfold f_X1_takeValue
      rw [q_gf_e, w32_id (x := Mc 10 4) (by omega), w32_id (x := 23) (by omega), w32_id (x := 12) (by omega), if_pos h23, j50]
      by_cases c12 : Mc 10 4 = 12
      · have : Mc 11 6 = 0 := by omega
        rw [if_neg (fun z => z c12), q_gf_e, this, if_pos (show w32 0 = 0 by decide)]
      · rw [if_pos c12]
    rw [if_pos c]
    unfold f_X10_primary_J114 f_X10_primary_J137
    rw [if_pos (show w32 0 = 0 by decide), if_neg (show ¬ ¬ w32 0 = 0 by decide), q_gf_e, w32_id (x := Mm 0 24) (by omega)]
    have hq := e26 1 (by omega)
    have j157 : f_X10_primary_J157 F 0 Mm = some (0, flt 1 Mm) := by
      unfold f_X10_primary_J157
      rw [wr, q_call_e, q_J162 hq]
    rw [j157]
    by_cases c0 : Mm 0 24 = 0
    · have hv := w2 c0
      rw [if_neg (fun z => z c0), q_gf_e, w32_id (x := 13) (by omega), w32_id (x := Mm 0 25) (by omega)]
      by_cases c13 : 13 ≤ Mm 0 25
      · rw [if_pos c13]
        by_cases ck : Mm 0 31 = 64
        · have e := full (.inr ⟨by omega, by omega⟩) ck
          have hq2 := e26 2 (by omega)
          unfold f_X10_primary_J162 f_X10_primary_J176 f_X10_primary_J194
          rw [kn, if_pos ck, q_call_e, if_pos (show w32 0 = 0 by decide), if_pos (show w32 0 = 0 by decide), q_gf_e, q_puts hq2, q_call_e, q_goOn hq2, q_call_e]
          exact ⟨_, rfl, bad 2 (by omega) e⟩
        · unfold f_X10_primary_J162 f_X10_primary_J176 f_X10_primary_J194
          rw [kn, if_neg ck, q_call_e, if_pos (show w32 0 = 0 by decide), if_pos (show w32 0 = 0 by decide), q_gf_e, up_nei (n := 0) (i := 31) (i' := 25) (by omega)]
          obtain ⟨Mm', z1, z2⟩ := valW (x := 0) (t := 1) (v := Mm 0 25 - 13) hh (.inr ⟨by omega, by omega, rfl⟩) (by omega) (.inr (.inl ⟨rfl, by omega, by omega, by omega⟩)) (by omega)
          exact ⟨Mm', z1, .inl z2⟩
      · rw [if_neg c13]
        exact ⟨_, rfl, bad 1 (by omega) (badv (.inl (by omega)))⟩
    · rw [if_pos c0]
      exact ⟨_, rfl, bad 1 (by omega) (badv (.inr (by omega)))⟩
