/-! the law: a sign of both sides, a knot put by the reference -/
set_option maxHeartbeats 1000000 in
theorem opW {u : Nat} {L a s D lo l i : Int} {Mc Mm : Mem} (h : SS u L a s D lo i Mc Mm) (hl : lvl (Mc 10 4) = l) (h1 : 1 ≤ l ∧ l ≤ lo) (h12 : Mc 10 4 ≠ 12) (tl : TL s l Mc) (hc : l = 4 → Mc 388 (Mm 0 30) = 0) : ∃ Mm1 Mm2, f_X10_knot Mm = some (0, Mm1) ∧ f_X10_goOn Mm1 = some (0, Mm2) ∧ ((Mm 0 31 < 64 ∧ ∃ Mc', CR u i Mc (i + 1) Mc' ∧ VS u L a (s + 1) D (i + 1) Mc' Mm2 ∧ Mc' 385 s = Mc 10 4 ∧ Mm2 0 30 = Mm 0 30 ∧ Mm2 0 31 = Mm 0 31 + 1 ∧ feC u a s (Mm 0 30 + dF l) Mc Mc' ∧ feM a Mm Mm2 ∧ Mc' 11 6 = yF (Mc 10 4) ∧ Mc' 388 (Mm 0 30) = cF l (Mc 388 (Mm 0 30))) ∨ FX u a i Mc Mm Mm2) := by
  have hh := h
  obtain ⟨hx, hlk, h5⟩ := h
  obtain ⟨x0, x1, x2, x3, x4, x5, x6, x7, x8⟩ := id hx
  obtain ⟨t1, t2, t3, t4⟩ := x2.2.2.num
  have h24 : Mc 10 4 ≠ 24 := fun z => by
    have e : lvl 24 = 0 := by decide
    rw [z, e] at hl
    omega
  have hne : ¬ (Mm 0 30 = 0 ∧ Mc 10 4 = 22) := fun z => by
    have e : lvl 22 = 0 := by decide
    rw [z.2, e] at hl
    omega
  have hnend : Mm 0 24 ≠ 4 := fun z => by
    have e := x2.2.2.word.2.2.mpr z
    have e2 : lvl 35 = 0 := by decide
    rw [e, e2] at hl
    omega
  rw [knotM x3 x5.2]
  by_cases c : Mm 0 31 = 64
  · rw [if_pos c]
    have hq := flt_FQa (f := 2) (by omega) Mm
    refine ⟨_, _, rfl, q_goOn hq, .inr (FX.here hx (by omega) (Mc' := Mc) (fun n => ?_) rfl (feC.refl _))⟩
    rw [stS hx h5 hne n]
    have lr := lvl_rng (Mc 10 4)
    rw [hl] at lr
    have j99 : ∀ x4 : Int, f_X1_takeSign_J99 (u + 10) (Mc 10 4) l x4 Mc = some (2, Mc) := by
      intro x4
      unfold f_X1_takeSign_J99
      rw [knotC (by omega), if_pos (by omega), q_call_e, if_neg (show ¬ ¬ w32 0 = 0 by decide)]
    unfold f_X1_takeSign f_X1_takeSign_J49 f_X1_takeSign_J68
    rw [q_gf_e, w32_id (x := Mc 10 4) (by omega), w32_id (x := 24) (by omega), if_pos h24, lvlC (by omega), q_calp_e, lvlC (t := 29) (by omega), q_calp_e, hl, show lvl 29 = 4 by decide, w32_id (x := l) (by omega), w32_id (x := 4) (by omega), w32_id (x := 12) (by omega)]
    by_cases c4 : l = 4
    · rw [if_neg (fun z => z c4), if_neg (by omega), if_neg h12, if_neg (show ¬ w32 1 = 0 by decide), q_gf_e, x4.1, q_al_ok (by omega), hc c4, if_pos (show w32 0 = 0 by decide), j99, q_call_e, j90_r (by omega)]
    · rw [if_pos c4, if_neg (by omega), if_neg h12, if_pos (show w32 0 = 0 by decide), j99, q_call_e, j90_r (by omega)]
  · rw [if_neg c]
    obtain ⟨M4, N, s1, s2, s3, s4, s5, s6, s7, s8, s9, s10⟩ := takeSC hh hl h1 h12 tl hc (by omega)
    obtain ⟨O, hO⟩ : ∃ O, O = up Mm 0 31 (Mm 0 31 + 1) := ⟨_, rfl⟩
    rw [← hO]
    have o31 : O 0 31 = Mm 0 31 + 1 := by rw [hO, up_same]
    have o0 : ∀ j, j ≠ 31 → O 0 j = Mm 0 j := fun j hj => by rw [hO, up_nei hj]
    have oc : ∀ n, n ≠ 0 → O n = Mm n := fun n hn => by rw [hO, up_ne1 hn]
    have n0 : ∀ n : Nat, n ≠ 11 → n ≠ u + 10 → n ≠ 385 → n ≠ 388 → n ≠ 32 * (u + 11) → n ≠ 32 * (u + 11) + 1 → N n = Mc n := fun n a1 a2 a3 a4 a5 a6 => by
      funext j
      rw [s5 n j (by omega) (by omega) (by omega), s4 n j (by omega) (by omega) (by omega), up_ne1 a2]
    have k6 : N (u + 10) 6 = Mm 0 31 + 1 := by
      rw [s5 _ _ (by omega) (by omega) (by omega), s4 _ _ (by omega) (by omega) (by omega), up_same, x5.1]
    have k5 : N (u + 10) 5 = Mm 35 13 := by
      rw [s5 _ _ (by omega) (by omega) (by omega), s3]
    have k3 : N 11 3 = Mm 0 30 := by
      rw [s5 _ _ (by omega) (by omega) (by omega), s4 _ _ (by omega) (by omega) (by omega), up_ne1 (by omega), x4.1]
    have hxN : LX u L i N O := by
      refine hx.chg (n0 10 (by omega) (by omega) (by omega) (by omega) (by omega) (by omega)) (n0 32 (by omega) (by omega) (by omega) (by omega) (by omega) (by omega)) (n0 352 (by omega) (by omega) (by omega) (by omega) (by omega) (by omega)) (oc 33 (by omega)) (fun j p1 p2 => o0 j (by omega)) ?_ ?_ ?_ ?_
      · rw [k3, o0 30 (by omega)]; exact ⟨rfl, x4.2⟩
      · rw [k6, o31]; omega
      · rw [s8]; unfold yF; split <;> simp
      · rw [o0 30 (by omega), s10]; unfold cF
        split
        · simp
        · split
          · simp
          · exact x8
    have hlN : LK u a (s + 1) D 0 N O := by
      obtain ⟨b1, b2, b3, b4, b5, b6, b7, b8⟩ := s2
      have hb5 := hlk.2.2.2.2.1
      have hb4 := hlk.2.2.2.1
      refine ⟨by omega, by rw [oc 35 (by omega)]; omega, by rw [oc 35 (by omega)]; omega, by rw [o0 30 (by omega)]; omega, by rw [oc 35 (by omega), o0 30 (by omega), o31]; omega, ?_, ?_, ?_⟩
      · intro j p1 p2
        rw [s5 (32 * (u + 11)) j (by omega) (by omega) (by omega), s5 (32 * (u + 11) + 1) j (by omega) (by omega) (by omega), oc 49 (by omega), oc 50 (by omega)]
        exact b6 j p1 (by omega)
      · intro q p1 p2
        rw [oc 35 (by omega)] at p2
        omega
      · rw [oc 35 (by omega), oc 49 (by omega), oc 50 (by omega)]; exact b8
    have hnO : O 0 24 ≠ 4 := by rw [o0 24 (by omega)]; exact hnend
    obtain ⟨Mc', Mm', a1, a2, a3, a4, a5⟩ := hxN.adv hnO
    refine ⟨O, Mm', rfl, goOnM (by rw [o0 26 (by omega), x3]) a2, .inl ⟨by omega, Mc', CR.one (hxN.mon (n0 10 (by omega) (by omega) (by omega) (by omega) (by omega) (by omega)) a1) (fun n => ?_), ⟨a3, hlN.frm x0 a4 a5, ?_, ?_⟩, ?_, ?_, ?_, ?_, ?_, ?_, ?_⟩⟩
    · rw [stS hx h5 hne n, s1, q_call_e, j90_0, a1, q_call_e]
    · rw [a4.cell (by omega), k5, a5.cell (by omega), oc 35 (by omega)]
    · rw [a4.cell (by omega), s7]
    · rw [a4.cell (by omega), s9]
    · rw [a5 0 30 (by omega), o0 30 (by omega)]
    · rw [a5 0 31 (by omega), o31]
    · refine feC.trans ?_ a4.fe
      intro n j p1 p2 p3 p4 p5 p6
      have : ¬ (n = 388 ∧ j = Mm 0 30 ∧ (l = 4 ∨ l ≤ 2)) := by
        rintro ⟨q1, q2, q3⟩
        unfold dF at p4
        rw [if_pos q3] at p4
        omega
      rw [s5 n j (by omega) (by omega) this, s4 n j (by omega) (by omega) p6, up_ne (by omega)]
    · exact feM.trans (fun n j p1 p2 p3 => by rw [hO, up_ne (by omega)]) a5.fe
    · rw [a4.cell (by omega), s8]
    · rw [a4.cell (by omega), s10]
theorem putsM {t v : Int} {Mm : Mem} (h26 : Mm 0 26 = 0) (h : 0 ≤ Mm 35 13 ∧ Mm 35 13 < 64) : f_X10_puts t v Mm = some (0, up (up (up Mm 49 (64 + Mm 35 13) t) 50 (64 + Mm 35 13) v) 35 13 (Mm 35 13 + 1)) := by
  unfold f_X10_puts
  rw [q_gf_e, h26, if_pos (show w32 0 = 0 by decide), fresherM (by omega), q_calp_e, show (7 : Int) + 6 = 13 by rfl, q_as_ok (by omega), fresherM (by omega), q_calp_e, up_ne1 (n' := 35) (by omega), show (7 : Int) + 6 = 13 by rfl, q_as_ok (by omega), fresherM (by omega), q_calp_e, up_ne1 (n' := 35) (by omega), up_ne1 (n' := 35) (by omega), show (7 : Int) + 6 = 13 by rfl, readsM (by omega), q_call_e]
  rfl
/-- the reference puts a sign whose fellow waits in the program's stack -/
theorem putW {u : Nat} {L a s D lo lo' i v : Int} {Mc Mm : Mem} (h : SS u L a (s + 1) D lo' i Mc Mm) (ht : (Mc 385 s, v) ∈ TKS) (hlo : lo ≤ lo' ∧ lo ≤ lvl (Mc 385 s)) (hd : (if v = 260 then 1 else 2) ≤ D) (hs : Mm 0 30 ≤ s) : ∃ Mm', f_X10_puts 2 v Mm = some (0, Mm') ∧ SS u L a s (if v = 260 then D else D - 1) lo i Mc Mm' ∧ Mm' 0 = Mm 0 ∧ feM a Mm Mm' := by
  obtain ⟨hx, hlk, h5⟩ := h
  obtain ⟨x0, x1, x2, x3, x4, x5, x6, x7, x8⟩ := id hx
  obtain ⟨b1, b2, b3, b4, b5, b6, b7, b8⟩ := hlk
  rw [putsM x3 (by omega)]
  obtain ⟨O, hO⟩ : ∃ O, O = up (up (up Mm 49 (64 + Mm 35 13) 2) 50 (64 + Mm 35 13) v) 35 13 (Mm 35 13 + 1) := ⟨_, rfl⟩
  rw [← hO]
  have o0 : O 0 = Mm 0 := by rw [hO, up_ne1 (by omega), up_ne1 (by omega), up_ne1 (by omega)]
  have o33 : O 33 = Mm 33 := by rw [hO, up_ne1 (by omega), up_ne1 (by omega), up_ne1 (by omega)]
  have o35 : O 35 13 = Mm 35 13 + 1 := by rw [hO, up_same]
  have o49 : ∀ j, O 49 j = if j = 64 + Mm 35 13 then 2 else Mm 49 j := fun j => by
    rw [hO, up_ne1 (by omega), up_ne1 (by omega)]
    split
    · next z => rw [z, up_same]
    · next z => rw [up_nei z]
  have o50 : ∀ j, O 50 j = if j = 64 + Mm 35 13 then v else Mm 50 j := fun j => by
    rw [hO, up_ne1 (by omega)]
    split
    · next z => rw [z, up_same]
    · next z => rw [up_nei z, up_ne1 (by omega)]
  refine ⟨O, rfl, ⟨?_, ?_, h5⟩, o0, ?_⟩
  · exact hx.chg rfl rfl rfl o33 (fun j _ _ => by rw [o0]) (by rw [o0]; exact x4) (by rw [o0]; exact x5) x7 (by rw [o0]; exact x8)
  · refine ⟨b1, by rw [o35]; omega, by rw [o35]; omega, by rw [o0]; omega, by rw [o35, o0]; omega, ?_, ?_, ?_⟩
    · intro j p1 p2
      rw [o49, o50, if_neg (by omega), if_neg (by omega)]
      exact b6 j p1 p2
    · intro q p1 p2
      rw [o35] at p2
      rw [o49, o50]
      by_cases c : q = Mm 35 13 - Mc (u + 10) 5
      · have e : Mc 11 2 - 1 - q = s := by omega
        rw [e, if_pos (by omega), if_pos (by omega)]
        exact ⟨rfl, ht, hlo.2⟩
      · rw [if_neg (by omega), if_neg (by omega)]
        have := b7 q p1 (by omega)
        exact ⟨this.1, this.2.1, by have := this.2.2; omega⟩
    · rw [o35]
      have := b8.add (R' := fun j => O 49 (64 + j)) (V' := fun j => O 50 (64 + j)) (t := 2) (v := v) (by omega) (fun j p1 p2 => ⟨by show O 49 (64 + j) = _; rw [o49, if_neg (by omega)], by show O 50 (64 + j) = _; rw [o50, if_neg (by omega)]⟩) (by show O 49 _ = _; rw [o49, if_pos rfl]) (by show O 50 _ = _; rw [o50, if_pos rfl]) (fun _ => hd)
      rw [if_pos rfl] at this
      have e : (D + if v = 260 then 0 else -1) = if v = 260 then D else D - 1 := by split <;> omega
      rw [e] at this
      exact this
  · intro n j p1 p2 p3
    rw [hO, up_ne (by omega), up_ne (by omega), up_ne (by omega)]
