theorem q_and_comm (x y : Int) : q_and x y = q_and y x := by
  unfold q_and
  rw [Int32.and_comm]
/-- does one let others go first -/
theorem letM {t : Nat} {s : Int} {Mc Mm : Mem} (hT : TR t Mc Mm) (h47 : 0 ≤ Mm 0 47 ∧ Mm 0 47 ≤ 5) (hs : 0 ≤ s ∧ s < Mm 35 0) : f_X10_doesLet s Mm = some (if Mm 0 47 = 1 then 0 else if w32 (q_and (Mc (32 * (t + 1) + 5) s) (Mm 0 51)) = 0 then 0 else 1) := by
  have hS := hT.2.1
  have hL := hT.2.2.2.2.2.2.2.2.1
  have hP := (hT.2.2.2.2.2.2.2.1 s hs.1 hs.2).2.2.2.2
  have hz : w32 (q_and (Mc (32 * (t + 1) + 5) s) (Mm 0 51)) = 0 ↔ ∀ j, 0 ≤ j → j < Mm 35 2 → Mm 45 j = s → Bt (Mm 0 51) (Mm 46 j) = false := by
    rw [hP, orT_and]
    constructor
    · intro h j a b c
      have := h j a (by omega)
      rw [if_pos c, q_and_comm, and1 (by have := hL.2.2 j a b; omega)] at this
      exact this
    · intro h j a b
      by_cases c : Mm 45 j = s
      · rw [if_pos c, q_and_comm, and1 (by have := hL.2.2 j a (by omega); omega)]
        exact h j a (by omega) c
      · rw [if_neg c, and0]
        intro p _ _
        rw [Bt_0]; rfl
  have hw : wpo (f_X10_doesLet s Mm) (fun r => (r = 1 ∧ Mm 0 47 ≠ 1 ∧ ∃ j, 0 ≤ j ∧ j < Mm 35 2 ∧ Mm 45 j = s ∧ Bt (Mm 0 51) (Mm 46 j) = true) ∨ (r = 0 ∧ (Mm 0 47 = 1 ∨ ∀ j, 0 ≤ j → j < Mm 35 2 → Mm 45 j = s → Bt (Mm 0 51) (Mm 46 j) = false))) := by
    unfold f_X10_doesLet f_X10_doesLet_L2
    refine qlp1_N (fun x => 0 ≤ x ∧ x ≤ Mm 35 2 ∧ ∀ j, 0 ≤ j → j < x → Mm 45 j = s → Bt (Mm 0 51) (Mm 46 j) = false) (fun x => (Mm 35 2 - x).toNat) _ ⟨by omega, by omega, fun j a b => by omega⟩ (by omega) ?_
    intro x g ⟨i1, i2, i3⟩ ih
    unfold f_X10_doesLet_B2
    simp (disch := omega) only [w32_id, q_gf_e, q_gr_e, q_pf_e, q_pz_e, q_let_e, q_call_e, q_calp_e, q_al_ok, q_as_ok, q_nz_ok, up_same, up_nei, up_ne1, Int.toNat_natCast, reduceIte, Int.reduceEq, Int.reduceLT, Int.reduceLE, Int.reduceNeg, not_true_eq_false, not_false_eq_true]
    refine wpo_ite (fun c => wpo_some.mpr (.inr ⟨rfl, .inr (fun j a b => i3 j a (by omega))⟩)) (fun c => ?_)
    refine wpo_ite (fun c => wpo_some.mpr (.inr ⟨rfl, .inl c⟩)) (fun c1 => ?_)
    have hx := hL.2.2 x i1 (by omega)
    (try simp (disch := omega) only [w32_id, q_gf_e, q_gr_e, q_pf_e, q_pz_e, q_let_e, q_call_e, q_calp_e, q_al_ok, q_as_ok, q_nz_ok, up_same, up_nei, up_ne1, Int.toNat_natCast, reduceIte, Int.reduceEq, Int.reduceLT, Int.reduceLE, Int.reduceNeg, not_true_eq_false, not_false_eq_true])
    rw [shr1 (by omega)]
    refine wpo_ite (fun c' => ih _ ⟨by omega, by omega, fun j a b e => ?_⟩ (by omega)) (fun c' => ?_)
    · by_cases cj : j = x
      · subst cj; exact absurd e c'
      · exact i3 j a (by omega) e
    · by_cases cb : Bt (Mm 0 51) (Mm 46 x) = true
      · rw [if_pos cb, if_neg (by simp; decide)]
        exact wpo_some.mpr (.inl ⟨rfl, c1, x, i1, by omega, by simpa using c', cb⟩)
      · rw [if_neg cb, if_pos (by decide)]
        refine ih _ ⟨by omega, by omega, fun j a b e => ?_⟩ (by omega)
        by_cases cj : j = x
        · subst cj; simpa using cb
        · exact i3 j a (by omega) e
  obtain ⟨v, e, hv⟩ := hw
  rw [e]
  congr 1
  rcases hv with ⟨rfl, h1, j, j1, j2, j3, j4⟩ | ⟨rfl, h1 | h1⟩
  · rw [if_neg h1, if_neg]
    intro h
    have := hz.mp h j j1 j2 j3
    rw [j4] at this
    exact absurd this (by decide)
  · rw [if_pos h1]
  · rw [if_pos (hz.mpr h1)]
    split <;> rfl
/-- who gets on next -/
def HT (q x : Int) (Mc Mm : Mem) : Prop := ∀ i, 0 ≤ i → i < Mm 69 q → Bt x (Mm 70 (8 * q + i)) = true → Mc 263 (Mm 70 (8 * q + i)) = Mm 82 (Mm 70 (8 * q + i)) ∧ -9999 ≤ Mm 82 (Mm 70 (8 * q + i)) ∧ Mm 82 (Mm 70 (8 * q + i)) ≤ 9999
set_option maxHeartbeats 2000000 in
theorem firstW {t k : Nat} {q r b x : Int} {Mc Mm : Mem} (h : MR t k q r b Mc Mm) (hx : x = Mm 0 51) (hT : HT q x Mc Mm) : W2 (f_X3_firstToBoard x Mc) (f_X10_nextOn q Mm) some some (fun p s => (p = -1 ∧ s = -1) ∨ (0 ≤ p ∧ p < Mm 69 q ∧ Mm 70 (8 * q + p) = s ∧ Bt x s = true)) := by
  obtain ⟨r1, r2, r3, r4, r5, r6⟩ := h.rng
  obtain ⟨e1, e2, e3, e4, e5⟩ := h.raw
  have hS := h.1.2.1
  have hq := h.2.1
  have ht := h.1.1
  obtain ⟨h70, h71⟩ := h.2.2.1
  obtain ⟨-, ⟨o1, o2⟩, -⟩ := h.2.2.2.1
  unfold f_X3_firstToBoard f_X10_nextOn f_X3_firstToBoard_L7 f_X10_nextOn_L4
  refine lock (fun n (s : Int × Int × Int) => qlp3 (fun x2 x3 x4 g7 => f_X3_firstToBoard_B7 x Mc x2 x3 x4 g7) n s.1 s.2.1 s.2.2) (fun n (s : Int × Int) => qlp2 (fun x2 x3 g4 => f_X10_nextOn_B4 q Mm x2 x3 g4) n s.1 s.2) _ _ _ (fun s u => s.2.2 = u.2 ∧ 0 ≤ u.2 ∧ u.2 ≤ Mm 69 q ∧ ((s.1 = -1 ∧ u.1 = -1) ∨ (0 ≤ s.1 ∧ s.1 < u.2 ∧ Mm 70 (8 * q + s.1) = u.1 ∧ Bt x u.1 = true ∧ s.2.1 = Mm 82 u.1))) (fun s u => (Mm 69 q - u.2).toNat) ?_ q_N q_N (-1, 0, 0) (-1, 0) ⟨rfl, by omega, r3.1, .inl ⟨rfl, rfl⟩⟩ (q_N_lt (by show (Mm 69 q - 0).toNat < 100000; omega)) (q_N_lt (by show (Mm 69 q - 0).toNat < 100000; omega))
  intro n n' ⟨x2, x3, x4⟩ ⟨y2, y⟩ ⟨i1, i2, i3, i4⟩ ih
  simp only at i1 i2 i3 i4 ih
  subst i1
  show W2 (f_X3_firstToBoard_B7 x Mc x2 x3 x4 (qlp3 (fun x2 x3 x4 g7 => f_X3_firstToBoard_B7 x Mc x2 x3 x4 g7) n)) (f_X10_nextOn_B4 q Mm y2 x4 (qlp2 (fun x2 x3 g4 => f_X10_nextOn_B4 q Mm x2 x3 g4) n')) _ _ _
  generalize hGc : qlp3 (fun x2 x3 x4 g7 => f_X3_firstToBoard_B7 x Mc x2 x3 x4 g7) n = Gc at ih ⊢
  generalize hGm : qlp2 (fun x2 x3 g4 => f_X10_nextOn_B4 q Mm x2 x3 g4) n' = Gm at ih ⊢
  unfold f_X3_firstToBoard_B7 f_X10_nextOn_B4 f_X3_firstToBoard_J58
  simp (disch := omega) only [w32_id, q_gf_e, q_gr_e, q_pf_e, q_pz_e, q_let_e, q_call_e, q_calp_e, q_al_ok, q_as_ok, q_nz_ok, up_same, up_nei, up_ne1, Int.toNat_natCast, reduceIte, Int.reduceEq, Int.reduceLT, Int.reduceLE, Int.reduceNeg, not_true_eq_false, not_false_eq_true, h70, h71, e3]
  by_cases c : Mm 69 q ≤ x4
  · rw [if_pos c, if_pos c]
    refine W2.ok x2 y2 rfl rfl ?_
    rcases i4 with i4 | ⟨j1, j2, j3, j4, -⟩
    · exact .inl i4
    · exact .inr ⟨j1, by omega, j3, j4⟩
  · rw [if_neg c, if_neg c]
    have hr := r4 x4 i2 (by omega)
    have er := e4 x4 i2 (by omega)
    have hTx := hT x4 i2 (by omega)
    generalize hs : Mm 70 (8 * q + x4) = s at *
    have hl := letM h.1 o2 ⟨hr.1, hr.2.1⟩
    have skip : W2 (Gc x2 x3 (x4 + 1)) (Gm y2 (x4 + 1)) some some (fun p s => (p = -1 ∧ s = -1) ∨ (0 ≤ p ∧ p < Mm 69 q ∧ Mm 70 (8 * q + p) = s ∧ Bt x s = true)) := by
      refine ih (x2, x3, x4 + 1) (y2, x4 + 1) ⟨rfl, by show 0 ≤ x4 + 1; omega, by show x4 + 1 ≤ Mm 69 q; omega, ?_⟩ (by show (Mm 69 q - (x4 + 1)).toNat < (Mm 69 q - x4).toNat; omega)
      rcases i4 with i4 | ⟨j1, j2, j3, j4, j5⟩
      · exact .inl i4
      · exact .inr ⟨j1, by show x2 < x4 + 1; omega, j3, j4, j5⟩
    simp (disch := omega) only [w32_id, q_gf_e, q_gr_e, q_pf_e, q_pz_e, q_let_e, q_call_e, q_calp_e, q_al_ok, q_as_ok, q_nz_ok, up_same, up_nei, up_ne1, Int.toNat_natCast, reduceIte, Int.reduceEq, Int.reduceLT, Int.reduceLE, Int.reduceNeg, not_true_eq_false, not_false_eq_true, er, hs, o1, ← hx]
    rw [shr1 (by omega)]
    by_cases cb : Bt x s = true
    · have hTx := hTx cb
      have c0 : ¬ w32 (q_and x (q_shl 1 s)) = 0 := fun e => by rw [(and1 (by omega)).mp e] at cb; exact absurd cb (by decide)
      rw [if_pos cb]
      have take : W2 (Gc x4 (Mc 263 s) (x4 + 1)) (Gm s (x4 + 1)) some some (fun p s => (p = -1 ∧ s = -1) ∨ (0 ≤ p ∧ p < Mm 69 q ∧ Mm 70 (8 * q + p) = s ∧ Bt x s = true)) := by
        refine ih (x4, Mc 263 s, x4 + 1) (s, x4 + 1) ⟨rfl, by show 0 ≤ x4 + 1; omega, by show x4 + 1 ≤ Mm 69 q; omega, .inr ⟨i2, by show x4 < x4 + 1; omega, hs, cb, hTx.1⟩⟩ (by show (Mm 69 q - (x4 + 1)).toNat < (Mm 69 q - x4).toNat; omega)
      have w1 : ¬ w32 1 = 0 := by decide
      have w0 : w32 0 = 0 := by decide
      rw [if_neg w1, hl]
      have main : W2 (f_X3_firstToBoard_J59 Gc x x2 x3 x4 s 0 Mc) (if w32 y2 = -1 then Gm s (x4 + 1) else q_al Mm 82 8 y2 fun v6 => if w32 v6 ≤ w32 (Mm 82 s) then Gm y2 (x4 + 1) else Gm s (x4 + 1)) some some (fun p s => (p = -1 ∧ s = -1) ∨ (0 ≤ p ∧ p < Mm 69 q ∧ Mm 70 (8 * q + p) = s ∧ Bt x s = true)) := by
        unfold f_X3_firstToBoard_J59 f_X3_firstToBoard_J91
        rw [if_neg c0, if_neg (by simp [w0])]
        rcases i4 with ⟨rfl, rfl⟩ | ⟨j1, j2, j3, j4, j5⟩
        · (try simp (disch := omega) only [w32_id, q_gf_e, q_gr_e, q_pf_e, q_pz_e, q_let_e, q_call_e, q_calp_e, q_al_ok, q_as_ok, q_nz_ok, up_same, up_nei, up_ne1, Int.toNat_natCast, reduceIte, Int.reduceEq, Int.reduceLT, Int.reduceLE, Int.reduceNeg, not_true_eq_false, not_false_eq_true])
          exact take
        · have hr2 := r4 x2 j1 (by omega)
          have hT2 := hT x2 j1 (by omega)
          rw [j3] at hT2 hr2
          have hT2 := hT2 j4
          simp (disch := omega) only [w32_id, q_gf_e, q_gr_e, q_pf_e, q_pz_e, q_let_e, q_call_e, q_calp_e, q_al_ok, q_as_ok, q_nz_ok, up_same, up_nei, up_ne1, Int.toNat_natCast, reduceIte, Int.reduceEq, Int.reduceLT, Int.reduceLE, Int.reduceNeg, not_true_eq_false, not_false_eq_true, hTx.1, j5]
          rw [if_neg (show ¬ x2 = -1 by omega), if_neg (show ¬ y2 = -1 by omega)]
          by_cases cc : Mm 82 y2 ≤ Mm 82 s
          · rw [if_pos cc, if_pos cc, ← j5]; exact skip
          · rw [if_neg cc, if_neg cc, ← hTx.1]; exact take
      by_cases c1 : Mm 0 47 = 1
      · rw [if_pos c1, if_pos c1, q_calp_e, if_pos w0]
        exact main
      · rw [if_neg c1, if_neg c1]
        by_cases c2 : w32 (q_and (Mc (32 * (t + 1) + 5) s) (Mm 0 51)) = 0
        · rw [if_pos c2, q_calp_e, if_pos w0]
          rw [hx, if_pos c2, ← hx]
          exact main
        · rw [if_neg c2, q_calp_e, if_neg w1]
          rw [hx, if_neg c2, ← hx]
          unfold f_X3_firstToBoard_J59
          rw [if_neg c0, if_pos w1]
          exact skip
    · have cf : Bt x s = false := by simpa using cb
      have c0 : w32 (q_and x (q_shl 1 s)) = 0 := (and1 (by omega)).mpr cf
      rw [if_neg cb, if_pos w32_0]
      have hJ : ∀ y, f_X3_firstToBoard_J59 Gc x x2 x3 x4 s y Mc = Gc x2 x3 (x4 + 1) := by
        intro y
        unfold f_X3_firstToBoard_J59
        rw [if_pos c0]
      simp only [hJ, ite_self]
      exact skip
