def U7 (M : Mem) (n : Nat) (a0 a1 a2 a3 a4 a5 a6 : Int) : Mem := up (up (up (up (up (up (up M n 0 a0) n 1 a1) n 2 a2) n 3 a3) n 4 a4) n 5 a5) n 6 a6
theorem U7.ne {M : Mem} {n n' : Nat} {a0 a1 a2 a3 a4 a5 a6 : Int} (h : n' ≠ n) : U7 M n a0 a1 a2 a3 a4 a5 a6 n' = M n' := by
  unfold U7
  simp only [up_ne1 h]
theorem U7.at {M M' : Mem} {n n' : Nat} {a0 a1 a2 a3 a4 a5 a6 : Int} (h0 : bd a0) (h1 : bd a1) (h2 : bd a2) (h3 : bd a3) (h4 : bd a4) (h5 : bd a5) (h6 : bd a6) (j : Int) (a : 0 ≤ j) (b : j < 7) : U7 M n a0 a1 a2 a3 a4 a5 a6 n j = U7 M' n' a0 a1 a2 a3 a4 a5 a6 n' j ∧ bd (U7 M' n' a0 a1 a2 a3 a4 a5 a6 n' j) := by
  have hj : j = 0 ∨ j = 1 ∨ j = 2 ∨ j = 3 ∨ j = 4 ∨ j = 5 ∨ j = 6 := by omega
  unfold U7
  rcases hj with rfl | rfl | rfl | rfl | rfl | rfl | rfl
  all_goals
    simp (disch := omega) only [up_same, up_nei]
    exact ⟨trivial, by assumption⟩
/-- the names of an E, looked up on both sides: place p, which the reference finds as r -/
theorem lookW {t k : Nat} {q r b s p fare pr : Int} {Mc Mm : Mem} (h : MR t k q r b Mc Mm) (hs : 0 ≤ s ∧ s < Mm 35 0) (hp : f_X10_placeOf q s Mm = some pr) (hpr : (pr = p ∧ 0 ≤ p ∧ p ≤ 9) ∨ (pr = -1 ∧ p = 9)) (hf : 0 ≤ fare ∧ fare ≤ 99) : ∃ Mc' Mm', f_X3_look s p fare Mc = some (0, Mc') ∧ f_X10_calls q s fare Mm = some (0, Mm') ∧ (∀ n, n ≠ 262 → Mc' n = Mc n) ∧ (∀ n, n ≠ 64 → Mm' n = Mm n) ∧ ∀ j, 0 ≤ j → j < 7 → Mc' 262 j = Mm' 64 j ∧ bd (Mm' 64 j) := by
  obtain ⟨r1, r2, r3, r4, r5, r6⟩ := h.rng
  obtain ⟨e1, e2, e3, e4, e5⟩ := h.raw
  obtain ⟨hT, hq, ⟨h70, h71⟩, -⟩ := h
  obtain ⟨ht, hS, -, -, -, -, -, hP, -⟩ := hT
  obtain ⟨-, ⟨d1, d2⟩, ⟨k1, k2⟩, -⟩ := hP s hs.1 hs.2
  obtain ⟨-, c1, w1, -⟩ := r6 s hs.1 hs.2
  obtain ⟨-, c2, w2, -⟩ := e5 s hs.1 hs.2
  have n1 : (32 * (t + 1) + 3 : Nat) ≠ 262 := by omega
  have n2 : (32 * (k + 1) + 3 : Nat) ≠ 262 := by omega
  have n3 : (32 * (k + 1) + 4 : Nat) ≠ 262 := by omega
  have n4 : (32 * (t + 1) + 2 : Nat) ≠ 262 := by omega
  have n5 : k ≠ 262 := by omega
  have b1 : ∀ x : Int, -20000 ≤ x → x ≤ 20000 → bd x := fun x a b => by unfold bd; omega
  refine ⟨U7 Mc 262 (Mm 38 s) (Mm 72 (8 * q + s)) (Mm 73 (8 * q + s)) (Mm 67 q - Mm 37 s) fare p (Mm 67 q), U7 Mm 64 (Mm 38 s) (Mm 72 (8 * q + s)) (Mm 73 (8 * q + s)) (Mm 67 q - Mm 37 s) fare p (Mm 67 q), ?_, ?_, fun n a => U7.ne a, fun n a => U7.ne a, U7.at (b1 _ (by omega) (by omega)) (b1 _ (by omega) (by omega)) (b1 _ (by omega) (by omega)) (b1 _ (by omega) (by omega)) (b1 _ (by omega) (by omega)) (b1 _ (by omega) (by omega)) (b1 _ (by omega) (by omega))⟩
  · unfold f_X3_look U7
    simp (disch := omega) only [w32_id, q_gf_e, q_gr_e, q_pf_e, q_pz_e, q_let_e, q_call_e, q_calp_e, q_al_ok, q_as_ok, q_nz_ok, up_same, up_nei, up_ne1, Int.toNat_natCast, reduceIte, Int.reduceEq, Int.reduceLT, Int.reduceLE, Int.reduceNeg, not_true_eq_false, not_false_eq_true, h70, h71, d1, k1, c2, w2, e1]
  · unfold f_X10_calls f_X10_calls_J105 U7
    rw [hp]
    simp (disch := omega) only [w32_id, q_gf_e, q_gr_e, q_pf_e, q_pz_e, q_let_e, q_call_e, q_calp_e, q_al_ok, q_as_ok, q_nz_ok, up_same, up_nei, up_ne1, Int.toNat_natCast, reduceIte, Int.reduceEq, Int.reduceLT, Int.reduceLE, Int.reduceNeg, not_true_eq_false, not_false_eq_true]
    rcases hpr with ⟨rfl, a, b⟩ | ⟨rfl, rfl⟩
    · rw [if_pos (by omega)]
    · (try simp (disch := omega) only [w32_id, q_gf_e, q_gr_e, q_pf_e, q_pz_e, q_let_e, q_call_e, q_calp_e, q_al_ok, q_as_ok, q_nz_ok, up_same, up_nei, up_ne1, Int.toNat_natCast, reduceIte, Int.reduceEq, Int.reduceLT, Int.reduceLE, Int.reduceNeg, not_true_eq_false, not_false_eq_true])
theorem hasLawM {l : Int} {t : Nat} {Mc Mm : Mem} (hL : LR t Mc Mm) (hl : 0 ≤ l ∧ l < 3) : f_X10_hasLaw l Mm = some (if Mm 47 l < Mm 48 l then 1 else 0) := by
  obtain ⟨g1, g2, g3, g4, g5, -⟩ := hL l hl.1 hl.2
  unfold f_X10_hasLaw
  simp (disch := omega) only [w32_id, q_gf_e, q_gr_e, q_pf_e, q_pz_e, q_let_e, q_call_e, q_calp_e, q_al_ok, q_as_ok, q_nz_ok, up_same, up_nei, up_ne1, Int.toNat_natCast, reduceIte, Int.reduceEq, Int.reduceLT, Int.reduceLE, Int.reduceNeg, not_true_eq_false, not_false_eq_true]
  repeat' split
  all_goals first
    | rfl
    | (exfalso; omega)
/-- only what a law's working out needs has changed -/
def SK (M M' : Mem) : Prop := ∀ n, n ≠ 262 → n ≠ 420 → n ≠ 452 → M' n = M n
theorem SK.to {M M' : Mem} (h : SK M M') : SC M M' := fun n a _ b c => h n a b c
theorem SK.trans {M M' M'' : Mem} (h : SK M M') (h' : SK M' M'') : SK M M'' := fun n a b c => (h' n a b c).trans (h n a b c)
def SN (M M' : Mem) : Prop := (∀ n, n ≠ 0 → n ≠ 64 → n ≠ 65 → M' n = M n) ∧ ∀ f, f ≠ 34 → M' 0 f = M 0 f
theorem SN.to {M M' : Mem} (h : SN M M') : SM M M' := ⟨fun n a b c _ => h.1 n a b c, fun f a _ => h.2 f a⟩
theorem SN.refl (M : Mem) : SN M M := ⟨fun _ _ _ _ => rfl, fun _ _ => rfl⟩
theorem SN.trans {M M' M'' : Mem} (h : SN M M') (h' : SN M' M'') : SN M M'' := ⟨fun n a b c => (h'.1 n a b c).trans (h.1 n a b c), fun f a => (h'.2 f a).trans (h.2 f a)⟩
/-- what the reference makes of a law behind its look-up, when the other one's worth is v -/
def EVM (l v : Int) (Mm Mm1 : Mem) : Prop := (v = -9223372036854775808 ∧ f_X10_hasLaw l Mm1 = some 0) ∨ (f_X10_hasLaw l Mm1 = some 1 ∧ ∃ Mm2 y, f_X10_comesOut l Mm1 = some (y, Mm2) ∧ SN Mm Mm2 ∧ ((y = 0 ∧ v = -9223372036854775808) ∨ (y = 1 ∧ Mm2 65 0 = v ∧ bd v)))
theorem evW {t k : Nat} {q r b s p fare pr l : Int} {Mc Mm : Mem} (h : MR t k q r b Mc Mm) (hs : 0 ≤ s ∧ s < Mm 35 0) (hp : f_X10_placeOf q s Mm = some pr) (hpr : (pr = p ∧ 0 ≤ p ∧ p ≤ 9) ∨ (pr = -1 ∧ p = 9)) (hf : 0 ≤ fare ∧ fare ≤ 99) (hl : 0 ≤ l ∧ l < 3) : ∃ Mc1 Mm1 v Mc2, f_X3_look s p fare Mc = some (0, Mc1) ∧ f_X10_calls q s fare Mm = some (0, Mm1) ∧ f_X2_worth (t + 10) 262 7 l Mc1 = some (v, Mc2) ∧ Mc1 7 = Mc 7 ∧ SK Mc Mc2 ∧ SN Mm Mm1 ∧ in64 v ∧ EVM l v Mm Mm1 := by
  obtain ⟨Mc1, Mm1, a1, a2, a3, a4, a5⟩ := lookW h hs hp hpr hf
  have ht := h.1.1
  have s1 : SK Mc Mc1 := fun n a _ _ => a3 n a
  have s2 : SN Mm Mm1 := ⟨fun n _ a _ => a4 n a, fun f _ => by rw [a4 0 (by omega)]⟩
  have h' := h.frm s1.to s2.to
  have hL := h'.1.2.2.2.2.2.2.2.2.2.2
  have e7 := a3 7 (by omega)
  have hh := hasLawM hL hl
  by_cases c : Mm1 47 l < Mm1 48 l
  · rw [if_pos c] at hh
    obtain ⟨⟨v, Mc2⟩, ⟨y, Mm2⟩, b1, b2, b3, b4, b5, b6⟩ := worthW ht hL hl c a5
    have sm : SN Mm Mm2 := s2.trans ⟨fun n a _ b => b5 n b a, fun f a => b6 f a⟩
    refine ⟨Mc1, Mm1, v, Mc2, a1, a2, b1, e7, s1.trans (fun n _ a b => b4 n (by omega)), s2, ?_, ?_⟩
    · rcases b3 with ⟨-, -, b3⟩ | ⟨-, b3⟩
      · unfold bd at b3; unfold in64; simp only at b3; omega
      · unfold in64; simp only at b3; omega
    · refine .inr ⟨hh, Mm2, y, b2, sm, ?_⟩
      rcases b3 with b3 | b3
      · exact .inr b3
      · exact .inl b3
  · rw [if_neg c] at hh
    refine ⟨Mc1, Mm1, -9223372036854775808, Mc1, a1, a2, ?_, e7, s1, s2, by unfold in64; omega, .inl ⟨rfl, hh⟩⟩
    obtain ⟨g1, g2, g3, g4, g5, -⟩ := hL l hl.1 hl.2
    unfold f_X2_worth f_X2_isTold
    have ec : ∀ n : Nat, 32 * (t + 10 + 1) + n = 32 * (t + 11) + n := fun n => by omega
    simp only [ec]
    simp (disch := omega) only [w32_id, q_gf_e, q_gr_e, q_pf_e, q_pz_e, q_let_e, q_call_e, q_calp_e, q_al_ok, q_as_ok, q_nz_ok, up_same, up_nei, up_ne1, Int.toNat_natCast, reduceIte, Int.reduceEq, Int.reduceLT, Int.reduceLE, Int.reduceNeg, not_true_eq_false, not_false_eq_true, g1, g2]
    rw [if_neg (by omega), if_neg (by omega), if_pos (by omega)]
    (try simp (disch := omega) only [w32_id, q_gf_e, q_gr_e, q_pf_e, q_pz_e, q_let_e, q_call_e, q_calp_e, q_al_ok, q_as_ok, q_nz_ok, up_same, up_nei, up_ne1, Int.toNat_natCast, reduceIte, Int.reduceEq, Int.reduceLT, Int.reduceLE, Int.reduceNeg, not_true_eq_false, not_false_eq_true])
theorem withinM {l v lo hi pl : Int} {Mm Mm1 : Mem} (h : EVM l v Mm Mm1) (s : SN Mm Mm1) : ∃ Mm2, f_X10_within l lo hi pl Mm1 = some (if v = -9223372036854775808 then pl else q_maxl (w32 lo) (q_minl (w32 hi) v), Mm2) ∧ SN Mm Mm2 := by
  unfold f_X10_within
  rcases h with ⟨rfl, h⟩ | ⟨h, Mm2, y, c, sm, ⟨rfl, rfl⟩ | ⟨rfl, e, bv⟩⟩
  · rw [h]
    simp (disch := omega) only [w32_id, q_gf_e, q_gr_e, q_pf_e, q_pz_e, q_let_e, q_call_e, q_calp_e, q_al_ok, q_as_ok, q_nz_ok, up_same, up_nei, up_ne1, Int.toNat_natCast, reduceIte, Int.reduceEq, Int.reduceLT, Int.reduceLE, Int.reduceNeg, not_true_eq_false, not_false_eq_true]
    exact ⟨_, rfl, s⟩
  · rw [h, c]
    simp (disch := omega) only [w32_id, q_gf_e, q_gr_e, q_pf_e, q_pz_e, q_let_e, q_call_e, q_calp_e, q_al_ok, q_as_ok, q_nz_ok, up_same, up_nei, up_ne1, Int.toNat_natCast, reduceIte, Int.reduceEq, Int.reduceLT, Int.reduceLE, Int.reduceNeg, not_true_eq_false, not_false_eq_true]
    exact ⟨_, rfl, sm⟩
  · rw [h, c]
    simp (disch := omega) only [w32_id, q_gf_e, q_gr_e, q_pf_e, q_pz_e, q_let_e, q_call_e, q_calp_e, q_al_ok, q_as_ok, q_nz_ok, up_same, up_nei, up_ne1, Int.toNat_natCast, reduceIte, Int.reduceEq, Int.reduceLT, Int.reduceLE, Int.reduceNeg, not_true_eq_false, not_false_eq_true, e]
    unfold bd at bv
    rw [if_neg (by omega)]
    exact ⟨_, rfl, sm⟩
/-- may one ride: by the law's worth, else by coins and fare -/
theorem mayM {q s bus v : Int} {Mm Mm1 : Mem} (h : EVM 0 v Mm Mm1) (s1 : SN Mm Mm1) (hc : f_X10_calls q s (Mm 44 bus) Mm = some (0, Mm1)) (h3 : Mm 0 47 ≠ 3 ∧ 0 ≤ Mm 0 47 ∧ Mm 0 47 ≤ 5) (hb : 0 ≤ bus ∧ bus < 4) (hq : q = 0 ∨ q = 1) (hs : 0 ≤ s ∧ s < 8) (hC : 0 ≤ Mm 72 (8 * q + s) ∧ Mm 72 (8 * q + s) ≤ 99) (hF : 0 ≤ Mm 44 bus ∧ Mm 44 bus ≤ 99) : ∃ Mm2, f_X10_mayRide q s bus Mm = some (if v = -9223372036854775808 then (if Mm 72 (8 * q + s) < Mm 44 bus then 0 else 1) else (if v = 0 then 0 else 1), Mm2) ∧ SN Mm Mm2 := by
  have e : ∀ N, SN Mm N → f_X10_mayRide_J38 q s bus N = some (if Mm 72 (8 * q + s) < Mm 44 bus then 0 else 1, N) := by
    intro N sN
    unfold f_X10_mayRide_J38
    have n1 := sN.1 72 (by omega) (by omega) (by omega)
    have n2 := sN.1 44 (by omega) (by omega) (by omega)
    simp (disch := omega) only [w32_id, q_gf_e, q_gr_e, q_pf_e, q_pz_e, q_let_e, q_call_e, q_calp_e, q_al_ok, q_as_ok, q_nz_ok, up_same, up_nei, up_ne1, Int.toNat_natCast, reduceIte, Int.reduceEq, Int.reduceLT, Int.reduceLE, Int.reduceNeg, not_true_eq_false, not_false_eq_true, n1, n2]
    split <;> rfl
  unfold f_X10_mayRide
  simp (disch := omega) only [w32_id, q_gf_e, q_gr_e, q_pf_e, q_pz_e, q_let_e, q_call_e, q_calp_e, q_al_ok, q_as_ok, q_nz_ok, up_same, up_nei, up_ne1, Int.toNat_natCast, reduceIte, Int.reduceEq, Int.reduceLT, Int.reduceLE, Int.reduceNeg, not_true_eq_false, not_false_eq_true]
  rw [if_pos (by omega), hc]
  rcases h with ⟨rfl, h⟩ | ⟨h, Mm2, y, c, sm, ⟨rfl, rfl⟩ | ⟨rfl, e', bv⟩⟩
  · simp (disch := omega) only [w32_id, q_gf_e, q_gr_e, q_pf_e, q_pz_e, q_let_e, q_call_e, q_calp_e, q_al_ok, q_as_ok, q_nz_ok, up_same, up_nei, up_ne1, Int.toNat_natCast, reduceIte, Int.reduceEq, Int.reduceLT, Int.reduceLE, Int.reduceNeg, not_true_eq_false, not_false_eq_true, h, e _ s1]
    exact ⟨_, rfl, s1⟩
  · simp (disch := omega) only [w32_id, q_gf_e, q_gr_e, q_pf_e, q_pz_e, q_let_e, q_call_e, q_calp_e, q_al_ok, q_as_ok, q_nz_ok, up_same, up_nei, up_ne1, Int.toNat_natCast, reduceIte, Int.reduceEq, Int.reduceLT, Int.reduceLE, Int.reduceNeg, not_true_eq_false, not_false_eq_true, h, c, e _ sm]
    exact ⟨_, rfl, sm⟩
  · unfold bd at bv
    simp (disch := omega) only [w32_id, q_gf_e, q_gr_e, q_pf_e, q_pz_e, q_let_e, q_call_e, q_calp_e, q_al_ok, q_as_ok, q_nz_ok, up_same, up_nei, up_ne1, Int.toNat_natCast, reduceIte, Int.reduceEq, Int.reduceLT, Int.reduceLE, Int.reduceNeg, not_true_eq_false, not_false_eq_true, h, c, e', cmp_v]
    refine ⟨Mm2, ?_, sm⟩
    repeat' split
    all_goals first
      | rfl
      | (exfalso; omega)
