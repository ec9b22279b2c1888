def MN (t k : Nat) (q r n : Int) (Mc Mm x y : Mem) : Prop := MR t k q r 0 x y ∧ GC k Mc x ∧ GM q Mm y ∧ y 67 q = Mm 67 q + n
theorem passL {β : Type} {t k : Nat} {q r n : Int} {Mc Mm : Mem} (Bm : Int → Mem → (Int → Mem → Option β) → Option β) (hG : Mem → Option β) (hB : ∀ x M g, 0 ≤ x → x ≤ n → Bm x M g = if n ≤ x then hG M else q_call (f_X10_passes q r M) fun _ M' => g (x + 1) M') (h : MR t k q r 0 Mc Mm) (hn : 0 ≤ n ∧ n ≤ 200) (hm : Mm 67 q + n ≤ 10000) : W2 (f_X3_pass n Mc) (qlm1 Bm q_N 0 Mm) (fun M => some (0, M)) hG (MN t k q r n Mc Mm) := by
  unfold f_X3_pass f_X3_pass_L2
  refine lock (fun m (s : Int × Mem) => qlm1 (fun x2 M g2 => f_X3_pass_B2 n x2 M g2) m s.1 s.2) (fun m (s : Int × Mem) => qlm1 Bm m s.1 s.2) _ _ _ (fun s u => s.1 = u.1 ∧ 0 ≤ u.1 ∧ u.1 ≤ n ∧ MN t k q r u.1 Mc Mm s.2 u.2) (fun s u => (n - u.1).toNat) ?_ q_N q_N (0, Mc) (0, Mm) ⟨rfl, by show (0 : Int) ≤ 0; omega, by show 0 ≤ n; omega, h, GC.refl _ _, GM.refl _ _, by show Mm 67 q = Mm 67 q + 0; omega⟩ (q_N_lt (by show (n - 0).toNat < 100000; omega)) (q_N_lt (by show (n - 0).toNat < 100000; omega))
  intro m m' ⟨x, M⟩ ⟨y, M'⟩ ⟨i1, i2, i3, i4⟩ ih
  simp only at i1 i2 i3 i4 ih
  subst i1
  show W2 (f_X3_pass_B2 n x M (qlm1 (fun x2 M g2 => f_X3_pass_B2 n x2 M g2) m)) (Bm x M' (qlm1 Bm m')) _ _ _
  rw [hB x M' _ i2 i3]
  generalize hGc : qlm1 (fun x2 M g2 => f_X3_pass_B2 n x2 M g2) m = Gc at ih ⊢
  by_cases c : n ≤ x
  · have e : x = n := by omega
    subst e
    refine W2.ok M M' ?_ ?_ i4
    · unfold f_X3_pass_B2
      rw [if_pos (Int.le_refl _)]
    · rw [if_pos c]
  · rw [if_neg c]
    obtain ⟨M1, N1, a1, a2, a3, a4, a5, a6⟩ := minuteW (x1 := n) (x2 := x) (g2 := Gc) i4.1 (by rw [i4.2.2.2]; omega) (by omega)
    rw [a1, a2, q_call_e]
    exact ih (x + 1, M1) (x + 1, N1) ⟨rfl, by show 0 ≤ x + 1; omega, by show x + 1 ≤ n; omega, a3, i4.2.1.trans a4, i4.2.2.1.trans a5, by show N1 67 q = Mm 67 q + (x + 1); rw [a6, i4.2.2.2]; omega⟩ (by show (n - (x + 1)).toNat < (n - x).toNat; omega)
theorem pass1W {t k : Nat} {q r : Int} {Mc Mm : Mem} (h : MR t k q r 0 Mc Mm) (hm : Mm 67 q < 10000) : W2 (f_X3_pass 1 Mc) (f_X10_passes q r Mm) (fun M => some (0, M)) (fun M => some (0, M)) (MI t k q r Mc Mm) := by
  have e : f_X3_pass 1 Mc = f_X3_pass_B2 1 0 Mc (qlm1 (fun x2 M g2 => f_X3_pass_B2 1 x2 M g2) 99999) := by
    unfold f_X3_pass f_X3_pass_L2
    have : q_N = 99999 + 1 := rfl
    rw [this]
    rfl
  obtain ⟨M1, N1, a1, a2, a3⟩ := minuteW (x1 := 1) (x2 := 0) (g2 := qlm1 (fun x2 M g2 => f_X3_pass_B2 1 x2 M g2) 99999) h hm (by omega)
  rw [e, a1, a2]
  refine W2.ok M1 N1 ?_ rfl a3
  have : (99999 : Nat) = 99998 + 1 := rfl
  rw [this]
  show f_X3_pass_B2 1 (0 + 1) M1 (qlm1 (fun x2 M g2 => f_X3_pass_B2 1 x2 M g2) 99998) = _
  unfold f_X3_pass_B2
  rw [if_pos (by decide)]
theorem goesOnW {t : Nat} {n : Int} {Mc Mm : Mem} (h : MR t 5 1 0 0 Mc Mm) (hn : 0 ≤ n ∧ n ≤ 200) (hm : Mm 67 1 + n ≤ 10000) : W2 (f_X3_pass n Mc) (f_X10_goesOn n Mm) (fun M => some (0, M)) (fun M => some (0, M)) (MN t 5 1 0 n Mc Mm) := by
  unfold f_X10_goesOn f_X10_goesOn_L2
  refine passL _ _ (fun x M g a b => ?_) h hn hm
  unfold f_X10_goesOn_B2
  rw [w32_id (by omega), w32_id (by omega)]
def RDY (k0 k1 : Nat) (M : Mem) : Mem := up (up (up (up (up (up M 7 0 k0) 7 1 k1) 7 2 0) 7 3 0) 7 4 (-1)) 7 5 1
theorem readyC {k0 k1 : Nat} {M : Mem} : f_X3_ready k0 k1 M = some (0, RDY k0 k1 M) := by
  unfold f_X3_ready RDY
  (try simp (disch := omega) only [w32_id, q_gf_e, q_gr_e, q_pf_e, q_pz_e, q_let_e, q_call_e, q_calp_e, q_al_ok, q_as_ok, q_nz_ok, up_same, up_nei, up_ne1, Int.toNat_natCast, reduceIte, Int.reduceEq, Int.reduceLT, Int.reduceLE, Int.reduceNeg, not_true_eq_false, not_false_eq_true])
theorem RDY.ne {k0 k1 n : Nat} {M : Mem} (h : n ≠ 7) : RDY k0 k1 M n = M n := by
  unfold RDY
  simp only [up_ne1 h]
theorem RDY.f {k0 k1 : Nat} {M : Mem} : RDY k0 k1 M 7 0 = k0 ∧ RDY k0 k1 M 7 1 = k1 ∧ RDY k0 k1 M 7 2 = 0 ∧ RDY k0 k1 M 7 3 = 0 ∧ RDY k0 k1 M 7 4 = -1 ∧ RDY k0 k1 M 7 5 = 1 := by
  unfold RDY
  refine ⟨?_, ?_, ?_, ?_, ?_, ?_⟩ <;> simp (disch := omega) only [up_nei, up_same]
theorem CPC.vw {k k0 : Nat} {M : Mem} : VEQ (cvw k (CPC k k0 M)) (cvw k0 M) := by
  refine ⟨?_, ?_, ?_, fun f i a b c d => ?_⟩
  · show CPC k k0 M k 0 = M k0 0
    unfold CPC; rw [if_pos ⟨rfl, .inl rfl⟩]
  · show CPC k k0 M k 1 = M k0 1
    unfold CPC; rw [if_pos ⟨rfl, .inr (.inl rfl)⟩]
  · show CPC k k0 M k 9 = M k0 9
    unfold CPC; rw [if_pos ⟨rfl, .inr (.inr rfl)⟩]
  · unfold cvw
    rw [if_neg (by omega), if_neg (by omega)]
    unfold CPC
    rw [if_neg (by omega), if_pos ⟨by omega, by omega, c, d⟩, Nat.add_sub_cancel_left]
theorem CPM.vw {q q0 : Int} {M : Mem} : VEQ (mvw q (CPM q q0 M)) (mvw q0 M) := by
  refine ⟨?_, ?_, ?_, fun f i a b c d => ?_⟩
  · show CPM q q0 M 67 q = M 67 q0
    unfold CPM; rw [if_pos (by omega)]
  · show CPM q q0 M 68 q = M 68 q0
    unfold CPM; rw [if_pos (by omega)]
  · show CPM q q0 M 69 q = M 69 q0
    unfold CPM; rw [if_pos (by omega)]
  · have e : 70 ≤ mvc f ∧ mvc f ≤ 76 := by unfold mvc; split <;> omega
    have ef : f ≠ 0 := by omega
    simp only [mvw, if_neg ef]
    unfold CPM
    rw [if_neg (by omega), if_pos (by omega), show 8 * q0 + (8 * q + i - 8 * q) = 8 * q0 + i by omega]
theorem CPC.ne {k k0 n : Nat} {M : Mem} (h : n ≠ k) (h' : n < 32 * (k + 1) + 2 ∨ 32 * (k + 1) + 8 < n) : CPC k k0 M n = M n := by
  funext i; unfold CPC; rw [if_neg (by omega), if_neg (by omega)]
theorem CPM.fm {q0 : Int} {M : Mem} : FM M (CPM 1 q0 M) := by
  refine ⟨fun n h => ?_, fun f h => ?_, fun n q a b c => ?_, fun n i a b c => ?_⟩
  · funext i; unfold CPM; rw [if_neg (by omega), if_neg (by omega)]
  all_goals
    unfold CPM; rw [if_neg (by omega), if_neg (by omega)]
theorem GC.fc {t : Nat} {M M' : Mem} (h : GC 5 M M') (ht : t = 2 ∨ t = 3) : FC t M M' := by
  intro n hn
  unfold KC at hn
  exact h n (by omega) (by omega) (by omega) (by omega) (by omega) (by omega)
theorem GM.fm {M M' : Mem} (h : GM 1 M M') : FM M M' := ⟨fun n a => h.1 n (by omega) (by omega) (by omega) (by omega) (by omega), fun f a => h.2.1 f (by omega) (by omega), fun n q a b c => h.2.2.1 n q a b c, fun n i a b c => h.2.2.2.1 n i a b (by omega)⟩
/-- a trial begins as it is now -/
theorem tryW {t : Nat} {Mc Mm : Mem} (h : RelT t Mc Mm) : ∃ Mc1 Mm1, f_X9_tryFromNow Mc = some (0, Mc1) ∧ f_X10_copies 1 0 Mm = some (0, Mm1) ∧ MR t 5 1 0 0 Mc1 Mm1 ∧ FC t Mc Mc1 ∧ FM Mm Mm1 ∧ VEQ (mvw 1 Mm1) (mvw 0 Mm) ∧ VEQ (cvw 5 Mc1) (cvw 4 Mc) := by
  obtain ⟨⟨h03, -⟩, hT, ⟨hs, h98⟩, -, -, -, -, h47, h48⟩ := h
  have ht := hT.1
  have hS := hT.2.1
  have e03 : CPC 5 4 Mc 0 3 = t := by rw [CPC.ne (by omega) (by omega)]; exact h03
  have fc : FC t Mc (RDY t 5 (CPC 5 4 Mc)) := by
    intro n hn
    unfold KC at hn
    rw [RDY.ne (by omega), CPC.ne (by omega) (by omega)]
  refine ⟨RDY t 5 (CPC 5 4 Mc), CPM 1 0 Mm, ?_, copiesM (by omega) (by omega) (by omega), ?_, fc, CPM.fm, CPM.vw, ?_⟩
  · unfold f_X9_tryFromNow
    rw [copyC (by omega) (by omega) (by omega)]
    simp (disch := omega) only [w32_id, q_gf_e, q_gr_e, q_pf_e, q_pz_e, q_let_e, q_call_e, q_calp_e, q_al_ok, q_as_ok, q_nz_ok, up_same, up_nei, up_ne1, Int.toNat_natCast, reduceIte, Int.reduceEq, Int.reduceLT, Int.reduceLE, Int.reduceNeg, not_true_eq_false, not_false_eq_true, e03, readyC]
  · have fm := CPM.fm (q0 := 0) (M := Mm)
    have e35 : CPM 1 0 Mm 35 = Mm 35 := fm.1 35 (by omega)
    have v1 : VEQ (cvw 5 (RDY t 5 (CPC 5 4 Mc))) (cvw 4 Mc) := by
      have := CPC.vw (k := 5) (k0 := 4) (M := Mc)
      refine ⟨?_, ?_, ?_, fun f i a b c d => ?_⟩
      · rw [← this.1]; show RDY t 5 (CPC 5 4 Mc) 5 0 = _; rw [RDY.ne (by omega)]; rfl
      · rw [← this.2.1]; show RDY t 5 (CPC 5 4 Mc) 5 1 = _; rw [RDY.ne (by omega)]; rfl
      · rw [← this.2.2.1]; show RDY t 5 (CPC 5 4 Mc) 5 9 = _; rw [RDY.ne (by omega)]; rfl
      · rw [← this.2.2.2 f i a b c d]
        unfold cvw
        rw [if_neg (by omega), if_neg (by omega), RDY.ne (by omega)]
    obtain ⟨f0, f1, f2, f3, f4, f5⟩ := RDY.f (k0 := t) (k1 := 5) (M := CPC 5 4 Mc)
    have w9 : cvw 4 Mc 0 9 ≤ 8 := by have := hs.2.1.2.2.1; omega
    have w9' : mvw 0 Mm 0 9 ≤ 8 := by have := hs.1.2.2.1; omega
    have k1 := VEQ.to (S := Mm 35 0) v1.symm (by omega) w9
    have k2 := VEQ.to (S := Mm 35 0) (CPM.vw (q := 1) (q0 := 0) (M := Mm)).symm (by omega) w9'
    unfold MR StE
    rw [e35, f0, f1, f2, f3, f4, fm.2.1 47 (by omega), fm.2.1 48 (by omega)]
    refine ⟨TR.frm hT fc fm, .inr ⟨rfl, rfl⟩, ⟨rfl, rfl⟩, ⟨⟨rfl, .inl rfl⟩, by omega, by omega, by omega, by omega, fun h => absurd h48 h⟩, k1.symm.trans (hs.1.trans k2), WFB.of hs.2.1 k1, NOB.of hs.2.2 CPM.vw.symm (by omega)⟩
  · have := CPC.vw (k := 5) (k0 := 4) (M := Mc)
    refine ⟨?_, ?_, ?_, fun f i a b c d => ?_⟩
    · rw [← this.1]; show RDY t 5 (CPC 5 4 Mc) 5 0 = _; rw [RDY.ne (by omega)]; rfl
    · rw [← this.2.1]; show RDY t 5 (CPC 5 4 Mc) 5 1 = _; rw [RDY.ne (by omega)]; rfl
    · rw [← this.2.2.1]; show RDY t 5 (CPC 5 4 Mc) 5 9 = _; rw [RDY.ne (by omega)]; rfl
    · rw [← this.2.2.2 f i a b c d]
      unfold cvw
      rw [if_neg (by omega), if_neg (by omega), RDY.ne (by omega)]
