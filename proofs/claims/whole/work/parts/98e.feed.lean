theorem i2b_e (x : Int) : q_i2b x = x.bmod 256 := by
  unfold q_i2b
  rw [Int8.toInt_toInt32, Int32.toInt_toInt8]
  show (w32 x).bmod _ = _
  rw [w32_bmod]
  exact Int.bmod_bmod_of_dvd (by decide)
theorem mask8 (X : Int) : q_and X 255 = X % 256 := by
  have e : (qI X &&& qI 255).toBitVec.toNat = (X % 4294967296).toNat % 256 := by
    have h1 : (qI 255).toBitVec.toNat = 2 ^ 8 - 1 := by decide
    have h2 : (qI X).toBitVec.toNat = (X % 4294967296).toNat := by
      show (BitVec.ofInt 32 X).toNat = _
      rw [BitVec.toNat_ofInt]; rfl
    rw [Int32.toBitVec_and, BitVec.toNat_and, h1, h2, Nat.and_two_pow_sub_one_eq_mod]
  show (qI X &&& qI 255).toBitVec.toInt = _
  rw [BitVec.toInt_eq_toNat_of_lt (by rw [e]; omega), e]
  omega
theorem byteR (y : Int) : (0 ≤ q_and y 255 ∧ q_and y 255 < 256) ∧ q_i2b y = (if q_and y 255 < 128 then q_and y 255 else q_and y 255 - 256) := by
  rw [mask8, i2b_e]
  refine ⟨by omega, ?_⟩
  rw [Int.bmod_def]
  show (if y % 256 < (256 + 1) / 2 then y % 256 else y % 256 - 256) = _
  split <;> split <;> omega
def PNC (a k : Int) (M : Mem) : Mem := fun c i => if c = 32 ∧ M 0 1 ≤ i ∧ i < M 0 1 + k then q_i2b (q_shr a (24 - 8 * (i - M 0 1))) else if c = 0 ∧ i = 1 then M 0 1 + k else M c i
theorem putC {a : Int} {M : Mem} (h : 0 ≤ M 0 1 ∧ M 0 1 ≤ 696) : f_X9_putNumber a M = some (0, PNC a 4 M) := by
  rw [← wpo_eq]
  unfold f_X9_putNumber f_X9_putNumber_L3
  refine qlm1_N (fun x M' => ∃ k : Int, 0 ≤ k ∧ k ≤ 4 ∧ x = 24 - 8 * k ∧ M' = PNC a k M) (fun x _ => (x + 9).toNat) _ _ ⟨0, by omega, by omega, by omega, ?_⟩ (by omega) ?_
  · funext c i
    unfold PNC
    rw [if_neg (by omega)]
    by_cases d : c = 0 ∧ i = 1
    · rw [if_pos d, d.1, d.2, Int.add_zero]
    · rw [if_neg d]
  · intro x M' g ⟨k, k1, k2, k3, k4⟩ ih
    have e1 : M' 0 1 = M 0 1 + k := by rw [k4]; unfold PNC; rw [if_neg (by omega), if_pos ⟨rfl, rfl⟩]
    unfold f_X9_putNumber_B3
    simp (disch := omega) only [w32_id, q_gf_e, q_gr_e, q_pf_e, q_pz_e, q_let_e, q_call_e, q_calp_e, q_al_ok, q_as_ok, q_nz_ok, up_same, up_nei, up_ne1, Int.toNat_natCast, reduceIte, Int.reduceEq, Int.reduceLT, Int.reduceLE, Int.reduceNeg, not_true_eq_false, not_false_eq_true, e1]
    refine wpo_ite (fun c => wpo_some.mpr ?_) (fun c => ?_)
    · rw [k4, show k = 4 by omega]
    · rw [if_neg (by omega)]
      have hi : q_i2b (q_i2b (q_shr a x)) = q_i2b (q_shr a x) := by
        rw [i2b_e (q_i2b (q_shr a x)), i2b_e (q_shr a x)]
        exact Int.bmod_bmod
      rw [if_pos hi]
      (try simp (disch := omega) only [w32_id, q_gf_e, q_gr_e, q_pf_e, q_pz_e, q_let_e, q_call_e, q_calp_e, q_al_ok, q_as_ok, q_nz_ok, up_same, up_nei, up_ne1, Int.toNat_natCast, reduceIte, Int.reduceEq, Int.reduceLT, Int.reduceLE, Int.reduceNeg, not_true_eq_false, not_false_eq_true])
      refine ih _ _ ⟨k + 1, by omega, by omega, by omega, ?_⟩ (by omega)
      rw [k4]
      funext d i
      unfold up PNC
      by_cases d1 : d = 0 ∧ i = 1
      · rw [if_pos d1, if_neg (by omega), if_pos d1]; omega
      · rw [if_neg d1]
        by_cases d2 : d = 32 ∧ i = M 0 1 + k
        · rw [if_pos d2, if_pos (by omega), k3, d2.2, show M 0 1 + k - M 0 1 = k by omega]
        · rw [if_neg d2]
          by_cases d3 : d = 32 ∧ M 0 1 ≤ i ∧ i < M 0 1 + k
          · rw [if_pos d3, if_pos (by omega)]
          · rw [if_neg d3, if_neg d1, if_neg (show ¬ (d = 32 ∧ M 0 1 ≤ i ∧ i < M 0 1 + (k + 1)) by omega), if_neg d1]
/-- the number that a byte is of -/
def vF (a0 a1 a2 a3 a4 j : Int) : Int := if j < 4 then a0 else if j < 8 then a1 else if j < 12 then a2 else if j < 16 then a3 else a4
theorem feedC {a0 a1 a2 a3 a4 : Int} {M : Mem} (h : 0 ≤ M 0 1 ∧ M 0 1 ≤ 680) : ∃ M', f_X9_feed a0 a1 a2 a3 a4 M = some (M 0 1 + 20, M') ∧ (∀ i, M 0 1 ≤ i → i < M 0 1 + 20 → M' 32 i = q_i2b (q_shr (vF a0 a1 a2 a3 a4 (i - M 0 1)) (24 - 8 * ((i - M 0 1) % 4)))) ∧ (∀ i, (i < M 0 1 ∨ M 0 1 + 20 ≤ i) → M' 32 i = M 32 i) ∧ M' 0 1 = M 0 1 + 20 ∧ (∀ i, i ≠ 1 → M' 0 i = M 0 i) ∧ ∀ n, n ≠ 0 → n ≠ 32 → M' n = M n := by
  have p1 : ∀ a (M : Mem), PNC a 4 M 0 1 = M 0 1 + 4 := fun a M => by unfold PNC; rw [if_neg (by omega), if_pos ⟨rfl, rfl⟩]
  have p2 : ∀ a (M : Mem) i, i ≠ 1 → PNC a 4 M 0 i = M 0 i := fun a M i d => by unfold PNC; rw [if_neg (by omega), if_neg (by omega)]
  have p3 : ∀ a (M : Mem) n, n ≠ 0 → n ≠ 32 → PNC a 4 M n = M n := fun a M n c d => by funext i; unfold PNC; rw [if_neg (by omega), if_neg (by omega)]
  have p4 : ∀ a (M : Mem) i, (i < M 0 1 ∨ M 0 1 + 4 ≤ i) → PNC a 4 M 32 i = M 32 i := fun a M i d => by unfold PNC; rw [if_neg (by omega), if_neg (by omega)]
  have p5 : ∀ a (M : Mem) i, M 0 1 ≤ i → i < M 0 1 + 4 → PNC a 4 M 32 i = q_i2b (q_shr a (24 - 8 * (i - M 0 1))) := fun a M i c d => by unfold PNC; rw [if_pos ⟨rfl, c, d⟩]
  obtain ⟨n, hn⟩ : ∃ n, n = M 0 1 := ⟨_, rfl⟩
  obtain ⟨M1, h1⟩ : ∃ M1, M1 = PNC a0 4 M := ⟨_, rfl⟩
  obtain ⟨M2, h2⟩ : ∃ M2, M2 = PNC a1 4 M1 := ⟨_, rfl⟩
  obtain ⟨M3, h3⟩ : ∃ M3, M3 = PNC a2 4 M2 := ⟨_, rfl⟩
  obtain ⟨M4, h4⟩ : ∃ M4, M4 = PNC a3 4 M3 := ⟨_, rfl⟩
  obtain ⟨M5, h5⟩ : ∃ M5, M5 = PNC a4 4 M4 := ⟨_, rfl⟩
  have f1 : M1 0 1 = n + 4 := by rw [h1, p1, hn]
  have f2 : M2 0 1 = n + 8 := by rw [h2, p1, f1]; omega
  have f3 : M3 0 1 = n + 12 := by rw [h3, p1, f2]; omega
  have f4 : M4 0 1 = n + 16 := by rw [h4, p1, f3]; omega
  have f5 : M5 0 1 = n + 20 := by rw [h5, p1, f4]; omega
  rw [← hn] at h ⊢
  refine ⟨M5, ?_, fun i a b => ?_, fun i a => ?_, f5, fun i a => ?_, fun m a b => ?_⟩
  · unfold f_X9_feed
    simp (disch := omega) only [w32_id, q_gf_e, q_gr_e, q_pf_e, q_pz_e, q_let_e, q_call_e, q_calp_e, q_al_ok, q_as_ok, q_nz_ok, up_same, up_nei, up_ne1, Int.toNat_natCast, reduceIte, Int.reduceEq, Int.reduceLT, Int.reduceLE, Int.reduceNeg, not_true_eq_false, not_false_eq_true, ← hn]
    rw [if_pos (by omega), putC (by omega), ← h1]
    (try simp (disch := omega) only [w32_id, q_gf_e, q_gr_e, q_pf_e, q_pz_e, q_let_e, q_call_e, q_calp_e, q_al_ok, q_as_ok, q_nz_ok, up_same, up_nei, up_ne1, Int.toNat_natCast, reduceIte, Int.reduceEq, Int.reduceLT, Int.reduceLE, Int.reduceNeg, not_true_eq_false, not_false_eq_true])
    rw [putC (by omega), ← h2]
    (try simp (disch := omega) only [w32_id, q_gf_e, q_gr_e, q_pf_e, q_pz_e, q_let_e, q_call_e, q_calp_e, q_al_ok, q_as_ok, q_nz_ok, up_same, up_nei, up_ne1, Int.toNat_natCast, reduceIte, Int.reduceEq, Int.reduceLT, Int.reduceLE, Int.reduceNeg, not_true_eq_false, not_false_eq_true])
    rw [putC (by omega), ← h3]
    (try simp (disch := omega) only [w32_id, q_gf_e, q_gr_e, q_pf_e, q_pz_e, q_let_e, q_call_e, q_calp_e, q_al_ok, q_as_ok, q_nz_ok, up_same, up_nei, up_ne1, Int.toNat_natCast, reduceIte, Int.reduceEq, Int.reduceLT, Int.reduceLE, Int.reduceNeg, not_true_eq_false, not_false_eq_true])
    rw [putC (by omega), ← h4]
    (try simp (disch := omega) only [w32_id, q_gf_e, q_gr_e, q_pf_e, q_pz_e, q_let_e, q_call_e, q_calp_e, q_al_ok, q_as_ok, q_nz_ok, up_same, up_nei, up_ne1, Int.toNat_natCast, reduceIte, Int.reduceEq, Int.reduceLT, Int.reduceLE, Int.reduceNeg, not_true_eq_false, not_false_eq_true])
    rw [putC (by omega), ← h5]
    simp (disch := omega) only [w32_id, q_gf_e, q_gr_e, q_pf_e, q_pz_e, q_let_e, q_call_e, q_calp_e, q_al_ok, q_as_ok, q_nz_ok, up_same, up_nei, up_ne1, Int.toNat_natCast, reduceIte, Int.reduceEq, Int.reduceLT, Int.reduceLE, Int.reduceNeg, not_true_eq_false, not_false_eq_true, f5]
  · unfold vF
    by_cases c1 : i - n < 4
    · rw [if_pos c1, h5, p4 _ _ _ (by omega), h4, p4 _ _ _ (by omega), h3, p4 _ _ _ (by omega), h2, p4 _ _ _ (by omega), h1, p5 _ _ _ (by omega) (by omega), ← hn, show (i - n) % 4 = i - n by omega]
    · rw [if_neg c1]
      by_cases c2 : i - n < 8
      · rw [if_pos c2, h5, p4 _ _ _ (by omega), h4, p4 _ _ _ (by omega), h3, p4 _ _ _ (by omega), h2, p5 _ _ _ (by omega) (by omega), f1, show (i - n) % 4 = i - (n + 4) by omega]
      · rw [if_neg c2]
        by_cases c3 : i - n < 12
        · rw [if_pos c3, h5, p4 _ _ _ (by omega), h4, p4 _ _ _ (by omega), h3, p5 _ _ _ (by omega) (by omega), f2, show (i - n) % 4 = i - (n + 8) by omega]
        · rw [if_neg c3]
          by_cases c4 : i - n < 16
          · rw [if_pos c4, h5, p4 _ _ _ (by omega), h4, p5 _ _ _ (by omega) (by omega), f3, show (i - n) % 4 = i - (n + 12) by omega]
          · rw [if_neg c4, h5, p5 _ _ _ (by omega) (by omega), f4, show (i - n) % 4 = i - (n + 16) by omega]
  · rw [h5, p4 _ _ _ (by omega), h4, p4 _ _ _ (by omega), h3, p4 _ _ _ (by omega), h2, p4 _ _ _ (by omega), h1, p4 _ _ _ (by omega)]
  · rw [h5, p2 _ _ _ a, h4, p2 _ _ _ a, h3, p2 _ _ _ a, h2, p2 _ _ _ a, h1, p2 _ _ _ a]
  · rw [h5, p3 _ _ _ a b, h4, p3 _ _ _ a b, h3, p3 _ _ _ a b, h2, p3 _ _ _ a b, h1, p3 _ _ _ a b]
theorem feedM {a0 a1 a2 a3 a4 : Int} {M : Mem} (h : 0 ≤ M 0 2 ∧ M 0 2 ≤ 680) : ∃ M', f_X10_feed_L20 a0 a1 a2 a3 a4 q_N 0 M = some (M 0 2 + 20, M') ∧ (∀ i, M 0 2 ≤ i → i < M 0 2 + 20 → M' 33 i = q_and (q_shr (vF a0 a1 a2 a3 a4 (i - M 0 2)) (24 - 8 * ((i - M 0 2) % 4))) 255) ∧ (∀ i, (i < M 0 2 ∨ M 0 2 + 20 ≤ i) → M' 33 i = M 33 i) ∧ M' 0 2 = M 0 2 + 20 ∧ (∀ i, i ≠ 2 → M' 0 i = M 0 i) ∧ ∀ n, n ≠ 0 → n ≠ 33 → M' n = M n := by
  have key : wpo (f_X10_feed_L20 a0 a1 a2 a3 a4 q_N 0 M) (fun z => z.1 = M 0 2 + 20 ∧ (∀ i, M 0 2 ≤ i → i < M 0 2 + 20 → z.2 33 i = q_and (q_shr (vF a0 a1 a2 a3 a4 (i - M 0 2)) (24 - 8 * ((i - M 0 2) % 4))) 255) ∧ (∀ i, (i < M 0 2 ∨ M 0 2 + 20 ≤ i) → z.2 33 i = M 33 i) ∧ z.2 0 2 = M 0 2 + 20 ∧ (∀ i, i ≠ 2 → z.2 0 i = M 0 i) ∧ ∀ n, n ≠ 0 → n ≠ 33 → z.2 n = M n) := by
    unfold f_X10_feed_L20
    refine qlm1_N (fun x M' => 0 ≤ x ∧ x ≤ 20 ∧ (∀ i, M 0 2 ≤ i → i < M 0 2 + x → M' 33 i = q_and (q_shr (vF a0 a1 a2 a3 a4 (i - M 0 2)) (24 - 8 * ((i - M 0 2) % 4))) 255) ∧ (∀ i, (i < M 0 2 ∨ M 0 2 + x ≤ i) → M' 33 i = M 33 i) ∧ ∀ n, n ≠ 33 → M' n = M n) (fun x _ => (20 - x).toNat) _ _ ⟨by omega, by omega, fun i a b => by omega, fun i _ => rfl, fun n _ => rfl⟩ (by omega) ?_
    intro x M' g ⟨i1, i2, i3, i4, i5⟩ ih
    have e0 := i5 0 (by omega)
    unfold f_X10_feed_B20
    simp (disch := omega) only [w32_id, q_gf_e, q_gr_e, q_pf_e, q_pz_e, q_let_e, q_call_e, q_calp_e, q_al_ok, q_as_ok, q_nz_ok, up_same, up_nei, up_ne1, Int.toNat_natCast, reduceIte, Int.reduceEq, Int.reduceLT, Int.reduceLE, Int.reduceNeg, not_true_eq_false, not_false_eq_true, e0]
    refine wpo_ite (fun c => ?_) (fun c => ?_)
    · have ex : x = 20 := by omega
      subst ex
      refine wpo_some.mpr ⟨rfl, fun i a b => ?_, fun i a => ?_, by show up M' 0 2 (M 0 2 + 20) 0 2 = _; rw [up_same], fun i a => ?_, fun n a b => ?_⟩
      · show up M' 0 2 (M 0 2 + 20) 33 i = _
        rw [up_ne1 (by omega)]; exact i3 i a b
      · show up M' 0 2 (M 0 2 + 20) 33 i = _
        rw [up_ne1 (by omega)]; exact i4 i a
      · show up M' 0 2 (M 0 2 + 20) 0 i = _
        rw [up_nei a, e0]
      · show up M' 0 2 (M 0 2 + 20) n = _
        rw [up_ne1 a]; exact i5 n b
    · have hJ : ∀ v, v = vF a0 a1 a2 a3 a4 x → wpo (f_X10_feed_J73 g a0 a1 a2 a3 a4 x v M') (fun z => z.1 = M 0 2 + 20 ∧ (∀ i, M 0 2 ≤ i → i < M 0 2 + 20 → z.2 33 i = q_and (q_shr (vF a0 a1 a2 a3 a4 (i - M 0 2)) (24 - 8 * ((i - M 0 2) % 4))) 255) ∧ (∀ i, (i < M 0 2 ∨ M 0 2 + 20 ≤ i) → z.2 33 i = M 33 i) ∧ z.2 0 2 = M 0 2 + 20 ∧ (∀ i, i ≠ 2 → z.2 0 i = M 0 i) ∧ ∀ n, n ≠ 0 → n ≠ 33 → z.2 n = M n) := by
        intro v hv
        unfold f_X10_feed_J73
        simp (disch := omega) only [w32_id, q_gf_e, q_gr_e, q_pf_e, q_pz_e, q_let_e, q_call_e, q_calp_e, q_al_ok, q_as_ok, q_nz_ok, up_same, up_nei, up_ne1, Int.toNat_natCast, reduceIte, Int.reduceEq, Int.reduceLT, Int.reduceLE, Int.reduceNeg, not_true_eq_false, not_false_eq_true, e0]
        rw [tmod_e (by omega)]
        refine ih _ _ ⟨by omega, by omega, fun i a b => ?_, fun i a => ?_, fun n a => (up_ne1 a).trans (i5 n a)⟩ (by omega)
        · by_cases ci : i = M 0 2 + x
          · rw [ci, up_same, hv, show M 0 2 + x - M 0 2 = x by omega]
          · rw [up_nei ci]; exact i3 i a (by omega)
        · rw [up_nei (by omega)]; exact i4 i (by omega)
      unfold vF at hJ
      repeat' split
      all_goals
        refine hJ _ ?_
        simp (disch := omega) only [if_pos, if_neg]
  obtain ⟨⟨r, M'⟩, e1, e2, e3⟩ := key
  simp only at e2 e3
  exact ⟨M', by rw [e1, e2], e3⟩
theorem o_feed : rs_feed Rel := by
  intro Mc Mm a0 a1 a2 a3 a4 hR h0 h1 h2 h3 h4
  obtain ⟨t, hr⟩ := hR
  have hr := hr.thr (v := 0)
  show PW _ _
  unfold f_X10_feed
  rw [q_pf_e]
  generalize up Mm 0 0 0 = N at hr ⊢
  have hR : Rel Mc N := ⟨t, hr⟩
  have hF := hr.2.2.2.2.2.2.1
  have hF' := hF
  obtain ⟨⟨f1, f2, f3⟩, f4, f5, f6, f7⟩ := hF'
  rw [q_gf_e, w32_id (by omega), w32_id (x := 680) (by omega)]
  by_cases c : N 0 2 ≤ 680
  · rw [if_pos c]
    obtain ⟨M', x1, x2, x3, x4, x5, x6⟩ := feedC (a0 := a0) (a1 := a1) (a2 := a2) (a3 := a3) (a4 := a4) (M := Mc) (by omega)
    obtain ⟨N', y1, y2, y3, y4, y5, y6⟩ := feedM (a0 := a0) (a1 := a1) (a2 := a2) (a3 := a3) (a4 := a4) (M := N) (by omega)
    rw [x1, y1]
    refine PW.ok (by omega) ⟨t, ?_⟩
    obtain ⟨g1, hT, ⟨g3, g3'⟩, g4, g5, g6, g7, g8, g9⟩ := hr
    have ht := hT.1
    have hS := hT.2.1
    have vq : ∀ q, VEQ (mvw q N) (mvw q N') := fun q => mvw_eq (fun n a b => by rw [y6 n (by omega) (by omega)]) (fun n i a b c d => by rw [y6 n (by omega) (by omega)])
    have vc : ∀ k, k = 4 ∨ k = 6 → VEQ (cvw k Mc) (cvw k M') := fun k hk => cvw_eq (x6 k (by omega) (by omega)) (fun f a b => x6 _ (by omega) (by omega))
    unfold RelT
    rw [y6 35 (by omega) (by omega), x5 3 (by omega), x6 1 (by omega) (by omega), x6 4 (by omega) (by omega), x6 6 (by omega) (by omega), x5 7 (by omega), y5 45 (by omega), y5 47 (by omega), y5 48 (by omega)]
    refine ⟨g1, TR.frm2 hT (fun n a => x6 n (by omega) (by omega)) (fun n a b => y6 n (by omega) (by omega)), ⟨g3.of (by omega) (vc 4 (.inl rfl)) (vq 0), g3'⟩, ⟨g4.1, g4.2.1, fun c => ⟨(g4.2.2 c).1.of (by omega) (vc 6 (.inr rfl)) (vq 2), (g4.2.2 c).2⟩⟩, g5.of (by omega) (WFB.of g3.2.1 g3.1) (by rw [x6 8 (by omega) (by omega)]) (fun n a b => x6 n (by omega) (by omega)) (y5 46 (by omega)) (fun q _ => vq q), g6.of (x6 9 (by omega) (by omega)) (fun n a b => x6 n (by omega) (by omega)) (y5 58 (by omega)) (y5 59 (by omega)) (fun n a b => y6 n (by omega) (by omega)), ?_, g8, g9⟩
    unfold FR
    rw [x4, y4, x6 1 (by omega) (by omega), x6 352 (by omega) (by omega), y5 28 (by omega), y5 29 (by omega)]
    refine ⟨by omega, fun i a b => ?_, f5, f6, f7⟩
    by_cases ci : i < N 0 2
    · rw [x3 i (by omega), y3 i (by omega)]; exact f4 i a ci
    · have e1 := x2 i (by omega) (by omega)
      have e2 := y2 i (by omega) (by omega)
      rw [f1] at e1
      have := byteR (q_shr (vF a0 a1 a2 a3 a4 (i - N 0 2)) (24 - 8 * ((i - N 0 2) % 4)))
      rw [e1, e2]
      exact ⟨this.1.1, this.1.2, this.2⟩
  · rw [if_neg c]
    unfold f_X9_feed
    simp (disch := omega) only [w32_id, q_gf_e, q_gr_e, q_pf_e, q_pz_e, q_let_e, q_call_e, q_calp_e, q_al_ok, q_as_ok, q_nz_ok, up_same, up_nei, up_ne1, Int.toNat_natCast, reduceIte, Int.reduceEq, Int.reduceLT, Int.reduceLE, Int.reduceNeg, not_true_eq_false, not_false_eq_true, f1]
    rw [if_neg (by omega)]
    exact PW.ok rfl hR
