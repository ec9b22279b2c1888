theorem MR.cellX {t k n : Nat} {q r b i v : Int} {Mc Mm : Mem} (h : MR t k q r b Mc Mm) (hn : 43 ≤ n ∧ n ≤ 46) : MR t k q r b (up Mc n i v) Mm := by
  obtain ⟨h1, h2, h3, h4, h5, h6, h7⟩ := h
  have ht := h1.1
  have hv : ∀ f i', f = 0 ∨ (2 ≤ f ∧ f ≤ 8) → cvw k (up Mc n i v) f i' = cvw k Mc f i' := by
    intro f i' hf
    unfold cvw
    rw [up_ne1 (by omega), up_ne1 (by omega)]
  have e : VEQ (cvw k Mc) (cvw k (up Mc n i v)) := ⟨(hv 0 0 (by omega)).symm, (hv 0 1 (by omega)).symm, (hv 0 9 (by omega)).symm, fun f i' a b c d => (hv f i' (by omega)).symm⟩
  have k1 := VEQ.to (S := Mm 35 0) e (by have := h1.2.1; omega) (by have := h6.2.2.1; have := h1.2.1; omega)
  refine ⟨TR.frm2 h1 (fun n' a => up_ne1 (by omega)) (fun _ _ _ => rfl), h2, ?_, ?_, k1.symm.trans h5, WFB.of h6 k1, h7⟩
  · rw [up_ne1 (by omega)]; exact h3
  · unfold StE
    rw [up_ne1 (by omega)]; exact h4
theorem MB.iff {t : Nat} {bus x : Int} {Mc N : Mem} (h : MR t 4 0 0 0 Mc N) (hx : MB bus (N 69 0) N x) {p : Int} (a : 0 ≤ p) (b : p < 8) : Bt x p = true ↔ (p < N 35 0 ∧ N 71 p = 1 ∧ MVP bus p N) := by
  obtain ⟨r1, r2, r3, r4, r5, r6⟩ := h.rng
  rw [hx.2 p a (by omega)]
  constructor
  · intro ⟨i, i1, i2, i3, i4⟩
    have := r4 i i1 i2
    rw [show (8 * 0 + i : Int) = i by omega, i3, show (8 * 0 + p : Int) = p by omega] at this
    exact ⟨this.2.1, this.2.2, i4⟩
  · intro ⟨h1, h2, h3⟩
    obtain ⟨i, i1, i2, i3⟩ := h.inq (s := p) ⟨a, h1⟩ (by rw [show (8 * 0 + p : Int) = p by omega]; exact h2)
    rw [show (8 * 0 + i : Int) = i by omega] at i3
    exact ⟨i, i1, i2, i3, h3⟩
theorem powerC {n : Nat} {M : Mem} (hn : n ≤ 4) : f_X9_power 9 n M = some ((9 ^ n : Nat) : Int) := by
  rw [← wpo_eq]
  unfold f_X9_power f_X9_power_L4
  refine qlp2_N (fun a i => ∃ k : Nat, i = k ∧ k ≤ n ∧ a = ((9 ^ k : Nat) : Int)) (fun _ i => (6 - i).toNat) _ _ ⟨0, rfl, by omega, rfl⟩ (by omega) ?_
  intro a i g ⟨k, e1, e2, e3⟩ ih
  subst e1
  unfold f_X9_power_B4
  (try simp (disch := omega) only [w32_id, q_gf_e, q_gr_e, q_pf_e, q_pz_e, q_let_e, q_call_e, q_calp_e, q_al_ok, q_as_ok, q_nz_ok, up_same, up_nei, up_ne1, Int.toNat_natCast, reduceIte, Int.reduceEq, Int.reduceLT, Int.reduceLE, Int.reduceNeg, not_true_eq_false, not_false_eq_true])
  refine wpo_ite (fun c => wpo_some.mpr ?_) (fun c => ?_)
  · rw [e3, show k = n by omega]
  · refine ih _ _ ⟨k + 1, by omega, by omega, ?_⟩ (by omega)
    rw [e3, Nat.pow_succ]
    norm_cast
theorem nobody {N : Mem} {B : Nat} (hB : B ≤ 4) : PV (okMa N) frMa 9 B (9 ^ B - 1) := by
  have hd : ∀ b, b < B → DG 9 B (9 ^ B - 1) b = 8 := by
    have hc : B = 0 ∨ B = 1 ∨ B = 2 ∨ B = 3 ∨ B = 4 := by omega
    rcases hc with rfl | rfl | rfl | rfl | rfl
    · intro b h; omega
    · intro b h
      have : b = 0 := by omega
      subst this; decide
    · intro b h
      have : b = 0 ∨ b = 1 := by omega
      rcases this with rfl | rfl <;> decide
    · intro b h
      have : b = 0 ∨ b = 1 ∨ b = 2 := by omega
      rcases this with rfl | rfl | rfl <;> decide
    · intro b h
      have : b = 0 ∨ b = 1 ∨ b = 2 ∨ b = 3 := by omega
      rcases this with rfl | rfl | rfl | rfl <;> decide
  refine ⟨fun b h => ?_, fun b1 b2 h1 h2 _ => ?_⟩
  · rw [hd b h]; exact .inl rfl
  · rw [hd b1 (by omega)]; rfl
theorem wM_rng {N : Mem} {B c : Nat} (hB : B ≤ 4) (hS : N 35 0 ≤ 8) (hk : ∀ p, 0 ≤ p → p < N 35 0 → 0 ≤ N 38 p ∧ N 38 p ≤ 99) (h : PV (okMa N) frMa 9 B c) : 0 ≤ wM N B c ∧ wM N B c ≤ 400 := by
  have := sN_rng (f := fun b => wk N (DG 9 B c b)) (b := 99) B (fun b hb => by
    have := h.1 b hb
    show 0 ≤ wk N (DG 9 B c b) ∧ wk N (DG 9 B c b) ≤ 99
    unfold wk
    rcases this with e | ⟨e1, e2, -⟩
    · rw [if_pos e]; omega
    · rw [if_neg (by omega)]
      have := hk (DG 9 B c b) (by omega) e2
      exact this)
  unfold wM
  omega
set_option maxHeartbeats 1000000 in
theorem bestC {t B : Nat} {Mc N : Mem} (hr : RelT t Mc N) (hBN : N 35 1 = B) : ∃ m M' c, f_X9_bestMatch Mc = some (m, M') ∧ FC t Mc M' ∧ 0 ≤ m ∧ m ≤ 400 ∧ BST (PV (okMa N) frMa 9 B) (wM N B) (9 ^ B) m c ∧ ∀ b : Nat, b < B → M' 45 b = DG 9 B c b := by
  have hT := hr.2.1
  have ht := hT.1
  have hS := hT.2.1
  have hBB := hT.2.2.1
  have h03 := hr.1.1
  have h47 := hr.2.2.2.2.2.2.2.1
  have hB4 : B ≤ 4 := by omega
  have p9 : 1 ≤ 9 ^ B ∧ 9 ^ B ≤ 6561 := by
    have : 9 ^ B ≤ 9 ^ 4 := Nat.pow_le_pow_right (by omega) hB4
    have e : (9 : Nat) ^ 4 = 6561 := by decide
    exact ⟨Nat.one_le_pow _ _ (by omega), by omega⟩
  have hm := nowMR0 hr
  have hkn : ∀ p, 0 ≤ p → p < N 35 0 → 0 ≤ N 38 p ∧ N 38 p ≤ 99 := fun p a b => (hT.2.2.2.2.2.2.2.1 p a b).2.2.1.2
  have key : wpo (f_X9_bestMatch Mc) (fun z => FC t Mc z.2 ∧ ∃ c, 0 ≤ z.1 ∧ z.1 ≤ 400 ∧ BST (PV (okMa N) frMa 9 B) (wM N B) (9 ^ B) z.1 c ∧ ∀ b : Nat, b < B → z.2 45 b = DG 9 B c b) := by
    unfold f_X9_bestMatch
    simp (disch := omega) only [w32_id, q_gf_e, q_gr_e, q_pf_e, q_pz_e, q_let_e, q_call_e, q_calp_e, q_al_ok, q_as_ok, q_nz_ok, up_same, up_nei, up_ne1, Int.toNat_natCast, reduceIte, Int.reduceEq, Int.reduceLT, Int.reduceLE, Int.reduceNeg, not_true_eq_false, not_false_eq_true, h03, readyC]
    unfold f_X9_bestMatch_L17
    refine qlm1_N (fun x M => 0 ≤ x ∧ x ≤ B ∧ MR t 4 0 0 0 M N ∧ FC t Mc M ∧ ∀ b : Int, 0 ≤ b → b < x → MB b (N 69 0) N (M 46 b)) (fun x _ => (4 - x).toNat) _ _ ⟨by omega, by omega, hm, fun n hn => RDY.ne (by unfold KC at hn; omega), fun b a c => by omega⟩ (by omega) ?_
    intro x M g ⟨i1, i2, i3, i4, i5⟩ ih
    have e03 : M 0 3 = t := by rw [i4 0 (by unfold KC; omega)]; exact h03
    have et7 : M t 7 = B := by rw [i4 t (by unfold KC; omega)]; omega
    unfold f_X9_bestMatch_B17
    simp (disch := omega) only [w32_id, q_gf_e, q_gr_e, q_pf_e, q_pz_e, q_let_e, q_call_e, q_calp_e, q_al_ok, q_as_ok, q_nz_ok, up_same, up_nei, up_ne1, Int.toNat_natCast, reduceIte, Int.reduceEq, Int.reduceLT, Int.reduceLE, Int.reduceNeg, not_true_eq_false, not_false_eq_true, e03, et7]
    refine wpo_ite (fun c => ?_) (fun c => ?_)
    · have ex : x = B := by omega
      subst ex
      rw [powerC hB4]
      (try simp (disch := omega) only [w32_id, q_gf_e, q_gr_e, q_pf_e, q_pz_e, q_let_e, q_call_e, q_calp_e, q_al_ok, q_as_ok, q_nz_ok, up_same, up_nei, up_ne1, Int.toNat_natCast, reduceIte, Int.reduceEq, Int.reduceLT, Int.reduceLE, Int.reduceNeg, not_true_eq_false, not_false_eq_true])
      unfold f_X9_bestMatch_L65
      have h46 : ∀ b : Nat, b < B → ∀ p : Int, 0 ≤ p → p < 8 → (Bt (M 46 b) p = true ↔ (p < N 35 0 ∧ N 71 p = 1 ∧ MVP b p N)) := fun b hb p a d => (i5 b (by omega) (by omega)).iff i3 a d
      have hkk : ∀ p, 0 ≤ p → p < N 35 0 → M (32 * (t + 1) + 3) p = N 38 p ∧ 0 ≤ N 38 p ∧ N 38 p ≤ 99 := fun p a b => by
        rw [i4 (32 * (t + 1) + 3) (by unfold KC; omega)]
        exact (hT.2.2.2.2.2.2.2.1 p a b).2.2.1
      refine qlm2_N (fun m l P => ∃ L : Nat, l = L ∧ L ≤ 9 ^ B ∧ -1 ≤ m ∧ m ≤ 400 ∧ (∃ c, BST (PV (okMa N) frMa 9 B) (wM N B) L m c ∧ (0 ≤ m → ∀ b : Nat, b < B → P 45 b = DG 9 B c b)) ∧ ∀ n, n ≠ 44 → n ≠ 45 → P n = M n) (fun _ l _ => (6561 - l).toNat) _ _ _ ⟨0, rfl, by omega, by omega, by omega, ⟨0, .inl ⟨rfl, fun c' h => by omega⟩, fun h => by omega⟩, fun n _ _ => rfl⟩ (by omega) ?_
      have hdec : ∀ L : Nat, L < 6561 → (6561 - ((L : Int) + 1)).toNat < (6561 - (L : Int)).toNat := fun L hL => (Int.toNat_lt_toNat (by omega)).mpr (by omega)
      intro m l P g2 ⟨L, j1, j2, j3, j4, ⟨cb, j5, j6⟩, j7⟩ ih2
      subst j1
      unfold f_X9_bestMatch_B65
      generalize h9 : 9 ^ B = NB at *
      (try simp (disch := omega) only [w32_id, q_gf_e, q_gr_e, q_pf_e, q_pz_e, q_let_e, q_call_e, q_calp_e, q_al_ok, q_as_ok, q_nz_ok, up_same, up_nei, up_ne1, Int.toNat_natCast, reduceIte, Int.reduceEq, Int.reduceLT, Int.reduceLE, Int.reduceNeg, not_true_eq_false, not_false_eq_true])
      refine wpo_ite (fun cl => wpo_some.mpr ?_) (fun cl => ?_)
      · have eL : L = NB := by omega
        subst eL
        refine ⟨fun n hn => ?_, cb, ?_, j4, j5, ?_⟩
        · show P n = Mc n
          rw [j7 n (by unfold KC at hn; omega) (by unfold KC at hn; omega)]; exact i4 n hn
        · rcases j5 with ⟨q1, q2⟩ | ⟨q1, -⟩
          · exact absurd (nobody hB4) (by rw [h9]; exact q2 (L - 1) (by omega))
          · exact q1
        · refine j6 ?_
          rcases j5 with ⟨q1, q2⟩ | ⟨q1, -⟩
          · exact absurd (nobody hB4) (by rw [h9]; exact q2 (L - 1) (by omega))
          · exact q1
      · obtain ⟨⟨v, P1⟩, v1, v2, v3⟩ := pickM (t := t) (B := B) (c := L) (M := P) (N := N) hB4 (by omega) (by rw [j7 0 (by omega) (by omega)]; exact e03) ht (by rw [j7 t (by omega) (by omega)]; exact et7) (by omega) (fun p a b => by rw [j7 (32 * (t + 1) + 3) (by omega) (by omega)]; exact hkk p a b) (fun b hb p a d => by rw [j7 46 (by omega) (by omega)]; exact h46 b hb p a d)
        simp only at v2 v3
        rw [v1]
        (try simp (disch := omega) only [w32_id, q_gf_e, q_gr_e, q_pf_e, q_pz_e, q_let_e, q_call_e, q_calp_e, q_al_ok, q_as_ok, q_nz_ok, up_same, up_nei, up_ne1, Int.toNat_natCast, reduceIte, Int.reduceEq, Int.reduceLT, Int.reduceLE, Int.reduceNeg, not_true_eq_false, not_false_eq_true])
        have hw0 : PV (okMa N) frMa 9 B L → 0 ≤ wM N B L ∧ wM N B L ≤ 400 := fun hv => wM_rng hB4 (by omega) hkn hv
        have vr : -1 ≤ v ∧ v ≤ 400 := by
          rcases v3 with ⟨rfl, hv, -⟩ | ⟨rfl, -⟩
          · have := hw0 hv; omega
          · omega
        rw [w32_id (x := v) (by omega)]
        have e45 : P1 45 = P 45 := v2 45 (by omega)
        refine wpo_ite (fun cv => ?_) (fun cv => ?_)
        · refine ih2 _ _ _ ⟨L + 1, by omega, by omega, j3, j4, ⟨cb, j5.old (fun hv => (hw0 hv).1) (fun hv => ?_), fun h b hb => by rw [e45]; exact j6 h b hb⟩, fun n a b => (v2 n a).trans (j7 n a b)⟩ (hdec L (by omega))
          rcases v3 with ⟨rfl, -, -⟩ | ⟨-, hn⟩
          · exact cv
          · exact absurd hv hn
        · unfold q_cpy
          rw [w32_id (x := 0) (by omega), w32_id (x := 4) (by omega), if_pos (by omega)]
          rcases v3 with ⟨rfl, hv, hd⟩ | ⟨rfl, -⟩
          · refine ih2 _ _ _ ⟨L + 1, by omega, by omega, by omega, by omega, ⟨L, j5.new hv (by omega) (hw0 hv).1, fun _ b hb => ?_⟩, fun n a b => ?_⟩ (hdec L (by omega))
            · unfold q_cp
              rw [if_pos ⟨rfl, by omega, by omega⟩, show 0 + ((b : Int) - 0) = b by omega]
              exact hd b hb
            · funext i
              unfold q_cp
              rw [if_neg (fun h => b h.1), v2 n a, j7 n a b]
          · omega
    · obtain ⟨⟨y, M1⟩, y1, y2, y3⟩ := whoMayC i3 h47 (bus := x) (by omega)
      simp only at y2 y3
      rw [y1]
      (try simp (disch := omega) only [w32_id, q_gf_e, q_gr_e, q_pf_e, q_pz_e, q_let_e, q_call_e, q_calp_e, q_al_ok, q_as_ok, q_nz_ok, up_same, up_nei, up_ne1, Int.toNat_natCast, reduceIte, Int.reduceEq, Int.reduceLT, Int.reduceLE, Int.reduceNeg, not_true_eq_false, not_false_eq_true])
      refine ih _ _ ⟨by omega, by omega, (i3.frm y2 (SM.refl _)).cellX (by omega), i4.trans (FC.trans (y2.fc ht) (fun n hn => up_ne1 (by unfold KC at hn; omega))), fun b a d => ?_⟩ (by omega)
      by_cases e : b = x
      · rw [e, up_same]; exact y3
      · rw [up_nei e, y2 46 (by omega) (by omega) (by omega) (by omega)]
        exact i5 b a (by omega)
  obtain ⟨⟨m, M'⟩, e1, e2, c, e3, e4, e5, e6⟩ := key
  exact ⟨m, M', c, e1, e2, e3, e4, e5, e6⟩
