theorem knownW {S : Int} {Mc N : Mem} (h : NR S Mc N) : ∃ km, f_X5_knownMany Mc = some km ∧ f_X10_knownMany N = some km ∧ 0 ≤ km ∧ km ≤ N 0 58 ∧ N 0 58 ≤ 24 ∧ Mc 9 3 = N 0 58 := by
  obtain ⟨n1, n2, n3, n4, n5, n6, -⟩ := h
  unfold f_X5_knownMany f_X10_knownMany
  simp (disch := omega) only [w32_id, q_gf_e, q_gr_e, q_pf_e, q_pz_e, q_let_e, q_call_e, q_calp_e, q_al_ok, q_as_ok, q_nz_ok, up_same, up_nei, up_ne1, Int.toNat_natCast, reduceIte, Int.reduceEq, Int.reduceLT, Int.reduceLE, Int.reduceNeg, not_true_eq_false, not_false_eq_true, n1, n4]
  by_cases c : N 0 59 = -1
  · exact ⟨N 0 58, by rw [if_neg (by omega)], by rw [if_neg (by omega)], n2, by omega, n3, trivial⟩
  · exact ⟨N 0 59, by rw [if_pos (by omega)], by rw [if_pos (by omega)], by omega, n6, n3, trivial⟩
theorem knownMs {N N' : Mem} (h58 : N' 0 58 = N 0 58) (h59 : N' 0 59 = N 0 59) : f_X10_knownMany N' = f_X10_knownMany N := by
  unfold f_X10_knownMany
  simp only [q_gf_e]
  rw [h58, h59]
def RS96 (y : Int) (N : Mem) : Mem := fun n i => if n = 96 ∧ 0 ≤ i ∧ i < y then 0 else N n i
/-- what is known: bits on one side, marks on the other -/
def KB (km kb : Int) (N N2 : Mem) : Prop := in32 kb ∧ (∀ i, 0 ≤ i → i < 32 → (Bt kb i = true ↔ (i < km ∧ N2 96 i = 0 ∧ N 95 i = -1))) ∧ (∀ i, 0 ≤ i → i < km → N2 96 i = 0 ∨ N2 96 i = 1) ∧ ∀ n, n ≠ 96 → N2 n = N n
theorem knownBitsW {S bus : Int} {Mc N : Mem} (h : NR S Mc N) {km : Int} (hk : f_X5_knownMany Mc = some km) (hk' : f_X10_knownMany N = some km) (hr : 0 ≤ km ∧ km ≤ N 0 58 ∧ N 0 58 ≤ 24) : W2 (f_X5_knownBits Mc) (f_X10_everiesOf bus N) some (fun N2 => f_X10_everiesOf_L75 bus N2 q_N 0 0) (fun kb N2 => KB km kb N N2) := by
  have h' := h
  obtain ⟨n1, n2, n3, n4, n5, n6, n7⟩ := h'
  -- the marks are taken away
  have reset : f_X10_everiesOf bus N = f_X10_everiesOf_L32 bus 0 q_N (km - 1) (RS96 km N) := by
    have key : ∀ (n : Nat) (y : Int), 0 ≤ y → y ≤ km → (km - y).toNat < n → f_X10_everiesOf_L4 bus 0 n y (RS96 y N) = f_X10_everiesOf_L32 bus 0 q_N (km - 1) (RS96 km N) := by
      intro n
      induction n with
      | zero => intro y _ _ h; exact absurd h (Nat.not_lt_zero _)
      | succ n ih =>
        intro y h0 h1 hn
        show f_X10_everiesOf_B4 bus 0 y (RS96 y N) (fun a b => f_X10_everiesOf_L4 bus 0 n a b) = _
        unfold f_X10_everiesOf_B4
        rw [knownMs (N := N) (by simp [RS96]) (by simp [RS96]), hk']
        (try simp (disch := omega) only [w32_id, q_gf_e, q_gr_e, q_pf_e, q_pz_e, q_let_e, q_call_e, q_calp_e, q_al_ok, q_as_ok, q_nz_ok, up_same, up_nei, up_ne1, Int.toNat_natCast, reduceIte, Int.reduceEq, Int.reduceLT, Int.reduceLE, Int.reduceNeg, not_true_eq_false, not_false_eq_true])
        by_cases c : km ≤ y
        · rw [if_pos c, show y = km by omega]
        · rw [if_neg c, if_pos (by simp)]
          have e : up (RS96 y N) 96 y 0 = RS96 (y + 1) N := by
            funext n i
            unfold up RS96
            by_cases d : n = 96 ∧ i = y
            · rw [if_pos d, if_pos (by omega)]
            · rw [if_neg d]
              by_cases d2 : n = 96 ∧ 0 ≤ i ∧ i < y
              · rw [if_pos d2, if_pos (by omega)]
              · rw [if_neg d2, if_neg (by omega)]
          rw [e]
          exact ih (y + 1) (by omega) (by omega) (by omega)
    have e0 : RS96 0 N = N := by
      funext n i
      unfold RS96
      rw [if_neg (by omega)]
    have := key q_N 0 (by omega) (by omega) (q_N_lt (by omega))
    rw [e0] at this
    unfold f_X10_everiesOf
    exact this
  rw [reset]
  unfold f_X5_knownBits
  rw [hk]
  have qm : q_min km (N 0 58) = km := by
    unfold q_min
    rw [w32_id (by omega), w32_id (by omega), if_neg (by omega)]
  simp (disch := omega) only [w32_id, q_gf_e, q_gr_e, q_pf_e, q_pz_e, q_let_e, q_call_e, q_calp_e, q_al_ok, q_as_ok, q_nz_ok, up_same, up_nei, up_ne1, Int.toNat_natCast, reduceIte, Int.reduceEq, Int.reduceLT, Int.reduceLE, Int.reduceNeg, not_true_eq_false, not_false_eq_true, n1, qm]
  unfold f_X5_knownBits_L18 f_X10_everiesOf_L32
  refine lock (fun m (u : Int × Int × Int) => qlp3 (fun x1 x2 x3 g18 => f_X5_knownBits_B18 Mc x1 x2 x3 g18) m u.1 u.2.1 u.2.2) (fun m (u : Int × Mem) => qlm1 (fun x3 M g32 => f_X10_everiesOf_B32 bus 0 x3 M g32) m u.1 u.2) _ _ _ (fun u v => u.2.2 = v.1 ∧ -1 ≤ v.1 ∧ v.1 < km ∧ in32 u.2.1 ∧ (∀ i, 0 ≤ i → i < km → v.2 96 i = if Bt u.1 i = true then 1 else 0) ∧ (∀ i, 0 ≤ i → i < 32 → (Bt u.2.1 i = true ↔ (v.1 < i ∧ i < km ∧ v.2 96 i = 0 ∧ N 95 i = -1))) ∧ ∀ n, n ≠ 96 → v.2 n = N n) (fun u v => (v.1 + 1).toNat) ?_ q_N q_N (0, 0, km - 1) (km - 1, _) ⟨rfl, by show -1 ≤ km - 1; omega, by show km - 1 < km; omega, by show in32 0; unfold in32; omega, ?_, ?_, ?_⟩ (q_N_lt (by show (km - 1 + 1).toNat < 100000; omega)) (q_N_lt (by show (km - 1 + 1).toNat < 100000; omega))
  · intro m m' ⟨x1, x2, x3⟩ ⟨y, M'⟩ ⟨i1, i2, i3, i4, i5, i6, i7⟩ ih
    simp only at i1 i2 i3 i4 i5 i6 i7 ih
    subst i1
    show W2 (f_X5_knownBits_B18 Mc x1 x2 x3 (qlp3 (fun x1 x2 x3 g18 => f_X5_knownBits_B18 Mc x1 x2 x3 g18) m)) (f_X10_everiesOf_B32 bus 0 x3 M' (qlm1 (fun x3 M g32 => f_X10_everiesOf_B32 bus 0 x3 M g32) m')) _ _ _
    generalize qlp3 (fun x1 x2 x3 g18 => f_X5_knownBits_B18 Mc x1 x2 x3 g18) m = Gc at ih ⊢
    generalize qlm1 (fun x3 M g32 => f_X10_everiesOf_B32 bus 0 x3 M g32) m' = Gm at ih ⊢
    unfold f_X5_knownBits_B18 f_X10_everiesOf_B32
    (try simp (disch := omega) only [w32_id, q_gf_e, q_gr_e, q_pf_e, q_pz_e, q_let_e, q_call_e, q_calp_e, q_al_ok, q_as_ok, q_nz_ok, up_same, up_nei, up_ne1, Int.toNat_natCast, reduceIte, Int.reduceEq, Int.reduceLT, Int.reduceLE, Int.reduceNeg, not_true_eq_false, not_false_eq_true])
    by_cases c : x3 < 0
    · rw [if_pos c, if_pos c]
      refine W2.ok x2 M' rfl rfl ⟨i4, fun i a b => ?_, fun i a b => ?_, i7⟩
      · rw [i6 i a b]
        constructor
        · intro h; exact h.2
        · intro h; exact ⟨by omega, h⟩
      · rw [i5 i a b]; split <;> omega
    rw [if_neg c, if_neg c]
    have e96 := i5 x3 (by omega) i3
    have e95 : M' 95 = N 95 := i7 95 (by omega)
    have hn := n7 x3 (by omega) (by omega)
    by_cases cs : Bt x1 x3 = true
    · -- struck
      rw [if_pos cs] at e96
      have n1' : ¬ w32 (q_and x1 (q_shl 1 x3)) = 0 := fun e => by rw [(and1 (by omega)).mp e] at cs; exact absurd cs (by decide)
      simp (disch := omega) only [w32_id, q_gf_e, q_gr_e, q_pf_e, q_pz_e, q_let_e, q_call_e, q_calp_e, q_al_ok, q_as_ok, q_nz_ok, up_same, up_nei, up_ne1, Int.toNat_natCast, reduceIte, Int.reduceEq, Int.reduceLT, Int.reduceLE, Int.reduceNeg, not_true_eq_false, not_false_eq_true, e96]
      rw [if_pos n1']
      refine ih (x1, x2, x3 + -1) (x3 + -1, M') ⟨rfl, by show -1 ≤ x3 + -1; omega, by show x3 + -1 < km; omega, i4, i5, fun i a b => ?_, i7⟩ (by show (x3 + -1 + 1).toNat < (x3 + 1).toNat; omega)
      show Bt x2 i = true ↔ (x3 + -1 < i ∧ i < km ∧ M' 96 i = 0 ∧ N 95 i = -1)
      rw [i6 i a b]
      constructor
      · intro ⟨a1, a2⟩; exact ⟨by omega, a2⟩
      · intro ⟨a1, a2, a3, a4⟩
        refine ⟨?_, a2, a3, a4⟩
        by_cases e : i = x3
        · subst e; omega
        · omega
    · have cf : Bt x1 x3 = false := by simpa using cs
      rw [if_neg cs] at e96
      have n0 : ¬ ¬ w32 (q_and x1 (q_shl 1 x3)) = 0 := fun h => h ((and1 (by omega)).mpr cf)
      simp (disch := omega) only [w32_id, q_gf_e, q_gr_e, q_pf_e, q_pz_e, q_let_e, q_call_e, q_calp_e, q_al_ok, q_as_ok, q_nz_ok, up_same, up_nei, up_ne1, Int.toNat_natCast, reduceIte, Int.reduceEq, Int.reduceLT, Int.reduceLE, Int.reduceNeg, not_true_eq_false, not_false_eq_true, e96, e95]
      rw [if_neg n0]
      rcases hn with ⟨k1, k2, k3, k4⟩ | ⟨k1, k2, k3, k4, k5, k6, k7, k8⟩
      · -- it strikes
        simp (disch := omega) only [w32_id, q_gf_e, q_gr_e, q_pf_e, q_pz_e, q_let_e, q_call_e, q_calp_e, q_al_ok, q_as_ok, q_nz_ok, up_same, up_nei, up_ne1, Int.toNat_natCast, reduceIte, Int.reduceEq, Int.reduceLT, Int.reduceLE, Int.reduceNeg, not_true_eq_false, not_false_eq_true, k1, k2]
        rw [if_neg (by omega), if_pos (by simp)]
        refine ih (q_or x1 (q_shl 1 (N 95 x3)), x2, x3 + -1) (x3 + -1, up M' 96 (N 95 x3) 1) ⟨rfl, by show -1 ≤ x3 + -1; omega, by show x3 + -1 < km; omega, i4, fun i a b => ?_, fun i a b => ?_, fun n a => (up_ne1 a).trans (i7 n a)⟩ (by show (x3 + -1 + 1).toNat < (x3 + 1).toNat; omega)
        · show up M' 96 (N 95 x3) 1 96 i = if Bt (q_or x1 (q_shl 1 (N 95 x3))) i = true then 1 else 0
          rw [Bt_or, Bt_shl (by omega) a]
          by_cases e : i = N 95 x3
          · rw [e, up_same]; simp
          · have e' : ¬ N 95 x3 = i := fun h => e h.symm
            rw [up_nei e, i5 i a b]; simp [e']
        · show Bt x2 i = true ↔ (x3 + -1 < i ∧ i < km ∧ up M' 96 (N 95 x3) 1 96 i = 0 ∧ N 95 i = -1)
          rw [i6 i a b]
          constructor
          · intro ⟨a1, a2, a3, a4⟩
            exact ⟨by omega, a2, by rw [up_nei (by omega)]; exact a3, a4⟩
          · intro ⟨a1, a2, a3, a4⟩
            by_cases e : i = x3
            · subst e; omega
            · rw [up_nei (by omega)] at a3
              exact ⟨by omega, a2, a3, a4⟩
      · -- it tells
        have k9 : ¬ Mc 322 x3 = 2 := by omega
        simp (disch := omega) only [w32_id, q_gf_e, q_gr_e, q_pf_e, q_pz_e, q_let_e, q_call_e, q_calp_e, q_al_ok, q_as_ok, q_nz_ok, up_same, up_nei, up_ne1, Int.toNat_natCast, reduceIte, Int.reduceEq, Int.reduceLT, Int.reduceLE, Int.reduceNeg, not_true_eq_false, not_false_eq_true, k2]
        rw [if_pos k9]
        refine ih (x1, q_or x2 (q_shl 1 x3), x3 + -1) (x3 + -1, M') ⟨rfl, by show -1 ≤ x3 + -1; omega, by show x3 + -1 < km; omega, q_or_rng _ _, i5, fun i a b => ?_, i7⟩ (by show (x3 + -1 + 1).toNat < (x3 + 1).toNat; omega)
        show Bt (q_or x2 (q_shl 1 x3)) i = true ↔ (x3 + -1 < i ∧ i < km ∧ M' 96 i = 0 ∧ N 95 i = -1)
        rw [Bt_or, Bt_shl (by omega) a]
        by_cases e : i = x3
        · subst e
          simp
          exact ⟨by omega, i3, e96, k2⟩
        · have e' : ¬ x3 = i := fun h => e h.symm
          simp only [e', decide_false, Bool.or_false]
          rw [i6 i a b]
          constructor
          · intro ⟨a1, a2⟩; exact ⟨by omega, a2⟩
          · intro ⟨a1, a2⟩; exact ⟨by omega, a2⟩
  · intro i a b
    show RS96 km N 96 i = if Bt 0 i = true then 1 else 0
    unfold RS96
    rw [if_pos ⟨rfl, a, b⟩, Bt_0]; rfl
  · intro i a b
    show Bt 0 i = true ↔ _
    rw [Bt_0]
    constructor
    · intro h; exact absurd h (by decide)
    · intro h
      obtain ⟨h1, h2, -⟩ := h
      have h1 : km - 1 < i := h1
      omega
  · intro n a
    funext i
    show RS96 km N n i = N n i
    unfold RS96
    rw [if_neg (fun h => a h.1)]
