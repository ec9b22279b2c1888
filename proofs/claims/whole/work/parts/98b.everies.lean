def mxT (b : Int → Bool) (v : Int → Int) : Nat → Int
  | 0 => 0
  | n + 1 => if b n = true then (if mxT b v n < v n then v n else mxT b v n) else mxT b v n
theorem mxT_succ {b : Int → Bool} {v : Int → Int} {x : Int} (h : 0 ≤ x) : mxT b v (x + 1).toNat = if b x = true then (if mxT b v x.toNat < v x then v x else mxT b v x.toNat) else mxT b v x.toNat := by
  have e : (x + 1).toNat = x.toNat + 1 := by omega
  rw [e]
  show (if b (x.toNat : Int) = true then (if mxT b v x.toNat < v (x.toNat : Int) then v (x.toNat : Int) else mxT b v x.toNat) else mxT b v x.toNat) = _
  rw [Int.toNat_of_nonneg h]
theorem mxT_rng {b : Int → Bool} {v : Int → Int} : ∀ n : Nat, (∀ i : Int, 0 ≤ i → i < n → b i = true → 0 ≤ v i ∧ v i ≤ 60) → 0 ≤ mxT b v n ∧ mxT b v n ≤ 60
  | 0, _ => by unfold mxT; omega
  | n + 1, h => by
    have ih := mxT_rng n (fun i a b c => h i a (by omega) c)
    unfold mxT
    split
    · have := h n (by omega) (by omega) (by assumption)
      split <;> omega
    · exact ih
theorem mxT_more {b : Int → Bool} {v : Int → Int} {m : Nat} : ∀ n : Nat, m ≤ n → (∀ i : Int, (m : Int) ≤ i → i < n → b i = false) → mxT b v n = mxT b v m
  | 0, h, _ => by rw [show m = 0 by omega]
  | n + 1, h, hb => by
    by_cases c : m = n + 1
    · rw [c]
    · show (if b n = true then (if mxT b v n < v n then v n else mxT b v n) else mxT b v n) = mxT b v m
      rw [hb n (by omega) (by omega), if_neg (by decide)]
      exact mxT_more n (by omega) (fun i a b => hb i a (by omega))
theorem lastC {S km kb : Int} {Mc M N N2 : Mem} (h : NR S Mc N) (hk : KB km kb N N2) (hr : 0 ≤ km ∧ km ≤ N 0 58 ∧ N 0 58 ≤ 24) (m9 : M 9 = Mc 9) (m320 : M 320 = Mc 320) : f_X5_lastMinutes kb M = some (mxT (Bt kb) (N 92) km.toNat) := by
  obtain ⟨n1, n2, n3, n4, n5, n6, n7⟩ := h
  have hb : ∀ i, 0 ≤ i → i < N 0 58 → Bt kb i = true → Mc 320 i = N 92 i ∧ 0 ≤ N 92 i ∧ N 92 i ≤ 60 := by
    intro i a b c
    have := (hk.2.1 i a (by omega)).mp c
    rcases n7 i a b with ⟨-, -, k3, -⟩ | ⟨-, -, k3, k4, k5, -⟩
    · omega
    · omega
  rw [← wpo_eq]
  unfold f_X5_lastMinutes f_X5_lastMinutes_L4
  refine qlp2_N (fun a x => 0 ≤ x ∧ x ≤ N 0 58 ∧ a = mxT (Bt kb) (N 92) x.toNat) (fun _ x => (24 - x).toNat) _ _ ⟨by omega, by omega, rfl⟩ (by omega) ?_
  intro a x g ⟨i1, i2, i3⟩ ih
  unfold f_X5_lastMinutes_B4
  simp (disch := omega) only [w32_id, q_gf_e, q_gr_e, q_pf_e, q_pz_e, q_let_e, q_call_e, q_calp_e, q_al_ok, q_as_ok, q_nz_ok, up_same, up_nei, up_ne1, Int.toNat_natCast, reduceIte, Int.reduceEq, Int.reduceLT, Int.reduceLE, Int.reduceNeg, not_true_eq_false, not_false_eq_true, m9, n1, m320]
  refine wpo_ite (fun c => wpo_some.mpr ?_) (fun c => ?_)
  · rw [i3, show x = N 0 58 by omega]
    exact mxT_more _ (by omega) (fun i a b => by
      cases hc : Bt kb i
      · rfl
      · have := (hk.2.1 i (by omega) (by omega)).mp hc; omega)
  · have rg := mxT_rng (b := Bt kb) (v := N 92) x.toNat (fun i a b c => (hb i a (by omega) c).2)
    refine wpo_ite (fun cb => ?_) (fun cb => ?_)
    · have cf := (and1 (by omega)).mp cb
      refine ih _ _ ⟨by omega, by omega, ?_⟩ (by omega)
      rw [mxT_succ i1, cf, if_neg (by decide)]; exact i3
    · have ct : Bt kb x = true := by
        cases hc : Bt kb x
        · exact absurd ((and1 (by omega)).mpr hc) cb
        · rfl
      have hx := hb x i1 (by omega) ct
      simp (disch := omega) only [w32_id, q_gf_e, q_gr_e, q_pf_e, q_pz_e, q_let_e, q_call_e, q_calp_e, q_al_ok, q_as_ok, q_nz_ok, up_same, up_nei, up_ne1, Int.toNat_natCast, reduceIte, Int.reduceEq, Int.reduceLT, Int.reduceLE, Int.reduceNeg, not_true_eq_false, not_false_eq_true, m320, hx.1]
      refine ih _ _ ⟨by omega, by omega, ?_⟩ (by omega)
      rw [mxT_succ i1, if_pos ct, i3]
      unfold q_max
      rw [w32_id (by omega), w32_id (by omega)]
theorem lastM {S km kb bus : Int} {Mc N N2 : Mem} (h : NR S Mc N) (hk : KB km kb N N2) (hkm : f_X10_knownMany N = some km) (hr : 0 ≤ km ∧ km ≤ N 0 58 ∧ N 0 58 ≤ 24) : f_X10_everiesOf_L75 bus N2 q_N 0 0 = f_X10_everiesOf_L129 (mxT (Bt kb) (N 92) km.toNat) q_N 0 0 (up N2 0 48 bus) := by
  obtain ⟨n1, n2, n3, n4, n5, n6, n7⟩ := h
  have n0 := hk.2.2.2 0 (by omega)
  have n92 := hk.2.2.2 92 (by omega)
  have n95 := hk.2.2.2 95 (by omega)
  have hk2 : f_X10_knownMany N2 = some km := by rw [knownMs (N := N) (by rw [n0]) (by rw [n0])]; exact hkm
  have hb : ∀ i, 0 ≤ i → i < N 0 58 → N 95 i = -1 → 0 ≤ N 92 i ∧ N 92 i ≤ 60 := by
    intro i a b c
    rcases n7 i a b with ⟨-, -, k3, -⟩ | ⟨-, -, k3, k4, k5, -⟩
    · omega
    · omega
  have key : ∀ (n : Nat) (x a : Int), 0 ≤ x → x ≤ km → a = mxT (Bt kb) (N 92) x.toNat → (km - x).toNat < n → f_X10_everiesOf_L75 bus N2 n a x = f_X10_everiesOf_L129 (mxT (Bt kb) (N 92) km.toNat) q_N 0 0 (up N2 0 48 bus) := by
    intro n
    induction n with
    | zero => intro x a _ _ _ h; exact absurd h (Nat.not_lt_zero _)
    | succ n ih =>
      intro x a h0 h1 ha hn
      show f_X10_everiesOf_B75 bus N2 a x (fun u v => f_X10_everiesOf_L75 bus N2 n u v) = _
      have rg := mxT_rng (b := Bt kb) (v := N 92) x.toNat (fun i a b c => hb i a (by omega) ((hk.2.1 i a (by omega)).mp c).2.2)
      unfold f_X10_everiesOf_B75
      rw [hk2]
      (try simp (disch := omega) only [w32_id, q_gf_e, q_gr_e, q_pf_e, q_pz_e, q_let_e, q_call_e, q_calp_e, q_al_ok, q_as_ok, q_nz_ok, up_same, up_nei, up_ne1, Int.toNat_natCast, reduceIte, Int.reduceEq, Int.reduceLT, Int.reduceLE, Int.reduceNeg, not_true_eq_false, not_false_eq_true])
      by_cases c : km ≤ x
      · rw [if_pos c, ha, show x = km by omega]
      · rw [if_neg c]
        have h96 := hk.2.2.1 x h0 (by omega)
        have hB := hk.2.1 x h0 (by omega)
        have hn7 := n7 x h0 (by omega)
        simp (disch := omega) only [w32_id, q_gf_e, q_gr_e, q_pf_e, q_pz_e, q_let_e, q_call_e, q_calp_e, q_al_ok, q_as_ok, q_nz_ok, up_same, up_nei, up_ne1, Int.toNat_natCast, reduceIte, Int.reduceEq, Int.reduceLT, Int.reduceLE, Int.reduceNeg, not_true_eq_false, not_false_eq_true, n95, n92]
        by_cases c0 : N2 96 x = 0
        · rw [if_neg (by simp [c0])]
          by_cases c5 : N 95 x = -1
          · have ct : Bt kb x = true := hB.mpr ⟨by omega, c0, c5⟩
            have hx := hb x h0 (by omega) c5
            simp (disch := omega) only [w32_id, q_gf_e, q_gr_e, q_pf_e, q_pz_e, q_let_e, q_call_e, q_calp_e, q_al_ok, q_as_ok, q_nz_ok, up_same, up_nei, up_ne1, Int.toNat_natCast, reduceIte, Int.reduceEq, Int.reduceLT, Int.reduceLE, Int.reduceNeg, not_true_eq_false, not_false_eq_true, n92, c5]
            refine ih _ _ (by omega) (by omega) ?_ (by omega)
            rw [mxT_succ h0, if_pos ct, ha]
            unfold q_max
            rw [w32_id (by omega), w32_id (by omega)]
          · have cf : Bt kb x = false := by
              cases hc : Bt kb x
              · rfl
              · exact absurd (hB.mp hc).2.2 c5
            (try simp (disch := omega) only [w32_id, q_gf_e, q_gr_e, q_pf_e, q_pz_e, q_let_e, q_call_e, q_calp_e, q_al_ok, q_as_ok, q_nz_ok, up_same, up_nei, up_ne1, Int.toNat_natCast, reduceIte, Int.reduceEq, Int.reduceLT, Int.reduceLE, Int.reduceNeg, not_true_eq_false, not_false_eq_true])
            rw [if_pos (by omega)]
            refine ih _ _ (by omega) (by omega) ?_ (by omega)
            rw [mxT_succ h0, cf, if_neg (by decide)]; exact ha
        · have cf : Bt kb x = false := by
            cases hc : Bt kb x
            · rfl
            · exact absurd (hB.mp hc).2.1 c0
          rw [if_pos c0]
          refine ih _ _ (by omega) (by omega) ?_ (by omega)
          rw [mxT_succ h0, cf, if_neg (by decide)]; exact ha
  exact key q_N 0 0 (by omega) (by omega) rfl (q_N_lt (by omega))
/-- whether what is known of a minute is so -/
def OKS (kb t : Int) (N M' : Mem) : Prop := ∀ i, 0 ≤ i → i < 24 → Bt kb i = true → N 92 i = t → (M' 71 (8 + N 93 i) = 2 ↔ N 94 i = 1)
theorem areSoC {S km kb tm : Int} {Mc M N N2 M' : Mem} (h : NR S Mc N) (hk : KB km kb N N2) (hr : 0 ≤ km ∧ km ≤ N 0 58 ∧ N 0 58 ≤ 24) (hS : S ≤ 8) (ht : 0 ≤ tm ∧ tm ≤ 100) (m9 : M 9 = Mc 9) (m3 : ∀ n, 320 ≤ n → n ≤ 322 → M n = Mc n) (hw : ∀ p, 0 ≤ p → p < S → M 194 p = M' 71 (8 + p) ∧ 0 ≤ M' 71 (8 + p) ∧ M' 71 (8 + p) ≤ 3) : ∃ z, f_X5_areSo 194 8 kb tm M = some z ∧ ((z = 1 ∧ OKS kb tm N M') ∨ (z = 0 ∧ ¬ OKS kb tm N M')) := by
  obtain ⟨n1, n2, n3, n4, n5, n6, n7⟩ := h
  have key : wpo (f_X5_areSo 194 8 kb tm M) (fun z => ((z = 1 ∧ OKS kb tm N M') ∨ (z = 0 ∧ ¬ OKS kb tm N M'))) := by
    unfold f_X5_areSo f_X5_areSo_L3
    refine qlp1_N (fun x => 0 ≤ x ∧ x ≤ N 0 58 ∧ ∀ i, 0 ≤ i → i < x → Bt kb i = true → N 92 i = tm → (M' 71 (8 + N 93 i) = 2 ↔ N 94 i = 1)) (fun x => (24 - x).toNat) _ ⟨by omega, by omega, fun i a b => by omega⟩ (by omega) ?_
    intro x g ⟨i1, i2, i3⟩ ih
    have e20 := m3 320 (by omega) (by omega)
    have e21 := m3 321 (by omega) (by omega)
    have e22 := m3 322 (by omega) (by omega)
    unfold f_X5_areSo_B3 f_X5_areSo_J36 f_X5_areSo_J37
    simp (disch := omega) only [w32_id, q_gf_e, q_gr_e, q_pf_e, q_pz_e, q_let_e, q_call_e, q_calp_e, q_al_ok, q_as_ok, q_nz_ok, up_same, up_nei, up_ne1, Int.toNat_natCast, reduceIte, Int.reduceEq, Int.reduceLT, Int.reduceLE, Int.reduceNeg, not_true_eq_false, not_false_eq_true, m9, n1]
    refine wpo_ite (fun c => wpo_some.mpr (.inl ⟨rfl, fun i a b d e => ?_⟩)) (fun c => ?_)
    · have hi := (hk.2.1 i a (by omega)).mp d
      exact i3 i a (by omega) d e
    have skip : (Bt kb x = true → N 92 x = tm → (M' 71 (8 + N 93 x) = 2 ↔ N 94 x = 1)) → wpo (g (x + 1)) (fun z => ((z = 1 ∧ OKS kb tm N M') ∨ (z = 0 ∧ ¬ OKS kb tm N M'))) := fun hh => ih _ ⟨by omega, by omega, fun i a b d e => by
      by_cases ci : i = x
      · subst ci; exact hh d e
      · exact i3 i a (by omega) d e⟩ (by omega)
    refine wpo_ite (fun cb => ?_) (fun cb => ?_)
    · have cf := (and1 (by omega)).mp cb
      (try simp (disch := omega) only [w32_id, q_gf_e, q_gr_e, q_pf_e, q_pz_e, q_let_e, q_call_e, q_calp_e, q_al_ok, q_as_ok, q_nz_ok, up_same, up_nei, up_ne1, Int.toNat_natCast, reduceIte, Int.reduceEq, Int.reduceLT, Int.reduceLE, Int.reduceNeg, not_true_eq_false, not_false_eq_true])
      exact skip (fun h => by rw [cf] at h; exact absurd h (by decide))
    · have ct : Bt kb x = true := by
        cases hc : Bt kb x
        · exact absurd ((and1 (by omega)).mpr hc) cb
        · rfl
      have hx := (hk.2.1 x i1 (by omega)).mp ct
      rcases n7 x i1 (by omega) with ⟨-, -, k3, -⟩ | ⟨k1, k2, k3, k4, k5, k6, k7, k8⟩
      · omega
      · have hww := hw (N 93 x) k7 k8
        simp (disch := omega) only [w32_id, q_gf_e, q_gr_e, q_pf_e, q_pz_e, q_let_e, q_call_e, q_calp_e, q_al_ok, q_as_ok, q_nz_ok, up_same, up_nei, up_ne1, Int.toNat_natCast, reduceIte, Int.reduceEq, Int.reduceLT, Int.reduceLE, Int.reduceNeg, not_true_eq_false, not_false_eq_true, e20, k3]
        refine wpo_ite (fun cm => ?_) (fun cm => ?_)
        · (try simp (disch := omega) only [w32_id, q_gf_e, q_gr_e, q_pf_e, q_pz_e, q_let_e, q_call_e, q_calp_e, q_al_ok, q_as_ok, q_nz_ok, up_same, up_nei, up_ne1, Int.toNat_natCast, reduceIte, Int.reduceEq, Int.reduceLT, Int.reduceLE, Int.reduceNeg, not_true_eq_false, not_false_eq_true])
          exact skip (fun _ h => absurd h cm)
        · have cm : N 92 x = tm := by simpa using cm
          simp (disch := omega) only [w32_id, q_gf_e, q_gr_e, q_pf_e, q_pz_e, q_let_e, q_call_e, q_calp_e, q_al_ok, q_as_ok, q_nz_ok, up_same, up_nei, up_ne1, Int.toNat_natCast, reduceIte, Int.reduceEq, Int.reduceLT, Int.reduceLE, Int.reduceNeg, not_true_eq_false, not_false_eq_true, e21, k6, hww.1]
          unfold f_X5_areSo_J62 f_X5_areSo_J77
          simp (disch := omega) only [w32_id, q_gf_e, q_gr_e, q_pf_e, q_pz_e, q_let_e, q_call_e, q_calp_e, q_al_ok, q_as_ok, q_nz_ok, up_same, up_nei, up_ne1, Int.toNat_natCast, reduceIte, Int.reduceEq, Int.reduceLT, Int.reduceLE, Int.reduceNeg, not_true_eq_false, not_false_eq_true, e22]
          have bad : ¬ (M' 71 (8 + N 93 x) = 2 ↔ N 94 x = 1) → ¬ OKS kb tm N M' := fun hb hO => hb (hO x i1 (by omega) ct cm)
          by_cases cg : M' 71 (8 + N 93 x) = 2
          · rw [if_neg (by simp [cg])]
            rcases k1 with ⟨q1, q2⟩ | ⟨q1, q2⟩
            · simp (disch := omega) only [w32_id, q_gf_e, q_gr_e, q_pf_e, q_pz_e, q_let_e, q_call_e, q_calp_e, q_al_ok, q_as_ok, q_nz_ok, up_same, up_nei, up_ne1, Int.toNat_natCast, reduceIte, Int.reduceEq, Int.reduceLT, Int.reduceLE, Int.reduceNeg, not_true_eq_false, not_false_eq_true, q1]
              exact skip (fun _ _ => ⟨fun _ => q2, fun _ => cg⟩)
            · simp (disch := omega) only [w32_id, q_gf_e, q_gr_e, q_pf_e, q_pz_e, q_let_e, q_call_e, q_calp_e, q_al_ok, q_as_ok, q_nz_ok, up_same, up_nei, up_ne1, Int.toNat_natCast, reduceIte, Int.reduceEq, Int.reduceLT, Int.reduceLE, Int.reduceNeg, not_true_eq_false, not_false_eq_true, q1]
              exact wpo_some.mpr (.inr ⟨rfl, bad (fun h => by have := h.mp cg; omega)⟩)
          · rw [if_pos cg]
            rcases k1 with ⟨q1, q2⟩ | ⟨q1, q2⟩
            · simp (disch := omega) only [w32_id, q_gf_e, q_gr_e, q_pf_e, q_pz_e, q_let_e, q_call_e, q_calp_e, q_al_ok, q_as_ok, q_nz_ok, up_same, up_nei, up_ne1, Int.toNat_natCast, reduceIte, Int.reduceEq, Int.reduceLT, Int.reduceLE, Int.reduceNeg, not_true_eq_false, not_false_eq_true, q1]
              exact wpo_some.mpr (.inr ⟨rfl, bad (fun h => cg (h.mpr q2))⟩)
            · simp (disch := omega) only [w32_id, q_gf_e, q_gr_e, q_pf_e, q_pz_e, q_let_e, q_call_e, q_calp_e, q_al_ok, q_as_ok, q_nz_ok, up_same, up_nei, up_ne1, Int.toNat_natCast, reduceIte, Int.reduceEq, Int.reduceLT, Int.reduceLE, Int.reduceNeg, not_true_eq_false, not_false_eq_true, q1]
              exact skip (fun _ _ => ⟨fun h => absurd h cg, fun h => by omega⟩)
  obtain ⟨z, z1, z2⟩ := key
  exact ⟨z, z1, z2⟩
theorem isSoM {S km kb tm : Int} {Mc N N2 M' : Mem} (h : NR S Mc N) (hk : KB km kb N N2) (hkm : f_X10_knownMany N = some km) (hr : 0 ≤ km ∧ km ≤ N 0 58 ∧ N 0 58 ≤ 24) (hS : S ≤ 8) (ht : 0 ≤ tm ∧ tm ≤ 100) (m0 : M' 0 58 = N 0 58 ∧ M' 0 59 = N 0 59) (m9 : ∀ n, 92 ≤ n → n ≤ 95 → M' n = N n) (m96 : M' 96 = N2 96) (hw : ∀ p, 0 ≤ p → p < S → 0 ≤ M' 71 (8 + p) ∧ M' 71 (8 + p) ≤ 3) : ∃ z, f_X10_isSo tm M' = some z ∧ ((z = 1 ∧ OKS kb tm N M') ∨ (z = 0 ∧ ¬ OKS kb tm N M')) := by
  obtain ⟨n1, n2, n3, n4, n5, n6, n7⟩ := h
  have hk2 : f_X10_knownMany M' = some km := by rw [knownMs m0.1 m0.2]; exact hkm
  have key : wpo (f_X10_isSo tm M') (fun z => ((z = 1 ∧ OKS kb tm N M') ∨ (z = 0 ∧ ¬ OKS kb tm N M'))) := by
    unfold f_X10_isSo f_X10_isSo_L2
    refine qlp1_N (fun x => 0 ≤ x ∧ x ≤ km ∧ ∀ i, 0 ≤ i → i < x → Bt kb i = true → N 92 i = tm → (M' 71 (8 + N 93 i) = 2 ↔ N 94 i = 1)) (fun x => (24 - x).toNat) _ ⟨by omega, by omega, fun i a b => by omega⟩ (by omega) ?_
    intro x g ⟨i1, i2, i3⟩ ih
    have e92 := m9 92 (by omega) (by omega)
    have e93 := m9 93 (by omega) (by omega)
    have e94 := m9 94 (by omega) (by omega)
    have e95 := m9 95 (by omega) (by omega)
    unfold f_X10_isSo_B2
    rw [hk2]
    (try simp (disch := omega) only [w32_id, q_gf_e, q_gr_e, q_pf_e, q_pz_e, q_let_e, q_call_e, q_calp_e, q_al_ok, q_as_ok, q_nz_ok, up_same, up_nei, up_ne1, Int.toNat_natCast, reduceIte, Int.reduceEq, Int.reduceLT, Int.reduceLE, Int.reduceNeg, not_true_eq_false, not_false_eq_true])
    refine wpo_ite (fun c => wpo_some.mpr (.inl ⟨rfl, fun i a b d e => ?_⟩)) (fun c => ?_)
    · have hi := (hk.2.1 i a (by omega)).mp d
      exact i3 i a (by omega) d e
    have skip : (Bt kb x = true → N 92 x = tm → (M' 71 (8 + N 93 x) = 2 ↔ N 94 x = 1)) → wpo (g (x + 1)) (fun z => ((z = 1 ∧ OKS kb tm N M') ∨ (z = 0 ∧ ¬ OKS kb tm N M'))) := fun hh => ih _ ⟨by omega, by omega, fun i a b d e => by
      by_cases ci : i = x
      · subst ci; exact hh d e
      · exact i3 i a (by omega) d e⟩ (by omega)
    have h96 := hk.2.2.1 x i1 (by omega)
    have hB := hk.2.1 x i1 (by omega)
    have hn7 := n7 x i1 (by omega)
    simp (disch := omega) only [w32_id, q_gf_e, q_gr_e, q_pf_e, q_pz_e, q_let_e, q_call_e, q_calp_e, q_al_ok, q_as_ok, q_nz_ok, up_same, up_nei, up_ne1, Int.toNat_natCast, reduceIte, Int.reduceEq, Int.reduceLT, Int.reduceLE, Int.reduceNeg, not_true_eq_false, not_false_eq_true, m96]
    refine wpo_ite (fun c0 => skip (fun h => absurd (hB.mp h).2.1 c0)) (fun c0 => ?_)
    rcases hn7 with ⟨-, -, k3, k4⟩ | ⟨k1, k2, k3, k4, k5, k6, k7, k8⟩
    · simp (disch := omega) only [w32_id, q_gf_e, q_gr_e, q_pf_e, q_pz_e, q_let_e, q_call_e, q_calp_e, q_al_ok, q_as_ok, q_nz_ok, up_same, up_nei, up_ne1, Int.toNat_natCast, reduceIte, Int.reduceEq, Int.reduceLT, Int.reduceLE, Int.reduceNeg, not_true_eq_false, not_false_eq_true, e95]
      rw [if_pos (by omega)]
      exact skip (fun h => by have := (hB.mp h).2.2; omega)
    · have c0 : N2 96 x = 0 := by simpa using c0
      have ct : Bt kb x = true := hB.mpr ⟨by omega, c0, k2⟩
      have hww := hw (N 93 x) k7 k8
      simp (disch := omega) only [w32_id, q_gf_e, q_gr_e, q_pf_e, q_pz_e, q_let_e, q_call_e, q_calp_e, q_al_ok, q_as_ok, q_nz_ok, up_same, up_nei, up_ne1, Int.toNat_natCast, reduceIte, Int.reduceEq, Int.reduceLT, Int.reduceLE, Int.reduceNeg, not_true_eq_false, not_false_eq_true, e95, k2, e92, e93]
      have bad : N 92 x = tm → ¬ (M' 71 (8 + N 93 x) = 2 ↔ N 94 x = 1) → ¬ OKS kb tm N M' := fun cm hb hO => hb (hO x i1 (by omega) ct cm)
      refine wpo_ite (fun cm => ?_) (fun cm => skip (fun _ h => absurd h cm))
      unfold f_X10_isSo_J65
      simp (disch := omega) only [w32_id, q_gf_e, q_gr_e, q_pf_e, q_pz_e, q_let_e, q_call_e, q_calp_e, q_al_ok, q_as_ok, q_nz_ok, up_same, up_nei, up_ne1, Int.toNat_natCast, reduceIte, Int.reduceEq, Int.reduceLT, Int.reduceLE, Int.reduceNeg, not_true_eq_false, not_false_eq_true, e94]
      by_cases cg : M' 71 (8 + N 93 x) = 2
      · rw [if_neg (by simp [cg])]
        rcases k1 with ⟨q1, q2⟩ | ⟨q1, q2⟩
        · simp (disch := omega) only [w32_id, q_gf_e, q_gr_e, q_pf_e, q_pz_e, q_let_e, q_call_e, q_calp_e, q_al_ok, q_as_ok, q_nz_ok, up_same, up_nei, up_ne1, Int.toNat_natCast, reduceIte, Int.reduceEq, Int.reduceLT, Int.reduceLE, Int.reduceNeg, not_true_eq_false, not_false_eq_true, q2]
          exact skip (fun _ _ => ⟨fun _ => q2, fun _ => cg⟩)
        · simp (disch := omega) only [w32_id, q_gf_e, q_gr_e, q_pf_e, q_pz_e, q_let_e, q_call_e, q_calp_e, q_al_ok, q_as_ok, q_nz_ok, up_same, up_nei, up_ne1, Int.toNat_natCast, reduceIte, Int.reduceEq, Int.reduceLT, Int.reduceLE, Int.reduceNeg, not_true_eq_false, not_false_eq_true, q2]
          exact wpo_some.mpr (.inr ⟨rfl, bad cm (fun h => by have := h.mp cg; omega)⟩)
      · rw [if_pos cg]
        rcases k1 with ⟨q1, q2⟩ | ⟨q1, q2⟩
        · simp (disch := omega) only [w32_id, q_gf_e, q_gr_e, q_pf_e, q_pz_e, q_let_e, q_call_e, q_calp_e, q_al_ok, q_as_ok, q_nz_ok, up_same, up_nei, up_ne1, Int.toNat_natCast, reduceIte, Int.reduceEq, Int.reduceLT, Int.reduceLE, Int.reduceNeg, not_true_eq_false, not_false_eq_true, q2]
          exact wpo_some.mpr (.inr ⟨rfl, bad cm (fun h => cg (h.mpr q2))⟩)
        · simp (disch := omega) only [w32_id, q_gf_e, q_gr_e, q_pf_e, q_pz_e, q_let_e, q_call_e, q_calp_e, q_al_ok, q_as_ok, q_nz_ok, up_same, up_nei, up_ne1, Int.toNat_natCast, reduceIte, Int.reduceEq, Int.reduceLT, Int.reduceLE, Int.reduceNeg, not_true_eq_false, not_false_eq_true, q2]
          exact skip (fun _ _ => ⟨fun h => absurd h cg, fun h => by omega⟩)
  obtain ⟨z, z1, z2⟩ := key
  exact ⟨z, z1, z2⟩
