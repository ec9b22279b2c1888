set_option maxHeartbeats 1000000 in
theorem everW {t : Nat} {bus : Int} {Mc N : Mem} (hr : RelT t Mc N) (hb : 0 ≤ bus ∧ bus < N 35 1) : ∃ kb set Mc' N', f_X5_knownBits Mc = some kb ∧ f_X9_everies_L23 bus kb q_N 0 1 Mc = some (set, Mc') ∧ f_X10_everiesOf bus N = some (set, N') ∧ FC t Mc Mc' ∧ FM N N' ∧ 0 ≤ set ∧ set < 1073741824 := by
  have hNR := hr.2.2.2.2.2.1
  have h48 := hr.2.2.2.2.2.2.2.2
  obtain ⟨km, k1, k2, k3, k4, k5, -⟩ := knownW hNR
  obtain ⟨kb, N2, w1, w2, w3⟩ := knownBitsW (bus := bus) hNR k1 k2 ⟨k3, k4, k5⟩
  have n2 := w3.2.2.2
  have w2 : f_X10_everiesOf bus N = f_X10_everiesOf_L75 bus N2 q_N 0 0 := w2
  rw [w2, lastM hNR w3 k2 ⟨k3, k4, k5⟩]
  have hE0 : EI t bus Mc N N2 Mc (up N2 0 48 bus) := ⟨FC.refl _ _, fun n a _ _ _ _ => up_ne1 a, fun f _ _ a _ => up_nei a, up_same _ _ _ _, fun n i a b _ => by rw [up_ne1 (by omega)], fun n i a b _ => by rw [up_ne1 (by omega)]⟩
  have key : W2 (f_X9_everies_L23 bus kb q_N 0 1 Mc) (f_X10_everiesOf_L129 (mxT (Bt kb) (N 92) km.toNat) q_N 0 0 (up N2 0 48 bus)) some some (fun x y => x.1 = y.1 ∧ (0 ≤ x.1 ∧ x.1 < 1073741824) ∧ FC t Mc x.2 ∧ FM N y.2) := by
    unfold f_X9_everies_L23 f_X10_everiesOf_L129
    refine lock (fun m (u : Int × Int × Mem) => qlm2 (fun x3 x4 M g23 => f_X9_everies_B23 bus kb x3 x4 M g23) m u.1 u.2.1 u.2.2) (fun m (u : Int × Int × Mem) => qlm2 (fun x3 x4 M g129 => f_X10_everiesOf_B129 (mxT (Bt kb) (N 92) km.toNat) x3 x4 M g129) m u.1 u.2.1 u.2.2) _ _ _ (fun u v => u.1 = v.1 ∧ in32 v.1 ∧ (∀ p : Int, v.2.1 ≤ p → p < 32 → Bt v.1 p = false) ∧ u.2.1 = v.2.1 + 1 ∧ 0 ≤ v.2.1 ∧ v.2.1 ≤ 30 ∧ EI t bus Mc N N2 u.2.2 v.2.2) (fun u v => (30 - v.2.1).toNat) ?_ q_N q_N (0, 1, Mc) (0, 0, up N2 0 48 bus) ⟨rfl, by show in32 0; unfold in32; omega, fun p _ _ => Bt_0 p, rfl, by show (0 : Int) ≤ 0; omega, by show (0 : Int) ≤ 30; omega, hE0⟩ (q_N_lt (by show (30 - 0 : Int).toNat < 100000; omega)) (q_N_lt (by show (30 - 0 : Int).toNat < 100000; omega))
    intro m m' ⟨s, x4, M⟩ ⟨s', y, M'⟩ ⟨i1, i2, i3, i4, i5, i6, i7⟩ ih
    simp only at i1 i2 i3 i4 i5 i6 i7 ih
    subst i1 i4
    show W2 (f_X9_everies_B23 bus kb s (y + 1) M (qlm2 (fun x3 x4 M g23 => f_X9_everies_B23 bus kb x3 x4 M g23) m)) (f_X10_everiesOf_B129 (mxT (Bt kb) (N 92) km.toNat) s y M' (qlm2 (fun x3 x4 M g129 => f_X10_everiesOf_B129 (mxT (Bt kb) (N 92) km.toNat) x3 x4 M g129) m')) _ _ _
    generalize qlm2 (fun x3 x4 M g23 => f_X9_everies_B23 bus kb x3 x4 M g23) m = Gc at ih ⊢
    generalize qlm2 (fun x3 x4 M g129 => f_X10_everiesOf_B129 (mxT (Bt kb) (N 92) km.toNat) x3 x4 M g129) m' = Gm at ih ⊢
    unfold f_X9_everies_B23 f_X10_everiesOf_B129
    (try simp (disch := omega) only [w32_id, q_gf_e, q_gr_e, q_pf_e, q_pz_e, q_let_e, q_call_e, q_calp_e, q_al_ok, q_as_ok, q_nz_ok, up_same, up_nei, up_ne1, Int.toNat_natCast, reduceIte, Int.reduceEq, Int.reduceLT, Int.reduceLE, Int.reduceNeg, not_true_eq_false, not_false_eq_true])
    by_cases c : 30 ≤ y
    · rw [if_pos (by omega), if_pos c]
      have sb := bits_lt (n := 30) i2 (by omega) (fun p a b => i3 p (by omega) b)
      refine W2.ok (s, M) (s, up M' 0 48 (-1)) rfl rfl ⟨rfl, sb, i7.1, ?_⟩
      obtain ⟨e1, e2, e3, e4, e5, e6⟩ := i7
      show FM N (up M' 0 48 (-1))
      refine ⟨fun n a => ?_, fun f a => ?_, fun n q a b c => ?_, fun n i a b c => ?_⟩
      · rw [up_ne1 (by omega), e2 n (by omega) (by omega) (by omega) (by omega) (by omega), n2 n (by omega)]
      · by_cases cf : f = 48
        · rw [cf, up_same, h48]
        · rw [up_nei cf, e3 f (by omega) (by omega) cf (by omega), n2 0 (by omega)]
      · rw [up_ne1 (by omega), e5 n q a b c, n2 n (by omega)]
      · rw [up_ne1 (by omega), e6 n i a b c, n2 n (by omega)]
    rw [if_neg (by omega), if_neg c]
    have hE1 : EI t bus Mc N N2 M (up M' 0 49 (y + 1)) := by
      obtain ⟨e1, e2, e3, e4, e5, e6⟩ := i7
      exact ⟨e1, fun n a b c d e => by rw [up_ne1 a]; exact e2 n a b c d e, fun f a b c d => by rw [up_nei d]; exact e3 f a b c d, by rw [up_nei (by omega)]; exact e4, fun n i a b c => by rw [up_ne1 (by omega)]; exact e5 n i a b c, fun n i a b c => by rw [up_ne1 (by omega)]; exact e6 n i a b c⟩
    obtain ⟨⟨z, M1⟩, ⟨z', N1⟩, a1, a2, a3, a4, a5⟩ := allSoW (ev := y + 1) hr hb (by omega) w3 k2 ⟨k3, k4, k5⟩ hE1 (up_same _ _ _ _)
    simp only at a3 a4 a5
    subst a3
    rw [a1, a2]
    (try simp (disch := omega) only [w32_id, q_gf_e, q_gr_e, q_pf_e, q_pz_e, q_let_e, q_call_e, q_calp_e, q_al_ok, q_as_ok, q_nz_ok, up_same, up_nei, up_ne1, Int.toNat_natCast, reduceIte, Int.reduceEq, Int.reduceLT, Int.reduceLE, Int.reduceNeg, not_true_eq_false, not_false_eq_true])
    rw [show y + 1 - 1 = y by omega, q_or_zero i2]
    rcases a4 with rfl | rfl
    · (try simp (disch := omega) only [w32_id, q_gf_e, q_gr_e, q_pf_e, q_pz_e, q_let_e, q_call_e, q_calp_e, q_al_ok, q_as_ok, q_nz_ok, up_same, up_nei, up_ne1, Int.toNat_natCast, reduceIte, Int.reduceEq, Int.reduceLT, Int.reduceLE, Int.reduceNeg, not_true_eq_false, not_false_eq_true])
      exact ih (s, y + 1 + 1, M1) (s, y + 1, N1) ⟨rfl, i2, fun p a b => i3 p (by have : y + 1 ≤ p := a; omega) b, rfl, by show 0 ≤ y + 1; omega, by show y + 1 ≤ 30; omega, a5⟩ (by show (30 - (y + 1)).toNat < (30 - y).toNat; omega)
    · (try simp (disch := omega) only [w32_id, q_gf_e, q_gr_e, q_pf_e, q_pz_e, q_let_e, q_call_e, q_calp_e, q_al_ok, q_as_ok, q_nz_ok, up_same, up_nei, up_ne1, Int.toNat_natCast, reduceIte, Int.reduceEq, Int.reduceLT, Int.reduceLE, Int.reduceNeg, not_true_eq_false, not_false_eq_true])
      refine ih (q_or s (q_shl 1 y), y + 1 + 1, M1) (q_or s (q_shl 1 y), y + 1, N1) ⟨rfl, q_or_rng _ _, fun p a b => ?_, rfl, by show 0 ≤ y + 1; omega, by show y + 1 ≤ 30; omega, a5⟩ (by show (30 - (y + 1)).toNat < (30 - y).toNat; omega)
      have a : y + 1 ≤ p := a
      show Bt (q_or s (q_shl 1 y)) p = false
      rw [Bt_or, Bt_shl (by omega) (by omega), i3 p (by omega) b]
      simp; omega
  obtain ⟨⟨set, M1⟩, ⟨set', N1⟩, a1, a2, a3, a4, a5, a6⟩ := key
  simp only at a3 a4 a5 a6
  subst a3
  exact ⟨kb, set, M1, N1, w1, a1, a2, a5, a6, a4.1, a4.2⟩
theorem o_everies : rs_everies Rel := by
  intro Mc Mm a0 hR h0
  obtain ⟨t, hr⟩ := hR
  have hr := hr.thr (v := 0)
  show PW _ _
  unfold f_X9_everies f_X10_everies
  rw [q_pf_e]
  generalize up Mm 0 0 0 = N at hr ⊢
  have hR : Rel Mc N := ⟨t, hr⟩
  have h03 := hr.1.1
  have hB := hr.2.1.2.2.1
  have ec := isBusC (a := a0) h03 (by omega) h0
  have em := isBusM (M := N) (a := a0) (by omega) h0
  rw [hB.1] at ec
  rw [ec, em]
  by_cases c : 0 ≤ a0 ∧ a0 < N 35 1
  · rw [if_pos c]
    obtain ⟨kb, set, M1, N1, a1, a2, a3, a4, a5, -⟩ := everW hr c
    simp (disch := omega) only [w32_id, q_gf_e, q_gr_e, q_pf_e, q_pz_e, q_let_e, q_call_e, q_calp_e, q_al_ok, q_as_ok, q_nz_ok, up_same, up_nei, up_ne1, Int.toNat_natCast, reduceIte, Int.reduceEq, Int.reduceLT, Int.reduceLE, Int.reduceNeg, not_true_eq_false, not_false_eq_true, a1, a2, a3]
    exact PW.ok rfl ⟨t, hr.frm a4 a5⟩
  · rw [if_neg c]
    (try simp (disch := omega) only [w32_id, q_gf_e, q_gr_e, q_pf_e, q_pz_e, q_let_e, q_call_e, q_calp_e, q_al_ok, q_as_ok, q_nz_ok, up_same, up_nei, up_ne1, Int.toNat_natCast, reduceIte, Int.reduceEq, Int.reduceLT, Int.reduceLE, Int.reduceNeg, not_true_eq_false, not_false_eq_true])
    exact PW.ok rfl hR
/-- how many of the set come then -/
def cmT (set f m : Int) : Int → Int := fun k => if Bt set k = true ∧ f ≤ m ∧ (m - f) % (k + 1) = 0 then 1 else 0
def ncT (set f m : Int) : Int → Int := fun k => if Bt set k = true ∧ ¬ (f ≤ m ∧ (m - f) % (k + 1) = 0) then 1 else 0
theorem leftC {set f m : Int} {M : Mem} (hs : 0 ≤ set ∧ set < 1073741824) (hf : 0 ≤ f ∧ f ≤ 99) (hm : 0 ≤ m ∧ m ≤ 60) : ∃ r, f_X9_leftAtWorst set (m - f) M = some r ∧ r = (if smT (cmT set f m) 30 < smT (ncT set f m) 30 then smT (ncT set f m) 30 else smT (cmT set f m) 30) ∧ 0 ≤ r ∧ r ≤ 30 := by
  have rc := smT_rng (f := cmT set f m) (b := 1) 30 (fun i _ _ => by unfold cmT; split <;> omega)
  have rn := smT_rng (f := ncT set f m) (b := 1) 30 (fun i _ _ => by unfold ncT; split <;> omega)
  have sum : ∀ n : Nat, smT (fun p => if Bt set p = true then (1 : Int) else 0) n = smT (cmT set f m) n + smT (ncT set f m) n := by
    intro n
    induction n with
    | zero => rfl
    | succ n ih =>
      show smT (fun p => if Bt set p = true then (1 : Int) else 0) n + (if Bt set n = true then 1 else 0) = smT (cmT set f m) n + cmT set f m n + (smT (ncT set f m) n + ncT set f m n)
      rw [ih]
      unfold cmT ncT
      by_cases c1 : Bt set n = true
      · by_cases c2 : f ≤ m ∧ (m - f) % ((n : Int) + 1) = 0
        · rw [if_pos c1, if_pos ⟨c1, c2⟩, if_neg (fun h => h.2 c2)]; omega
        · rw [if_pos c1, if_neg (fun h => c2 h.2), if_pos ⟨c1, c2⟩]; omega
      · rw [if_neg c1, if_neg (fun h => c1 h.1), if_neg (fun h => c1 h.1)]; omega
  have hp : pcB set = smT (cmT set f m) 30 + smT (ncT set f m) 30 := by
    rw [← sum 30]
    unfold pcB
    have z : ∀ p : Nat, 30 ≤ p → p < 32 → Bt set (p : Int) = false := by
      intro p a b
      obtain ⟨n, rfl⟩ : ∃ n : Nat, set = n := ⟨set.toNat, by omega⟩
      rw [Bt_nat (by omega)]
      have e30 : (2 : Nat) ^ 30 = 1073741824 := by decide
      have hn : n < 2 ^ 30 := by omega
      exact Nat.testBit_lt_two_pow (Nat.lt_of_lt_of_le hn (Nat.pow_le_pow_right (by omega) a))
    show smT (fun p => if Bt set p = true then (1 : Int) else 0) 30 + (if Bt set ((30 : Nat) : Int) = true then 1 else 0) + (if Bt set ((31 : Nat) : Int) = true then 1 else 0) = _
    rw [z 30 (by omega) (by omega), z 31 (by omega) (by omega)]
    simp
  refine ⟨_, ?_, rfl, by split <;> omega, by split <;> omega⟩
  rw [← wpo_eq]
  unfold f_X9_leftAtWorst f_X9_leftAtWorst_L4
  refine qlp2_N (fun a x => 1 ≤ x ∧ x ≤ 31 ∧ a = smT (cmT set f m) (x - 1).toNat) (fun _ x => (31 - x).toNat) _ _ ⟨by omega, by omega, rfl⟩ (by omega) ?_
  intro a x g ⟨i1, i2, i3⟩ ih
  have rg := smT_rng (f := cmT set f m) (b := 1) (x - 1).toNat (fun i _ _ => by unfold cmT; split <;> omega)
  unfold f_X9_leftAtWorst_B4
  (try simp (disch := omega) only [w32_id, q_gf_e, q_gr_e, q_pf_e, q_pz_e, q_let_e, q_call_e, q_calp_e, q_al_ok, q_as_ok, q_nz_ok, up_same, up_nei, up_ne1, Int.toNat_natCast, reduceIte, Int.reduceEq, Int.reduceLT, Int.reduceLE, Int.reduceNeg, not_true_eq_false, not_false_eq_true])
  refine wpo_ite (fun c => ?_) (fun c => ?_)
  · have ex : x = 31 := by omega
    subst ex
    rw [bitCountC hs]
    (try simp (disch := omega) only [w32_id, q_gf_e, q_gr_e, q_pf_e, q_pz_e, q_let_e, q_call_e, q_calp_e, q_al_ok, q_as_ok, q_nz_ok, up_same, up_nei, up_ne1, Int.toNat_natCast, reduceIte, Int.reduceEq, Int.reduceLT, Int.reduceLE, Int.reduceNeg, not_true_eq_false, not_false_eq_true])
    refine wpo_some.mpr ?_
    have e30 : ((31 : Int) - 1).toNat = 30 := by decide
    rw [e30] at i3
    rw [hp, i3, show smT (cmT set f m) 30 + smT (ncT set f m) 30 - smT (cmT set f m) 30 = smT (ncT set f m) 30 by omega]
    unfold q_max
    rw [w32_id (by omega), w32_id (by omega)]
  · have nx : ∀ v, v = cmT set f m (x - 1) → wpo (g (a + v) (x + 1)) (fun y => y = (if smT (cmT set f m) 30 < smT (ncT set f m) 30 then smT (ncT set f m) 30 else smT (cmT set f m) 30)) := fun v hv => ih _ _ ⟨by omega, by omega, by
      have := smT_succ (cmT set f m) (show 0 ≤ x - 1 by omega)
      rw [show x - 1 + 1 = x by omega] at this
      rw [show x + 1 - 1 = x by omega, this, ← i3, hv]⟩ (by omega)
    have n0 := fun h => nx 0 h
    simp only [Int.add_zero] at n0
    refine wpo_ite (fun cb => ?_) (fun cb => ?_)
    · have cf := (and1 (by omega)).mp cb
      exact n0 (by unfold cmT; rw [if_neg (fun h => by rw [cf] at h; exact absurd h.1 (by decide))])
    · have ct : Bt set (x - 1) = true := by
        cases hc : Bt set (x - 1)
        · exact absurd ((and1 (by omega)).mpr hc) cb
        · rfl
      refine wpo_ite (fun cn => n0 (by unfold cmT; rw [if_neg (fun h => by omega)])) (fun cn => ?_)
      have hm0 := Int.emod_nonneg (m - f) (show x ≠ 0 by omega)
      have hm1 := Int.emod_lt_of_pos (m - f) (show 0 < x by omega)
      rw [tmod_e (by omega)]
      (try simp (disch := omega) only [w32_id, q_gf_e, q_gr_e, q_pf_e, q_pz_e, q_let_e, q_call_e, q_calp_e, q_al_ok, q_as_ok, q_nz_ok, up_same, up_nei, up_ne1, Int.toNat_natCast, reduceIte, Int.reduceEq, Int.reduceLT, Int.reduceLE, Int.reduceNeg, not_true_eq_false, not_false_eq_true])
      refine wpo_ite (fun cz => n0 (by unfold cmT; rw [if_neg (fun h => by rw [show x - 1 + 1 = x by omega] at h; exact cz h.2.2)])) (fun cz => ?_)
      exact nx 1 (by unfold cmT; rw [if_pos ⟨ct, by omega, by rw [show x - 1 + 1 = x by omega]; simpa using cz⟩])
theorem askIn {set f bus wh best least m : Int} {g39 : Int → Int → Int → Res} {M : Mem} (hs : 0 ≤ set ∧ set < 1073741824) (hM : M 41 bus = f) (hb : 0 ≤ bus ∧ bus < 4) (hf : 0 ≤ f ∧ f ≤ 99) (hm : 0 ≤ m ∧ m ≤ 60) (hbe : -1 ≤ best ∧ best ≤ 60) (hle : 0 ≤ least ∧ least ≤ 30) {r : Int} (hr : r = (if smT (cmT set f m) 30 < smT (ncT set f m) 30 then smT (ncT set f m) 30 else smT (cmT set f m) 30)) (hrr : 0 ≤ r ∧ r ≤ 30) : f_X10_ask_L55 g39 bus wh set best least m M q_N 0 0 0 = (if best = -1 ∨ r < least then g39 m r (m + 1) else g39 best least (m + 1)) := by
  have key : ∀ (n : Nat) (x a b : Int), 0 ≤ x → x ≤ 30 → a = smT (cmT set f m) x.toNat → b = smT (ncT set f m) x.toNat → (30 - x).toNat < n → f_X10_ask_L55 g39 bus wh set best least m M n a b x = (if best = -1 ∨ r < least then g39 m r (m + 1) else g39 best least (m + 1)) := by
    intro n
    induction n with
    | zero => intro x a b _ _ _ _ h; exact absurd h (Nat.not_lt_zero _)
    | succ n ih =>
      intro x a b h0 h1 ha hb' hn
      show f_X10_ask_B55 g39 bus wh set best least m M a b x (fun u v w => f_X10_ask_L55 g39 bus wh set best least m M n u v w) = _
      have rc := smT_rng (f := cmT set f m) (b := 1) x.toNat (fun i _ _ => by unfold cmT; split <;> omega)
      have rn := smT_rng (f := ncT set f m) (b := 1) x.toNat (fun i _ _ => by unfold ncT; split <;> omega)
      unfold f_X10_ask_B55 f_X10_ask_J142
      (try simp (disch := omega) only [w32_id, q_gf_e, q_gr_e, q_pf_e, q_pz_e, q_let_e, q_call_e, q_calp_e, q_al_ok, q_as_ok, q_nz_ok, up_same, up_nei, up_ne1, Int.toNat_natCast, reduceIte, Int.reduceEq, Int.reduceLT, Int.reduceLE, Int.reduceNeg, not_true_eq_false, not_false_eq_true])
      by_cases c : 30 ≤ x
      · rw [if_pos c]
        have ex : x = 30 := by omega
        subst ex
        have e30 : ((30 : Int)).toNat = 30 := by decide
        rw [e30] at ha hb' rc rn
        have em : q_max a b = r := by
          unfold q_max
          rw [w32_id (by omega), w32_id (by omega), hr, ha, hb']
        rw [em]
        (try simp (disch := omega) only [w32_id, q_gf_e, q_gr_e, q_pf_e, q_pz_e, q_let_e, q_call_e, q_calp_e, q_al_ok, q_as_ok, q_nz_ok, up_same, up_nei, up_ne1, Int.toNat_natCast, reduceIte, Int.reduceEq, Int.reduceLT, Int.reduceLE, Int.reduceNeg, not_true_eq_false, not_false_eq_true])
        by_cases c1 : best = -1
        · rw [if_pos c1, if_pos (.inl c1)]
        · rw [if_neg c1]
          by_cases c2 : r < least
          · rw [if_pos c2, if_pos (.inr c2)]
          · rw [if_neg c2, if_neg (fun h => by rcases h with h | h; exact c1 h; exact c2 h)]
      · rw [if_neg c, shr1 (by omega)]
        have sc := smT_succ (cmT set f m) h0
        have sn := smT_succ (ncT set f m) h0
        by_cases ct : Bt set x = true
        · rw [if_pos ct]
          simp (disch := omega) only [w32_id, q_gf_e, q_gr_e, q_pf_e, q_pz_e, q_let_e, q_call_e, q_calp_e, q_al_ok, q_as_ok, q_nz_ok, up_same, up_nei, up_ne1, Int.toNat_natCast, reduceIte, Int.reduceEq, Int.reduceLT, Int.reduceLE, Int.reduceNeg, not_true_eq_false, not_false_eq_true, hM]
          have hm0 := Int.emod_nonneg (m - f) (show x + 1 ≠ 0 by omega)
          have hm1 := Int.emod_lt_of_pos (m - f) (show 0 < x + 1 by omega)
          by_cases cl : m < f
          · rw [if_pos cl]
            have u1 : cmT set f m x = 0 := by unfold cmT; rw [if_neg (fun h => by omega)]
            have u2 : ncT set f m x = 1 := by unfold ncT; rw [if_pos ⟨ct, fun h => by omega⟩]
            exact ih _ _ _ (by omega) (by omega) (by rw [sc, u1]; omega) (by rw [sn, u2]; omega) (by omega)
          · rw [if_neg cl, tmod_e (by omega), w32_id (by omega)]
            by_cases cz : (m - f) % (x + 1) = 0
            · rw [if_neg (fun h => h cz)]
              have u1 : cmT set f m x = 1 := by unfold cmT; rw [if_pos ⟨ct, by omega, cz⟩]
              have u2 : ncT set f m x = 0 := by unfold ncT; rw [if_neg (fun h => h.2 ⟨by omega, cz⟩)]
              exact ih _ _ _ (by omega) (by omega) (by rw [sc, u1]; omega) (by rw [sn, u2]; omega) (by omega)
            · rw [if_pos cz]
              have u1 : cmT set f m x = 0 := by unfold cmT; rw [if_neg (fun h => cz h.2.2)]
              have u2 : ncT set f m x = 1 := by unfold ncT; rw [if_pos ⟨ct, fun h => cz h.2⟩]
              exact ih _ _ _ (by omega) (by omega) (by rw [sc, u1]; omega) (by rw [sn, u2]; omega) (by omega)
        · rw [if_neg ct]
          (try simp (disch := omega) only [w32_id, q_gf_e, q_gr_e, q_pf_e, q_pz_e, q_let_e, q_call_e, q_calp_e, q_al_ok, q_as_ok, q_nz_ok, up_same, up_nei, up_ne1, Int.toNat_natCast, reduceIte, Int.reduceEq, Int.reduceLT, Int.reduceLE, Int.reduceNeg, not_true_eq_false, not_false_eq_true])
          have u1 : cmT set f m x = 0 := by unfold cmT; rw [if_neg (fun h => ct h.1)]
          have u2 : ncT set f m x = 0 := by unfold ncT; rw [if_neg (fun h => ct h.1)]
          exact ih _ _ _ (by omega) (by omega) (by rw [sc, u1]; omega) (by rw [sn, u2]; omega) (by omega)
  exact key q_N 0 0 0 (by omega) (by omega) rfl rfl (q_N_lt (by omega))
theorem o_ask : rs_ask Rel := by
  intro Mc Mm a0 a1 hR h0 h1
  obtain ⟨t, hr⟩ := hR
  have hr := hr.thr (v := 0)
  show PW _ _
  unfold f_X9_ask f_X10_ask f_X9_everies
  rw [q_pf_e]
  generalize up Mm 0 0 0 = N at hr ⊢
  have hR : Rel Mc N := ⟨t, hr⟩
  have h03 := hr.1.1
  have hB := hr.2.1.2.2.1
  have ec := isBusC (a := a0) h03 (by omega) h0
  have em := isBusM (M := N) (a := a0) (by omega) h0
  rw [hB.1] at ec
  unfold in32 at h1
  rw [ec, em]
  by_cases c : 0 ≤ a0 ∧ a0 < N 35 1
  rotate_left
  · rw [if_neg c]
    (try simp (disch := omega) only [w32_id, q_gf_e, q_gr_e, q_pf_e, q_pz_e, q_let_e, q_call_e, q_calp_e, q_al_ok, q_as_ok, q_nz_ok, up_same, up_nei, up_ne1, Int.toNat_natCast, reduceIte, Int.reduceEq, Int.reduceLT, Int.reduceLE, Int.reduceNeg, not_true_eq_false, not_false_eq_true])
    exact PW.ok rfl hR
  rw [if_pos c]
  (try simp (disch := omega) only [w32_id, q_gf_e, q_gr_e, q_pf_e, q_pz_e, q_let_e, q_call_e, q_calp_e, q_al_ok, q_as_ok, q_nz_ok, up_same, up_nei, up_ne1, Int.toNat_natCast, reduceIte, Int.reduceEq, Int.reduceLT, Int.reduceLE, Int.reduceNeg, not_true_eq_false, not_false_eq_true])
  by_cases c1 : a1 < 0
  · rw [if_pos c1, if_pos c1]; exact PW.ok rfl hR
  rw [if_neg c1, if_neg c1]
  by_cases c2 : a1 ≤ 1
  rotate_left
  · rw [if_neg c2, if_neg c2]; exact PW.ok rfl hR
  rw [if_pos c2, if_pos c2]
  obtain ⟨kb, set, M1, N1, g1, g2, g3, g4, g5, g6, g7⟩ := everW hr c
  have hr1 := hr.frm g4 g5
  have h03' := hr1.1.1
  have e35 : N1 35 = N 35 := g5.1 35 (by omega)
  obtain ⟨b1, -⟩ := hr1.b (bus := a0) (by rw [e35]; exact c)
  rw [g1]
  simp (disch := omega) only [w32_id, q_gf_e, q_gr_e, q_pf_e, q_pz_e, q_let_e, q_call_e, q_calp_e, q_al_ok, q_as_ok, q_nz_ok, up_same, up_nei, up_ne1, Int.toNat_natCast, reduceIte, Int.reduceEq, Int.reduceLT, Int.reduceLE, Int.reduceNeg, not_true_eq_false, not_false_eq_true, g2, g3]
  have main : W2 (f_X9_ask_L35 a0 a1 set M1 q_N 0 31 0) (f_X10_ask_L39 a0 a1 set N1 q_N (-1) 0 0) some some (fun x y => x.1 = y.1 ∧ x.2 = M1 ∧ y.2 = N1) := by
    unfold f_X9_ask_L35 f_X10_ask_L39
    refine lock (fun m (u : Int × Int × Int) => qlp3 (fun x4 x5 x6 g35 => f_X9_ask_B35 a0 a1 set M1 x4 x5 x6 g35) m u.1 u.2.1 u.2.2) (fun m (u : Int × Int × Int) => qlp3 (fun x4 x5 x6 g39 => f_X10_ask_B39 a0 a1 set N1 x4 x5 x6 g39) m u.1 u.2.1 u.2.2) _ _ _ (fun u v => u.2.2 = v.2.2 ∧ 0 ≤ v.2.2 ∧ v.2.2 ≤ 61 ∧ ((v.2.2 = 0 ∧ u = (0, 31, 0) ∧ v = (-1, 0, 0)) ∨ (1 ≤ v.2.2 ∧ u = v ∧ 0 ≤ v.1 ∧ v.1 ≤ 60 ∧ 0 ≤ v.2.1 ∧ v.2.1 ≤ 30))) (fun u v => (61 - v.2.2).toNat) ?_ q_N q_N (0, 31, 0) (-1, 0, 0) ⟨rfl, by show (0 : Int) ≤ 0; omega, by show (0 : Int) ≤ 61; omega, .inl ⟨rfl, rfl, rfl⟩⟩ (q_N_lt (by show (61 - 0 : Int).toNat < 100000; omega)) (q_N_lt (by show (61 - 0 : Int).toNat < 100000; omega))
    intro m m' ⟨x4, x5, x6⟩ ⟨y4, y5, y6⟩ ⟨i1, i2, i3, i4⟩ ih
    simp only at i1 i2 i3 i4 ih
    subst i1
    show W2 (f_X9_ask_B35 a0 a1 set M1 x4 x5 x6 (qlp3 (fun x4 x5 x6 g35 => f_X9_ask_B35 a0 a1 set M1 x4 x5 x6 g35) m)) (f_X10_ask_B39 a0 a1 set N1 y4 y5 x6 (qlp3 (fun x4 x5 x6 g39 => f_X10_ask_B39 a0 a1 set N1 x4 x5 x6 g39) m')) _ _ _
    generalize qlp3 (fun x4 x5 x6 g35 => f_X9_ask_B35 a0 a1 set M1 x4 x5 x6 g35) m = Gc at ih ⊢
    generalize qlp3 (fun x4 x5 x6 g39 => f_X10_ask_B39 a0 a1 set N1 x4 x5 x6 g39) m' = Gm at ih ⊢
    unfold f_X9_ask_B35 f_X10_ask_B39
    (try simp (disch := omega) only [w32_id, q_gf_e, q_gr_e, q_pf_e, q_pz_e, q_let_e, q_call_e, q_calp_e, q_al_ok, q_as_ok, q_nz_ok, up_same, up_nei, up_ne1, Int.toNat_natCast, reduceIte, Int.reduceEq, Int.reduceLT, Int.reduceLE, Int.reduceNeg, not_true_eq_false, not_false_eq_true])
    by_cases c6 : 60 < x6
    · rw [if_pos c6, if_pos c6]
      rcases i4 with ⟨i4, -⟩ | ⟨i4, i5, -⟩
      · omega
      · simp only [Prod.mk.injEq, and_true] at i5
        obtain ⟨rfl, rfl⟩ := i5
        split
        · exact W2.ok (x5, M1) (x5, N1) rfl rfl ⟨rfl, rfl, rfl⟩
        · exact W2.ok (x4, M1) (x4, N1) rfl rfl ⟨rfl, rfl, rfl⟩
    rw [if_neg c6, if_neg c6]
    obtain ⟨r, r1, r2, r3⟩ := leftC (M := M1) (set := set) (f := N1 41 a0) (m := x6) ⟨g6, g7⟩ b1.2 ⟨i2, by omega⟩
    have nx : ∀ u v, 0 ≤ u → u ≤ 60 → 0 ≤ v → v ≤ 30 → W2 (Gc u v (x6 + 1)) (Gm u v (x6 + 1)) some some (fun x y => x.1 = y.1 ∧ x.2 = M1 ∧ y.2 = N1) := fun u v h1 h2 h3 h4 => ih (u, v, x6 + 1) (u, v, x6 + 1) ⟨rfl, by show 0 ≤ x6 + 1; omega, by show x6 + 1 ≤ 61; omega, .inr ⟨by show 1 ≤ x6 + 1; omega, rfl, h1, h2, h3, h4⟩⟩ (by show (61 - (x6 + 1)).toNat < (61 - x6).toNat; omega)
    rcases i4 with ⟨i4, i5, i6⟩ | ⟨i4, i5, i6, i7, i8, i9⟩
    · simp only [Prod.mk.injEq] at i5 i6
      obtain ⟨rfl, rfl, -⟩ := i5
      obtain ⟨rfl, rfl, -⟩ := i6
      rw [askIn ⟨g6, g7⟩ rfl (by omega) b1.2 ⟨i2, by omega⟩ (by omega) (by omega) r2 r3, if_pos (.inl rfl)]
      simp (disch := omega) only [w32_id, q_gf_e, q_gr_e, q_pf_e, q_pz_e, q_let_e, q_call_e, q_calp_e, q_al_ok, q_as_ok, q_nz_ok, up_same, up_nei, up_ne1, Int.toNat_natCast, reduceIte, Int.reduceEq, Int.reduceLT, Int.reduceLE, Int.reduceNeg, not_true_eq_false, not_false_eq_true, h03', b1.1, r1]
      rw [if_neg (by omega)]
      exact nx _ _ i2 (by omega) r3.1 r3.2
    · simp only [Prod.mk.injEq, and_true] at i5
      obtain ⟨rfl, rfl⟩ := i5
      rw [askIn ⟨g6, g7⟩ rfl (by omega) b1.2 ⟨i2, by omega⟩ (by omega) ⟨i8, i9⟩ r2 r3]
      simp (disch := omega) only [w32_id, q_gf_e, q_gr_e, q_pf_e, q_pz_e, q_let_e, q_call_e, q_calp_e, q_al_ok, q_as_ok, q_nz_ok, up_same, up_nei, up_ne1, Int.toNat_natCast, reduceIte, Int.reduceEq, Int.reduceLT, Int.reduceLE, Int.reduceNeg, not_true_eq_false, not_false_eq_true, h03', b1.1, r1]
      by_cases cr : r < x5
      · rw [if_neg (by omega), if_pos (.inr cr)]
        exact nx _ _ i2 (by omega) r3.1 r3.2
      · rw [if_pos (by omega), if_neg (fun h => by rcases h with h | h <;> omega)]
        exact nx _ _ i6 i7 i8 i9
  obtain ⟨⟨r, M2⟩, ⟨r', N2⟩, d1, d2, d3, d4, d5⟩ := main
  simp only at d3 d4 d5
  subst d3 d4 d5
  rw [d1, d2]
  exact PW.ok rfl ⟨t, hr1⟩
