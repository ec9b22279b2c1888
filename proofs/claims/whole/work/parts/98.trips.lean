theorem bits_lt {x : Int} {n : Nat} (hx : in32 x) (hn : n ≤ 31) (h : ∀ p : Int, (n : Int) ≤ p → p < 32 → Bt x p = false) : 0 ≤ x ∧ x < 2 ^ n := by
  have hm : (qI x).toBitVec.toNat < 2 ^ n := by
    apply Nat.lt_pow_two_of_testBit
    intro i hi
    by_cases c : i < 32
    · have := h i (by omega) (by omega)
      unfold Bt at this
      rw [Int.toNat_natCast] at this
      exact this
    · exact Nat.testBit_lt_two_pow (Nat.lt_of_lt_of_le (BitVec.isLt _) (Nat.pow_le_pow_right (by omega) (by omega)))
  have hp : 2 ^ n ≤ 2 ^ 31 := Nat.pow_le_pow_right (by omega) hn
  have e : w32 x = ((qI x).toBitVec.toNat : Int) := by
    show (qI x).toBitVec.toInt = _
    exact BitVec.toInt_eq_toNat_of_lt (by omega)
  unfold in32 at hx
  rw [w32_id hx] at e
  have e2 : ((2 ^ n : Nat) : Int) = (2 : Int) ^ n := by norm_cast
  rw [e, ← e2]
  omega
theorem smT_one {f g : Int → Int} {s : Int} (hs : g s = f s + 1) (h : ∀ i, i ≠ s → g i = f i) : ∀ n : Nat, 0 ≤ s → smT g n = smT f n + (if s < n then 1 else 0)
  | 0, h0 => by
    rw [if_neg (by omega)]; rfl
  | n + 1, h0 => by
    show smT g n + g n = smT f n + f n + _
    rw [smT_one hs h n h0]
    by_cases c : (n : Int) = s
    · rw [c, hs, if_neg (by omega), if_pos (by omega)]; omega
    · rw [h n c]
      by_cases d : s < n
      · rw [if_pos d, if_pos (by omega)]; omega
      · rw [if_neg d, if_neg (by omega)]; omega
theorem pcB_or {x s : Int} (hs : 0 ≤ s ∧ s < 32) (h : Bt x s = false) : pcB (q_or x (q_shl 1 s)) = pcB x + 1 := by
  unfold pcB
  have e : ∀ p : Int, 0 ≤ p → Bt (q_or x (q_shl 1 s)) p = (Bt x p || decide (s = p)) := fun p a => by rw [Bt_or, Bt_shl hs a]
  rw [smT_congr (f := fun p => if Bt (q_or x (q_shl 1 s)) p = true then (1 : Int) else 0) (g := fun p => if p = s then 1 else if Bt x p = true then 1 else 0) 32 (fun i a b => by
    rw [e i a]
    by_cases c : i = s
    · subst c; simp
    · have c' : ¬ s = i := fun h => c h.symm
      simp [c, c'])]
  rw [smT_one (f := fun p => if Bt x p = true then (1 : Int) else 0) (s := s) (by simp [h]) (fun i c => by simp [c]) 32 hs.1, if_pos (by omega)]
theorem pcB_0 : pcB 0 = 0 := by
  unfold pcB
  rw [smT_congr (g := fun _ => 0) 32 (fun i _ _ => by rw [Bt_0]; simp)]
  rfl
theorem pcB_rng (x : Int) : 0 ≤ pcB x ∧ pcB x ≤ 32 := by
  have := smT_rng (f := fun p => if Bt x p = true then (1 : Int) else 0) (b := 1) 32 (fun i _ _ => by split <;> omega)
  unfold pcB
  omega
/-- one may ride, as it is now -/
def MVP (bus s : Int) (Mm : Mem) : Prop := ∃ N', f_X10_mayRide 0 s bus Mm = some (1, N')
set_option maxHeartbeats 1000000 in
theorem mayAB {t : Nat} {bus i s : Int} {Mc Mm : Mem} (h : MR t 4 0 0 0 Mc Mm) (h3 : Mm 0 47 = 0) (hb : 0 ≤ bus ∧ bus < Mm 35 1) (hi : 0 ≤ i ∧ i < Mm 69 0) (hs : Mm 70 i = s) : (∀ N, SM Mm N → ∃ v N', f_X10_mayRide 0 s bus N = some (v, N') ∧ SN N N' ∧ ((v = 1 ∧ MVP bus s Mm) ∨ (v = 0 ∧ ¬ MVP bus s Mm))) ∧ (∀ M, SC Mc M → ∀ x2 (Gc : Int → Int → Mem → Res), ∃ M2 x', SC Mc M2 ∧ f_X3_whoMay_B4 bus x2 i M Gc = Gc x' (i + 1) M2 ∧ ((x' = q_or x2 (q_shl 1 s) ∧ MVP bus s Mm) ∨ (x' = x2 ∧ ¬ MVP bus s Mm))) := by
  obtain ⟨r1, r2, r3, r4, r5, r6⟩ := h.rng
  obtain ⟨e1, e2, e3, e4, e5⟩ := h.raw
  have hB := h.1.2.2.1
  have hS := h.1.2.1
  have ht := h.1.1
  have hs0 : Mm 70 (8 * 0 + i) = s := by rw [show (8 * 0 + i : Int) = i by omega]; exact hs
  have hx := r4 i hi.1 hi.2
  rw [hs0] at hx
  have hC := (r6 s hx.1 hx.2.1).2.1
  have hfa := (h.1.2.2.2.2.2.2.2.2.2.1 bus hb.1 hb.2).2.2.2.2
  -- both evaluations, for any scratch on either side
  have both : ∀ M N, SC Mc M → SM Mm N → ∃ Mc1 v Mc2 N', f_X3_look s i (Mm 44 bus) M = some (0, Mc1) ∧ Mc1 7 = M 7 ∧ f_X2_worth (t + 10) 262 7 0 Mc1 = some (v, Mc2) ∧ SK M Mc2 ∧ in64 v ∧ f_X10_mayRide 0 s bus N = some (if v = -9223372036854775808 then (if Mm 72 (8 * 0 + s) < Mm 44 bus then 0 else 1) else (if v = 0 then 0 else 1), N') ∧ SN N N' := by
    intro M N sc sm
    have h' := h.frm sc sm
    have n70 := sm.1 70 (by omega) (by omega) (by omega) (by omega)
    have n69 := sm.1 69 (by omega) (by omega) (by omega) (by omega)
    have n35 := sm.1 35 (by omega) (by omega) (by omega) (by omega)
    have n44 := sm.1 44 (by omega) (by omega) (by omega) (by omega)
    have n72 := sm.1 72 (by omega) (by omega) (by omega) (by omega)
    have hpl : f_X10_placeOf 0 s N = some i := by
      have := h'.place hi.1 (by rw [n69]; exact hi.2)
      rwa [n70, hs0] at this
    obtain ⟨Mc1, Mm1, v, Mc2, a1, a2, a3, a4, a5, a6, a7, a8⟩ := evW (l := 0) h' ⟨hx.1, by rw [n35]; exact hx.2.1⟩ hpl (.inl ⟨rfl, hi.1, by omega⟩) (fare := Mm 44 bus) (by omega) (by omega)
    have n47 : N 0 47 = 0 := by rw [sm.2 47 (by omega) (by omega)]; exact h3
    obtain ⟨Mm2, hm, sm2⟩ := mayM (bus := bus) (q := 0) (s := s) a8 a6 (by rw [n44]; exact a2) (by omega) (by omega) (by omega) (by omega) (by rw [n72]; exact hC) (by rw [n44]; omega)
    rw [n72, n44] at hm
    exact ⟨Mc1, v, Mc2, Mm2, a1, a4, a3, a5, a7, hm, sm2⟩
  obtain ⟨Mc1, v0, Mc2, N0, b1, b2, b3, b4, b5, b6, b7⟩ := both Mc Mm (SC.refl _) (SM.refl _)
  have hv01 : ∀ v : Int, (if v = -9223372036854775808 then (if Mm 72 (8 * 0 + s) < Mm 44 bus then (0 : Int) else 1) else (if v = 0 then 0 else 1)) = 0 ∨ (if v = -9223372036854775808 then (if Mm 72 (8 * 0 + s) < Mm 44 bus then (0 : Int) else 1) else (if v = 0 then 0 else 1)) = 1 := by
    intro v; split <;> split <;> omega
  have hiff : MVP bus s Mm ↔ (if v0 = -9223372036854775808 then (if Mm 72 (8 * 0 + s) < Mm 44 bus then (0 : Int) else 1) else (if v0 = 0 then 0 else 1)) = 1 := by
    constructor
    · intro ⟨N', e⟩
      rw [b6] at e
      simp only [Option.some.injEq, Prod.mk.injEq] at e
      exact e.1
    · intro e
      exact ⟨N0, by rw [b6, e]⟩
  refine ⟨fun N sm => ?_, fun M sc x2 Gc => ?_⟩
  · obtain ⟨Mc1', v, Mc2', N', c1, c2, c3, c4, c5, c6, c7⟩ := both Mc N (SC.refl _) sm
    have eM : Mc1' = Mc1 := by rw [b1] at c1; simpa using c1.symm
    subst eM
    have ev : v = v0 := by rw [b3] at c3; simp at c3; exact c3.1.symm
    subst ev
    refine ⟨_, N', c6, c7, ?_⟩
    rcases hv01 v with e | e
    · right; exact ⟨e, fun h => by rw [hiff, e] at h; omega⟩
    · left; exact ⟨e, hiff.mpr e⟩
  · obtain ⟨Mc1', v, Mc2', N', c1, c2, c3, c4, c5, c6, c7⟩ := both M Mm sc (SM.refl _)
    have ev : (if v = -9223372036854775808 then (if Mm 72 (8 * 0 + s) < Mm 44 bus then (0 : Int) else 1) else (if v = 0 then 0 else 1)) = (if v0 = -9223372036854775808 then (if Mm 72 (8 * 0 + s) < Mm 44 bus then (0 : Int) else 1) else (if v0 = 0 then 0 else 1)) := by
      rw [b6] at c6
      simp only [Option.some.injEq, Prod.mk.injEq] at c6
      exact c6.1.symm
    have h' := h.frm sc (SM.refl _)
    obtain ⟨h70, h71⟩ := h'.2.2.1
    obtain ⟨-, ⟨o1, -⟩, -⟩ := h'.2.2.2.1
    rw [h3] at o1
    have m9 : M 4 9 = Mm 69 0 := h'.raw.2.2.1
    have m8 : M (32 * (4 + 1) + 8) i = s := by rw [h'.raw.2.2.2.1 i hi.1 hi.2]; exact hs0
    have m12 : M (32 * (t + 1) + 12) bus = Mm 44 bus := (h'.1.2.2.2.2.2.2.2.2.2.1 bus hb.1 hb.2).2.2.2.2.1
    have f1 : Mc2' 7 = M 7 := c4 7 (by omega) (by omega) (by omega)
    have f2 : Mc2' (32 * (t + 1) + 12) = M (32 * (t + 1) + 12) := c4 _ (by omega) (by omega) (by omega)
    have f3 : Mc2' (32 * (4 + 1) + 3) = M (32 * (4 + 1) + 3) := c4 _ (by omega) (by omega) (by omega)
    have eC : M (32 * (4 + 1) + 3) s = Mm 72 (8 * 0 + s) := (h'.raw.2.2.2.2 s hx.1 hx.2.1).2.1
    have hJ : ∀ y, (y = 0 ∨ y = 1) → f_X3_whoMay_J110 Gc bus x2 i s y Mc2' = Gc (if y = 1 then q_or x2 (q_shl 1 s) else x2) (i + 1) Mc2' := by
      intro y hy
      unfold f_X3_whoMay_J110 f_X3_whoMay_J125
      simp (disch := omega) only [w32_id, q_gf_e, q_gr_e, q_pf_e, q_pz_e, q_let_e, q_call_e, q_calp_e, q_al_ok, q_as_ok, q_nz_ok, up_same, up_nei, up_ne1, Int.toNat_natCast, reduceIte, Int.reduceEq, Int.reduceLT, Int.reduceLE, Int.reduceNeg, not_true_eq_false, not_false_eq_true, f1, o1]
      rcases hy with rfl | rfl
      · (try simp (disch := omega) only [w32_id, q_gf_e, q_gr_e, q_pf_e, q_pz_e, q_let_e, q_call_e, q_calp_e, q_al_ok, q_as_ok, q_nz_ok, up_same, up_nei, up_ne1, Int.toNat_natCast, reduceIte, Int.reduceEq, Int.reduceLT, Int.reduceLE, Int.reduceNeg, not_true_eq_false, not_false_eq_true])
      · (try simp (disch := omega) only [w32_id, q_gf_e, q_gr_e, q_pf_e, q_pz_e, q_let_e, q_call_e, q_calp_e, q_al_ok, q_as_ok, q_nz_ok, up_same, up_nei, up_ne1, Int.toNat_natCast, reduceIte, Int.reduceEq, Int.reduceLT, Int.reduceLE, Int.reduceNeg, not_true_eq_false, not_false_eq_true])
    unfold in64 at c5
    refine ⟨Mc2', if (if v = -9223372036854775808 then (if Mm 72 (8 * 0 + s) < Mm 44 bus then (0 : Int) else 1) else (if v = 0 then 0 else 1)) = 1 then q_or x2 (q_shl 1 s) else x2, sc.trans c4.to, ?_, ?_⟩
    · unfold f_X3_whoMay_B4
      simp (disch := omega) only [w32_id, q_gf_e, q_gr_e, q_pf_e, q_pz_e, q_let_e, q_call_e, q_calp_e, q_al_ok, q_as_ok, q_nz_ok, up_same, up_nei, up_ne1, Int.toNat_natCast, reduceIte, Int.reduceEq, Int.reduceLT, Int.reduceLE, Int.reduceNeg, not_true_eq_false, not_false_eq_true, h70, h71, m9, m8, m12, c1, c2, c3, f1, f2, f3, eC]
      rw [if_neg (by omega)]
      rw [hJ 0 (.inl rfl), hJ 1 (.inr rfl), cmp_v (by omega) (by omega), cmp_v (by omega) (by omega)]
      by_cases cv : v = -9223372036854775808
      · subst cv
        by_cases cf : Mm 72 (8 * 0 + s) < Mm 44 bus
        · simp only [cf, if_true]; simp
        · simp only [cf, if_false]; simp
      · have nv : ¬ v < -9223372036854775808 := by omega
        by_cases cz : v = 0
        · subst cz; simp
        · by_cases cl : v < 0
          · simp [cv, cz, nv, cl]
          · simp [cv, cz, nv, cl]
    · rcases hv01 v with e | e
      · right
        exact ⟨by rw [if_neg (by omega)], fun h => by rw [hiff, ← ev, e] at h; omega⟩
      · left
        exact ⟨by rw [if_pos e], hiff.mpr (by rw [← ev]; exact e)⟩
/-- the bits of those who may, and how many the other one counts -/
def MB (bus k : Int) (Mm : Mem) (x : Int) : Prop := in32 x ∧ ∀ p, 0 ≤ p → p < 32 → (Bt x p = true ↔ ∃ i, 0 ≤ i ∧ i < k ∧ Mm 70 i = p ∧ MVP bus p Mm)
theorem MB.step {bus k x s : Int} {Mm : Mem} (h : MB bus k Mm x) (hk : 0 ≤ k) (hs : 0 ≤ s ∧ s < 32) (e : Mm 70 k = s) : (MVP bus s Mm → MB bus (k + 1) Mm (q_or x (q_shl 1 s))) ∧ (¬ MVP bus s Mm → MB bus (k + 1) Mm x) := by
  refine ⟨fun hv => ⟨q_or_rng _ _, fun p a b => ?_⟩, fun hv => ⟨h.1, fun p a b => ?_⟩⟩
  · rw [Bt_or, Bt_shl hs a]
    have := h.2 p a b
    constructor
    · intro hb
      by_cases c : s = p
      · exact ⟨k, hk, by omega, by rw [e, c], by rw [← c]; exact hv⟩
      · have hb : Bt x p = true := by simpa [c] using hb
        obtain ⟨i, i1, i2, i3, i4⟩ := this.mp hb
        exact ⟨i, i1, by omega, i3, i4⟩
    · intro ⟨i, i1, i2, i3, i4⟩
      by_cases c : i = k
      · subst c
        have : s = p := by rw [← e, i3]
        simp [this]
      · have : Bt x p = true := this.mpr ⟨i, i1, by omega, i3, i4⟩
        simp [this]
  · rw [h.2 p a b]
    constructor
    · intro ⟨i, i1, i2, i3, i4⟩
      exact ⟨i, i1, by omega, i3, i4⟩
    · intro ⟨i, i1, i2, i3, i4⟩
      by_cases c : i = k
      · subst c
        have : s = p := by rw [← e, i3]
        rw [← this] at i4
        exact absurd i4 hv
      · exact ⟨i, i1, by omega, i3, i4⟩
theorem whoMayC {t : Nat} {bus : Int} {Mc Mm : Mem} (h : MR t 4 0 0 0 Mc Mm) (h3 : Mm 0 47 = 0) (hb : 0 ≤ bus ∧ bus < Mm 35 1) : wpo (f_X3_whoMay bus Mc) (fun z => SC Mc z.2 ∧ MB bus (Mm 69 0) Mm z.1) := by
  obtain ⟨r1, r2, r3, r4, r5, r6⟩ := h.rng
  have hS := h.1.2.1
  have ht := h.1.1
  unfold f_X3_whoMay f_X3_whoMay_L4
  refine qlm2_N (fun x k M => 0 ≤ k ∧ k ≤ Mm 69 0 ∧ SC Mc M ∧ MB bus k Mm x) (fun _ k _ => (Mm 69 0 - k).toNat) _ _ _ ⟨by omega, by omega, SC.refl _, by unfold in32; omega, fun p a b => ⟨fun e => by rw [Bt_0] at e; exact absurd e (by decide), fun ⟨i, i1, i2, _⟩ => by omega⟩⟩ (by omega) ?_
  intro x k M g ⟨i1, i2, i3, i4⟩ ih
  by_cases c : k < Mm 69 0
  · have hx := r4 k i1 c
    rw [show (8 * 0 + k : Int) = k by omega] at hx
    obtain ⟨-, hB⟩ := mayAB h h3 hb ⟨i1, c⟩ rfl
    obtain ⟨M2, x', m1, m2, m3⟩ := hB M i3 x g
    have st := i4.step i1 (s := Mm 70 k) (by omega) rfl
    rw [m2]
    refine ih _ _ _ ⟨by omega, by omega, m1, ?_⟩ (by omega)
    rcases m3 with ⟨rfl, hv⟩ | ⟨rfl, hv⟩
    · exact st.1 hv
    · exact st.2 hv
  · have h' := h.frm i3 (SM.refl _)
    obtain ⟨h70, h71⟩ := h'.2.2.1
    have m9 : M 4 9 = Mm 69 0 := h'.raw.2.2.1
    unfold f_X3_whoMay_B4
    simp (disch := omega) only [w32_id, q_gf_e, q_gr_e, q_pf_e, q_pz_e, q_let_e, q_call_e, q_calp_e, q_al_ok, q_as_ok, q_nz_ok, up_same, up_nei, up_ne1, Int.toNat_natCast, reduceIte, Int.reduceEq, Int.reduceLT, Int.reduceLE, Int.reduceNeg, not_true_eq_false, not_false_eq_true, h71, m9]
    rw [if_pos (by omega)]
    refine wpo_some.mpr ⟨i3, ?_⟩
    rw [show Mm 69 0 = k by omega]; exact i4
theorem tripsL {t : Nat} {bus : Int} {Mc Mm : Mem} (h : MR t 4 0 0 0 Mc Mm) (h3 : Mm 0 47 = 0) (hb : 0 ≤ bus ∧ bus < Mm 35 1) {x : Int} (hx : MB bus (Mm 69 0) Mm x) : ∃ N, f_X10_trips_L19 bus q_N 0 0 Mm = some ((w32 ((pcB x + Mm 43 bus) - 1)).tdiv (w32 (Mm 43 bus)), N) ∧ SM Mm N := by
  obtain ⟨r1, r2, r3, r4, r5, r6⟩ := h.rng
  have hS := h.1.2.1
  have hB := h.1.2.2.1
  have hro := (h.1.2.2.2.2.2.2.2.2.2.1 bus hb.1 hb.2).2.2.2.1
  obtain ⟨R, hRR⟩ : ∃ R, R = (w32 ((pcB x + Mm 43 bus) - 1)).tdiv (w32 (Mm 43 bus)) := ⟨_, rfl⟩
  rw [← hRR]
  have key : wpo (f_X10_trips_L19 bus q_N 0 0 Mm) (fun z => z.1 = R ∧ SM Mm z.2) := by
    unfold f_X10_trips_L19
    refine qlm2_N (fun n k N => 0 ≤ k ∧ k ≤ Mm 69 0 ∧ SM Mm N ∧ ∃ y, MB bus k Mm y ∧ n = pcB y) (fun _ k _ => (Mm 69 0 - k).toNat) _ _ _ ⟨by omega, by omega, SM.refl _, 0, ⟨by unfold in32; omega, fun p a b => ⟨fun e => by rw [Bt_0] at e; exact absurd e (by decide), fun ⟨i, i1, i2, _⟩ => by omega⟩⟩, pcB_0.symm⟩ (by omega) ?_
    intro n k N g ⟨i1, i2, i3, y, i4, i5⟩ ih
    have n69 := i3.1 69 (by omega) (by omega) (by omega) (by omega)
    have n43 := i3.1 43 (by omega) (by omega) (by omega) (by omega)
    have n70 := i3.1 70 (by omega) (by omega) (by omega) (by omega)
    unfold f_X10_trips_B19
    simp (disch := omega) only [w32_id, q_gf_e, q_gr_e, q_pf_e, q_pz_e, q_let_e, q_call_e, q_calp_e, q_al_ok, q_as_ok, q_nz_ok, up_same, up_nei, up_ne1, Int.toNat_natCast, reduceIte, Int.reduceEq, Int.reduceLT, Int.reduceLE, Int.reduceNeg, not_true_eq_false, not_false_eq_true, n69, n43]
    refine wpo_ite (fun c => ?_) (fun c => ?_)
    · (try simp (disch := omega) only [w32_id, q_gf_e, q_gr_e, q_pf_e, q_pz_e, q_let_e, q_call_e, q_calp_e, q_al_ok, q_as_ok, q_nz_ok, up_same, up_nei, up_ne1, Int.toNat_natCast, reduceIte, Int.reduceEq, Int.reduceLT, Int.reduceLE, Int.reduceNeg, not_true_eq_false, not_false_eq_true])
      refine wpo_some.mpr ⟨?_, i3⟩
      have ey : w32 y = w32 x := by
        refine Bt_ext (fun p a b => ?_)
        have e1 := i4.2 p a b
        have e2 := hx.2 p a b
        rw [show k = Mm 69 0 by omega] at e1
        cases hb1 : Bt y p <;> cases hb2 : Bt x p
        · rfl
        · rw [hb1] at e1; rw [hb2] at e2; exact absurd (e1.mpr (e2.mp rfl)) (by decide)
        · rw [hb1] at e1; rw [hb2] at e2; exact absurd (e2.mpr (e1.mp rfl)) (by decide)
        · rfl
      have iy := i4.1
      have ix := hx.1
      unfold in32 at ix iy
      rw [w32_id iy, w32_id ix] at ey
      have hro' := hro
      have pr := pcB_rng x
      show (w32 (n + Mm 43 bus - 1)).tdiv (Mm 43 bus) = R
      rw [hRR, i5, ey, w32_id (x := Mm 43 bus) (by omega)]
    · have hr := r4 k i1 (by omega)
      rw [show (8 * 0 + k : Int) = k by omega] at hr
      obtain ⟨hA, -⟩ := mayAB h h3 hb ⟨i1, by omega⟩ rfl
      obtain ⟨v, N', m1, m2, m3⟩ := hA N i3
      have st := i4.step i1 (s := Mm 70 k) (by omega) rfl
      simp (disch := omega) only [w32_id, q_gf_e, q_gr_e, q_pf_e, q_pz_e, q_let_e, q_call_e, q_calp_e, q_al_ok, q_as_ok, q_nz_ok, up_same, up_nei, up_ne1, Int.toNat_natCast, reduceIte, Int.reduceEq, Int.reduceLT, Int.reduceLE, Int.reduceNeg, not_true_eq_false, not_false_eq_true, n70, m1]
      rcases m3 with ⟨rfl, hv⟩ | ⟨rfl, hv⟩
      · (try simp (disch := omega) only [w32_id, q_gf_e, q_gr_e, q_pf_e, q_pz_e, q_let_e, q_call_e, q_calp_e, q_al_ok, q_as_ok, q_nz_ok, up_same, up_nei, up_ne1, Int.toNat_natCast, reduceIte, Int.reduceEq, Int.reduceLT, Int.reduceLE, Int.reduceNeg, not_true_eq_false, not_false_eq_true])
        refine ih _ _ _ ⟨by omega, by omega, i3.trans m2.to, q_or y (q_shl 1 (Mm 70 k)), st.1 hv, ?_⟩ (by omega)
        rw [i5, pcB_or (by omega)]
        cases hbt : Bt y (Mm 70 k)
        · rfl
        · obtain ⟨j, j1, j2, j3, -⟩ := (i4.2 (Mm 70 k) (by omega) (by omega)).mp hbt
          have := r5 j k j1 j2 (by omega)
          rw [show (8 * 0 + j : Int) = j by omega, show (8 * 0 + k : Int) = k by omega] at this
          exact absurd j3 this
      · (try simp (disch := omega) only [w32_id, q_gf_e, q_gr_e, q_pf_e, q_pz_e, q_let_e, q_call_e, q_calp_e, q_al_ok, q_as_ok, q_nz_ok, up_same, up_nei, up_ne1, Int.toNat_natCast, reduceIte, Int.reduceEq, Int.reduceLT, Int.reduceLE, Int.reduceNeg, not_true_eq_false, not_false_eq_true])
        refine ih _ _ _ ⟨by omega, by omega, i3.trans m2.to, y, st.2 hv, by omega⟩ (by omega)
  obtain ⟨⟨a, N⟩, e1, e2, e3⟩ := key
  simp only at e2 e3
  exact ⟨N, by rw [e1, e2], e3⟩
theorem MB.lt {t : Nat} {bus x : Int} {Mc Mm : Mem} (h : MR t 4 0 0 0 Mc Mm) (hx : MB bus (Mm 69 0) Mm x) : 0 ≤ x ∧ x < 256 := by
  obtain ⟨r1, r2, r3, r4, r5, r6⟩ := h.rng
  have hS := h.1.2.1
  have := bits_lt (n := 8) hx.1 (by omega) (fun p a b => by
    cases hb : Bt x p
    · rfl
    · obtain ⟨i, i1, i2, i3, -⟩ := (hx.2 p (by omega) b).mp hb
      have := r4 i i1 i2
      rw [show (8 * 0 + i : Int) = i by omega] at this
      omega)
  exact this
theorem o_trips : rs_trips Rel := by
  intro Mc Mm a0 hR h0
  obtain ⟨t, hr⟩ := hR
  have hr := hr.thr (v := 0)
  show PW _ _
  unfold f_X9_trips f_X10_trips
  rw [q_pf_e]
  generalize up Mm 0 0 0 = N at hr ⊢
  have hR : Rel Mc N := ⟨t, hr⟩
  have h03 := hr.1.1
  have hT := hr.2.1
  have ht := hT.1
  have hB := hT.2.2.1
  have h47 := hr.2.2.2.2.2.2.2.1
  have ec := isBusC (a := a0) h03 (by omega) h0
  have em := isBusM (M := N) (a := a0) (by omega) h0
  rw [hB.1] at ec
  rw [ec, em]
  by_cases c : 0 ≤ a0 ∧ a0 < N 35 1
  rotate_left
  · rw [if_neg c]
    (try simp (disch := omega) only [w32_id, q_gf_e, q_gr_e, q_pf_e, q_pz_e, q_let_e, q_call_e, q_calp_e, q_al_ok, q_as_ok, q_nz_ok, up_same, up_nei, up_ne1, Int.toNat_natCast, reduceIte, Int.reduceEq, Int.reduceLT, Int.reduceLE, Int.reduceNeg, not_true_eq_false, not_false_eq_true])
    exact PW.ok rfl hR
  rw [if_pos c]
  have hm := nowMR0 hr
  have hro := (hT.2.2.2.2.2.2.2.2.2.1 a0 c.1 c.2).2.2.2.1
  obtain ⟨⟨x, M1⟩, w1, w2, w3⟩ := whoMayC hm h47 c
  simp only at w2 w3
  have hlt := w3.lt hm
  obtain ⟨N1, g1, g2⟩ := tripsL hm h47 c w3
  have hbc := bitCountC (x := x) (M := M1) (by omega)
  have fc : FC t Mc M1 := FC.trans (fun n hn => RDY.ne (by unfold KC at hn; omega)) (w2.fc ht)
  have m03 : M1 0 3 = t := by rw [fc 0 (by unfold KC; omega)]; exact h03
  have m11 : M1 (32 * (t + 1) + 11) a0 = N 43 a0 := by rw [fc (32 * (t + 1) + 11) (by unfold KC; omega)]; exact hro.1
  simp (disch := omega) only [w32_id, q_gf_e, q_gr_e, q_pf_e, q_pz_e, q_let_e, q_call_e, q_calp_e, q_al_ok, q_as_ok, q_nz_ok, up_same, up_nei, up_ne1, Int.toNat_natCast, reduceIte, Int.reduceEq, Int.reduceLT, Int.reduceLE, Int.reduceNeg, not_true_eq_false, not_false_eq_true, h03, readyC, w1, hbc, m03, m11, g1]
  rw [if_pos (by omega)]
  have e : pcB x + N 43 a0 - 1 = pcB x + N 43 a0 - 1 := rfl
  exact PW.ok rfl ⟨t, hr.frm fc g2.fm⟩
