/-- a bus comes at a minute -/
def CM (f v at' : Int) : Prop := f ≤ at' ∧ (at' - f) % v = 0
def FF (f v m : Int) : Int := if m ≤ f then f else if (m - f) % v = 0 then m else m + v - (m - f) % v
theorem FF.spec {f v m : Int} (hv : 1 ≤ v) : m ≤ FF f v m ∧ CM f v (FF f v m) ∧ ∀ j, m ≤ j → j < FF f v m → ¬ CM f v j := by
  unfold FF CM
  by_cases c1 : m ≤ f
  · rw [if_pos c1]
    refine ⟨c1, ⟨Int.le_refl _, by rw [Int.sub_self, Int.zero_emod]⟩, fun j a b h => by omega⟩
  · rw [if_neg c1]
    have h0 := Int.emod_nonneg (m - f) (show v ≠ 0 by omega)
    have h1 := Int.emod_lt_of_pos (m - f) (show 0 < v by omega)
    by_cases c2 : (m - f) % v = 0
    · rw [if_pos c2]
      exact ⟨Int.le_refl _, ⟨by omega, c2⟩, fun j a b => by omega⟩
    · rw [if_neg c2]
      have hd := Int.emod_add_mul_ediv (m - f) v
      refine ⟨by omega, ⟨by omega, ?_⟩, fun j a b h => ?_⟩
      · have e : m + v - (m - f) % v - f = v * ((m - f) / v) + v := by omega
        rw [e, Int.add_emod_right, Int.mul_emod_right]
      · have e : j - f = (j - m + (m - f) % v) + v * ((m - f) / v) := by omega
        have h2 := h.2
        rw [e, Int.add_mul_emod_self_left, Int.emod_eq_of_lt (by omega) (by omega)] at h2
        omega
theorem FF.le {f v m : Int} (hv : 1 ≤ v) : FF f v m ≤ (if m ≤ f then f else m + v - 1) := by
  unfold FF
  have h0 := Int.emod_nonneg (m - f) (show v ≠ 0 by omega)
  split
  · omega
  · split <;> omega
theorem tmod_e {a v : Int} (ha : 0 ≤ a) : a.tmod v = a % v := Int.tmod_eq_emod_of_nonneg ha
theorem RelT.b {t : Nat} {Mc N : Mem} (h : RelT t Mc N) {bus : Int} (hb : 0 ≤ bus ∧ bus < N 35 1) : (Mc (32 * (t + 1) + 9) bus = N 41 bus ∧ 0 ≤ N 41 bus ∧ N 41 bus ≤ 99) ∧ (Mc (32 * (t + 1) + 10) bus = N 42 bus ∧ 1 ≤ N 42 bus ∧ N 42 bus ≤ 30) := by
  have := h.2.1.2.2.2.2.2.2.2.2.2.1 bus hb.1 hb.2
  exact ⟨this.2.1, this.2.2.1⟩
theorem comingM {t : Nat} {bus at' : Int} {Mc N : Mem} (hr : RelT t Mc N) (hb : 0 ≤ bus ∧ bus < N 35 1) (ha : 0 ≤ at' ∧ at' ≤ 100000) : ∃ z, f_X10_isComing bus at' N = some z ∧ ((z = 1 ∧ CM (N 41 bus) (N 42 bus) at') ∨ (z = 0 ∧ ¬ CM (N 41 bus) (N 42 bus) at')) := by
  have hB := hr.2.1.2.2.1
  have h48 := hr.2.2.2.2.2.2.2.2
  obtain ⟨b1, b2⟩ := hr.b hb
  unfold f_X10_isComing f_X10_everyOf CM
  simp (disch := omega) only [w32_id, q_gf_e, q_gr_e, q_pf_e, q_pz_e, q_let_e, q_call_e, q_calp_e, q_al_ok, q_as_ok, q_nz_ok, up_same, up_nei, up_ne1, Int.toNat_natCast, reduceIte, Int.reduceEq, Int.reduceLT, Int.reduceLE, Int.reduceNeg, not_true_eq_false, not_false_eq_true, h48]
  by_cases c1 : at' < N 41 bus
  · rw [if_pos c1]; exact ⟨0, rfl, .inr ⟨rfl, fun h => by omega⟩⟩
  · have hn : ¬ bus = -1 := by omega
    rw [if_neg c1, if_pos hn]
    (try simp (disch := omega) only [w32_id, q_gf_e, q_gr_e, q_pf_e, q_pz_e, q_let_e, q_call_e, q_calp_e, q_al_ok, q_as_ok, q_nz_ok, up_same, up_nei, up_ne1, Int.toNat_natCast, reduceIte, Int.reduceEq, Int.reduceLT, Int.reduceLE, Int.reduceNeg, not_true_eq_false, not_false_eq_true])
    have hm0 := Int.emod_nonneg (at' - N 41 bus) (show N 42 bus ≠ 0 by omega)
    have hm1 := Int.emod_lt_of_pos (at' - N 41 bus) (show 0 < N 42 bus by omega)
    rw [tmod_e (by omega), w32_id (by omega)]
    by_cases c2 : (at' - N 41 bus) % N 42 bus = 0
    · rw [if_neg (fun h => h c2)]
      exact ⟨1, rfl, .inl ⟨rfl, by omega, c2⟩⟩
    · rw [if_pos c2]
      exact ⟨0, rfl, .inr ⟨rfl, fun h => c2 h.2⟩⟩
theorem firstC {t : Nat} {bus m : Int} {Mc N : Mem} (hr : RelT t Mc N) (hb : 0 ≤ bus ∧ bus < N 35 1) (hm : 0 ≤ m ∧ m ≤ 100000) : f_X9_firstFrom m bus Mc = some (FF (N 41 bus) (N 42 bus) m) := by
  have hB := hr.2.1.2.2.1
  have h03 := hr.1.1
  obtain ⟨b1, b2⟩ := hr.b hb
  unfold f_X9_firstFrom f_X9_firstFrom_J28 FF
  simp (disch := omega) only [w32_id, q_gf_e, q_gr_e, q_pf_e, q_pz_e, q_let_e, q_call_e, q_calp_e, q_al_ok, q_as_ok, q_nz_ok, up_same, up_nei, up_ne1, Int.toNat_natCast, reduceIte, Int.reduceEq, Int.reduceLT, Int.reduceLE, Int.reduceNeg, not_true_eq_false, not_false_eq_true, h03, b1.1, b2.1]
  by_cases c1 : m ≤ N 41 bus
  · rw [if_pos c1, if_pos c1]
  · have hm0 := Int.emod_nonneg (m - N 41 bus) (show N 42 bus ≠ 0 by omega)
    have hm1 := Int.emod_lt_of_pos (m - N 41 bus) (show 0 < N 42 bus by omega)
    rw [if_neg c1, if_neg c1, if_pos (by omega), tmod_e (by omega), w32_id (by omega)]
    by_cases c2 : (m - N 41 bus) % N 42 bus = 0
    · rw [if_neg (fun h => h c2), if_pos c2]
    · rw [if_pos c2, if_neg c2]
theorem o_next : rs_next Rel := by
  intro Mc Mm a0 hR h0
  obtain ⟨t, hr⟩ := hR
  have hr := hr.thr (v := 0)
  show PM Mc _ _
  unfold f_X9_next f_X10_next
  rw [q_pf_e]
  generalize up Mm 0 0 0 = N at hr ⊢
  have hR : Rel Mc N := ⟨t, hr⟩
  have h03 := hr.1.1
  have hB := hr.2.1.2.2.1
  have h98 := hr.m98
  have ec := isBusC (a := a0) h03 (by omega) h0
  have em := isBusM (M := N) (a := a0) (by omega) h0
  rw [hB.1] at ec
  rw [ec, em]
  by_cases c : 0 ≤ a0 ∧ a0 < N 35 1
  rotate_left
  · rw [if_neg c]
    (try simp (disch := omega) only [w32_id, q_gf_e, q_gr_e, q_pf_e, q_pz_e, q_let_e, q_call_e, q_calp_e, q_al_ok, q_as_ok, q_nz_ok, up_same, up_nei, up_ne1, Int.toNat_natCast, reduceIte, Int.reduceEq, Int.reduceLT, Int.reduceLE, Int.reduceNeg, not_true_eq_false, not_false_eq_true])
    exact PM.ok rfl hR
  rw [if_pos c]
  obtain ⟨b1, b2⟩ := hr.b c
  obtain ⟨s1, s2, s3⟩ := FF.spec (f := N 41 a0) (v := N 42 a0) (m := N 67 0) (by omega)
  have s4 := FF.le (f := N 41 a0) (v := N 42 a0) (m := N 67 0) (by omega)
  have s5 : FF (N 41 a0) (N 42 a0) (N 67 0) ≤ N 67 0 + 200 := by
    revert s4; split <;> omega
  have hl : f_X10_next_L17 a0 N q_N 0 = some (FF (N 41 a0) (N 42 a0) (N 67 0) - N 67 0, N) := by
    rw [← wpo_eq]
    unfold f_X10_next_L17
    refine qlp1_N (fun x => 0 ≤ x ∧ x ≤ FF (N 41 a0) (N 42 a0) (N 67 0) - N 67 0) (fun x => (FF (N 41 a0) (N 42 a0) (N 67 0) - N 67 0 - x).toNat) _ ⟨by omega, by omega⟩ (by omega) ?_
    intro x g ⟨i1, i2⟩ ih
    unfold f_X10_next_B17
    obtain ⟨z, z1, z2⟩ := comingM (at' := N 67 0 + x) hr c (by omega)
    simp (disch := omega) only [w32_id, q_gf_e, q_gr_e, q_pf_e, q_pz_e, q_let_e, q_call_e, q_calp_e, q_al_ok, q_as_ok, q_nz_ok, up_same, up_nei, up_ne1, Int.toNat_natCast, reduceIte, Int.reduceEq, Int.reduceLT, Int.reduceLE, Int.reduceNeg, not_true_eq_false, not_false_eq_true, z1]
    rcases z2 with ⟨rfl, z2⟩ | ⟨rfl, z2⟩
    · (try simp (disch := omega) only [w32_id, q_gf_e, q_gr_e, q_pf_e, q_pz_e, q_let_e, q_call_e, q_calp_e, q_al_ok, q_as_ok, q_nz_ok, up_same, up_nei, up_ne1, Int.toNat_natCast, reduceIte, Int.reduceEq, Int.reduceLT, Int.reduceLE, Int.reduceNeg, not_true_eq_false, not_false_eq_true])
      refine wpo_some.mpr ?_
      congr 1
      have := s3 (N 67 0 + x) (by omega)
      by_cases cx : N 67 0 + x < FF (N 41 a0) (N 42 a0) (N 67 0)
      · exact absurd z2 (this cx)
      · omega
    · (try simp (disch := omega) only [w32_id, q_gf_e, q_gr_e, q_pf_e, q_pz_e, q_let_e, q_call_e, q_calp_e, q_al_ok, q_as_ok, q_nz_ok, up_same, up_nei, up_ne1, Int.toNat_natCast, reduceIte, Int.reduceEq, Int.reduceLT, Int.reduceLE, Int.reduceNeg, not_true_eq_false, not_false_eq_true])
      refine ih _ ⟨by omega, ?_⟩ ?_
      · by_cases cx : N 67 0 + x = FF (N 41 a0) (N 42 a0) (N 67 0)
        · rw [cx] at z2; exact absurd s2 z2
        · omega
      · have : x ≠ FF (N 41 a0) (N 42 a0) (N 67 0) - N 67 0 := fun e => by
          have e' : N 67 0 + x = FF (N 41 a0) (N 42 a0) (N 67 0) := by omega
          rw [e'] at z2; exact z2 s2
        omega
  have hf := firstC (m := N 67 0) hr c (by omega)
  simp (disch := omega) only [w32_id, q_gf_e, q_gr_e, q_pf_e, q_pz_e, q_let_e, q_call_e, q_calp_e, q_al_ok, q_as_ok, q_nz_ok, up_same, up_nei, up_ne1, Int.toNat_natCast, reduceIte, Int.reduceEq, Int.reduceLT, Int.reduceLE, Int.reduceNeg, not_true_eq_false, not_false_eq_true, h98.1, hf, hl]
  exact PM.ok rfl hR
theorem CM.next {f v x j : Int} (hv : 1 ≤ v) (h : CM f v x) (a : x < j) (b : j < x + v) : ¬ CM f v j := by
  intro hj
  have e : j - f = (j - x) + (x - f) := by omega
  have h2 := hj.2
  rw [e, Int.add_emod, h.2, Int.add_zero, Int.emod_emod_of_dvd _ (Int.dvd_refl v), Int.emod_eq_of_lt (by omega) (by omega)] at h2
  omega
theorem CM.add {f v x : Int} (hv : 1 ≤ v) (h : CM f v x) : CM f v (x + v) := by
  refine ⟨by have := h.1; omega, ?_⟩
  have e : x + v - f = (x - f) + v := by omega
  rw [e, Int.add_emod_right]
  exact h.2
theorem CM.sub {f v x k : Int} (h : CM f v x) (hk : f ≤ x - v * k) : CM f v (x - v * k) := by
  refine ⟨hk, ?_⟩
  have e : x - v * k - f = (x - f) - v * k := by omega
  rw [e, Int.sub_mul_emod_self_left]
  exact h.2
