/-! lines: a soul at hand; the line of lets -/
theorem find_w32 {n l : Nat} {w s : Int} {M : Mem} : f_X9_find n l w s M = f_X9_find n l w (w32 s) M := by
  have e : w32 (w32 s) = w32 s := w32_id (w32_rng s)
  unfold f_X9_find f_X9_find_L2 f_X9_find_B2
  rw [e]
def flt (f : Int) (M : Mem) : Mem := up (up M 0 26 f) 0 27 (M 0 23)
theorem flt_FQa {f : Int} (h : 1 ≤ f ∧ f ≤ 5) (M : Mem) : FQa (flt f M) := by
  unfold FQa flt
  rw [up_nei (by omega), up_same]
  exact h
theorem wrongF {f : Int} {M : Mem} (h : M 0 26 = 0) : f_X10_wrong f M = some (0, flt f M) := wrongM h
theorem flt_fq {f : Int} {Mc Mm : Mem} (h : 1 ≤ f ∧ f ≤ 5) : FLT f Mc Mm (up (up Mc 1 4 f) 1 5 (Mm 0 23)) (flt f Mm) := ⟨h, rfl, rfl⟩
theorem hand_q {x : Int} {M : Mem} (h : FQa M) : f_X10_soulAtHand_J51 x M = some (0, M) := by
  unfold f_X10_soulAtHand_J51 f_X10_soulAtHand_J69
  rw [q_gf_e, if_pos h.w, q_gf_e, if_neg h.w]
theorem handW {u : Nat} {L : Int} {Mc Mm : Mem} (h : RD u L Mc Mm) : ∃ x, f_X9_find (32 * (u + 1) + 1) 8 (Mc u 0) (Mc 10 6) Mc = some x ∧ (-1 ≤ x ∧ x < Mm 35 7) ∧ (Mc 10 4 ≠ 20 → f_X10_soulAtHand Mm = some (0, flt 1 Mm)) ∧ (Mc 10 4 = 20 → x = -1 → f_X10_soulAtHand Mm = some (0, flt 4 Mm)) ∧ (Mc 10 4 = 20 → x ≠ -1 → f_X10_soulAtHand Mm = some (x, Mm)) := by
  obtain ⟨g1, g2, g3, g4, g5, g6, g7, g8, g9, g10⟩ := h
  obtain ⟨t1, t2, t3, t4⟩ := g4.2.2.num
  obtain ⟨o1, o2⟩ := g4.2.2.own
  obtain ⟨k1, k2, k3, k4, k5, k6, k7, k8, k9, k10, k11⟩ := g6
  have S0 : hv Mm 35 0 = Mm 35 7 := rfl
  rw [S0] at k2 k8
  have he : ∀ j, 0 ≤ j → j < Mm 35 7 → Mc (32 * (u + 1) + 1) j = Mm 36 (8 + j) ∧ in32 (Mm 36 (8 + j)) := fun j a b => (k8 j a b).1
  obtain ⟨x, f1, f2⟩ := findC (n0 := 32 * (u + 1) + 1) (l0 := 8) (w := Mc u 0) (s := w32 (Mc 10 6)) (M := Mc) (by omega) (by omega) (w32_rng _) (fun j a b => by rw [(he j a (by omega)).1]; exact (he j a (by omega)).2)
  rw [← find_w32] at f1
  have hx : -1 ≤ x ∧ x < Mm 35 7 := by rcases f2 with ⟨z1, z2, _⟩ | ⟨z1, _⟩ <;> omega
  refine ⟨x, f1, hx, ?_, ?_, ?_⟩
  · intro c
    have c' : ¬ Mm 0 24 = 1 := fun z => c (o1.mpr z)
    unfold f_X10_soulAtHand f_X10_soulAtHand_J22
    have hq := flt_FQa (f := 1) (by omega) Mm
    rw [q_gf_e, g5, if_pos (show w32 0 = 0 by decide), q_gf_e, w32_id (x := Mm 0 24) (by omega), w32_id (x := 1) (by omega), if_neg c', wrongF g5, q_call_e, q_gf_e, if_pos hq.w, hand_q hq]
  all_goals
    intro c cx
    have c' := o1.mp c
    obtain ⟨w1, w2, w3⟩ := o2 c'
    have hin : in32 (Mm 0 25) := by unfold in32; omega
    obtain ⟨y, p1, p2⟩ := foundM (n0 := 36) (l0 := 16) (b := 8) (w := Mm 35 7) (s := Mm 0 25) (M := Mm) (by omega) (by omega) hin (fun j a b => (he j a b).2)
    have exy : x = y := by
      rw [w1, w32_id (by omega), k2.1] at f2
      rcases f2.same p2 (fun j a b => (he j a b).1) with ⟨z, _⟩ | ⟨z1, z2⟩
      · exact z
      · rw [z1, z2]
    rw [← exy] at p1
    unfold f_X10_soulAtHand f_X10_soulAtHand_J22
    rw [q_gf_e, g5, if_pos (show w32 0 = 0 by decide), q_gf_e, w32_id (x := Mm 0 24) (by omega), c', if_pos (show (1 : Int) = w32 1 by decide), q_gf_e, g5, if_neg (show ¬ ¬ w32 0 = 0 by decide), fresherM (by omega), q_calp_e, q_gf_e, show (7 : Int) + 0 = 7 by rfl, p1, q_calp_e]
  · unfold f_X10_soulAtHand_J51 f_X10_soulAtHand_J69
    have hq := flt_FQa (f := 4) (by omega) Mm
    rw [q_gf_e, g5, if_neg (show ¬ ¬ w32 0 = 0 by decide), cx, if_neg (fun z => z rfl), wrongF g5, q_call_e, q_gf_e, if_neg hq.w]
  · unfold f_X10_soulAtHand_J51 f_X10_soulAtHand_J69
    rw [q_gf_e, g5, if_neg (show ¬ ¬ w32 0 = 0 by decide), w32_id (x := x) (by omega), w32_id (x := -1) (by omega), if_pos cx, q_gf_e, g5, if_pos (show w32 0 = 0 by decide)]
theorem lets_q {M : Mem} (h : FQa M) : f_X10_letsLine_J116 M = some (0, up M 35 9 (M 35 9 + 1)) := by
  unfold f_X10_letsLine_J116
  rw [q_goOn h, q_call_e, fresherM (by omega), q_calp_e, readsM (by omega), q_call_e]
  rfl
/-- the loop that looks for what was told: at a fault it does nothing -/
theorem lets_lq {n : Int} {M : Mem} (hn : 0 ≤ n ∧ n < 8) (h : FQa M) : f_X10_letsLine_L36 (8 + n) q_N 8 M = some (0, up M 35 9 (M 35 9 + 1)) := by
  unfold f_X10_letsLine_L36
  rw [← wpo_eq]
  refine qlm1_N (fun x N => N = M ∧ 8 ≤ x ∧ x ≤ 8 + n) (fun x _ => (8 + n - x).toNat) _ _ ⟨rfl, by omega, by omega⟩ (by omega) ?_
  rintro x N g ⟨rfl, h1, h2⟩ ih
  unfold f_X10_letsLine_B36
  rw [w32_id (x := 8 + n) (by omega), w32_id (x := x) (by omega), q_gf_e, if_pos h.w, lets_q h]
  refine wpo_ite (fun c => wpo_some.mpr rfl) (fun c => ?_)
  rw [q_gf_e, if_pos h.w]
  exact ih _ _ ⟨rfl, by omega, by omega⟩ (by omega)
def DUP (n : Int) (M : Mem) (z : Int) : Prop := ∃ j, 0 ≤ j ∧ j < z ∧ M 45 (8 + j) = M 45 (8 + n) ∧ M 46 (8 + j) = M 46 (8 + n)
theorem lets_l {n : Int} {M X : Mem} {y : Int × Mem} (hn : 0 ≤ n ∧ n < 8) (h26 : M 0 26 = 0) (hb : ∀ j, 0 ≤ j → j ≤ n → in32 (M 45 (8 + j)) ∧ in32 (M 46 (8 + j))) (hX : (DUP n M n ∧ X = flt 3 M) ∨ (¬ DUP n M n ∧ M 45 (8 + n) ≠ M 46 (8 + n) ∧ X = M) ∨ (¬ DUP n M n ∧ M 45 (8 + n) = M 46 (8 + n) ∧ X = flt 5 M)) (hy : f_X10_letsLine_J116 X = some y) : f_X10_letsLine_L36 (8 + n) q_N 8 M = some y := by
  unfold f_X10_letsLine_L36
  rw [← wpo_eq]
  have hq3 := flt_FQa (f := 3) (by omega) M
  refine qlm1_N (fun x N => (8 ≤ x ∧ x ≤ 8 + n) ∧ ((N = M ∧ ¬ DUP n M (x - 8)) ∨ (N = flt 3 M ∧ DUP n M (x - 8)))) (fun x _ => (8 + n - x).toNat) _ _ ⟨⟨by omega, by omega⟩, .inl ⟨rfl, fun ⟨j, a, b, _⟩ => by omega⟩⟩ (by omega) ?_
  rintro x N g ⟨⟨h1, h2⟩, h3⟩ ih
  unfold f_X10_letsLine_B36
  rw [w32_id (x := 8 + n) (by omega), w32_id (x := x) (by omega)]
  refine wpo_ite (fun c => ?_) (fun c => ?_)
  · have ex : x - 8 = n := by omega
    rw [ex] at h3
    rcases h3 with ⟨rfl, h4⟩ | ⟨rfl, h4⟩
    · have b1 := (hb n (by omega) (by omega)).1
      have b2 := (hb n (by omega) (by omega)).2
      unfold in32 at b1 b2
      rw [q_gf_e, h26, if_neg (show ¬ ¬ w32 0 = 0 by decide), q_al_ok (by omega), q_al_ok (by omega), w32_id b1, w32_id b2]
      rcases hX with ⟨z, _⟩ | ⟨z, z1, z2⟩ | ⟨z, z1, z2⟩
      · exact absurd z h4
      · rw [if_pos z1, ← z2, hy]
        exact wpo_some.mpr rfl
      · rw [if_neg (fun q => q z1), wrongF h26, q_call_e, ← z2, hy]
        exact wpo_some.mpr rfl
    · rw [q_gf_e, if_pos hq3.w]
      rcases hX with ⟨z, z2⟩ | ⟨z, _⟩ | ⟨z, _⟩
      · rw [← z2, hy]
        exact wpo_some.mpr rfl
      · exact absurd h4 z
      · exact absurd h4 z
  · have mono : DUP n M (x - 8) → DUP n M (x + 1 - 8) := fun ⟨j, a, b, d⟩ => ⟨j, a, by omega, d⟩
    rcases h3 with ⟨rfl, h4⟩ | ⟨rfl, h4⟩
    · have b1 := hb n (by omega) (by omega)
      have b2 := hb (x - 8) (by omega) (by omega)
      rw [show 8 + (x - 8) = x by omega] at b2
      unfold in32 at b1 b2
      rw [q_gf_e, h26, if_neg (show ¬ ¬ w32 0 = 0 by decide), q_al_ok (by omega), q_al_ok (by omega), w32_id b1.1, w32_id b2.1]
      have step : (N 45 x ≠ N 45 (8 + n) ∨ N 46 x ≠ N 46 (8 + n)) → ¬ DUP n N (x + 1 - 8) := by
        rintro q ⟨j, a, b, d1, d2⟩
        by_cases cj : j = x - 8
        · rw [cj, show 8 + (x - 8) = x by omega] at d1 d2
          rcases q with q | q
          · exact q d1
          · exact q d2
        · exact h4 ⟨j, a, by omega, d1, d2⟩
      refine wpo_ite (fun c1 => ih _ _ ⟨⟨by omega, by omega⟩, .inl ⟨rfl, step (.inl c1)⟩⟩ (by omega)) (fun c1 => ?_)
      rw [q_al_ok (by omega), q_al_ok (by omega), w32_id b1.2, w32_id b2.2]
      refine wpo_ite (fun c2 => ih _ _ ⟨⟨by omega, by omega⟩, .inl ⟨rfl, step (.inr c2)⟩⟩ (by omega)) (fun c2 => ?_)
      rw [wrongF h26, q_call_e]
      refine ih _ _ ⟨⟨by omega, by omega⟩, .inr ⟨rfl, x - 8, by omega, by omega, ?_, ?_⟩⟩ (by omega)
      · rw [show 8 + (x - 8) = x by omega]; omega
      · rw [show 8 + (x - 8) = x by omega]; omega
    · rw [q_gf_e, if_pos hq3.w]
      exact ih _ _ ⟨⟨by omega, by omega⟩, .inr ⟨rfl, mono h4⟩⟩ (by omega)
