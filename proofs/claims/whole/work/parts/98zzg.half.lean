/-! the end of a text: halves -/
def HF (n0 : Nat) (h x : Int) (M : Mem) : Mem := fun n i => if n = n0 ∧ 0 ≤ i ∧ i < x then M n0 (h + i) else M n i
theorem halfM {n0 l0 : Nat} {h : Int} {M : Mem} (hl : (l0 : Int) = 2 * h) (h0 : 1 ≤ h ∧ h ≤ 64) : f_X10_half n0 l0 M = some (0, HF n0 h h M) := by
  rw [← wpo_eq]
  unfold f_X10_half f_X10_half_L7
  have eh : (w32 ((l0 : Nat) : Int)).tdiv (w32 2) = h := by
    rw [w32_id (x := ((l0 : Nat) : Int)) (by omega), w32_id (x := 2) (by omega), Int.tdiv_eq_ediv_of_nonneg (by omega)]
    omega
  rw [q_nz_ok (by omega), eh]
  refine qlm1_N (fun x M' => 0 ≤ x ∧ x ≤ h ∧ ∀ n i, M' n i = HF n0 h x M n i) (fun x _ => (h - x).toNat) _ _ ⟨by omega, by omega, ?_⟩ (by omega) ?_
  · intro n i
    unfold HF
    rw [if_neg (by omega)]
  · intro x M' g ⟨h1, h2, h3⟩ ih
    unfold f_X10_half_B7
    rw [w32_id (x := h) (by omega), w32_id (x := x) (by omega)]
    refine wpo_ite (fun c => wpo_some.mpr ?_) (fun c => ?_)
    · congr 1
      funext n i
      rw [h3, show x = h by omega]
    · have e : M' n0 (h + x) = M n0 (h + x) := by
        rw [h3]
        unfold HF
        rw [if_neg (by omega)]
      rw [q_al_ok (by omega), q_as_ok (by omega), e]
      refine ih _ _ ⟨by omega, by omega, ?_⟩ (by omega)
      intro n i
      unfold up
      by_cases c1 : n = n0 ∧ i = x
      · rw [if_pos c1]
        unfold HF
        rw [if_pos (by omega), c1.2]
      · rw [if_neg c1, h3]
        unfold HF
        by_cases c2 : n = n0 ∧ 0 ≤ i ∧ i < x
        · rw [if_pos c2, if_pos (by omega)]
        · rw [if_neg c2, if_neg (by omega)]
theorem HF.ne {n0 n : Nat} {h x : Int} {M : Mem} (hn : n ≠ n0) : HF n0 h x M n = M n := by
  funext i
  unfold HF
  rw [if_neg (fun z => hn z.1)]
theorem HF.lo {n0 : Nat} {h x i : Int} {M : Mem} (hi : 0 ≤ i ∧ i < x) : HF n0 h x M n0 i = M n0 (h + i) := by
  unfold HF
  rw [if_pos ⟨rfl, hi⟩]
/-- all halves -/
def HA (M : Mem) : Mem := HF 50 64 64 (HF 49 64 64 (HF 48 3 3 (HF 47 3 3 (HF 46 8 8 (HF 45 8 8 (HF 44 4 4 (HF 43 4 4 (HF 42 4 4 (HF 41 4 4 (HF 40 4 4 (HF 39 8 8 (HF 38 8 8 (HF 37 8 8 (HF 36 8 8 (HF 35 7 7 M)))))))))))))))
def LOW (n : Nat) (i : Int) : Prop := 0 ≤ i ∧ ((n = 35 ∧ i < 7) ∨ (36 ≤ n ∧ n ≤ 39 ∧ i < 8) ∨ (40 ≤ n ∧ n ≤ 44 ∧ i < 4) ∨ ((n = 45 ∨ n = 46) ∧ i < 8) ∨ ((n = 47 ∨ n = 48) ∧ i < 3) ∨ ((n = 49 ∨ n = 50) ∧ i < 64))
theorem HA.ne {n : Nat} {M : Mem} (h : n < 35 ∨ 50 < n) : HA M n = M n := by
  unfold HA
  rw [HF.ne (by omega), HF.ne (by omega), HF.ne (by omega), HF.ne (by omega), HF.ne (by omega), HF.ne (by omega), HF.ne (by omega), HF.ne (by omega), HF.ne (by omega), HF.ne (by omega), HF.ne (by omega), HF.ne (by omega), HF.ne (by omega), HF.ne (by omega), HF.ne (by omega), HF.ne (by omega)]
theorem HA.lo {n : Nat} {i : Int} {M : Mem} (h : LOW n i) : HA M n i = hv M n i := by
  obtain ⟨h0, h⟩ := h
  have hn : n = 35 ∨ n = 36 ∨ n = 37 ∨ n = 38 ∨ n = 39 ∨ n = 40 ∨ n = 41 ∨ n = 42 ∨ n = 43 ∨ n = 44 ∨ n = 45 ∨ n = 46 ∨ n = 47 ∨ n = 48 ∨ n = 49 ∨ n = 50 := by omega
  unfold HA
  rcases hn with rfl | rfl | rfl | rfl | rfl | rfl | rfl | rfl | rfl | rfl | rfl | rfl | rfl | rfl | rfl | rfl
  all_goals
    repeat rw [HF.ne (by omega)]
    rw [HF.lo (by omega)]
    repeat rw [HF.ne (by omega)]
    rfl
theorem TR.lo {t : Nat} {Mc Mc' Mm Mm' : Mem} (h : TR t Mc Mm) (fc : ∀ n, (n = t ∨ n = t + 10 ∨ (32 * (t + 1) + 1 ≤ n ∧ n ≤ 32 * (t + 1) + 12) ∨ (32 * (t + 11) ≤ n ∧ n ≤ 32 * (t + 11) + 3)) → Mc' n = Mc n) (fm : ∀ n i, LOW n i → Mm' n i = Mm n i) : TR t Mc' Mm' := by
  obtain ⟨h1, h2, h3, h4, h5, h6, h7, h8, h9, h10, h11⟩ := h
  unfold LOW at fm
  have h91 := h9.1
  have h92 := h9.2.1
  have m35 : ∀ i, 0 ≤ i → i < 7 → Mm' 35 i = Mm 35 i := fun i a b => fm 35 i (by omega)
  refine ⟨h1, ?_, ?_, ?_, ?_, ?_, ?_, ?_, ?_, ?_, ?_⟩
  · rw [m35 0 (by omega) (by omega), fc t (by omega)]; exact h2
  · rw [m35 1 (by omega) (by omega), fc t (by omega)]; exact h3
  · rw [m35 3 (by omega) (by omega), fc t (by omega)]; exact h4
  · rw [m35 4 (by omega) (by omega), fc t (by omega)]; exact h5
  · rw [m35 5 (by omega) (by omega), fc t (by omega)]; exact h6
  · rw [m35 6 (by omega) (by omega), fc (t + 10) (by omega)]; exact h7
  · rw [m35 0 (by omega) (by omega), m35 2 (by omega) (by omega)]
    intro p a b
    obtain ⟨k1, k2, k3, k4, k5⟩ := h8 p a b
    rw [fc (32 * (t + 1) + 1) (by omega), fc (32 * (t + 1) + 2) (by omega), fc (32 * (t + 1) + 3) (by omega), fc (32 * (t + 1) + 4) (by omega), fc (32 * (t + 1) + 5) (by omega), fm 36 p (by omega), fm 37 p (by omega), fm 38 p (by omega), fm 39 p (by omega)]
    refine ⟨k1, k2, k3, k4, ?_⟩
    rw [k5]
    refine orT_congr _ (fun i c d => ?_)
    rw [fm 45 i (by omega), fm 46 i (by omega)]
  · rw [m35 0 (by omega) (by omega), m35 2 (by omega) (by omega)]
    refine ⟨h9.1, h9.2.1, fun j a b => ?_⟩
    have := h9.2.1
    rw [fm 45 j (by omega), fm 46 j (by omega)]
    exact h9.2.2 j a b
  · rw [m35 1 (by omega) (by omega)]
    intro p a b
    rw [fc (32 * (t + 1) + 8) (by omega), fc (32 * (t + 1) + 9) (by omega), fc (32 * (t + 1) + 10) (by omega), fc (32 * (t + 1) + 11) (by omega), fc (32 * (t + 1) + 12) (by omega), fm 40 p (by omega), fm 41 p (by omega), fm 42 p (by omega), fm 43 p (by omega), fm 44 p (by omega)]
    exact h10 p a b
  · intro l a b
    obtain ⟨w1, w2, w3, w4, w5, w6, w7⟩ := h11 l a b
    rw [fc (32 * (t + 11) + 2) (by omega), fc (32 * (t + 11) + 3) (by omega), fc (32 * (t + 11)) (by omega), fc (32 * (t + 11) + 1) (by omega), fm 47 l (by omega), fm 48 l (by omega)]
    refine ⟨w1, w2, w3, w4, w5, fun i x y => ?_, w7.congr (fun j x y => ⟨fm 49 j (by omega), fm 50 j (by omega)⟩)⟩
    rw [fm 49 i (by omega), fm 50 i (by omega)]
    exact w6 i x y
