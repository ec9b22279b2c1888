theorem pigeon : ∀ (S n : Nat) (f : Nat → Nat), (∀ i, i < n → f i < S) → (∀ i j, i < j → j < n → f i ≠ f j) → n ≤ S
  | 0, n, f, h, _ => by
    cases n with
    | zero => exact Nat.le_refl _
    | succ n => exact absurd (h 0 (by omega)) (by omega)
  | S + 1, n, f, h, hi => by
    by_cases c : ∃ i, i < n ∧ f i = S
    · obtain ⟨i, i1, i2⟩ := c
      have := pigeon S (n - 1) (fun j => if j = i then f (n - 1) else f j) (fun j hj => by
        by_cases cj : j = i
        · simp only [if_pos cj]
          have h1 := h (n - 1) (by omega)
          have h2 := hi i (n - 1) (by omega) (by omega)
          omega
        · simp only [if_neg cj]
          have h1 := h j (by omega)
          have h2 : f j ≠ f i := by
            rcases Nat.lt_or_gt_of_ne cj with l | l
            · exact hi j i l i1
            · exact (hi i j l (by omega)).symm
          omega) (fun a b ab hb => by
        by_cases ca : a = i
        · simp only [if_pos ca, if_neg (show ¬ b = i by omega)]
          exact (hi b (n - 1) hb (by omega)).symm
        · by_cases cb : b = i
          · simp only [if_neg ca, if_pos cb]
            exact hi a (n - 1) (by omega) (by omega)
          · simp only [if_neg ca, if_neg cb]
            exact hi a b ab (by omega))
      omega
    · have := pigeon S n f (fun i hn => by
        have h1 := h i hn
        have h2 : f i ≠ S := fun e => c ⟨i, hn, e⟩
        omega) hi
      omega
/-- who doesn't stand in the queue finds a place in it -/
theorem WFB.room {S b s : Int} {v : Mem} (h : WFB S b v) (hs : 0 ≤ s ∧ s < S) (h1 : v 2 s ≠ 1) : v 0 9 < S := by
  obtain ⟨_, _, h3, h4, h5, _⟩ := h
  have := pigeon S.toNat ((v 0 9).toNat + 1) (fun i => if i = (v 0 9).toNat then s.toNat else (v 8 i).toNat) (fun i hi => by
    by_cases c : i = (v 0 9).toNat
    · simp only [if_pos c]; omega
    · simp only [if_neg c]
      have := h4 i (by omega) (by omega)
      omega) (fun i j ij hj => by
    have hi := h4 i (by omega) (by omega)
    by_cases c : j = (v 0 9).toNat
    · simp only [if_pos c, if_neg (show ¬ i = (v 0 9).toNat by omega)]
      intro e
      have e' : v 8 i = s := by omega
      rw [e'] at hi
      exact h1 hi.2.2
    · simp only [if_neg c, if_neg (show ¬ i = (v 0 9).toNat by omega)]
      have := h4 j (by omega) (by omega)
      have := h5 i j (by omega) (by omega) (by omega)
      omega)
  omega
theorem PIV.f0 {s p : Int} {v : Mem} (i : Int) : PIV s p v 0 i = if i = 9 then v 0 9 + 1 else v 0 i := by simp [PIV]
theorem PIV.f2 {s p : Int} {v : Mem} (i : Int) : PIV s p v 2 i = if i = s then 1 else v 2 i := by simp [PIV]
theorem PIV.f8 {s p : Int} {v : Mem} (i : Int) : PIV s p v 8 i = if i = p then s else if p < i ∧ i ≤ v 0 9 then v 8 (i - 1) else v 8 i := by simp [PIV]
theorem PIV.fo {s p : Int} {v : Mem} {f : Nat} (h : f ≠ 0 ∧ f ≠ 2 ∧ f ≠ 8) (i : Int) : PIV s p v f i = v f i := by simp [PIV, h]
theorem PIV.wf {S b s p : Int} {v : Mem} (h : WFB S b v) (hs : 0 ≤ s ∧ s < S) (h1 : v 2 s ≠ 1) (hp : 0 ≤ p ∧ p ≤ v 0 9) : WFB S b (PIV s p v) := by
  have hr := h.room hs h1
  obtain ⟨g1, g2, g3, g4, g5, g6⟩ := h
  have hw : ∀ i, 0 ≤ i → i < v 0 9 + 1 → i ≠ p → ∃ j, 0 ≤ j ∧ j < v 0 9 ∧ PIV s p v 8 i = v 8 j ∧ j = (if p < i then i - 1 else i) := by
    intro i a b c
    rw [PIV.f8, if_neg c]
    by_cases ci : p < i
    · rw [if_pos ⟨ci, by omega⟩, if_pos ci]
      exact ⟨i - 1, by omega, by omega, rfl, rfl⟩
    · rw [if_neg (fun h => ci h.1), if_neg ci]
      exact ⟨i, a, by omega, rfl, rfl⟩
  have hp8 : PIV s p v 8 p = s := by rw [PIV.f8, if_pos rfl]
  have h9 : PIV s p v 0 9 = v 0 9 + 1 := by rw [PIV.f0, if_pos rfl]
  have ns : ∀ j, 0 ≤ j → j < v 0 9 → v 8 j ≠ s := fun j a b e => by
    have := g4 j a b
    rw [e] at this
    exact h1 this.2.2
  refine ⟨by rw [PIV.f0, if_neg (by omega)]; exact g1, by rw [PIV.f0, if_neg (by omega)]; exact g2, by rw [h9]; omega, fun i a b => ?_, fun i j a b d => ?_, fun j a b => ?_⟩
  · rw [h9] at b
    by_cases ci : i = p
    · rw [ci, hp8, PIV.f2, if_pos rfl]; exact ⟨hs.1, hs.2, rfl⟩
    · obtain ⟨j, j1, j2, j3, -⟩ := hw i a b ci
      rw [j3, PIV.f2]
      have hj := g4 j j1 j2
      exact ⟨hj.1, hj.2.1, by rw [if_neg (ns j j1 j2)]; exact hj.2.2⟩
  · rw [h9] at d
    by_cases ci : i = p
    · rw [ci, hp8]
      obtain ⟨j', j1, j2, j3, -⟩ := hw j (by omega) d (by omega)
      rw [j3]; exact (ns j' j1 j2).symm
    · obtain ⟨i', i1, i2, i3, i4⟩ := hw i a (by omega) ci
      rw [i3]
      by_cases cj : j = p
      · rw [cj, hp8]; exact ns i' i1 i2
      · obtain ⟨j', j1, j2, j3, j4⟩ := hw j (by omega) d cj
        rw [j3]
        refine g5 i' j' i1 ?_ j2
        revert i4 j4
        split <;> split <;> omega
  · obtain ⟨k1, k2, k3, k4, k5, k6⟩ := g6 j a b
    have q3 : PIV s p v 3 j = v 3 j := PIV.fo (by omega) j
    have q4 : PIV s p v 4 j = v 4 j := PIV.fo (by omega) j
    have q5 : PIV s p v 5 j = v 5 j := PIV.fo (by omega) j
    have q6 : PIV s p v 6 j = v 6 j := PIV.fo (by omega) j
    have q7 : PIV s p v 7 j = v 7 j := PIV.fo (by omega) j
    have q0 : PIV s p v 0 0 = v 0 0 := by rw [PIV.f0, if_neg (by omega)]
    rw [PIV.f2 j, q3, q4, q5, q6, q7, q0, h9]
    by_cases cj : j = s
    · rw [if_pos cj]
      exact ⟨by omega, k2, k3, k4, fun e => absurd e (by omega), fun _ => ⟨p, hp.1, by omega, by rw [hp8, cj]⟩⟩
    · rw [if_neg cj]
      refine ⟨k1, k2, k3, k4, k5, fun e => ?_⟩
      obtain ⟨i, i1, i2, i3⟩ := k6 e
      by_cases ci : i < p
      · exact ⟨i, i1, by omega, by rw [PIV.f8, if_neg (by omega), if_neg (by omega)]; exact i3⟩
      · exact ⟨i + 1, by omega, by omega, by rw [PIV.f8, if_neg (by omega), if_pos (by omega), show i + 1 - 1 = i by omega]; exact i3⟩
theorem PIV.nob {S s p : Int} {w : Mem} (h : NOB S w) (hs : w 2 s ≠ 2) : NOB S (PIV s p w) := by
  intro j a b e
  rw [PIV.fo (by omega)]
  refine h j a b ?_
  rw [PIV.f2] at e
  by_cases cj : j = s
  · rw [cj]; exact hs
  · rw [if_neg cj] at e; exact e
theorem PIC.vw {k : Nat} {s p : Int} {M : Mem} : VEQ (cvw k (PIC k s p M)) (PIV s p (cvw k M)) := by
  have e9 : cvw k M 0 9 = M k 9 := rfl
  refine ⟨?_, ?_, ?_, fun f i a1 a2 a3 a4 => ?_⟩
  · rw [PIV.f0, if_neg (by omega)]
    show PIC k s p M k 0 = M k 0
    unfold PIC
    rw [if_neg (by omega), if_neg (by omega), if_neg (by omega), if_neg (by omega)]
  · rw [PIV.f0, if_neg (by omega)]
    show PIC k s p M k 1 = M k 1
    unfold PIC
    rw [if_neg (by omega), if_neg (by omega), if_neg (by omega), if_neg (by omega)]
  · rw [PIV.f0, if_pos rfl]
    show PIC k s p M k 9 = M k 9 + 1
    unfold PIC
    rw [if_neg (by omega), if_neg (by omega), if_neg (by omega), if_pos ⟨rfl, rfl⟩]
  · have hc : ∀ M : Mem, cvw k M f i = M (32 * (k + 1) + f) i := fun M => by unfold cvw; rw [if_neg (by omega)]
    by_cases c8 : f = 8
    · subst c8
      rw [PIV.f8, hc, e9]
      have h8 : ∀ j, cvw k M 8 j = M (32 * (k + 1) + 8) j := fun j => rfl
      rw [h8, h8]
      unfold PIC
      have n1 : ¬ (32 * (k + 1) + 8 = 32 * (k + 1) + 2 ∧ i = s) := by omega
      have n2 : ¬ (32 * (k + 1) + 8 = k ∧ i = 9) := by omega
      rw [if_neg n1, if_neg n2]
      simp
    · by_cases c2 : f = 2
      · subst c2
        rw [PIV.f2, hc, hc]
        unfold PIC
        rw [if_neg (by omega), if_neg (by omega)]
        by_cases ci : i = s
        · rw [if_pos ⟨rfl, ci⟩, if_pos ci]
        · rw [if_neg (fun h => ci h.2), if_neg ci, if_neg (by omega)]
      · rw [PIV.fo (by omega), hc, hc]
        unfold PIC
        rw [if_neg (by omega), if_neg (by omega), if_neg (by omega), if_neg (by omega)]
theorem JNM.vw {q s : Int} {M : Mem} : VEQ (mvw q (JNM q s M)) (PIV s (M 69 q) (mvw q M)) := by
  have e9 : mvw q M 0 9 = M 69 q := rfl
  refine ⟨?_, ?_, ?_, fun f i a1 a2 a3 a4 => ?_⟩
  · rw [PIV.f0, if_neg (by omega)]
    show JNM q s M 67 q = M 67 q
    unfold JNM
    rw [if_neg (by omega), if_neg (by omega), if_neg (by omega)]
  · rw [PIV.f0, if_neg (by omega)]
    show JNM q s M 68 q = M 68 q
    unfold JNM
    rw [if_neg (by omega), if_neg (by omega), if_neg (by omega)]
  · rw [PIV.f0, if_pos rfl]
    show JNM q s M 69 q = M 69 q + 1
    unfold JNM
    rw [if_neg (by omega), if_pos ⟨rfl, rfl⟩]
  · by_cases c8 : f = 8
    · subst c8
      rw [PIV.f8, e9]
      show JNM q s M 70 (8 * q + i) = _
      have h8 : ∀ j, mvw q M 8 j = M 70 (8 * q + j) := fun j => rfl
      rw [h8, h8]
      unfold JNM
      by_cases ci : i = M 69 q
      · rw [if_pos ⟨rfl, by omega⟩, if_pos ci]
      · rw [if_neg (by omega), if_neg (by omega), if_neg (by omega), if_neg ci, if_neg (by omega)]
    · have hc : ∀ M : Mem, mvw q M f i = M (f + 69) (8 * q + i) := fun M => by
        have n0 : f ≠ 0 := by omega
        simp [mvw, mvc, c8, n0]
      by_cases c2 : f = 2
      · subst c2
        rw [PIV.f2, hc, hc]
        unfold JNM
        rw [if_neg (by omega), if_neg (by omega)]
        by_cases ci : i = s
        · rw [if_pos ⟨rfl, by omega⟩, if_pos ci]
        · rw [if_neg (by omega), if_neg ci]
      · rw [PIV.fo (by omega), hc, hc]
        unfold JNM
        rw [if_neg (by omega), if_neg (by omega), if_neg (by omega)]
theorem PIC.gc {k : Nat} {s p : Int} {M : Mem} : GC k M (PIC k s p M) := by
  intro n a b _ _ _ _
  funext i
  unfold PIC
  rw [if_neg (by omega), if_neg (by omega), if_neg (by omega), if_neg (by omega)]
theorem JNM.gm {q s : Int} {M : Mem} (hs : 0 ≤ s ∧ s < 8) (hw : 0 ≤ M 69 q ∧ M 69 q < 8) (h0 : M 71 (8 * q + s) = 0) : GM q M (JNM q s M) := by
  refine ⟨fun n a b c d e => ?_, fun f a b => ?_, fun n i a b c => ?_, fun n i a b c => ?_, fun p a b c => ?_⟩
  · funext i; unfold JNM; rw [if_neg (by omega), if_neg (by omega), if_neg (by omega)]
  · unfold JNM; rw [if_neg (by omega), if_neg (by omega), if_neg (by omega)]
  · unfold JNM; rw [if_neg (by omega), if_neg (by omega), if_neg (by omega)]
  · unfold JNM; rw [if_neg (by omega), if_neg (by omega), if_neg (by omega)]
  · unfold JNM
    rw [if_neg (by omega), if_neg (by omega), if_neg]
    intro h
    rw [h.2] at c
    omega
