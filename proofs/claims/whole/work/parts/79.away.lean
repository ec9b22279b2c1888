/-- one walks off: view -/
def AWV (s p : Int) (v : Mem) : Mem := up (TOV p v) 2 s 3
theorem AWV.f0 {s p : Int} {v : Mem} (i : Int) : AWV s p v 0 i = if i = 9 then v 0 9 - 1 else v 0 i := by
  unfold AWV; rw [up_ne1 (by omega)]; simp [TOV]
theorem AWV.f2 {s p : Int} {v : Mem} (i : Int) : AWV s p v 2 i = if i = s then 3 else v 2 i := by
  unfold AWV
  by_cases c : i = s
  · rw [c, up_same, if_pos rfl]
  · rw [up_nei c, if_neg c]; simp [TOV]
theorem AWV.f8 {s p : Int} {v : Mem} (i : Int) : AWV s p v 8 i = if p ≤ i ∧ i < v 0 9 - 1 then v 8 (i + 1) else v 8 i := by
  unfold AWV; rw [up_ne1 (by omega)]; simp [TOV]
theorem AWV.fo {s p : Int} {v : Mem} {f : Nat} (h : f ≠ 0 ∧ f ≠ 2 ∧ f ≠ 8) (i : Int) : AWV s p v f i = v f i := by
  unfold AWV; rw [up_ne1 h.2.1]; simp [TOV, h]
theorem AWV.eqv {S s p : Int} {v w : Mem} (e : EQV S v w) (hp : 0 ≤ p) : EQV S (AWV s p v) (AWV s p w) := by
  obtain ⟨e1, e2, e3, e4, e5⟩ := e
  refine ⟨?_, ?_, ?_, fun i a b => ?_, fun j a b => ?_⟩
  · simpa [AWV.f0] using e1
  · simpa [AWV.f0] using e2
  · simpa [AWV.f0] using by omega
  · rw [AWV.f0, if_pos rfl] at b
    rw [AWV.f8, AWV.f8, ← e3]
    split
    · exact e4 _ (by omega) (by omega)
    · exact e4 _ a (by omega)
  · obtain ⟨c1, c2, c3, c4, c5⟩ := e5 j a b
    have q3 : ∀ v, AWV s p v 3 j = v 3 j := fun v => AWV.fo (by omega) j
    have q4 : ∀ v, AWV s p v 4 j = v 4 j := fun v => AWV.fo (by omega) j
    have q5 : ∀ v, AWV s p v 5 j = v 5 j := fun v => AWV.fo (by omega) j
    have q6 : ∀ v, AWV s p v 6 j = v 6 j := fun v => AWV.fo (by omega) j
    have q7 : ∀ v, AWV s p v 7 j = v 7 j := fun v => AWV.fo (by omega) j
    simp only [AWV.f2, q3, q4, q5, q6, q7]
    by_cases cj : j = s
    · rw [if_pos cj, if_pos cj]
      exact ⟨rfl, c2, c3, c4, fun h => absurd h (by omega)⟩
    · rw [if_neg cj, if_neg cj]
      exact ⟨c1, c2, c3, c4, c5⟩
theorem AWV.wf {S b s p : Int} {v : Mem} (h : WFB S b v) (hp : 0 ≤ p ∧ p < v 0 9) (hs : v 8 p = s) : WFB S b (AWV s p v) := by
  obtain ⟨h1, h2, h3, h4, h5, h6⟩ := h
  have h0 : AWV s p v 0 0 = v 0 0 := by simp [AWV.f0]
  have h01 : AWV s p v 0 1 = v 0 1 := by simp [AWV.f0]
  have h9 : AWV s p v 0 9 = v 0 9 - 1 := by simp [AWV.f0]
  have hw : ∀ i, 0 ≤ i → i < v 0 9 - 1 → ∃ j, 0 ≤ j ∧ j < v 0 9 ∧ j ≠ p ∧ AWV s p v 8 i = v 8 j ∧ j = (if p ≤ i then i + 1 else i) := by
    intro i a b
    rw [AWV.f8]
    by_cases ci : p ≤ i
    · rw [if_pos ⟨ci, b⟩, if_pos ci]
      exact ⟨i + 1, by omega, by omega, by omega, rfl, rfl⟩
    · rw [if_neg (fun h => ci h.1), if_neg ci]
      exact ⟨i, a, by omega, by omega, rfl, rfl⟩
  have inj : ∀ i j, 0 ≤ i → i < v 0 9 → 0 ≤ j → j < v 0 9 → v 8 i = v 8 j → i = j := by
    intro i j a b c d e
    rcases Int.lt_trichotomy i j with l | l | l
    · exact absurd e (h5 i j a l d)
    · exact l
    · exact absurd e.symm (h5 j i c l b)
  refine ⟨by rw [h0]; exact h1, by rw [h01]; exact h2, by rw [h9]; omega, fun i a b => ?_, fun i j a b d => ?_, fun j a b => ?_⟩
  · rw [h9] at b
    obtain ⟨j, j1, j2, j3, j4, -⟩ := hw i a b
    rw [j4]
    have hj := h4 j j1 j2
    refine ⟨hj.1, hj.2.1, ?_⟩
    rw [AWV.f2, if_neg]
    · exact hj.2.2
    · intro e
      rw [← hs] at e
      exact j3 (inj j p j1 j2 hp.1 hp.2 e)
  · rw [h9] at d
    obtain ⟨i', j1, j2, j3, j4, j5⟩ := hw i a (by omega)
    obtain ⟨j', k1, k2, k3, k4, k5⟩ := hw j (by omega) d
    rw [j4, k4]
    intro e
    have := inj i' j' j1 j2 k1 k2 e
    revert j5 k5
    split <;> split <;> omega
  · obtain ⟨g1, g2, g3, g4, g5, g6⟩ := h6 j a b
    have q3 : AWV s p v 3 j = v 3 j := AWV.fo (by omega) j
    have q4 : AWV s p v 4 j = v 4 j := AWV.fo (by omega) j
    have q5 : AWV s p v 5 j = v 5 j := AWV.fo (by omega) j
    have q6 : AWV s p v 6 j = v 6 j := AWV.fo (by omega) j
    have q7 : AWV s p v 7 j = v 7 j := AWV.fo (by omega) j
    rw [AWV.f2 j, q3, q4, q5, q6, q7, h0, h9]
    by_cases cj : j = s
    · rw [if_pos cj]
      exact ⟨by omega, g2, g3, g4, fun e => absurd e (by omega), fun e => absurd e (by omega)⟩
    · rw [if_neg cj]
      refine ⟨g1, g2, g3, g4, g5, fun e => ?_⟩
      obtain ⟨i, i1, i2, i3⟩ := g6 e
      have hne : i ≠ p := fun e => cj (by rw [← i3, e, hs])
      by_cases ci : i < p
      · exact ⟨i, i1, by omega, by rw [AWV.f8, if_neg (by omega)]; exact i3⟩
      · exact ⟨i - 1, by omega, by omega, by rw [AWV.f8, if_pos (by omega), show i - 1 + 1 = i by omega]; exact i3⟩
theorem AWV.nob {S s p : Int} {w : Mem} (h : NOB S w) (hs : w 2 s ≠ 2) : NOB S (AWV s p w) := by
  intro j a b e
  rw [AWV.fo (by omega)]
  refine h j a b ?_
  rw [AWV.f2] at e
  by_cases cj : j = s
  · rw [cj]; exact hs
  · rw [if_neg cj] at e; exact e
/-- who doesn't stand in the queue is set off -/
theorem OFV.eqv {S s : Int} {v w : Mem} (e : EQV S v w) : EQV S (up v 2 s 3) (up w 2 s 3) := by
  obtain ⟨e1, e2, e3, e4, e5⟩ := e
  unfold EQV
  have z : ∀ (v : Mem) f, f ≠ 2 → up v 2 s 3 f = v f := fun v f h => up_ne1 h
  rw [z v 0 (by omega), z w 0 (by omega), z v 8 (by omega), z w 8 (by omega), z v 3 (by omega), z w 3 (by omega), z v 4 (by omega), z w 4 (by omega), z v 5 (by omega), z w 5 (by omega), z v 6 (by omega), z w 6 (by omega), z v 7 (by omega), z w 7 (by omega)]
  refine ⟨e1, e2, e3, e4, fun p a b => ?_⟩
  have := e5 p a b
  by_cases cp : p = s
  · subst cp
    rw [up_same, up_same]
    exact ⟨rfl, this.2.1, this.2.2.1, this.2.2.2.1, fun h => absurd h (by omega)⟩
  · rw [up_nei cp, up_nei cp]
    exact this
theorem OFV.wf {S b s : Int} {v : Mem} (h : WFB S b v) (hs : v 2 s ≠ 1) : WFB S b (up v 2 s 3) := by
  obtain ⟨h1, h2, h3, h4, h5, h6⟩ := h
  have z : ∀ f, f ≠ 2 → up v 2 s 3 f = v f := fun f h => up_ne1 h
  unfold WFB
  rw [z 0 (by omega), z 8 (by omega), z 3 (by omega), z 4 (by omega), z 5 (by omega), z 6 (by omega), z 7 (by omega)]
  refine ⟨h1, h2, h3, fun i a b => ?_, h5, fun p a b => ?_⟩
  · have := h4 i a b
    refine ⟨this.1, this.2.1, ?_⟩
    rw [up_nei]
    · exact this.2.2
    · intro e
      rw [e] at this
      exact hs this.2.2
  · have := h6 p a b
    by_cases cp : p = s
    · subst cp
      rw [up_same]
      exact ⟨by omega, this.2.1, this.2.2.1, this.2.2.2.1, fun h => absurd h (by omega), fun h => absurd h (by omega)⟩
    · rw [up_nei cp]
      exact this
theorem OFV.nob {S s : Int} {w : Mem} (h : NOB S w) (hs : w 2 s ≠ 2) : NOB S (up w 2 s 3) := by
  intro j a b e
  rw [up_ne1 (by omega)]
  refine h j a b ?_
  by_cases cj : j = s
  · rw [cj]; exact hs
  · rw [up_nei cj] at e; exact e
theorem TOCU.vw {k : Nat} {s p : Int} {M : Mem} : VEQ (cvw k (up (TOC k p M) (32 * (k + 1) + 2) s 3)) (AWV s p (cvw k M)) := by
  refine ⟨?_, ?_, ?_, fun f i a1 a2 a3 a4 => ?_⟩
  · rw [AWV.f0, if_neg (by omega)]
    show up (TOC k p M) (32 * (k + 1) + 2) s 3 k 0 = M k 0
    rw [up_ne1 (by omega)]
    unfold TOC
    rw [if_neg (by omega), if_neg (by omega)]
  · rw [AWV.f0, if_neg (by omega)]
    show up (TOC k p M) (32 * (k + 1) + 2) s 3 k 1 = M k 1
    rw [up_ne1 (by omega)]
    unfold TOC
    rw [if_neg (by omega), if_neg (by omega)]
  · rw [AWV.f0, if_pos rfl]
    show up (TOC k p M) (32 * (k + 1) + 2) s 3 k 9 = M k 9 - 1
    rw [up_ne1 (by omega)]
    unfold TOC
    rw [if_neg (by omega), if_pos ⟨rfl, rfl⟩]
  · have hc : ∀ M : Mem, cvw k M f i = M (32 * (k + 1) + f) i := fun M => by unfold cvw; rw [if_neg (by omega)]
    by_cases c8 : f = 8
    · subst c8
      rw [AWV.f8, hc, up_ne1 (by omega)]
      have h8 : ∀ j, cvw k M 8 j = M (32 * (k + 1) + 8) j := fun j => rfl
      have h9 : cvw k M 0 9 = M k 9 := rfl
      rw [h8, h8, h9]
      unfold TOC
      have n1 : ¬ (32 * (k + 1) + 8 = k ∧ i = 9) := by omega
      simp [n1]
    · by_cases c2 : f = 2
      · subst c2
        rw [AWV.f2, hc, hc]
        by_cases ci : i = s
        · rw [ci, up_same, if_pos rfl]
        · rw [up_nei ci, if_neg ci]
          unfold TOC
          rw [if_neg (by omega), if_neg (by omega)]
      · rw [AWV.fo (by omega), hc, hc, up_ne1 (by omega)]
        unfold TOC
        rw [if_neg (by omega), if_neg (by omega)]
theorem LVM3.vw {q s p : Int} {M : Mem} : VEQ (mvw q (LVM q s p 3 M)) (AWV s p (mvw q M)) := by
  refine ⟨?_, ?_, ?_, fun f i a1 a2 a3 a4 => ?_⟩
  · rw [AWV.f0, if_neg (by omega)]
    show LVM q s p 3 M 67 q = M 67 q
    unfold LVM
    rw [if_neg (by omega), if_neg (by omega), if_neg (by omega)]
  · rw [AWV.f0, if_neg (by omega)]
    show LVM q s p 3 M 68 q = M 68 q
    unfold LVM
    rw [if_neg (by omega), if_neg (by omega), if_neg (by omega)]
  · rw [AWV.f0, if_pos rfl]
    show LVM q s p 3 M 69 q = M 69 q - 1
    unfold LVM
    rw [if_neg (by omega), if_pos ⟨rfl, rfl⟩]
  · by_cases c8 : f = 8
    · subst c8
      rw [AWV.f8]
      have e9 : mvw q M 0 9 = M 69 q := rfl
      show LVM q s p 3 M 70 (8 * q + i) = _
      have h8 : ∀ j, mvw q M 8 j = M 70 (8 * q + j) := fun j => rfl
      rw [h8, h8, e9]
      unfold LVM
      by_cases cc : p ≤ i ∧ i < M 69 q - 1
      · rw [if_pos ⟨rfl, by omega, by omega⟩, if_pos cc, show 8 * q + i + 1 = 8 * q + (i + 1) by omega]
      · rw [if_neg (fun h => cc ⟨by omega, by omega⟩), if_neg cc, if_neg (by omega), if_neg (by omega)]
    · have hc : ∀ M : Mem, mvw q M f i = M (f + 69) (8 * q + i) := fun M => by
        have n0 : f ≠ 0 := by omega
        simp [mvw, mvc, c8, n0]
      by_cases c2 : f = 2
      · subst c2
        rw [AWV.f2, hc, hc]
        unfold LVM
        rw [if_neg (by omega), if_neg (by omega)]
        by_cases ci : i = s
        · rw [if_pos ⟨rfl, by omega⟩, if_pos ci]
        · rw [if_neg (by omega), if_neg ci]
      · rw [AWV.fo (by omega), hc, hc]
        unfold LVM
        rw [if_neg (by omega), if_neg (by omega), if_neg (by omega)]
