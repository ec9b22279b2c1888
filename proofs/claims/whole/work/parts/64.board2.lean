def UC (k : Nat) (s p bus c : Int) (M : Mem) : Mem := up (up (up (up (TOC k p M) (32 * (k + 1) + 2) s 2) (32 * (k + 1) + 6) s bus) (32 * (k + 1) + 7) s (M k 0)) (32 * (k + 1) + 3) s c
def UM (q s p bus c y : Int) (M : Mem) : Mem := up (up (up (up (LVM q s p 2 M) 0 51 y) 75 (8 * q + s) bus) 76 (8 * q + s) (M 67 q)) 72 (8 * q + s) c
theorem UC.vw {k : Nat} {s p bus c : Int} {M : Mem} : VEQ (cvw k (UC k s p bus c M)) (GON s p bus c (cvw k M)) := by
  refine ⟨?_, ?_, ?_, fun f i a1 a2 a3 a4 => ?_⟩
  · rw [GON.f0, if_neg (by omega)]
    unfold cvw UC
    simp (disch := omega) only [up_ne1, if_true]
    unfold TOC
    rw [if_neg (by omega), if_neg (by omega)]
  · rw [GON.f0, if_neg (by omega)]
    unfold cvw UC
    simp (disch := omega) only [up_ne1, if_true]
    unfold TOC
    rw [if_neg (by omega), if_neg (by omega)]
  · rw [GON.f0, if_pos rfl]
    unfold cvw UC
    simp (disch := omega) only [up_ne1, if_true]
    unfold TOC
    rw [if_neg (by omega), if_pos ⟨rfl, rfl⟩]
  · have hf : f = 2 ∨ f = 3 ∨ f = 4 ∨ f = 5 ∨ f = 6 ∨ f = 7 ∨ f = 8 := by omega
    unfold cvw UC GON
    have hT : ∀ f, f ≠ 8 → 2 ≤ f → TOC k p M (32 * (k + 1) + f) i = M (32 * (k + 1) + f) i := fun f a b => by unfold TOC; rw [if_neg (by omega), if_neg (by omega)]
    rcases hf with rfl | rfl | rfl | rfl | rfl | rfl | rfl
    · by_cases ci : i = s
      · subst ci; simp (disch := omega) [up_ne1, up_same]
      · simp (disch := omega) [up_ne1, up_nei, ci, hT]
    · by_cases ci : i = s
      · subst ci; simp (disch := omega) [up_ne1, up_same]
      · simp (disch := omega) [up_ne1, up_nei, ci, hT]
    · simp (disch := omega) [up_ne1, hT]
    · simp (disch := omega) [up_ne1, hT]
    · by_cases ci : i = s
      · subst ci; simp (disch := omega) [up_ne1, up_same]
      · simp (disch := omega) [up_ne1, up_nei, ci, hT]
    · by_cases ci : i = s
      · subst ci; simp (disch := omega) [up_ne1, up_same]
      · simp (disch := omega) [up_ne1, up_nei, ci, hT]
    · simp (disch := omega) only [up_ne1]
      unfold TOC
      have n1 : ¬ (32 * (k + 1) + 8 = k ∧ i = 9) := by omega
      simp [n1]
theorem UM.vw {q s p bus c y : Int} {M : Mem} : VEQ (mvw q (UM q s p bus c y M)) (GON s p bus c (mvw q M)) := by
  refine ⟨?_, ?_, ?_, fun f i a1 a2 a3 a4 => ?_⟩
  · rw [GON.f0, if_neg (by omega)]
    show UM q s p bus c y M 67 q = M 67 q
    unfold UM
    simp (disch := omega) only [up_ne1]
    unfold LVM
    rw [if_neg (by omega), if_neg (by omega), if_neg (by omega)]
  · rw [GON.f0, if_neg (by omega)]
    show UM q s p bus c y M 68 q = M 68 q
    unfold UM
    simp (disch := omega) only [up_ne1]
    unfold LVM
    rw [if_neg (by omega), if_neg (by omega), if_neg (by omega)]
  · rw [GON.f0, if_pos rfl]
    show UM q s p bus c y M 69 q = M 69 q - 1
    unfold UM
    simp (disch := omega) only [up_ne1]
    unfold LVM
    rw [if_neg (by omega), if_pos ⟨rfl, rfl⟩]
  · have hf : f = 2 ∨ f = 3 ∨ f = 4 ∨ f = 5 ∨ f = 6 ∨ f = 7 ∨ f = 8 := by omega
    have e9 : mvw q M 0 9 = M 69 q := rfl
    have e0 : mvw q M 0 0 = M 67 q := rfl
    have hT : ∀ n, n ≠ 70 → n ≠ 69 → n ≠ 71 → LVM q s p 2 M n (8 * q + i) = M n (8 * q + i) := fun n a b c => by unfold LVM; rw [if_neg (by omega), if_neg (by omega), if_neg (by omega)]
    have hA : ∀ f, f ≠ 0 → f ≠ 8 → mvw q M f i = M (f + 69) (8 * q + i) := fun f a b => by simp [mvw, mvc, a, b]
    have hB : ∀ f, f ≠ 0 → f ≠ 8 → mvw q (UM q s p bus c y M) f i = UM q s p bus c y M (f + 69) (8 * q + i) := fun f a b => by simp [mvw, mvc, a, b]
    rcases hf with rfl | rfl | rfl | rfl | rfl | rfl | rfl
    · rw [GON.f2, hA _ (by omega) (by omega), hB _ (by omega) (by omega)]
      unfold UM
      simp (disch := omega) only [up_ne1]
      unfold LVM
      by_cases ci : i = s
      · subst ci; simp
      · simp [ci]
    · rw [GON.f3, hA _ (by omega) (by omega), hB _ (by omega) (by omega)]
      unfold UM
      by_cases ci : i = s
      · subst ci; simp [up_same]
      · rw [if_neg ci, up_nei (by omega)]
        simp (disch := omega) only [up_ne1]
        exact hT _ (by omega) (by omega) (by omega)
    · rw [GON.f4, hA _ (by omega) (by omega), hB _ (by omega) (by omega)]
      unfold UM
      simp (disch := omega) only [up_ne1]
      exact hT _ (by omega) (by omega) (by omega)
    · rw [GON.f5, hA _ (by omega) (by omega), hB _ (by omega) (by omega)]
      unfold UM
      simp (disch := omega) only [up_ne1]
      exact hT _ (by omega) (by omega) (by omega)
    · rw [GON.f6, hA _ (by omega) (by omega), hB _ (by omega) (by omega)]
      unfold UM
      rw [up_ne1 (by omega), up_ne1 (by omega)]
      by_cases ci : i = s
      · subst ci; simp [up_same]
      · rw [if_neg ci, up_nei (by omega)]
        simp (disch := omega) only [up_ne1]
        exact hT _ (by omega) (by omega) (by omega)
    · rw [GON.f7, hA _ (by omega) (by omega), hB _ (by omega) (by omega), e0]
      unfold UM
      rw [up_ne1 (by omega)]
      by_cases ci : i = s
      · subst ci; simp [up_same]
      · rw [if_neg ci, up_nei (by omega)]
        simp (disch := omega) only [up_ne1]
        exact hT _ (by omega) (by omega) (by omega)
    · rw [GON.f8, e9]
      have h1 : mvw q (UM q s p bus c y M) 8 i = LVM q s p 2 M 70 (8 * q + i) := by
        show UM q s p bus c y M 70 (8 * q + i) = _
        unfold UM
        simp (disch := omega) only [up_ne1]
      have h2 : ∀ j, mvw q M 8 j = M 70 (8 * q + j) := fun j => rfl
      rw [h1, h2, h2]
      unfold LVM
      by_cases cc : p ≤ i ∧ i < M 69 q - 1
      · rw [if_pos ⟨rfl, by omega, by omega⟩, if_pos cc, show 8 * q + i + 1 = 8 * q + (i + 1) by omega]
      · rw [if_neg (fun h => cc ⟨by omega, by omega⟩), if_neg cc, if_neg (by omega), if_neg (by omega)]
theorem UC.gc {k : Nat} {s p bus c : Int} {M : Mem} : GC k M (UC k s p bus c M) := by
  intro n a b _ _ _ _
  unfold UC
  simp (disch := omega) only [up_ne1]
  funext i
  unfold TOC
  rw [if_neg (by omega), if_neg (by omega)]
theorem UM.gm {q s p bus c y : Int} {M : Mem} (hs : 0 ≤ s ∧ s < 8) (hp : 0 ≤ p) (hw : M 69 q ≤ 8) (h1 : M 71 (8 * q + s) = 1) : GM q M (UM q s p bus c y M) := by
  refine ⟨fun n a b c d e => ?_, fun f a b => ?_, fun n i a b c => ?_, fun n i a b c => ?_, fun p a b c => ?_⟩
  · unfold UM
    simp (disch := omega) only [up_ne1]
    funext i
    unfold LVM
    rw [if_neg (by omega), if_neg (by omega), if_neg (by omega)]
  · unfold UM
    rw [up_ne1 (by omega), up_ne1 (by omega), up_ne1 (by omega), up_nei (by omega)]
    unfold LVM
    rw [if_neg (by omega), if_neg (by omega), if_neg (by omega)]
  · unfold UM
    simp (disch := omega) only [up_ne1]
    unfold LVM
    rw [if_neg (by omega), if_neg (by omega), if_neg (by omega)]
  · unfold UM
    rw [up_ne (by omega), up_ne (by omega), up_ne (by omega), up_ne (by omega)]
    unfold LVM
    rw [if_neg (by omega), if_neg (by omega), if_neg (by omega)]
  · unfold UM
    rw [up_ne1 (by omega), up_ne1 (by omega), up_ne1 (by omega), up_ne1 (by omega)]
    unfold LVM
    rw [if_neg (by omega), if_neg (by omega), if_neg]
    intro h
    rw [h.2] at c
    omega
