/-! bits -/
def Bt (x p : Int) : Bool := (qI x).toBitVec.getLsbD p.toNat
theorem Bt_and (x y p : Int) : Bt (q_and x y) p = (Bt x p && Bt y p) := by
  unfold Bt
  rw [← q_and_I, Int32.toBitVec_and, BitVec.getLsbD_and]
theorem Bt_or (x y p : Int) : Bt (q_or x y) p = (Bt x p || Bt y p) := by
  unfold Bt
  rw [← q_or_I, Int32.toBitVec_or, BitVec.getLsbD_or]
theorem qx_I (x y : Int) : qI x ^^^ qI y = qI (q_xor x y) := (qI_of _).symm
theorem Bt_xor (x y p : Int) : Bt (q_xor x y) p = (Bt x p ^^ Bt y p) := by
  unfold Bt
  rw [← qx_I, Int32.toBitVec_xor, BitVec.getLsbD_xor]
theorem Bt_m1 {p : Int} (h : 0 ≤ p ∧ p < 32) : Bt (-1) p = true := by
  unfold Bt
  have e : (qI (-1)).toBitVec = BitVec.allOnes 32 := by decide
  rw [e, BitVec.getLsbD_allOnes]
  simp; omega
theorem Bt_0 (p : Int) : Bt 0 p = false := by
  unfold Bt
  have e : (qI 0).toBitVec = 0#32 := by decide
  rw [e, BitVec.getLsbD_zero]
set_option maxRecDepth 100000 in
theorem shl_v : ∀ s : Fin 32, (qI (q_shl 1 (s.val : Int))).toBitVec = BitVec.twoPow 32 s.val := by decide
theorem Bt_shl {s p : Int} (hs : 0 ≤ s ∧ s < 32) (hp : 0 ≤ p) : Bt (q_shl 1 s) p = decide (s = p) := by
  have h := shl_v ⟨s.toNat, by omega⟩
  simp only [Int.toNat_of_nonneg hs.1] at h
  unfold Bt
  rw [h, BitVec.getLsbD_twoPow]
  by_cases c : s = p
  · subst c; simp; omega
  · simp [c]; omega
theorem Bt_ext {x y : Int} (h : ∀ p, 0 ≤ p → p < 32 → Bt x p = Bt y p) : w32 x = w32 y := by
  rw [← qI_eq]
  apply Int32.toBitVec_inj.mp
  apply BitVec.eq_of_getLsbD_eq
  intro i hi
  have := h i (by omega) (by omega)
  unfold Bt at this
  rwa [Int.toNat_natCast] at this
theorem and0 (x y : Int) : w32 (q_and x y) = 0 ↔ ∀ p, 0 ≤ p → p < 32 → (Bt x p && Bt y p) = false := by
  constructor
  · intro h p a b
    have h' : w32 (q_and x y) = w32 0 := by rw [h]; decide
    rw [← qI_eq] at h'
    rw [← Bt_and]
    have : Bt 0 p = false := Bt_0 p
    unfold Bt at this ⊢
    rw [h']; exact this
  · intro h
    have : w32 (q_and x y) = w32 0 := Bt_ext (fun p a b => by rw [Bt_and, h p a b, Bt_0])
    rw [this]; decide
theorem and1 {x p : Int} (hp : 0 ≤ p ∧ p < 32) : w32 (q_and x (q_shl 1 p)) = 0 ↔ Bt x p = false := by
  rw [and0]
  constructor
  · intro h
    have := h p hp.1 hp.2
    rw [Bt_shl hp hp.1] at this
    simpa using this
  · intro h j a b
    rw [Bt_shl hp a]
    by_cases c : p = j
    · subst c; simp [h]
    · simp [c]
set_option maxRecDepth 100000 in
theorem and31_v : ∀ s : Fin 32, ((qI (s.val : Int) &&& 31).toBitVec.smod 32).toNat = s.val := by decide
theorem shr1 {x p : Int} (hp : 0 ≤ p ∧ p < 32) : q_and (q_shr x p) 1 = if Bt x p = true then 1 else 0 := by
  have h31 := and31_v ⟨p.toNat, by omega⟩
  simp only [Int.toNat_of_nonneg hp.1] at h31
  have hb : ∀ j, 0 ≤ j → j < 32 → Bt (q_and (q_shr x p) 1) j = (decide (j = 0) && Bt x p) := by
    intro j a b
    have e1 : Bt 1 j = decide (j = 0) := by
      have := Bt_shl (s := 0) (p := j) (by omega) a
      have e : q_shl 1 0 = 1 := by decide
      rw [e] at this
      rw [this]
      by_cases c : j = 0
      · subst c; rfl
      · simp [c]; omega
    rw [Bt_and, e1]
    by_cases c : j = 0
    · subst c
      simp only [decide_true, Bool.and_true, Bool.true_and]
      unfold Bt q_shr
      rw [qI_of, Int32.toBitVec_shiftRight, BitVec.sshiftRight', h31, BitVec.getLsbD_sshiftRight]
      simp
      intro h; omega
    · simp [c]
  have hw : w32 (q_and (q_shr x p) 1) = w32 (if Bt x p = true then 1 else 0) := by
    refine Bt_ext (fun j a b => ?_)
    rw [hb j a b]
    by_cases c : Bt x p = true
    · rw [if_pos c, c]
      have := Bt_shl (s := 0) (p := j) (by omega) a
      have e : q_shl 1 0 = 1 := by decide
      rw [e] at this
      rw [this]
      by_cases c : j = 0
      · subst c; rfl
      · simp [c]; omega
    · rw [if_neg c, Bt_0]; simp [c]
  have r := q_and_rng (q_shr x p) 1
  unfold in32 at r
  rw [w32_id r] at hw
  rw [hw]
  split <;> decide
theorem orT_and {f : Int → Int} {x : Int} : ∀ n : Nat, w32 (q_and (orT f n) x) = 0 ↔ ∀ j : Int, 0 ≤ j → j < n → w32 (q_and (f j) x) = 0
  | 0 => by
    refine ⟨fun _ j a b => by omega, fun _ => ?_⟩
    rw [and0]
    intro p a b
    show (Bt 0 p && Bt x p) = false
    rw [Bt_0]; rfl
  | n + 1 => by
    have ih := orT_and (f := f) (x := x) n
    have e : w32 (q_and (orT f (n + 1)) x) = 0 ↔ (w32 (q_and (orT f n) x) = 0 ∧ w32 (q_and (f n) x) = 0) := by
      show w32 (q_and (q_or (orT f n) (f n)) x) = 0 ↔ _
      rw [and0, and0, and0]
      constructor
      · intro h
        refine ⟨fun p a b => ?_, fun p a b => ?_⟩
        all_goals
          have := h p a b
          rw [Bt_or] at this
          revert this
          cases Bt (orT f n) p <;> cases Bt (f n) p <;> cases Bt x p <;> simp
      · intro h p a b
        have h1 := h.1 p a b
        have h2 := h.2 p a b
        rw [Bt_or]
        revert h1 h2
        cases Bt (orT f n) p <;> cases Bt (f n) p <;> cases Bt x p <;> simp
    rw [e, ih]
    constructor
    · intro ⟨h1, h2⟩ j a b
      by_cases c : j = n
      · rw [c]; exact h2
      · exact h1 j a (by omega)
    · intro h
      exact ⟨fun j a b => h j a (by omega), h n (by omega) (by omega)⟩
