/-! one minute: what the two memories have in common while minutes go by -/
theorem TR.frm2 {t : Nat} {Mc Mc' Mm Mm' : Mem} (h : TR t Mc Mm) (fc : ∀ n, (n = t ∨ n = t + 10 ∨ (32 * (t + 1) + 1 ≤ n ∧ n ≤ 32 * (t + 1) + 12) ∨ (32 * (t + 11) ≤ n ∧ n ≤ 32 * (t + 11) + 3)) → Mc' n = Mc n) (fm : ∀ n, 35 ≤ n → n ≤ 50 → Mm' n = Mm n) : TR t Mc' Mm' := by
  unfold TR LR at h ⊢
  rw [fc t (by omega), fc (t + 10) (by omega), fc (32 * (t + 1) + 1) (by omega), fc (32 * (t + 1) + 2) (by omega), fc (32 * (t + 1) + 3) (by omega), fc (32 * (t + 1) + 4) (by omega), fc (32 * (t + 1) + 5) (by omega), fc (32 * (t + 1) + 8) (by omega), fc (32 * (t + 1) + 9) (by omega), fc (32 * (t + 1) + 10) (by omega), fc (32 * (t + 1) + 11) (by omega), fc (32 * (t + 1) + 12) (by omega)]
  rw [fc (32 * (t + 11) + 2) (by omega), fc (32 * (t + 11) + 3) (by omega), fc (32 * (t + 11)) (by omega), fc (32 * (t + 11) + 1) (by omega), fm 47 (by omega) (by omega), fm 48 (by omega) (by omega), fm 49 (by omega) (by omega), fm 50 (by omega) (by omega)]
  rw [fm 35 (by omega) (by omega), fm 36 (by omega) (by omega), fm 37 (by omega) (by omega), fm 38 (by omega) (by omega), fm 39 (by omega) (by omega), fm 40 (by omega) (by omega), fm 41 (by omega) (by omega), fm 42 (by omega) (by omega), fm 43 (by omega) (by omega), fm 44 (by omega) (by omega), fm 45 (by omega) (by omega), fm 46 (by omega) (by omega)]
  exact h
/-- how minutes go by is set alike: by numbers or not, what is tried, which bus, how often -/
def StE (r : Int) (Mc Mm : Mem) : Prop := (Mc 7 2 = r ∧ (r = 0 ∨ r = 1)) ∧ (Mc 7 3 = Mm 0 47 ∧ 0 ≤ Mm 0 47 ∧ Mm 0 47 ≤ 5) ∧ (Mc 7 4 = Mm 0 48 ∧ -1 ≤ Mm 0 48 ∧ Mm 0 48 < 4 ∧ (Mm 0 48 ≠ -1 → Mc 7 5 = Mm 0 49 ∧ 1 ≤ Mm 0 49 ∧ Mm 0 49 ≤ 30))
def MR (t k : Nat) (q r b : Int) (Mc Mm : Mem) : Prop := TR t Mc Mm ∧ (k = 4 ∧ q = 0 ∨ k = 5 ∧ q = 1) ∧ (Mc 7 0 = t ∧ Mc 7 1 = k) ∧ StE r Mc Mm ∧ EQV (Mm 35 0) (cvw k Mc) (mvw q Mm) ∧ WFB (Mm 35 0) b (cvw k Mc) ∧ NOB (Mm 35 0) (mvw q Mm)
/-- only scratch has changed -/
def SC (M M' : Mem) : Prop := ∀ n, n ≠ 262 → n ≠ 263 → n ≠ 420 → n ≠ 452 → M' n = M n
def SM (M M' : Mem) : Prop := (∀ n, n ≠ 0 → n ≠ 64 → n ≠ 65 → n ≠ 82 → M' n = M n) ∧ ∀ f, f ≠ 34 → f ≠ 51 → M' 0 f = M 0 f
theorem SC.refl (M : Mem) : SC M M := fun _ _ _ _ _ => rfl
theorem SM.refl (M : Mem) : SM M M := ⟨fun _ _ _ _ _ => rfl, fun _ _ _ => rfl⟩
theorem SC.trans {M M' M'' : Mem} (h : SC M M') (h' : SC M' M'') : SC M M'' := fun n a b c d => (h' n a b c d).trans (h n a b c d)
theorem SM.trans {M M' M'' : Mem} (h : SM M M') (h' : SM M' M'') : SM M M'' := ⟨fun n a b c d => (h'.1 n a b c d).trans (h.1 n a b c d), fun f a b => (h'.2 f a b).trans (h.2 f a b)⟩
theorem SC.vw {k : Nat} {M M' : Mem} (h : SC M M') (hk : k = 4 ∨ k = 5) : VEQ (cvw k M) (cvw k M') := by
  have h0 : M' k = M k := h k (by omega) (by omega) (by omega) (by omega)
  refine ⟨?_, ?_, ?_, fun f i a b c d => ?_⟩
  · show M k 0 = M' k 0
    rw [h0]
  · show M k 1 = M' k 1
    rw [h0]
  · show M k 9 = M' k 9
    rw [h0]
  · unfold cvw
    rw [if_neg (by omega), if_neg (by omega), h (32 * (k + 1) + f) (by omega) (by omega) (by omega) (by omega)]
theorem SM.vw {q : Int} {M M' : Mem} (h : SM M M') : VEQ (mvw q M) (mvw q M') := by
  refine ⟨?_, ?_, ?_, fun f i a b c d => ?_⟩
  · show M 67 q = M' 67 q
    rw [h.1 67 (by omega) (by omega) (by omega) (by omega)]
  · show M 68 q = M' 68 q
    rw [h.1 68 (by omega) (by omega) (by omega) (by omega)]
  · show M 69 q = M' 69 q
    rw [h.1 69 (by omega) (by omega) (by omega) (by omega)]
  · unfold mvw
    have e : mvc f ≤ 77 ∧ 70 ≤ mvc f := by unfold mvc; split <;> omega
    rw [if_neg (by omega), if_neg (by omega), h.1 (mvc f) (by omega) (by omega) (by omega) (by omega)]
theorem MR.frm {t k : Nat} {q r b : Int} {Mc Mc' Mm Mm' : Mem} (h : MR t k q r b Mc Mm) (fc : SC Mc Mc') (fm : SM Mm Mm') : MR t k q r b Mc' Mm' := by
  obtain ⟨h1, h2, h3, h4, h5, h6, h7⟩ := h
  have hS : Mm 35 0 ≤ 8 := h1.2.1.2.2
  have ht := h1.1
  have ec := fc.vw (k := k) (by omega)
  have em := fm.vw (q := q)
  have e1 : EQV (Mm 35 0) (cvw k Mc) (cvw k Mc') := VEQ.to ec hS (by have := h6.2.2.1; omega)
  have e2 : EQV (Mm 35 0) (mvw q Mm) (mvw q Mm') := VEQ.to em hS (by have := h6.2.2.1; have := h5.2.2.1; omega)
  have hT : TR t Mc' Mm' := TR.frm2 h1 (fun n a => fc n (by omega) (by omega) (by omega) (by omega)) (fun n a b => fm.1 n (by omega) (by omega) (by omega) (by omega))
  unfold MR StE
  rw [fm.1 35 (by omega) (by omega) (by omega) (by omega), fc 7 (by omega) (by omega) (by omega) (by omega), fm.2 47 (by omega) (by omega), fm.2 48 (by omega) (by omega), fm.2 49 (by omega) (by omega)]
  exact ⟨hT, h2, h3, h4, e1.symm.trans (h5.trans e2), WFB.of h6 e1, NOB.of h7 em hS⟩
/-- raw words of the relation -/
theorem MR.raw {t k : Nat} {q r b : Int} {Mc Mm : Mem} (h : MR t k q r b Mc Mm) : Mc k 0 = Mm 67 q ∧ Mc k 1 = Mm 68 q ∧ Mc k 9 = Mm 69 q ∧ (∀ i, 0 ≤ i → i < Mm 69 q → Mc (32 * (k + 1) + 8) i = Mm 70 (8 * q + i)) ∧ ∀ p, 0 ≤ p → p < Mm 35 0 → Mc (32 * (k + 1) + 2) p = Mm 71 (8 * q + p) ∧ Mc (32 * (k + 1) + 3) p = Mm 72 (8 * q + p) ∧ Mc (32 * (k + 1) + 4) p = Mm 73 (8 * q + p) ∧ Mc (32 * (k + 1) + 5) p = Mm 74 (8 * q + p) := by
  have h5 := h.2.2.2.2.1
  have h3 : Mc k 9 = Mm 69 q := h5.2.2.1
  refine ⟨h5.1, h5.2.1, h3, fun i a b => ?_, fun p a b => ?_⟩
  · have := h5.2.2.2.1 i a (by show i < Mc k 9; omega)
    simpa [cvw, mvw, mvc] using this
  · have := h5.2.2.2.2 p a b
    obtain ⟨x1, x2, x3, x4, -⟩ := this
    exact ⟨by simpa [cvw, mvw, mvc] using x1, by simpa [cvw, mvw, mvc] using x2, by simpa [cvw, mvw, mvc] using x3, by simpa [cvw, mvw, mvc] using x4⟩
theorem MR.rng {t k : Nat} {q r b : Int} {Mc Mm : Mem} (h : MR t k q r b Mc Mm) : (0 ≤ Mm 67 q ∧ Mm 67 q ≤ 10000) ∧ in32 (Mm 68 q) ∧ (0 ≤ Mm 69 q ∧ Mm 69 q ≤ Mm 35 0) ∧ (∀ i, 0 ≤ i → i < Mm 69 q → 0 ≤ Mm 70 (8 * q + i) ∧ Mm 70 (8 * q + i) < Mm 35 0 ∧ Mm 71 (8 * q + Mm 70 (8 * q + i)) = 1) ∧ (∀ i j, 0 ≤ i → i < j → j < Mm 69 q → Mm 70 (8 * q + i) ≠ Mm 70 (8 * q + j)) ∧ ∀ p, 0 ≤ p → p < Mm 35 0 → (0 ≤ Mm 71 (8 * q + p) ∧ Mm 71 (8 * q + p) ≤ 3) ∧ (0 ≤ Mm 72 (8 * q + p) ∧ Mm 72 (8 * q + p) ≤ 99) ∧ (0 ≤ Mm 73 (8 * q + p) ∧ Mm 73 (8 * q + p) ≤ 999) ∧ (0 ≤ Mm 74 (8 * q + p) ∧ Mm 74 (8 * q + p) ≤ 4 * Mm 67 q + b) := by
  have h6 : WFB (Mm 35 0) b (mvw q Mm) := WFB.of h.2.2.2.2.2.1 h.2.2.2.2.1
  obtain ⟨w1, w2, w3, w4, w5, w6⟩ := h6
  refine ⟨w1, w2, w3, fun i a b => ?_, fun i j a b c => ?_, fun p a b => ?_⟩
  · have := w4 i a b
    simpa [mvw, mvc] using this
  · have := w5 i j a b c
    simpa [mvw, mvc] using this
  · obtain ⟨x1, x2, x3, x4, -⟩ := w6 p a b
    exact ⟨by simpa [mvw, mvc] using x1, by simpa [mvw, mvc] using x2, by simpa [mvw, mvc] using x3, by simpa [mvw, mvc] using x4⟩
theorem MR.place {t k : Nat} {q r b : Int} {Mc Mm : Mem} (h : MR t k q r b Mc Mm) {p : Int} (a : 0 ≤ p) (b' : p < Mm 69 q) : f_X10_placeOf q (Mm 70 (8 * q + p)) Mm = some p := by
  obtain ⟨r1, r2, r3, r4, r5, r6⟩ := h.rng
  have hS := h.1.2.1
  have hq := h.2.1
  obtain ⟨x, e, f⟩ := placeOfM (q := q) (s := Mm 70 (8 * q + p)) (M := Mm) (by omega) (by omega) (by unfold in32; have := r4 p a b'; omega) (fun j a b => by unfold in32; have := r4 j a b; omega)
  rw [e]
  rcases f with ⟨f1, f2, f3, f4⟩ | ⟨f1, f2⟩
  · congr 1
    rcases Int.lt_trichotomy x p with c | c | c
    · exact absurd f3 (r5 x p f1 c b')
    · exact c
    · exact absurd rfl (f4 p a c)
  · exact absurd rfl (f2 p a b')
