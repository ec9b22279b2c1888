theorem UPV.eqv {S s x : Int} {v w : Mem} (e : EQV S v w) : EQV S (up v 3 s x) (up w 3 s x) := by
  obtain ⟨e1, e2, e3, e4, e5⟩ := e
  refine ⟨?_, ?_, ?_, fun i a b => ?_, fun q a b => ?_⟩
  · simpa [up] using e1
  · simpa [up] using e2
  · simpa [up] using e3
  · have b' : i < v 0 9 := by simpa [up] using b
    simpa [up] using e4 i a b'
  · have := e5 q a b
    by_cases c : q = s
    · subst c
      simp [up]
      exact ⟨this.1, this.2.2⟩
    · simpa [up, c] using this
theorem UND.of {S kd s fo : Int} {v v' w w' : Mem} (h : UND S kd s fo v w) (hv : WFV S v) (e : EQV S v v') (e' : EQV S w w') : UND S kd s fo v' w' := by
  obtain ⟨hs, h⟩ := h
  refine ⟨hs, ?_⟩
  have e3 := e.2.2.1
  rcases h with ⟨k0, p, p1, p2, p3, f1, f2, q⟩ | ⟨k0, q⟩ | ⟨k0, q1, f1, f2, f3, q⟩
  · refine .inl ⟨k0, p, p1, by omega, by rw [← e.2.2.2.1 p p1 p2]; exact p3, f1, by omega, ?_⟩
    refine EQV.trans (EQV.symm (PIV.eqv (TOV.eqv e p1) ⟨f1, ?_⟩ ?_)) (q.trans e')
    · simp [TOV]; omega
    · have h1 := (hv.2.2.2.1 p p1 p2).2.2
      rw [p3] at h1
      simp [TOV, h1]
  · exact .inr (.inl ⟨k0, EQV.trans (UPV.eqv e.symm) (q.trans e')⟩)
  · refine .inr (.inr ⟨k0, by rw [← (e.2.2.2.2 s hs.1 hs.2).1]; exact q1, f1, by omega, by omega, ?_⟩)
    exact EQV.trans (EQV.symm (PIV.eqv e ⟨f1, f2⟩ (by omega))) (q.trans e')
/-- the cells that count -/
def KC (t n : Nat) : Prop := n = 0 ∨ n = 1 ∨ n = t ∨ n = t + 10 ∨ n = 4 ∨ n = 6 ∨ n = 8 ∨ n = 9 ∨ n = 32 ∨ n = 352 ∨ (288 ≤ n ∧ n ≤ 290) ∨ (320 ≤ n ∧ n ≤ 322) ∨ (32 * (t + 1) + 1 ≤ n ∧ n ≤ 32 * (t + 1) + 12) ∨ (32 * (t + 11) ≤ n ∧ n ≤ 32 * (t + 11) + 3) ∨ (160 ≤ n ∧ n ≤ 168) ∨ (224 ≤ n ∧ n ≤ 232)
def FC (t : Nat) (M M' : Mem) : Prop := ∀ n, KC t n → M' n = M n
/-- the reference's -/
def FM (M M' : Mem) : Prop := (∀ n, (n = 33 ∨ (35 ≤ n ∧ n ≤ 50) ∨ (92 ≤ n ∧ n ≤ 95)) → M' n = M n) ∧ (∀ f : Int, (f = 2 ∨ f = 28 ∨ f = 29 ∨ (45 ≤ f ∧ f ≤ 48) ∨ f = 58 ∨ f = 59) → M' 0 f = M 0 f) ∧ (∀ n q, 67 ≤ n → n ≤ 69 → q ≠ 1 → M' n q = M n q) ∧ (∀ n i, 70 ≤ n → n ≤ 76 → (i < 8 ∨ 16 ≤ i) → M' n i = M n i)
theorem FC.refl (t : Nat) (M : Mem) : FC t M M := fun _ _ => rfl
theorem FM.refl (M : Mem) : FM M M := ⟨fun _ _ => rfl, fun _ _ => rfl, fun _ _ _ _ _ => rfl, fun _ _ _ _ _ => rfl⟩
theorem FC.trans {t : Nat} {M M' M'' : Mem} (h : FC t M M') (h' : FC t M' M'') : FC t M M'' := fun n k => (h' n k).trans (h n k)
theorem FM.trans {M M' M'' : Mem} (h : FM M M') (h' : FM M' M'') : FM M M'' := ⟨fun n k => (h'.1 n k).trans (h.1 n k), fun f k => (h'.2.1 f k).trans (h.2.1 f k), fun n q a b c => (h'.2.2.1 n q a b c).trans (h.2.2.1 n q a b c), fun n q a b c => (h'.2.2.2 n q a b c).trans (h.2.2.2 n q a b c)⟩
theorem FM.vw {M M' : Mem} (h : FM M M') {q : Int} (hq : q ≠ 1) : VEQ (mvw q M') (mvw q M) := by
  refine ⟨h.2.2.1 67 q (by omega) (by omega) hq, h.2.2.1 68 q (by omega) (by omega) hq, h.2.2.1 69 q (by omega) (by omega) hq, fun f i a b c d => ?_⟩
  unfold mvw
  rw [if_neg (by omega), if_neg (by omega)]
  refine h.2.2.2 _ _ ?_ ?_ (by omega)
  · unfold mvc
    split <;> omega
  · unfold mvc
    split <;> omega
