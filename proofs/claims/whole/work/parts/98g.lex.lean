/-! rows of digits, the highest first, in the order of their numbers -/
def DG (K b pre b' : Nat) : Nat := (pre / K ^ (b - 1 - b')) % K
theorem DG_ext {K b pre b' d : Nat} (hK : 0 < K) (hd : d < K) (h : b' < b) : DG K (b + 1) (pre * K + d) b' = DG K b pre b' := by
  unfold DG
  have e : b + 1 - 1 - b' = (b - 1 - b') + 1 := by omega
  rw [e, Nat.pow_succ, Nat.mul_comm (K ^ (b - 1 - b')) K, ← Nat.div_div_eq_div_mul, Nat.mul_comm pre K, Nat.mul_add_div hK, Nat.div_eq_of_lt hd, Nat.add_zero]
theorem DG_last {K b pre d : Nat} (hd : d < K) : DG K (b + 1) (pre * K + d) b = d := by
  unfold DG
  have e : b + 1 - 1 - b = 0 := by omega
  rw [e, Nat.pow_zero, Nat.div_one, Nat.mul_comm pre K, Nat.mul_add_mod, Nat.mod_eq_of_lt hd]
theorem DG_sub {K D b pre b' c : Nat} (hc : c / K ^ (D - b) = pre) (h : b' < b) (hb : b ≤ D) : DG K D c b' = DG K b pre b' := by
  unfold DG
  rw [← hc, Nat.div_div_eq_div_mul, ← Nat.pow_add, show D - b + (b - 1 - b') = D - 1 - b' by omega]
/-- a row that can be, as far as it goes: each digit may stand there, and none twice but one that is free -/
def PV (ok : Nat → Nat → Prop) (fr : Nat → Prop) (K b pre : Nat) : Prop := (∀ b', b' < b → ok b' (DG K b pre b')) ∧ ∀ b1 b2, b1 < b2 → b2 < b → DG K b pre b1 = DG K b pre b2 → fr (DG K b pre b1)
theorem PV_ext {ok : Nat → Nat → Prop} {fr : Nat → Prop} {K b pre d : Nat} (hK : 0 < K) (hd : d < K) : PV ok fr K (b + 1) (pre * K + d) ↔ (PV ok fr K b pre ∧ ok b d ∧ ∀ b', b' < b → DG K b pre b' = d → fr d) := by
  constructor
  · intro ⟨h1, h2⟩
    refine ⟨⟨fun b' a => ?_, fun b1 b2 a c e => ?_⟩, ?_, fun b' a e => ?_⟩
    · have := h1 b' (by omega)
      rwa [DG_ext hK hd a] at this
    · have := h2 b1 b2 a (by omega)
      rw [DG_ext hK hd (by omega), DG_ext hK hd (by omega)] at this
      exact this e
    · have := h1 b (by omega)
      rwa [DG_last hd] at this
    · have := h2 b' b a (by omega)
      rw [DG_ext hK hd a, DG_last hd] at this
      rw [← e]; exact this e
  · intro ⟨⟨h1, h2⟩, h3, h4⟩
    refine ⟨fun b' a => ?_, fun b1 b2 a c e => ?_⟩
    · by_cases hb : b' = b
      · subst hb; rw [DG_last hd]; exact h3
      · rw [DG_ext hK hd (by omega)]; exact h1 b' (by omega)
    · by_cases hb : b2 = b
      · subst hb
        rw [DG_ext hK hd a, DG_last hd] at e
        rw [DG_ext hK hd a, e]
        exact h4 b1 a e
      · rw [DG_ext hK hd (by omega), DG_ext hK hd (by omega)] at e
        rw [DG_ext hK hd (by omega)]
        exact h2 b1 b2 a (by omega) e
theorem PV_sub {ok : Nat → Nat → Prop} {fr : Nat → Prop} {K D b pre c : Nat} (hb : b ≤ D) (hc : c / K ^ (D - b) = pre) (h : PV ok fr K D c) : PV ok fr K b pre := by
  refine ⟨fun b' a => ?_, fun b1 b2 a d e => ?_⟩
  · rw [← DG_sub hc a hb]; exact h.1 b' (by omega)
  · rw [← DG_sub hc (by omega) hb]
    refine h.2 b1 b2 a (by omega) ?_
    rw [DG_sub hc (by omega) hb, DG_sub hc d hb]; exact e
/-- the best of the rows below a bound: the first of those that are worth most -/
def BST (V : Nat → Prop) (w : Nat → Int) (L : Nat) (m : Int) (c : Nat) : Prop := (m = -1 ∧ ∀ c', c' < L → ¬ V c') ∨ (0 ≤ m ∧ c < L ∧ V c ∧ w c = m ∧ (∀ c', c' < L → V c' → w c' ≤ m) ∧ ∀ c', c' < c → V c' → w c' < m)
theorem BST.skip {V : Nat → Prop} {w : Nat → Int} {L L' : Nat} {m : Int} {c : Nat} (h : BST V w L m c) (hl : L ≤ L') (hn : ∀ c', L ≤ c' → c' < L' → ¬ V c') : BST V w L' m c := by
  rcases h with ⟨h1, h2⟩ | ⟨h1, h2, h3, h4, h5, h6⟩
  · refine .inl ⟨h1, fun c' a => ?_⟩
    by_cases d : c' < L
    · exact h2 c' d
    · exact hn c' (by omega) a
  · refine .inr ⟨h1, by omega, h3, h4, fun c' a v => ?_, h6⟩
    by_cases d : c' < L
    · exact h5 c' d v
    · exact absurd v (hn c' (by omega) a)
theorem BST.old {V : Nat → Prop} {w : Nat → Int} {L : Nat} {m : Int} {c : Nat} (h : BST V w L m c) (h0 : V L → 0 ≤ w L) (hv : V L → w L ≤ m) : BST V w (L + 1) m c := by
  rcases h with ⟨h1, h2⟩ | ⟨h1, h2, h3, h4, h5, h6⟩
  · refine .inl ⟨h1, fun c' a v => ?_⟩
    by_cases d : c' < L
    · exact h2 c' d v
    · have e : c' = L := by omega
      subst e
      have := h0 v
      have := hv v
      omega
  · refine .inr ⟨h1, by omega, h3, h4, fun c' a v => ?_, h6⟩
    by_cases d : c' < L
    · exact h5 c' d v
    · have e : c' = L := by omega
      subst e
      exact hv v
theorem BST.new {V : Nat → Prop} {w : Nat → Int} {L : Nat} {m : Int} {c : Nat} (h : BST V w L m c) (hv : V L) (hw : m < w L) (h0 : 0 ≤ w L) : BST V w (L + 1) (w L) L := by
  have hl : ∀ c', c' < L → V c' → w c' < w L := by
    intro c' a v
    rcases h with ⟨h1, h2⟩ | ⟨h1, h2, h3, h4, h5, h6⟩
    · exact absurd v (h2 c' a)
    · have := h5 c' a v; omega
  refine .inr ⟨h0, by omega, hv, rfl, fun c' a v => ?_, hl⟩
  by_cases d : c' < L
  · have := hl c' d v; omega
  · rw [show c' = L by omega]; omega
theorem BST.uniq {V : Nat → Prop} {w : Nat → Int} {L : Nat} {m m' : Int} {c c' : Nat} (h : BST V w L m c) (h' : BST V w L m' c') : m = m' ∧ (0 ≤ m → c = c') := by
  rcases h with ⟨h1, h2⟩ | ⟨h1, h2, h3, h4, h5, h6⟩
  · rcases h' with ⟨k1, k2⟩ | ⟨k1, k2, k3, k4, k5, k6⟩
    · exact ⟨by omega, fun h => by omega⟩
    · exact absurd k3 (h2 c' k2)
  · rcases h' with ⟨k1, k2⟩ | ⟨k1, k2, k3, k4, k5, k6⟩
    · exact absurd h3 (k2 c h2)
    · have e : m = m' := by
        have a1 := h5 c' k2 k3
        have a2 := k5 c h2 h3
        omega
      refine ⟨e, fun _ => ?_⟩
      rcases Nat.lt_trichotomy c c' with l | l | l
      · have := k6 c l h3; omega
      · exact l
      · have := h6 c' l k3; omega
