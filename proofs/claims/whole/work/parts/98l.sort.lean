theorem pigeonR {a b : Nat} (R : Nat → Nat → Prop) (h : ∀ i, i < a → ∃ j, j < b ∧ R i j) (hi : ∀ i i' j, i < i' → i' < a → R i j → R i' j → False) : a ≤ b := by
  refine pigeon b a (fun i => if hh : i < a then Classical.choose (h i hh) else 0) (fun i hh => ?_) (fun i j ij hj => ?_)
  · simp only [dif_pos hh]
    exact (Classical.choose_spec (h i hh)).1
  · have hi' : i < a := by omega
    simp only [dif_pos hi', dif_pos hj]
    intro e
    have h1 := (Classical.choose_spec (h i hi')).2
    have h2 := (Classical.choose_spec (h j hj)).2
    rw [e] at h1
    exact hi i j _ ij hj h1 h2
/-- the bits of the first few -/
def FB (few : Int) (row : Int → Int) (x : Int) : Prop := in32 x ∧ ∀ p, 0 ≤ p → p < 32 → (Bt x p = true ↔ ∃ i, 0 ≤ i ∧ i < few ∧ row i = p)
theorem FB.step {k x s : Int} {row : Int → Int} (h : FB k row x) (hk : 0 ≤ k) (hs : 0 ≤ s ∧ s < 32) (e : row k = s) : FB (k + 1) row (q_or x (q_shl 1 s)) := by
  refine ⟨q_or_rng _ _, fun p a b => ?_⟩
  rw [Bt_or, Bt_shl hs a]
  have := h.2 p a b
  constructor
  · intro hb
    by_cases c : s = p
    · exact ⟨k, hk, by omega, by rw [e, c]⟩
    · have hb : Bt x p = true := by simpa [c] using hb
      obtain ⟨i, i1, i2, i3⟩ := this.mp hb
      exact ⟨i, i1, by omega, i3⟩
  · intro ⟨i, i1, i2, i3⟩
    by_cases c : i = k
    · subst c
      have : s = p := by rw [← e, i3]
      simp [this]
    · have : Bt x p = true := this.mpr ⟨i, i1, by omega, i3⟩
      simp [this]
theorem FB.zero {row : Int → Int} : FB 0 row 0 := ⟨by unfold in32; omega, fun p _ _ => ⟨fun h => by rw [Bt_0] at h; exact absurd h (by decide), fun ⟨i, h1, h2, _⟩ => by omega⟩⟩
/-- the first few, by their numbers -/
def SO (few : Nat) (x : Int) (so : Int → Int) : Prop := (∀ d d' : Nat, d < d' → d' < few → so d < so d') ∧ (∀ d : Nat, d < few → 0 ≤ so d ∧ so d < 8 ∧ Bt x (so d) = true) ∧ ∀ p : Int, 0 ≤ p → p < 8 → Bt x p = true → ∃ d : Nat, d < few ∧ so d = p
theorem sortL {few : Nat} {x : Int} {row : Int → Int} {M : Mem} (hf : few ≤ 4) (hr : ∀ i : Nat, i < few → 0 ≤ row i ∧ row i < 8) (hd : ∀ i j : Nat, i < j → j < few → row i ≠ row j) (hx : FB few row x) : ∃ M', f_X9_sortFirst_J35 x M = some (0, M') ∧ SO few x (M' 43) ∧ ∀ n, n ≠ 43 → M' n = M n := by
  have bit : ∀ p : Int, 0 ≤ p → p < 8 → (Bt x p = true ↔ ∃ i : Nat, i < few ∧ row i = p) := by
    intro p a b
    rw [hx.2 p a (by omega)]
    constructor
    · intro ⟨i, i1, i2, i3⟩
      exact ⟨i.toNat, by omega, by rw [Int.toNat_of_nonneg i1]; exact i3⟩
    · intro ⟨i, i1, i2⟩
      exact ⟨i, by omega, by omega, i2⟩
  have key : wpo (f_X9_sortFirst_J35 x M) (fun z => z.1 = 0 ∧ SO few x (z.2 43) ∧ ∀ n, n ≠ 43 → z.2 n = M n) := by
    unfold f_X9_sortFirst_J35 f_X9_sortFirst_L40
    refine qlm2_N (fun mm i P => ∃ m : Nat, mm = m ∧ m ≤ 4 ∧ 0 ≤ i ∧ i ≤ 8 ∧ (∀ d d' : Nat, d < d' → d' < m → P 43 d < P 43 d') ∧ (∀ d : Nat, d < m → 0 ≤ P 43 d ∧ P 43 d < i ∧ Bt x (P 43 d) = true) ∧ (∀ p : Int, 0 ≤ p → p < i → Bt x p = true → ∃ d : Nat, d < m ∧ P 43 d = p) ∧ ∀ n, n ≠ 43 → P n = M n) (fun _ i _ => (8 - i).toNat) _ _ _ ⟨0, rfl, by omega, by omega, by omega, fun d d' _ h => by omega, fun d h => by omega, fun p a b => by omega, fun n _ => rfl⟩ (by omega) ?_
    intro mm i P g ⟨m, j1, j2, j3, j4, j5, j6, j7, j8⟩ ih
    subst j1
    -- no more than few have been found
    have mle : m ≤ few := pigeonR (fun d j => row j = P 43 d) (fun d hd' => by
      have := j6 d hd'
      obtain ⟨i', i1, i2⟩ := (bit (P 43 d) this.1 (by omega)).mp this.2.2
      exact ⟨i', i1, i2⟩) (fun d d' j h1 h2 e1 e2 => by
      have := j5 d d' h1 h2
      omega)
    unfold f_X9_sortFirst_B40
    (try simp (disch := omega) only [w32_id, q_gf_e, q_gr_e, q_pf_e, q_pz_e, q_let_e, q_call_e, q_calp_e, q_al_ok, q_as_ok, q_nz_ok, up_same, up_nei, up_ne1, Int.toNat_natCast, reduceIte, Int.reduceEq, Int.reduceLT, Int.reduceLE, Int.reduceNeg, not_true_eq_false, not_false_eq_true])
    refine wpo_ite (fun c => wpo_some.mpr ?_) (fun c => ?_)
    · have ei : i = 8 := by omega
      have em : m = few := by
        have : few ≤ m := pigeonR (fun j d => P 43 d = row j) (fun j hj => by
          have := hr j hj
          obtain ⟨d, d1, d2⟩ := j7 (row j) this.1 (by omega) ((bit _ this.1 this.2).mpr ⟨j, hj, rfl⟩)
          exact ⟨d, d1, d2⟩) (fun j j' d h1 h2 e1 e2 => hd j j' h1 h2 (by omega))
        omega
      subst em
      refine ⟨rfl, ⟨j5, fun d h => by have := j6 d h; exact ⟨this.1, Int.lt_of_lt_of_le this.2.1 (by omega), this.2.2⟩, fun p a b h => j7 p a (by omega) h⟩, j8⟩
    refine wpo_ite (fun c4 => wpo_some.mpr ?_) (fun c4 => ?_)
    · have em : m = few := by omega
      subst em
      refine ⟨rfl, ⟨j5, fun d h => by have := j6 d h; exact ⟨this.1, Int.lt_of_lt_of_le this.2.1 (by omega), this.2.2⟩, fun p a b h => ?_⟩, j8⟩
      by_cases cp : p < i
      · exact j7 p a cp h
      · -- one more would be one too many
        exfalso
        have : m + 1 ≤ m := pigeonR (fun d j => row j = if d = m then p else P 43 d) (fun d hd' => by
          by_cases e : d = m
          · obtain ⟨i', i1, i2⟩ := (bit p a b).mp h
            exact ⟨i', i1, by rw [if_pos e]; exact i2⟩
          · have := j6 d (by omega)
            obtain ⟨i', i1, i2⟩ := (bit (P 43 d) this.1 (by omega)).mp this.2.2
            exact ⟨i', i1, by rw [if_neg e]; exact i2⟩) (fun d d' j h1 h2 e1 e2 => by
          rw [if_neg (by omega)] at e1
          by_cases e : d' = m
          · rw [if_pos e] at e2
            have := j6 d (by omega)
            omega
          · rw [if_neg e] at e2
            have := j5 d d' h1 (by omega)
            omega)
        omega
    · refine wpo_ite (fun cb => ?_) (fun cb => ?_)
      · have cf := (and1 (by omega)).mp cb
        refine ih _ _ _ ⟨m, rfl, j2, by omega, by omega, j5, fun d h => by have := j6 d h; exact ⟨this.1, by omega, this.2.2⟩, fun p a b h => ?_, j8⟩ (by omega)
        by_cases e : p = i
        · rw [e, cf] at h; exact absurd h (by decide)
        · exact j7 p a (by omega) h
      · have ct : Bt x i = true := by
          cases hh : Bt x i
          · exact absurd ((and1 (by omega)).mpr hh) cb
          · rfl
        refine ih _ _ _ ⟨m + 1, by omega, by omega, by omega, by omega, fun d d' h1 h2 => ?_, fun d h => ?_, fun p a b h => ?_, fun n a => (up_ne1 a).trans (j8 n a)⟩ (by omega)
        · by_cases e : d' = m
          · rw [e, up_same, up_nei (by omega)]
            have := j6 d (by omega); omega
          · rw [up_nei (by omega), up_nei (by omega)]
            exact j5 d d' h1 (by omega)
        · by_cases e : d = m
          · rw [e, up_same]; exact ⟨by omega, by omega, ct⟩
          · rw [up_nei (by omega)]
            have := j6 d (by omega)
            exact ⟨this.1, by omega, this.2.2⟩
        · by_cases e : p = i
          · exact ⟨m, by omega, by rw [up_same, e]⟩
          · obtain ⟨d, d1, d2⟩ := j7 p a (by omega) h
            exact ⟨d, by omega, by rw [up_nei (by omega)]; exact d2⟩
  obtain ⟨⟨r, M'⟩, e1, e2, e3, e4⟩ := key
  simp only at e2 e3 e4
  subst e2
  exact ⟨M', e1, e3, e4⟩
theorem sortC {few : Nat} {M : Mem} (hf : few ≤ 4) (hr : ∀ i : Nat, i < few → 0 ≤ M 168 i ∧ M 168 i < 8) (hd : ∀ i j : Nat, i < j → j < few → M 168 i ≠ M 168 j) : ∃ x M', FB few (M 168) x ∧ f_X9_sortFirst few M = some (0, M') ∧ SO few x (M' 43) ∧ ∀ n, n ≠ 43 → M' n = M n := by
  have key : ∀ (n : Nat) (k : Nat) (x : Int), k ≤ few → FB k (M 168) x → few - k < n → ∃ x', FB few (M 168) x' ∧ f_X9_sortFirst_L4 few M n x k = f_X9_sortFirst_J35 x' M := by
    intro n
    induction n with
    | zero => intro k x _ _ h; exact absurd h (Nat.not_lt_zero _)
    | succ n ih =>
      intro k x h1 h2 hn
      have : ∃ x', FB few (M 168) x' ∧ f_X9_sortFirst_B4 few M x k (fun a b => f_X9_sortFirst_L4 few M n a b) = f_X9_sortFirst_J35 x' M := by
        unfold f_X9_sortFirst_B4
        (try simp (disch := omega) only [w32_id, q_gf_e, q_gr_e, q_pf_e, q_pz_e, q_let_e, q_call_e, q_calp_e, q_al_ok, q_as_ok, q_nz_ok, up_same, up_nei, up_ne1, Int.toNat_natCast, reduceIte, Int.reduceEq, Int.reduceLT, Int.reduceLE, Int.reduceNeg, not_true_eq_false, not_false_eq_true])
        by_cases c : (few : Int) ≤ k
        · rw [if_pos c]
          have e : k = few := by omega
          subst e
          exact ⟨x, h2, rfl⟩
        · rw [if_neg c, if_neg (by omega)]
          (try simp (disch := omega) only [w32_id, q_gf_e, q_gr_e, q_pf_e, q_pz_e, q_let_e, q_call_e, q_calp_e, q_al_ok, q_as_ok, q_nz_ok, up_same, up_nei, up_ne1, Int.toNat_natCast, reduceIte, Int.reduceEq, Int.reduceLT, Int.reduceLE, Int.reduceNeg, not_true_eq_false, not_false_eq_true])
          have := hr k (by omega)
          obtain ⟨x', y1, y2⟩ := ih (k + 1) _ (by omega) (h2.step (by omega) (s := M 168 k) (by omega) rfl) (by omega)
          exact ⟨x', y1, y2⟩
      exact this
  obtain ⟨x, y1, y2⟩ := key q_N 0 0 (by omega) FB.zero (q_N_lt (by omega))
  obtain ⟨M', z1, z2, z3⟩ := sortL (M := M) hf hr hd y1
  exact ⟨x, M', y1, by unfold f_X9_sortFirst; rw [← z1]; exact y2, z2, z3⟩
