/-! tokens: the reference's words and names -/
def wdT : List (Int × Nat) := [(0, 4), (5, 3), (9, 4), (14, 5), (20, 4), (25, 4), (30, 3), (34, 3), (38, 4), (43, 4), (48, 2), (51, 3), (55, 3), (59, 4), (64, 5), (70, 3), (74, 4), (79, 4), (84, 5), (90, 6)]
def wdO (w : Nat) : Int := (wdT.getD w (97, 0)).1
def wdL (w : Nat) : Nat := (wdT.getD w (97, 0)).2
set_option maxRecDepth 4000 in
theorem wd_tab : ∀ w : Fin 20, (0 ≤ wdO w ∧ wdO w + wdL w < 97 ∧ 2 ≤ wdL w ∧ wdL w ≤ 6) ∧ q_wc (wdO w + wdL w) = 32 ∧ (∀ i : Fin 6, i.val < wdL w → 97 ≤ q_wc (wdO w + i.val) ∧ q_wc (wdO w + i.val) ≤ 122) ∧ wdO (w.val + 1) = wdO w + wdL w + 1 := by decide +kernel
theorem wd_tok : ∀ w : Fin 20, tokR w.val = P6 q_wc (wdO w) (wdL w) := by decide +kernel
def MTW (B : Int → Int) (a : Int) (n w : Nat) : Prop := n = wdL w ∧ ∀ i : Nat, i < wdL w → B (a + i) = q_wc (wdO w + i)
theorem q_ch_ok {α : Type} {i : Int} {K : Int → Option α} (h : 0 ≤ i ∧ i < 97) : q_ch i K = K (q_wc i) := by
  unfold q_ch
  rw [w32_id (by omega), if_pos h]
theorem wdC {w : Nat} (hw : w < 20) : (0 ≤ wdO w ∧ wdO w + wdL w < 97 ∧ 2 ≤ wdL w ∧ wdL w ≤ 6) ∧ q_wc (wdO w + wdL w) = 32 ∧ (∀ i : Nat, i < wdL w → 97 ≤ q_wc (wdO w + i) ∧ q_wc (wdO w + i) ≤ 122) ∧ wdO (w + 1) = wdO w + wdL w + 1 := by
  have h := wd_tab ⟨w, hw⟩
  exact ⟨h.1, h.2.1, fun i hi => h.2.2.1 ⟨i, by have := h.1.2.2.2; simp at this; omega⟩ hi, h.2.2.2⟩
theorem toEnd {g4 : Int → Int → Option Int} {M : Mem} {w : Nat} (hw : w < 20) : ∀ (k j fl : Nat), j + k = wdL w → k < fl → f_X10_word_L97 g4 w M fl (wdO w + j) = g4 ((w : Int) + 1) (wdO (w + 1))
  | k, j, 0, _, h => absurd h (Nat.not_lt_zero k)
  | 0, j, fl + 1, e, h => by
    obtain ⟨c1, c2, c3, c4⟩ := wdC hw
    unfold f_X10_word_L97
    show f_X10_word_B97 g4 w M (wdO w + j) _ = _
    unfold f_X10_word_B97
    rw [show j = wdL w by omega, q_ch_ok (by omega), c2, if_pos rfl, c4]
  | k + 1, j, fl + 1, e, h => by
    obtain ⟨c1, c2, c3, c4⟩ := wdC hw
    have ih := toEnd (g4 := g4) (M := M) hw k (j + 1) fl (by omega) (by omega)
    rw [← ih]
    unfold f_X10_word_L97
    show f_X10_word_B97 g4 w M (wdO w + j) _ = _
    generalize qlp1 _ fl = g
    unfold f_X10_word_B97
    have := c3 j (by omega)
    rw [q_ch_ok (by omega), w32_id (by omega), w32_id (by omega), if_neg (by omega), show wdO w + ((j + 1 : Nat) : Int) = wdO w + j + 1 by omega]
theorem cmpM {g4 : Int → Int → Option Int} {M : Mem} {w n : Nat} {a0 : Int} (hw : w < 20) (ha : 0 ≤ a0) (hn : a0 + n ≤ 700) (e22 : M 0 22 = a0 + n) (e23 : M 0 23 = a0) (hB : ∀ i : Nat, i < n → 97 ≤ M 33 (a0 + i) ∧ M 33 (a0 + i) ≤ 122) : ∀ (k j fl : Nat), j + k = wdL w → k < fl → j ≤ n → (∀ i : Nat, i < j → M 33 (a0 + i) = q_wc (wdO w + i)) → (MTW (M 33) a0 n w ∧ f_X10_word_L15 g4 w (wdO w) M fl j = some (w : Int)) ∨ (¬ MTW (M 33) a0 n w ∧ f_X10_word_L15 g4 w (wdO w) M fl j = g4 ((w : Int) + 1) (wdO (w + 1)))
  | k, j, 0, _, h, _, _ => absurd h (Nat.not_lt_zero k)
  | k, j, fl + 1, e, h, hj, hm => by
    obtain ⟨c1, c2, c3, c4⟩ := wdC hw
    have te := toEnd (g4 := g4) (M := M) hw (wdL w) 0 q_N (by omega) (q_N_lt (by omega))
    rw [show wdO w + ((0 : Nat) : Int) = wdO w by omega] at te
    have ih := fun k' (hk : k = k' + 1) (hj' : j < n) (hm' : M 33 (a0 + j) = q_wc (wdO w + j)) => cmpM (g4 := g4) hw ha hn e22 e23 hB k' (j + 1) fl (by omega) (by omega) (by omega) (fun i hi => by
      rcases Nat.lt_or_ge i j with c | c
      · exact hm i c
      · rw [show i = j by omega]; exact hm')
    revert ih
    unfold f_X10_word_L15
    show _ → (_ ∧ f_X10_word_B15 g4 w (wdO w) M j _ = _) ∨ (_ ∧ f_X10_word_B15 g4 w (wdO w) M j _ = _)
    show (∀ k', _ → _ → _ → (_ ∧ qlp1 _ fl _ = _) ∨ (_ ∧ qlp1 _ fl _ = _)) → _
    generalize qlp1 _ fl = g
    intro ih
    unfold f_X10_word_B15 f_X10_word_J69
    rw [q_ch_ok (by omega)]
    by_cases cj : j = wdL w
    · rw [cj, c2, if_pos rfl, q_ch_ok (by omega), c2, if_neg (fun h => h rfl), q_gf_e, q_gf_e, e22, e23, w32_id (by omega), w32_id (by omega)]
      by_cases cn : n = wdL w
      · left
        refine ⟨⟨cn, fun i hi => hm i (by omega)⟩, ?_⟩
        rw [if_neg (by omega)]
      · right
        refine ⟨fun h => cn h.1, ?_⟩
        rw [if_pos (by omega), te]
    · have cc := c3 j (by omega)
      rw [w32_id (x := q_wc _) (by omega), w32_id (x := 32) (by omega), if_neg (by omega), q_ch_ok (by omega), w32_id (x := q_wc _) (by omega), if_pos (by omega), q_gf_e, q_gf_e, q_gf_e, e22, e23, w32_id (x := a0 + n) (by omega), w32_id (x := a0 + j) (by omega)]
      by_cases cn : n ≤ j
      · right
        refine ⟨fun h => by have := h.1; omega, ?_⟩
        rw [if_pos (by omega), te]
      · have hb := hB j (by omega)
        rw [if_neg (by omega), q_al_ok (by omega), q_ch_ok (by omega), w32_id (x := M 33 _) (by omega), w32_id (x := q_wc _) (by omega)]
        by_cases cm : M 33 (a0 + j) = q_wc (wdO w + j)
        · rw [if_neg (fun h => h cm)]
          have := ih (k - 1) (by omega) (by omega) cm
          rw [show ((j + 1 : Nat) : Int) = (j : Int) + 1 by omega] at this
          exact this
        · right
          refine ⟨fun h => cm (h.2 j (by omega)), ?_⟩
          rw [if_pos cm, te]
/-- the reference's word: the first that fits -/
def FWD (B : Int → Int) (a : Int) (n : Nat) (w : Nat) (r : Int) : Prop := (∃ v : Nat, w ≤ v ∧ v < 20 ∧ r = v ∧ MTW B a n v ∧ ∀ u, w ≤ u → u < v → ¬ MTW B a n u) ∨ (r = -1 ∧ ∀ u, w ≤ u → u < 20 → ¬ MTW B a n u)
theorem wordM' {M : Mem} {n : Nat} {a0 : Int} (ha : 0 ≤ a0) (hn : a0 + n ≤ 700) (e22 : M 0 22 = a0 + n) (e23 : M 0 23 = a0) (hB : ∀ i : Nat, i < n → 97 ≤ M 33 (a0 + i) ∧ M 33 (a0 + i) ≤ 122) : ∀ (k w fl : Nat), w + k = 20 → k < fl → ∃ r, f_X10_word_L4 M fl w (wdO w) = some r ∧ FWD (M 33) a0 n w r
  | k, w, 0, _, h => absurd h (Nat.not_lt_zero k)
  | 0, w, fl + 1, e, h => by
    refine ⟨-1, ?_, .inr ⟨rfl, fun u h1 h2 => by omega⟩⟩
    unfold f_X10_word_L4
    show f_X10_word_B4 M w (wdO w) _ = _
    unfold f_X10_word_B4
    rw [show w = 20 by omega, show wdO 20 = 97 from rfl, if_pos (Int.le_refl _)]
  | k + 1, w, fl + 1, e, h => by
    obtain ⟨c1, c2, c3, c4⟩ := wdC (w := w) (by omega)
    obtain ⟨r, k1, k2⟩ := wordM' ha hn e22 e23 hB k (w + 1) fl (by omega) (by omega)
    revert k1
    unfold f_X10_word_L4
    show _ → ∃ r, f_X10_word_B4 M w (wdO w) _ = _ ∧ _
    generalize qlp2 _ fl = g
    intro k1
    unfold f_X10_word_B4
    rw [w32_id (by omega), w32_id (by omega), if_neg (by omega)]
    rcases cmpM (g4 := g) (w := w) (by omega) ha hn e22 e23 hB (wdL w) 0 q_N (by omega) (q_N_lt (by omega)) (by omega) (fun i hi => by omega) with ⟨h1, h2⟩ | ⟨h1, h2⟩
    · exact ⟨w, h2, .inl ⟨w, by omega, by omega, rfl, h1, fun u a b => by omega⟩⟩
    · refine ⟨r, ?_, ?_⟩
      · rw [show ((w : Int) + 1) = ((w + 1 : Nat) : Int) by omega, k1] at h2
        exact h2
      · rcases k2 with ⟨v, v1, v2, v3, v4, v5⟩ | ⟨v1, v2⟩
        · refine .inl ⟨v, by omega, v2, v3, v4, fun u a b => ?_⟩
          rcases Nat.lt_or_ge w u with c | c
          · exact v5 u (by omega) b
          · rw [show u = w by omega]; exact h1
        · refine .inr ⟨v1, fun u a b => ?_⟩
          rcases Nat.lt_or_ge w u with c | c
          · exact v2 u (by omega) b
          · rw [show u = w by omega]; exact h1
theorem MTW_P6 {B : Int → Int} {a : Int} {n w : Nat} (hw : w < 20) (hn : 1 ≤ n ∧ n ≤ 6) (hB : ∀ i : Nat, i < n → 97 ≤ B (a + i) ∧ B (a + i) ≤ 122) : MTW B a n w ↔ tokR w = P6 B a n := by
  obtain ⟨c1, c2, c3, c4⟩ := wdC hw
  have dB := dgW_rng hB
  have dW := dgW_rng c3
  have e := wd_tok ⟨w, hw⟩
  rw [show tokR (w : Int) = P6 q_wc (wdO w) (wdL w) from e]
  constructor
  · intro h
    have : ∀ j, dgW q_wc (wdO w) (wdL w) j = dgW B a n j := fun j => by
      unfold dgW
      rw [h.1]
      split
      · rename_i c; rw [h.2 j c]
      · rfl
    unfold P6
    rw [this, this, this, this, this, this]
  · intro h
    unfold P6 at h
    have b0 := dB 0
    have b1 := dB 1
    have b2 := dB 2
    have b3 := dB 3
    have b4 := dB 4
    have b5 := dB 5
    have w0 := dW 0
    have w1 := dW 1
    have w2 := dW 2
    have w3 := dW 3
    have w4 := dW 4
    have w5 := dW 5
    have hj : ∀ j : Nat, j < 6 → dgW q_wc (wdO w) (wdL w) j = dgW B a n j := fun j hj => by
      rcases (show j = 0 ∨ j = 1 ∨ j = 2 ∨ j = 3 ∨ j = 4 ∨ j = 5 by omega) with rfl | rfl | rfl | rfl | rfl | rfl <;> omega
    have hp : ∀ j : Nat, j < 6 → (j < wdL w ↔ j < n) := fun j hj' => by
      have := hj j hj'
      unfold dgW at this
      constructor
      · intro c
        have := c3 j c
        by_cases c' : j < n
        · exact c'
        · rw [if_pos c, if_neg c'] at *; omega
      · intro c
        have := hB j c
        by_cases c' : j < wdL w
        · exact c'
        · rw [if_neg c', if_pos c] at *; omega
    have en : n = wdL w := by
      rcases Nat.lt_trichotomy n (wdL w) with c | c | c
      · have := (hp n (by omega)).mp c; omega
      · exact c
      · have := (hp (wdL w) (by omega)).mpr c; omega
    refine ⟨en, fun i hi => ?_⟩
    have := hj i (by omega)
    unfold dgW at this
    rw [if_pos hi, if_pos (by omega)] at this
    omega
