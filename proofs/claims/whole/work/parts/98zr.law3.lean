/-! the law: a sign -/
theorem lvl_inv (t : Int) : (lvl t = 1 ↔ t = 10) ∧ (lvl t = 2 ↔ t = 11) ∧ (lvl t = 3 ↔ t = 12) ∧ (lvl t = 4 ↔ 29 ≤ t ∧ t ≤ 34) ∧ (lvl t = 5 ↔ t = 25 ∨ t = 26) ∧ (lvl t = 6 ↔ t = 27 ∨ t = 28) := by
  unfold lvl
  repeat' split
  all_goals omega
theorem LX.chg {u : Nat} {L i : Int} {Mc Mm N O : Mem} (h : LX u L i Mc Mm) (c10 : N 10 = Mc 10) (c32 : N 32 = Mc 32) (c352 : N 352 = Mc 352) (m33 : O 33 = Mm 33) (m0 : ∀ j, 21 ≤ j → j ≤ 27 → O 0 j = Mm 0 j) (n3 : N 11 3 = O 0 30 ∧ 0 ≤ O 0 30 ∧ O 0 30 ≤ 8) (n6 : N (u + 10) 6 = O 0 31 ∧ 0 ≤ O 0 31 ∧ O 0 31 ≤ 64) (nb : N 11 6 = 0 ∨ N 11 6 = 1) (nc : N 388 (O 0 30) = 0 ∨ N 388 (O 0 30) = 1) : LX u L i N O := by
  obtain ⟨h0, h1, h2, h3, h4, h5, h6, h7, h8⟩ := h
  refine ⟨h0, ?_, ?_, ?_, n3, n6, ?_, nb, nc⟩
  · unfold TB BY at *; rw [c10, c32, c352, m33, m0 21 (by omega) (by omega), m0 22 (by omega) (by omega)]; exact h1
  · unfold TKN at *; rw [c10, m0 23 (by omega) (by omega), m0 24 (by omega) (by omega), m0 25 (by omega) (by omega)]; exact h2
  · rw [m0 26 (by omega) (by omega), h3]
  · rw [m0 22 (by omega) (by omega), m0 24 (by omega) (by omega), m0 27 (by omega) (by omega)]; exact h6
def yF (t : Int) : Int := if t = 10 ∨ t = 11 then 1 else 0
def cF (l c : Int) : Int := if l = 4 then 1 else if l ≤ 2 then 0 else c
def dF (l : Int) : Int := if l = 4 ∨ l ≤ 2 then 0 else 1
/-- the program takes a sign -/
theorem takeSC {u : Nat} {L a s D lo l i : Int} {Mc Mm : Mem} (h : SS u L a s D lo i Mc Mm) (hl : lvl (Mc 10 4) = l) (h1 : 1 ≤ l ∧ l ≤ lo) (h12 : Mc 10 4 ≠ 12) (tl : TL s l Mc) (hc : l = 4 → Mc 388 (Mm 0 30) = 0) (hk : Mm 0 31 < 64) : ∃ M4 N, f_X1_takeSign (u + 10) Mc = some (0, N) ∧ LK u a s D lo M4 Mm ∧ M4 (u + 10) 5 = Mm 35 13 ∧ fl u a (up Mc (u + 10) 6 (Mc (u + 10) 6 + 1)) M4 ∧ (∀ n j, ¬ (n = 11 ∧ (j = 2 ∨ j = 5 ∨ j = 6)) → ¬ (n = 385 ∧ j = s) → ¬ (n = 388 ∧ j = Mm 0 30 ∧ (l = 4 ∨ l ≤ 2)) → N n j = M4 n j) ∧ N 11 2 = s + 1 ∧ N 11 5 = 1 ∧ N 11 6 = yF (Mc 10 4) ∧ N 385 s = Mc 10 4 ∧ N 388 (Mm 0 30) = cF l (Mc 388 (Mm 0 30)) := by
  obtain ⟨hx, hlk, h5⟩ := h
  obtain ⟨x0, x1, x2, x3, x4, x5, x6, x7, x8⟩ := hx
  obtain ⟨t1, t2, t3, t4⟩ := x2.2.2.num
  have h24 : Mc 10 4 ≠ 24 := fun z => by
    have e : lvl 24 = 0 := by decide
    rw [z, e] at hl
    omega
  have h1011 : Mc 10 4 = 10 ∨ Mc 10 4 = 11 ↔ l ≤ 2 := by
    have inv := lvl_inv (Mc 10 4)
    rw [hl] at inv
    omega
  have lr := lvl_rng (Mc 10 4)
  rw [hl] at lr
  obtain ⟨tok, etok⟩ : ∃ tok, tok = Mc 10 4 := ⟨_, rfl⟩
  obtain ⟨dp, edp⟩ : ∃ dp, dp = Mm 0 30 := ⟨_, rfl⟩
  obtain ⟨M2, eM2⟩ : ∃ M2, M2 = up Mc (u + 10) 6 (Mc (u + 10) 6 + 1) := ⟨_, rfl⟩
  have hlk2 : LK u a s D lo M2 Mm := by
    unfold LK at *
    rw [eM2, up_nei (n := u + 10) (i := 6) (i' := 5) (by omega), up_ne1 (n' := 11) (by omega), up_ne1 (n' := 385) (by omega), up_ne1 (n' := 32 * (u + 11)) (by omega), up_ne1 (n' := 32 * (u + 11) + 1) (by omega)]
    exact hlk
  have tl2 : TL s l M2 := by
    unfold TL at *
    rw [eM2, up_ne1 (n' := 385) (by omega)]
    exact tl
  obtain ⟨M4, e4, lk4, k5, f4⟩ := flushW x0 hlk2 (by omega) tl2
  obtain ⟨b1, b2, b3, b4, b5, b6, b7, b8⟩ := id lk4
  rw [k5] at b3
  have d4 : M4 11 3 = dp := by rw [f4 11 3 (by omega) (by omega) (by omega), eM2, up_ne1 (by omega), x4.1, edp]
  have c4 : M4 388 dp = Mc 388 dp := by rw [f4 388 dp (by omega) (by omega) (by omega), eM2, up_ne1 (by omega)]
  have hs2 : M4 11 2 = s := by omega
  have hb5 := hlk.2.2.2.2.1.1
  rw [← edp] at hb5 hc x4 x8 b4 b5
  rw [← etok] at t1 t3 h12 h24 h1011 hl
  rw [← etok, ← edp]
  refine ⟨M4, ?_⟩
  -- what lies behind the flush
  have tail : ∀ G : Mem, G 11 2 = s → f_X1_takeSign_J158 (u + 10) tok G = some (0, up (up (up G 11 5 1) 385 s tok) 11 2 (s + 1)) := by
    intro G hG
    have e2 : (up G 11 5 1) 11 2 = s := by rw [up_nei (by omega), hG]
    unfold f_X1_takeSign_J158
    rw [q_pz_e (.inr rfl), pushC (by rw [e2]; omega), q_call_e, e2]
  have j99 : ∀ x4 : Int, f_X1_takeSign_J99 (u + 10) tok l x4 Mc = if tok = 10 ∨ tok = 11 then f_X1_takeSign_J132 (u + 10) tok x4 1 M4 else f_X1_takeSign_J132 (u + 10) tok x4 0 M4 := by
    intro x4
    unfold f_X1_takeSign_J99 f_X1_takeSign_J127
    rw [knotC (by omega), if_neg (by omega), q_call_e, if_pos (show ¬ w32 1 = 0 by decide), ← eM2, e4, q_call_e, w32_id (x := tok) (by omega), w32_id (x := 10) (by omega), w32_id (x := 11) (by omega)]
    by_cases c : tok = 10
    · rw [if_pos c, if_pos (.inl c)]
    · rw [if_neg c]
      by_cases c' : tok = 11
      · rw [if_neg (fun z => z c'), if_pos (.inr c')]
      · rw [if_pos c', if_neg (by omega)]
  have start : f_X1_takeSign (u + 10) Mc = if l = 4 then f_X1_takeSign_J99 (u + 10) tok l 1 Mc else f_X1_takeSign_J99 (u + 10) tok l 0 Mc := by
    unfold f_X1_takeSign f_X1_takeSign_J49 f_X1_takeSign_J68
    rw [q_gf_e, ← etok, w32_id (x := tok) (by omega), w32_id (x := 24) (by omega), if_pos h24, lvlC (by omega), q_calp_e, lvlC (t := 29) (by omega), q_calp_e, hl, show lvl 29 = 4 by decide, w32_id (x := l) (by omega), w32_id (x := 4) (by omega), w32_id (x := 12) (by omega)]
    by_cases c : l = 4
    · rw [if_neg (fun z => z c), if_pos c, if_neg (by omega), if_neg h12, if_neg (show ¬ w32 1 = 0 by decide), q_gf_e, x4.1, q_al_ok (by omega), hc c, if_pos (show w32 0 = 0 by decide)]
    · rw [if_pos c, if_neg c, if_neg (by omega), if_neg h12, if_pos (show w32 0 = 0 by decide)]
  have j132 : ∀ x4 y0 : Int, (x4 = 0 ∨ x4 = 1) → (y0 = 0 ∨ y0 = 1) → f_X1_takeSign_J132 (u + 10) tok x4 y0 M4 = some (0, up (up (up (if x4 = 1 ∨ y0 = 1 then up (up M4 11 6 y0) 388 dp x4 else up M4 11 6 y0) 11 5 1) 385 s tok) 11 2 (s + 1)) := by
    intro x4 y0 hx hy
    have e2 : (up M4 11 6 y0) 11 2 = s := by rw [up_nei (by omega), hs2]
    have e3 : (up (up M4 11 6 y0) 388 dp x4) 11 2 = s := by rw [up_ne1 (by omega), e2]
    have e4 : (up M4 11 6 y0) 11 3 = dp := by rw [up_nei (by omega), d4]
    unfold f_X1_takeSign_J132 f_X1_takeSign_J147
    rw [q_pz_e hy]
    simp only [q_gf_e, up_same, e4]
    rw [if_pos hx, q_as_ok (by omega), tail _ e2, tail _ e3]
    rcases hx with rfl | rfl
    · rw [if_neg (show ¬ ¬ w32 0 = 0 by decide)]
      rcases hy with rfl | rfl
      · rw [if_pos (show w32 0 = 0 by decide), if_neg (by omega)]
      · rw [if_neg (show ¬ w32 1 = 0 by decide), if_pos (by omega)]
    · rw [if_pos (show ¬ w32 1 = 0 by decide), if_pos (by omega)]
  obtain ⟨x4v, hx4⟩ : ∃ x : Int, x = if l = 4 then 1 else 0 := ⟨_, rfl⟩
  obtain ⟨y0v, hy0⟩ : ∃ x : Int, x = if tok = 10 ∨ tok = 11 then 1 else 0 := ⟨_, rfl⟩
  have hxx : x4v = 0 ∨ x4v = 1 := by rw [hx4]; split <;> simp
  have hyy : y0v = 0 ∨ y0v = 1 := by rw [hy0]; split <;> simp
  have fin := j132 x4v y0v hxx hyy
  have all : f_X1_takeSign (u + 10) Mc = f_X1_takeSign_J132 (u + 10) tok x4v y0v M4 := by
    rw [start, j99, j99, hx4, hy0]
    split <;> split <;> rfl
  rw [all, fin]
  have hflag : (x4v = 1 ∨ y0v = 1) ↔ (l = 4 ∨ l ≤ 2) := by
    rw [hx4, hy0]
    split <;> split <;> simp <;> omega
  refine ⟨_, rfl, lk4, k5, eM2 ▸ f4, ?_, ?_, ?_, ?_, ?_, ?_⟩
  · intro n j c1 c2 c3
    rw [up_ne (by omega), up_ne (by omega), up_ne (by omega)]
    split
    · next z =>
      have := hflag.mp z
      rw [up_ne (by omega), up_ne (by omega)]
    · rw [up_ne (by omega)]
  · rw [up_same]
  · rw [up_nei (by omega), up_ne1 (by omega), up_same]
  · unfold yF
    rw [up_nei (by omega), up_ne1 (by omega), up_nei (by omega), ← hy0]
    split
    · rw [up_ne1 (by omega), up_same]
    · rw [up_same]
  · rw [up_ne1 (by omega), up_same]
  · unfold cF
    rw [up_ne1 (by omega), up_ne1 (by omega), up_ne1 (by omega)]
    split
    · next z =>
      have := hflag.mp z
      rw [up_same, hx4]
      split
      · rfl
      · rw [if_pos (by omega)]
    · next z =>
      have : ¬ (l = 4 ∨ l ≤ 2) := fun q => z (hflag.mpr q)
      rw [up_ne1 (by omega), c4, if_neg (by omega), if_neg (by omega)]
