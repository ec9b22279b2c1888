/-! the law: frames, the program's run, one token on -/
def feC (u : Nat) (a s dp : Int) (M M' : Mem) : Prop := ∀ n j, n ≠ 10 → n ≠ 11 → ¬ (n = 385 ∧ s ≤ j) → ¬ (n = 388 ∧ dp ≤ j) → ¬ (n = u + 10 ∧ (j = 5 ∨ j = 6)) → ¬ ((n = 32 * (u + 11) ∨ n = 32 * (u + 11) + 1) ∧ a ≤ j) → M' n j = M n j
def feM (a : Int) (M M' : Mem) : Prop := ∀ n j, ¬ (n = 0 ∧ (22 ≤ j ∧ j ≤ 27 ∨ j = 30 ∨ j = 31)) → ¬ (n = 35 ∧ j = 13) → ¬ ((n = 49 ∨ n = 50) ∧ 64 + a ≤ j) → M' n j = M n j
theorem feC.refl {u : Nat} {a s dp : Int} (M : Mem) : feC u a s dp M M := fun _ _ _ _ _ _ _ _ => rfl
theorem feM.refl {a : Int} (M : Mem) : feM a M M := fun _ _ _ _ _ => rfl
theorem feC.trans {u : Nat} {a s dp : Int} {M M' M'' : Mem} (h : feC u a s dp M M') (h' : feC u a s dp M' M'') : feC u a s dp M M'' := fun n j a b c d e f => by rw [h' n j a b c d e f, h n j a b c d e f]
theorem feM.trans {a : Int} {M M' M'' : Mem} (h : feM a M M') (h' : feM a M' M'') : feM a M M'' := fun n j b c d => by rw [h' n j b c d, h n j b c d]
theorem feC.mono {u : Nat} {a s dp s' dp' : Int} {M M' : Mem} (h : feC u a s dp M M') (h1 : s' ≤ s) (h2 : dp' ≤ dp) : feC u a s' dp' M M' := fun n j a b c d e f => h n j a b (by omega) (by omega) e f
theorem fC7.fe {u : Nat} {a s dp : Int} {M M' : Mem} (h : fC7 M M') : feC u a s dp M M' := fun n j b _ _ _ _ _ => h n j (by omega)
theorem fM7.fe {a : Int} {M M' : Mem} (h : fM7 M M') : feM a M M' := fun n j b _ _ => h n j (by omega)
theorem fl.fe {u : Nat} {a s dp : Int} {M M' : Mem} (h : fl u a M M') : feC u a s dp M M' := fun n j b c _ _ d e => h n j (by omega) (by omega) e
def CR (u : Nat) (i : Int) (Mc : Mem) (j : Int) (Mc' : Mem) : Prop := (i ≤ j ∧ Mc 10 3 ≤ Mc' 10 3) ∧ ∀ n, f_X1_read_L29 (u + 10) (n + (j - i).toNat) i Mc = f_X1_read_L29 (u + 10) n j Mc'
def CE (u : Nat) (i : Int) (Mc : Mem) (r : Int) (Mc' : Mem) : Prop := ∃ j, i ≤ j ∧ j ≤ 700 ∧ ∀ n, f_X1_read_L29 (u + 10) (n + 1 + (j - i).toNat) i Mc = some (r, Mc')
theorem CR.refl (u : Nat) (i : Int) (Mc : Mem) : CR u i Mc i Mc := ⟨by omega, fun n => by rw [show (i - i).toNat = 0 by omega]; rfl⟩
theorem CR.trans {u : Nat} {i j k : Int} {M M' M'' : Mem} (h : CR u i M j M') (h' : CR u j M' k M'') : CR u i M k M'' := by
  refine ⟨by have := h.1; have := h'.1; omega, fun n => ?_⟩
  have e : n + (k - i).toNat = (n + (k - j).toNat) + (j - i).toNat := by have := h.1; have := h'.1; omega
  rw [e, h.2, h'.2]
theorem CR.ce {u : Nat} {i j r : Int} {M M' M'' : Mem} (h : CR u i M j M') (h' : CE u j M' r M'') : CE u i M r M'' := by
  obtain ⟨k, b, c, d⟩ := h'
  refine ⟨k, by have := h.1; omega, c, fun n => ?_⟩
  have e : n + 1 + (k - i).toNat = (n + 1 + (k - j).toNat) + (j - i).toNat := by have := h.1; omega
  rw [e, h.2, d]
theorem CR.one {u : Nat} {i : Int} {M M' : Mem} (hm : M 10 3 ≤ M' 10 3) (h : ∀ n, f_X1_read_L29 (u + 10) (n + 1) i M = f_X1_read_L29 (u + 10) n (i + 1) M') : CR u i M (i + 1) M' := ⟨by omega, fun n => by rw [show (i + 1 - i).toNat = 1 by omega]; exact h n⟩
theorem CE.one {u : Nat} {i r : Int} {M M' : Mem} (hi : i ≤ 700) (h : ∀ n, f_X1_read_L29 (u + 10) (n + 1) i M = some (r, M')) : CE u i M r M' := ⟨i, by omega, hi, fun n => by rw [show (i - i).toNat = 0 by omega]; exact h n⟩
theorem L29_succ {k n : Nat} {i : Int} {M : Mem} : f_X1_read_L29 k (n + 1) i M = f_X1_read_B29 k i M (fun x N => f_X1_read_L29 k n x N) := rfl
theorem LX.i700 {u : Nat} {L i : Int} {Mc Mm : Mem} (h : LX u L i Mc Mm) : 0 ≤ i ∧ i ≤ 699 := by
  obtain ⟨h0, h1, h2, h3, h4, h5, h6, h7, h8⟩ := h
  obtain ⟨⟨b1, _⟩, b2, b3, b4, b5, b6, b7⟩ := h1
  omega
theorem stV {u : Nat} {L i : Int} {Mc Mm : Mem} (h : LX u L i Mc Mm) (h5 : Mc 11 5 = 1) (n : Nat) : f_X1_read_L29 (u + 10) (n + 1) i Mc = q_call (f_X1_takeValue (u + 10) Mc) fun r M => f_X1_read_J90 (u + 10) (fun x N => f_X1_read_L29 (u + 10) n x N) i r M := by
  have hi := h.i700
  rw [L29_succ]
  unfold f_X1_read_B29 f_X1_read_J70
  rw [w32_id (x := 700) (by omega), w32_id (x := i) (by omega), if_neg (by omega), q_gf_e, h5, if_pos (show ¬ w32 1 = 0 by decide), q_gf_e, h5, if_neg (show ¬ w32 1 = 0 by decide)]
theorem stS {u : Nat} {L i : Int} {Mc Mm : Mem} (h : LX u L i Mc Mm) (h5 : Mc 11 5 = 0) (hne : ¬ (Mm 0 30 = 0 ∧ Mc 10 4 = 22)) (n : Nat) : f_X1_read_L29 (u + 10) (n + 1) i Mc = q_call (f_X1_takeSign (u + 10) Mc) fun r M => f_X1_read_J90 (u + 10) (fun x N => f_X1_read_L29 (u + 10) n x N) i r M := by
  have hi := h.i700
  obtain ⟨h0, h1, h2, h3, h4, _⟩ := id h
  obtain ⟨t1, t2, t3, t4⟩ := h2.2.2.num
  rw [L29_succ]
  unfold f_X1_read_B29 f_X1_read_J70
  rw [w32_id (x := 700) (by omega), w32_id (x := i) (by omega), if_neg (by omega), q_gf_e, h5, if_neg (show ¬ ¬ w32 0 = 0 by decide), q_gf_e, h4.1, w32_id (x := Mm 0 30) (by omega), q_gf_e, h5, if_pos (show w32 0 = 0 by decide)]
  by_cases c : Mm 0 30 = 0
  · rw [if_neg (fun z => z c), q_gf_e, w32_id (x := Mc 10 4) (by omega), w32_id (x := 22) (by omega), if_pos (fun z => hne ⟨c, z⟩)]
  · rw [if_pos c]
theorem stE {u : Nat} {L i : Int} {Mc Mm : Mem} (h : LX u L i Mc Mm) (h5 : Mc 11 5 = 0) (hne : Mm 0 30 = 0 ∧ Mc 10 4 = 22) (n : Nat) : f_X1_read_L29 (u + 10) (n + 1) i Mc = q_call (f_X1_putSigns (u + 10) 1 Mc) fun _ M => some (0, M) := by
  have hi := h.i700
  obtain ⟨h0, h1, h2, h3, h4, _⟩ := id h
  rw [L29_succ]
  unfold f_X1_read_B29
  rw [w32_id (x := 700) (by omega), w32_id (x := i) (by omega), if_neg (by omega), q_gf_e, h5, if_neg (show ¬ ¬ w32 0 = 0 by decide), q_gf_e, h4.1, hne.1, if_neg (show ¬ ¬ w32 0 = 0 by decide), q_gf_e, hne.2, if_neg (fun z => z rfl)]
theorem j90_0 {u : Nat} {g : Int → Mem → Res} {i : Int} {M : Mem} : f_X1_read_J90 (u + 10) g i 0 M = q_call (f_X7_advance M) fun _ M2 => g (i + 1) M2 := by
  unfold f_X1_read_J90
  rw [if_pos (show w32 0 = 0 by decide)]
theorem j90_r {u : Nat} {g : Int → Mem → Res} {i r : Int} {M : Mem} (hr : 1 ≤ r ∧ r ≤ 5) : f_X1_read_J90 (u + 10) g i r M = some (r, M) := by
  unfold f_X1_read_J90
  rw [w32_id (by omega), if_neg (by omega)]
theorem LX.adv {u : Nat} {L i : Int} {Mc Mm : Mem} (h : LX u L i Mc Mm) (hne : Mm 0 24 ≠ 4) : ∃ Mc' Mm', f_X7_advance Mc = some (0, Mc') ∧ f_X10_token Mm = some (0, Mm') ∧ LX u L (i + 1) Mc' Mm' ∧ fC7 Mc Mc' ∧ fM7 Mm Mm' := by
  obtain ⟨h0, h1, h2, h3, h4, h5, h6, h7, h8⟩ := h
  obtain ⟨Mc', Mm', a1, a2, a3, a4, a5, a6, a7, a8⟩ := advW h1
  refine ⟨Mc', Mm', a1, a2, ⟨h0, a5, a6, ?_, ?_, ?_, ?_, ?_, ?_⟩, a3, a4⟩
  · rw [a4 0 26 (by omega), h3]
  · rw [a4 0 30 (by omega), a3.cell (by omega)]; exact h4
  · rw [a4 0 31 (by omega), a3.cell (by omega)]; exact h5
  · refine ⟨by omega, by omega, by rw [a4 0 27 (by omega)]; exact h6.2.2.1, fun z => ?_⟩
    have := a8 z
    omega
  · rw [a3.cell (by omega)]; exact h7
  · rw [a3.cell (n := 388) (by omega), a4 0 30 (by omega)]; exact h8
theorem LX.mon {u : Nat} {L i : Int} {N O M M' : Mem} (h : LX u L i N O) (e : N 10 = M 10) (a1 : f_X7_advance N = some (0, M')) : M 10 3 ≤ M' 10 3 := by
  obtain ⟨Mc', Mm', b1, b2, b3, b4, b5, b6, b7, b8⟩ := advW h.2.1
  rw [a1] at b1
  have e2 : M' = Mc' := by simpa using b1
  obtain ⟨q1, q2, q3, q4, q5, q6⟩ := h.2.1
  obtain ⟨w1, w2, w3, w4, w5, w6⟩ := b5
  rw [← e, e2]
  omega
theorem LK.frm {u : Nat} {a s D lo : Int} {Mc Mm Mc' Mm' : Mem} (h : LK u a s D lo Mc Mm) (hu : u = 2 ∨ u = 3) (hc : fC7 Mc Mc') (hm : fM7 Mm Mm') : LK u a s D lo Mc' Mm' := by
  unfold LK at *
  rw [hc.cell (n := u + 10) (by omega), hc.cell (n := 11) (by omega), hc.cell (n := 385) (by omega), hc.cell (n := 32 * (u + 11)) (by omega), hc.cell (n := 32 * (u + 11) + 1) (by omega), hm.cell (n := 35) (by omega), hm.cell (n := 49) (by omega), hm.cell (n := 50) (by omega), hm 0 30 (by omega), hm 0 31 (by omega)]
  exact h
/-- both failed at the same token -/
def FX (u : Nat) (a i : Int) (Mc Mm Mm' : Mem) : Prop := ∃ r Mc', CE u i Mc r Mc' ∧ FQa Mm' ∧ r = Mm' 0 26 ∧ Mc' 10 5 = Mm' 0 27 ∧ (0 ≤ Mm' 0 27 ∧ Mm' 0 27 ≤ 700) ∧ feC u a 0 0 Mc Mc' ∧ feM a Mm Mm'
theorem FX.pre {u : Nat} {a i j s dp : Int} {Mc Mm Mc1 Mm1 Mm' : Mem} (h : FX u a j Mc1 Mm1 Mm') (hr : CR u i Mc j Mc1) (hc : feC u a s dp Mc Mc1) (hm : feM a Mm Mm1) (hs : 0 ≤ s) (hd : 0 ≤ dp) : FX u a i Mc Mm Mm' := by
  obtain ⟨r, Mc', b1, b2, b3, b4, b5, b6, b7⟩ := h
  exact ⟨r, Mc', hr.ce b1, b2, b3, b4, b5, (hc.mono hs hd).trans b6, hm.trans b7⟩
theorem feMflt {a f : Int} {Mm : Mem} : feM a Mm (flt f Mm) := fun n j b c d => by unfold flt; rw [up_ne (by omega), up_ne (by omega)]
/-- a fault at the token at hand, the program's memory as it is but for what a law may change -/
theorem FX.here {u : Nat} {L a i f : Int} {Mc Mm Mc' : Mem} (h : LX u L i Mc Mm) (hf : 1 ≤ f ∧ f ≤ 5) (hs : ∀ n, f_X1_read_L29 (u + 10) (n + 1) i Mc = some (f, Mc')) (h10 : Mc' 10 5 = Mc 10 5) (hc : feC u a 0 0 Mc Mc') : FX u a i Mc Mm (flt f Mm) := by
  have hi := h.i700
  obtain ⟨h0, h1, h2, h3, _⟩ := h
  refine ⟨f, Mc', CE.one (by omega) hs, flt_FQa hf Mm, ?_, ?_, ?_, hc, feMflt⟩
  · unfold flt; rw [up_nei (by omega), up_same]
  · unfold flt; rw [up_same, h10]; exact h2.1
  · unfold flt; rw [up_same]; exact h2.2.1
theorem knotM {Mm : Mem} (h26 : Mm 0 26 = 0) (h : 0 ≤ Mm 0 31 ∧ Mm 0 31 ≤ 64) : f_X10_knot Mm = some (0, if Mm 0 31 = 64 then flt 2 Mm else up Mm 0 31 (Mm 0 31 + 1)) := by
  unfold f_X10_knot
  rw [q_gf_e, h26, if_pos (show w32 0 = 0 by decide), q_gf_e, w32_id (x := Mm 0 31) (by omega), w32_id (x := 64) (by omega)]
  by_cases c : Mm 0 31 = 64
  · rw [if_neg (fun z => z c), wrongF h26, q_call_e, if_pos c]
  · rw [if_pos c, q_gf_e, q_pf_e, if_neg c]
theorem knotC {u : Nat} {Mc : Mem} (h : 0 ≤ Mc (u + 10) 6 ∧ Mc (u + 10) 6 ≤ 64) : f_X1_takeKnot (u + 10) Mc = if Mc (u + 10) 6 = 64 then some (0, Mc) else some (1, up Mc (u + 10) 6 (Mc (u + 10) 6 + 1)) := by
  unfold f_X1_takeKnot
  rw [q_gf_e, w32_id (x := Mc (u + 10) 6) (by omega), w32_id (x := 64) (by omega)]
  by_cases c : Mc (u + 10) 6 = 64
  · rw [if_neg (by omega), if_pos c]
  · rw [if_pos (by omega), if_neg c, q_gf_e, q_pf_e]
theorem pushC {t : Int} {M : Mem} (h : 0 ≤ M 11 2 ∧ M 11 2 < 72) : f_X1_push t M = some (0, up (up M 385 (M 11 2) t) 11 2 (M 11 2 + 1)) := by
  unfold f_X1_push
  rw [q_gf_e, w32_id (x := M 11 2) (by omega), w32_id (x := ((72 : Nat) : Int)) (by omega), if_pos (by omega), q_gf_e, q_as_ok (by omega), q_gf_e, up_ne1 (n' := 11) (by omega), q_pf_e]
theorem goOnM {Mm : Mem} (h26 : Mm 0 26 = 0) {Mm' : Mem} (h : f_X10_token Mm = some (0, Mm')) : f_X10_goOn Mm = some (0, Mm') := by
  unfold f_X10_goOn
  rw [q_gf_e, h26, if_neg (show ¬ ¬ w32 0 = 0 by decide), h, q_call_e]
