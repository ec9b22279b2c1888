/-! lines: tokens do not touch what is being read; frames -/
theorem hv_frm {M M' : Mem} (h : ∀ n, 35 ≤ n → n ≤ 50 → M' n = M n) : ∀ n, 35 ≤ n → n ≤ 50 → hv M' n = hv M n := fun n a b => by
  funext i
  unfold hv
  rw [h 35 (by omega) (by omega), h n a b]
theorem fM7.cell {M M' : Mem} (h : fM7 M M') {n : Nat} (hn : n ≠ 0) : M' n = M n := by
  funext i
  exact h n i (by omega)
theorem fC7.cell {M M' : Mem} (h : fC7 M M') {n : Nat} (hn : n ≠ 10) : M' n = M n := by
  funext i
  exact h n i (by omega)
theorem RD.nxt {u : Nat} {L : Int} {Mc Mm Mc' Mm' : Mem} (h : RD u L Mc Mm) (hx : NXT L Mc Mm Mc' Mm') : RD u L Mc' Mm' := by
  obtain ⟨h1, h2, h3, h4, h5, h6, h7, h8, h9, h10⟩ := h
  obtain ⟨x1, x2, x3, x4, x5⟩ := hx
  refine ⟨h1, ?_, x3, x4, ?_, ?_, ?_, ?_, ?_, ?_⟩
  · rw [x1.cell (by omega), h2]
  · rw [x2 0 26 (by omega), h5]
  · exact h6.frm2 (fun n hn => x1.cell (by omega)) (hv_frm (fun n a b => x2.cell (by omega)))
  · rw [x1.cell (by omega), x2.cell (by omega), h7]
  · rw [x2.cell (by omega)]
    intro p a b
    rw [x1.cell (by omega)]
    exact h8 p a b
  · intro k a b
    rw [x1.cell (by omega), x2 0 19 (by omega), x2 0 27 (by omega)]
    exact h9 k a b
  · intro l a b
    rw [x1.cell (by omega), x1.cell (by omega), x2 0 19 (by omega)]
    exact h10 l a b
theorem fcL.refl (u : Nat) (M : Mem) : fcL u M M := fun _ _ _ _ _ _ _ _ _ _ => rfl
theorem fmL.refl (M : Mem) : fmL M M := fun _ _ _ _ _ _ _ _ _ => rfl
theorem fcL.trans {u : Nat} {M M' M'' : Mem} (h : fcL u M M') (h' : fcL u M' M'') : fcL u M M'' := fun n i a b c d e f g k => by rw [h' n i a b c d e f g k, h n i a b c d e f g k]
theorem fmL.trans {M M' M'' : Mem} (h : fmL M M') (h' : fmL M' M'') : fmL M M'' := fun n i a b c d e f g => by rw [h' n i a b c d e f g, h n i a b c d e f g]
theorem fC7.fcL {u : Nat} {M M' : Mem} (h : fC7 M M') : fcL u M M' := fun n i a _ _ _ _ _ _ _ => h n i (by omega)
theorem fM7.fmL {M M' : Mem} (h : fM7 M M') : fmL M M' := fun n i a _ _ _ _ _ _ => h n i (by omega)
/-- the end of a line: both fail, or both went on -/
def LW (u : Nat) (L : Int) (Mc Mm : Mem) (r : Int) (Mc' Mm' : Mem) : Prop := fcL u Mc Mc' ∧ fmL Mm Mm' ∧ ((r = 1 ∧ RD u L Mc' Mm' ∧ Mm' 0 20 = Mm 0 20 + 1 ∧ Mm 0 22 ≤ Mm' 0 22 ∧ (Mm' 0 24 ≠ 4 → Mm 0 22 < Mm' 0 22)) ∨ (r = 0 ∧ FQa Mm' ∧ Mc' 1 4 = Mm' 0 26 ∧ Mc' 1 5 = Mm' 0 27 ∧ in32 (Mm' 0 27)))
/-- the semicolon -/
theorem semiW {u : Nat} {L : Int} {Mc Mm : Mem} (h : RD u L Mc Mm) : ∃ r Mc' Mm', f_X4_readLine_J101 1 Mc = some (r, Mc') ∧ f_X10_line_J367 Mm = some (0, Mm') ∧ LW u L Mc Mm r Mc' Mm' := by
  have hh := h
  obtain ⟨h1, h2, h3, h4, h5, h6, h7, h8, h9, h10⟩ := h
  obtain ⟨t1, t2, t3, t4⟩ := h4.2.2.num
  have ts := h4.2.2.sgn 22 59 (by decide)
  have hp := h4.2.1
  unfold f_X4_readLine_J101 f_X10_line_J367 f_X10_line_J396 f_X10_isSign
  rw [if_pos (show ¬ w32 1 = 0 by decide), q_gf_e, w32_id (x := Mc 10 4) (by omega), w32_id (x := 22) (by omega)]
  rw [q_gf_e, h5, if_pos (show w32 0 = 0 by decide), q_gf_e, h5, if_neg (show ¬ ¬ w32 0 = 0 by decide), q_gf_e, q_gf_e, w32_id (x := Mm 0 24) (by omega), w32_id (x := 3) (by omega)]
  have flt : ∃ r Mc' Mm', (q_call (f_X4_refuse 1 Mc) fun r4 M5 => q_bit r4 (some (r4, M5))) = some (r, Mc') ∧ (q_call (f_X10_wrong 1 Mm) fun r5 M6 => q_gf M6 0 20 fun v1 => q_pf M6 0 20 (v1 + 1) fun M2 => some ((0 : Int), M2)) = some (0, Mm') ∧ LW u L Mc Mm r Mc' Mm' := by
    rw [refuseC h4, wrongM h5, q_call_e, q_call_e, q_bit_e (.inl rfl), q_gf_e, q_pf_e]
    refine ⟨0, _, _, rfl, rfl, ?_, ?_, .inr ⟨rfl, ?_, ?_, ?_, ?_⟩⟩
    · intro n i a b c d e f g k
      rw [up_ne (by omega), up_ne (by omega)]
    · intro n i a b c d e f g
      rw [up_ne (by omega), up_ne (by omega), up_ne (by omega)]
    · unfold FQa; constructor <;> simp (disch := omega) only [w32_id, q_gf_e, q_gr_e, q_pf_e, q_pz_e, q_let_e, q_call_e, q_calp_e, q_al_ok, q_as_ok, q_nz_ok, up_same, up_nei, up_ne1, Int.toNat_natCast, reduceIte, Int.reduceEq, Int.reduceLT, Int.reduceLE, Int.reduceNeg, not_true_eq_false, not_false_eq_true]
    · simp (disch := omega) only [w32_id, q_gf_e, q_gr_e, q_pf_e, q_pz_e, q_let_e, q_call_e, q_calp_e, q_al_ok, q_as_ok, q_nz_ok, up_same, up_nei, up_ne1, Int.toNat_natCast, reduceIte, Int.reduceEq, Int.reduceLT, Int.reduceLE, Int.reduceNeg, not_true_eq_false, not_false_eq_true]
    · simp (disch := omega) only [w32_id, q_gf_e, q_gr_e, q_pf_e, q_pz_e, q_let_e, q_call_e, q_calp_e, q_al_ok, q_as_ok, q_nz_ok, up_same, up_nei, up_ne1, Int.toNat_natCast, reduceIte, Int.reduceEq, Int.reduceLT, Int.reduceLE, Int.reduceNeg, not_true_eq_false, not_false_eq_true]
    · unfold in32; simp (disch := omega) only [w32_id, q_gf_e, q_gr_e, q_pf_e, q_pz_e, q_let_e, q_call_e, q_calp_e, q_al_ok, q_as_ok, q_nz_ok, up_same, up_nei, up_ne1, Int.toNat_natCast, reduceIte, Int.reduceEq, Int.reduceLT, Int.reduceLE, Int.reduceNeg, not_true_eq_false, not_false_eq_true]; omega
  by_cases c : Mm 0 24 = 3
  · rw [if_neg (show ¬ ¬ Mm 0 24 = 3 from fun h => h c)]
    have hv : -2147483648 ≤ Mm 0 25 ∧ Mm 0 25 < 2147483648 := by
      rcases h4.2.2 with ⟨a, b⟩ | ⟨a, b⟩ | ⟨a, b⟩ | ⟨a, b⟩ | ⟨a, b⟩ | ⟨a, b⟩ <;> first | omega | (simp [SGS] at b; omega)
    rw [w32_id (x := Mm 0 25) hv, w32_id (x := 59) (by omega)]
    by_cases c1 : Mm 0 25 = 59
    · rw [if_neg (show ¬ ¬ Mm 0 25 = 59 from fun h => h c1), q_calp_e, if_pos (show ¬ w32 1 = 0 by decide), if_pos (ts.mpr ⟨c, c1⟩)]
      obtain ⟨Mc', Mm', p1, p2, p3, p4, p5⟩ := NXT.of2 h3
      rw [p1, p2, q_call_e, q_call_e, q_gf_e, q_pf_e]
      have hr := hh.nxt p3
      refine ⟨1, _, _, rfl, rfl, p3.1.fcL, p3.2.1.fmL.trans (fun n i a b c d e f g => up_ne (by omega)), .inl ⟨rfl, ?_, ?_, ?_, ?_⟩⟩
      · obtain ⟨g1, g2, g3, g4, g5, g6, g7, g8, g9, g10⟩ := hr
        have ec : ∀ n, n ≠ 0 → up Mm' 0 20 (Mm' 0 20 + 1) n = Mm' n := fun n hn => up_ne1 hn
        refine ⟨g1, g2, ?_, ?_, ?_, g6.frm2 (fun _ _ => rfl) (hv_frm (fun n a b => ec n (by omega))), ?_, ?_, ?_, ?_⟩
        · unfold TB BY at *; rw [ec 33 (by omega), up_nei (by omega), up_nei (by omega)]; exact g3
        · unfold TKN at *; rw [up_nei (by omega), up_nei (by omega), up_nei (by omega)]; exact g4
        · rw [up_nei (by omega), g5]
        · rw [ec 35 (by omega), g7]
        · rw [ec 35 (by omega)]; exact g8
        · rw [up_nei (by omega), up_nei (by omega)]; exact g9
        · rw [up_nei (by omega)]; exact g10
      · rw [up_same, p3.2.1 0 20 (by omega)]
      · rw [up_nei (by omega)]; exact p3.2.2.2.2
      · rw [up_nei (by omega), up_nei (by omega)]; exact p5
    · rw [if_pos c1, q_calp_e, if_neg (show ¬ ¬ w32 0 = 0 by decide), if_neg (fun h => c1 (ts.mp h).2)]
      exact flt
  · rw [if_pos c, q_calp_e, if_neg (show ¬ ¬ w32 0 = 0 by decide), if_neg (fun h => c (ts.mp h).1)]
    exact flt
