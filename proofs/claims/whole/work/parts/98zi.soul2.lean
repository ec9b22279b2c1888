/-! lines: outcomes of the steps of a line -/
theorem hv35 (M : Mem) (i : Int) : hv M 35 i = M 35 (7 + i) := rfl
theorem NXT.wM {L : Int} {Mc Mm Mc' Mm' : Mem} (h : NXT L Mc Mm Mc' Mm') : (∀ n, n ≠ 10 → Mc' n = Mc n) ∧ (∀ m, m ≠ 0 → Mm' m = Mm m) ∧ Mm' 0 20 = Mm 0 20 ∧ Mm' 0 19 = Mm 0 19 ∧ Mm 0 22 ≤ Mm' 0 22 := ⟨fun _ hn => h.1.cell hn, fun _ hn => h.2.1.cell hn, h.2.1 0 20 (by omega), h.2.1 0 19 (by omega), h.2.2.2.2⟩
def SG (u n m : Nat) (L S o v : Int) (Mc Mm Mc' Mm' : Mem) : Prop := RD u L Mc' (up Mm' m (o + S) v) ∧ Mc' n S = v ∧ (∀ n', n' ≠ 10 → n' ≠ n → Mc' n' = Mc n') ∧ (∀ m', m' ≠ 0 → Mm' m' = Mm m') ∧ Mm' 0 20 = Mm 0 20 ∧ Mm 0 22 ≤ Mm' 0 22 ∧ fcL u Mc Mc' ∧ fmL Mm (up Mm' m (o + S) v)
theorem SG.of {u n m l0 : Nat} {L S o v : Int} {Mc Mm Mc' Mm' : Mem} (h : RD u L Mc Mm) (hw : WRT u n m S o l0 (hv Mm)) (hx : NXT L (up Mc n S v) Mm Mc' Mm') : SG u n m L S o v Mc Mm Mc' Mm' := by
  have hw' := hw
  unfold WRT at hw'
  have hs : 0 ≤ S := by
    obtain ⟨g1, g2, g3, g4, g5, g6, g7, g8, g9, g10⟩ := h
    rcases hw' with ⟨a, _⟩ | ⟨a, _⟩
    · rw [a]; exact g6.2.1.2.1
    · rw [a]; exact g6.2.2.1.2.1
  obtain ⟨a1, a2, a3, a4, a5⟩ := hx.wM
  refine ⟨(h.wr hw).nxt (hx.upM (by omega)), ?_, ?_, a2, a3, a5, ?_, ?_⟩
  · rw [a1 n (by rcases h.1 with rfl | rfl <;> omega), up_same]
  · intro n' b c
    rw [a1 n' b, up_ne1 c]
  · exact fcL.trans (fun n i a b c d e f g k => up_ne (by rcases h.1 with rfl | rfl <;> omega)) hx.1.fcL
  · exact hx.2.1.fmL.trans (fun n i a b c d e f g => up_ne (by omega))
theorem stepN {u n m l0 : Nat} {L S o lo hi : Int} {Mc Mm : Mem} (h : RD u L Mc Mm) (hw : WRT u n m S o l0 (hv Mm)) (hl : 0 ≤ lo ∧ lo ≤ hi ∧ hi ≤ 99999) : ∃ r v Mc' Mm', f_X4_readNumber n l0 S lo hi Mc = some (r, Mc') ∧ f_X10_numeral lo hi Mm = some (v, Mm') ∧ ((r = 1 ∧ (lo ≤ v ∧ v ≤ hi) ∧ SG u n m L S o v Mc Mm Mc' Mm') ∨ (r = 0 ∧ FQa Mm' ∧ LW u L Mc Mm 0 Mc' Mm')) := by
  have hw' := hw
  unfold WRT at hw'
  have hs : 0 ≤ S := by
    obtain ⟨g1, g2, g3, g4, g5, g6, g7, g8, g9, g10⟩ := id h
    rcases hw' with ⟨a, _⟩ | ⟨a, _⟩
    · rw [a]; exact g6.2.1.2.1
    · rw [a]; exact g6.2.2.1.2.1
  have hu := h.1
  obtain ⟨r, v, Mc', Mm', p1, p2, p3⟩ := rnumW (n0 := n) (l0 := l0) (a1 := S) (lo := lo) (hi := hi) h.2.2.1 h.2.2.2.1 h.2.2.2.2.1 (by omega) (by omega) hl
  refine ⟨r, v, Mc', Mm', p1, p2, ?_⟩
  rcases p3 with ⟨a, b, c, d, e⟩ | ⟨a, b, f, c⟩
  · exact .inl ⟨a, ⟨b, c⟩, SG.of h hw d⟩
  · refine .inr ⟨a, ?_, LW.flt h.2.2.2.1 c⟩
    obtain ⟨c1, c2, c3⟩ := c
    rw [c3]; unfold FQa; rw [up_nei (by omega), up_same]; exact c1
theorem stepW {u n m l0 k0 : Nat} {L S o : Int} {Mc Mm : Mem} (h : RD u L Mc Mm) (hw : WRT u n m S o l0 (hv Mm)) (hn : (n = 32 * (u + 1) + 1 ∧ m = 36 ∧ k0 = 16) ∨ (n = 32 * (u + 1) + 8 ∧ m = 40 ∧ k0 = 8)) : ∃ r v Mc' Mm', f_X4_readNewName n l0 S Mc = some (r, Mc') ∧ f_X10_fresh m k0 o S Mm = some (v, Mm') ∧ ((r = 1 ∧ in32 v ∧ SG u n m L S o v Mc Mm Mc' Mm') ∨ (r = 0 ∧ FQa Mm' ∧ LW u L Mc Mm 0 Mc' Mm')) := by
  have hw' := hw
  unfold WRT at hw'
  have hs : 0 ≤ S := by
    obtain ⟨g1, g2, g3, g4, g5, g6, g7, g8, g9, g10⟩ := id h
    rcases hw' with ⟨a, _⟩ | ⟨a, _⟩
    · rw [a]; exact g6.2.1.2.1
    · rw [a]; exact g6.2.2.1.2.1
  have hu := h.1
  have he : ∀ j, 0 ≤ j → j < S → Mc n j = Mm m (o + j) ∧ in32 (Mm m (o + j)) := by
    obtain ⟨g1, g2, g3, g4, g5, g6, g7, g8, g9, g10⟩ := id h
    obtain ⟨h1, h2, h3, h4, h5, h6, h7, h8, h9, h10, h11⟩ := g6
    intro j a b
    rcases hw' with ⟨w1, w2, w3, w4, w5, w6, w7, w8⟩ | ⟨w1, w2, w3, w4, w5, w6, w7, w8⟩
    · rcases hn with ⟨rfl, rfl, rfl⟩ | ⟨rfl, rfl, rfl⟩
      · subst w7
        exact (h8 j a (by omega)).1
      · omega
    · rcases hn with ⟨rfl, rfl, rfl⟩ | ⟨rfl, rfl, rfl⟩
      · omega
      · subst w7
        exact (h10 j a (by omega)).1
  obtain ⟨r, v, Mc', Mm', p1, p2, p3⟩ := newW (n0 := n) (l0 := l0) (m0 := m) (k0 := k0) (a1 := S) (off := o) h.2.2.1 h.2.2.2.1 h.2.2.2.2.1 (by omega) (by omega) (by omega) he
  refine ⟨r, v, Mc', Mm', p1, p2, ?_⟩
  rcases p3 with ⟨a, b, d, e⟩ | ⟨a, b, f, c⟩
  · exact .inl ⟨a, b, SG.of h hw d⟩
  · refine .inr ⟨a, ?_, LW.flt h.2.2.2.1 c⟩
    obtain ⟨c1, c2, c3⟩ := c
    rw [c3]; unfold FQa; rw [up_nei (by omega), up_same]; exact c1
/-- a mark that the program doesn't keep -/
theorem RD.mark0 {u : Nat} {L x : Int} {Mc Mm : Mem} (h : RD u L Mc Mm) (hx : (0 ≤ x ∧ x ≤ 2) ∨ x = 6) : RD u L Mc (up Mm 0 19 (q_or (Mm 0 19) (q_shl 1 x))) := by
  obtain ⟨g1, g2, g3, g4, g5, g6, g7, g8, g9, g10⟩ := h
  have em : ∀ n, n ≠ 0 → up Mm 0 19 (q_or (Mm 0 19) (q_shl 1 x)) n = Mm n := fun n hn => up_ne1 hn
  refine ⟨g1, g2, ?_, ?_, ?_, g6.frm2 (fun n hn => rfl) (hv_frm (fun n a b => em n (by omega))), ?_, ?_, ?_, ?_⟩
  · unfold TB BY at *; rw [em 33 (by omega), up_nei (by omega), up_nei (by omega)]; exact g3
  · unfold TKN at *; rw [up_nei (by omega), up_nei (by omega), up_nei (by omega)]; exact g4
  · rw [up_nei (by omega), g5]
  · rw [em 35 (by omega), g7]
  · rw [em 35 (by omega)]; exact g8
  · intro k a b
    rw [up_same, up_nei (n := 0) (i := 19) (i' := 27) (by omega), Bt_or, Bt_shl (by omega) (by omega), decide_eq_false (by omega), Bool.or_false]
    exact g9 k a b
  · intro l a b
    rw [up_same, Bt_or, Bt_shl (by omega) (by omega), decide_eq_false (by omega), Bool.or_false]
    exact g10 l a b
/-- both went on, or both failed -/
def GB (u : Nat) (L : Int) (Mc Mm : Mem) (r : Int) (Mc' Mm' : Mem) : Prop := (r = 1 ∧ RD u L Mc' Mm' ∧ fcL u Mc Mc' ∧ fmL Mm Mm' ∧ Mm' 0 20 = Mm 0 20 ∧ Mm 0 22 ≤ Mm' 0 22) ∨ (r = 0 ∧ LW u L Mc Mm 0 Mc' Mm')
theorem LW.fqa {u : Nat} {L : Int} {Mc Mm Mc' Mm' : Mem} (h : LW u L Mc Mm 0 Mc' Mm') : FQa Mm' := by
  obtain ⟨_, _, h3⟩ := h
  rcases h3 with ⟨a, _⟩ | ⟨_, b, _⟩
  · omega
  · exact b
theorem GB.fin {u : Nat} {L r : Int} {Mc Mm Mc' Mm' : Mem} (h : GB u L Mc Mm r Mc' Mm') : ∃ r' Mcf Mmf, f_X4_readLine_J101 r Mc' = some (r', Mcf) ∧ f_X10_line_J367 Mm' = some (0, Mmf) ∧ LW u L Mc Mm r' Mcf Mmf := by
  rcases h with ⟨rfl, b, c, d, e, f⟩ | ⟨rfl, b⟩
  · obtain ⟨r', Mcf, Mmf, z1, z2, z3⟩ := semiW b
    exact ⟨r', Mcf, Mmf, z1, z2, z3.pre c d e f⟩
  · exact ⟨0, Mc', Mm', j101_0 _, q_J367 b.fqa, b⟩
theorem LW.wr {u m : Nat} {L i v : Int} {Mc Mm Mc' Mm' : Mem} (h : LW u L Mc Mm 0 Mc' Mm') (hm : (36 ≤ m ∧ m ≤ 39 ∧ 8 ≤ i) ∨ (40 ≤ m ∧ m ≤ 44 ∧ 4 ≤ i) ∨ (m = 35 ∧ 7 ≤ i ∧ i ≠ 13) ∨ ((m = 45 ∨ m = 46) ∧ 8 ≤ i)) : LW u L Mc Mm 0 Mc' (up Mm' m i v) := h.more (fun n j a b c d e f g => up_ne (by omega)) (up_ne1 (by omega))
