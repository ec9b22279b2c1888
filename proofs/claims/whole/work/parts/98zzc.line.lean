/-! any line -/
theorem fullM {x : Int} {M : Mem} (hx : 0 ≤ x ∧ x ≤ 6) (h7 : 0 ≤ M 35 7 ∧ M 35 7 ≤ 8) (h8 : 0 ≤ M 35 8 ∧ M 35 8 ≤ 4) (h9 : 0 ≤ M 35 9 ∧ M 35 9 ≤ 8) : f_X10_isFull x M = some (if (x = 0 ∧ M 35 7 = 8) ∨ (x = 1 ∧ M 35 8 = 4) ∨ (x = 2 ∧ M 35 9 = 8) then 1 else 0) := by
  unfold f_X10_isFull f_X10_isFull_J14 f_X10_isFull_J28
  rw [fresherM (x := 0) (by omega), fresherM (x := 1) (by omega), fresherM (x := 2) (by omega), show (7 : Int) + 0 = 7 by rfl, show (7 : Int) + 1 = 8 by rfl, show (7 : Int) + 2 = 9 by rfl, q_calp_e, q_calp_e, q_calp_e, w32_id (x := x) (by omega), w32_id (x := M 35 7) (by omega), w32_id (x := M 35 8) (by omega), w32_id (x := M 35 9) (by omega), w32_id (x := 1) (by omega), w32_id (x := 2) (by omega), w32_id (x := 8) (by omega), w32_id (x := 4) (by omega)]
  by_cases c : (x = 0 ∧ M 35 7 = 8) ∨ (x = 1 ∧ M 35 8 = 4) ∨ (x = 2 ∧ M 35 9 = 8)
  · rw [if_pos c]
    rcases c with ⟨c1, c2⟩ | ⟨c1, c2⟩ | ⟨c1, c2⟩
    · rw [if_neg (fun z => z c1), if_pos c2]
    · rw [if_pos (by omega), if_neg (fun z => z c1), if_pos c2]
    · rw [if_pos (by omega), if_pos (by omega), if_neg (fun z => z c1), if_neg (fun z => z c2)]
  · rw [if_neg c]
    by_cases c0 : x = 0
    · rw [if_neg (fun z => z c0), if_neg (by omega), if_pos (by omega), if_pos (by omega)]
    · rw [if_pos c0]
      by_cases c1 : x = 1
      · rw [if_neg (fun z => z c1), if_neg (by omega), if_pos (by omega)]
      · rw [if_pos c1]
        by_cases c2 : x = 2
        · rw [if_neg (fun z => z c2), if_pos (by omega)]
        · rw [if_pos c2]
set_option maxHeartbeats 1000000 in
theorem lineW {u : Nat} {L : Int} {Mc Mm : Mem} (h : RLn u L Mc Mm) : ∃ r Mc' Mm', f_X4_readLine Mc = some (r, Mc') ∧ f_X10_line Mm = some (0, Mm') ∧ LWW u L Mc Mm r Mc' Mm' := by
  have hh := h
  obtain ⟨hrd, r5, r31, r30, r48⟩ := h
  obtain ⟨g1, g2, g3, g4, g5, g6, g7, g8, g9, g10⟩ := id hrd
  obtain ⟨n1, n2, n3, n4⟩ := g4.2.2.num
  obtain ⟨w1, w2, w3⟩ := g4.2.2.word
  have bad : ∀ f : Int, 1 ≤ f ∧ f ≤ 5 → LWW u L Mc Mm 0 (up (up Mc 1 4 f) 1 5 (Mm 0 23)) (flt f Mm) := fun f hf => (LWfl hrd hf).w hh
  have tc : (Mc 1 2).toNat = u := by rw [g2]; rfl
  have e16 : f_X10_line_J16 Mm = some (0, flt 1 Mm) := by
    unfold f_X10_line_J16
    rw [wrongF g5, q_call_e]
  have s8 : Mc u 0 = Mm 35 7 ∧ 0 ≤ Mm 35 7 ∧ Mm 35 7 ≤ 8 := g6.2.1
  have b4 : Mc u 7 = Mm 35 8 ∧ 0 ≤ Mm 35 8 ∧ Mm 35 8 ≤ 4 := g6.2.2.1
  have l9 : 0 ≤ Mm 35 9 ∧ Mm 35 9 ≤ 8 := ⟨g6.2.2.2.2.2.2.2.2.1.1, g6.2.2.2.2.2.2.2.2.1.2.1⟩
  obtain ⟨tok, etok⟩ : ∃ tok, Mc 10 4 = tok := ⟨_, rfl⟩
  rw [etok] at n1 n3 w1 w2 w3
  by_cases c : tok ≤ 6
  case neg =>
    have eC : f_X4_readLine Mc = some (0, up (up Mc 1 4 1) 1 5 (Mm 0 23)) := by
      unfold f_X4_readLine
      rw [q_gf_e, etok, w32_id (x := tok) (by omega), if_neg (by omega), if_neg (by omega), if_neg (by omega), if_neg (by omega), if_neg (by omega), if_neg (by omega), if_neg (by omega), refuseC g4, q_call_e, q_bit_e (.inl rfl)]
    have eL : f_X10_line Mm = some (0, flt 1 Mm) := by
      unfold f_X10_line
      rw [q_gf_e, e16, w32_id (x := Mm 0 24) (by omega)]
      by_cases c0 : Mm 0 24 = 0
      · have hv := w2 c0
        rw [if_neg (fun z => z c0), q_gf_e, w32_id (x := Mm 0 25) (by omega), w32_id (x := 6) (by omega), if_neg (by omega)]
      · rw [if_pos c0]
    exact ⟨0, _, _, eC, eL, bad 1 (by omega)⟩
  have c0 : Mm 0 24 = 0 := w1.mp (by omega)
  have hv : Mm 0 25 = tok := (w2 c0).1.symm
  have fl2 := flt_FQa (f := 2) (by omega) Mm
  have eL : f_X10_line Mm = q_calp (f_X10_isFull tok Mm) fun r4 => if w32 r4 = 0 then (if w32 tok < w32 3 then f_X10_line_J70 tok Mm else (if w32 5 < w32 tok then f_X10_line_J70 tok Mm else (q_gf Mm 0 19 fun v5 => if ¬ w32 (q_and (q_shr v5 tok) 1) = w32 1 then f_X10_line_J70 tok Mm else (q_call (f_X10_wrong 3 Mm) fun r6 M7 => f_X10_line_J70 tok M7)))) else some (0, flt 2 Mm) := by
    unfold f_X10_line
    rw [q_gf_e, w32_id (x := Mm 0 24) (by omega), if_neg (fun z => z c0), q_gf_e, hv, if_pos (show w32 tok ≤ w32 6 by rw [w32_id (x := tok) (by omega), w32_id (x := 6) (by omega)]; exact c), q_gf_e, hv, wrongF (f := 2) g5, q_call_e, q_J70 fl2]
  rw [eL, fullM (by omega) s8.2 b4.2 l9, q_calp_e]
  have ht : tok = 0 ∨ tok = 1 ∨ tok = 2 ∨ (tok = 3 ∨ tok = 4 ∨ tok = 5) ∨ tok = 6 := by omega
  rcases ht with ht | ht | ht | ht | ht
  · have eC : f_X4_readLine Mc = q_call (f_X4_readSoul Mc) fun r M => f_X4_readLine_J101 r M := by
      unfold f_X4_readLine
      rw [q_gf_e, etok, ht, if_pos (show w32 0 = 0 by decide)]
    rw [eC]
    by_cases cf : Mm 35 7 = 8
    · rw [if_pos (show (tok = 0 ∧ Mm 35 7 = 8) ∨ (tok = 1 ∧ Mm 35 8 = 4) ∨ (tok = 2 ∧ Mm 35 9 = 8) from .inl ⟨ht, cf⟩), if_neg (show ¬ w32 1 = 0 by decide)]
      unfold f_X4_readSoul
      rw [q_gr_e, tc, q_gf_e, s8.1, w32_id (x := Mm 35 7) (by omega), w32_id (x := 8) (by omega), if_neg (by omega), refuseC g4, q_call_e, q_bit_e (.inl rfl), q_call_e, j101_0]
      exact ⟨0, _, _, rfl, rfl, bad 2 (by omega)⟩
    · obtain ⟨r, Mc1, Mm1, z1, z2, z3⟩ := soulW hrd (by omega)
      obtain ⟨r', Mcf, Mmf, y1, y2, y3⟩ := z3.fin
      rw [if_neg (show ¬ ((tok = 0 ∧ Mm 35 7 = 8) ∨ (tok = 1 ∧ Mm 35 8 = 4) ∨ (tok = 2 ∧ Mm 35 9 = 8)) by omega), if_pos (show w32 0 = 0 by decide), ht, if_pos (show w32 0 < w32 3 by decide), z2, y2, z1, q_call_e, y1]
      exact ⟨r', Mcf, Mmf, rfl, rfl, y3.w hh⟩
  · have eC : f_X4_readLine Mc = q_call (f_X4_readBus Mc) fun r M => f_X4_readLine_J101 r M := by
      unfold f_X4_readLine
      rw [q_gf_e, etok, ht, if_neg (show ¬ w32 1 = 0 by decide), if_pos (show w32 1 = 1 by decide)]
    rw [eC]
    by_cases cf : Mm 35 8 = 4
    · rw [if_pos (show (tok = 0 ∧ Mm 35 7 = 8) ∨ (tok = 1 ∧ Mm 35 8 = 4) ∨ (tok = 2 ∧ Mm 35 9 = 8) from .inr (.inl ⟨ht, cf⟩)), if_neg (show ¬ w32 1 = 0 by decide)]
      unfold f_X4_readBus
      rw [q_gr_e, tc, q_gf_e, b4.1, w32_id (x := Mm 35 8) (by omega), w32_id (x := 4) (by omega), if_neg (by omega), refuseC g4, q_call_e, q_bit_e (.inl rfl), q_call_e, j101_0]
      exact ⟨0, _, _, rfl, rfl, bad 2 (by omega)⟩
    · obtain ⟨r, Mc1, Mm1, z1, z2, z3⟩ := busW hrd (by omega)
      obtain ⟨r', Mcf, Mmf, y1, y2, y3⟩ := z3.fin
      rw [if_neg (show ¬ ((tok = 0 ∧ Mm 35 7 = 8) ∨ (tok = 1 ∧ Mm 35 8 = 4) ∨ (tok = 2 ∧ Mm 35 9 = 8)) by omega), if_pos (show w32 0 = 0 by decide), ht, if_pos (show w32 1 < w32 3 by decide), z2, y2, z1, q_call_e, y1]
      exact ⟨r', Mcf, Mmf, rfl, rfl, y3.w hh⟩
  · have eC : f_X4_readLine Mc = q_call (f_X4_readLets Mc) fun r M => f_X4_readLine_J101 r M := by
      unfold f_X4_readLine
      rw [q_gf_e, etok, ht, if_neg (show ¬ w32 2 = 0 by decide), if_neg (show ¬ w32 2 = 1 by decide), if_pos (show w32 2 = 2 by decide)]
    rw [eC]
    by_cases cf : Mm 35 9 = 8
    · rw [if_pos (show (tok = 0 ∧ Mm 35 7 = 8) ∨ (tok = 1 ∧ Mm 35 8 = 4) ∨ (tok = 2 ∧ Mm 35 9 = 8) from .inr (.inr ⟨ht, cf⟩)), if_neg (show ¬ w32 1 = 0 by decide)]
      unfold f_X4_readLets
      rw [q_gr_e, tc, q_gf_e, g7, w32_id (x := Mm 35 9) (by omega), w32_id (x := 8) (by omega), if_neg (by omega), refuseC g4, q_call_e, q_bit_e (.inl rfl), q_call_e, j101_0]
      exact ⟨0, _, _, rfl, rfl, bad 2 (by omega)⟩
    · obtain ⟨r, Mc1, Mm1, z1, z2, z3⟩ := letsW hrd (by omega)
      obtain ⟨r', Mcf, Mmf, y1, y2, y3⟩ := z3.fin
      rw [if_neg (show ¬ ((tok = 0 ∧ Mm 35 7 = 8) ∨ (tok = 1 ∧ Mm 35 8 = 4) ∨ (tok = 2 ∧ Mm 35 9 = 8)) by omega), if_pos (show w32 0 = 0 by decide), ht, if_pos (show w32 2 < w32 3 by decide), z2, y2, z1, q_call_e, y1]
      exact ⟨r', Mcf, Mmf, rfl, rfl, y3.w hh⟩
  · obtain ⟨r, Mcf, Mmf, y1, y2, y3⟩ := onceW hrd ht
    have eC : f_X4_readLine Mc = q_call (f_X4_readOnce tok Mc) fun r M => f_X4_readLine_J101 r M := by
      unfold f_X4_readLine
      simp only [q_gf_e, etok]
      rcases ht with ht | ht | ht
      · rw [ht, if_neg (show ¬ w32 3 = 0 by decide), if_neg (show ¬ w32 3 = 1 by decide), if_neg (show ¬ w32 3 = 2 by decide), if_pos (show w32 3 = 3 by decide)]
      · rw [ht, if_neg (show ¬ w32 4 = 0 by decide), if_neg (show ¬ w32 4 = 1 by decide), if_neg (show ¬ w32 4 = 2 by decide), if_neg (show ¬ w32 4 = 3 by decide), if_pos (show w32 4 = 4 by decide)]
      · rw [ht, if_neg (show ¬ w32 5 = 0 by decide), if_neg (show ¬ w32 5 = 1 by decide), if_neg (show ¬ w32 5 = 2 by decide), if_neg (show ¬ w32 5 = 3 by decide), if_neg (show ¬ w32 5 = 4 by decide), if_pos (show w32 5 = 5 by decide)]
    rw [eC, y1, if_neg (show ¬ ((tok = 0 ∧ Mm 35 7 = 8) ∨ (tok = 1 ∧ Mm 35 8 = 4) ∨ (tok = 2 ∧ Mm 35 9 = 8)) by omega), if_pos (show w32 0 = 0 by decide), w32_id (x := tok) (by omega), w32_id (x := 3) (by omega), w32_id (x := 5) (by omega), if_neg (show ¬ tok < 3 by omega), if_neg (show ¬ 5 < tok by omega), q_gf_e, y2]
    exact ⟨r, Mcf, Mmf, rfl, rfl, y3.w hh⟩
  · obtain ⟨r, Mcf, Mmf, y1, y2, y3⟩ := lawW hh
    have eC : f_X4_readLine Mc = q_call (f_X4_readLaw Mc) fun r M => f_X4_readLine_J101 r M := by
      unfold f_X4_readLine
      rw [q_gf_e, etok, ht, if_neg (show ¬ w32 6 = 0 by decide), if_neg (show ¬ w32 6 = 1 by decide), if_neg (show ¬ w32 6 = 2 by decide), if_neg (show ¬ w32 6 = 3 by decide), if_neg (show ¬ w32 6 = 4 by decide), if_neg (show ¬ w32 6 = 5 by decide), if_pos (show w32 6 = 6 by decide)]
    rw [eC, y1, if_neg (show ¬ ((tok = 0 ∧ Mm 35 7 = 8) ∨ (tok = 1 ∧ Mm 35 8 = 4) ∨ (tok = 2 ∧ Mm 35 9 = 8)) by omega), if_pos (show w32 0 = 0 by decide), ht, if_neg (show ¬ w32 6 < w32 3 by decide), if_pos (show w32 5 < w32 6 by decide), y2]
    exact ⟨r, Mcf, Mmf, rfl, rfl, y3⟩
