/-! the law: outcomes; the primary: a number or a name -/
def NTK (lt : Int) (Mc Mm : Mem) : Prop := 1 ≤ lvl (Mc 10 4) → Mc 10 4 ≠ 12 → lvl (Mc 10 4) < lt ∨ (lvl (Mc 10 4) = 4 ∧ Mc 388 (Mm 0 30) = 1)
def OG (u : Nat) (L a s D lo lt dd i : Int) (Mc Mm Mm' : Mem) : Prop := ∃ j Mc', CR u i Mc j Mc' ∧ SS u L a s (D + 1) lo j Mc' Mm' ∧ Mm' 0 30 = Mm 0 30 ∧ Mm 0 31 ≤ Mm' 0 31 ∧ feC u a s (Mm 0 30 + dd) Mc Mc' ∧ feM a Mm Mm' ∧ NTK lt Mc' Mm'
def OUT (u : Nat) (L a s D lo lt dd i : Int) (Mc Mm Mm' : Mem) : Prop := OG u L a s D lo lt dd i Mc Mm Mm' ∨ FX u a i Mc Mm Mm'
def PF (top : Bool) (Mc Mm : Mem) : Prop := (top = true → Mc 11 6 = 1 ∧ Mc 388 (Mm 0 30) = 0) ∧ (top = false → Mc 11 6 = 0 ∨ Mc 10 4 ≠ 12)
def EW (F : Mem → Res) (top : Bool) (lr lo lt dd B : Int) : Prop := ∀ u L a s D i Mc Mm, VS u L a s D i Mc Mm → TL s lr Mc → PF top Mc Mm → 7 * (8 - Mm 0 30) + (64 - Mm 0 31) ≤ B → ∃ Mm', F Mm = some (0, Mm') ∧ OUT u L a s D lo lt dd i Mc Mm Mm'
def QF (F : Mem → Res) : Prop := ∀ M, FQa M → F M = some (0, M)
theorem TKR.sg {tok wor srt val : Int} (h : TKR tok wor srt val) : -2147483648 ≤ val ∧ val < 2147483648 ∨ srt = 4 ∨ srt = 5 := by
  rcases h with ⟨a, b⟩ | ⟨a, b⟩ | ⟨a, b⟩ | ⟨a, b⟩ | ⟨a, b⟩ | ⟨a, b⟩
  · left; omega
  · left; omega
  · left; omega
  · left; simp [SGS] at b; omega
  · right; left; exact a
  · right; right; exact a
theorem isSignM {t v : Int} {Mc Mm : Mem} (hk : TKN Mc Mm) (h26 : Mm 0 26 = 0) (hm : (t, v) ∈ SGS) : f_X10_isSign v Mm = some (if Mc 10 4 = t then 1 else 0) := by
  have ts := hk.2.2.sgn t v hm
  obtain ⟨t1, t2, t3, t4⟩ := hk.2.2.num
  have hv : -2147483648 ≤ v ∧ v < 2147483648 := by simp [SGS] at hm; omega
  unfold f_X10_isSign
  rw [q_gf_e, h26, if_neg (show ¬ ¬ w32 0 = 0 by decide), q_gf_e, w32_id (x := Mm 0 24) (by omega), w32_id (x := 3) (by omega)]
  by_cases c : Mm 0 24 = 3
  · have hr := hk.2.2.sg
    rw [if_neg (fun z => z c), q_gf_e, w32_id (x := Mm 0 25) (by omega), w32_id hv]
    by_cases c2 : Mm 0 25 = v
    · rw [if_neg (fun z => z c2), if_pos (ts.mpr ⟨c, c2⟩)]
    · rw [if_pos c2, if_neg (fun z => c2 (ts.mp z).2)]
  · rw [if_pos c, if_neg (fun z => c (ts.mp z).1)]
theorem isWordM {t : Int} {Mc Mm : Mem} (hk : TKN Mc Mm) (h26 : Mm 0 26 = 0) (ht : 0 ≤ t ∧ t < 20) : f_X10_isWord t Mm = some (if Mc 10 4 = t then 1 else 0) := by
  obtain ⟨w1, w2, w3⟩ := hk.2.2.word
  obtain ⟨t1, t2, t3, t4⟩ := hk.2.2.num
  unfold f_X10_isWord
  rw [q_gf_e, h26, if_neg (show ¬ ¬ w32 0 = 0 by decide), q_gf_e, w32_id (x := Mm 0 24) (by omega)]
  by_cases c : Mm 0 24 = 0
  · have := w2 c
    rw [if_neg (fun z => z c), q_gf_e, w32_id (x := Mm 0 25) (by omega), w32_id (x := t) (by omega)]
    by_cases c2 : Mm 0 25 = t
    · rw [if_neg (fun z => z c2), if_pos (by omega)]
    · rw [if_pos c2, if_neg (by omega)]
  · rw [if_pos c, if_neg (fun z => by omega)]
theorem VS.ss {u : Nat} {L a s D i : Int} {Mc Mm : Mem} (h : VS u L a s D i Mc Mm) : LX u L i Mc Mm ∧ LK u a s D 7 Mc Mm := by
  obtain ⟨h1, h2, h3, h4⟩ := h
  obtain ⟨b1, b2, b3, b4, b5, b6, b7, b8⟩ := h2
  exact ⟨h1, b1, b2, b3, b4, b5, b6, fun q p1 p2 => by omega, b8⟩
/-- the program puts a value -/
theorem valueC {u : Nat} {L a s D i x : Int} {Mc Mm : Mem} (h : VS u L a s D i Mc Mm) (ht : (Mc 10 4 = 21 ∧ Mc 10 6 ≤ 9999 ∧ 0 ≤ Mc 10 6 ∧ x = Mc 10 6) ∨ (13 ≤ Mc 10 4 ∧ Mc 10 4 ≤ 19 ∧ x = 0)) (hk : Mm 0 31 < 64) : f_X1_takeValue (u + 10) Mc = some (0, up (up (up (up (up Mc (u + 10) 6 (Mm 0 31 + 1)) (32 * (u + 11)) (Mm 35 13) (Mc 10 4)) (32 * (u + 11) + 1) (Mm 35 13) x) (u + 10) 5 (Mm 35 13 + 1)) 11 5 0) := by
  obtain ⟨hx, hlk, h5, h6⟩ := h
  obtain ⟨x0, x1, x2, x3, x4, x5, x6, x7, x8⟩ := id hx
  obtain ⟨b1, b2, b3, b4, b5, b6, b7, b8⟩ := hlk
  have e5 : (up Mc (u + 10) 6 (Mm 0 31 + 1)) (u + 10) 5 = Mm 35 13 := by rw [up_nei (by omega), h5]
  have fin : ∀ y : Int, f_X1_takeValue_J117 (u + 10) y (Mc 10 4) (up Mc (u + 10) 6 (Mm 0 31 + 1)) = some (0, up (up (up (up (up Mc (u + 10) 6 (Mm 0 31 + 1)) (32 * (u + 11)) (Mm 35 13) (Mc 10 4)) (32 * (u + 11) + 1) (Mm 35 13) y) (u + 10) 5 (Mm 35 13 + 1)) 11 5 0) := by
    intro y
    unfold f_X1_takeValue_J117
    rw [put2C (by rw [e5]; omega) (by omega), q_call_e, q_pz_e (.inl rfl), e5]
  have kn : f_X1_takeKnot (u + 10) Mc = some (1, up Mc (u + 10) 6 (Mm 0 31 + 1)) := by
    rw [knotC (by omega), if_neg (by omega), x5.1]
  unfold f_X1_takeValue f_X1_takeValue_J50 f_X1_takeValue_J70 f_X1_takeValue_J89
  rw [q_gf_e]
  rcases ht with ⟨q1, q2, q3, q4⟩ | ⟨q1, q2, q3⟩
  · have e10 : (up Mc (u + 10) 6 (Mm 0 31 + 1)) 10 6 = Mc 10 6 := by rw [up_ne1 (by omega)]
    rw [← q4] at e10 q2 q3
    rw [q1] at fin ⊢
    rw [if_pos (show ¬ w32 21 = w32 23 by decide), if_pos (show ¬ w32 21 = w32 12 by decide), if_pos (show w32 21 = w32 21 from rfl), if_neg (show ¬ ¬ w32 21 = w32 21 from fun z => z rfl), q_gf_e, ← q4, w32_id (x := 9999) (by omega), w32_id (x := x) (by omega), if_neg (by omega), kn, q_call_e, if_pos (show ¬ w32 1 = 0 by decide), q_gf_e, e10, if_neg (fun z => z rfl)]
    exact fin x
  · obtain ⟨tok, etok⟩ : ∃ tok, tok = Mc 10 4 := ⟨_, rfl⟩
    rw [← etok] at fin q1 q2 ⊢
    rw [w32_id (x := tok) (by omega), w32_id (x := 23) (by omega), w32_id (x := 12) (by omega), w32_id (x := 21) (by omega), w32_id (x := 13) (by omega), w32_id (x := 19) (by omega), if_pos (by omega), if_pos (by omega), if_neg (by omega), if_neg (by omega), if_pos (by omega), if_pos (by omega), kn, q_call_e, if_pos (show ¬ w32 1 = 0 by decide), if_pos (by omega), q3]
    exact fin 0
set_option maxHeartbeats 1000000 in
/-- a value of both sides -/
theorem valW {u : Nat} {L a s D i x t v : Int} {Mc Mm : Mem} (h : VS u L a s D i Mc Mm) (ht : (Mc 10 4 = 21 ∧ Mc 10 6 ≤ 9999 ∧ 0 ≤ Mc 10 6 ∧ x = Mc 10 6) ∨ (13 ≤ Mc 10 4 ∧ Mc 10 4 ≤ 19 ∧ x = 0)) (hk : Mm 0 31 < 64) (tk : TK (Mc 10 4) x t v) (t2 : t ≠ 2) : ∃ Mm', (q_call (f_X10_puts t v (up Mm 0 31 (Mm 0 31 + 1))) fun _ M2 => q_call (f_X10_goOn M2) fun _ M4 => some ((0 : Int), M4)) = some (0, Mm') ∧ OG u L a s D 7 7 1 i Mc Mm Mm' := by
  have hC := valueC h ht hk
  have hst := stV h.1 h.2.2.2
  obtain ⟨hx, hlk, h5, h6⟩ := h
  obtain ⟨x0, x1, x2, x3, x4, x5, x6, x7, x8⟩ := id hx
  obtain ⟨b1, b2, b3, b4, b5, b6, b7, b8⟩ := hlk
  obtain ⟨tt1, tt2, tt3, tt4⟩ := x2.2.2.num
  have hnend : Mm 0 24 ≠ 4 := fun z => by have := x2.2.2.word.2.2.mpr z; omega
  obtain ⟨N, hN⟩ : ∃ N, N = up (up (up (up (up Mc (u + 10) 6 (Mm 0 31 + 1)) (32 * (u + 11)) (Mm 35 13) (Mc 10 4)) (32 * (u + 11) + 1) (Mm 35 13) x) (u + 10) 5 (Mm 35 13 + 1)) 11 5 0 := ⟨_, rfl⟩
  rw [← hN] at hC
  have e35 : up Mm 0 31 (Mm 0 31 + 1) 35 = Mm 35 := up_ne1 (by omega)
  have e26 : up Mm 0 31 (Mm 0 31 + 1) 0 26 = 0 := by rw [up_nei (by omega), x3]
  rw [putsM e26 (by rw [e35]; omega), e35, q_call_e]
  obtain ⟨O, hO⟩ : ∃ O, O = up (up (up (up Mm 0 31 (Mm 0 31 + 1)) 49 (64 + Mm 35 13) t) 50 (64 + Mm 35 13) v) 35 13 (Mm 35 13 + 1) := ⟨_, rfl⟩
  rw [← hO]
  have o31 : O 0 31 = Mm 0 31 + 1 := by rw [hO, up_ne1 (by omega), up_ne1 (by omega), up_ne1 (by omega), up_same]
  have o0 : ∀ j, j ≠ 31 → O 0 j = Mm 0 j := fun j hj => by rw [hO, up_ne1 (by omega), up_ne1 (by omega), up_ne1 (by omega), up_nei hj]
  have o33 : O 33 = Mm 33 := by rw [hO, up_ne1 (by omega), up_ne1 (by omega), up_ne1 (by omega), up_ne1 (by omega)]
  have o35 : O 35 13 = Mm 35 13 + 1 := by rw [hO, up_same]
  have o49 : ∀ j, O 49 j = if j = 64 + Mm 35 13 then t else Mm 49 j := fun j => by
    rw [hO, up_ne1 (by omega), up_ne1 (by omega)]
    split
    · next z => rw [z, up_same]
    · next z => rw [up_nei z, up_ne1 (by omega)]
  have o50 : ∀ j, O 50 j = if j = 64 + Mm 35 13 then v else Mm 50 j := fun j => by
    rw [hO, up_ne1 (by omega)]
    split
    · next z => rw [z, up_same]
    · next z => rw [up_nei z, up_ne1 (by omega), up_ne1 (by omega)]
  have nc : ∀ n : Nat, n ≠ 11 → n ≠ u + 10 → n ≠ 32 * (u + 11) → n ≠ 32 * (u + 11) + 1 → N n = Mc n := fun n p1 p2 p3 p4 => by
    rw [hN, up_ne1 p1, up_ne1 p2, up_ne1 p4, up_ne1 p3, up_ne1 p2]
  have n11 : ∀ j, j ≠ 5 → N 11 j = Mc 11 j := fun j p => by
    rw [hN, up_nei p, up_ne1 (by omega), up_ne1 (by omega), up_ne1 (by omega), up_ne1 (by omega)]
  have n5 : N 11 5 = 0 := by rw [hN, up_same]
  have k5 : N (u + 10) 5 = Mm 35 13 + 1 := by rw [hN, up_ne1 (by omega), up_same]
  have k6 : N (u + 10) 6 = Mm 0 31 + 1 := by rw [hN, up_ne1 (by omega), up_nei (by omega), up_ne1 (by omega), up_ne1 (by omega), up_same]
  have na : ∀ j, N (32 * (u + 11)) j = if j = Mm 35 13 then Mc 10 4 else Mc (32 * (u + 11)) j := fun j => by
    rw [hN, up_ne1 (by omega), up_ne1 (by omega), up_ne1 (by omega)]
    split
    · next z => rw [z, up_same]
    · next z => rw [up_nei z, up_ne1 (by omega)]
  have nb : ∀ j, N (32 * (u + 11) + 1) j = if j = Mm 35 13 then x else Mc (32 * (u + 11) + 1) j := fun j => by
    rw [hN, up_ne1 (by omega), up_ne1 (by omega)]
    split
    · next z => rw [z, up_same]
    · next z => rw [up_nei z, up_ne1 (by omega), up_ne1 (by omega)]
  have nk : ∀ j, j ≠ 5 → j ≠ 6 → N (u + 10) j = Mc (u + 10) j := fun j p q => by
    rw [hN, up_ne1 (by omega), up_nei p, up_ne1 (by omega), up_ne1 (by omega), up_nei q]
  clear hN
  have hxN : LX u L i N O := by
    refine hx.chg (nc 10 (by omega) (by omega) (by omega) (by omega)) (nc 32 (by omega) (by omega) (by omega) (by omega)) (nc 352 (by omega) (by omega) (by omega) (by omega)) o33 (fun j p1 p2 => o0 j (by omega)) ?_ ?_ ?_ ?_
    · rw [n11 3 (by omega), o0 30 (by omega)]; exact x4
    · rw [k6, o31]; omega
    · rw [n11 6 (by omega)]; exact x7
    · rw [o0 30 (by omega), nc 388 (by omega) (by omega) (by omega) (by omega)]; exact x8
  have hlN : LK u a s (D + 1) 7 N O := by
    refine ⟨by omega, by rw [o35]; omega, by rw [n11 2 (by omega), o35]; omega, by rw [o0 30 (by omega)]; exact b4, by rw [o35, o0 30 (by omega), o31]; omega, ?_, ?_, ?_⟩
    · intro j p1 p2
      rw [na, nb, o49, o50]
      by_cases c : j = Mm 35 13
      · rw [if_pos c, if_pos c, if_pos (by omega), if_pos (by omega)]; exact tk
      · rw [if_neg c, if_neg c, if_neg (by omega), if_neg (by omega)]; exact b6 j p1 (by omega)
    · intro q p1 p2
      rw [o35] at p2
      omega
    · rw [o35]
      have := b8.add (R' := fun j => O 49 (64 + j)) (V' := fun j => O 50 (64 + j)) (t := t) (v := v) (by omega) (fun j p1 p2 => ⟨by show O 49 (64 + j) = _; rw [o49, if_neg (by omega)], by show O 50 (64 + j) = _; rw [o50, if_neg (by omega)]⟩) (by show O 49 _ = _; rw [o49, if_pos rfl]) (by show O 50 _ = _; rw [o50, if_pos rfl]) (fun z => absurd z t2)
      rw [if_neg t2] at this
      exact this
  obtain ⟨Mc', Mm', a1, a2, a3, a4, a5⟩ := hxN.adv (by rw [o0 24 (by omega)]; exact hnend)
  rw [goOnM (by rw [o0 26 (by omega), x3]) a2, q_call_e]
  refine ⟨Mm', rfl, i + 1, Mc', CR.one (hxN.mon (nc 10 (by omega) (by omega) (by omega) (by omega)) a1) (fun n => ?_), ⟨a3, hlN.frm x0 a4 a5, ?_⟩, ?_, ?_, ?_, ?_, ?_⟩
  · rw [hst n, hC, q_call_e, j90_0, a1, q_call_e]
  · rw [a4.cell (by omega), n5]
  · rw [a5 0 30 (by omega), o0 30 (by omega)]
  · rw [a5 0 31 (by omega), o31]; omega
  · refine feC.trans ?_ a4.fe
    intro n j p1 p2 p3 p4 p5 p6
    by_cases c : n = u + 10
    · subst c
      by_cases c5 : j = 5
      · omega
      · by_cases c6 : j = 6
        · omega
        · exact nk j c5 c6
    · by_cases ca : n = 32 * (u + 11)
      · subst ca; rw [na, if_neg (by omega)]
      · by_cases cb : n = 32 * (u + 11) + 1
        · subst cb; rw [nb, if_neg (by omega)]
        · rw [nc n p2 c ca cb]
  · refine feM.trans ?_ a5.fe
    intro n j p1 p2 p3
    rw [hO, up_ne (by omega), up_ne (by omega), up_ne (by omega), up_ne (by omega)]
  · intro q1 q2
    left
    have := (lvl_rng (Mc' 10 4)).2
    omega
