/-! tokens: one step of both sides -/
theorem sg_eq {x x' y y' : Int} (h : isSg x ∨ ¬ isSg x) (hx : 0 ≤ x ∧ x < 256) (hx' : x' = (if x < 128 then x else x - 256)) (hy1 : y' = 61 ↔ y = 61) (hy2 : y' = 62 ↔ y = 62) : ((isSg x → (sgT x' y', sgV x y) ∈ SGS) ∧ (¬ isSg x → sgT x' y' = 36)) ∧ ((sgT x' y' = 30 ∨ sgT x' y' = 32 ∨ sgT x' y' = 33) ↔ 256 ≤ sgV x y) := by
  by_cases hs : isSg x
  · have ex : x' = x := by rw [hx', if_pos]; unfold isSg at hs; omega
    rw [ex]
    refine ⟨⟨fun _ => ?_, fun h => absurd hs h⟩, ?_⟩
    · unfold isSg at hs
      unfold sgT sgV
      rcases hs with c | c | c | c | c | c | c | c | c | c <;> subst c <;> by_cases c1 : y = 61 <;> by_cases c2 : y = 62 <;> simp [SGS, c1, c2, hy1, hy2]
    · unfold isSg at hs
      unfold sgT sgV
      rcases hs with c | c | c | c | c | c | c | c | c | c <;> subst c <;> by_cases c1 : y = 61 <;> by_cases c2 : y = 62 <;> simp [c1, c2, hy1, hy2]
  · unfold isSg at hs
    have e1 : sgT x' y' = 36 := by
      unfold sgT
      split at hx' <;> rw [if_neg (by omega), if_neg (by omega), if_neg (by omega), if_neg (by omega), if_neg (by omega), if_neg (by omega), if_neg (by omega), if_neg (by omega), if_neg (by omega), if_neg (by omega)]
    have e2 : sgV x y = x := by unfold sgV; rw [if_neg (by omega), if_neg (by omega), if_neg (by omega)]
    refine ⟨⟨fun h => absurd h hs, fun _ => e1⟩, ?_⟩
    rw [e1, e2]
    omega
/-- what both know of the tokens -/
def TB (L : Int) (Mc Mm : Mem) : Prop := BY L Mc Mm ∧ (∀ i, 0 ≤ i → i < 20 → Mc 352 i = tokR i) ∧ Mc 10 2 = L ∧ Mm 0 21 = L ∧ Mc 10 3 = Mm 0 22 ∧ 0 ≤ Mm 0 22 ∧ Mm 0 22 ≤ L
def TKN (Mc Mm : Mem) : Prop := Mc 10 5 = Mm 0 23 ∧ (0 ≤ Mm 0 23 ∧ Mm 0 23 ≤ 700) ∧ TKR (Mc 10 4) (Mc 10 6) (Mm 0 24) (Mm 0 25)
def fC7 (M M' : Mem) : Prop := ∀ n i, ¬ (n = 10 ∧ (i = 3 ∨ i = 4 ∨ i = 5 ∨ i = 6)) → M' n i = M n i
def fM7 (M M' : Mem) : Prop := ∀ n i, ¬ (n = 0 ∧ (i = 22 ∨ i = 23 ∨ i = 24 ∨ i = 25)) → M' n i = M n i
theorem TB.frm {L : Int} {Mc Mm Mc' Mm' : Mem} (h : TB L Mc Mm) (hc : fC7 Mc Mc') (hm : fM7 Mm Mm') (e : Mc' 10 3 = Mm' 0 22) (e1 : 0 ≤ Mm' 0 22 ∧ Mm' 0 22 ≤ L) : TB L Mc' Mm' := by
  obtain ⟨h1, h2, h3, h4, h5, h6⟩ := h
  refine ⟨⟨h1.1, fun i a b => ?_⟩, fun i a b => ?_, ?_, ?_, e, e1⟩
  · rw [hc 32 i (by omega), hm 33 i (by omega)]; exact h1.2 i a b
  · rw [hc 352 i (by omega)]; exact h2 i a b
  · rw [hc 10 2 (by omega), h3]
  · rw [hm 0 21 (by omega), h4]
theorem advW {L : Int} {Mc Mm : Mem} (h : TB L Mc Mm) : ∃ Mc' Mm', f_X7_advance Mc = some (0, Mc') ∧ f_X10_token Mm = some (0, Mm') ∧ fC7 Mc Mc' ∧ fM7 Mm Mm' ∧ TB L Mc' Mm' ∧ TKN Mc' Mm' ∧ (Mm 0 22 ≤ Mm' 0 23 ∧ Mm 0 22 ≤ Mm' 0 22) ∧ (Mm' 0 24 ≠ 4 → Mm 0 22 < Mm' 0 22) := by
  have hall := h
  obtain ⟨hb, ht, c2, m2, c3, a1, a2⟩ := h
  have h0 := hb.1
  have hB : ∀ i, 0 ≤ i → i < L → 0 ≤ Mm 33 i ∧ Mm 33 i < 256 := fun i a b => ⟨(hb.2 i a b).1, (hb.2 i a b).2.1⟩
  obtain ⟨k, hk⟩ := SPN.ex (pSp Mm) (L - Mm 0 22).toNat (Mm 0 22) L (by omega)
  have hk2 := hk.2.1
  have sC := skipC (Mm := Mm) k q_N (Mm 0 22) Mc hb (q_N_lt (by omega)) c3 a1 c2 hk
  have sM := skipM h0 hB k q_N (Mm 0 22) Mm rfl (q_N_lt (by omega)) rfl a1 m2 hk
  obtain ⟨a, ha⟩ : ∃ a, a = Mm 0 22 + k := ⟨_, rfl⟩
  have hnb : a < L → ¬ pSp Mm a := by rw [ha]; exact hk.2.2
  rw [← ha] at sC sM hk2
  have a3 : 0 ≤ a ∧ Mm 0 22 ≤ a := by omega
  -- behind the blanks
  obtain ⟨Pc, hPc⟩ : ∃ P, P = up (up (up Mc 10 3 a) 10 5 a) 10 6 0 := ⟨_, rfl⟩
  obtain ⟨Pm, hPm⟩ : ∃ P, P = up (up Mm 0 22 a) 0 23 a := ⟨_, rfl⟩
  have p3 : Pc 10 3 = a := by rw [hPc, up_nei (by omega), up_nei (by omega), up_same]
  have p2 : Pc 10 2 = L := by rw [hPc, up_nei (by omega), up_nei (by omega), up_nei (by omega), c2]
  have p5 : Pc 10 5 = a := by rw [hPc, up_nei (by omega), up_same]
  have p6 : Pc 10 6 = 0 := by rw [hPc, up_same]
  have p32 : Pc 32 = Mc 32 := by rw [hPc, up_ne1 (by omega), up_ne1 (by omega), up_ne1 (by omega)]
  have p352 : Pc 352 = Mc 352 := by rw [hPc, up_ne1 (by omega), up_ne1 (by omega), up_ne1 (by omega)]
  have r22 : Pm 0 22 = a := by rw [hPm, up_nei (by omega), up_same]
  have r23 : Pm 0 23 = a := by rw [hPm, up_same]
  have r21 : Pm 0 21 = L := by rw [hPm, up_nei (by omega), up_nei (by omega), m2]
  have r33 : Pm 33 = Mm 33 := by rw [hPm, up_ne1 (by omega), up_ne1 (by omega)]
  have fPc : fC7 Mc Pc := fun n i hn => by rw [hPc, up_ne (by omega), up_ne (by omega), up_ne (by omega)]
  have fPm : fM7 Mm Pm := fun n i hn => by rw [hPm, up_ne (by omega), up_ne (by omega)]
  have hbP : BY L Pc Pm := by
    refine ⟨h0, fun i x y => ?_⟩
    rw [p32, r33]; exact hb.2 i x y
  have fin : ∀ Mc' Mm' : Mem, f_X7_advance Mc = some (0, Mc') → f_X10_token Mm = some (0, Mm') → fC7 Pc Mc' → fM7 Pm Mm' → Mc' 10 3 = Mm' 0 22 → (a ≤ Mm' 0 22 ∧ Mm' 0 22 ≤ L) → Mc' 10 5 = a → Mm' 0 23 = a → TKR (Mc' 10 4) (Mc' 10 6) (Mm' 0 24) (Mm' 0 25) → (Mm' 0 24 ≠ 4 → a < Mm' 0 22) → ∃ Mc' Mm', f_X7_advance Mc = some (0, Mc') ∧ f_X10_token Mm = some (0, Mm') ∧ fC7 Mc Mc' ∧ fM7 Mm Mm' ∧ TB L Mc' Mm' ∧ TKN Mc' Mm' ∧ (Mm 0 22 ≤ Mm' 0 23 ∧ Mm 0 22 ≤ Mm' 0 22) ∧ (Mm' 0 24 ≠ 4 → Mm 0 22 < Mm' 0 22) := fun Mc' Mm' g1 g2 g3 g4 g5 g6 g7 g8 g9 g10 => by
    have q1 : fC7 Mc Mc' := fun n i hn => by rw [g3 n i hn, fPc n i hn]
    have q2 : fM7 Mm Mm' := fun n i hn => by rw [g4 n i hn, fPm n i hn]
    exact ⟨Mc', Mm', g1, g2, q1, q2, hall.frm q1 q2 g5 (by omega), ⟨by rw [g7, g8], by rw [g8]; omega, g9⟩, ⟨by rw [g8]; omega, by omega⟩, fun hh => by have := g10 hh; omega⟩
  have hC : f_X7_advance Mc = f_X7_advance_J52 (up Mc 10 3 a) := sC
  have hM : f_X10_token Mm = tokM (up Mm 0 22 a) := sM
  unfold f_X7_advance_J52 at hC
  rw [q_gf_e, up_same, q_pf_e, q_pf_e, ← hPc, q_gf_e, q_gf_e, p3, p2, w32_id (by omega), w32_id (by omega)] at hC
  unfold tokM at hM
  rw [q_gf_e, up_same, q_pf_e, ← hPm, hereM (by omega) (by omega), q_calp_e] at hM
  have hv : hereV Pm = if L ≤ a then -1 else Mm 33 a := by unfold hereV; rw [r21, r22, r33]
  rw [hv] at hM
  by_cases cL : L ≤ a
  · -- the end
    rw [if_neg (by omega), q_pf_e] at hC
    rw [if_pos cL, if_neg (fun h => h rfl), q_pf_e] at hM
    refine fin _ _ hC hM (fun n i hn => up_ne (by omega)) (fun n i hn => up_ne (by omega)) ?_ ?_ ?_ ?_ ?_ ?_
    · rw [up_nei (by omega), up_nei (by omega), p3, r22]
    · rw [up_nei (by omega), r22]; omega
    · rw [up_nei (by omega), p5]
    · rw [up_nei (by omega), r23]
    · rw [up_same, up_same]; exact .inr (.inr (.inr (.inr (.inl ⟨rfl, rfl⟩))))
    · rw [up_same]; exact fun h => absurd rfl h
  · have hba := hb.2 a a3.1 (by omega)
    have hns := hnb (by omega)
    have hcr : -128 ≤ Mc 32 a ∧ Mc 32 a < 128 := by rw [hba.2.2]; split <;> omega
    rw [if_pos (by omega), q_gf_e, p3, q_al_ok (by omega), p32, w32_id (x := Mc 32 a) (by omega), w32_id (x := 97) (by omega), q_gf_e, p3, q_al_ok (by omega), p32, w32_id (x := Mc 32 a) (by omega), w32_id (x := 122) (by omega)] at hC
    rw [if_neg cL, w32_id (x := Mm 33 a) (by omega), w32_id (x := -1) (by omega), if_pos (by omega)] at hM
    unfold f_X10_isSmall f_X10_isDigit at hM
    rw [w32_id (x := Mm 33 a) (by omega), w32_id (x := 97) (by omega), w32_id (x := 122) (by omega), w32_id (x := 48) (by omega), w32_id (x := 57) (by omega)] at hM
    by_cases cl : pLt Mm a
    · -- a word
      have cl' := cl
      unfold pLt at cl'
      have e32 : Mc 32 a = Mm 33 a := by rw [hba.2.2, if_pos (by omega)]
      rw [if_neg (by omega), if_neg (by omega)] at hC
      rw [if_neg (by omega), if_neg (by omega), q_calp_e, if_neg (by decide)] at hM
      obtain ⟨n, hn⟩ := SPN.ex (pLt Mm) (L - a).toNat a L (by omega)
      have hn2 := hn.2.1
      have hn1 : 1 ≤ n := by
        rcases Nat.eq_zero_or_pos n with rfl | c
        · exact absurd cl (hn.zero.2 (by omega))
        · exact c
      have eP : pLt Pm = pLt Mm := by funext i; unfold pLt; rw [r33]
      have wC := wordC (Mm := Pm) (a0 := a) n 0 q_N Pc hbP (q_N_lt (by omega)) (by rw [p3]; omega) a3.1 p2 (by rw [eP, show a + ((0 : Nat) : Int) = a by omega]; exact hn) (by rw [p6]; rfl) (fun i hi => by omega)
      rw [Nat.zero_add, show a + ((0 : Nat) : Int) + n = a + n by omega] at wC
      have lM := lettersM (B := Mm 33) h0 hB n q_N a Pm r33 (q_N_lt (by omega)) r22 a3.1 r21 (by rw [eP]; exact hn)
      obtain ⟨tok, srt, val, w1, w2, w3, w4⟩ := wordW (n := n) (a0 := a) (Mc := up (up Pc 10 6 (P6 (Pm 33) a n)) 10 3 (a + n)) (Mm := up Pm 0 22 (a + n)) (fun i x y => by rw [up_ne1 (by omega), up_ne1 (by omega), p352]; exact ht i x y) a3.1 (by omega) hn1 (fun i hi => by rw [up_ne1 (by omega), r33]; exact hn.1 i hi) (up_same _ _ _ _) (by rw [up_nei (by omega), r23]) (by rw [up_nei (by omega), up_same, up_ne1 (by omega)])
      have wC' : f_X7_readWord Pc = some (0, up (up (up Pc 10 6 (P6 (Pm 33) a n)) 10 3 (a + n)) 10 4 tok) := by
        rw [← w1]; exact wC
      rw [wC', q_call_e] at hC
      rw [lM, w2] at hM
      refine fin _ _ hC hM (fun n i hn => by rw [up_ne (by omega), up_ne (by omega), up_ne (by omega)]) (fun n i hn => by rw [up_ne (by omega), up_ne (by omega), up_ne (by omega)]) ?_ ?_ ?_ ?_ ?_ ?_
      · rw [up_nei (by omega), up_same, up_nei (by omega), up_nei (by omega), up_same]
      · rw [up_nei (by omega), up_nei (by omega), up_same]; omega
      · rw [up_nei (by omega), up_nei (by omega), up_nei (by omega), p5]
      · rw [up_nei (by omega), up_nei (by omega), up_nei (by omega), r23]
      · rw [up_same, up_nei (by omega), up_same, up_nei (by omega), up_same]; exact w3
      · intro _; rw [up_nei (by omega), up_nei (by omega), up_same]; omega
    · unfold pLt at cl
      have hC' : f_X7_advance Mc = f_X7_advance_J120 Pc := by
        rw [hC]
        by_cases c : Mc 32 a < 97
        · rw [if_pos c]
        · rw [if_neg c, if_pos]
          rw [hba.2.2] at c ⊢
          split <;> split at c <;> omega
      have hM' : f_X10_token Mm = q_calp (if Mm 33 a < 48 then some 0 else if 57 < Mm 33 a then some 0 else some 1) fun r7 => if w32 r7 = 0 then (q_call (f_X10_sign (Mm 33 a) Pm) fun r8 M9 => some (0, M9)) else (q_pf Pm 0 24 2 fun M10 => q_pf M10 0 25 0 fun M11 => f_X10_token_L162 q_N M11) := by
        rw [hM]
        by_cases c : Mm 33 a < 97
        · rw [if_pos c, q_calp_e, if_pos (by decide)]
        · rw [if_neg c, if_pos (by omega), q_calp_e, if_pos (by decide)]
      unfold f_X7_advance_J120 f_X7_advance_J155 at hC'
      rw [q_gf_e, p3, q_al_ok (by omega), p32, w32_id (x := Mc 32 a) (by omega), w32_id (x := 48) (by omega), q_gf_e, p3, q_al_ok (by omega), p32, w32_id (x := Mc 32 a) (by omega), w32_id (x := 57) (by omega)] at hC'
      by_cases cd : pDg Mm a
      · -- a number
        have cd' := cd
        unfold pDg at cd'
        have e32 : Mc 32 a = Mm 33 a := by rw [hba.2.2, if_pos (by omega)]
        rw [if_neg (by omega), if_neg (by omega)] at hC'
        rw [if_neg (by omega), if_neg (by omega), q_calp_e, if_neg (by decide), q_pf_e, q_pf_e] at hM'
        obtain ⟨n, hn⟩ := SPN.ex (pDg Mm) (L - a).toNat a L (by omega)
        have hn2 := hn.2.1
        have hn1 : 1 ≤ n := by
          rcases Nat.eq_zero_or_pos n with rfl | c
          · exact absurd cd (hn.zero.2 (by omega))
          · exact c
        obtain ⟨Qc, n1, n2⟩ := numC (L := L) (Mm := Mm) (a0 := a) n 0 q_N (up Pc 10 4 21) ⟨h0, fun i x y => by rw [up_ne1 (by omega), p32]; exact hb.2 i x y⟩ (q_N_lt (by omega)) (by rw [up_nei (by omega), p3]; omega) a3.1 (by rw [up_nei (by omega), p2]) (by rw [show a + ((0 : Nat) : Int) = a by omega]; exact hn) (by rw [up_nei (by omega), p6]; rfl) (fun i hi => by omega)
        obtain ⟨Qm, o1, o2⟩ := numM (L := L) (B := Mm 33) (a0 := a) h0 hB n 0 q_N (up (up Pm 0 24 2) 0 25 0) (by rw [up_ne1 (by omega), up_ne1 (by omega), r33]) (q_N_lt (by omega)) (by rw [up_nei (by omega), up_nei (by omega), r22]; omega) a3.1 (by rw [up_nei (by omega), up_nei (by omega), r21]) (by
          have : pDg (up (up Pm 0 24 2) 0 25 0) = pDg Mm := by funext i; unfold pDg; rw [up_ne1 (by omega), up_ne1 (by omega), r33]
          rw [this, show a + ((0 : Nat) : Int) = a by omega]; exact hn) (by rw [up_same]; rfl) (fun i hi => by omega)
        rw [Nat.zero_add, show a + ((0 : Nat) : Int) + n = a + n by omega] at n2 o2
        have hnm := nm_eq (Mm 33) a n hn.1
        have n1' : f_X7_readNumber Pc = some (0, Qc) := by unfold f_X7_readNumber; rw [q_pf_e]; exact n1
        rw [n1', q_call_e] at hC'
        rw [o1] at hM'
        refine fin _ _ hC' hM' (fun n i hn => by rw [n2, up_ne (by omega), up_ne (by omega), up_ne (by omega)]) (fun n i hn => by rw [o2, up_ne (by omega), up_ne (by omega), up_ne (by omega), up_ne (by omega)]) ?_ ?_ ?_ ?_ ?_ ?_
        · rw [n2, o2, up_same, up_same]
        · rw [o2, up_same]; omega
        · rw [n2, up_nei (by omega), up_nei (by omega), up_nei (by omega), p5]
        · rw [o2, up_nei (by omega), up_nei (by omega), up_nei (by omega), up_nei (by omega), r23]
        · rw [n2, o2]
          simp (disch := omega) only [w32_id, q_gf_e, q_gr_e, q_pf_e, q_pz_e, q_let_e, q_call_e, q_calp_e, q_al_ok, q_as_ok, q_nz_ok, up_same, up_nei, up_ne1, Int.toNat_natCast, reduceIte, Int.reduceEq, Int.reduceLT, Int.reduceLE, Int.reduceNeg, not_true_eq_false, not_false_eq_true]
          exact .inr (.inr (.inl ⟨rfl, rfl, hnm.1, hnm.2⟩))
        · intro _; rw [o2, up_same]; omega
      · -- a sign
        unfold pDg at cd
        obtain ⟨s, y, g1, g2, g3⟩ := signM (x := Mm 33 a) (M := Pm) (L := L) (a := a) (by omega) h0 r21 r22 (by omega) (by rw [r33]; exact hB)
        rw [r33] at g2
        have hM2 : f_X10_token Mm = some (0, up (up (up Pm 0 22 (if 256 ≤ sgV (Mm 33 a) y then a + 2 else a + 1)) 0 24 s) 0 25 (sgV (Mm 33 a) y)) := by
          rw [hM']
          by_cases c : Mm 33 a < 48
          · rw [if_pos c, q_calp_e, if_pos (by decide), g3, q_call_e]
          · rw [if_neg c, if_pos (by omega), q_calp_e, if_pos (by decide), g3, q_call_e]
        have hC2 : f_X7_advance Mc = q_call (f_X7_readSign Pc) fun _ M2 => some (0, M2) := by
          rw [hC']
          by_cases c : Mc 32 a < 48
          · rw [if_pos c]
          · rw [if_neg c, if_pos]
            rw [hba.2.2] at c ⊢
            split <;> split at c <;> omega
        obtain ⟨y', hy'⟩ : ∃ y', y' = if L ≤ a + 1 then 0 else Mc 32 (a + 1) := ⟨_, rfl⟩
        have hyr : -128 ≤ y' ∧ y' < 128 ∧ (y' = 61 ↔ y = 61) ∧ (y' = 62 ↔ y = 62) := by
          rw [hy', g2]
          by_cases c : L ≤ a + 1
          · rw [if_pos c, if_pos c]; omega
          · have := hb.2 (a + 1) (by omega) (by omega)
            rw [if_neg c, if_neg c, this.2.2]
            split <;> omega
        have hS : f_X7_readSign Pc = f_X7_readSign_J44 (Mc 32 a) y' (up Pc 10 3 (a + 1)) := by
          unfold f_X7_readSign
          rw [q_gf_e, p3, q_al_ok (by omega), p32, q_gf_e, p3, q_pf_e, q_gf_e, q_gf_e, up_same, up_nei (by omega), p2, w32_id (by omega), w32_id (by omega), hy']
          by_cases c : L ≤ a + 1
          · rw [if_pos c, if_pos c]
          · rw [if_neg c, if_neg c, q_gf_e, up_same, q_al_ok (by omega), up_ne1 (by omega), p32]
        have hsg := sg_eq (x := Mm 33 a) (x' := Mc 32 a) (y := y) (y' := y') (Classical.em _) (by omega) hba.2.2 hyr.2.2.1 hyr.2.2.2
        have hrg := sgT_rng (Mc 32 a) y'
        rw [hS, signC hcr ⟨hyr.1, hyr.2.1⟩, j281 (by omega), q_call_e, up_same] at hC2
        have eT : TKR (sgT (Mc 32 a) y') 0 s (sgV (Mm 33 a) y) ∧ s ≠ 4 := by
          rcases g1 with ⟨z1, z2⟩ | ⟨z1, z2⟩
          · rw [z2]; exact ⟨.inr (.inr (.inr (.inl ⟨rfl, hsg.1.1 z1⟩))), by decide⟩
          · rw [z2, hsg.1.2 z1]; exact ⟨.inr (.inr (.inr (.inr (.inr ⟨rfl, rfl⟩)))), by decide⟩
        have h256 : 256 ≤ sgV (Mm 33 a) y → a + 2 ≤ L := fun hh => by
          unfold sgV at hh
          by_cases c : L ≤ a + 1
          · rw [g2, if_pos c] at hh
            split at hh
            · omega
            · split at hh
              · omega
              · split at hh <;> omega
          · omega
        by_cases c : 256 ≤ sgV (Mm 33 a) y
        · have := h256 c
          rw [if_pos (hsg.2.mpr c)] at hC2
          rw [if_pos c] at hM2
          refine fin _ _ hC2 hM2 (fun n i hn => by rw [up_ne (by omega), up_ne (by omega), up_ne (by omega)]) (fun n i hn => by rw [up_ne (by omega), up_ne (by omega), up_ne (by omega)]) ?_ ?_ ?_ ?_ ?_ ?_
          · simp (disch := omega) only [w32_id, q_gf_e, q_gr_e, q_pf_e, q_pz_e, q_let_e, q_call_e, q_calp_e, q_al_ok, q_as_ok, q_nz_ok, up_same, up_nei, up_ne1, Int.toNat_natCast, reduceIte, Int.reduceEq, Int.reduceLT, Int.reduceLE, Int.reduceNeg, not_true_eq_false, not_false_eq_true]; omega
          · simp (disch := omega) only [w32_id, q_gf_e, q_gr_e, q_pf_e, q_pz_e, q_let_e, q_call_e, q_calp_e, q_al_ok, q_as_ok, q_nz_ok, up_same, up_nei, up_ne1, Int.toNat_natCast, reduceIte, Int.reduceEq, Int.reduceLT, Int.reduceLE, Int.reduceNeg, not_true_eq_false, not_false_eq_true]; omega
          · simp (disch := omega) only [w32_id, q_gf_e, q_gr_e, q_pf_e, q_pz_e, q_let_e, q_call_e, q_calp_e, q_al_ok, q_as_ok, q_nz_ok, up_same, up_nei, up_ne1, Int.toNat_natCast, reduceIte, Int.reduceEq, Int.reduceLT, Int.reduceLE, Int.reduceNeg, not_true_eq_false, not_false_eq_true]; exact p5
          · simp (disch := omega) only [w32_id, q_gf_e, q_gr_e, q_pf_e, q_pz_e, q_let_e, q_call_e, q_calp_e, q_al_ok, q_as_ok, q_nz_ok, up_same, up_nei, up_ne1, Int.toNat_natCast, reduceIte, Int.reduceEq, Int.reduceLT, Int.reduceLE, Int.reduceNeg, not_true_eq_false, not_false_eq_true]; exact r23
          · simp (disch := omega) only [w32_id, q_gf_e, q_gr_e, q_pf_e, q_pz_e, q_let_e, q_call_e, q_calp_e, q_al_ok, q_as_ok, q_nz_ok, up_same, up_nei, up_ne1, Int.toNat_natCast, reduceIte, Int.reduceEq, Int.reduceLT, Int.reduceLE, Int.reduceNeg, not_true_eq_false, not_false_eq_true]; rw [p6]; exact eT.1
          · intro _; simp (disch := omega) only [w32_id, q_gf_e, q_gr_e, q_pf_e, q_pz_e, q_let_e, q_call_e, q_calp_e, q_al_ok, q_as_ok, q_nz_ok, up_same, up_nei, up_ne1, Int.toNat_natCast, reduceIte, Int.reduceEq, Int.reduceLT, Int.reduceLE, Int.reduceNeg, not_true_eq_false, not_false_eq_true]; omega
        · rw [if_neg (fun h => c (hsg.2.mp h))] at hC2
          rw [if_neg c] at hM2
          refine fin _ _ hC2 hM2 (fun n i hn => by rw [up_ne (by omega), up_ne (by omega)]) (fun n i hn => by rw [up_ne (by omega), up_ne (by omega), up_ne (by omega)]) ?_ ?_ ?_ ?_ ?_ ?_
          · simp (disch := omega) only [w32_id, q_gf_e, q_gr_e, q_pf_e, q_pz_e, q_let_e, q_call_e, q_calp_e, q_al_ok, q_as_ok, q_nz_ok, up_same, up_nei, up_ne1, Int.toNat_natCast, reduceIte, Int.reduceEq, Int.reduceLT, Int.reduceLE, Int.reduceNeg, not_true_eq_false, not_false_eq_true]
          · simp (disch := omega) only [w32_id, q_gf_e, q_gr_e, q_pf_e, q_pz_e, q_let_e, q_call_e, q_calp_e, q_al_ok, q_as_ok, q_nz_ok, up_same, up_nei, up_ne1, Int.toNat_natCast, reduceIte, Int.reduceEq, Int.reduceLT, Int.reduceLE, Int.reduceNeg, not_true_eq_false, not_false_eq_true]; omega
          · simp (disch := omega) only [w32_id, q_gf_e, q_gr_e, q_pf_e, q_pz_e, q_let_e, q_call_e, q_calp_e, q_al_ok, q_as_ok, q_nz_ok, up_same, up_nei, up_ne1, Int.toNat_natCast, reduceIte, Int.reduceEq, Int.reduceLT, Int.reduceLE, Int.reduceNeg, not_true_eq_false, not_false_eq_true]; exact p5
          · simp (disch := omega) only [w32_id, q_gf_e, q_gr_e, q_pf_e, q_pz_e, q_let_e, q_call_e, q_calp_e, q_al_ok, q_as_ok, q_nz_ok, up_same, up_nei, up_ne1, Int.toNat_natCast, reduceIte, Int.reduceEq, Int.reduceLT, Int.reduceLE, Int.reduceNeg, not_true_eq_false, not_false_eq_true]; exact r23
          · simp (disch := omega) only [w32_id, q_gf_e, q_gr_e, q_pf_e, q_pz_e, q_let_e, q_call_e, q_calp_e, q_al_ok, q_as_ok, q_nz_ok, up_same, up_nei, up_ne1, Int.toNat_natCast, reduceIte, Int.reduceEq, Int.reduceLT, Int.reduceLE, Int.reduceNeg, not_true_eq_false, not_false_eq_true]; rw [p6]; exact eT.1
          · intro _; simp (disch := omega) only [w32_id, q_gf_e, q_gr_e, q_pf_e, q_pz_e, q_let_e, q_call_e, q_calp_e, q_al_ok, q_as_ok, q_nz_ok, up_same, up_nei, up_ne1, Int.toNat_natCast, reduceIte, Int.reduceEq, Int.reduceLT, Int.reduceLE, Int.reduceNeg, not_true_eq_false, not_false_eq_true]; omega
