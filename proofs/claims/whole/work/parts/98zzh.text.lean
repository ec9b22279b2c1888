/-! a text that is refused: all stays, but the fault -/
theorem textBad {t u : Nat} {Mc Mm Xc Xm : Mem} (h : RelT t Mc Mm) (hu : u + t = 5) (fc : fcW u (up Mc 0 1 0) Xc) (fm : fmT Mm Xm) (hq : FQa Xm) (m2 : Xm 0 2 = 0) (e4 : Xc 1 4 = Xm 0 26) (e5 : Xc 1 5 = Xm 0 27) (hi : in32 (Xm 0 27)) : RelT t Xc (up (up Xm 0 28 (Xm 0 26)) 0 29 (Xm 0 27)) := by
  obtain ⟨N, hN⟩ : ∃ N, N = up (up Xm 0 28 (Xm 0 26)) 0 29 (Xm 0 27) := ⟨_, rfl⟩
  rw [← hN]
  have hT := h.2.1
  have ht := hT.1
  have hS := hT.2.1
  have hw0 := h.w0
  obtain ⟨⟨h03, h12⟩, -, ⟨g3, g3'⟩, g4, g5, g6, ⟨f1, f4, f5, f6, f7⟩, g8, g9⟩ := h
  have cN : ∀ n, n ≠ 0 → n ≠ 1 → n ≠ 10 → n ≠ 11 → n ≠ u → n ≠ u + 10 → ¬ (32 * (u + 1) ≤ n ∧ n < 32 * (u + 2)) → ¬ (32 * (u + 11) ≤ n ∧ n < 32 * (u + 12)) → ¬ (384 ≤ n ∧ n < 416) → Xc n = Mc n := fun n z0 z1 z2 z3 z4 z5 z6 z7 z8 => by
    funext i
    rw [fc n i z2 z3 z4 z5 (by omega) z6 z7 z8, up_ne1 z0]
  have c0 : ∀ i, i ≠ 1 → Xc 0 i = Mc 0 i := fun i z => by
    rw [fc 0 i (by omega) (by omega) (by omega) (by omega) (by omega) (by omega) (by omega) (by omega), up_nei z]
  have c01 : Xc 0 1 = 0 := by
    rw [fc 0 1 (by omega) (by omega) (by omega) (by omega) (by omega) (by omega) (by omega) (by omega), up_same]
  have c12 : Xc 1 2 = Mc 1 2 := by
    rw [fc 1 2 (by omega) (by omega) (by omega) (by omega) (by omega) (by omega) (by omega) (by omega), up_ne1 (by omega)]
  have nX : ∀ n, n ≠ 0 → N n = Xm n := fun n z => by rw [hN, up_ne1 z, up_ne1 z]
  have n0 : ∀ j, j ≠ 28 → j ≠ 29 → N 0 j = Xm 0 j := fun j z1 z2 => by rw [hN, up_nei z2, up_nei z1]
  have mN : ∀ n, n ≠ 0 → (n < 35 ∨ 50 < n) → N n = Mm n := fun n z1 z2 => by
    funext i
    rw [nX n z1, fm n i (by omega) (by omega) (by omega) (by omega) (by omega) (by omega) (by omega)]
  have mL : ∀ n i, LOW n i → N n i = Mm n i := fun n i z => by
    unfold LOW at z
    rw [nX n (by omega), fm n i (by omega) (by omega) (by omega) (by omega) (by omega) (by omega) (by omega)]
  have m0 : ∀ j, 32 ≤ j → N 0 j = Mm 0 j := fun j z => by
    rw [n0 j (by omega) (by omega), fm 0 j (by omega) (by omega) (by omega) (by omega) (by omega) (by omega) (by omega)]
  have e35 : N 35 0 = Mm 35 0 := mL 35 0 (by unfold LOW; omega)
  have vq : ∀ q, VEQ (mvw q Mm) (mvw q N) := fun q => mvw_eq (fun n a b => by rw [mN n (by omega) (by omega)]) (fun n i a b c d => by rw [mN n (by omega) (by omega)])
  have vc : ∀ k, k = 4 ∨ k = 6 → VEQ (cvw k Mc) (cvw k Xc) := fun k hk => cvw_eq (cN k (by omega) (by omega) (by omega) (by omega) (by omega) (by omega) (by omega) (by omega) (by omega)) (fun f a b => cN _ (by omega) (by omega) (by omega) (by omega) (by omega) (by omega) (by omega) (by omega) (by omega))
  unfold RelT
  rw [e35, c0 3 (by omega), c12, cN 4 (by omega) (by omega) (by omega) (by omega) (by omega) (by omega) (by omega) (by omega) (by omega), cN 6 (by omega) (by omega) (by omega) (by omega) (by omega) (by omega) (by omega) (by omega) (by omega), c0 7 (by omega), m0 45 (by omega), m0 47 (by omega), m0 48 (by omega)]
  refine ⟨⟨h03, h12⟩, hT.lo (fun n a => cN n (by omega) (by omega) (by omega) (by omega) (by omega) (by omega) (by omega) (by omega) (by omega)) mL, ⟨g3.of (by omega) (vc 4 (.inl rfl)) (vq 0), g3'⟩, ⟨g4.1, g4.2.1, fun c => ⟨(g4.2.2 c).1.of (by omega) (vc 6 (.inr rfl)) (vq 2), (g4.2.2 c).2⟩⟩, g5.of (by omega) hw0 (by rw [cN 8 (by omega) (by omega) (by omega) (by omega) (by omega) (by omega) (by omega) (by omega) (by omega)]) (fun n a b => cN n (by omega) (by omega) (by omega) (by omega) (by omega) (by omega) (by omega) (by omega) (by omega)) (m0 46 (by omega)) (fun q _ => vq q), g6.of (cN 9 (by omega) (by omega) (by omega) (by omega) (by omega) (by omega) (by omega) (by omega) (by omega)) (fun n a b => cN n (by omega) (by omega) (by omega) (by omega) (by omega) (by omega) (by omega) (by omega) (by omega)) (m0 58 (by omega)) (m0 59 (by omega)) (fun n a b => mN n (by omega) (by omega)), ?_, g8, g9⟩
  have n2 : N 0 2 = 0 := by rw [n0 2 (by omega) (by omega), m2]
  have n28 : N 0 28 = Xm 0 26 := by rw [hN, up_nei (by omega), up_same]
  have n29 : N 0 29 = Xm 0 27 := by rw [hN, up_same]
  unfold FR
  rw [c01, n2, e4, e5, n28, n29, cN 352 (by omega) (by omega) (by omega) (by omega) (by omega) (by omega) (by omega) (by omega) (by omega)]
  refine ⟨⟨rfl, by omega, by omega⟩, fun i a b => by omega, ⟨rfl, ?_⟩, ⟨rfl, hi⟩, f7⟩
  unfold FQa at hq
  unfold in32
  omega
theorem J148b {Xm : Mem} (hq : FQa Xm) : f_X10_text_J148 Xm = some (-1, up (up Xm 0 28 (Xm 0 26)) 0 29 (Xm 0 27)) := by
  unfold f_X10_text_J148
  rw [q_gf_e, q_pf_e, q_gf_e, up_nei (n := 0) (i := 28) (i' := 27) (by omega), q_pf_e, q_gf_e, up_nei (n := 0) (i := 29) (i' := 26) (by omega), up_nei (n := 0) (i := 28) (i' := 26) (by omega), if_neg hq.w]
/-! a text that holds -/
set_option maxHeartbeats 2000000 in
theorem J148g {Xm : Mem} (h26 : Xm 0 26 = 0) (hs : 0 ≤ Xm 35 7 ∧ Xm 35 7 ≤ 8) : f_X10_text_J148 Xm = some (Xm 0 20, STM 0 8 (up (up (up (up (HA (up (up Xm 0 28 0) 0 29 (Xm 0 27))) 0 58 0) 0 59 (-1)) 0 45 0) 0 46 0)) := by
  obtain ⟨N, hN⟩ : ∃ N, N = up (up Xm 0 28 0) 0 29 (Xm 0 27) := ⟨_, rfl⟩
  rw [← hN]
  obtain ⟨P, hP⟩ : ∃ P, P = up (up (up (up (HA N) 0 58 0) 0 59 (-1)) 0 45 0) 0 46 0 := ⟨_, rfl⟩
  rw [← hP]
  have n26 : N 0 26 = 0 := by rw [hN, up_nei (by omega), up_nei (by omega), h26]
  have p35 : P 35 0 = Xm 35 7 := by
    rw [hP, up_ne1 (by omega), up_ne1 (by omega), up_ne1 (by omega), up_ne1 (by omega), HA.lo (by unfold LOW; omega)]
    show N 35 7 = Xm 35 7
    rw [hN, up_ne1 (by omega), up_ne1 (by omega)]
  have e20 : STM 0 8 P 0 20 = Xm 0 20 := by
    unfold STM
    rw [if_neg (by omega), if_neg (by omega), if_neg (by omega), hP, up_nei (by omega), up_nei (by omega), up_nei (by omega), up_nei (by omega), HA.ne (by omega), hN, up_nei (by omega), up_nei (by omega)]
  unfold f_X10_text_J148 f_X10_begins
  rw [q_gf_e, h26, q_pf_e, q_gf_e, up_nei (n := 0) (i := 28) (i' := 27) (by omega), q_pf_e, ← hN, q_gf_e, n26, if_pos (show w32 0 = 0 by decide)]
  rw [halfM (h := 7) (by omega) (by omega), q_call_e]
  rw [halfM (h := 8) (by omega) (by omega), q_call_e]
  rw [halfM (h := 8) (by omega) (by omega), q_call_e]
  rw [halfM (h := 8) (by omega) (by omega), q_call_e]
  rw [halfM (h := 8) (by omega) (by omega), q_call_e]
  rw [halfM (h := 4) (by omega) (by omega), q_call_e]
  rw [halfM (h := 4) (by omega) (by omega), q_call_e]
  rw [halfM (h := 4) (by omega) (by omega), q_call_e]
  rw [halfM (h := 4) (by omega) (by omega), q_call_e]
  rw [halfM (h := 4) (by omega) (by omega), q_call_e]
  rw [halfM (h := 8) (by omega) (by omega), q_call_e]
  rw [halfM (h := 8) (by omega) (by omega), q_call_e]
  rw [halfM (h := 3) (by omega) (by omega), q_call_e]
  rw [halfM (h := 3) (by omega) (by omega), q_call_e]
  rw [halfM (h := 64) (by omega) (by omega), q_call_e]
  rw [halfM (h := 64) (by omega) (by omega), q_call_e]
  rw [show HF 50 64 64 (HF 49 64 64 (HF 48 3 3 (HF 47 3 3 (HF 46 8 8 (HF 45 8 8 (HF 44 4 4 (HF 43 4 4 (HF 42 4 4 (HF 41 4 4 (HF 40 4 4 (HF 39 8 8 (HF 38 8 8 (HF 37 8 8 (HF 36 8 8 (HF 35 7 7 N))))))))))))))) = HA N from rfl, q_pf_e, q_pf_e, q_pz_e (.inl rfl), q_pf_e, ← hP, startsM (by omega) (by rw [p35]; exact hs), q_call_e, q_call_e, q_gf_e, e20]
