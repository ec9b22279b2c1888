/-! the law: levels, knots, what holds while a law is read -/
def lvl (t : Int) : Int := if t = 10 then 1 else if t = 11 then 2 else if t = 12 then 3 else if 29 ≤ t ∧ t ≤ 34 then 4 else if t = 25 ∨ t = 26 then 5 else if t = 27 ∨ t = 28 then 6 else 0
theorem lvlC {t : Int} {M : Mem} (h : 0 ≤ t ∧ t ≤ 36) : f_X1_levelOf t M = some (lvl t) := by
  have : t = 0 ∨ t = 1 ∨ t = 2 ∨ t = 3 ∨ t = 4 ∨ t = 5 ∨ t = 6 ∨ t = 7 ∨ t = 8 ∨ t = 9 ∨ t = 10 ∨ t = 11 ∨ t = 12 ∨ t = 13 ∨ t = 14 ∨ t = 15 ∨ t = 16 ∨ t = 17 ∨ t = 18 ∨ t = 19 ∨ t = 20 ∨ t = 21 ∨ t = 22 ∨ t = 23 ∨ t = 24 ∨ t = 25 ∨ t = 26 ∨ t = 27 ∨ t = 28 ∨ t = 29 ∨ t = 30 ∨ t = 31 ∨ t = 32 ∨ t = 33 ∨ t = 34 ∨ t = 35 ∨ t = 36 := by omega
  rcases this with rfl | rfl | rfl | rfl | rfl | rfl | rfl | rfl | rfl | rfl | rfl | rfl | rfl | rfl | rfl | rfl | rfl | rfl | rfl | rfl | rfl | rfl | rfl | rfl | rfl | rfl | rfl | rfl | rfl | rfl | rfl | rfl | rfl | rfl | rfl | rfl | rfl <;> rfl
theorem lvl_rng (t : Int) : 0 ≤ lvl t ∧ lvl t ≤ 6 := by
  unfold lvl
  repeat' split
  all_goals omega
def WFK (R V : Int → Int) (a b D : Int) : Prop := (∀ n : Nat, a + n < b → R (a + n) = 2 → (if V (a + n) = 260 then 1 else 2) ≤ dpt R V a n) ∧ dpt R V a (b - a).toNat = D ∧ 0 ≤ D
theorem dpt_congr {R V R' V' : Int → Int} {a : Int} : ∀ n : Nat, (∀ j : Nat, j < n → R' (a + j) = R (a + j) ∧ V' (a + j) = V (a + j)) → dpt R' V' a n = dpt R V a n
  | 0, _ => rfl
  | n + 1, h => by
    show dpt R' V' a n + _ = dpt R V a n + _
    rw [dpt_congr n (fun j hj => h j (by omega)), (h n (by omega)).1, (h n (by omega)).2]
theorem WFK.add {R V R' V' : Int → Int} {a b D t v : Int} (h : WFK R V a b D) (hab : a ≤ b) (he : ∀ j, a ≤ j → j < b → R' j = R j ∧ V' j = V j) (ht : R' b = t) (hv : V' b = v) (hc : t = 2 → (if v = 260 then 1 else 2) ≤ D) : WFK R' V' a (b + 1) (D + (if t = 2 then (if v = 260 then 0 else -1) else 1)) := by
  obtain ⟨h1, h2, h3⟩ := h
  have en : (b + 1 - a).toNat = (b - a).toNat + 1 := by omega
  have eb : a + ((b - a).toNat : Int) = b := by omega
  have ed : dpt R' V' a (b - a).toNat = D := by
    rw [dpt_congr _ (fun j hj => he _ (by omega) (by omega)), h2]
  refine ⟨?_, ?_, ?_⟩
  · intro n hn hr
    by_cases c : a + n < b
    · have e := he (a + n) (by omega) c
      rw [dpt_congr _ (fun j hj => he _ (by omega) (by omega)), e.2]
      exact h1 n c (by rw [← e.1]; exact hr)
    · have e : n = (b - a).toNat := by omega
      subst e
      rw [eb] at hr ⊢
      rw [ed, hv]
      exact hc (by rw [← ht]; exact hr)
  · rw [en]
    show dpt R' V' a (b - a).toNat + _ = _
    rw [ed, eb, ht, hv]
  · by_cases c : t = 2
    · have := hc c
      rw [if_pos c]
      split at this <;> simp [*] <;> omega
    · rw [if_neg c]; omega
/-- reading an E, whatever is wanted next -/
def LX (u : Nat) (L i : Int) (Mc Mm : Mem) : Prop := (u = 2 ∨ u = 3) ∧ TB L Mc Mm ∧ TKN Mc Mm ∧ Mm 0 26 = 0 ∧ (Mc 11 3 = Mm 0 30 ∧ 0 ≤ Mm 0 30 ∧ Mm 0 30 ≤ 8) ∧ (Mc (u + 10) 6 = Mm 0 31 ∧ 0 ≤ Mm 0 31 ∧ Mm 0 31 ≤ 64) ∧ (0 ≤ i ∧ i + 1 ≤ Mm 0 22 ∧ Mm 0 27 = -1 ∧ (Mm 0 24 ≠ 4 → i + 2 ≤ Mm 0 22)) ∧ (Mc 11 6 = 0 ∨ Mc 11 6 = 1) ∧ (Mc 388 (Mm 0 30) = 0 ∨ Mc 388 (Mm 0 30) = 1)
/-- the knots: what was put of the one side, with what waits in the stack above s, is what was put of the other -/
def LK (u : Nat) (a s D lo : Int) (Mc Mm : Mem) : Prop := (0 ≤ a ∧ a ≤ Mc (u + 10) 5) ∧ Mc (u + 10) 5 ≤ Mm 35 13 ∧ Mc 11 2 = s + (Mm 35 13 - Mc (u + 10) 5) ∧ (0 ≤ Mm 0 30 ∧ Mm 0 30 ≤ s ∧ Mm 0 30 ≤ 8) ∧ (Mm 35 13 + s - Mm 0 30 = Mm 0 31 ∧ Mm 0 31 ≤ 64) ∧ (∀ j, a ≤ j → j < Mc (u + 10) 5 → TK (Mc (32 * (u + 11)) j) (Mc (32 * (u + 11) + 1) j) (Mm 49 (64 + j)) (Mm 50 (64 + j))) ∧ (∀ q, 0 ≤ q → q < Mm 35 13 - Mc (u + 10) 5 → Mm 49 (64 + (Mc (u + 10) 5 + q)) = 2 ∧ (Mc 385 (Mc 11 2 - 1 - q), Mm 50 (64 + (Mc (u + 10) 5 + q))) ∈ TKS ∧ lo ≤ lvl (Mc 385 (Mc 11 2 - 1 - q))) ∧ WFK (fun j => Mm 49 (64 + j)) (fun j => Mm 50 (64 + j)) a (Mm 35 13) D
/-- the stack's top below -/
def TL (s l : Int) (Mc : Mem) : Prop := s = 0 ∨ ((0 ≤ Mc 385 (s - 1) ∧ Mc 385 (s - 1) ≤ 36) ∧ lvl (Mc 385 (s - 1)) < l)
def VS (u : Nat) (L a s D i : Int) (Mc Mm : Mem) : Prop := LX u L i Mc Mm ∧ LK u a s D 0 Mc Mm ∧ Mc (u + 10) 5 = Mm 35 13 ∧ Mc 11 5 = 1
def SS (u : Nat) (L a s D lo i : Int) (Mc Mm : Mem) : Prop := LX u L i Mc Mm ∧ LK u a s D lo Mc Mm ∧ Mc 11 5 = 0
/-- what the signs that wait may change -/
def fl (u : Nat) (a : Int) (M M' : Mem) : Prop := ∀ n j, ¬ (n = 11 ∧ j = 2) → ¬ (n = u + 10 ∧ j = 5) → ¬ ((n = 32 * (u + 11) ∨ n = 32 * (u + 11) + 1) ∧ a ≤ j) → M' n j = M n j
theorem TKS.rng {t v : Int} (h : (t, v) ∈ TKS) : (10 ≤ t ∧ t ≤ 34) ∧ 1 ≤ lvl t ∧ (t = 12 ↔ v = 260) ∧ (42 ≤ v ∧ v ≤ 262) := by
  simp [TKS] at h
  rcases h with ⟨rfl, rfl⟩ | ⟨rfl, rfl⟩ | ⟨rfl, rfl⟩ | ⟨rfl, rfl⟩ | ⟨rfl, rfl⟩ | ⟨rfl, rfl⟩ | ⟨rfl, rfl⟩ | ⟨rfl, rfl⟩ | ⟨rfl, rfl⟩ | ⟨rfl, rfl⟩ | ⟨rfl, rfl⟩ | ⟨rfl, rfl⟩ | ⟨rfl, rfl⟩ <;> decide
theorem put2C {k : Nat} {t v : Int} {M : Mem} (h : 0 ≤ M k 5 ∧ M k 5 < 64) (hk : k < 32) : f_X2_put k t v M = some (0, up (up (up M (32 * (k + 1)) (M k 5) t) (32 * (k + 1) + 1) (M k 5) v) k 5 (M k 5 + 1)) := by
  unfold f_X2_put
  rw [q_gf_e, w32_id (x := 64) (by omega), w32_id (x := M k 5) (by omega), if_neg (by omega), q_gf_e, q_as_ok (by omega), q_gf_e, up_ne1 (n' := k) (by omega), q_as_ok (by omega), q_gf_e, up_ne1 (n' := k) (by omega), up_ne1 (n' := k) (by omega), q_pf_e]
  rfl
/-- the signs that wait above s become knots -/
theorem flushW {u : Nat} {a s D lo l : Int} {Mc Mm : Mem} (hu : u = 2 ∨ u = 3) (h : LK u a s D lo Mc Mm) (hl : 1 ≤ l ∧ l ≤ 7 ∧ l ≤ lo) (ht : TL s l Mc) : ∃ Mc', f_X1_putSigns (u + 10) l Mc = some (0, Mc') ∧ LK u a s D lo Mc' Mm ∧ Mc' (u + 10) 5 = Mm 35 13 ∧ fl u a Mc Mc' := by
  have hw : wpo (f_X1_putSigns (u + 10) l Mc) (fun y => y.1 = 0 ∧ LK u a s D lo y.2 Mm ∧ y.2 (u + 10) 5 = Mm 35 13 ∧ fl u a Mc y.2) := by
    unfold f_X1_putSigns f_X1_putSigns_L0
    have hR : Mm 35 13 ≤ 64 := by
      obtain ⟨b1, b2, b3, b4, b5, b6, b7, b8⟩ := id h
      omega
    refine qlm0_N (fun M => LK u a s D lo M Mm ∧ fl u a Mc M) (fun M => (Mm 35 13 - M (u + 10) 5).toNat) _ ⟨h, fun _ _ _ _ _ => rfl⟩ ?_ ?_
    · obtain ⟨b1, b2, b3, b4, b5, b6, b7, b8⟩ := id h
      omega
    · rintro M g ⟨hM, hf⟩ ih
      obtain ⟨b1, b2, b3, b4, b5, b6, b7, b8⟩ := id hM
      unfold f_X1_putSigns_B0
      rw [q_gf_e, w32_id (x := M 11 2) (by omega)]
      refine wpo_ite (fun c => wpo_some.mpr ⟨rfl, hM, (show M (u + 10) 5 = Mm 35 13 by omega), hf⟩) (fun c => ?_)
      rw [q_gf_e, q_al_ok (by omega)]
      by_cases c1 : M (u + 10) 5 = Mm 35 13
      · -- nothing waits
        have e1 : M 11 2 = s := by omega
        rcases ht with ht | ⟨t1, t2⟩
        · omega
        have e2 : M 385 (M 11 2 - 1) = Mc 385 (s - 1) := by rw [e1]; exact hf _ _ (by omega) (by omega) (by omega)
        rw [e2, lvlC t1, q_calp_e, w32_id (x := l) (by omega), w32_id (x := lvl _) (by have := lvl_rng (Mc 385 (s - 1)); omega), if_pos t2]
        exact wpo_some.mpr ⟨rfl, hM, c1, hf⟩
      · obtain ⟨p1, p2, p3⟩ := b7 0 (by omega) (by omega)
        rw [show M 11 2 - 1 - 0 = M 11 2 - 1 by omega] at p2 p3
        rw [show M (u + 10) 5 + 0 = M (u + 10) 5 by omega] at p1 p2
        have pr := TKS.rng p2
        obtain ⟨tk, etk⟩ : ∃ tk, tk = M 385 (M 11 2 - 1) := ⟨_, rfl⟩
        rw [← etk] at p2 p3 pr ⊢
        rw [lvlC (by omega), q_calp_e, w32_id (x := l) (by omega), w32_id (x := lvl _) (by have := lvl_rng tk; omega), if_neg (by omega), q_gf_e, q_pf_e, q_gf_e, up_same, q_al_ok (by omega), up_ne1 (n' := 385) (by omega), ← etk, put2C (by rw [up_ne1 (by omega)]; omega) (by omega), q_call_e, up_ne1 (n' := u + 10) (by omega)]
        obtain ⟨P, hP⟩ : ∃ P, P = up (up (up (up M 11 2 (M 11 2 - 1)) (32 * (u + 10 + 1)) (M (u + 10) 5) tk) (32 * (u + 10 + 1) + 1) (M (u + 10) 5) 0) (u + 10) 5 (M (u + 10) 5 + 1) := ⟨_, rfl⟩
        rw [← hP]
        have q5 : P (u + 10) 5 = M (u + 10) 5 + 1 := by rw [hP, up_same]
        have q2 : P 11 2 = M 11 2 - 1 := by rw [hP, up_ne1 (by omega), up_ne1 (by omega), up_ne1 (by omega), up_same]
        have qs : P 385 = M 385 := by rw [hP, up_ne1 (by omega), up_ne1 (by omega), up_ne1 (by omega), up_ne1 (by omega)]
        have qa : ∀ j, P (32 * (u + 11)) j = if j = M (u + 10) 5 then tk else M (32 * (u + 11)) j := fun j => by
          rw [hP, up_ne1 (by omega), up_ne1 (by omega), show 32 * (u + 10 + 1) = 32 * (u + 11) by omega]
          split
          · next z => rw [z, up_same]
          · next z => rw [up_nei z, up_ne1 (by omega)]
        have qb : ∀ j, P (32 * (u + 11) + 1) j = if j = M (u + 10) 5 then 0 else M (32 * (u + 11) + 1) j := fun j => by
          rw [hP, up_ne1 (by omega), show 32 * (u + 10 + 1) = 32 * (u + 11) by omega]
          split
          · next z => rw [z, up_same]
          · next z => rw [up_nei z, up_ne1 (by omega), up_ne1 (by omega)]
        refine ih P ⟨⟨by omega, by omega, by omega, b4, b5, ?_, ?_, b8⟩, ?_⟩ (by omega)
        · intro j c2 c3
          rw [qa, qb]
          by_cases c4 : j = M (u + 10) 5
          · rw [if_pos c4, if_pos c4, c4, p1]
            exact .inr (.inr ⟨rfl, p2⟩)
          · rw [if_neg c4, if_neg c4]
            exact b6 j c2 (by omega)
        · intro q c2 c3
          have := b7 (q + 1) (by omega) (by omega)
          rw [q5, q2, qs, show M (u + 10) 5 + 1 + q = M (u + 10) 5 + (q + 1) by omega, show M 11 2 - 1 - 1 - q = M 11 2 - 1 - (q + 1) by omega]
          exact this
        · intro n j c2 c3 c4
          rw [← hf n j c2 c3 c4, hP, up_ne (by omega), up_ne (by omega), up_ne (by omega), up_ne (by omega)]
  obtain ⟨⟨r, Mc'⟩, e, p1, p2, p3, p4⟩ := hw
  simp only at p1 p2 p3 p4
  rw [p1] at e
  exact ⟨Mc', e, p2, p3, p4⟩
