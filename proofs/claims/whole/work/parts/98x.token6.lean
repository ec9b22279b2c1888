/-! tokens: signs, and a token of both sides -/
def sgT (x y : Int) : Int := if x = 59 then 22 else if x = 40 then 23 else if x = 41 then 24 else if x = 43 then 25 else if x = 45 then 26 else if x = 42 then 27 else if x = 47 then 28 else if x = 61 then 31 else if x = 60 then (if y = 61 then 30 else if y = 62 then 32 else 29) else if x = 62 then (if y = 61 then 33 else 34) else 36
def two (t : Int) : Prop := t = 30 ∨ t = 32 ∨ t = 33
theorem j281 {M : Mem} {t : Int} (h : 0 ≤ t ∧ t < 40) : f_X7_readSign_J281 (up M 10 4 t) = some (0, if t = 30 ∨ t = 32 ∨ t = 33 then up (up M 10 4 t) 10 3 (M 10 3 + 1) else up M 10 4 t) := by
  unfold f_X7_readSign_J281 f_X7_readSign_J308
  simp (disch := omega) only [w32_id, q_gf_e, q_gr_e, q_pf_e, q_pz_e, q_let_e, q_call_e, q_calp_e, q_al_ok, q_as_ok, q_nz_ok, up_same, up_nei, up_ne1, Int.toNat_natCast, reduceIte, Int.reduceEq, Int.reduceLT, Int.reduceLE, Int.reduceNeg, not_true_eq_false, not_false_eq_true]
  by_cases c1 : t = 30
  · rw [if_pos c1, if_pos (.inl c1)]
  · rw [if_neg c1]
    by_cases c2 : t = 32
    · rw [if_pos c2, if_pos (.inr (.inl c2))]
    · rw [if_neg c2]
      by_cases c3 : t = 33
      · rw [if_neg (fun h => h c3), if_pos (.inr (.inr c3))]
      · rw [if_pos c3, if_neg (by omega)]
theorem sgT_rng (x y : Int) : 22 ≤ sgT x y ∧ sgT x y ≤ 36 := by
  unfold sgT
  repeat' split
  all_goals omega
set_option maxHeartbeats 2000000 in
theorem signC {x y : Int} {M : Mem} (hx : -128 ≤ x ∧ x < 128) (hy : -128 ≤ y ∧ y < 128) : f_X7_readSign_J44 x y M = f_X7_readSign_J281 (up M 10 4 (sgT x y)) := by
  unfold f_X7_readSign_J44 f_X7_readSign_J249 f_X7_readSign_J269
  rw [w32_id (x := x) (by omega), w32_id (x := y) (by omega), w32_id (x := 61) (by omega), w32_id (x := 62) (by omega)]
  by_cases c : x < 40 ∨ 62 < x
  · rw [show sgT x y = 36 by unfold sgT; repeat' split
                             all_goals omega]
    simp only [q_pf_e]
    repeat rw [if_neg (by omega)]
  · obtain ⟨k, hk, rfl⟩ : ∃ k : Nat, k < 23 ∧ x = 40 + k := ⟨(x - 40).toNat, by omega, by omega⟩
    rcases (show k = 0 ∨ k = 1 ∨ k = 2 ∨ k = 3 ∨ k = 4 ∨ k = 5 ∨ k = 6 ∨ k = 7 ∨ k = 8 ∨ k = 9 ∨ k = 10 ∨ k = 11 ∨ k = 12 ∨ k = 13 ∨ k = 14 ∨ k = 15 ∨ k = 16 ∨ k = 17 ∨ k = 18 ∨ k = 19 ∨ k = 20 ∨ k = 21 ∨ k = 22 by omega) with rfl | rfl | rfl | rfl | rfl | rfl | rfl | rfl | rfl | rfl | rfl | rfl | rfl | rfl | rfl | rfl | rfl | rfl | rfl | rfl | rfl | rfl | rfl <;> simp [sgT, q_pf_e]
    · by_cases c1 : y = 61
      · simp [c1]
      · by_cases c2 : y = 62
        · simp [c2]
        · simp [c1, c2]
    · by_cases c1 : y = 61
      · simp [c1]
      · simp [c1]
def sgV (x y : Int) : Int := if x = 60 ∧ y = 61 then 256 else if x = 60 ∧ y = 62 then 257 else if x = 62 ∧ y = 61 then 258 else x
def isSg (x : Int) : Prop := x = 59 ∨ x = 40 ∨ x = 41 ∨ x = 43 ∨ x = 45 ∨ x = 42 ∨ x = 47 ∨ x = 60 ∨ x = 61 ∨ x = 62
theorem sign76 {x s L a : Int} {M : Mem} (hx : 0 ≤ x ∧ x < 256) (hL : 0 ≤ L ∧ L ≤ 700) (e2 : M 0 21 = L) (e3 : M 0 22 = a) (ha : 0 ≤ a ∧ a ≤ 700) (hB : ∀ i, 0 ≤ i → i < L → 0 ≤ M 33 i ∧ M 33 i < 256) : f_X10_sign_J76 x s M = some (0, if 256 ≤ sgV x (hereV M) then up (up (up M 0 24 s) 0 25 (sgV x (hereV M))) 0 22 (a + 1) else up (up M 0 24 s) 0 25 (sgV x (hereV M))) := by
  have hh : -1 ≤ hereV M ∧ hereV M < 256 := by
    unfold hereV
    rw [e2, e3]
    split
    · omega
    · have := hB a (by omega) (by omega); omega
  have he : ∀ v : Int, f_X10_here (up (up M 0 24 s) 0 25 v) = some (hereV M) := fun v => by
    rw [hereM (by rw [up_nei (by omega), up_nei (by omega)]; omega) (by rw [up_nei (by omega), up_nei (by omega)]; omega)]
    unfold hereV
    rw [up_nei (by omega), up_nei (by omega), up_nei (by omega), up_nei (by omega), up_ne1 (by omega), up_ne1 (by omega)]
  have j150 : ∀ v : Int, 0 ≤ v → v < 1000 → f_X10_sign_J150 (up (up M 0 24 s) 0 25 v) = some (0, if 256 ≤ v then up (up (up M 0 24 s) 0 25 v) 0 22 (a + 1) else up (up M 0 24 s) 0 25 v) := fun v v1 v2 => by
    unfold f_X10_sign_J150
    simp (disch := omega) only [w32_id, q_gf_e, q_gr_e, q_pf_e, q_pz_e, q_let_e, q_call_e, q_calp_e, q_al_ok, q_as_ok, q_nz_ok, up_same, up_nei, up_ne1, Int.toNat_natCast, reduceIte, Int.reduceEq, Int.reduceLT, Int.reduceLE, Int.reduceNeg, not_true_eq_false, not_false_eq_true, e3]
    by_cases c : v < 256
    · rw [if_pos c, if_neg (by omega)]
    · rw [if_neg c, if_pos (by omega)]
  unfold f_X10_sign_J76 f_X10_sign_J106 f_X10_sign_J128
  simp only [q_pf_e, q_calp_e, he, up_up]
  rw [w32_id (x := x) (by omega), w32_id (x := hereV M) (by omega), w32_id (x := 60) (by omega), w32_id (x := 61) (by omega), w32_id (x := 62) (by omega)]
  generalize hereV M = y at *
  by_cases c60 : x = 60
  · subst c60
    by_cases c1 : y = 61
    · subst c1
      simp [sgV, j150]
    · by_cases c2 : y = 62
      · subst c2
        simp [sgV, j150]
      · simp [sgV, j150, c1, c2]
  · by_cases c62 : x = 62
    · subst c62
      by_cases c1 : y = 61
      · subst c1
        simp [sgV, j150]
      · simp [sgV, j150, c1]
    · have : sgV x y = x := by unfold sgV; rw [if_neg (by omega), if_neg (by omega), if_neg (by omega)]
      rw [this, if_pos c60, if_pos c60, if_pos c62, j150 x hx.1 (by omega)]
theorem signM {x L a : Int} {M : Mem} (hx : 0 ≤ x ∧ x < 256) (hL : 0 ≤ L ∧ L ≤ 700) (e2 : M 0 21 = L) (e3 : M 0 22 = a) (ha : 0 ≤ a ∧ a < 700) (hB : ∀ i, 0 ≤ i → i < L → 0 ≤ M 33 i ∧ M 33 i < 256) : ∃ s y, (isSg x ∧ s = 3 ∨ ¬ isSg x ∧ s = 5) ∧ y = (if L ≤ a + 1 then -1 else M 33 (a + 1)) ∧ f_X10_sign x M = some (0, up (up (up M 0 22 (if 256 ≤ sgV x y then a + 2 else a + 1)) 0 24 s) 0 25 (sgV x y)) := by
  have hs : ∀ s, f_X10_sign_J76 x s (up M 0 22 (a + 1)) = some (0, up (up (up M 0 22 (if 256 ≤ sgV x (if L ≤ a + 1 then -1 else M 33 (a + 1)) then a + 2 else a + 1)) 0 24 s) 0 25 (sgV x (if L ≤ a + 1 then -1 else M 33 (a + 1)))) := fun s => by
    rw [sign76 hx hL (by rw [up_nei (by omega)]; exact e2) (up_same _ _ _ _) (by omega) (by rw [up_ne1 (by omega)]; exact hB)]
    have : hereV (up M 0 22 (a + 1)) = if L ≤ a + 1 then -1 else M 33 (a + 1) := by
      unfold hereV
      rw [up_nei (by omega), up_same, e2, up_ne1 (by omega)]
    rw [this]
    generalize sgV x _ = v
    congr 2
    by_cases c : 256 ≤ v
    · rw [if_pos c, if_pos c]
      funext n i
      unfold up
      grind
    · rw [if_neg c, if_neg c]
  unfold f_X10_sign f_X10_sign_J71
  rw [q_gf_e, q_pf_e, e3]
  rw [w32_id (x := x) (by omega)]
  by_cases c : isSg x
  · refine ⟨3, _, .inl ⟨c, rfl⟩, rfl, ?_⟩
    unfold isSg at c
    rcases c with c | c | c | c | c | c | c | c | c | c <;> subst c <;> exact hs 3
  · refine ⟨5, _, .inr ⟨c, rfl⟩, rfl, ?_⟩
    unfold isSg at c
    (try simp (disch := omega) only [w32_id, q_gf_e, q_gr_e, q_pf_e, q_pz_e, q_let_e, q_call_e, q_calp_e, q_al_ok, q_as_ok, q_nz_ok, up_same, up_nei, up_ne1, Int.toNat_natCast, reduceIte, Int.reduceEq, Int.reduceLT, Int.reduceLE, Int.reduceNeg, not_true_eq_false, not_false_eq_true])
    rw [if_neg (by omega), if_neg (by omega), if_neg (by omega), if_neg (by omega), if_neg (by omega), if_neg (by omega), if_neg (by omega), if_neg (by omega), if_neg (by omega), if_pos (by omega)]
    exact hs 5
