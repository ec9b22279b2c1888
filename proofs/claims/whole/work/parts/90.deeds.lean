/-! deeds -/
def nn (n : Int) : Int := if n < 20 then n else 19
def sg (n : Int) : Int := if n < 20 then 0 else 1
def NTC (kd s fo : Int) (M : Mem) : Mem := fun c i => if c = 8 ∧ i = 3 then nn (M 8 3) + 1 else if c = 288 ∧ i = nn (M 8 3) then kd else if c = 289 ∧ i = nn (M 8 3) then s else if c = 290 ∧ i = nn (M 8 3) then fo else if 288 ≤ c ∧ c ≤ 290 ∧ 0 ≤ i ∧ i < nn (M 8 3) then M c (i + sg (M 8 3)) else M c i
theorem noteJ {kd s fo n : Int} {M : Mem} (h : M 8 3 = n) (hn : 0 ≤ n ∧ n < 20) : f_X0_note_J13 kd s fo M = some (0, up (up (up (up M 288 n kd) 289 n s) 290 n fo) 8 3 (n + 1)) := by
  unfold f_X0_note_J13
  simp (disch := omega) only [w32_id, q_gf_e, q_gr_e, q_pf_e, q_pz_e, q_let_e, q_call_e, q_calp_e, q_al_ok, q_as_ok, q_nz_ok, up_same, up_nei, up_ne1, Int.toNat_natCast, reduceIte, Int.reduceEq, Int.reduceLT, Int.reduceLE, Int.reduceNeg, not_true_eq_false, not_false_eq_true, h]
theorem forgetC {M : Mem} : f_X0_forgetOldest M = some (0, fun c i => if c = 8 ∧ i = 3 then 19 else if 288 ≤ c ∧ c ≤ 290 ∧ 0 ≤ i ∧ i < 19 then M c (i + 1) else M c i) := by
  rw [← wpo_eq]
  unfold f_X0_forgetOldest f_X0_forgetOldest_L8
  (try simp (disch := omega) only [w32_id, q_gf_e, q_gr_e, q_pf_e, q_pz_e, q_let_e, q_call_e, q_calp_e, q_al_ok, q_as_ok, q_nz_ok, up_same, up_nei, up_ne1, Int.toNat_natCast, reduceIte, Int.reduceEq, Int.reduceLT, Int.reduceLE, Int.reduceNeg, not_true_eq_false, not_false_eq_true])
  refine qlm1_N (fun y M' => 0 ≤ y ∧ y ≤ 19 ∧ ∀ c i, M' c i = if c = 8 ∧ i = 3 then 19 else if 288 ≤ c ∧ c ≤ 290 ∧ 0 ≤ i ∧ i < y then M c (i + 1) else M c i) (fun y _ => (19 - y).toNat) _ _ ⟨by omega, by omega, ?_⟩ (by omega) ?_
  · intro c i
    unfold up
    grind
  · intro y M' g ⟨i1, i2, i3⟩ ih
    have e8 : M' 8 3 = 19 := by rw [i3, if_pos ⟨rfl, rfl⟩]
    have er : ∀ c, 288 ≤ c ∧ c ≤ 290 → M' c (y + 1) = M c (y + 1) := fun c hc => by rw [i3, if_neg (by omega), if_neg (by omega)]
    unfold f_X0_forgetOldest_B8
    simp (disch := omega) only [w32_id, q_gf_e, q_gr_e, q_pf_e, q_pz_e, q_let_e, q_call_e, q_calp_e, q_al_ok, q_as_ok, q_nz_ok, up_same, up_nei, up_ne1, Int.toNat_natCast, reduceIte, Int.reduceEq, Int.reduceLT, Int.reduceLE, Int.reduceNeg, not_true_eq_false, not_false_eq_true, e8]
    refine wpo_ite (fun cy => wpo_some.mpr ?_) (fun cy => ?_)
    · congr 1
      funext c i
      rw [i3, show y = 19 by omega]
    · (try simp (disch := omega) only [w32_id, q_gf_e, q_gr_e, q_pf_e, q_pz_e, q_let_e, q_call_e, q_calp_e, q_al_ok, q_as_ok, q_nz_ok, up_same, up_nei, up_ne1, Int.toNat_natCast, reduceIte, Int.reduceEq, Int.reduceLT, Int.reduceLE, Int.reduceNeg, not_true_eq_false, not_false_eq_true])
      refine ih _ _ ⟨by omega, by omega, ?_⟩ (by omega)
      rw [er 288 (by omega), er 289 (by omega), er 290 (by omega)]
      intro c i
      by_cases ci : i = y
      · subst ci
        by_cases hc : c = 288 ∨ c = 289 ∨ c = 290
        · rcases hc with rfl | rfl | rfl
          · rw [up_ne1 (by omega), up_ne1 (by omega), up_same, if_neg (by omega), if_pos (by omega)]
          · rw [up_ne1 (by omega), up_same, if_neg (by omega), if_pos (by omega)]
          · rw [up_same, if_neg (by omega), if_pos (by omega)]
        · rw [up_ne1 (by omega), up_ne1 (by omega), up_ne1 (by omega), i3]
          by_cases c8 : c = 8 ∧ i = 3
          · rw [if_pos c8, if_pos c8]
          · rw [if_neg c8, if_neg c8, if_neg (by omega), if_neg (by omega)]
      · rw [up_nej ci, up_nej ci, up_nej ci, i3]
        by_cases c8 : c = 8 ∧ i = 3
        · rw [if_pos c8, if_pos c8]
        · rw [if_neg c8, if_neg c8]
          by_cases c9 : 288 ≤ c ∧ c ≤ 290 ∧ 0 ≤ i ∧ i < y
          · rw [if_pos c9, if_pos (by omega)]
          · rw [if_neg c9, if_neg (by omega)]
theorem noteC {kd s fo : Int} {M : Mem} (h : 0 ≤ M 8 3 ∧ M 8 3 ≤ 20) : f_X0_note kd s fo M = some (0, NTC kd s fo M) := by
  unfold f_X0_note
  (try simp (disch := omega) only [w32_id, q_gf_e, q_gr_e, q_pf_e, q_pz_e, q_let_e, q_call_e, q_calp_e, q_al_ok, q_as_ok, q_nz_ok, up_same, up_nei, up_ne1, Int.toNat_natCast, reduceIte, Int.reduceEq, Int.reduceLT, Int.reduceLE, Int.reduceNeg, not_true_eq_false, not_false_eq_true])
  by_cases c : M 8 3 < 20
  · rw [if_pos c, noteJ rfl ⟨h.1, c⟩]
    congr 2
    funext d i
    unfold NTC nn sg up
    rw [if_pos c, if_pos c]
    by_cases d1 : d = 8 ∧ i = 3
    · rw [if_pos d1, if_pos d1]
    rw [if_neg d1, if_neg d1]
    by_cases d2 : d = 288 ∧ i = M 8 3
    · rw [if_neg (by omega), if_neg (by omega), if_pos d2, if_pos d2]
    by_cases d3 : d = 289 ∧ i = M 8 3
    · rw [if_neg (by omega), if_pos d3, if_neg d2, if_pos d3]
    by_cases d4 : d = 290 ∧ i = M 8 3
    · rw [if_pos d4, if_neg d2, if_neg d3, if_pos d4]
    rw [if_neg d4, if_neg d3, if_neg d2, if_neg d2, if_neg d3, if_neg d4]
    split
    · rw [Int.add_zero]
    · rfl
  · rw [if_neg c, forgetC, q_call_e, noteJ (n := 19) (by simp) (by omega)]
    congr 2
    funext d i
    unfold NTC nn sg up
    rw [if_neg c, if_neg c]
    by_cases d1 : d = 8 ∧ i = 3
    · rw [if_pos d1, if_pos d1]
    rw [if_neg d1, if_neg d1]
    by_cases d2 : d = 288 ∧ i = 19
    · rw [if_neg (by omega), if_neg (by omega), if_pos d2, if_pos d2]
    by_cases d3 : d = 289 ∧ i = 19
    · rw [if_neg (by omega), if_pos d3, if_neg d2, if_pos d3]
    by_cases d4 : d = 290 ∧ i = 19
    · rw [if_pos d4, if_neg d2, if_neg d3, if_pos d4]
    rw [if_neg d4, if_neg d3, if_neg d2, if_neg d2, if_neg d3, if_neg d4]
    show (if d = 8 ∧ i = 3 then (19 : Int) else if 288 ≤ d ∧ d ≤ 290 ∧ 0 ≤ i ∧ i < 19 then M d (i + 1) else M d i) = _
    rw [if_neg d1]
def SHM (y : Int) (N : Mem) : Mem := fun n i => if 67 ≤ n ∧ n ≤ 69 ∧ 3 ≤ i ∧ i < 3 + y then N n (i + 1) else if 70 ≤ n ∧ n ≤ 76 ∧ 24 ≤ i ∧ i < 24 + 8 * y then N n (i + 8) else N n i
def KNM (N : Mem) : Mem := up (CPM (3 + nn (N 0 46)) 0 (if N 0 46 < 20 then N else up (SHM 19 N) 0 46 19)) 0 46 (nn (N 0 46) + 1)
theorem keepJ {n : Int} {N : Mem} (h : N 0 46 = n) (hn : 0 ≤ n ∧ n < 20) : f_X10_keepNow_J45 N = some (0, up (CPM (3 + n) 0 N) 0 46 (n + 1)) := by
  unfold f_X10_keepNow_J45
  have e : CPM (3 + n) 0 N 0 46 = n := by
    unfold CPM; rw [if_neg (by omega), if_neg (by omega)]; exact h
  simp (disch := omega) only [w32_id, q_gf_e, q_gr_e, q_pf_e, q_pz_e, q_let_e, q_call_e, q_calp_e, q_al_ok, q_as_ok, q_nz_ok, up_same, up_nei, up_ne1, Int.toNat_natCast, reduceIte, Int.reduceEq, Int.reduceLT, Int.reduceLE, Int.reduceNeg, not_true_eq_false, not_false_eq_true, h, copiesM (q := 3 + n) (q0 := 0) (M := N) (show 0 ≤ 3 + n ∧ 3 + n < 23 by omega) (show (0 : Int) ≤ 0 ∧ (0 : Int) < 23 by omega) (show 3 + n ≠ 0 by omega), e]
theorem keepM {N : Mem} (h : 0 ≤ N 0 46 ∧ N 0 46 ≤ 20) : f_X10_keepNow N = some (0, KNM N) := by
  unfold f_X10_keepNow KNM nn
  (try simp (disch := omega) only [w32_id, q_gf_e, q_gr_e, q_pf_e, q_pz_e, q_let_e, q_call_e, q_calp_e, q_al_ok, q_as_ok, q_nz_ok, up_same, up_nei, up_ne1, Int.toNat_natCast, reduceIte, Int.reduceEq, Int.reduceLT, Int.reduceLE, Int.reduceNeg, not_true_eq_false, not_false_eq_true])
  by_cases c : N 0 46 < 20
  · rw [if_pos (by omega), if_pos c, if_pos c, keepJ rfl ⟨h.1, c⟩]
  · have e20 : N 0 46 = 20 := by omega
    rw [if_neg (by omega), if_neg c, if_neg c, ← wpo_eq]
    unfold f_X10_keepNow_L11
    refine qlm1_N (fun y M => 1 ≤ y ∧ y ≤ 20 ∧ M = SHM (y - 1) N) (fun y _ => (20 - y).toNat) _ _ ⟨by omega, by omega, ?_⟩ (by omega) ?_
    · funext n i
      unfold SHM
      rw [if_neg (by omega), if_neg (by omega)]
    · intro y M g ⟨i1, i2, i3⟩ ih
      unfold f_X10_keepNow_B11
      (try simp (disch := omega) only [w32_id, q_gf_e, q_gr_e, q_pf_e, q_pz_e, q_let_e, q_call_e, q_calp_e, q_al_ok, q_as_ok, q_nz_ok, up_same, up_nei, up_ne1, Int.toNat_natCast, reduceIte, Int.reduceEq, Int.reduceLT, Int.reduceLE, Int.reduceNeg, not_true_eq_false, not_false_eq_true])
      refine wpo_ite (fun cy => ?_) (fun cy => ?_)
      · have ey : y = 20 := by omega
        subst ey
        have e46 : M 0 46 = 20 := by
          rw [i3]; unfold SHM; rw [if_neg (by omega), if_neg (by omega)]; exact e20
        rw [e46, keepJ (n := 19) (by rw [up_same]; omega) (by omega), i3]
        exact wpo_some.mpr rfl
      · rw [show 3 + y - 1 = 2 + y by omega, copiesM (by omega) (by omega) (by omega)]
        (try simp (disch := omega) only [w32_id, q_gf_e, q_gr_e, q_pf_e, q_pz_e, q_let_e, q_call_e, q_calp_e, q_al_ok, q_as_ok, q_nz_ok, up_same, up_nei, up_ne1, Int.toNat_natCast, reduceIte, Int.reduceEq, Int.reduceLT, Int.reduceLE, Int.reduceNeg, not_true_eq_false, not_false_eq_true])
        refine ih _ _ ⟨by omega, by omega, ?_⟩ (by omega)
        rw [i3]
        funext n i
        unfold CPM SHM
        by_cases d1 : 67 ≤ n ∧ n ≤ 69 ∧ i = 2 + y
        · rw [if_pos d1, if_neg (by omega), if_neg (by omega), if_pos (by omega), show i + 1 = 3 + y by omega]
        · rw [if_neg d1]
          by_cases d2 : 70 ≤ n ∧ n ≤ 76 ∧ 8 * (2 + y) ≤ i ∧ i < 8 * (2 + y) + 8
          · rw [if_pos d2, if_neg (by omega), if_neg (by omega), if_neg (by omega), if_pos (by omega), show 8 * (3 + y) + (i - 8 * (2 + y)) = i + 8 by omega]
          · rw [if_neg d2]
            by_cases d3 : 67 ≤ n ∧ n ≤ 69 ∧ 3 ≤ i ∧ i < 3 + (y - 1)
            · rw [if_pos d3, if_pos (by omega)]
            · rw [if_neg d3, if_neg (show ¬ (67 ≤ n ∧ n ≤ 69 ∧ 3 ≤ i ∧ i < 3 + (y + 1 - 1)) by omega)]
              by_cases d4 : 70 ≤ n ∧ n ≤ 76 ∧ 24 ≤ i ∧ i < 24 + 8 * (y - 1)
              · rw [if_pos d4, if_pos (by omega)]
              · rw [if_neg d4, if_neg (by omega)]
theorem KNM.q {N : Mem} (h : 0 ≤ N 0 46 ∧ N 0 46 ≤ 20) : KNM N 0 46 = nn (N 0 46) + 1 ∧ (∀ f, f ≠ 46 → KNM N 0 f = N 0 f) ∧ (∀ n, n ≠ 0 → (n < 67 ∨ 76 < n) → KNM N n = N n) ∧ (∀ q, 0 ≤ q → q < 3 → VEQ (mvw q N) (mvw q (KNM N))) ∧ (∀ j, 0 ≤ j → j < nn (N 0 46) → VEQ (mvw (3 + j + sg (N 0 46)) N) (mvw (3 + j) (KNM N))) ∧ VEQ (mvw 0 N) (mvw (3 + nn (N 0 46)) (KNM N)) := by
  have hn : 0 ≤ nn (N 0 46) ∧ nn (N 0 46) ≤ 19 := by unfold nn; split <;> omega
  obtain ⟨B, hB⟩ : ∃ B, B = (if N 0 46 < 20 then N else up (SHM 19 N) 0 46 19) := ⟨_, rfl⟩
  have b0 : ∀ f, f ≠ 46 → B 0 f = N 0 f := by
    intro f a
    rw [hB]
    split
    · rfl
    · rw [up_nei a]; unfold SHM; rw [if_neg (by omega), if_neg (by omega)]
  have bn : ∀ n, n ≠ 0 → (n < 67 ∨ 76 < n) → B n = N n := by
    intro n a b
    rw [hB]
    split
    · rfl
    · rw [up_ne1 a]; funext i; unfold SHM; rw [if_neg (by omega), if_neg (by omega)]
  have bq : ∀ n i, 67 ≤ n → n ≤ 69 → B n i = (if 3 ≤ i ∧ i < 3 + nn (N 0 46) then N n (i + sg (N 0 46)) else N n i) := by
    intro n i a b
    rw [hB]
    unfold nn sg
    by_cases c : N 0 46 < 20
    · rw [if_pos c, if_pos c, if_pos c, Int.add_zero, ite_self]
    · rw [if_neg c, if_neg c, if_neg c, up_ne1 (by omega)]
      unfold SHM
      by_cases d : 3 ≤ i ∧ i < 3 + 19
      · rw [if_pos ⟨a, b, d⟩, if_pos d]
      · rw [if_neg (fun h => d h.2.2), if_neg (by omega), if_neg d]
  have br : ∀ n i, 70 ≤ n → n ≤ 76 → B n i = (if 24 ≤ i ∧ i < 24 + 8 * nn (N 0 46) then N n (i + 8 * sg (N 0 46)) else N n i) := by
    intro n i a b
    rw [hB]
    unfold nn sg
    by_cases c : N 0 46 < 20
    · rw [if_pos c, if_pos c, if_pos c, Int.mul_zero, Int.add_zero, ite_self]
    · rw [if_neg c, if_neg c, if_neg c, up_ne1 (by omega)]
      unfold SHM
      by_cases d : 24 ≤ i ∧ i < 24 + 8 * 19
      · rw [if_neg (by omega), if_pos ⟨a, b, d⟩, if_pos d, Int.mul_one]
      · rw [if_neg (by omega), if_neg (fun h => d h.2.2), if_neg d]
  have e : KNM N = up (CPM (3 + nn (N 0 46)) 0 B) 0 46 (nn (N 0 46) + 1) := by
    unfold KNM; rw [hB]
  rw [e]
  refine ⟨up_same _ _ _ _, fun f a => ?_, fun n a b => ?_, fun q a b => ?_, fun j a b => ?_, ?_⟩
  · rw [up_nei a]; unfold CPM; rw [if_neg (by omega), if_neg (by omega)]; exact b0 f a
  · rw [up_ne1 a, ← bn n a b]; funext i; unfold CPM; rw [if_neg (by omega), if_neg (by omega)]
  · refine mvw_eq (fun n c d => ?_) (fun n i c d f g => ?_)
    · rw [up_ne1 (by omega)]; unfold CPM; rw [if_neg (by omega), if_neg (by omega), bq n q c d, if_neg (by omega)]
    · rw [up_ne1 (by omega)]; unfold CPM; rw [if_neg (by omega), if_neg (by omega), br n i c d, if_neg (by omega)]
  · have k1 : ∀ n, 67 ≤ n → n ≤ 69 → N n (3 + j + sg (N 0 46)) = up (CPM (3 + nn (N 0 46)) 0 B) 0 46 (nn (N 0 46) + 1) n (3 + j) := by
      intro n c d
      rw [up_ne1 (by omega)]; unfold CPM; rw [if_neg (by omega), if_neg (by omega), bq n _ c d, if_pos (by omega)]
    refine ⟨k1 67 (by omega) (by omega), k1 68 (by omega) (by omega), k1 69 (by omega) (by omega), fun f i c d x y => ?_⟩
    have em : 70 ≤ mvc f ∧ mvc f ≤ 76 := by unfold mvc; split <;> omega
    have ef : f ≠ 0 := by omega
    simp only [mvw, if_neg ef]
    rw [up_ne1 (by omega)]; unfold CPM
    rw [if_neg (by omega), if_neg (by omega), br _ _ em.1 em.2, if_pos (by omega), show 8 * (3 + j) + i + 8 * sg (N 0 46) = 8 * (3 + j + sg (N 0 46)) + i by omega]
  · have k1 : ∀ n, 67 ≤ n → n ≤ 69 → N n 0 = up (CPM (3 + nn (N 0 46)) 0 B) 0 46 (nn (N 0 46) + 1) n (3 + nn (N 0 46)) := by
      intro n c d
      rw [up_ne1 (by omega)]; unfold CPM; rw [if_pos ⟨c, d, rfl⟩, bq n 0 c d, if_neg (by omega)]
    refine ⟨k1 67 (by omega) (by omega), k1 68 (by omega) (by omega), k1 69 (by omega) (by omega), fun f i c d x y => ?_⟩
    have em : 70 ≤ mvc f ∧ mvc f ≤ 76 := by unfold mvc; split <;> omega
    have ef : f ≠ 0 := by omega
    simp only [mvw, if_neg ef]
    rw [up_ne1 (by omega)]; unfold CPM
    rw [if_neg (by omega), if_pos (by omega), br _ _ em.1 em.2, if_neg (by omega), show 8 * 0 + (8 * (3 + nn (N 0 46)) + i - 8 * (3 + nn (N 0 46))) = 8 * 0 + i by omega]
