theorem PIV_AW {s p f : Int} {v : Mem} : PIV s p (AWV s f v) = PIV s p (TOV f v) := by
  funext g i
  have e9 : AWV s f v 0 9 = TOV f v 0 9 := by rw [AWV.f0, TOV.f0]
  by_cases c0 : g = 0
  · subst c0; rw [PIV.f0, PIV.f0, e9]
    by_cases ci : i = 9
    · rw [if_pos ci, if_pos ci]
    · rw [if_neg ci, if_neg ci, AWV.f0, TOV.f0]
  by_cases c8 : g = 8
  · subst c8
    rw [PIV.f8, PIV.f8, e9, AWV.f8, AWV.f8, TOV.f8, TOV.f8]
  by_cases c2 : g = 2
  · subst c2
    rw [PIV.f2, PIV.f2, AWV.f2, TOV.fo (by omega)]
    by_cases ci : i = s
    · rw [if_pos ci, if_pos ci]
    · rw [if_neg ci, if_neg ci, if_neg ci]
  · rw [PIV.fo ⟨c0, c2, c8⟩, PIV.fo ⟨c0, c2, c8⟩, AWV.fo ⟨c0, c2, c8⟩, TOV.fo ⟨c0, c8⟩]
def MVM (s f p : Int) (M : Mem) : Mem := fun n i => if n = 70 ∧ i = p then s else if n = 70 ∧ f ≤ i ∧ i < p then M 70 (i + 1) else if n = 70 ∧ p < i ∧ i ≤ f then M 70 (i - 1) else M n i
theorem moveM1 {s f p : Int} {M : Mem} (hf : 0 ≤ f ∧ f < 8) (hp : 0 ≤ p ∧ p < 8) (h : f < p) : f_X10_move_J67 s p f 1 M = some (1, MVM s f p M) := by
  rw [← wpo_eq]
  unfold f_X10_move_J67 f_X10_move_L72
  refine qlm1_N (fun x M' => f ≤ x ∧ x ≤ p ∧ ∀ n i, M' n i = if n = 70 ∧ f ≤ i ∧ i < x then M 70 (i + 1) else M n i) (fun x _ => (p - x).toNat) _ _ ⟨by omega, by omega, fun n i => by rw [if_neg (by omega)]⟩ (by omega) ?_
  intro x M' g ⟨i1, i2, i3⟩ ih
  unfold f_X10_move_B72
  (try simp (disch := omega) only [w32_id, q_gf_e, q_gr_e, q_pf_e, q_pz_e, q_let_e, q_call_e, q_calp_e, q_al_ok, q_as_ok, q_nz_ok, up_same, up_nei, up_ne1, Int.toNat_natCast, reduceIte, Int.reduceEq, Int.reduceLT, Int.reduceLE, Int.reduceNeg, not_true_eq_false, not_false_eq_true])
  refine wpo_ite (fun c => wpo_some.mpr ?_) (fun c => ?_)
  · congr 1
    funext n i
    unfold MVM up
    rw [i3]
    by_cases d1 : n = 70 ∧ i = p
    · rw [if_pos d1, if_pos d1]
    · rw [if_neg d1, if_neg d1, c]
      by_cases d2 : n = 70 ∧ f ≤ i ∧ i < p
      · rw [if_pos d2, if_pos d2]
      · rw [if_neg d2, if_neg d2, if_neg (by omega)]
  · refine ih _ _ ⟨by omega, by omega, fun n i => ?_⟩ (by omega)
    have er : M' 70 (x + 1) = M 70 (x + 1) := by rw [i3, if_neg (by omega)]
    rw [er]
    unfold up
    by_cases d1 : n = 70 ∧ i = x
    · rw [if_pos d1, if_pos (by omega), d1.2]
    · rw [if_neg d1, i3]
      by_cases d2 : n = 70 ∧ f ≤ i ∧ i < x
      · rw [if_pos d2, if_pos (by omega)]
      · rw [if_neg d2, if_neg (by omega)]
theorem moveM2 {s f p : Int} {M : Mem} (hf : 0 ≤ f ∧ f < 8) (hp : 0 ≤ p ∧ p < 8) (h : p < f) : f_X10_move_J67 s p f (-1) M = some (1, MVM s f p M) := by
  rw [← wpo_eq]
  unfold f_X10_move_J67 f_X10_move_L72
  refine qlm1_N (fun x M' => p ≤ x ∧ x ≤ f ∧ ∀ n i, M' n i = if n = 70 ∧ x < i ∧ i ≤ f then M 70 (i - 1) else M n i) (fun x _ => (x - p).toNat) _ _ ⟨by omega, by omega, fun n i => by rw [if_neg (by omega)]⟩ (by omega) ?_
  intro x M' g ⟨i1, i2, i3⟩ ih
  unfold f_X10_move_B72
  (try simp (disch := omega) only [w32_id, q_gf_e, q_gr_e, q_pf_e, q_pz_e, q_let_e, q_call_e, q_calp_e, q_al_ok, q_as_ok, q_nz_ok, up_same, up_nei, up_ne1, Int.toNat_natCast, reduceIte, Int.reduceEq, Int.reduceLT, Int.reduceLE, Int.reduceNeg, not_true_eq_false, not_false_eq_true])
  refine wpo_ite (fun c => wpo_some.mpr ?_) (fun c => ?_)
  · congr 1
    funext n i
    unfold MVM up
    rw [i3]
    by_cases d1 : n = 70 ∧ i = p
    · rw [if_pos d1, if_pos d1]
    · rw [if_neg d1, if_neg d1, if_neg (show ¬ (n = 70 ∧ f ≤ i ∧ i < p) by omega), c]
  · refine ih _ _ ⟨by omega, by omega, fun n i => ?_⟩ (by omega)
    have er : M' 70 (x + -1) = M 70 (x + -1) := by rw [i3, if_neg (by omega)]
    rw [er]
    unfold up
    by_cases d1 : n = 70 ∧ i = x
    · rw [if_pos d1, if_pos (by omega), d1.2]; rfl
    · rw [if_neg d1, i3]
      by_cases d2 : n = 70 ∧ x < i ∧ i ≤ f
      · rw [if_pos d2, if_pos (by omega)]
      · rw [if_neg d2, if_neg (by omega)]
theorem MVM.vw {s f p : Int} {M : Mem} (hf : 0 ≤ f ∧ f < M 69 0) (hp : 0 ≤ p ∧ p < M 69 0) (h1 : M 71 s = 1) : mvw 0 (MVM s f p M) 0 9 = M 69 0 ∧ ∀ S, EQV S (mvw 0 (MVM s f p M)) (PIV s p (TOV f (mvw 0 M))) := by
  have e9 : mvw 0 M 0 9 = M 69 0 := rfl
  have mN : ∀ n, n ≠ 70 → MVM s f p M n = M n := fun n a => by
    funext i; unfold MVM; rw [if_neg (by omega), if_neg (by omega), if_neg (by omega)]
  have q9 : mvw 0 (MVM s f p M) 0 9 = M 69 0 := by show MVM s f p M 69 0 = _; rw [mN 69 (by omega)]
  refine ⟨q9, fun S => ⟨?_, ?_, ?_, fun i a b => ?_, fun j a b => ?_⟩⟩
  · rw [PIV.f0, if_neg (by omega), TOV.f0, if_neg (by omega)]
    show MVM s f p M 67 0 = M 67 0
    rw [mN 67 (by omega)]
  · rw [PIV.f0, if_neg (by omega), TOV.f0, if_neg (by omega)]
    show MVM s f p M 68 0 = M 68 0
    rw [mN 68 (by omega)]
  · rw [q9, PIV.f0, if_pos rfl, TOV.f0, if_pos rfl, e9]; omega
  · rw [q9] at b
    have h8 : ∀ j, mvw 0 M 8 j = M 70 j := fun j => by show M 70 (8 * 0 + j) = _; rw [show (8 * 0 + j : Int) = j by omega]
    have g8 : mvw 0 (MVM s f p M) 8 i = MVM s f p M 70 i := by show MVM s f p M 70 (8 * 0 + i) = _; rw [show (8 * 0 + i : Int) = i by omega]
    rw [g8, PIV.f8, TOV.f0, if_pos rfl, e9, TOV.f8, TOV.f8, e9, h8, h8, h8, h8]
    unfold MVM
    by_cases c : i = p
    · rw [if_pos ⟨rfl, c⟩, if_pos c]
    · rw [if_neg (by omega), if_neg c]
      by_cases d : p < i
      · rw [if_neg (by omega), if_pos (show p < i ∧ i ≤ M 69 0 - 1 by omega)]
        by_cases e : i ≤ f
        · rw [if_pos ⟨rfl, d, e⟩, if_neg (by omega)]
        · rw [if_neg (by omega), if_pos (by omega), show i - 1 + 1 = i by omega]
      · rw [if_neg (show ¬ (p < i ∧ i ≤ M 69 0 - 1) by omega)]
        by_cases e : f ≤ i
        · rw [if_pos ⟨rfl, e, by omega⟩, if_pos (by omega)]
        · rw [if_neg (by omega), if_neg (by omega), if_neg (by omega)]
  · have hq : ∀ (g : Nat) (M : Mem), g ≠ 0 → g ≠ 8 → mvw 0 M g j = M (g + 69) (8 * 0 + j) := fun g M a b => by simp [mvw, mvc, a, b]
    have q : ∀ g : Nat, g ≠ 0 ∧ g ≠ 2 ∧ g ≠ 8 → g ≠ 1 → mvw 0 (MVM s f p M) g j = PIV s p (TOV f (mvw 0 M)) g j := fun g h h' => by
      rw [PIV.fo h, TOV.fo ⟨h.1, h.2.2⟩, hq g _ h.1 h.2.2, hq g _ h.1 h.2.2, mN (g + 69) (by omega)]
    refine ⟨?_, q 3 (by omega) (by omega), q 4 (by omega) (by omega), q 5 (by omega) (by omega), fun _ => ⟨q 6 (by omega) (by omega), q 7 (by omega) (by omega)⟩⟩
    have u2 : mvw 0 (MVM s f p M) 2 j = mvw 0 M 2 j := by rw [hq 2 _ (by omega) (by omega), hq 2 _ (by omega) (by omega), mN (2 + 69) (by omega)]
    rw [u2, PIV.f2, TOV.fo (by omega), hq 2 _ (by omega) (by omega)]
    by_cases c : j = s
    · rw [if_pos c, c, show (8 * 0 + s : Int) = s by omega]; exact h1
    · rw [if_neg c]
theorem TOC.vw {k : Nat} {p : Int} {M : Mem} : VEQ (cvw k (TOC k p M)) (TOV p (cvw k M)) := by
  have e9 : cvw k M 0 9 = M k 9 := rfl
  refine ⟨?_, ?_, ?_, fun f i a1 a2 a3 a4 => ?_⟩
  · rw [TOV.f0, if_neg (by omega)]
    show TOC k p M k 0 = M k 0
    unfold TOC; rw [if_neg (by omega), if_neg (by omega)]
  · rw [TOV.f0, if_neg (by omega)]
    show TOC k p M k 1 = M k 1
    unfold TOC; rw [if_neg (by omega), if_neg (by omega)]
  · rw [TOV.f0, if_pos rfl]
    show TOC k p M k 9 = M k 9 - 1
    unfold TOC; rw [if_neg (by omega), if_pos ⟨rfl, rfl⟩]
  · have hc : ∀ M : Mem, cvw k M f i = M (32 * (k + 1) + f) i := fun M => by unfold cvw; rw [if_neg (by omega)]
    by_cases c8 : f = 8
    · subst c8
      rw [TOV.f8, hc, e9]
      have h8 : ∀ j, cvw k M 8 j = M (32 * (k + 1) + 8) j := fun j => rfl
      rw [h8, h8]
      unfold TOC
      have n1 : ¬ (32 * (k + 1) + 8 = k ∧ i = 9) := by omega
      simp [n1]
    · rw [TOV.fo (by omega), hc, hc]
      unfold TOC; rw [if_neg (by omega), if_neg (by omega)]
