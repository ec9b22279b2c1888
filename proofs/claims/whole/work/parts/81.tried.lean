/-- all have coins in plenty: on both sides -/
def RCC (y : Int) (M : Mem) : Mem := fun n i => if n = 195 ∧ 0 ≤ i ∧ i < y then 99 else M n i
def RCM (y : Int) (M : Mem) : Mem := fun n i => if n = 72 ∧ 8 ≤ i ∧ i < 8 + y then 99 else M n i
theorem richC {t : Nat} {x3 : Int} {M : Mem} (h03 : M 0 3 = t) (ht : t = 2 ∨ t = 3) (hS : 0 ≤ M t 0 ∧ M t 0 ≤ 8) : f_X9_tried_L74 x3 q_N 0 M = f_X9_tried_J104 x3 (RCC (M t 0) M) := by
  have key : ∀ (n : Nat) (y : Int), 0 ≤ y → y ≤ M t 0 → (M t 0 - y).toNat < n → f_X9_tried_L74 x3 n y (RCC y M) = f_X9_tried_J104 x3 (RCC (M t 0) M) := by
    intro n
    induction n with
    | zero => intro y _ _ h; exact absurd h (Nat.not_lt_zero _)
    | succ n ih =>
      intro y h0 h1 hn
      show f_X9_tried_B74 x3 y (RCC y M) (fun a b => f_X9_tried_L74 x3 n a b) = _
      have e0 : RCC y M 0 = M 0 := by funext i; unfold RCC; rw [if_neg (by omega)]
      have et : RCC y M t = M t := by funext i; unfold RCC; rw [if_neg (by omega)]
      unfold f_X9_tried_B74
      simp (disch := omega) only [w32_id, q_gf_e, q_gr_e, q_pf_e, q_pz_e, q_let_e, q_call_e, q_calp_e, q_al_ok, q_as_ok, q_nz_ok, up_same, up_nei, up_ne1, Int.toNat_natCast, reduceIte, Int.reduceEq, Int.reduceLT, Int.reduceLE, Int.reduceNeg, not_true_eq_false, not_false_eq_true, e0, h03, et]
      by_cases c : M t 0 ≤ y
      · rw [if_pos c, show y = M t 0 by omega]
      · rw [if_neg c]
        have e : up (RCC y M) 195 y 99 = RCC (y + 1) M := by
          funext n i
          unfold up RCC
          grind
        (try simp (disch := omega) only [w32_id, q_gf_e, q_gr_e, q_pf_e, q_pz_e, q_let_e, q_call_e, q_calp_e, q_al_ok, q_as_ok, q_nz_ok, up_same, up_nei, up_ne1, Int.toNat_natCast, reduceIte, Int.reduceEq, Int.reduceLT, Int.reduceLE, Int.reduceNeg, not_true_eq_false, not_false_eq_true])
        rw [e]
        exact ih (y + 1) (by omega) (by omega) (by omega)
  have e : RCC 0 M = M := by funext n i; unfold RCC; rw [if_neg (by omega)]
  have := key q_N 0 (by omega) (by omega) (q_N_lt (by omega))
  rwa [e] at this
theorem richM {x3 : Int} {M : Mem} : f_X10_tried_J87 5 x3 M = f_X10_tried_J120 5 x3 (RCM 8 M) := by
  have key : ∀ (n : Nat) (y : Int), 0 ≤ y → y ≤ 8 → (8 - y).toNat < n → f_X10_tried_L90 5 x3 n y (RCM y M) = f_X10_tried_J120 5 x3 (RCM 8 M) := by
    intro n
    induction n with
    | zero => intro y _ _ h; exact absurd h (Nat.not_lt_zero _)
    | succ n ih =>
      intro y h0 h1 hn
      show f_X10_tried_B90 5 x3 y (RCM y M) (fun a b => f_X10_tried_L90 5 x3 n a b) = _
      unfold f_X10_tried_B90
      (try simp (disch := omega) only [w32_id, q_gf_e, q_gr_e, q_pf_e, q_pz_e, q_let_e, q_call_e, q_calp_e, q_al_ok, q_as_ok, q_nz_ok, up_same, up_nei, up_ne1, Int.toNat_natCast, reduceIte, Int.reduceEq, Int.reduceLT, Int.reduceLE, Int.reduceNeg, not_true_eq_false, not_false_eq_true])
      by_cases c : 8 ≤ y
      · rw [if_pos c, show y = 8 by omega]
      · rw [if_neg c]
        have e : up (RCM y M) 72 (8 + y) 99 = RCM (y + 1) M := by
          funext n i
          unfold up RCM
          grind
        (try simp (disch := omega) only [w32_id, q_gf_e, q_gr_e, q_pf_e, q_pz_e, q_let_e, q_call_e, q_calp_e, q_al_ok, q_as_ok, q_nz_ok, up_same, up_nei, up_ne1, Int.toNat_natCast, reduceIte, Int.reduceEq, Int.reduceLT, Int.reduceLE, Int.reduceNeg, not_true_eq_false, not_false_eq_true])
        rw [e]
        exact ih (y + 1) (by omega) (by omega) (by omega)
  have e : RCM 0 M = M := by funext n i; unfold RCM; rw [if_neg (by omega)]
  have := key q_N 0 (by omega) (by omega) (q_N_lt (by omega))
  rw [e] at this
  exact this
theorem noRichM {x1 x3 : Int} {M : Mem} (hx : 0 ≤ x1 ∧ x1 ≤ 5) (h5 : x1 ≠ 5) : f_X10_tried_J87 x1 x3 M = f_X10_tried_J120 x1 x3 M := by
  have key : ∀ n : Nat, f_X10_tried_L90 x1 x3 (n + 1) 0 M = f_X10_tried_J120 x1 x3 M := by
    intro n
    show f_X10_tried_B90 x1 x3 0 M (fun a b => f_X10_tried_L90 x1 x3 n a b) = _
    unfold f_X10_tried_B90
    (try simp (disch := omega) only [w32_id, q_gf_e, q_gr_e, q_pf_e, q_pz_e, q_let_e, q_call_e, q_calp_e, q_al_ok, q_as_ok, q_nz_ok, up_same, up_nei, up_ne1, Int.toNat_natCast, reduceIte, Int.reduceEq, Int.reduceLT, Int.reduceLE, Int.reduceNeg, not_true_eq_false, not_false_eq_true])
    rw [if_pos h5]
  exact key 99999
theorem triedEnd {t : Nat} {x1 n : Int} {Mc N M1 N1 : Mem} (hr : RelT t Mc N) (h : MR t 5 1 0 0 M1 (up N1 0 47 x1)) (fc : FC t Mc M1) (fm : FM N N1) (hn : 0 ≤ n ∧ n ≤ 200) (hm : N1 67 1 ≤ 9800) : PW (f_X9_tried_J104 n M1) (f_X10_tried_J120 x1 n N1) := by
  have hT := hr.2.1
  have ht := hT.1
  have e67 : up N1 0 47 x1 67 1 = N1 67 1 := by rw [up_ne1 (by omega)]
  obtain ⟨M2, N2, d1, d2, d3, d4, d5, d6⟩ := goesOnW h (n := n) hn (by omega)
  have fc2 : FC t Mc M2 := fc.trans (d4.fc ht)
  have fm2 : FM N (up N2 0 47 0) := by
    have g := d5.fm
    have h47 := hr.2.2.2.2.2.2.2.1
    refine ⟨fun m a => ?_, fun f a => ?_, fun m q a b c => ?_, fun m i a b c => ?_⟩
    · rw [up_ne1 (by omega), g.1 m a, up_ne1 (by omega)]; exact fm.1 m a
    · by_cases cf : f = 47
      · rw [cf, up_same, h47]
      · rw [up_nei cf, g.2.1 f a, up_nei cf]; exact fm.2.1 f a
    · rw [up_ne1 (by omega), g.2.2.1 m q a b c, up_ne1 (by omega)]; exact fm.2.2.1 m q a b c
    · rw [up_ne1 (by omega), g.2.2.2 m i a b c, up_ne1 (by omega)]; exact fm.2.2.2 m i a b c
  have hr2 := hr.frm fc2 fm2
  have h03 := hr2.1.1
  have hS2 := hr2.2.1.2.1
  have e1 : ∀ q : Int, mvw q (up N2 0 47 0) = mvw q N2 := by
    intro q
    funext g i
    have e : mvc g ≠ 0 := by unfold mvc; split <;> omega
    unfold mvw
    rw [up_ne1 (by omega), up_ne1 (by omega), up_ne1 (by omega), up_ne1 e]
  have n35 : up N2 0 47 0 35 = N2 35 := up_ne1 (by omega)
  obtain ⟨r, g1, g2, -⟩ := cntW (k := 5) (q := 1) (v := 2) (Mc := M2) (Mm := up N2 0 47 0) (by omega) (by rw [e1, n35]; exact d3.2.2.2.2.1) (by rw [n35]; exact d3.2.2.2.2.2.1) (by omega) (by unfold in32; omega)
  obtain ⟨r', g3, g4, -⟩ := cntW (k := 4) (q := 0) (v := 2) (Mc := M2) (Mm := up N2 0 47 0) (by omega) hr2.2.2.1.1.1 hr2.2.2.1.1.2.1 (by omega) (by unfold in32; omega)
  rw [n35] at g1 g3
  unfold f_X9_tried_J104 f_X10_tried_J120
  rw [d1]
  simp (disch := omega) only [w32_id, q_gf_e, q_gr_e, q_pf_e, q_pz_e, q_let_e, q_call_e, q_calp_e, q_al_ok, q_as_ok, q_nz_ok, up_same, up_nei, up_ne1, Int.toNat_natCast, reduceIte, Int.reduceEq, Int.reduceLT, Int.reduceLE, Int.reduceNeg, not_true_eq_false, not_false_eq_true, h03, hS2.1, d2]
  rw [g1, g2, g3, g4]
  (try simp (disch := omega) only [w32_id, q_gf_e, q_gr_e, q_pf_e, q_pz_e, q_let_e, q_call_e, q_calp_e, q_al_ok, q_as_ok, q_nz_ok, up_same, up_nei, up_ne1, Int.toNat_natCast, reduceIte, Int.reduceEq, Int.reduceLT, Int.reduceLE, Int.reduceNeg, not_true_eq_false, not_false_eq_true])
  exact PW.ok rfl ⟨t, hr2⟩
theorem o_tried : rs_tried Rel := by
  intro Mc Mm a0 a1 a2 hR h0 h1 h2
  obtain ⟨t, hr⟩ := hR
  have hr := hr.thr (v := 0)
  show PW _ _
  unfold f_X9_tried f_X10_tried
  rw [q_pf_e]
  generalize up Mm 0 0 0 = N at hr ⊢
  have hR : Rel Mc N := ⟨t, hr⟩
  have h03 := hr.1.1
  have hT := hr.2.1
  have ht := hT.1
  have hS := hT.2.1
  have h98 := hr.m98
  have ec := isSoulC (a := a1) h03 (by omega) h1
  have em := isSoulM (M := N) (a := a1) (by omega) h1
  rw [hS.1] at ec
  unfold in32 at h0 h1 h2
  rw [ec, em]
  -- what both do when it is no refusal
  have main : 0 ≤ a0 ∧ a0 ≤ 5 → 0 ≤ a2 ∧ a2 ≤ 200 → (a0 = 2 → 0 ≤ a1 ∧ a1 < N 35 0) → PW (f_X9_tried_J44 a0 a1 a2 Mc) (f_X10_tried_J36 a0 a1 a2 1 N) := by
    intro c0 c2 c1
    obtain ⟨M3, N3, b1, b2, b3, b4, b5, b6, b7⟩ := tryW hr
    have m67 : N3 67 1 = N 67 0 := b6.1
    have n35 : N3 35 = N 35 := b5.1 35 (by omega)
    unfold f_X9_tried_J44 f_X10_tried_J36 f_X9_tried_J66
    rw [b1, b2]
    (try simp (disch := omega) only [w32_id, q_gf_e, q_gr_e, q_pf_e, q_pz_e, q_let_e, q_call_e, q_calp_e, q_al_ok, q_as_ok, q_nz_ok, up_same, up_nei, up_ne1, Int.toNat_natCast, reduceIte, Int.reduceEq, Int.reduceLT, Int.reduceLE, Int.reduceNeg, not_true_eq_false, not_false_eq_true])
    rw [if_neg (show ¬ a2 < 0 by omega), if_pos c2.2]
    have hN : MR t 5 1 0 0 (up M3 7 3 a0) (up N3 0 47 a0) := by
      obtain ⟨g1, g2⟩ := b3.2.2.1
      obtain ⟨g3, -, g4⟩ := b3.2.2.2.1
      refine b3.set (fun n a => up_ne1 a) (fun n a => up_ne1 a) ⟨by rw [up_nei (by omega)]; exact g1, by rw [up_nei (by omega)]; exact g2⟩ ⟨by rw [up_nei (by omega)]; exact g3, by rw [up_same, up_same]; exact ⟨rfl, c0⟩, ?_⟩
      rw [up_nei (by omega), up_nei (by omega), up_nei (by omega), up_nei (by omega)]
      exact g4
    have fc3 : FC t Mc (up M3 7 3 a0) := b4.trans (fun n hn => up_ne1 (by unfold KC at hn; omega))
    by_cases c : a0 = 2
    · have c1 := c1 c
      have e2 : ¬ ¬ a0 = 2 := by omega
      rw [if_neg e2, if_neg e2]
      obtain ⟨M4, N4, d1, ⟨d2, d3⟩, d4, d5, d6, d7⟩ := awayW (x1 := a0) b3 (by rw [n35]; exact c1) c0
      have rw1 : 0 ≤ N3 71 (8 + a1) ∧ N3 71 (8 + a1) ≤ 3 := (b3.rng.2.2.2.2.2 a1 c1.1 (by rw [n35]; exact c1.2)).1
      have e4 := triedEnd (n := a2) hr d4 (b4.trans d5) (b5.trans d6) c2 (by omega)
      rw [d1]
      (try simp (disch := omega) only [w32_id, q_gf_e, q_gr_e, q_pf_e, q_pz_e, q_let_e, q_call_e, q_calp_e, q_al_ok, q_as_ok, q_nz_ok, up_same, up_nei, up_ne1, Int.toNat_natCast, reduceIte, Int.reduceEq, Int.reduceLT, Int.reduceLE, Int.reduceNeg, not_true_eq_false, not_false_eq_true])
      rw [if_pos (show ¬ a0 = 5 by omega)]
      by_cases cw : 2 ≤ N3 71 (8 + a1)
      · rw [if_pos cw, noRichM c0 (by omega), ← d2 cw]
        exact e4
      · rw [if_neg cw, d3 (by omega)]
        (try simp (disch := omega) only [w32_id, q_gf_e, q_gr_e, q_pf_e, q_pz_e, q_let_e, q_call_e, q_calp_e, q_al_ok, q_as_ok, q_nz_ok, up_same, up_nei, up_ne1, Int.toNat_natCast, reduceIte, Int.reduceEq, Int.reduceLT, Int.reduceLE, Int.reduceNeg, not_true_eq_false, not_false_eq_true])
        rw [noRichM c0 (by omega)]
        exact e4
    · rw [if_pos c, if_pos c]
      by_cases c5 : a0 = 5
      · subst c5
        rw [if_neg (by simp), richM]
        have e03 : up M3 7 3 5 0 3 = t := by rw [up_ne1 (by omega), b4 0 (by unfold KC; omega)]; exact h03
        have et : up M3 7 3 5 t 0 = N 35 0 := by rw [up_ne1 (by omega), b4 t (by unfold KC; omega)]; exact hS.1
        rw [richC e03 ht (by omega), et]
        have fcr : FC t (up M3 7 3 5) (RCC (N 35 0) (up M3 7 3 5)) := fun n hn => by funext i; unfold RCC; rw [if_neg (by unfold KC at hn; omega)]
        have fmr : FM N3 (RCM 8 N3) := by
          refine ⟨fun n a => ?_, fun f a => ?_, fun n q a b c => ?_, fun n i a b c => ?_⟩
          · funext i; unfold RCM; rw [if_neg (by omega)]
          · unfold RCM; rw [if_neg (by omega)]
          · unfold RCM; rw [if_neg (by omega)]
          · unfold RCM; rw [if_neg (by omega)]
        refine triedEnd hr ?_ (fc3.trans fcr) (b5.trans fmr) c2 (by show RCM 8 N3 67 1 ≤ 9800; unfold RCM; rw [if_neg (by omega)]; omega)
        have eN : up (RCM 8 N3) 0 47 5 = RCM 8 (up N3 0 47 5) := by
          funext n i
          unfold up RCM
          grind
        rw [eN]
        have gc : GC 5 (up M3 7 3 5) (RCC (N 35 0) (up M3 7 3 5)) := fun n _ a _ _ _ _ => by funext i; unfold RCC; rw [if_neg (by omega)]
        have gm : GM 1 (up N3 0 47 5) (RCM 8 (up N3 0 47 5)) := by
          refine ⟨fun n a b c d e => ?_, fun f a b => ?_, fun n j a b c => ?_, fun n j a b c => ?_, fun p a b c => ?_⟩
          · funext j; unfold RCM; rw [if_neg (by omega)]
          all_goals
            unfold RCM; rw [if_neg (by omega)]
        have hv := hN.2.2.2.2
        have o35 : up N3 0 47 5 35 0 = N 35 0 := by rw [up_ne1 (by omega), n35]
        -- the view in which all have 99 coins
        have kc : ∀ f i, f ≠ 3 → (f = 0 ∨ 2 ≤ f ∧ f ≤ 8) → cvw 5 (RCC (N 35 0) (up M3 7 3 5)) f i = cvw 5 (up M3 7 3 5) f i := by
          intro f i a b
          unfold cvw RCC
          split
          · rw [if_neg (by omega)]
          · rw [if_neg (by omega)]
        have kc3 : ∀ i, 0 ≤ i → i < N 35 0 → cvw 5 (RCC (N 35 0) (up M3 7 3 5)) 3 i = 99 := by
          intro i a b
          show RCC (N 35 0) (up M3 7 3 5) 195 i = 99
          unfold RCC; rw [if_pos ⟨rfl, a, b⟩]
        have km : ∀ f i, f ≠ 3 → (f = 0 ∨ 2 ≤ f ∧ f ≤ 8) → mvw 1 (RCM 8 (up N3 0 47 5)) f i = mvw 1 (up N3 0 47 5) f i := by
          intro f i a b
          unfold mvw RCM mvc
          repeat' split
          all_goals first
            | rfl
            | (exfalso; omega)
        have km3 : ∀ i, 0 ≤ i → i < N 35 0 → mvw 1 (RCM 8 (up N3 0 47 5)) 3 i = 99 := by
          intro i a b
          show RCM 8 (up N3 0 47 5) 72 (8 * 1 + i) = 99
          unfold RCM; rw [if_pos ⟨rfl, by omega, by omega⟩]
        refine hN.step gc gm ?_ ?_ ?_
        · rw [o35]
          obtain ⟨x1, x2, x3, x4, x5⟩ := hv.1
          rw [o35] at x5
          refine ⟨by rw [kc 0 _ (by omega) (by omega), km 0 _ (by omega) (by omega)]; exact x1, by rw [kc 0 _ (by omega) (by omega), km 0 _ (by omega) (by omega)]; exact x2, by rw [kc 0 _ (by omega) (by omega), km 0 _ (by omega) (by omega)]; exact x3, fun i a b => ?_, fun p a b => ?_⟩
          · rw [kc 0 _ (by omega) (by omega)] at b
            rw [kc 8 _ (by omega) (by omega), km 8 _ (by omega) (by omega)]
            exact x4 i a b
          · obtain ⟨y1, y2, y3, y4, y5⟩ := x5 p a b
            rw [kc 2 _ (by omega) (by omega), km 2 _ (by omega) (by omega), kc3 p a b, km3 p a b, kc 4 _ (by omega) (by omega), km 4 _ (by omega) (by omega), kc 5 _ (by omega) (by omega), km 5 _ (by omega) (by omega), kc 6 _ (by omega) (by omega), km 6 _ (by omega) (by omega), kc 7 _ (by omega) (by omega), km 7 _ (by omega) (by omega)]
            exact ⟨y1, rfl, y3, y4, y5⟩
        · rw [o35]
          obtain ⟨x1, x2, x3, x4, x5, x6⟩ := hv.2.1
          rw [o35] at x3 x4 x6
          have z9 := kc 0 9 (by omega) (by omega)
          refine ⟨by rw [kc 0 _ (by omega) (by omega)]; exact x1, by rw [kc 0 _ (by omega) (by omega)]; exact x2, by rw [z9]; exact x3, fun i a b => ?_, fun i j a b c => ?_, fun p a b => ?_⟩
          · rw [z9] at b
            rw [kc 8 _ (by omega) (by omega), kc 2 _ (by omega) (by omega)]
            exact x4 i a b
          · rw [z9] at c
            rw [kc 8 _ (by omega) (by omega), kc 8 _ (by omega) (by omega)]
            exact x5 i j a b c
          · obtain ⟨y1, y2, y3, y4, y5, y6⟩ := x6 p a b
            rw [kc 2 _ (by omega) (by omega), kc3 p a b, kc 4 _ (by omega) (by omega), kc 5 _ (by omega) (by omega), kc 6 _ (by omega) (by omega), kc 7 _ (by omega) (by omega), kc 0 0 (by omega) (by omega), z9]
            refine ⟨y1, by omega, y3, y4, y5, fun h => ?_⟩
            obtain ⟨i, i1, i2, i3⟩ := y6 h
            exact ⟨i, i1, i2, by rw [kc 8 _ (by omega) (by omega)]; exact i3⟩
        · rw [o35]
          have x := hv.2.2
          rw [o35] at x
          intro p a b
          rw [km 2 _ (by omega) (by omega), km 6 _ (by omega) (by omega)]
          exact x p a b
      · rw [if_pos c5, noRichM c0 c5]
        exact triedEnd hr hN fc3 b5 c2 (by omega)
  have w0 : f_X10_tried_J36 a0 a1 a2 0 N = some (-1, N) := by
    unfold f_X10_tried_J36
    rw [if_pos w32_0]
  have wb : ∀ y, (y = 0 ∨ y = 1) → ¬ (0 ≤ a2 ∧ a2 ≤ 200) → f_X10_tried_J36 a0 a1 a2 y N = some (-1, N) := by
    intro y hy hn
    unfold f_X10_tried_J36
    (try simp (disch := omega) only [w32_id, q_gf_e, q_gr_e, q_pf_e, q_pz_e, q_let_e, q_call_e, q_calp_e, q_al_ok, q_as_ok, q_nz_ok, up_same, up_nei, up_ne1, Int.toNat_natCast, reduceIte, Int.reduceEq, Int.reduceLT, Int.reduceLE, Int.reduceNeg, not_true_eq_false, not_false_eq_true])
    split
    · rfl
    · split
      · rfl
      · rw [if_neg (by omega)]
  unfold f_X10_tried_J35
  rw [w0]
  (try simp (disch := omega) only [w32_id, q_gf_e, q_gr_e, q_pf_e, q_pz_e, q_let_e, q_call_e, q_calp_e, q_al_ok, q_as_ok, q_nz_ok, up_same, up_nei, up_ne1, Int.toNat_natCast, reduceIte, Int.reduceEq, Int.reduceLT, Int.reduceLE, Int.reduceNeg, not_true_eq_false, not_false_eq_true])
  by_cases c0 : 0 ≤ a0 ∧ a0 ≤ 5
  · rw [if_neg (show ¬ a0 < 0 by omega), if_neg (show ¬ 5 < a0 by omega), if_neg (show ¬ a0 < 0 by omega), if_neg (show ¬ 5 < a0 by omega)]
    by_cases c2 : 0 ≤ a2 ∧ a2 ≤ 200
    · rw [if_neg (show ¬ a2 < 0 by omega), if_pos c2.2]
      by_cases c : a0 = 2
      · have e2 : ¬ ¬ a0 = 2 := by omega
        rw [if_neg e2, if_neg e2]
        by_cases c1 : 0 ≤ a1 ∧ a1 < N 35 0
        · rw [if_pos c1]
          (try simp (disch := omega) only [w32_id, q_gf_e, q_gr_e, q_pf_e, q_pz_e, q_let_e, q_call_e, q_calp_e, q_al_ok, q_as_ok, q_nz_ok, up_same, up_nei, up_ne1, Int.toNat_natCast, reduceIte, Int.reduceEq, Int.reduceLT, Int.reduceLE, Int.reduceNeg, not_true_eq_false, not_false_eq_true])
          exact main c0 c2 (fun _ => c1)
        · rw [if_neg c1]
          simp (disch := omega) only [w32_id, q_gf_e, q_gr_e, q_pf_e, q_pz_e, q_let_e, q_call_e, q_calp_e, q_al_ok, q_as_ok, q_nz_ok, up_same, up_nei, up_ne1, Int.toNat_natCast, reduceIte, Int.reduceEq, Int.reduceLT, Int.reduceLE, Int.reduceNeg, not_true_eq_false, not_false_eq_true, w0]
          exact PW.ok rfl hR
      · rw [if_pos c, if_pos c]
        by_cases c1 : a1 = 0
        · rw [if_pos c1, if_neg (by omega)]
          exact main c0 c2 (fun h => absurd h c)
        · rw [if_neg c1, if_pos c1]
          exact PW.ok rfl hR
    · have e1 : ∀ X : Res, (if a2 < 0 then some ((-1 : Int), Mc) else if a2 ≤ 200 then X else some (-1, Mc)) = some (-1, Mc) := by
        intro X
        by_cases cn : a2 < 0
        · rw [if_pos cn]
        · rw [if_neg cn, if_neg (by omega)]
      rw [e1]
      have e3 : (if ¬ a0 = 2 then if ¬ a1 = 0 then some (-1, N) else f_X10_tried_J36 a0 a1 a2 1 N else f_X10_tried_J36 a0 a1 a2 (if 0 ≤ a1 ∧ a1 < N 35 0 then 1 else 0) N) = some (-1, N) := by
        by_cases c : a0 = 2
        · rw [if_neg (by omega)]
          exact wb _ (by split <;> omega) c2
        · rw [if_pos c]
          split
          · rfl
          · exact wb 1 (.inr rfl) c2
      rw [e3]
      exact PW.ok rfl hR
  · have e1 : ∀ X : Res, (if a0 < 0 then some ((-1 : Int), Mc) else if 5 < a0 then some (-1, Mc) else X) = some (-1, Mc) := by
      intro X
      by_cases cn : a0 < 0
      · rw [if_pos cn]
      · rw [if_neg cn, if_pos (by omega)]
    rw [e1]
    have e2 : ∀ X : Res, (if a0 < 0 then some ((-1 : Int), N) else if 5 < a0 then some (-1, N) else X) = some (-1, N) := by
      intro X
      by_cases cn : a0 < 0
      · rw [if_pos cn]
      · rw [if_neg cn, if_pos (by omega)]
    rw [if_pos (show ¬ a0 = 2 by omega), e2]
    exact PW.ok rfl hR
