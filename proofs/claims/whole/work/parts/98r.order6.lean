theorem orderBits {few what : Int} {N : Mem} (hf : 0 ≤ few ∧ few ≤ 4) (hr : ∀ i, 0 ≤ i → i < few → 0 ≤ N 70 i ∧ N 70 i < 8) {x : Int} (hx : FB few (N 70) x) : f_X10_order_L32 what few N q_N 0 0 = (q_pf N 0 54 (-1) fun M1 => q_call (f_X10_rows 0 x M1) fun r2 M3 => if ¬ w32 what = w32 4 then (if w32 few ≤ w32 what then (some ((-2), M3)) else (q_al M3 85 4 what fun v4 => some (v4, M3))) else (q_gf M3 0 54 fun v5 => some (v5, M3))) := by
  have key : ∀ (n : Nat) (k y : Int), 0 ≤ k → k ≤ few → FB k (N 70) y → (few - k).toNat < n → f_X10_order_L32 what few N n y k = (q_pf N 0 54 (-1) fun M1 => q_call (f_X10_rows 0 x M1) fun r2 M3 => if ¬ w32 what = w32 4 then (if w32 few ≤ w32 what then (some ((-2), M3)) else (q_al M3 85 4 what fun v4 => some (v4, M3))) else (q_gf M3 0 54 fun v5 => some (v5, M3))) := by
    intro n
    induction n with
    | zero => intro k y _ _ _ h; exact absurd h (Nat.not_lt_zero _)
    | succ n ih =>
      intro k y h0 h1 h2 hn
      show f_X10_order_B32 what few N y k (fun a b => f_X10_order_L32 what few N n a b) = _
      unfold f_X10_order_B32
      rw [w32_id (x := k) (by omega)]
      by_cases c : w32 few ≤ k
      · rw [if_pos c]
        rw [w32_id (by omega)] at c
        have e : k = few := by omega
        subst e
        have ey : y = x := by
          have : w32 y = w32 x := Bt_ext (fun p a b => by
            have e1 := h2.2 p a b
            have e2 := hx.2 p a b
            cases hb1 : Bt y p <;> cases hb2 : Bt x p
            · rfl
            · rw [hb1] at e1; rw [hb2] at e2; exact absurd (e1.mpr (e2.mp rfl)) (by decide)
            · rw [hb1] at e1; rw [hb2] at e2; exact absurd (e2.mpr (e1.mp rfl)) (by decide)
            · rfl)
          have i1 := h2.1
          have i2 := hx.1
          unfold in32 at i1 i2
          rw [w32_id i1, w32_id i2] at this
          exact this
        rw [ey]
      · rw [if_neg c]
        rw [w32_id (by omega)] at c
        rw [q_al_ok (by omega)]
        have := hr k h0 (by omega)
        exact ih (k + 1) _ (by omega) (by omega) (h2.step h0 (s := N 70 k) (by omega) rfl) (by omega)
  exact key q_N 0 0 (by omega) (by omega) FB.zero (q_N_lt (by omega))
theorem o_order : rs_order Rel := by
  intro Mc Mm a0 hR h0
  obtain ⟨t, hr⟩ := hR
  have hr := hr.thr (v := 0)
  show PW _ _
  unfold f_X9_order f_X10_order
  rw [q_pf_e]
  generalize up Mm 0 0 0 = N at hr ⊢
  have hR : Rel Mc N := ⟨t, hr⟩
  have hT := hr.2.1
  have ht := hT.1
  have hS := hT.2.1
  have hs := hr.2.2.1.1
  have w0 := hr.w0
  have r9 : 0 ≤ N 69 0 ∧ N 69 0 ≤ N 35 0 := w0.2.2.1
  have e49 : Mc 4 9 = N 69 0 := hs.1.2.2.1
  unfold in32 at h0
  simp (disch := omega) only [w32_id, q_gf_e, q_gr_e, q_pf_e, q_pz_e, q_let_e, q_call_e, q_calp_e, q_al_ok, q_as_ok, q_nz_ok, up_same, up_nei, up_ne1, Int.toNat_natCast, reduceIte, Int.reduceEq, Int.reduceLT, Int.reduceLE, Int.reduceNeg, not_true_eq_false, not_false_eq_true, e49]
  by_cases c1 : a0 < 0
  · rw [if_pos c1, if_pos c1]; exact PW.ok rfl hR
  rw [if_neg c1, if_neg c1]
  by_cases c2 : a0 ≤ 4
  rotate_left
  · rw [if_neg c2, if_neg c2]; exact PW.ok rfl hR
  rw [if_pos c2, if_pos c2]
  obtain ⟨few, hfe⟩ : ∃ few : Nat, (few : Int) = if 4 < N 69 0 then 4 else N 69 0 := ⟨(if 4 < N 69 0 then 4 else N 69 0).toNat, by split <;> omega⟩
  have hf4 : few ≤ 4 ∧ (few : Int) ≤ N 69 0 := by revert hfe; split <;> omega
  have qm : q_min (N 69 0) 4 = few := by
    unfold q_min
    rw [w32_id (by omega), w32_id (by omega), hfe]
    try (split <;> split <;> omega)
  have qm' : q_min 4 (N 69 0) = few := by
    unfold q_min
    rw [w32_id (by omega), w32_id (by omega), hfe]
    try (split <;> split <;> omega)
  have row : ∀ i, 0 ≤ i → i < N 69 0 → Mc 168 i = N 70 i ∧ 0 ≤ N 70 i ∧ N 70 i < 8 := fun i a b => by
    have e1 := hs.1.2.2.2.1 i a (by show i < Mc 4 9; omega)
    have e2 := w0.2.2.2.1 i a b
    simp [cvw, mvw, mvc] at e1 e2
    exact ⟨e1, e2.1, by omega⟩
  have rowd : ∀ i j, 0 ≤ i → i < j → j < N 69 0 → N 70 i ≠ N 70 j := fun i j a b c => by
    have := w0.2.2.2.2.1 i j a b c
    simpa [mvw, mvc] using this
  obtain ⟨x, M1, s1, s2, s3, s4⟩ := sortC (few := few) (M := Mc) hf4.1 (fun i hi => by have := row i (by omega) (by omega); omega) (fun i j h1 h2 => by
    rw [(row i (by omega) (by omega)).1, (row j (by omega) (by omega)).1]
    exact rowd i j (by omega) (by omega) (by omega))
  have hx : FB few (N 70) x := ⟨s1.1, fun p a b => by
    rw [s1.2 p a b]
    constructor
    · intro ⟨i, i1, i2, i3⟩; exact ⟨i, i1, i2, by rw [← (row i i1 (by omega)).1]; exact i3⟩
    · intro ⟨i, i1, i2, i3⟩; exact ⟨i, i1, i2, by rw [(row i i1 (by omega)).1]; exact i3⟩⟩
  have fc1 : FC t Mc M1 := fun n hn => s4 n (by unfold KC at hn; omega)
  rw [qm, qm', orderBits (by omega) (fun i a b => (row i a (by omega)).2) hx, q_pf_e]
  have fm0 : FM N (up N 0 54 (-1)) := ⟨fun n a => up_ne1 (by omega), fun f a => up_nei (by omega), fun n q a b c => by rw [up_ne1 (by omega)], fun n i a b c => by rw [up_ne1 (by omega)]⟩
  unfold f_X9_bestOrder
  rw [s2, q_call_e, powerN hf4.1 hf4.1, q_calp_e]
  -- both find the same
  have main : ∃ m M' P', f_X9_bestOrder_L16 few ((few ^ few : Nat) : Int) q_N (-1) 0 M1 = some (m, M') ∧ f_X10_rows 0 x (up N 0 54 (-1)) = some (0, P') ∧ FC t Mc M' ∧ FM N P' ∧ P' 0 54 = m ∧ ∀ b : Nat, b < few → M' 45 b = P' 85 b := by
    by_cases cf : few = 0
    · subst cf
      have x0 : x = 0 := by
        have : w32 x = w32 0 := Bt_ext (fun p a b => by
          rw [Bt_0]
          cases hh : Bt x p
          · rfl
          · obtain ⟨i, i1, i2, -⟩ := (hx.2 p a b).mp hh
            omega)
        have i2 := hx.1
        unfold in32 at i2
        rw [w32_id i2] at this
        rw [this]; decide
      obtain ⟨k, M2, N5, a1, a2, a3, a4, a5, a6, a7, a8, a9, a10, a11⟩ := evalW (few := 0) (f := fun _ => 0) (M := M1) (P := up N 0 54 (-1)) hr (by omega) (by omega) ⟨fun b h => by omega, fun b b' _ h => by omega, fun i h => by omega⟩ fc1 fm0 (fun b h => by omega)
      have hrow : f_X9_pickRow 0 0 M1 = some (1, M1) := by
        rw [← wpo_eq]
        unfold f_X9_pickRow f_X9_pickRow_L14
        have q0 : q_min 0 4 - 1 = -1 := by decide
        rw [q0]
        refine qlm3_N (fun _ _ y P => y = -1 ∧ P = M1) (fun _ _ _ _ => 1) _ _ _ _ ⟨rfl, rfl⟩ (by omega) ?_
        intro u v y P g ⟨e1, e2⟩ _
        subst e1 e2
        unfold f_X9_pickRow_B14
        (try simp (disch := omega) only [w32_id, q_gf_e, q_gr_e, q_pf_e, q_pz_e, q_let_e, q_call_e, q_calp_e, q_al_ok, q_as_ok, q_nz_ok, up_same, up_nei, up_ne1, Int.toNat_natCast, reduceIte, Int.reduceEq, Int.reduceLT, Int.reduceLE, Int.reduceNeg, not_true_eq_false, not_false_eq_true])
        exact wpo_some.mpr rfl
      refine ⟨k, q_cp M2 44 0 45 0 4, up N5 0 54 k, ?_, ?_, fc1.trans (a2.trans (fun n hn => ?_)), fm0.trans (a6.trans ⟨fun n a => up_ne1 (by omega), fun f a => up_nei (by omega), fun n q a b c => by rw [up_ne1 (by omega)], fun n i a b c => by rw [up_ne1 (by omega)]⟩), up_same _ _ _ _, fun b h => by omega⟩
      · rw [← wpo_eq]
        unfold f_X9_bestOrder_L16
        refine qlm2_N (fun m l P => (l = 0 ∧ m = -1 ∧ P = M1) ∨ (l = 1 ∧ m = k ∧ P = q_cp M2 44 0 45 0 4)) (fun _ l _ => (1 - l).toNat) _ _ _ (.inl ⟨rfl, rfl, rfl⟩) (by omega) ?_
        intro m l P g hh ih
        unfold f_X9_bestOrder_B16
        have e1 : ((0 ^ 0 : Nat) : Int) = 1 := rfl
        rw [e1]
        rcases hh with ⟨rfl, rfl, rfl⟩ | ⟨rfl, rfl, rfl⟩
        · have e0 : ((0 : Nat) : Int) = 0 := rfl
          rw [e0] at a1 ⊢
          simp (disch := omega) only [w32_id, q_gf_e, q_gr_e, q_pf_e, q_pz_e, q_let_e, q_call_e, q_calp_e, q_al_ok, q_as_ok, q_nz_ok, up_same, up_nei, up_ne1, Int.toNat_natCast, reduceIte, Int.reduceEq, Int.reduceLT, Int.reduceLE, Int.reduceNeg, not_true_eq_false, not_false_eq_true, hrow, a1]
          rw [if_neg (by omega)]
          unfold q_cpy
          rw [w32_id (x := 0) (by omega), w32_id (x := 4) (by omega), if_pos (by omega)]
          exact ih _ _ _ (.inr ⟨by omega, rfl, rfl⟩) (by omega)
        · (try simp (disch := omega) only [w32_id, q_gf_e, q_gr_e, q_pf_e, q_pz_e, q_let_e, q_call_e, q_calp_e, q_al_ok, q_as_ok, q_nz_ok, up_same, up_nei, up_ne1, Int.toNat_natCast, reduceIte, Int.reduceEq, Int.reduceLT, Int.reduceLE, Int.reduceNeg, not_true_eq_false, not_false_eq_true])
          exact wpo_some.mpr rfl
      · rw [x0]
        show f_X10_rows_G (f_R 199) 0 0 (up N 0 54 (-1)) = _
        unfold f_X10_rows_G
        rw [if_pos w32_0, copiesM (by omega) (by omega) (by omega), q_call_e]
        have := rowsM (F := f_R 199) (few := 0) (f := fun _ => 0) (M := CPM 1 0 (up N 0 54 (-1))) (by omega) (fun b h => by omega)
        have e0 : ((0 : Nat) : Int) = 0 := rfl
        rw [e0] at this
        rw [this]
        unfold leafM
        rw [a4, q_call_e, a5, q_calp_e, q_gf_e, a9, up_same, w32_id (by omega), w32_id (by omega), if_pos (by omega), q_pf_e]
        obtain ⟨P', y1, y2, y3⟩ := copyO (F := f_R 199) (few := 0) (P := up N5 0 54 k) (by omega)
        rw [← wpo_eq]
        unfold f_X10_rows_L118
        refine qlm1_N (fun y P => y = 0 ∧ P = up N5 0 54 k) (fun _ _ => 1) _ _ ⟨rfl, rfl⟩ (by omega) ?_
        intro y P g ⟨e1, e2⟩ _
        subst e1 e2
        unfold f_X10_rows_B118
        rw [if_pos (by decide)]
        exact wpo_some.mpr rfl
      · funext i
        unfold q_cp
        rw [if_neg (fun h => by unfold KC at hn; omega)]
    · have hf : 1 ≤ few ∧ few ≤ 4 := by omega
      obtain ⟨m, M', cc, b1, b2, b3, b4, b5, b6⟩ := bestOC hr hf hf4.2 hx s3 fc1
      have ms0 : MSO few (M1 43) Mc N (0 * few ^ (few - 0)) (up N 0 54 (-1)) := by
        refine ⟨fm0, by rw [up_same]; omega, 0, ?_, fun h => by rw [up_same] at h; omega⟩
        rw [up_same, Nat.zero_mul]
        exact .inl ⟨rfl, fun c' h => by omega⟩
      obtain ⟨P', d1, d2, -⟩ := dfsO hr hf hf4.2 hx s3 q_D 0 0 x (up N 0 54 (-1)) (by omega) (by show few - 0 < 200; omega) ms0 ⟨fun _ _ => trivial, fun b1 b2 _ h => by omega⟩ (fun b' h => by omega) hx.1 (fun p a b => by
        constructor
        · intro h
          have hp8 : p < 8 := by
            obtain ⟨i, i1, i2, i3⟩ := (hx.2 p a b).mp h
            have := row i i1 (by omega)
            omega
          obtain ⟨e, e1, e2⟩ := s3.2.2 p a hp8 h
          exact ⟨e, e1, e2, fun b' h => by omega⟩
        · intro ⟨e, e1, e2, _⟩
          rw [← e2]; exact (s3.2.1 e e1).2.2)
      have d1 : f_X10_rows 0 x (up N 0 54 (-1)) = some (0, P') := d1
      have e9 : (0 + 1) * few ^ (few - 0) = few ^ few := by rw [Nat.zero_add, Nat.one_mul, Nat.sub_zero]
      rw [e9] at d2
      obtain ⟨x1, x2, c', x3, x4⟩ := d2
      obtain ⟨u1, u2⟩ := b5.uniq x3
      have u2 := u2 b3
      subst u2
      exact ⟨m, M', P', b1, d1, b2, x1, u1.symm, fun b hb => by rw [b6 b hb, x4 (by omega) b hb]⟩
  obtain ⟨m, M', P', z1, z2, z3, z4, z5, z6⟩ := main
  have hR' : Rel M' P' := ⟨t, hr.frm z3 z4⟩
  rw [z1, z2, q_call_e, q_call_e, w32_id (x := a0) (by omega), w32_id (x := 4) (by omega), w32_id (x := (few : Int)) (by omega)]
  by_cases c4 : a0 = 4
  · have n4 : ¬ ¬ a0 = 4 := fun h => h c4
    rw [if_neg n4, if_neg n4, q_gf_e]
    exact PW.ok z5.symm hR'
  · rw [if_pos c4, if_pos c4]
    by_cases c5 : (few : Int) ≤ a0
    · rw [if_pos c5, if_pos c5]; exact PW.ok rfl hR'
    · rw [if_neg c5, if_neg c5]
      (try rw [q_al_ok (by omega)])
      (try rw [q_al_ok (by omega)])
      obtain ⟨b, hb⟩ : ∃ b : Nat, a0 = b := ⟨a0.toNat, by omega⟩
      rw [hb]
      exact PW.ok (z6 b (by omega)) hR'
