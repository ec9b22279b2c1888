theorem rowsC {few : Nat} {f : Nat → Int} {M : Mem} (hf : few ≤ 4) (h44 : ∀ b : Nat, b < few → M 44 b = f b) : f_X9_kindnessBehindRow_L6 few q_N 0 M = f_X9_kindnessBehindRow_J37 (RWC few f M) := by
  have key : ∀ (n k : Nat), k ≤ few → few - k < n → f_X9_kindnessBehindRow_L6 few n k (RWC k f M) = f_X9_kindnessBehindRow_J37 (RWC few f M) := by
    intro n
    induction n with
    | zero => intro k _ h; exact absurd h (Nat.not_lt_zero _)
    | succ n ih =>
      intro k h1 hn
      show f_X9_kindnessBehindRow_B6 few k (RWC k f M) (fun a b => f_X9_kindnessBehindRow_L6 few n a b) = _
      have e44 : RWC k f M 44 k = M 44 k := by unfold RWC; rw [if_neg (by omega)]
      unfold f_X9_kindnessBehindRow_B6
      (try simp (disch := omega) only [w32_id, q_gf_e, q_gr_e, q_pf_e, q_pz_e, q_let_e, q_call_e, q_calp_e, q_al_ok, q_as_ok, q_nz_ok, up_same, up_nei, up_ne1, Int.toNat_natCast, reduceIte, Int.reduceEq, Int.reduceLT, Int.reduceLE, Int.reduceNeg, not_true_eq_false, not_false_eq_true])
      by_cases c : (few : Int) ≤ k
      · rw [if_pos c, show k = few by omega]
      · rw [if_neg c, if_neg (by omega)]
        simp (disch := omega) only [w32_id, q_gf_e, q_gr_e, q_pf_e, q_pz_e, q_let_e, q_call_e, q_calp_e, q_al_ok, q_as_ok, q_nz_ok, up_same, up_nei, up_ne1, Int.toNat_natCast, reduceIte, Int.reduceEq, Int.reduceLT, Int.reduceLE, Int.reduceNeg, not_true_eq_false, not_false_eq_true, e44]
        have e : up (RWC k f M) 200 k (M 44 k) = RWC (k + 1) f M := by
          funext n' i
          unfold up RWC
          by_cases d : n' = 200 ∧ i = k
          · rw [if_pos d, if_pos (by omega), d.2, Int.toNat_natCast, h44 k (by omega)]
          · rw [if_neg d]
            by_cases d2 : n' = 200 ∧ 0 ≤ i ∧ i < k
            · rw [if_pos d2, if_pos (by omega)]
            · rw [if_neg d2, if_neg (by omega)]
        rw [e]
        exact ih (k + 1) (by omega) (by omega)
  have e0 : RWC 0 f M = M := by funext n i; unfold RWC; rw [if_neg (by omega)]
  have := key q_N 0 (by omega) (q_N_lt (by omega))
  rw [e0] at this
  exact this
def leafM (F : Int → Int → Mem → Res) (few : Nat) (M : Mem) : Res := q_call (f_X10_goesOn 20 M) fun r1 M2 => q_calp (f_X10_kindness 1 M2) fun r3 => q_gf M2 0 54 fun v4 => if w32 v4 < w32 r3 then (q_pf M2 0 54 r3 fun M5 => f_X10_rows_L118 F few q_N 0 M5) else (some (0, M2))
theorem rowsM {F : Int → Int → Mem → Res} {few : Nat} {f : Nat → Int} {M : Mem} (hf : few ≤ 4) (h84 : ∀ b : Nat, b < few → M 84 b = f b) : f_X10_rows_L63 F few q_N 0 M = leafM F few (RWM few f M) := by
  have key : ∀ (n k : Nat), k ≤ few → few - k < n → f_X10_rows_L63 F few n k (RWM k f M) = leafM F few (RWM few f M) := by
    intro n
    induction n with
    | zero => intro k _ h; exact absurd h (Nat.not_lt_zero _)
    | succ n ih =>
      intro k h1 hn
      show f_X10_rows_B63 F few k (RWM k f M) (fun a b => f_X10_rows_L63 F few n a b) = _
      have e84 : RWM k f M 84 k = M 84 k := by unfold RWM; rw [if_neg (by omega)]
      unfold f_X10_rows_B63
      rw [w32_id (x := (few : Int)) (by omega), w32_id (x := (k : Int)) (by omega)]
      by_cases c : (few : Int) ≤ k
      · rw [if_pos c, show k = few by omega]; rfl
      · rw [if_neg c, q_al_ok (by omega), q_as_ok (by omega), e84]
        have e : up (RWM k f M) 70 (8 + (k : Int)) (M 84 k) = RWM (k + 1) f M := by
          funext n' i
          unfold up RWM
          by_cases d : n' = 70 ∧ i = 8 + (k : Int)
          · rw [if_pos d, if_pos (by omega), d.2, show (8 + (k : Int) - 8).toNat = k by omega, h84 k (by omega)]
          · rw [if_neg d]
            by_cases d2 : n' = 70 ∧ 8 ≤ i ∧ i < 8 + (k : Int)
            · rw [if_pos d2, if_pos (by omega)]
            · rw [if_neg d2, if_neg (by omega)]
        rw [e]
        exact ih (k + 1) (by omega) (by omega)
  have e0 : RWM 0 f M = M := by funext n i; unfold RWM; rw [if_neg (by omega)]
  have := key q_N 0 (by omega) (q_N_lt (by omega))
  rw [e0] at this
  exact this
theorem evalW {t few : Nat} {f : Nat → Int} {Mc N M P : Mem} (hr : RelT t Mc N) (hf : few ≤ 4) (hw : (few : Int) ≤ N 69 0) (hp : PRM few f (N 70)) (fc : FC t Mc M) (fm : FM N P) (h44 : ∀ b : Nat, b < few → M 44 b = f b) : ∃ k M' N5, f_X9_kindnessBehindRow few M = some (k, M') ∧ FC t M M' ∧ (∀ n, 43 ≤ n → n ≤ 46 → M' n = M n) ∧ f_X10_goesOn 20 (RWM few f (CPM 1 0 P)) = some (0, N5) ∧ f_X10_kindness 1 N5 = some k ∧ FM P N5 ∧ N5 84 = P 84 ∧ N5 85 = P 85 ∧ N5 0 54 = P 0 54 ∧ 0 ≤ k ∧ k ≤ 792 := by
  have hr' := hr.frm fc fm
  have ht := hr.2.1.1
  have h98 := hr'.m98
  have e03 : M 0 3 = t := hr'.1.1
  obtain ⟨M3, N3, b1, b2, b3, b4, b5, b6, b7⟩ := tryW hr'
  have eN3 : N3 = CPM 1 0 P := by
    rw [copiesM (by omega) (by omega) (by omega)] at b2
    simpa using b2.symm
  have eM3 : M3 = RDY t 5 (CPC 5 4 M) := by
    unfold f_X9_tryFromNow at b1
    have e : CPC 5 4 M 0 3 = t := by rw [CPC.ne (by omega) (by omega)]; exact e03
    rw [copyC (by omega) (by omega) (by omega), q_call_e, q_gr_e, e, Int.toNat_natCast, readyC, q_call_e] at b1
    simpa using b1.symm
  have m4x : ∀ n, 43 ≤ n → n ≤ 46 → M3 n = M n := fun n a b => by rw [eM3, RDY.ne (by omega), CPC.ne (by omega) (by omega)]
  have m67 : N3 67 1 = P 67 0 := b6.1
  have m69 : N3 69 1 = P 69 0 := b6.2.2.1
  have p69 : P 69 0 = N 69 0 := fm.2.2.1 69 0 (by omega) (by omega) (by omega)
  have r9 : N 69 0 ≤ 8 := by have := hr.w0.2.2.1; have : mvw 0 N 0 9 = N 69 0 := rfl; have := hr.2.1.2.1; omega
  have n70 : ∀ i : Nat, i < few → N3 70 (8 + i) = N 70 i := fun i hi => by
    have := b6.2.2.2 8 i (by omega) (by omega) (by omega) (by omega)
    have e1 : mvw 1 N3 8 i = N3 70 (8 * 1 + i) := rfl
    have e2 : mvw 0 P 8 i = P 70 (8 * 0 + i) := rfl
    rw [e1, e2, show (8 * 0 + (i : Int)) = i by omega, fm.2.2.2 70 i (by omega) (by omega) (by omega)] at this
    exact this
  have hp' : PRM few f (fun i => N3 70 (8 + i)) := by
    obtain ⟨p1, p2, p3⟩ := hp
    refine ⟨fun b hb => ?_, p2, fun i hi => ?_⟩
    · obtain ⟨i, i1, i2⟩ := p1 b hb
      exact ⟨i, i1, by show N3 70 (8 + (i : Int)) = f b; rw [n70 i i1]; exact i2⟩
    · obtain ⟨b, l1, l2⟩ := p3 i hi
      exact ⟨b, l1, by show f b = N3 70 (8 + (i : Int)); rw [n70 i hi]; exact l2⟩
  obtain ⟨c1, c2, c3, c4⟩ := rowW b3 (by omega) hp'
  obtain ⟨M4, N4, d1, d2, d3, d4, d5, d6⟩ := goesOnW c1 (n := 20) (by omega) (by omega)
  have fc4 : FC t M M4 := b4.trans (c2.trans (d4.fc ht))
  have fm4 : FM P N4 := b5.trans (c3.trans d5.fm)
  have hr4 := hr'.frm fc4 fm4
  obtain ⟨k, g1, g2, g3⟩ := kindW hr4.1.1 d3.1 d3.2.2.2.2.1 d3.2.2.2.2.2.1 (by omega)
  have cN : ∀ n, n ≠ 200 → RWC few f M3 n = M3 n := fun n a => by funext i; unfold RWC; rw [if_neg (fun h => a h.1)]
  have mN : ∀ n, n ≠ 70 → RWM few f N3 n = N3 n := fun n a => by funext i; unfold RWM; rw [if_neg (fun h => a h.1)]
  have pN : ∀ n, (n < 67 ∨ 76 < n) → N3 n = P n := fun n a => by rw [eN3]; funext i; unfold CPM; rw [if_neg (by omega), if_neg (by omega)]
  refine ⟨k, M4, N4, ?_, fc4, fun n a b => ?_, by rw [← eN3]; exact d2, g2, fm4, ?_, ?_, ?_, g3⟩
  · unfold f_X9_kindnessBehindRow
    rw [b1, q_call_e, rowsC (f := f) hf (fun b hb => by rw [m4x 44 (by omega) (by omega)]; exact h44 b hb)]
    unfold f_X9_kindnessBehindRow_J37
    rw [d1, q_call_e, g1, q_calp_e]
  · rw [d4 n (by omega) (by omega) (by omega) (by omega) (by omega) (by omega), cN n (by omega), m4x n a b]
  · rw [d5.1 84 (by omega) (by omega) (by omega) (by omega) (by omega), mN 84 (by omega), pN 84 (by omega)]
  · rw [d5.1 85 (by omega) (by omega) (by omega) (by omega) (by omega), mN 85 (by omega), pN 85 (by omega)]
  · rw [d5.2.1 54 (by omega) (by omega), mN 0 (by omega), pN 0 (by omega)]
/-- what a row is worth -/
def wO (few : Nat) (so : Int → Int) (Mc : Mem) (c : Nat) : Int := ((f_X9_kindnessBehindRow few (fun n i => if n = 44 ∧ 0 ≤ i ∧ i < 4 then so (DG few few c i.toNat) else Mc n i)).getD (0, Mc)).1
theorem evalV {t few c : Nat} {so : Int → Int} {Mc N M P : Mem} (hr : RelT t Mc N) (hf : few ≤ 4) (hw : (few : Int) ≤ N 69 0) (hp : PRM few (fun b => so (DG few few c b)) (N 70)) (fc : FC t Mc M) (fm : FM N P) (h44 : ∀ b : Nat, b < few → M 44 b = so (DG few few c b)) : ∃ M' N5, f_X9_kindnessBehindRow few M = some (wO few so Mc c, M') ∧ FC t M M' ∧ (∀ n, 43 ≤ n → n ≤ 46 → M' n = M n) ∧ f_X10_goesOn 20 (RWM few (fun b => so (DG few few c b)) (CPM 1 0 P)) = some (0, N5) ∧ f_X10_kindness 1 N5 = some (wO few so Mc c) ∧ FM P N5 ∧ N5 84 = P 84 ∧ N5 85 = P 85 ∧ N5 0 54 = P 0 54 ∧ 0 ≤ wO few so Mc c ∧ wO few so Mc c ≤ 792 := by
  have ht := hr.2.1.1
  obtain ⟨k, M', N5, a1, a2, a3, a4, a5, a6, a7, a8, a9, a10, a11⟩ := evalW hr hf hw hp fc fm h44
  obtain ⟨Mb, hMb⟩ : ∃ Mb : Mem, Mb = (fun n i => if n = 44 ∧ 0 ≤ i ∧ i < 4 then so (DG few few c i.toNat) else Mc n i) := ⟨_, rfl⟩
  have fcb : FC t Mc Mb := fun n hn => by
    rw [hMb]; funext i
    show (if n = 44 ∧ 0 ≤ i ∧ i < 4 then so (DG few few c i.toNat) else Mc n i) = Mc n i
    rw [if_neg (fun h => by unfold KC at hn; omega)]
  obtain ⟨k', Mb', N5', c1, c2, c3, c4, c5, -⟩ := evalW hr hf hw hp fcb fm (fun b hb => by
    rw [hMb]
    show (if (44 : Nat) = 44 ∧ 0 ≤ (b : Int) ∧ (b : Int) < 4 then so (DG few few c (b : Int).toNat) else Mc 44 b) = _
    rw [if_pos (by omega), Int.toNat_natCast])
  have e5 : N5' = N5 := by rw [a4] at c4; simpa using c4.symm
  subst e5
  have ek : k' = k := by rw [a5] at c5; simpa using c5.symm
  subst ek
  have ew : wO few so Mc c = k' := by
    unfold wO
    rw [← hMb, c1]; rfl
  rw [ew]
  exact ⟨M', N5', a1, a2, a3, a4, a5, a6, a7, a8, a9, a10, a11⟩
