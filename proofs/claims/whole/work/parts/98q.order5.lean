def MSO (few : Nat) (so : Int → Int) (Mc N : Mem) (L : Nat) (P : Mem) : Prop := FM N P ∧ (-1 ≤ P 0 54 ∧ P 0 54 ≤ 792) ∧ ∃ c, BST (PV okO frO few few) (wO few so Mc) L (P 0 54) c ∧ (0 ≤ P 0 54 → ∀ b : Nat, b < few → P 85 b = so (DG few few c b))
theorem MSO.skip {few : Nat} {so : Int → Int} {Mc N P : Mem} {L L' : Nat} (h : MSO few so Mc N L P) (hl : L ≤ L') (hn : ∀ c', L ≤ c' → c' < L' → ¬ PV okO frO few few c') : MSO few so Mc N L' P := by
  obtain ⟨h1, h2, c, h3, h4⟩ := h
  exact ⟨h1, h2, c, h3.skip hl hn, h4⟩
theorem copyO {F : Int → Int → Mem → Res} {few : Nat} {P : Mem} (hB : few ≤ 4) : ∃ P', f_X10_rows_L118 F few q_N 0 P = some (0, P') ∧ (∀ b : Nat, b < few → P' 85 b = P 84 b) ∧ ∀ n, n ≠ 85 → P' n = P n := by
  have key : wpo (f_X10_rows_L118 F few q_N 0 P) (fun z => z.1 = 0 ∧ (∀ b : Nat, b < few → z.2 85 b = P 84 b) ∧ ∀ n, n ≠ 85 → z.2 n = P n) := by
    unfold f_X10_rows_L118
    refine qlm1_N (fun x P' => 0 ≤ x ∧ x ≤ few ∧ (∀ b : Nat, (b : Int) < x → P' 85 b = P 84 b) ∧ ∀ n, n ≠ 85 → P' n = P n) (fun x _ => (4 - x).toNat) _ _ ⟨by omega, by omega, fun b h => by omega, fun n _ => rfl⟩ (by omega) ?_
    intro x P' g ⟨i1, i2, i3, i4⟩ ih
    unfold f_X10_rows_B118
    have e84 := i4 84 (by omega)
    simp (disch := omega) only [w32_id, q_gf_e, q_gr_e, q_pf_e, q_pz_e, q_let_e, q_call_e, q_calp_e, q_al_ok, q_as_ok, q_nz_ok, up_same, up_nei, up_ne1, Int.toNat_natCast, reduceIte, Int.reduceEq, Int.reduceLT, Int.reduceLE, Int.reduceNeg, not_true_eq_false, not_false_eq_true, e84]
    refine wpo_ite (fun c => wpo_some.mpr ⟨rfl, fun b hb => i3 b (by omega), i4⟩) (fun c => ?_)
    refine ih _ _ ⟨by omega, by omega, fun b hb => ?_, fun n a => (up_ne1 a).trans (i4 n a)⟩ (by omega)
    by_cases e : (b : Int) = x
    · rw [e, up_same]
    · rw [up_nei e]; exact i3 b (by omega)
  obtain ⟨⟨r, P'⟩, e1, e2, e3, e4⟩ := key
  simp only at e2 e3 e4
  subst e2
  exact ⟨P', e1, e3, e4⟩
/-- a whole row is tried -/
theorem leafO {t few c : Nat} {so : Int → Int} {F : Int → Int → Mem → Res} {Mc N P : Mem} (hr : RelT t Mc N) (hf : few ≤ 4) (hw : (few : Int) ≤ N 69 0) (hp : PRM few (fun b => so (DG few few c b)) (N 70)) (hv : PV okO frO few few c) (hm : MSO few so Mc N c P) (h84 : ∀ b : Nat, b < few → P 84 b = so (DG few few c b)) : ∃ P', (q_call (f_X10_copies 1 0 P) fun r1 M2 => f_X10_rows_L63 F few q_N 0 M2) = some (0, P') ∧ MSO few so Mc N (c + 1) P' ∧ P' 84 = P 84 := by
  have ht := hr.2.1.1
  obtain ⟨h1, h2, cb, h3, h4⟩ := hm
  obtain ⟨Mb, hMb⟩ : ∃ Mb : Mem, Mb = (fun n i => if n = 44 ∧ 0 ≤ i ∧ i < 4 then so (DG few few c i.toNat) else Mc n i) := ⟨_, rfl⟩
  have fcb : FC t Mc Mb := fun n hn => by
    rw [hMb]; funext i
    show (if n = 44 ∧ 0 ≤ i ∧ i < 4 then so (DG few few c i.toNat) else Mc n i) = Mc n i
    rw [if_neg (fun h => by unfold KC at hn; omega)]
  obtain ⟨M', N5, -, -, -, a4, a5, a6, a7, a8, a9, a10, a11⟩ := evalV (M := Mb) hr hf hw hp fcb h1 (fun b hb => by
    rw [hMb]
    show (if (44 : Nat) = 44 ∧ 0 ≤ (b : Int) ∧ (b : Int) < 4 then so (DG few few c (b : Int).toNat) else Mc 44 b) = _
    rw [if_pos (by omega), Int.toNat_natCast])
  rw [copiesM (by omega) (by omega) (by omega), q_call_e, rowsM (f := fun b => so (DG few few c b)) hf (fun b hb => by
    have : CPM 1 0 P 84 b = P 84 b := by unfold CPM; rw [if_neg (by omega), if_neg (by omega)]
    rw [this]; exact h84 b hb)]
  unfold leafM
  rw [a4, q_call_e, a5, q_calp_e, q_gf_e, a9, w32_id (by omega), w32_id (by omega)]
  by_cases cs : P 0 54 < wO few so Mc c
  · rw [if_pos cs, q_pf_e]
    obtain ⟨P', e1, e2, e3⟩ := copyO (F := F) (few := few) (P := up N5 0 54 (wO few so Mc c)) hf
    have fmx : FM N5 P' := ⟨fun n a => by rw [e3 n (by omega), up_ne1 (by omega)], fun f a => by rw [e3 0 (by omega), up_nei (by omega)], fun n q a b c => by rw [e3 n (by omega), up_ne1 (by omega)], fun n i a b c => by rw [e3 n (by omega), up_ne1 (by omega)]⟩
    refine ⟨P', e1, ⟨h1.trans (a6.trans fmx), ?_, c, ?_, fun _ b hb => ?_⟩, by rw [e3 84 (by omega), up_ne1 (by omega)]; exact a7⟩
    · rw [e3 0 (by omega), up_same]; omega
    · rw [e3 0 (by omega), up_same]
      exact h3.new hv cs a10
    · rw [e2 b hb, up_ne1 (by omega), a7]; exact h84 b hb
  · rw [if_neg cs]
    refine ⟨N5, rfl, ⟨h1.trans a6, by rw [a9]; exact h2, cb, ?_, fun h b hb => ?_⟩, a7⟩
    · rw [a9]; exact h3.old (fun _ => a10) (fun _ => by omega)
    · rw [a9] at h; rw [a8]; exact h4 h b hb
set_option maxHeartbeats 2000000 in
theorem dfsO {t few : Nat} {x : Int} {so : Int → Int} {Mc N : Mem} (hr : RelT t Mc N) (hf : 1 ≤ few ∧ few ≤ 4) (hw : (few : Int) ≤ N 69 0) (hx : FB few (N 70) x) (hs : SO few x so) : ∀ (d b pre : Nat) (left : Int) (P : Mem), b ≤ few → few - b < d → MSO few so Mc N (pre * few ^ (few - b)) P → PV okO frO few b pre → (∀ b' : Nat, b' < b → P 84 b' = so (DG few b pre b')) → in32 left → (∀ p : Int, 0 ≤ p → p < 32 → (Bt left p = true ↔ ∃ e : Nat, e < few ∧ so e = p ∧ ∀ b', b' < b → DG few b pre b' ≠ e)) → ∃ P', f_R d b left P = some (0, P') ∧ MSO few so Mc N ((pre + 1) * few ^ (few - b)) P' ∧ ∀ b' : Nat, b' < b → P' 84 b' = P 84 b' := by
  have hS := hr.2.1.2.1
  have w0 := hr.w0
  have r9 : N 69 0 ≤ N 35 0 := w0.2.2.1.2
  have soS : ∀ e : Nat, e < few → so e < N 35 0 := by
    intro e he
    have h := hs.2.1 e he
    obtain ⟨i, i1, i2, i3⟩ := (hx.2 _ h.1 (by omega)).mp h.2.2
    have := (w0.2.2.2.1 i i1 (by show i < N 69 0; omega)).2.1
    have e8 : mvw 0 N 8 i = N 70 i := by show N 70 (8 * 0 + i) = _; rw [show (8 * 0 + i : Int) = i by omega]
    rw [e8, i3] at this
    exact this
  intro d
  induction d with
  | zero => intro b pre left P _ h; exact absurd h (Nat.not_lt_zero _)
  | succ d ih =>
    intro b pre left P hb hd hms hpv h84 hl32 hl
    show ∃ P', f_X10_rows_G (f_R d) b left P = some (0, P') ∧ _
    unfold f_X10_rows_G
    by_cases cB : b = few
    · -- none is left
      subst cB
      have l0 : left = 0 := by
        have : w32 left = w32 0 := Bt_ext (fun p a c => by
          rw [Bt_0]
          cases hh : Bt left p
          · rfl
          · exfalso
            obtain ⟨e, e1, e2, e3⟩ := (hl p a c).mp hh
            have : b + 1 ≤ b := pigeonR (fun b' j => j = if b' = b then e else DG b b pre b') (fun b' hb' => by
              by_cases q : b' = b
              · exact ⟨e, e1, by rw [if_pos q]⟩
              · exact ⟨DG b b pre b', Nat.mod_lt _ (by omega), by rw [if_neg q]⟩) (fun b1 b2 j l1 l2 q1 q2 => by
              rw [if_neg (by omega)] at q1
              by_cases q : b2 = b
              · rw [if_pos q] at q2
                exact e3 b1 (by omega) (by omega)
              · rw [if_neg q] at q2
                exact hpv.2 b1 b2 l1 (by omega) (by omega))
            omega)
        unfold in32 at hl32
        rw [w32_id hl32] at this
        rw [this]; decide
      rw [l0, if_pos w32_0]
      have e0 : b - b = 0 := by omega
      rw [e0, Nat.pow_zero, Nat.mul_one] at hms ⊢
      obtain ⟨P', z1, z2, z3⟩ := leafO (F := f_R d) hr hf.2 hw (prmO hf.1 hx hs hpv) hpv hms h84
      exact ⟨P', z1, z2, fun b' _ => by rw [z3]⟩
    · have hbB : b < few := by omega
      -- one is left
      obtain ⟨e0, e01, e02⟩ : ∃ e : Nat, e < few ∧ ∀ b', b' < b → DG few b pre b' ≠ e := by
        apply Classical.byContradiction
        intro hn
        have : few ≤ b := pigeonR (fun e b' => DG few b pre b' = e) (fun e he => by
          apply Classical.byContradiction
          intro h
          exact hn ⟨e, he, fun b' hb' q => h ⟨b', hb', q⟩⟩) (fun e e' b' l1 l2 q1 q2 => by omega)
        omega
      have hso0 := hs.2.1 e0 e01
      have nz : ¬ w32 left = 0 := by
        intro h
        have ht : Bt left (so e0) = true := (hl _ hso0.1 (by omega)).mpr ⟨e0, e01, rfl, e02⟩
        unfold in32 at hl32
        rw [w32_id hl32] at h
        rw [h, Bt_0] at ht; exact absurd ht (by decide)
      rw [if_neg nz]
      obtain ⟨E, hE⟩ : ∃ E, E = few ^ (few - (b + 1)) := ⟨_, rfl⟩
      have hE9 : few ^ (few - b) = few * E := by rw [hE, show few - b = (few - (b + 1)) + 1 by omega, Nat.pow_succ, Nat.mul_comm]
      have hE0 : 0 < E := by rw [hE]; exact Nat.pow_pos (by omega)
      have eq0 : pre * few ^ (few - b) = (pre * few + 0) * E := by rw [hE9, Nat.add_zero, Nat.mul_assoc]
      have eq9 : (pre + 1) * few ^ (few - b) = (pre * few + few) * E := by rw [hE9, ← Nat.mul_assoc, Nat.add_mul, Nat.one_mul]
      rw [eq9]
      rw [eq0] at hms
      have none' : ∀ dd : Nat, dd < few → ¬ PV okO frO few (b + 1) (pre * few + dd) → ∀ c', (pre * few + dd) * E ≤ c' → c' < (pre * few + dd + 1) * E → ¬ PV okO frO few few c' := by
        intro dd h9 hn c' l1 l2 hv
        refine hn (PV_sub (by omega) ?_ hv)
        rw [← hE]
        exact Nat.div_eq_of_lt_le l1 l2
      have key : wpo (f_X10_rows_L6 (f_R d) b left q_N 0 P) (fun z => z.1 = 0 ∧ MSO few so Mc N ((pre * few + few) * E) z.2 ∧ ∀ b' : Nat, b' < b → z.2 84 b' = P 84 b') := by
        unfold f_X10_rows_L6
        refine qlm1_N (fun p Q => 0 ≤ p ∧ p ≤ N 35 0 ∧ ∃ dd : Nat, dd ≤ few ∧ (∀ e : Nat, e < dd → so e < p) ∧ (∀ e : Nat, dd ≤ e → e < few → p ≤ so e) ∧ MSO few so Mc N ((pre * few + dd) * E) Q ∧ ∀ b' : Nat, b' < b → Q 84 b' = P 84 b') (fun p _ => (8 - p).toNat) _ _ ⟨by omega, by omega, 0, by omega, fun e h => by omega, fun e _ h => (hs.2.1 e h).1, hms, fun _ _ => rfl⟩ (by omega) ?_
        intro p Q g ⟨j1, j2, dd, j3, j4, j5, j6, j7⟩ ih2
        have q35 : Q 35 = N 35 := j6.1.1 35 (by omega)
        unfold f_X10_rows_B6
        simp (disch := omega) only [w32_id, q_gf_e, q_gr_e, q_pf_e, q_pz_e, q_let_e, q_call_e, q_calp_e, q_al_ok, q_as_ok, q_nz_ok, up_same, up_nei, up_ne1, Int.toNat_natCast, reduceIte, Int.reduceEq, Int.reduceLT, Int.reduceLE, Int.reduceNeg, not_true_eq_false, not_false_eq_true, q35]
        refine wpo_ite (fun c => wpo_some.mpr ⟨rfl, ?_, j7⟩) (fun c => ?_)
        · have : dd = few := by
            apply Classical.byContradiction
            intro h
            have := j5 dd (by omega) (by omega)
            have := soS dd (by omega)
            omega
          have j6' := j6
          rw [this] at j6'
          exact j6'
        · rw [shr1 (by omega)]
          by_cases ce : dd < few ∧ so dd = p
          · -- the next digit
            obtain ⟨ce1, ce2⟩ := ce
            have lo : ∀ e : Nat, e < dd + 1 → so e < p + 1 := fun e h => by
              by_cases q : e = dd
              · subst q; omega
              · have := j4 e (by omega); omega
            have hi : ∀ e : Nat, dd + 1 ≤ e → e < few → p + 1 ≤ so e := fun e h1 h2 => by
              have := hs.1 dd e (by omega) h2; omega
            by_cases cu : Bt left p = true
            · rw [if_pos cu]
              obtain ⟨e, e1, e2, e3⟩ := (hl p j1 (by omega)).mp cu
              have ed : e = dd := by
                rcases Nat.lt_trichotomy e dd with l | l | l
                · have := j4 e l; omega
                · exact l
                · have := hi e (by omega) e1; omega
              subst ed
              have hvv : PV okO frO few (b + 1) (pre * few + e) := (PV_ext (by omega) ce1).mpr ⟨hpv, trivial, fun b' l1 l2 => e3 b' l1 l2⟩
              (try simp (disch := omega) only [w32_id, q_gf_e, q_gr_e, q_pf_e, q_pz_e, q_let_e, q_call_e, q_calp_e, q_al_ok, q_as_ok, q_nz_ok, up_same, up_nei, up_ne1, Int.toNat_natCast, reduceIte, Int.reduceEq, Int.reduceLT, Int.reduceLE, Int.reduceNeg, not_true_eq_false, not_false_eq_true])
              have fq : FM Q (up Q 84 b p) := ⟨fun n a => up_ne1 (by omega), fun f a => by rw [up_ne1 (by omega)], fun n q a b c => by rw [up_ne1 (by omega)], fun n i a b c => by rw [up_ne1 (by omega)]⟩
              have hmq : MSO few so Mc N ((pre * few + e) * few ^ (few - (b + 1))) (up Q 84 b p) := by
                obtain ⟨u1, u2, cb, u3, u4⟩ := j6
                rw [← hE]
                refine ⟨u1.trans fq, by rw [up_ne1 (by omega)]; exact u2, cb, by rw [up_ne1 (by omega)]; exact u3, fun h b' hb' => ?_⟩
                rw [up_ne1 (by omega)] at h
                rw [up_ne1 (by omega)]
                exact u4 h b' hb'
              obtain ⟨Q', x1, x2, x3⟩ := ih (b + 1) (pre * few + e) (q_and left (q_xor (q_shl 1 p) (-1))) (up Q 84 b p) (by omega) (by omega) hmq hvv (fun b' hb' => by
                by_cases q : b' = b
                · subst q; rw [up_same, DG_last ce1]; exact ce2.symm
                · rw [up_nei (by omega), DG_ext (by omega) ce1 (by omega), j7 b' (by omega)]; exact h84 b' (by omega)) (q_and_rng _ _) (fun p' a1 a2 => by
                rw [Bt_and, Bt_xor, Bt_shl (by omega) a1, Bt_m1 ⟨a1, a2⟩]
                constructor
                · intro h
                  have h1 : Bt left p' = true ∧ p ≠ p' := by
                    cases hh : Bt left p'
                    · rw [hh] at h; simp at h
                    · rw [hh] at h; simpa using h
                  obtain ⟨e', y1, y2, y3⟩ := (hl p' a1 a2).mp h1.1
                  refine ⟨e', y1, y2, fun b' hb' => ?_⟩
                  by_cases q : b' = b
                  · subst q
                    rw [DG_last ce1]
                    intro q2
                    apply h1.2
                    rw [← y2, ← q2, ce2]
                  · rw [DG_ext (by omega) ce1 (by omega)]; exact y3 b' (by omega)
                · intro ⟨e', y1, y2, y3⟩
                  have h1 : Bt left p' = true := (hl p' a1 a2).mpr ⟨e', y1, y2, fun b' hb' => by
                    have := y3 b' (by omega)
                    rwa [DG_ext (by omega) ce1 hb'] at this⟩
                  have h2 : p ≠ p' := by
                    intro q
                    have := y3 b (by omega)
                    rw [DG_last ce1] at this
                    apply this
                    rcases Nat.lt_trichotomy e e' with l | l | l
                    · have := hs.1 e e' l y1; omega
                    · exact l
                    · have := hs.1 e' e l ce1; omega
                  simp [h1, h2])
              have x1 : f_R d ((b : Int) + 1) (q_and left (q_xor (q_shl 1 p) (-1))) (up Q 84 b p) = some (0, Q') := x1
              rw [x1]
              (try simp (disch := omega) only [w32_id, q_gf_e, q_gr_e, q_pf_e, q_pz_e, q_let_e, q_call_e, q_calp_e, q_al_ok, q_as_ok, q_nz_ok, up_same, up_nei, up_ne1, Int.toNat_natCast, reduceIte, Int.reduceEq, Int.reduceLT, Int.reduceLE, Int.reduceNeg, not_true_eq_false, not_false_eq_true])
              rw [← hE] at x2
              exact ih2 _ _ ⟨by omega, by omega, e + 1, by omega, lo, hi, x2, fun b' hb' => by rw [x3 b' (by omega), up_nei (by omega)]; exact j7 b' hb'⟩ (by omega)
            · rw [if_neg cu]
              (try simp (disch := omega) only [w32_id, q_gf_e, q_gr_e, q_pf_e, q_pz_e, q_let_e, q_call_e, q_calp_e, q_al_ok, q_as_ok, q_nz_ok, up_same, up_nei, up_ne1, Int.toNat_natCast, reduceIte, Int.reduceEq, Int.reduceLT, Int.reduceLE, Int.reduceNeg, not_true_eq_false, not_false_eq_true])
              have hn : ¬ PV okO frO few (b + 1) (pre * few + dd) := fun hv => by
                apply cu
                have := ((PV_ext (by omega) ce1).mp hv).2.2
                exact (hl p j1 (by omega)).mpr ⟨dd, ce1, ce2, fun b' hb' q => this b' hb' q⟩
              exact ih2 _ _ ⟨by omega, by omega, dd + 1, by omega, lo, hi, j6.skip (Nat.mul_le_mul_right E (by omega)) (fun c' l1 l2 => none' dd ce1 hn c' l1 l2), j7⟩ (by omega)
          · -- nobody of them
            have hi : ∀ e : Nat, dd ≤ e → e < few → p + 1 ≤ so e := fun e h1 h2 => by
              have h3 := j5 e h1 h2
              by_cases q : so e = p
              · exfalso
                by_cases q2 : e = dd
                · subst q2; exact ce ⟨h2, q⟩
                · have := hs.1 dd e (by omega) h2
                  have := j5 dd (by omega) (by omega)
                  omega
              · omega
            have cu : ¬ Bt left p = true := fun h => by
              obtain ⟨e, e1, e2, e3⟩ := (hl p j1 (by omega)).mp h
              by_cases q : e < dd
              · have := j4 e q; omega
              · have := hi e (by omega) e1; omega
            rw [if_neg cu]
            (try simp (disch := omega) only [w32_id, q_gf_e, q_gr_e, q_pf_e, q_pz_e, q_let_e, q_call_e, q_calp_e, q_al_ok, q_as_ok, q_nz_ok, up_same, up_nei, up_ne1, Int.toNat_natCast, reduceIte, Int.reduceEq, Int.reduceLT, Int.reduceLE, Int.reduceNeg, not_true_eq_false, not_false_eq_true])
            exact ih2 _ _ ⟨by omega, by omega, dd, j3, fun e h => by have := j4 e h; omega, hi, j6, j7⟩ (by omega)
      obtain ⟨⟨r, Q'⟩, e1, e2, e3, e4⟩ := key
      simp only at e2 e3 e4
      subst e2
      exact ⟨Q', e1, e3, e4⟩
