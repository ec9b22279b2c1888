/-- scratch of the reference's searches too -/
def SM2 (M M' : Mem) : Prop := (∀ n, n ≠ 0 → n ≠ 64 → n ≠ 65 → n ≠ 82 → (n < 84 ∨ 88 < n) → M' n = M n) ∧ ∀ f, f ≠ 34 → f ≠ 51 → f ≠ 54 → f ≠ 57 → M' 0 f = M 0 f
theorem SM2.refl (M : Mem) : SM2 M M := ⟨fun _ _ _ _ _ _ => rfl, fun _ _ _ _ _ => rfl⟩
theorem SM2.trans {M M' M'' : Mem} (h : SM2 M M') (h' : SM2 M' M'') : SM2 M M'' := ⟨fun n a b c d e => (h'.1 n a b c d e).trans (h.1 n a b c d e), fun f a b c d => (h'.2 f a b c d).trans (h.2 f a b c d)⟩
theorem SN.to2 {M M' : Mem} (h : SN M M') : SM2 M M' := ⟨fun n a b c _ _ => h.1 n a b c, fun f a _ _ _ => h.2 f a⟩
theorem SM2.fm {M M' : Mem} (h : SM2 M M') : FM M M' := ⟨fun n a => h.1 n (by omega) (by omega) (by omega) (by omega) (by omega), fun f a => h.2 f (by omega) (by omega) (by omega) (by omega), fun n q a b c => by rw [h.1 n (by omega) (by omega) (by omega) (by omega) (by omega)], fun n i a b c => by rw [h.1 n (by omega) (by omega) (by omega) (by omega) (by omega)]⟩
theorem SM2.vw {q : Int} {M M' : Mem} (h : SM2 M M') : VEQ (mvw q M) (mvw q M') := mvw_eq (fun n a b => by rw [h.1 n (by omega) (by omega) (by omega) (by omega) (by omega)]) (fun n i a b c d => by rw [h.1 n (by omega) (by omega) (by omega) (by omega) (by omega)])
theorem MR.frm2 {t k : Nat} {q r b : Int} {Mc Mm Mm' : Mem} (h : MR t k q r b Mc Mm) (fm : SM2 Mm Mm') : MR t k q r b Mc Mm' := by
  obtain ⟨h1, h2, h3, h4, h5, h6, h7⟩ := h
  have hS : Mm 35 0 ≤ 8 := h1.2.1.2.2
  have em := fm.vw (q := q)
  have e2 : EQV (Mm 35 0) (mvw q Mm) (mvw q Mm') := VEQ.to em hS (by have := h6.2.2.1; have := h5.2.2.1; omega)
  have hT : TR t Mc Mm' := TR.frm2 h1 (fun n a => rfl) (fun n a b => fm.1 n (by omega) (by omega) (by omega) (by omega) (by omega))
  unfold MR StE
  rw [fm.1 35 (by omega) (by omega) (by omega) (by omega) (by omega), fm.2 47 (by omega) (by omega) (by omega) (by omega), fm.2 48 (by omega) (by omega) (by omega) (by omega), fm.2 49 (by omega) (by omega) (by omega) (by omega)]
  exact ⟨hT, h2, h3, h4, h5.trans e2, h6, NOB.of h7 em hS⟩
theorem mayA2 {t : Nat} {bus i s : Int} {Mc Mm : Mem} (h : MR t 4 0 0 0 Mc Mm) (h3 : Mm 0 47 = 0) (hb : 0 ≤ bus ∧ bus < Mm 35 1) (hi : 0 ≤ i ∧ i < Mm 69 0) (hs : Mm 70 i = s) : ∀ N, SM2 Mm N → ∃ v N', f_X10_mayRide 0 s bus N = some (v, N') ∧ SN N N' ∧ ((v = 1 ∧ MVP bus s Mm) ∨ (v = 0 ∧ ¬ MVP bus s Mm)) := by
  obtain ⟨r1, r2, r3, r4, r5, r6⟩ := h.rng
  have hB := h.1.2.2.1
  have hS := h.1.2.1
  have hs0 : Mm 70 (8 * 0 + i) = s := by rw [show (8 * 0 + i : Int) = i by omega]; exact hs
  have hx := r4 i hi.1 hi.2
  rw [hs0] at hx
  have hC := (r6 s hx.1 hx.2.1).2.1
  have hfa := (h.1.2.2.2.2.2.2.2.2.2.1 bus hb.1 hb.2).2.2.2.2
  have both : ∀ N, SM2 Mm N → ∃ Mc1 v Mc2 N', f_X3_look s i (Mm 44 bus) Mc = some (0, Mc1) ∧ f_X2_worth (t + 10) 262 7 0 Mc1 = some (v, Mc2) ∧ f_X10_mayRide 0 s bus N = some (if v = -9223372036854775808 then (if Mm 72 (8 * 0 + s) < Mm 44 bus then 0 else 1) else (if v = 0 then 0 else 1), N') ∧ SN N N' := by
    intro N sm
    have h' := h.frm2 sm
    have n70 := sm.1 70 (by omega) (by omega) (by omega) (by omega) (by omega)
    have n69 := sm.1 69 (by omega) (by omega) (by omega) (by omega) (by omega)
    have n35 := sm.1 35 (by omega) (by omega) (by omega) (by omega) (by omega)
    have n44 := sm.1 44 (by omega) (by omega) (by omega) (by omega) (by omega)
    have n72 := sm.1 72 (by omega) (by omega) (by omega) (by omega) (by omega)
    have hpl : f_X10_placeOf 0 s N = some i := by
      have := h'.place hi.1 (by rw [n69]; exact hi.2)
      rwa [n70, hs0] at this
    obtain ⟨Mc1, Mm1, v, Mc2, a1, a2, a3, a4, a5, a6, a7, a8⟩ := evW (l := 0) h' ⟨hx.1, by rw [n35]; exact hx.2.1⟩ hpl (.inl ⟨rfl, hi.1, by omega⟩) (fare := Mm 44 bus) (by omega) (by omega)
    have n47 : N 0 47 = 0 := by rw [sm.2 47 (by omega) (by omega) (by omega) (by omega)]; exact h3
    obtain ⟨Mm2, hm, sm2⟩ := mayM (bus := bus) (q := 0) (s := s) a8 a6 (by rw [n44]; exact a2) (by omega) (by omega) (by omega) (by omega) (by rw [n72]; exact hC) (by rw [n44]; omega)
    rw [n72, n44] at hm
    exact ⟨Mc1, v, Mc2, Mm2, a1, a3, hm, sm2⟩
  obtain ⟨Mc1, v0, Mc2, N0, b1, b3, b6, b7⟩ := both Mm (SM2.refl _)
  have hv01 : ∀ v : Int, (if v = -9223372036854775808 then (if Mm 72 (8 * 0 + s) < Mm 44 bus then (0 : Int) else 1) else (if v = 0 then 0 else 1)) = 0 ∨ (if v = -9223372036854775808 then (if Mm 72 (8 * 0 + s) < Mm 44 bus then (0 : Int) else 1) else (if v = 0 then 0 else 1)) = 1 := by
    intro v; split <;> split <;> omega
  have hiff : MVP bus s Mm ↔ (if v0 = -9223372036854775808 then (if Mm 72 (8 * 0 + s) < Mm 44 bus then (0 : Int) else 1) else (if v0 = 0 then 0 else 1)) = 1 := by
    constructor
    · intro ⟨N', e⟩
      rw [b6] at e
      simp only [Option.some.injEq, Prod.mk.injEq] at e
      exact e.1
    · intro e
      exact ⟨N0, by rw [b6, e]⟩
  intro N sm
  obtain ⟨Mc1', v, Mc2', N', c1, c3, c6, c7⟩ := both N sm
  have eM : Mc1' = Mc1 := by rw [b1] at c1; simpa using c1.symm
  subst eM
  have ev : v = v0 := by rw [b3] at c3; simp at c3; exact c3.1.symm
  subst ev
  refine ⟨_, N', c6, c7, ?_⟩
  rcases hv01 v with e | e
  · right; exact ⟨e, fun h => by rw [hiff, e] at h; omega⟩
  · left; exact ⟨e, hiff.mpr e⟩
def dec (d : Nat) : Int := if d = 8 then -2 else d
/-- what the search knows -/
def MS (N : Mem) (B L : Nat) (P : Mem) : Prop := SM2 N P ∧ (-1 ≤ P 0 57 ∧ P 0 57 ≤ 400) ∧ ∃ c, BST (PV (okMa N) frMa 9 B) (wM N B) L (P 0 57) c ∧ (0 ≤ P 0 57 → ∀ b : Nat, b < B → P 88 b = dec (DG 9 B c b))
theorem copyM {F : Int → Int → Int → Mem → Res} {B : Nat} {P : Mem} (hB : B ≤ 4) : ∃ P', f_X10_matches_L27 F B q_N 0 P = some (0, P') ∧ (∀ b : Nat, b < B → P' 88 b = P 87 b) ∧ ∀ n, n ≠ 88 → P' n = P n := by
  have key : wpo (f_X10_matches_L27 F B q_N 0 P) (fun z => z.1 = 0 ∧ (∀ b : Nat, b < B → z.2 88 b = P 87 b) ∧ ∀ n, n ≠ 88 → z.2 n = P n) := by
    unfold f_X10_matches_L27
    refine qlm1_N (fun x P' => 0 ≤ x ∧ x ≤ B ∧ (∀ b : Nat, (b : Int) < x → P' 88 b = P 87 b) ∧ ∀ n, n ≠ 88 → P' n = P n) (fun x _ => (4 - x).toNat) _ _ ⟨by omega, by omega, fun b h => by omega, fun n _ => rfl⟩ (by omega) ?_
    intro x P' g ⟨i1, i2, i3, i4⟩ ih
    unfold f_X10_matches_B27
    have e87 := i4 87 (by omega)
    simp (disch := omega) only [w32_id, q_gf_e, q_gr_e, q_pf_e, q_pz_e, q_let_e, q_call_e, q_calp_e, q_al_ok, q_as_ok, q_nz_ok, up_same, up_nei, up_ne1, Int.toNat_natCast, reduceIte, Int.reduceEq, Int.reduceLT, Int.reduceLE, Int.reduceNeg, not_true_eq_false, not_false_eq_true, e87]
    refine wpo_ite (fun c => wpo_some.mpr ⟨rfl, fun b hb => i3 b (by omega), i4⟩) (fun c => ?_)
    refine ih _ _ ⟨by omega, by omega, fun b hb => ?_, fun n a => (up_ne1 a).trans (i4 n a)⟩ (by omega)
    by_cases e : (b : Int) = x
    · rw [e, up_same]
    · rw [up_nei e]; exact i3 b (by omega)
  obtain ⟨⟨r, P'⟩, e1, e2, e3, e4⟩ := key
  simp only at e2 e3 e4
  subst e2
  exact ⟨P', e1, e3, e4⟩
theorem MS.skip {N P : Mem} {B L L' : Nat} (h : MS N B L P) (hl : L ≤ L') (hn : ∀ c', L ≤ c' → c' < L' → ¬ PV (okMa N) frMa 9 B c') : MS N B L' P := by
  obtain ⟨h1, h2, c, h3, h4⟩ := h
  exact ⟨h1, h2, c, h3.skip hl hn, h4⟩
theorem MS.to {N P P' : Mem} {B L : Nat} (h : MS N B L P) (s : SM2 P P') (h57 : P' 0 57 = P 0 57) (h88 : P' 88 = P 88) : MS N B L P' := by
  obtain ⟨h1, h2, c, h3, h4⟩ := h
  unfold MS
  rw [h57, h88]
  exact ⟨h1.trans s, h2, c, h3, h4⟩
set_option maxHeartbeats 2000000 in
theorem dfsM {t B : Nat} {Mc N : Mem} (hm : MR t 4 0 0 0 Mc N) (h47 : N 0 47 = 0) (hBN : N 35 1 = B) (hkn : ∀ p, 0 ≤ p → p < N 35 0 → 0 ≤ N 38 p ∧ N 38 p ≤ 99) : ∀ (d b pre : Nat) (used sum : Int) (P : Mem), b ≤ B → B - b < d → MS N B (pre * 9 ^ (B - b)) P → PV (okMa N) frMa 9 b pre → (∀ b' : Nat, b' < b → P 87 b' = dec (DG 9 b pre b')) → (∀ dd : Int, 0 ≤ dd → dd < 8 → (Bt used dd = true ↔ ∃ b', b' < b ∧ (DG 9 b pre b' : Int) = dd)) → sum = sN (fun b' => wk N (DG 9 b pre b')) b → ∃ P', f_A d b used sum P = some (0, P') ∧ MS N B ((pre + 1) * 9 ^ (B - b)) P' ∧ ∀ b' : Nat, b' < b → P' 87 b' = P 87 b' := by
  have hS := hm.1.2.1
  have hBB := hm.1.2.2.1
  have hB4 : B ≤ 4 := by omega
  obtain ⟨r1, r2, r3, r4, r5, r6⟩ := hm.rng
  intro d
  induction d with
  | zero => intro b pre used sum P _ h; exact absurd h (Nat.not_lt_zero _)
  | succ d ih =>
    intro b pre used sum P hb hd hms hpv h87 hus hsum
    show ∃ P', f_X10_matches_G (f_A d) b used sum P = some (0, P') ∧ _
    have srg := sN_rng (f := fun b' => wk N (DG 9 b pre b')) (b := 99) b (fun b' hb' => by
      have := hpv.1 b' hb'
      show 0 ≤ wk N (DG 9 b pre b') ∧ wk N (DG 9 b pre b') ≤ 99
      unfold wk
      rcases this with e | ⟨e1, e2, -⟩
      · rw [if_pos e]; omega
      · rw [if_neg (by omega)]; exact hkn _ (by omega) e2)
    rw [← hsum] at srg
    have hs400 : 0 ≤ sum ∧ sum ≤ 400 := by omega
    have p35 := hms.1.1 35 (by omega) (by omega) (by omega) (by omega) (by omega)
    unfold f_X10_matches_G
    simp (disch := omega) only [w32_id, q_gf_e, q_gr_e, q_pf_e, q_pz_e, q_let_e, q_call_e, q_calp_e, q_al_ok, q_as_ok, q_nz_ok, up_same, up_nei, up_ne1, Int.toNat_natCast, reduceIte, Int.reduceEq, Int.reduceLT, Int.reduceLE, Int.reduceNeg, not_true_eq_false, not_false_eq_true, p35, hBN]
    by_cases cB : b = B
    · -- a whole row
      subst cB
      have e0 : b - b = 0 := by omega
      rw [e0, Nat.pow_zero, Nat.mul_one] at hms ⊢
      obtain ⟨h1, h2, c, h3, h4⟩ := hms
      rw [if_neg (by simp), w32_id (x := P 0 57) (by omega)]
      have hw : wM N b pre = sum := hsum.symm
      by_cases cs : P 0 57 < sum
      · rw [if_pos cs]
        obtain ⟨P', e1, e2, e3⟩ := copyM (F := f_A d) (B := b) (P := up P 0 57 sum) hB4
        rw [e1]
        refine ⟨P', rfl, ⟨h1.trans ⟨fun n a _ _ _ b' => by rw [e3 n (by omega), up_ne1 a], fun f _ _ _ a => by rw [e3 0 (by omega), up_nei a]⟩, ?_, pre, ?_, fun _ b' hb' => ?_⟩, fun b' hb' => by rw [e3 87 (by omega), up_ne1 (by omega)]⟩
        · rw [e3 0 (by omega), up_same]; omega
        · rw [e3 0 (by omega), up_same, ← hw]
          exact h3.new hpv (by omega) (by omega)
        · rw [e2 b' hb', up_ne1 (by omega)]; exact h87 b' hb'
      · rw [if_neg cs]
        exact ⟨P, rfl, ⟨h1, h2, c, h3.old (fun _ => by omega) (fun _ => by omega), h4⟩, fun _ _ => rfl⟩
    · have hbB : b < B := by omega
      rw [if_pos (by omega)]
      obtain ⟨E, hE⟩ : ∃ E, E = 9 ^ (B - (b + 1)) := ⟨_, rfl⟩
      have hE9 : 9 ^ (B - b) = 9 * E := by rw [hE, show B - b = (B - (b + 1)) + 1 by omega, Nat.pow_succ, Nat.mul_comm]
      have hE0 : 0 < E := by rw [hE]; exact Nat.pow_pos (by omega)
      have eq0 : pre * 9 ^ (B - b) = (pre * 9 + 0) * E := by rw [hE9, Nat.add_zero, Nat.mul_assoc]
      have eq9 : (pre + 1) * 9 ^ (B - b) = (pre * 9 + 9) * E := by rw [hE9, ← Nat.mul_assoc, Nat.add_mul, Nat.one_mul]
      rw [eq9]
      rw [eq0] at hms
      -- rows that begin so can't be
      have none' : ∀ dd : Nat, dd < 9 → ¬ PV (okMa N) frMa 9 (b + 1) (pre * 9 + dd) → ∀ c', (pre * 9 + dd) * E ≤ c' → c' < (pre * 9 + dd + 1) * E → ¬ PV (okMa N) frMa 9 B c' := by
        intro dd h9 hn c' l1 l2 hv
        refine hn (PV_sub (by omega) ?_ hv)
        rw [← hE]
        exact Nat.div_eq_of_lt_le l1 l2
      -- one digit further down
      have down : ∀ (dd : Nat) (used' sum' : Int) (Q : Mem), dd < 9 → PV (okMa N) frMa 9 (b + 1) (pre * 9 + dd) → MS N B ((pre * 9 + dd) * E) Q → (∀ b' : Nat, b' < b → Q 87 b' = P 87 b') → Q 87 b = dec dd → (∀ e : Int, 0 ≤ e → e < 8 → (Bt used' e = true ↔ (Bt used e = true ∨ (dd : Int) = e))) → sum' = sum + wk N dd → ∃ Q', f_A d ((b : Int) + 1) used' sum' Q = some (0, Q') ∧ MS N B ((pre * 9 + dd + 1) * E) Q' ∧ ∀ b' : Nat, b' < b → Q' 87 b' = P 87 b' := by
        intro dd used' sum' Q h9 hv hq q87 q87b hu hsu
        have := ih (b + 1) (pre * 9 + dd) used' sum' Q (by omega) (by omega) (by rw [← hE]; exact hq) hv (fun b' hb' => ?_) (fun e a1 a2 => ?_) ?_
        · obtain ⟨Q', x1, x2, x3⟩ := this
          rw [← hE] at x2
          exact ⟨Q', by rw [← x1]; rfl, x2, fun b' hb' => by rw [x3 b' (by omega)]; exact q87 b' hb'⟩
        · by_cases e : b' = b
          · subst e; rw [DG_last h9]; exact q87b
          · rw [DG_ext (by omega) h9 (by omega), q87 b' (by omega)]; exact h87 b' (by omega)
        · rw [hu e a1 a2, hus e a1 a2]
          constructor
          · intro h
            rcases h with ⟨b', l1, l2⟩ | h
            · exact ⟨b', by omega, by rw [DG_ext (by omega) h9 l1]; exact l2⟩
            · exact ⟨b, by omega, by rw [DG_last h9]; exact h⟩
          · intro ⟨b', l1, l2⟩
            by_cases e : b' = b
            · subst e; rw [DG_last h9] at l2; exact .inr l2
            · rw [DG_ext (by omega) h9 (by omega)] at l2; exact .inl ⟨b', by omega, l2⟩
        · show sum' = sN (fun b' => wk N (DG 9 (b + 1) (pre * 9 + dd) b')) b + wk N (DG 9 (b + 1) (pre * 9 + dd) b)
          rw [DG_last h9, hsu, hsum]
          congr 1
          exact sN_congr b (fun i hi => by rw [DG_ext (by omega) h9 hi])
      -- the souls one by one
      have key : wpo (f_X10_matches_L57 (f_A d) b used sum q_N 0 P) (fun z => z.1 = 0 ∧ MS N B ((pre * 9 + 9) * E) z.2 ∧ ∀ b' : Nat, b' < b → z.2 87 b' = P 87 b') := by
        unfold f_X10_matches_L57
        refine qlm1_N (fun x Q => ∃ p : Nat, x = p ∧ (p : Int) ≤ N 35 0 ∧ MS N B ((pre * 9 + p) * E) Q ∧ ∀ b' : Nat, b' < b → Q 87 b' = P 87 b') (fun x _ => (8 - x).toNat) _ _ ⟨0, rfl, by omega, hms, fun _ _ => rfl⟩ (by omega) ?_
        intro x Q g ⟨p, j1, j2, j3, j4⟩ ih2
        subst j1
        have q35 := j3.1.1 35 (by omega) (by omega) (by omega) (by omega) (by omega)
        have q71 := j3.1.1 71 (by omega) (by omega) (by omega) (by omega) (by omega)
        unfold f_X10_matches_B57
        simp (disch := omega) only [w32_id, q_gf_e, q_gr_e, q_pf_e, q_pz_e, q_let_e, q_call_e, q_calp_e, q_al_ok, q_as_ok, q_nz_ok, up_same, up_nei, up_ne1, Int.toNat_natCast, reduceIte, Int.reduceEq, Int.reduceLT, Int.reduceLE, Int.reduceNeg, not_true_eq_false, not_false_eq_true, q35]
        refine wpo_ite (fun c => ?_) (fun c => ?_)
        · have hp : N 35 0 = p := by omega
          have e8 : MS N B ((pre * 9 + 8) * E) Q := by
            refine j3.skip (Nat.mul_le_mul_right E (by omega)) (fun c' l1 l2 hv => ?_)
            have l3 : c' / E < pre * 9 + 8 := (Nat.div_lt_iff_lt_mul hE0).mpr l2
            have l4 : pre * 9 + p ≤ c' / E := (Nat.le_div_iff_mul_le hE0).mpr l1
            have hv' := PV_sub (b := b + 1) (pre := c' / E) (by omega) (by rw [hE]) hv
            obtain ⟨dd, hdd⟩ : ∃ dd, c' / E = pre * 9 + dd := ⟨c' / E - pre * 9, by omega⟩
            rw [hdd] at hv'
            have := ((PV_ext (by omega) (by omega)).mp hv').2.1
            rcases this with e | ⟨e1, e2, -⟩
            · omega
            · omega
          (try simp (disch := omega) only [w32_id, q_gf_e, q_gr_e, q_pf_e, q_pz_e, q_let_e, q_call_e, q_calp_e, q_al_ok, q_as_ok, q_nz_ok, up_same, up_nei, up_ne1, Int.toNat_natCast, reduceIte, Int.reduceEq, Int.reduceLT, Int.reduceLE, Int.reduceNeg, not_true_eq_false, not_false_eq_true])
          have hv8 : PV (okMa N) frMa 9 (b + 1) (pre * 9 + 8) := (PV_ext (by omega) (by omega)).mpr ⟨hpv, .inl rfl, fun _ _ _ => rfl⟩
          obtain ⟨Q', x1, x2, x3⟩ := down 8 used sum (up Q 87 b (-2)) (by omega) hv8 (e8.to ⟨fun n _ _ _ _ a => up_ne1 (by omega), fun f _ _ _ _ => by rw [up_ne1 (by omega)]⟩ (by rw [up_ne1 (by omega)]) (up_ne1 (by omega))) (fun b' hb' => by rw [up_nei (by omega)]; exact j4 b' hb') (up_same _ _ _ _) (fun e a1 a2 => ⟨fun h => .inl h, fun h => by rcases h with h | h; exact h; omega⟩) (by unfold wk; rw [if_pos rfl, Int.add_zero])
          rw [x1]
          (try simp (disch := omega) only [w32_id, q_gf_e, q_gr_e, q_pf_e, q_pz_e, q_let_e, q_call_e, q_calp_e, q_al_ok, q_as_ok, q_nz_ok, up_same, up_nei, up_ne1, Int.toNat_natCast, reduceIte, Int.reduceEq, Int.reduceLT, Int.reduceLE, Int.reduceNeg, not_true_eq_false, not_false_eq_true])
          exact wpo_some.mpr ⟨rfl, x2, x3⟩
        · have hp8 : p < 8 := by omega
          have hr6 := (r6 p (by omega) (by omega)).1
          rw [show (8 * 0 + (p : Int) : Int) = p by omega] at hr6
          have nxt : ∀ Q', MS N B ((pre * 9 + p + 1) * E) Q' → (∀ b' : Nat, b' < b → Q' 87 b' = P 87 b') → wpo (g ((p : Int) + 1) Q') (fun z => z.1 = 0 ∧ MS N B ((pre * 9 + 9) * E) z.2 ∧ ∀ b' : Nat, b' < b → z.2 87 b' = P 87 b') := fun Q' hq hq' => ih2 _ _ ⟨p + 1, by omega, by omega, hq, hq'⟩ (by omega)
          have skip : ∀ Q', ¬ PV (okMa N) frMa 9 (b + 1) (pre * 9 + p) → MS N B ((pre * 9 + p) * E) Q' → (∀ b' : Nat, b' < b → Q' 87 b' = P 87 b') → wpo (g ((p : Int) + 1) Q') (fun z => z.1 = 0 ∧ MS N B ((pre * 9 + 9) * E) z.2 ∧ ∀ b' : Nat, b' < b → z.2 87 b' = P 87 b') := fun Q' hn hq hq' => nxt Q' (hq.skip (Nat.mul_le_mul_right E (by omega)) (fun c' l1 l2 => none' p (by omega) hn c' l1 l2)) hq'
          simp (disch := omega) only [w32_id, q_gf_e, q_gr_e, q_pf_e, q_pz_e, q_let_e, q_call_e, q_calp_e, q_al_ok, q_as_ok, q_nz_ok, up_same, up_nei, up_ne1, Int.toNat_natCast, reduceIte, Int.reduceEq, Int.reduceLT, Int.reduceLE, Int.reduceNeg, not_true_eq_false, not_false_eq_true, q71]
          refine wpo_ite (fun cw => skip Q (fun hv => ?_) j3 j4) (fun cw => ?_)
          · have := ((PV_ext (by omega) (by omega)).mp hv).2.1
            rcases this with e | ⟨e1, e2, e3, -⟩
            · omega
            · exact cw e3
          have cw : N 71 p = 1 := by simpa using cw
          rw [shr1 (by omega)]
          by_cases cu : Bt used (p : Int) = true
          · rw [if_pos cu]
            have w11 : w32 1 = 1 := by decide
            rw [w11, if_pos rfl]
            refine skip Q (fun hv => ?_) j3 j4
            obtain ⟨b', l1, l2⟩ := (hus p (by omega) (by omega)).mp cu
            have := ((PV_ext (by omega) (by omega)).mp hv).2.2 b' l1 (by omega)
            unfold frMa at this
            omega
          · rw [if_neg cu, w32_0, if_neg (by omega)]
            obtain ⟨i, i1, i2, i3⟩ := hm.inq (s := p) ⟨by omega, by omega⟩ (by rw [show (8 * 0 + (p : Int) : Int) = p by omega]; exact cw)
            rw [show (8 * 0 + i : Int) = i by omega] at i3
            obtain ⟨v, Q1, m1, m2, m3⟩ := mayA2 hm h47 (bus := b) ⟨by omega, by omega⟩ ⟨i1, i2⟩ i3 Q j3.1
            have hq1 : MS N B ((pre * 9 + p) * E) Q1 := j3.to m2.to2 (m2.2 57 (by omega)) (m2.1 88 (by omega) (by omega) (by omega))
            have hq87 : ∀ b' : Nat, b' < b → Q1 87 b' = P 87 b' := fun b' hb' => by rw [m2.1 87 (by omega) (by omega) (by omega)]; exact j4 b' hb'
            rw [m1]
            rcases m3 with ⟨rfl, hv⟩ | ⟨rfl, hv⟩
            · have hvv : PV (okMa N) frMa 9 (b + 1) (pre * 9 + p) := (PV_ext (by omega) (by omega)).mpr ⟨hpv, .inr ⟨hp8, by omega, cw, hv⟩, fun b' l1 l2 => absurd ((hus p (by omega) (by omega)).mpr ⟨b', l1, by omega⟩) cu⟩
              have q38 : Q1 38 = N 38 := hq1.1.1 38 (by omega) (by omega) (by omega) (by omega) (by omega)
              simp (disch := omega) only [w32_id, q_gf_e, q_gr_e, q_pf_e, q_pz_e, q_let_e, q_call_e, q_calp_e, q_al_ok, q_as_ok, q_nz_ok, up_same, up_nei, up_ne1, Int.toNat_natCast, reduceIte, Int.reduceEq, Int.reduceLT, Int.reduceLE, Int.reduceNeg, not_true_eq_false, not_false_eq_true, q38]
              obtain ⟨Q', x1, x2, x3⟩ := down p (q_or used (q_shl 1 p)) (sum + N 38 p) (up Q1 87 b p) (by omega) hvv (hq1.to ⟨fun n _ _ _ _ a => up_ne1 (by omega), fun f _ _ _ _ => by rw [up_ne1 (by omega)]⟩ (by rw [up_ne1 (by omega)]) (up_ne1 (by omega))) (fun b' hb' => by rw [up_nei (by omega)]; exact hq87 b' hb') (by rw [up_same]; unfold dec; rw [if_neg (by omega)]) (fun e a1 a2 => by
                rw [Bt_or, Bt_shl (by omega) a1]
                simp) (by unfold wk; rw [if_neg (by omega)])
              rw [x1]
              (try simp (disch := omega) only [w32_id, q_gf_e, q_gr_e, q_pf_e, q_pz_e, q_let_e, q_call_e, q_calp_e, q_al_ok, q_as_ok, q_nz_ok, up_same, up_nei, up_ne1, Int.toNat_natCast, reduceIte, Int.reduceEq, Int.reduceLT, Int.reduceLE, Int.reduceNeg, not_true_eq_false, not_false_eq_true])
              exact nxt Q' x2 x3
            · (try simp (disch := omega) only [w32_id, q_gf_e, q_gr_e, q_pf_e, q_pz_e, q_let_e, q_call_e, q_calp_e, q_al_ok, q_as_ok, q_nz_ok, up_same, up_nei, up_ne1, Int.toNat_natCast, reduceIte, Int.reduceEq, Int.reduceLT, Int.reduceLE, Int.reduceNeg, not_true_eq_false, not_false_eq_true])
              refine skip Q1 (fun hvv => ?_) hq1 hq87
              have := ((PV_ext (by omega) (by omega)).mp hvv).2.1
              rcases this with e | ⟨e1, e2, e3, e4⟩
              · omega
              · exact hv e4
      obtain ⟨⟨r, Q'⟩, e1, e2, e3, e4⟩ := key
      simp only at e2 e3 e4
      subst e2
      exact ⟨Q', e1, e3, e4⟩
