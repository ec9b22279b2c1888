def sN (f : Nat → Int) : Nat → Int
  | 0 => 0
  | n + 1 => sN f n + f n
/-- matches: which soul may ride which bus; 8 is nobody -/
def okMa (N : Mem) (b d : Nat) : Prop := d = 8 ∨ (d < 8 ∧ (d : Int) < N 35 0 ∧ N 71 d = 1 ∧ MVP b d N)
def frMa (d : Nat) : Prop := d = 8
def wk (N : Mem) (d : Nat) : Int := if d = 8 then 0 else N 38 d
def wM (N : Mem) (B c : Nat) : Int := sN (fun b => wk N (DG 9 B c b)) B
theorem sN_rev {f : Nat → Int} {n : Nat} (h : n ≤ 4) : sN (fun i => f (n - 1 - i)) n = sN f n := by
  have hc : n = 0 ∨ n = 1 ∨ n = 2 ∨ n = 3 ∨ n = 4 := by omega
  rcases hc with rfl | rfl | rfl | rfl | rfl
  all_goals simp [sN]
  all_goals omega
theorem sN_congr {f g : Nat → Int} : ∀ n : Nat, (∀ i, i < n → f i = g i) → sN f n = sN g n
  | 0, _ => rfl
  | n + 1, h => by
    show sN f n + f n = sN g n + g n
    rw [sN_congr n (fun i a => h i (by omega)), h n (by omega)]
theorem sN_rng {f : Nat → Int} {b : Int} : ∀ n : Nat, (∀ i, i < n → 0 ≤ f i ∧ f i ≤ b) → 0 ≤ sN f n ∧ sN f n ≤ b * n
  | 0, _ => ⟨Int.le_refl _, by simp [sN]⟩
  | n + 1, h => by
    have h1 := sN_rng n (fun i a => h i (by omega))
    have h2 := h n (by omega)
    have e : b * ((n + 1 : Nat) : Int) = b * n + b := by rw [Int.natCast_succ, Int.mul_add, Int.mul_one]
    rw [e]
    show 0 ≤ sN f n + f n ∧ sN f n + f n ≤ b * n + b
    omega
set_option maxHeartbeats 2000000 in
theorem pickM {t : Nat} {B c : Nat} {M N : Mem} (hB : B ≤ 4) (hc : c < 9 ^ B) (h03 : M 0 3 = t) (ht : t = 2 ∨ t = 3) (hB' : M t 7 = B) (hS : 0 ≤ N 35 0 ∧ N 35 0 ≤ 8) (hk : ∀ p, 0 ≤ p → p < N 35 0 → M (32 * (t + 1) + 3) p = N 38 p ∧ 0 ≤ N 38 p ∧ N 38 p ≤ 99) (h46 : ∀ b : Nat, b < B → ∀ p : Int, 0 ≤ p → p < 8 → (Bt (M 46 b) p = true ↔ (p < N 35 0 ∧ N 71 p = 1 ∧ MVP b p N))) : wpo (f_X9_pickMatch c M) (fun z => (∀ n, n ≠ 44 → z.2 n = M n) ∧ ((z.1 = wM N B c ∧ PV (okMa N) frMa 9 B c ∧ ∀ b : Nat, b < B → z.2 44 b = DG 9 B c b) ∨ (z.1 = -1 ∧ ¬ PV (okMa N) frMa 9 B c))) := by
  have p9 : 9 ^ B ≤ 6561 := by
    have : 9 ^ B ≤ 9 ^ 4 := Nat.pow_le_pow_right (by omega) hB
    have e : (9 : Nat) ^ 4 = 6561 := by decide
    omega
  unfold f_X9_pickMatch f_X9_pickMatch_L18
  simp (disch := omega) only [w32_id, q_gf_e, q_gr_e, q_pf_e, q_pz_e, q_let_e, q_call_e, q_calp_e, q_al_ok, q_as_ok, q_nz_ok, up_same, up_nei, up_ne1, Int.toNat_natCast, reduceIte, Int.reduceEq, Int.reduceLT, Int.reduceLE, Int.reduceNeg, not_true_eq_false, not_false_eq_true, h03, hB']
  have hq : ∀ (fl j : Nat) (x2 x3 x4 x5 : Int) (P : Mem), j ≤ B → B - j < fl → x5 = (B : Int) - 1 - j → x2 = ((c / 9 ^ j : Nat) : Int) → (∀ b', B - j ≤ b' → b' < B → okMa N b' (DG 9 B c b')) → (∀ b1 b2, B - j ≤ b1 → b1 < b2 → b2 < B → DG 9 B c b1 = DG 9 B c b2 → frMa (DG 9 B c b1)) → (∀ d : Int, 0 ≤ d → d < 8 → (Bt x3 d = true ↔ ∃ b', B - j ≤ b' ∧ b' < B ∧ (DG 9 B c b' : Int) = d)) → x4 = sN (fun i => wk N (DG 9 B c (B - 1 - i))) j → (∀ b' : Nat, B - j ≤ b' → b' < B → P 44 b' = DG 9 B c b') → (∀ n, n ≠ 44 → P n = M n) → wpo (qlm4 (fun x2 x3 x4 x5 M g18 => f_X9_pickMatch_B18 x2 x3 x4 x5 M g18) fl x2 x3 x4 x5 P) (fun z => (∀ n, n ≠ 44 → z.2 n = M n) ∧ ((z.1 = wM N B c ∧ PV (okMa N) frMa 9 B c ∧ ∀ b : Nat, b < B → z.2 44 b = DG 9 B c b) ∨ (z.1 = -1 ∧ ¬ PV (okMa N) frMa 9 B c))) := by
    intro fl
    induction fl with
    | zero => intro j _ _ _ _ _ _ h; exact absurd h (Nat.not_lt_zero _)
    | succ fl ih =>
      intro j x2 x3 x4 x5 P hj hfl e5 e2 i1 i2 i3 i4 i5 i6
      show wpo (f_X9_pickMatch_B18 x2 x3 x4 x5 P (fun a b c d e => qlm4 (fun x2 x3 x4 x5 M g18 => f_X9_pickMatch_B18 x2 x3 x4 x5 M g18) fl a b c d e)) _
      generalize hG : (fun a b c d e => qlm4 (fun x2 x3 x4 x5 M g18 => f_X9_pickMatch_B18 x2 x3 x4 x5 M g18) fl a b c d e) = G at ih ⊢
      unfold f_X9_pickMatch_B18
      have hdv : c / 9 ^ j ≤ c := Nat.div_le_self _ _
      have hx2 : 0 ≤ x2 ∧ x2 < 7000 := by
        rw [e2]
        generalize c / 9 ^ j = qq at hdv
        omega
      (try simp (disch := omega) only [w32_id, q_gf_e, q_gr_e, q_pf_e, q_pz_e, q_let_e, q_call_e, q_calp_e, q_al_ok, q_as_ok, q_nz_ok, up_same, up_nei, up_ne1, Int.toNat_natCast, reduceIte, Int.reduceEq, Int.reduceLT, Int.reduceLE, Int.reduceNeg, not_true_eq_false, not_false_eq_true])
      refine wpo_ite (fun cn => wpo_some.mpr ?_) (fun cn => ?_)
      · have ej : j = B := by omega
        subst ej
        refine ⟨i6, .inl ⟨?_, ⟨fun b' a => i1 b' (by omega) a, fun b1 b2 a b => i2 b1 b2 (by omega) a b⟩, fun b a => i5 b (by omega) a⟩⟩
        show x4 = wM N j c
        rw [i4]
        exact sN_rev (f := fun b => wk N (DG 9 j c b)) hB
      · -- the digit of this bus
        obtain ⟨b, hb⟩ : ∃ b, b = B - 1 - j := ⟨_, rfl⟩
        have hbB : b < B := by omega
        have eb5 : x5 = (b : Int) := by omega
        obtain ⟨d, hd⟩ : ∃ d, d = DG 9 B c b := ⟨_, rfl⟩
        have hdd : d = (c / 9 ^ j) % 9 := by rw [hd]; unfold DG; rw [show B - 1 - b = j by omega]
        have d9 : d < 9 := by rw [hdd]; exact Nat.mod_lt _ (by omega)
        have et : x2.tmod 9 = (d : Int) := by rw [e2, hdd]; rfl
        have ed : x2.tdiv 9 = ((c / 9 ^ (j + 1) : Nat) : Int) := by
          rw [e2, Nat.pow_succ, ← Nat.div_div_eq_div_mul]; rfl
        rw [et, ed, eb5, w32_id (x := (d : Int)) (by omega)]
        have w38 : wk N d = if d = 8 then 0 else N 38 d := rfl
        have i5' : ∀ b' : Nat, B - (j + 1) ≤ b' → b' < B → up P 44 (b : Int) (d : Int) 44 b' = DG 9 B c b' := by
          intro b' a1 a2
          by_cases e : b' = b
          · rw [e, up_same, hd]
          · rw [up_nei (by omega)]; exact i5 b' (by omega) a2
        have i6' : ∀ n, n ≠ 44 → up P 44 (b : Int) (d : Int) n = M n := fun n a => (up_ne1 a).trans (i6 n a)
        have e4s : sN (fun i => wk N (DG 9 B c (B - 1 - i))) (j + 1) = sN (fun i => wk N (DG 9 B c (B - 1 - i))) j + wk N d := by
          show sN _ j + wk N (DG 9 B c (B - 1 - j)) = _
          rw [← hb, ← hd]
        have es : ∀ b', B - (j + 1) ≤ b' → b' < B → b' ≠ b → B - j ≤ b' := fun b' a1 a2 a3 => by omega
        refine wpo_ite (fun c8 => ?_) (fun c8 => ?_)
        · -- nobody
          have d8 : d = 8 := by omega
          rw [← hG]
          refine ih (j + 1) _ _ _ _ _ (by omega) (by omega) (by omega) rfl (fun b' a1 a2 => ?_) (fun b1 b2 a1 a2 a3 a4 => ?_) (fun dd a1 a2 => ?_) (by rw [e4s, w38, if_pos d8, Int.add_zero]; exact i4) i5' i6'
          · by_cases e : b' = b
            · rw [e, ← hd]; exact .inl d8
            · exact i1 b' (es b' a1 a2 e) a2
          · by_cases e : b1 = b
            · rw [e, ← hd]; exact d8
            · exact i2 b1 b2 (es b1 a1 (by omega) e) a2 a3 a4
          · rw [i3 dd a1 a2]
            constructor
            · intro ⟨b', h1, h2, h3⟩; exact ⟨b', by omega, h2, h3⟩
            · intro ⟨b', h1, h2, h3⟩
              by_cases e : b' = b
              · rw [e, ← hd] at h3; omega
              · exact ⟨b', es b' h1 h2 e, h2, h3⟩
        · have d8 : d < 8 := by omega
          refine wpo_ite (fun cu => wpo_some.mpr ⟨i6', .inr ⟨rfl, fun hv => ?_⟩⟩) (fun cu => ?_)
          · have ct : Bt x3 (d : Int) = true := by
              cases hh : Bt x3 (d : Int)
              · exact absurd ((and1 (by omega)).mpr hh) cu
              · rfl
            obtain ⟨b', h1, h2, h3⟩ := (i3 d (by omega) (by omega)).mp ct
            have := hv.2 b b' (by omega) h2 (by omega)
            unfold frMa at this
            omega
          · have cf : Bt x3 (d : Int) = false := by
              have cu : w32 (q_and x3 (q_shl 1 (d : Int))) = 0 := by simpa using cu
              exact (and1 (by omega)).mp cu
            have m46 : up P 44 (b : Int) (d : Int) 46 (b : Int) = M 46 b := by rw [i6' 46 (by omega)]
            rw [i6 46 (by omega)]
            have hm := h46 b hbB d (by omega) (by omega)
            refine wpo_ite (fun cm => ?_) (fun cm => wpo_some.mpr ⟨i6', .inr ⟨rfl, fun hv => ?_⟩⟩)
            · have ct : Bt (M 46 b) (d : Int) = true := by
                cases hh : Bt (M 46 b) (d : Int)
                · exact absurd ((and1 (by omega)).mpr hh) cm
                · rfl
              have hok := hm.mp ct
              have hkk := hk d (by omega) hok.1
              have p0 := i6 0 (by omega)
              have pk := i6 (32 * (t + 1) + 3) (by omega)
              simp (disch := omega) only [w32_id, q_gf_e, q_gr_e, q_pf_e, q_pz_e, q_let_e, q_call_e, q_calp_e, q_al_ok, q_as_ok, q_nz_ok, up_same, up_nei, up_ne1, Int.toNat_natCast, reduceIte, Int.reduceEq, Int.reduceLT, Int.reduceLE, Int.reduceNeg, not_true_eq_false, not_false_eq_true, p0, h03, pk, hkk.1]
              rw [← hG]
              refine ih (j + 1) _ _ _ _ _ (by omega) (by omega) (by omega) rfl (fun b' a1 a2 => ?_) (fun b1 b2 a1 a2 a3 a4 => ?_) (fun dd a1 a2 => ?_) (by rw [e4s, w38, if_neg (by omega), i4]) i5' i6'
              · by_cases e : b' = b
                · rw [e, ← hd]; exact .inr ⟨d8, hok⟩
                · exact i1 b' (es b' a1 a2 e) a2
              · by_cases e : b1 = b
                · have hb2 : Bt x3 (d : Int) = true := (i3 d (by omega) (by omega)).mpr ⟨b2, by omega, a3, by rw [← a4, e, ← hd]⟩
                  rw [cf] at hb2; exact absurd hb2 (by decide)
                · exact i2 b1 b2 (es b1 a1 (by omega) e) a2 a3 a4
              · rw [Bt_or, Bt_shl (by omega) a1]
                constructor
                · intro h
                  by_cases e : (d : Int) = dd
                  · exact ⟨b, by omega, hbB, by rw [← hd]; exact e⟩
                  · have h : Bt x3 dd = true := by simpa [e] using h
                    obtain ⟨b', h1, h2, h3⟩ := (i3 dd a1 a2).mp h
                    exact ⟨b', by omega, h2, h3⟩
                · intro ⟨b', h1, h2, h3⟩
                  by_cases e : b' = b
                  · rw [e, ← hd] at h3; simp [h3]
                  · have : Bt x3 dd = true := (i3 dd a1 a2).mpr ⟨b', es b' h1 h2 e, h2, h3⟩
                    simp [this]
            · have cf2 : Bt (M 46 b) (d : Int) = false := by
                have cm : w32 (q_and (M 46 b) (q_shl 1 (d : Int))) = 0 := by simpa using cm
                exact (and1 (by omega)).mp cm
              have := hv.1 b hbB
              rw [← hd] at this
              rcases this with h | ⟨-, h⟩
              · omega
              · have := hm.mpr h
                rw [cf2] at this; exact absurd this (by decide)
  refine hq q_N 0 _ _ _ _ _ (by omega) (q_N_lt (by omega)) (by omega) (by simp) (fun b' a b => by omega) (fun b1 b2 a b c => by omega) (fun d a b => ?_) rfl (fun b' a b => by omega) (fun n _ => rfl)
  rw [Bt_0]
  constructor
  · intro h; exact absurd h (by decide)
  · intro ⟨b', h1, h2, _⟩; omega
