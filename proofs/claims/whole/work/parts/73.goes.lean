theorem lock2 {σ τ α β γ δ : Type} (F : Nat → σ → Option α) (G : Nat → τ → Option β) (hF : γ → Option α) (hG : δ → Option β) (Q : γ → δ → Prop) (I : σ → τ → Prop) (m : σ → τ → Nat) (hs : ∀ n n' s t, m s t ≤ n → m s t ≤ n' → I s t → (∀ s' t', I s' t' → m s' t' < m s t → W2 (F n s') (G n' t') hF hG Q) → W2 (F (n + 1) s) (G (n' + 1) t) hF hG Q) : ∀ n n' s t, I s t → m s t < n → m s t < n' → W2 (F n s) (G n' t) hF hG Q
  | 0, _, _, _, _, h, _ => absurd h (Nat.not_lt_zero _)
  | _ + 1, 0, _, _, _, _, h => absurd h (Nat.not_lt_zero _)
  | n + 1, n' + 1, s, t, hi, h, h' => hs n n' s t (Nat.le_of_lt_succ h) (Nat.le_of_lt_succ h') hi (fun s' t' hi' hm => lock2 F G hF hG Q I m hs n n' s' t' hi' (Nat.lt_of_lt_of_le hm (Nat.le_of_lt_succ h)) (Nat.lt_of_lt_of_le hm (Nat.le_of_lt_succ h')))
/-- the reference alone goes on -/
theorem goesRest {t : Nat} {N : Int} : ∀ (n : Nat) (x : Int) (M : Mem), (∃ Mv, MR t 5 1 0 0 Mv M) → 0 ≤ x → x ≤ N → N ≤ 200 → (N - x).toNat < n → M 67 1 + (N - x) ≤ 10000 → ∃ z, qlm1 (fun x2 M g2 => f_X10_goesOn_B2 N x2 M g2) n x M = some (0, z) ∧ GM 1 M z
  | 0, _, _, _, _, _, _, h, _ => absurd h (Nat.not_lt_zero _)
  | n + 1, x, M, ⟨Mv, hv⟩, h0, h1, h2, h, hm => by
    show ∃ z, f_X10_goesOn_B2 N x M (qlm1 (fun x2 M g2 => f_X10_goesOn_B2 N x2 M g2) n) = some (0, z) ∧ GM 1 M z
    generalize hG : qlm1 (fun x2 M g2 => f_X10_goesOn_B2 N x2 M g2) n = G
    unfold f_X10_goesOn_B2
    rw [w32_id (by omega), w32_id (by omega)]
    by_cases c : N ≤ x
    · rw [if_pos c]; exact ⟨M, rfl, GM.refl _ _⟩
    · rw [if_neg c]
      obtain ⟨M1, N1, -, a2, a3, a4, a5, a6⟩ := pass1W hv (by omega)
      rw [a2, q_call_e]
      obtain ⟨z, z1, z2⟩ := goesRest n (x + 1) N1 ⟨M1, a3⟩ (by omega) (by omega) h2 (by omega) (by omega)
      rw [← hG]
      exact ⟨z, z1, a5.trans z2⟩
theorem goesRest3 {t : Nat} {s : Int} (hs : 0 ≤ s ∧ s < 8) : ∀ (n : Nat) (x : Int) (M : Mem), (∃ Mv, MR t 5 1 0 0 Mv M) → M 71 (8 * 1 + s) = 3 → 0 ≤ x → x ≤ 200 → (200 - x).toNat < n → M 67 1 + (200 - x) ≤ 10000 → ∃ z, qlm1 (fun x2 M g23 => f_X10_goes_B23 s x2 M g23) n x M = some (-2, z) ∧ GM 1 M z
  | 0, _, _, _, _, _, _, h, _ => absurd h (Nat.not_lt_zero _)
  | n + 1, x, M, ⟨Mv, hv⟩, h3, h0, h1, h, hm => by
    show ∃ z, f_X10_goes_B23 s x M (qlm1 (fun x2 M g23 => f_X10_goes_B23 s x2 M g23) n) = some (-2, z) ∧ GM 1 M z
    generalize hG : qlm1 (fun x2 M g23 => f_X10_goes_B23 s x2 M g23) n = G
    unfold f_X10_goes_B23
    have h3' : M 71 (8 + s) = 3 := h3
    simp (disch := omega) only [w32_id, q_gf_e, q_gr_e, q_pf_e, q_pz_e, q_let_e, q_call_e, q_calp_e, q_al_ok, q_as_ok, q_nz_ok, up_same, up_nei, up_ne1, Int.toNat_natCast, reduceIte, Int.reduceEq, Int.reduceLT, Int.reduceLE, Int.reduceNeg, not_true_eq_false, not_false_eq_true, h3']
    by_cases c : 199 < x
    · rw [if_pos c]; exact ⟨M, rfl, GM.refl _ _⟩
    · rw [if_neg c]
      obtain ⟨M1, N1, -, a2, a3, a4, a5, a6⟩ := pass1W hv (by omega)
      rw [a2, q_call_e]
      obtain ⟨z, z1, z2⟩ := goesRest3 hs n (x + 1) N1 ⟨M1, a3⟩ (by rw [a5.2.2.2.2 s hs.1 hs.2 (by omega)]; exact h3) (by omega) (by omega) (by omega) (by omega)
      rw [← hG]
      exact ⟨z, z1, a5.trans z2⟩
def FQ (t : Nat) (Mc Mm : Mem) (x y : Int × Mem) : Prop := x.1 = y.1 ∧ FC t Mc x.2 ∧ FM Mm y.2
theorem goesL {t : Nat} {s : Int} {Mc Mm : Mem} (h : MR t 5 1 0 0 Mc Mm) (hs : 0 ≤ s ∧ s < Mm 35 0) (hm : Mm 67 1 ≤ 9800) : W2 (f_X3_tillGone s 199 Mc) (f_X10_goes_L23 s q_N 0 Mm) some some (FQ t Mc Mm) := by
  have hS := h.1.2.1
  have ht := h.1.1
  have e2 : Mc (32 * (5 + 1) + 2) s = Mm 71 (8 + s) := (h.raw.2.2.2.2 s hs.1 hs.2).1
  have rg : 0 ≤ Mm 71 (8 + s) ∧ Mm 71 (8 + s) ≤ 3 := (h.rng.2.2.2.2.2 s hs.1 hs.2).1
  obtain ⟨h70, h71⟩ := h.2.2.1
  unfold f_X3_tillGone f_X10_goes_L23
  simp (disch := omega) only [w32_id, q_gf_e, q_gr_e, q_pf_e, q_pz_e, q_let_e, q_call_e, q_calp_e, q_al_ok, q_as_ok, q_nz_ok, up_same, up_nei, up_ne1, Int.toNat_natCast, reduceIte, Int.reduceEq, Int.reduceLT, Int.reduceLE, Int.reduceNeg, not_true_eq_false, not_false_eq_true, h71, e2]
  by_cases c3 : Mm 71 (8 + s) = 3
  · rw [if_neg (by simp [c3])]
    obtain ⟨z, z1, z2⟩ := goesRest3 ⟨hs.1, by omega⟩ q_N 0 Mm ⟨Mc, h⟩ c3 (by omega) (by omega) (q_N_lt (by omega)) (by omega)
    exact W2.ok (-2, Mc) (-2, z) rfl z1 ⟨rfl, FC.refl _ _, z2.fm⟩
  · rw [if_pos c3]
    unfold f_X3_tillGone_L18
    refine lock2 (fun m (u : Int × Mem) => qlm1 (fun x3 M g18 => f_X3_tillGone_B18 s 199 x3 M g18) m u.1 u.2) (fun m (u : Int × Mem) => qlm1 (fun x2 M g23 => f_X10_goes_B23 s x2 M g23) m u.1 u.2) _ _ _ (fun u v => u.1 = v.1 ∧ 0 ≤ v.1 ∧ v.1 ≤ 199 ∧ MN t 5 1 0 v.1 Mc Mm u.2 v.2) (fun u v => (200 - v.1).toNat) ?_ q_N q_N (0, Mc) (0, Mm) ⟨rfl, by show (0 : Int) ≤ 0; omega, by show (0 : Int) ≤ 199; omega, h, GC.refl _ _, GM.refl _ _, by show Mm 67 1 = Mm 67 1 + 0; omega⟩ (q_N_lt (by show (200 - 0 : Int).toNat < 100000; omega)) (q_N_lt (by show (200 - 0 : Int).toNat < 100000; omega))
    intro m m' ⟨x, M⟩ ⟨y, M'⟩ f1 f2 ⟨i1, i2, i3, i4⟩ ih
    simp only at f1 f2 i1 i2 i3 i4 ih
    subst i1
    show W2 (f_X3_tillGone_B18 s 199 x M (qlm1 (fun x3 M g18 => f_X3_tillGone_B18 s 199 x3 M g18) m)) (f_X10_goes_B23 s x M' (qlm1 (fun x2 M g23 => f_X10_goes_B23 s x2 M g23) m')) _ _ _
    have m35 : M' 35 = Mm 35 := i4.2.2.1.1 35 (by omega) (by omega) (by omega) (by omega) (by omega)
    have e2 := (i4.1.raw.2.2.2.2 s hs.1 (by rw [m35]; exact hs.2)).1
    have rg := (i4.1.rng.2.2.2.2.2 s hs.1 (by rw [m35]; exact hs.2)).1
    obtain ⟨h70, h71⟩ := i4.1.2.2.1
    have fc := i4.2.1.fc ht
    have fm := i4.2.2.1.fm
    have e2' : M (32 * (5 + 1) + 2) s = M' 71 (8 + s) := e2
    have rg' : 0 ≤ M' 71 (8 + s) ∧ M' 71 (8 + s) ≤ 3 := rg
    obtain ⟨M1, N1, a1, a2, a3, a4, a5, a6⟩ := pass1W i4.1 (by rw [i4.2.2.2]; omega)
    have hGm2 : ∀ m'', m' = m'' + 1 → ∀ N, qlm1 (fun x2 M g23 => f_X10_goes_B23 s x2 M g23) m' (199 + 1) N = some (-2, N) := by
      intro m'' e N
      subst e
      show f_X10_goes_B23 s (199 + 1) N (qlm1 (fun x2 M g23 => f_X10_goes_B23 s x2 M g23) m'') = _
      unfold f_X10_goes_B23
      rw [if_pos (by decide)]
    generalize hGc : qlm1 (fun x3 M g18 => f_X3_tillGone_B18 s 199 x3 M g18) m = Gc at ih ⊢
    generalize hGm : qlm1 (fun x2 M g23 => f_X10_goes_B23 s x2 M g23) m' = Gm at ih hGm2 ⊢
    unfold f_X3_tillGone_B18
    rw [show f_X10_goes_B23 s x M' Gm = (if M' 71 (8 + s) = 2 then some (x, M') else Gm (x + 1) N1) by
      unfold f_X10_goes_B23
      simp (disch := omega) only [w32_id, q_gf_e, q_gr_e, q_pf_e, q_pz_e, q_let_e, q_call_e, q_calp_e, q_al_ok, q_as_ok, q_nz_ok, up_same, up_nei, up_ne1, Int.toNat_natCast, reduceIte, Int.reduceEq, Int.reduceLT, Int.reduceLE, Int.reduceNeg, not_true_eq_false, not_false_eq_true, a2]
      rw [if_neg (by omega)]
      by_cases c : M' 71 (8 + s) = 2
      · rw [if_neg (by simp [c]), if_pos c]
      · rw [if_pos c, if_neg c]]
    simp (disch := omega) only [w32_id, q_gf_e, q_gr_e, q_pf_e, q_pz_e, q_let_e, q_call_e, q_calp_e, q_al_ok, q_as_ok, q_nz_ok, up_same, up_nei, up_ne1, Int.toNat_natCast, reduceIte, Int.reduceEq, Int.reduceLT, Int.reduceLE, Int.reduceNeg, not_true_eq_false, not_false_eq_true, h71, e2', a1]
    by_cases c : M' 71 (8 + s) = 2
    · simp only [c, not_true_eq_false, if_false, if_true]
      by_cases c9 : 199 ≤ x
      · rw [if_pos c9]
        exact W2.ok (199, M) (x, M') rfl rfl ⟨by show (199 : Int) = x; omega, fc, fm⟩
      · rw [if_neg c9]
        exact W2.ok (x, M) (x, M') rfl rfl ⟨rfl, fc, fm⟩
    · simp only [c, not_false_eq_true, if_false, if_true]
      by_cases c9 : 199 ≤ x
      · rw [if_pos c9]
        have ex : x = 199 := by omega
        subst ex
        exact W2.ok (-2, M) (-2, N1) rfl (hGm2 (m' - 1) (by omega) N1) ⟨rfl, fc, fm.trans a5.fm⟩
      · rw [if_neg c9]
        exact ih (x + 1, M1) (x + 1, N1) ⟨rfl, by show 0 ≤ x + 1; omega, by show x + 1 ≤ 199; omega, a3, i4.2.1.trans a4, i4.2.2.1.trans a5, by show N1 67 1 = Mm 67 1 + (x + 1); rw [a6, i4.2.2.2]; omega⟩ (by show (200 - (x + 1)).toNat < (200 - x).toNat; omega)
theorem o_goes : rs_goes Rel := by
  intro Mc Mm a0 hR h0
  obtain ⟨t, hr⟩ := hR
  have hr := hr.thr (v := 0)
  show PW _ _
  unfold f_X9_goes f_X10_goes
  rw [q_pf_e]
  generalize up Mm 0 0 0 = N at hr ⊢
  have hR : Rel Mc N := ⟨t, hr⟩
  have h03 := hr.1.1
  have hT := hr.2.1
  have hS := hT.2.1
  have ec := isSoulC (a := a0) h03 (by omega) h0
  have em := isSoulM (M := N) (a := a0) (by omega) h0
  rw [hS.1] at ec
  unfold in32 at h0
  rw [ec, em]
  by_cases c6 : 0 ≤ a0 ∧ a0 < N 35 0
  · rw [if_pos c6]
    obtain ⟨Mc1, Mm1, b1, b2, b3, b4, b5, b6, b7⟩ := tryW hr
    have m67 : Mm1 67 1 = N 67 0 := b6.1
    have h98 : N 67 0 ≤ 9800 := by have := hr.2.2.1.2; have : Mc 4 0 = N 67 0 := hr.2.2.1.1.1.1; omega
    have e35 : Mm1 35 = N 35 := b5.1 35 (by omega)
    obtain ⟨⟨r, Mc2⟩, ⟨r', Mm2⟩, d1, d2, d3, d4, d5⟩ := goesL (s := a0) b3 (by rw [e35]; exact c6) (by omega)
    simp (disch := omega) only [w32_id, q_gf_e, q_gr_e, q_pf_e, q_pz_e, q_let_e, q_call_e, q_calp_e, q_al_ok, q_as_ok, q_nz_ok, up_same, up_nei, up_ne1, Int.toNat_natCast, reduceIte, Int.reduceEq, Int.reduceLT, Int.reduceLE, Int.reduceNeg, not_true_eq_false, not_false_eq_true, b1, b2, d1, d2]
    exact PW.ok d3 (hr.frm (b4.trans d4) (b5.trans d5) |> fun h => ⟨t, h⟩)
  · rw [if_neg c6]
    (try simp (disch := omega) only [w32_id, q_gf_e, q_gr_e, q_pf_e, q_pz_e, q_let_e, q_call_e, q_calp_e, q_al_ok, q_as_ok, q_nz_ok, up_same, up_nei, up_ne1, Int.toNat_natCast, reduceIte, Int.reduceEq, Int.reduceLT, Int.reduceLE, Int.reduceNeg, not_true_eq_false, not_false_eq_true])
    exact PW.ok rfl hR
