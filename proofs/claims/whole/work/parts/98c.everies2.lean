/-- a trial begins anew, with a bus that comes otherwise -/
theorem beginW {t : Nat} {bus ev : Int} {Mc N M M' : Mem} (hr : RelT t Mc N) (hb : 0 ≤ bus ∧ bus < N 35 1) (he : 1 ≤ ev ∧ ev ≤ 30) (fc : FC t Mc M) (m35 : ∀ n, 35 ≤ n → n ≤ 50 → M' n = N n) (m47 : M' 0 47 = 0) (m48 : M' 0 48 = bus) (m49 : M' 0 49 = ev) : ∃ M1 N1, f_X6_begin 5 (32 * (t + 1) + 4) 8 (N 35 5) M = some (0, M1) ∧ f_X10_starts 1 M' = some (0, N1) ∧ MR t 5 1 0 0 (up (up (RDY t 5 M1) 7 4 bus) 7 5 ev) N1 ∧ FC t M (up (up (RDY t 5 M1) 7 4 bus) 7 5 ev) ∧ FM M' N1 ∧ (∀ n, (n < 67 ∨ 76 < n) → N1 n = M' n) ∧ N1 67 1 = 0 ∧ M1 0 3 = t := by
  have hT := hr.2.1
  have ht := hT.1
  have hS := hT.2.1
  have hB := hT.2.2.1
  have hsd := hT.2.2.2.2.2.1
  have e35 := m35 35 (by omega) (by omega)
  have e39 := m35 39 (by omega) (by omega)
  have bN : ∀ n, n ≠ 5 → (n < 194 ∨ 199 < n) → BGC 5 (32 * (t + 1) + 4) (N 35 5) 8 M n = M n := fun n a b => by
    funext i; unfold BGC; rw [if_neg (by omega), if_neg (by omega), if_neg (by omega)]
  have sN : ∀ n, (n < 67 ∨ 76 < n) → STM 1 8 M' n = M' n := fun n a => by
    funext i; unfold STM; rw [if_neg (by omega), if_neg (by omega), if_neg (by omega)]
  obtain ⟨Mx, hMx⟩ : ∃ Mx, Mx = up (up (RDY t 5 (BGC 5 (32 * (t + 1) + 4) (N 35 5) 8 M)) 7 4 bus) 7 5 ev := ⟨_, rfl⟩
  have xN : ∀ n, n ≠ 7 → Mx n = BGC 5 (32 * (t + 1) + 4) (N 35 5) 8 M n := fun n a => by
    rw [hMx, up_ne1 a, up_ne1 a, RDY.ne a]
  obtain ⟨f0, f1, f2, f3, f4, f5⟩ := RDY.f (k0 := t) (k1 := 5) (M := BGC 5 (32 * (t + 1) + 4) (N 35 5) 8 M)
  have x70 : Mx 7 0 = t := by rw [hMx, up_nei (by omega), up_nei (by omega)]; exact f0
  have x71 : Mx 7 1 = (5 : Nat) := by rw [hMx, up_nei (by omega), up_nei (by omega)]; exact f1
  have x72 : Mx 7 2 = 0 := by rw [hMx, up_nei (by omega), up_nei (by omega)]; exact f2
  have x73 : Mx 7 3 = 0 := by rw [hMx, up_nei (by omega), up_nei (by omega)]; exact f3
  have x74 : Mx 7 4 = bus := by rw [hMx, up_nei (by omega), up_same]
  have x75 : Mx 7 5 = ev := by rw [hMx, up_same]
  have fcx : FC t M Mx := fun n hn => by
    unfold KC at hn
    rw [xN n (by omega), bN n (by omega) (by omega)]
  have fm : FM M' (STM 1 8 M') := ⟨fun n a => sN n (by omega), fun f a => by rw [sN 0 (by omega)], fun n q a b c => by unfold STM; rw [if_neg (by omega), if_neg (by omega), if_neg (by omega)], fun n i a b c => by unfold STM; rw [if_neg (by omega), if_neg (by omega), if_neg (by omega)]⟩
  refine ⟨_, _, beginC (by omega) (by omega), startsM (by omega) (by rw [e35]; omega), ?_, by rw [← hMx]; exact fcx, fm, sN, by unfold STM; rw [if_pos (by omega)], ?_⟩
  · rw [← hMx]
    have c50 : cvw 5 Mx 0 0 = 0 := by show Mx 5 0 = 0; rw [xN 5 (by omega)]; unfold BGC; rw [if_pos ⟨rfl, .inl rfl⟩]
    have c51 : cvw 5 Mx 0 1 = N 35 5 := by show Mx 5 1 = _; rw [xN 5 (by omega)]; unfold BGC; rw [if_neg (by omega), if_pos ⟨rfl, rfl⟩]
    have c59 : cvw 5 Mx 0 9 = 0 := by show Mx 5 9 = 0; rw [xN 5 (by omega)]; unfold BGC; rw [if_pos ⟨rfl, .inr rfl⟩]
    have cf : ∀ f p, 2 ≤ f → f ≤ 7 → 0 ≤ p → p < 8 → cvw 5 Mx f p = (if f = 3 then M (32 * (t + 1) + 4) p else if 6 ≤ f then -2 else 0) := by
      intro f p a b c d
      unfold cvw
      rw [if_neg (by omega), xN _ (by omega)]
      unfold BGC
      rw [if_neg (by omega), if_neg (by omega), if_pos (by omega)]
      by_cases c3 : f = 3
      · rw [if_pos (by omega), if_pos c3]
      · rw [if_neg (by omega), if_neg c3]
        by_cases c6 : 6 ≤ f
        · rw [if_pos (by omega), if_pos c6]
        · rw [if_neg (by omega), if_neg c6]
    have d0 : mvw 1 (STM 1 8 M') 0 0 = 0 := by show STM 1 8 M' 67 1 = 0; unfold STM; rw [if_pos (by omega)]
    have d1 : mvw 1 (STM 1 8 M') 0 1 = N 35 5 := by show STM 1 8 M' 68 1 = _; unfold STM; rw [if_neg (by omega), if_pos ⟨rfl, rfl⟩, e35]
    have d9 : mvw 1 (STM 1 8 M') 0 9 = 0 := by show STM 1 8 M' 69 1 = 0; unfold STM; rw [if_pos (by omega)]
    have df : ∀ f p, 2 ≤ f → f ≤ 7 → 0 ≤ p → p < 8 → mvw 1 (STM 1 8 M') f p = (if f = 3 then (if p < N 35 0 then N 39 p else 0) else if 6 ≤ f then -1 else 0) := by
      intro f p a b c d
      have ef : f ≠ 0 := by omega
      have e8 : f ≠ 8 := by omega
      simp only [mvw, if_neg ef, mvc, if_neg e8]
      unfold STM
      rw [if_neg (by omega), if_neg (by omega), if_pos (by omega), show 8 * 1 + p - 8 * 1 = p by omega, e35, e39]
      by_cases c3 : f = 3
      · rw [if_pos (by omega), if_pos c3]
      · rw [if_neg (by omega), if_neg c3]
        by_cases c6 : 6 ≤ f
        · rw [if_pos (by omega), if_pos c6]
        · rw [if_neg (by omega), if_neg c6]
    have hco : ∀ p, 0 ≤ p → p < N 35 0 → M (32 * (t + 1) + 4) p = N 39 p ∧ 0 ≤ N 39 p ∧ N 39 p ≤ 99 := fun p a b => by
      have := (hT.2.2.2.2.2.2.2.1 p a b).2.2.2.1
      rw [fc (32 * (t + 1) + 4) (by unfold KC; omega)]
      exact this
    have hTT : TR t Mx (STM 1 8 M') := TR.frm2 hT (fun n a => by
      rw [xN n (by omega), bN n (by omega) (by omega), fc n (by unfold KC; omega)]) (fun n a b => by rw [sN n (by omega), m35 n a b])
    unfold MR StE
    rw [sN 35 (by omega), e35, sN 0 (by omega), m47, m48, m49, x72, x73, x74, x75]
    refine ⟨hTT, .inr ⟨rfl, rfl⟩, ⟨x70, x71⟩, ⟨⟨rfl, .inl rfl⟩, by omega, by omega, by omega, by omega, fun _ => ⟨rfl, he⟩⟩, ?_, ?_, ?_⟩
    · refine ⟨by rw [c50, d0], by rw [c51, d1], by rw [c59, d9], fun i a b => by rw [c59] at b; omega, fun p a b => ?_⟩
      rw [cf 2 p (by omega) (by omega) a (by omega), cf 3 p (by omega) (by omega) a (by omega), cf 4 p (by omega) (by omega) a (by omega), cf 5 p (by omega) (by omega) a (by omega), df 2 p (by omega) (by omega) a (by omega), df 3 p (by omega) (by omega) a (by omega), df 4 p (by omega) (by omega) a (by omega), df 5 p (by omega) (by omega) a (by omega)]
      simp
      rw [if_pos b]
      exact (hco p a b).1
    · refine ⟨by rw [c50]; omega, by rw [c51]; unfold in32; omega, by rw [c59]; omega, fun i a b => by rw [c59] at b; omega, fun i j a b c => by rw [c59] at c; omega, fun p a b => ?_⟩
      have := hco p a b
      rw [cf 2 p (by omega) (by omega) a (by omega), cf 3 p (by omega) (by omega) a (by omega), cf 4 p (by omega) (by omega) a (by omega), cf 5 p (by omega) (by omega) a (by omega), c50]
      simp
      omega
    · intro p a b _
      rw [df 6 p (by omega) (by omega) a (by omega)]
      simp
  · rw [bN 0 (by omega) (by omega), fc 0 (by unfold KC; omega)]; exact hr.1.1
/-- the memories while everies goes on: scratch, and the marks of what is known stay -/
def EI (t : Nat) (bus : Int) (Mc N N2 M M' : Mem) : Prop := FC t Mc M ∧ (∀ n, n ≠ 0 → n ≠ 64 → n ≠ 65 → n ≠ 82 → (n < 67 ∨ 76 < n) → M' n = N2 n) ∧ (∀ f, f ≠ 34 → f ≠ 51 → f ≠ 48 → f ≠ 49 → M' 0 f = N2 0 f) ∧ M' 0 48 = bus ∧ (∀ n i, 67 ≤ n → n ≤ 69 → i ≠ 1 → M' n i = N2 n i) ∧ (∀ n i, 70 ≤ n → n ≤ 76 → (i < 8 ∨ 16 ≤ i) → M' n i = N2 n i)
theorem EI.gm {t : Nat} {bus : Int} {Mc N N2 M M' M1 N1 : Mem} (h : EI t bus Mc N N2 M M') (fc : FC t M M1) (gm : GM 1 M' N1) : EI t bus Mc N N2 M1 N1 := ⟨h.1.trans fc, fun n a b c d e => (gm.1 n a b c d e).trans (h.2.1 n a b c d e), fun f a b c d => (gm.2.1 f a b).trans (h.2.2.1 f a b c d), (gm.2.1 48 (by omega) (by omega)).trans h.2.2.2.1, fun n i a b c => (gm.2.2.1 n i a b c).trans (h.2.2.2.2.1 n i a b c), fun n i a b c => (gm.2.2.2.1 n i a b (by omega)).trans (h.2.2.2.2.2 n i a b c)⟩
set_option maxHeartbeats 1000000 in
theorem allSoW {t : Nat} {bus ev km kb : Int} {Mc N N2 M M' : Mem} (hr : RelT t Mc N) (hb : 0 ≤ bus ∧ bus < N 35 1) (he : 1 ≤ ev ∧ ev ≤ 30) (hk : KB km kb N N2) (hkm : f_X10_knownMany N = some km) (hkr : 0 ≤ km ∧ km ≤ N 0 58 ∧ N 0 58 ≤ 24) (hE : EI t bus Mc N N2 M M') (m49 : M' 0 49 = ev) : W2 (f_X9_isAllSo kb bus ev M) (f_X10_fitsEvery (mxT (Bt kb) (N 92) km.toNat) M') some some (fun x y => x.1 = y.1 ∧ (x.1 = 0 ∨ x.1 = 1) ∧ EI t bus Mc N N2 x.2 y.2) := by
  have hT := hr.2.1
  have ht := hT.1
  have hS := hT.2.1
  have hsd := hT.2.2.2.2.2.1
  have hNR := hr.2.2.2.2.2.1
  have h47 := hr.2.2.2.2.2.2.2.1
  have n2 := hk.2.2.2
  have fc := hE.1
  have e03 : M 0 3 = t := by rw [fc 0 (by unfold KC; omega)]; exact hr.1.1
  have e15 : M t 15 = N 35 5 := by rw [fc t (by unfold KC; omega)]; exact hsd.1
  obtain ⟨M1, N1, b1, b2, b3, b4, b5, b6, b7, b8⟩ := beginW (bus := bus) (ev := ev) (M := M) (M' := M') hr hb he fc (fun n a b => by rw [hE.2.1 n (by omega) (by omega) (by omega) (by omega) (by omega), n2 n (by omega)]) (by rw [hE.2.2.1 47 (by omega) (by omega) (by omega) (by omega), n2 0 (by omega)]; exact h47) hE.2.2.2.1 m49
  have hE1 : EI t bus Mc N N2 (up (up (RDY t 5 M1) 7 4 bus) 7 5 ev) N1 := by
    refine ⟨fc.trans b4, fun n a b c d e => ?_, fun f a b c d => ?_, ?_, fun n i a b c => ?_, fun n i a b c => ?_⟩
    · rw [b6 n e]; exact hE.2.1 n a b c d e
    · rw [b6 0 (by omega)]; exact hE.2.2.1 f a b c d
    · rw [b6 0 (by omega)]; exact hE.2.2.2.1
    · rw [b5.2.2.1 n i a b c]; exact hE.2.2.2.2.1 n i a b c
    · rw [b5.2.2.2 n i a b c]; exact hE.2.2.2.2.2 n i a b c
  generalize hMx : up (up (RDY t 5 M1) 7 4 bus) 7 5 ev = Mx at b3 b4 hE1
  have fcx := hE1.1
  have hlast := lastC (M := Mx) hNR hk hkr (fcx 9 (by unfold KC; omega)) (fcx 320 (by unfold KC; omega))
  have lrg : 0 ≤ mxT (Bt kb) (N 92) km.toNat ∧ mxT (Bt kb) (N 92) km.toNat ≤ 60 := mxT_rng _ (fun i a b c => by
    have h1 := (hk.2.1 i a (by omega)).mp c
    rcases hNR.2.2.2.2.2.2 i a (by omega) with ⟨-, -, k3, -⟩ | ⟨-, -, k3, k4, k5, -⟩
    · omega
    · omega)
  generalize mxT (Bt kb) (N 92) km.toNat = L at hlast lrg ⊢
  unfold f_X9_isAllSo f_X10_fitsEvery
  simp (disch := omega) only [w32_id, q_gf_e, q_gr_e, q_pf_e, q_pz_e, q_let_e, q_call_e, q_calp_e, q_al_ok, q_as_ok, q_nz_ok, up_same, up_nei, up_ne1, Int.toNat_natCast, reduceIte, Int.reduceEq, Int.reduceLT, Int.reduceLE, Int.reduceNeg, not_true_eq_false, not_false_eq_true, e03, e15, b1, b8, readyC, hMx, hlast]
  rw [b2]
  (try simp (disch := omega) only [w32_id, q_gf_e, q_gr_e, q_pf_e, q_pz_e, q_let_e, q_call_e, q_calp_e, q_al_ok, q_as_ok, q_nz_ok, up_same, up_nei, up_ne1, Int.toNat_natCast, reduceIte, Int.reduceEq, Int.reduceLT, Int.reduceLE, Int.reduceNeg, not_true_eq_false, not_false_eq_true])
  unfold f_X9_isAllSo_L65 f_X10_fitsEvery_L7
  refine lock (fun m (u : Int × Mem) => qlm1 (fun x5 M g65 => f_X9_isAllSo_B65 kb L x5 M g65) m u.1 u.2) (fun m (u : Int × Mem) => qlm1 (fun x2 M g7 => f_X10_fitsEvery_B7 L x2 M g7) m u.1 u.2) _ _ _ (fun u v => u.1 = v.1 ∧ 1 ≤ v.1 ∧ v.1 ≤ L + 1 ∧ MR t 5 1 0 0 u.2 v.2 ∧ v.2 67 1 = v.1 - 1 ∧ EI t bus Mc N N2 u.2 v.2) (fun u v => (L + 1 - v.1).toNat) ?_ q_N q_N (1, Mx) (1, N1) ⟨rfl, by show (1 : Int) ≤ 1; omega, by show 1 ≤ L + 1; omega, b3, by show N1 67 1 = 1 - 1; omega, hE1⟩ (q_N_lt (by show (L + 1 - 1).toNat < 100000; omega)) (q_N_lt (by show (L + 1 - 1).toNat < 100000; omega))
  intro m m' ⟨x, P⟩ ⟨y, P'⟩ ⟨i1, i2, i3, i4, i5, i6⟩ ih
  simp only at i1 i2 i3 i4 i5 i6 ih
  subst i1
  show W2 (f_X9_isAllSo_B65 kb L x P (qlm1 (fun x5 M g65 => f_X9_isAllSo_B65 kb L x5 M g65) m)) (f_X10_fitsEvery_B7 L x P' (qlm1 (fun x2 M g7 => f_X10_fitsEvery_B7 L x2 M g7) m')) _ _ _
  generalize qlm1 (fun x5 M g65 => f_X9_isAllSo_B65 kb L x5 M g65) m = Gc at ih ⊢
  generalize qlm1 (fun x2 M g7 => f_X10_fitsEvery_B7 L x2 M g7) m' = Gm at ih ⊢
  unfold f_X9_isAllSo_B65 f_X10_fitsEvery_B7
  (try simp (disch := omega) only [w32_id, q_gf_e, q_gr_e, q_pf_e, q_pz_e, q_let_e, q_call_e, q_calp_e, q_al_ok, q_as_ok, q_nz_ok, up_same, up_nei, up_ne1, Int.toNat_natCast, reduceIte, Int.reduceEq, Int.reduceLT, Int.reduceLE, Int.reduceNeg, not_true_eq_false, not_false_eq_true])
  by_cases c : L < x
  · rw [if_pos c, if_pos c]
    exact W2.ok (1, P) (1, P') rfl rfl ⟨rfl, .inr rfl, i6⟩
  rw [if_neg c, if_neg c]
  obtain ⟨P1, Q1, a1, a2, a3, a4, a5, a6⟩ := pass1W i4 (by omega)
  have hE2 := i6.gm (a4.fc ht) a5
  have q35 : Q1 35 = N 35 := by rw [hE2.2.1 35 (by omega) (by omega) (by omega) (by omega) (by omega), n2 35 (by omega)]
  have hw : ∀ p, 0 ≤ p → p < N 35 0 → P1 194 p = Q1 71 (8 + p) ∧ 0 ≤ Q1 71 (8 + p) ∧ Q1 71 (8 + p) ≤ 3 := fun p a b => by
    have e1 := (a3.raw.2.2.2.2 p a (by rw [q35]; exact b)).1
    have e2 := (a3.rng.2.2.2.2.2 p a (by rw [q35]; exact b)).1
    exact ⟨e1, e2⟩
  obtain ⟨z, z1, z2⟩ := areSoC (tm := x) (M := P1) (M' := Q1) hNR hk hkr (by omega) (by omega) (hE2.1 9 (by unfold KC; omega)) (fun n a b => hE2.1 n (by unfold KC; omega)) hw
  obtain ⟨z', z1', z2'⟩ := isSoM (tm := x) (M' := Q1) hNR hk hkm hkr (by omega) (by omega) ⟨by rw [hE2.2.2.1 58 (by omega) (by omega) (by omega) (by omega), n2 0 (by omega)], by rw [hE2.2.2.1 59 (by omega) (by omega) (by omega) (by omega), n2 0 (by omega)]⟩ (fun n a b => by rw [hE2.2.1 n (by omega) (by omega) (by omega) (by omega) (by omega), n2 n (by omega)]) (hE2.2.1 96 (by omega) (by omega) (by omega) (by omega) (by omega)) (fun p a b => (hw p a b).2)
  rw [a1, a2]
  simp (disch := omega) only [w32_id, q_gf_e, q_gr_e, q_pf_e, q_pz_e, q_let_e, q_call_e, q_calp_e, q_al_ok, q_as_ok, q_nz_ok, up_same, up_nei, up_ne1, Int.toNat_natCast, reduceIte, Int.reduceEq, Int.reduceLT, Int.reduceLE, Int.reduceNeg, not_true_eq_false, not_false_eq_true, z1, z1']
  rcases z2 with ⟨rfl, zz⟩ | ⟨rfl, zz⟩
  · rcases z2' with ⟨rfl, zz'⟩ | ⟨rfl, zz'⟩
    · (try simp (disch := omega) only [w32_id, q_gf_e, q_gr_e, q_pf_e, q_pz_e, q_let_e, q_call_e, q_calp_e, q_al_ok, q_as_ok, q_nz_ok, up_same, up_nei, up_ne1, Int.toNat_natCast, reduceIte, Int.reduceEq, Int.reduceLT, Int.reduceLE, Int.reduceNeg, not_true_eq_false, not_false_eq_true])
      exact ih (x + 1, P1) (x + 1, Q1) ⟨rfl, by show 1 ≤ x + 1; omega, by show x + 1 ≤ L + 1; omega, a3, by show Q1 67 1 = x + 1 - 1; omega, hE2⟩ (by show (L + 1 - (x + 1)).toNat < (L + 1 - x).toNat; omega)
    · exact absurd zz zz'
  · rcases z2' with ⟨rfl, zz'⟩ | ⟨rfl, zz'⟩
    · exact absurd zz' zz
    · (try simp (disch := omega) only [w32_id, q_gf_e, q_gr_e, q_pf_e, q_pz_e, q_let_e, q_call_e, q_calp_e, q_al_ok, q_as_ok, q_nz_ok, up_same, up_nei, up_ne1, Int.toNat_natCast, reduceIte, Int.reduceEq, Int.reduceLT, Int.reduceLE, Int.reduceNeg, not_true_eq_false, not_false_eq_true])
      exact W2.ok (0, P1) (0, Q1) rfl rfl ⟨rfl, .inl rfl, hE2⟩
