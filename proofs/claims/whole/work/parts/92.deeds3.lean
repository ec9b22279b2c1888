theorem NTC.at {kd s fo : Int} {M : Mem} : NTC kd s fo M 8 3 = nn (M 8 3) + 1 ∧ (∀ c i, 288 ≤ c → c ≤ 290 → 0 ≤ i → i < nn (M 8 3) → NTC kd s fo M c i = M c (i + sg (M 8 3))) ∧ (NTC kd s fo M 288 (nn (M 8 3)) = kd ∧ NTC kd s fo M 289 (nn (M 8 3)) = s ∧ NTC kd s fo M 290 (nn (M 8 3)) = fo) ∧ ∀ n, n ≠ 8 → (n < 288 ∨ 290 < n) → NTC kd s fo M n = M n := by
  refine ⟨?_, fun c i a b d e => ?_, ⟨?_, ?_, ?_⟩, fun n a b => ?_⟩
  · unfold NTC; rw [if_pos ⟨rfl, rfl⟩]
  · unfold NTC; rw [if_neg (by omega), if_neg (by omega), if_neg (by omega), if_neg (by omega), if_pos ⟨a, b, d, e⟩]
  · unfold NTC; rw [if_neg (by omega), if_pos ⟨rfl, rfl⟩]
  · unfold NTC; rw [if_neg (by omega), if_neg (by omega), if_pos ⟨rfl, rfl⟩]
  · unfold NTC; rw [if_neg (by omega), if_neg (by omega), if_neg (by omega), if_pos ⟨rfl, rfl⟩]
  · funext i; unfold NTC; rw [if_neg (by omega), if_neg (by omega), if_neg (by omega), if_neg (by omega), if_neg (by omega)]
theorem EQV.up3 {S s c : Int} {w : Mem} (h : w 3 s = c) (d : Int) : EQV S (up (up w 3 s d) 3 s c) w := by
  have z : ∀ f, f ≠ 3 → up (up w 3 s d) 3 s c f = w f := fun f h => by rw [up_ne1 h, up_ne1 h]
  unfold EQV
  rw [z 0 (by omega), z 8 (by omega), z 2 (by omega), z 4 (by omega), z 5 (by omega), z 6 (by omega), z 7 (by omega)]
  refine ⟨rfl, rfl, rfl, fun _ _ _ => rfl, fun p _ _ => ⟨rfl, ?_, rfl, rfl, fun _ => ⟨rfl, rfl⟩⟩⟩
  by_cases cp : p = s
  · rw [cp, up_same, h]
  · rw [up_nei cp, up_nei cp]
theorem nowMR0 {t : Nat} {Mc N : Mem} (h : RelT t Mc N) : MR t 4 0 0 0 (RDY t 4 Mc) N := by
  have ht := h.2.1.1
  obtain ⟨f0, f1, f2, f3, f4, f5⟩ := RDY.f (k0 := t) (k1 := 4) (M := Mc)
  exact nowMR (r := 0) h (fun n hn => RDY.ne (by unfold KC at hn; omega)) ⟨f0, f1, f2, f3, f4⟩ (.inl rfl)
theorem o_give : rs_give Rel := by
  intro Mc Mm a0 a1 hR h0 h1
  obtain ⟨t, hr⟩ := hR
  have hr := hr.thr (v := 0)
  show PW _ _
  unfold f_X9_give f_X10_give
  rw [q_pf_e]
  generalize up Mm 0 0 0 = N at hr ⊢
  have hR : Rel Mc N := ⟨t, hr⟩
  have h03 := hr.1.1
  have hT := hr.2.1
  have ht := hT.1
  have hS := hT.2.1
  have ec := isSoulC (a := a0) h03 (by omega) h0
  have em := isSoulM (M := N) (a := a0) (by omega) h0
  rw [hS.1] at ec
  unfold in32 at h0 h1
  rw [ec, em]
  by_cases c : 0 ≤ a0 ∧ a0 < N 35 0
  rotate_left
  · rw [if_neg c]
    (try simp (disch := omega) only [w32_id, q_gf_e, q_gr_e, q_pf_e, q_pz_e, q_let_e, q_call_e, q_calp_e, q_al_ok, q_as_ok, q_nz_ok, up_same, up_nei, up_ne1, Int.toNat_natCast, reduceIte, Int.reduceEq, Int.reduceLT, Int.reduceLE, Int.reduceNeg, not_true_eq_false, not_false_eq_true])
    exact PW.ok rfl hR
  rw [if_pos c]
  (try simp (disch := omega) only [w32_id, q_gf_e, q_gr_e, q_pf_e, q_pz_e, q_let_e, q_call_e, q_calp_e, q_al_ok, q_as_ok, q_nz_ok, up_same, up_nei, up_ne1, Int.toNat_natCast, reduceIte, Int.reduceEq, Int.reduceLT, Int.reduceLE, Int.reduceNeg, not_true_eq_false, not_false_eq_true])
  by_cases c1 : a1 < 1
  · rw [if_pos c1, if_pos c1]; exact PW.ok rfl hR
  rw [if_neg c1, if_neg c1]
  by_cases c2 : 99 < a1
  · rw [if_neg (by omega), if_pos c2]; exact PW.ok rfl hR
  rw [if_pos (by omega), if_neg c2]
  have hw := hr.raw c.1 c.2
  obtain ⟨dr1, dr2, dr3, -⟩ := hr.2.2.2.2.1
  simp (disch := omega) only [w32_id, q_gf_e, q_gr_e, q_pf_e, q_pz_e, q_let_e, q_call_e, q_calp_e, q_al_ok, q_as_ok, q_nz_ok, up_same, up_nei, up_ne1, Int.toNat_natCast, reduceIte, Int.reduceEq, Int.reduceLT, Int.reduceLE, Int.reduceNeg, not_true_eq_false, not_false_eq_true, hw.1.1]
  by_cases c3 : N 71 a0 ≤ 1
  rotate_left
  · rw [if_neg c3]
    by_cases c4 : N 71 a0 = 2
    · rw [if_pos c4]; exact PW.ok rfl hR
    · rw [if_neg c4, if_neg (show ¬ ¬ N 71 a0 = 3 by omega)]; exact PW.ok rfl hR
  rw [if_neg (by omega), if_pos (by omega), if_pos c3]
  obtain ⟨k1, k2, k3, k4, k5, k6⟩ := KNM.q (N := N) ⟨dr2, dr3⟩
  rw [noteC (by omega), keepM ⟨dr2, dr3⟩]
  obtain ⟨n1, n2, n3, n4⟩ := NTC.at (kd := 1) (s := a0) (fo := N 72 a0) (M := Mc)
  rw [dr1] at n1 n2 n3
  have e163 : NTC 1 a0 (N 72 a0) Mc 163 = Mc 163 := n4 163 (by omega) (by omega)
  have e72 : KNM N 72 a0 = N 72 a0 := by
    have := (k4 0 (by omega) (by omega)).2.2.2 3 a0 (by omega) (by omega) c.1 (by omega)
    simpa [mvw, mvc] using this.symm
  obtain ⟨e, he, he', hr'⟩ : ∃ e, q_min (N 72 a0 + a1) 99 = e ∧ q_min 99 (N 72 a0 + a1) = e ∧ 0 ≤ e ∧ e ≤ 99 := by
    refine ⟨_, rfl, ?_, ?_⟩
    · unfold q_min
      rw [w32_id (by omega), w32_id (by omega)]
      split <;> split <;> omega
    · unfold q_min
      rw [w32_id (by omega), w32_id (by omega)]
      split <;> omega
  rw [hw.1.2.1]
  simp (disch := omega) only [w32_id, q_gf_e, q_gr_e, q_pf_e, q_pz_e, q_let_e, q_call_e, q_calp_e, q_al_ok, q_as_ok, q_nz_ok, up_same, up_nei, up_ne1, Int.toNat_natCast, reduceIte, Int.reduceEq, Int.reduceLT, Int.reduceLE, Int.reduceNeg, not_true_eq_false, not_false_eq_true, e163, hw.1.2.1, e72, he, he']
  refine PW.ok rfl ⟨t, ?_⟩
  have hm := setW (s := a0) (c := e) (f := 3) (nowMR0 hr) c (.inr ⟨rfl, hr'⟩)
  have hm1 : MR t 4 0 0 0 (up (RDY t 4 Mc) 163 a0 e) (up N 72 (8 * 0 + a0) e) := hm.1
  have hs0 : SR (N 35 0) 4 0 (up (RDY t 4 Mc) 163 a0 e) (up N 72 (8 * 0 + a0) e) := by
    have := hm1.2.2.2.2
    have e35 : up N 72 (8 * 0 + a0) e 35 = N 35 := up_ne1 (by omega)
    rw [e35] at this
    exact ⟨this.1, this.2.1, this.2.2⟩
  have v0 := k4 0 (by omega) (by omega)
  have vm : VEQ (mvw 0 (up N 72 (8 * 0 + a0) e)) (mvw 0 (up (KNM N) 72 a0 e)) := by
    have w0 : ∀ n, 67 ≤ n → n ≤ 69 → N n 0 = KNM N n 0 := by
      intro n a b
      have hn : n = 67 ∨ n = 68 ∨ n = 69 := by omega
      rcases hn with rfl | rfl | rfl
      · exact v0.1
      · exact v0.2.1
      · exact v0.2.2.1
    refine ⟨?_, ?_, ?_, fun f i a b d g => ?_⟩
    · show up N 72 (8 * 0 + a0) e 67 0 = up (KNM N) 72 a0 e 67 0
      rw [up_ne1 (by omega), up_ne1 (by omega)]; exact w0 67 (by omega) (by omega)
    · show up N 72 (8 * 0 + a0) e 68 0 = up (KNM N) 72 a0 e 68 0
      rw [up_ne1 (by omega), up_ne1 (by omega)]; exact w0 68 (by omega) (by omega)
    · show up N 72 (8 * 0 + a0) e 69 0 = up (KNM N) 72 a0 e 69 0
      rw [up_ne1 (by omega), up_ne1 (by omega)]; exact w0 69 (by omega) (by omega)
    · have := v0.2.2.2 f i a b d g
      have ef : f ≠ 0 := by omega
      simp only [mvw, if_neg ef] at this ⊢
      by_cases cc : mvc f = 72 ∧ 8 * 0 + i = 8 * 0 + a0
      · rw [cc.1, cc.2, up_same, show (8 * 0 + a0 : Int) = a0 by omega, up_same]
      · rw [up_ne cc, up_ne (by omega)]; exact this
  have vc : VEQ (cvw 4 (up (RDY t 4 Mc) 163 a0 e)) (cvw 4 (up (NTC 1 a0 (N 72 a0) Mc) 163 a0 e)) := by
    refine cvw_eq ?_ (fun f a b => ?_)
    · rw [up_ne1 (by omega), up_ne1 (by omega), n4 4 (by omega) (by omega), RDY.ne (by omega)]
    · by_cases cf : f = 3
      · subst cf
        funext i
        by_cases ci : i = a0
        · subst ci
          show up (NTC 1 i (N 72 i) Mc) 163 i e 163 i = up (RDY t 4 Mc) 163 i e 163 i
          rw [up_same, up_same]
        · show up (NTC 1 a0 (N 72 a0) Mc) 163 a0 e 163 i = up (RDY t 4 Mc) 163 a0 e 163 i
          rw [up_nei ci, up_nei ci, n4 163 (by omega) (by omega), RDY.ne (by omega)]
      · rw [up_ne1 (by omega), up_ne1 (by omega), n4 _ (by omega) (by omega), RDY.ne (by omega)]
  have vq : ∀ q, 1 ≤ q → VEQ (mvw q (KNM N)) (mvw q (up (KNM N) 72 a0 e)) := fun q hq => mvw_eq (fun n a b => by rw [up_ne1 (by omega)]) (fun n i a b d g => up_ne (by omega))
  have tr : ∀ {u v w : Mem}, VEQ u v → VEQ v w → VEQ u w := fun x y => ⟨x.1.trans y.1, x.2.1.trans y.2.1, x.2.2.1.trans y.2.2.1, fun f i a b c d => (x.2.2.2 f i a b c d).trans (y.2.2.2 f i a b c d)⟩
  have hn : 0 ≤ nn (N 0 46) := by unfold nn; split <;> omega
  refine deedRel (kd := 1) (s := a0) (fo := N 72 a0) hr ?_ ?_ ?_ ?_ ?_ ?_ ?_ (tr (k4 2 (by omega) (by omega)) (vq 2 (by omega))) (fun j a b => tr (k5 j a b) (vq _ (by omega))) (tr k6 (vq _ (by omega))) (hs0.of (by omega) vc vm) ?_ ?_
  · rw [up_ne1 (by omega)]; exact n1
  · intro c i a b d g
    rw [up_ne1 (by omega)]; exact n2 c i a b d g
  · rw [up_ne1 (by omega), up_ne1 (by omega), up_ne1 (by omega)]; exact n3
  · intro n _ _ a b d
    rw [up_ne1 (by omega)]; exact n4 n b d
  · rw [up_ne1 (by omega)]; exact k1
  · intro f a; rw [up_ne1 (by omega)]; exact k2 f a
  · intro n a b; rw [up_ne1 (by omega)]; exact k3 n a b
  · rw [up_ne1 (by omega), n4 4 (by omega) (by omega)]; exact hr.2.2.1.2
  · refine ⟨c, .inr (.inl ⟨rfl, ?_⟩)⟩
    have w9 : N 69 0 ≤ 8 := by have := hr.w0.2.2.1; have : mvw 0 N 0 9 = N 69 0 := rfl; omega
    have x1 : VEQ (mvw 0 (up (KNM N) 72 a0 e)) (up (mvw 0 N) 3 a0 e) := by
      refine tr vm.symm ⟨?_, ?_, ?_, fun f i a b d g => ?_⟩
      · show up N 72 (8 * 0 + a0) e 67 0 = up (mvw 0 N) 3 a0 e 0 0
        rw [up_ne1 (by omega), up_ne1 (by omega)]; rfl
      · show up N 72 (8 * 0 + a0) e 68 0 = up (mvw 0 N) 3 a0 e 0 1
        rw [up_ne1 (by omega), up_ne1 (by omega)]; rfl
      · show up N 72 (8 * 0 + a0) e 69 0 = up (mvw 0 N) 3 a0 e 0 9
        rw [up_ne1 (by omega), up_ne1 (by omega)]; rfl
      · have ef : f ≠ 0 := by omega
        by_cases cc : f = 3 ∧ i = a0
        · rw [cc.1, cc.2, up_same]
          show up N 72 (8 * 0 + a0) e 72 (8 * 0 + a0) = e
          rw [up_same]
        · rw [up_ne cc]
          simp only [mvw, if_neg ef]
          rw [up_ne]
          unfold mvc
          split <;> omega
    have w9' : mvw 0 (up (KNM N) 72 a0 e) 0 9 = N 69 0 := x1.2.2.1.trans (by rw [up_ne1 (by omega)]; rfl)
    have k := VEQ.to (S := N 35 0) x1 (by omega) (by omega)
    have c3' : mvw 0 N 3 a0 = N 72 a0 := by show N 72 (8 * 0 + a0) = N 72 a0; rw [show (8 * 0 + a0 : Int) = a0 by omega]
    exact (UPV.eqv k).trans (EQV.up3 c3' e)
