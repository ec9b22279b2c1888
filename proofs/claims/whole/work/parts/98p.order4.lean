/-- a row without one twice is a row of the same souls -/
theorem prmO {few c : Nat} {x : Int} {so row : Int → Int} (hf : 1 ≤ few) (hx : FB few row x) (hs : SO few x so) (hv : PV okO frO few few c) : PRM few (fun b => so (DG few few c b)) row := by
  have dl : ∀ b, DG few few c b < few := fun b => Nat.mod_lt _ (by omega)
  refine PRM.mk (fun b hb => ?_) (fun b b' h1 h2 e => ?_)
  · have h := hs.2.1 (DG few few c b) (dl b)
    obtain ⟨i, i1, i2, i3⟩ := (hx.2 _ h.1 (by omega)).mp h.2.2
    exact ⟨i.toNat, by omega, by rw [Int.toNat_of_nonneg i1]; exact i3⟩
  · have hne : DG few few c b ≠ DG few few c b' := fun h => hv.2 b b' h1 h2 h
    rcases Nat.lt_or_gt_of_ne hne with l | l
    · have := hs.1 _ _ l (dl b')
      have e : so (DG few few c b) = so (DG few few c b') := e
      omega
    · have := hs.1 _ _ l (dl b)
      have e : so (DG few few c b) = so (DG few few c b') := e
      omega
theorem powerN {few n : Nat} {M : Mem} (hf : few ≤ 4) (hn : n ≤ 4) : f_X9_power few n M = some ((few ^ n : Nat) : Int) := by
  rw [← wpo_eq]
  unfold f_X9_power f_X9_power_L4
  refine qlp2_N (fun a i => ∃ k : Nat, i = k ∧ k ≤ n ∧ a = ((few ^ k : Nat) : Int)) (fun _ i => (6 - i).toNat) _ _ ⟨0, rfl, by omega, rfl⟩ (by omega) ?_
  intro a i g ⟨k, e1, e2, e3⟩ ih
  subst e1
  unfold f_X9_power_B4
  (try simp (disch := omega) only [w32_id, q_gf_e, q_gr_e, q_pf_e, q_pz_e, q_let_e, q_call_e, q_calp_e, q_al_ok, q_as_ok, q_nz_ok, up_same, up_nei, up_ne1, Int.toNat_natCast, reduceIte, Int.reduceEq, Int.reduceLT, Int.reduceLE, Int.reduceNeg, not_true_eq_false, not_false_eq_true])
  refine wpo_ite (fun c => wpo_some.mpr ?_) (fun c => ?_)
  · rw [e3, show k = n by omega]
  · refine ih _ _ ⟨k + 1, by omega, by omega, ?_⟩ (by omega)
    rw [e3, Nat.pow_succ]
    norm_cast
theorem ident {few : Nat} (hf : 1 ≤ few ∧ few ≤ 4) : ∃ c, c < few ^ few ∧ PV okO frO few few c := by
  have h1 : few = 1 ∨ few = 2 ∨ few = 3 ∨ few = 4 := by omega
  rcases h1 with rfl | rfl | rfl | rfl
  · exact ⟨0, by decide, fun _ _ => trivial, fun b1 b2 a b => by omega⟩
  · refine ⟨1, by decide, fun _ _ => trivial, fun b1 b2 a b => ?_⟩
    have e1 : b1 = 0 := by omega
    have e2 : b2 = 1 := by omega
    subst e1 e2
    intro e; exact absurd e (by decide)
  · refine ⟨5, by decide, fun _ _ => trivial, fun b1 b2 a b => ?_⟩
    have : (b1 = 0 ∧ b2 = 1) ∨ (b1 = 0 ∧ b2 = 2) ∨ (b1 = 1 ∧ b2 = 2) := by omega
    rcases this with ⟨rfl, rfl⟩ | ⟨rfl, rfl⟩ | ⟨rfl, rfl⟩ <;> (intro e; exact absurd e (by decide))
  · refine ⟨27, by decide, fun _ _ => trivial, fun b1 b2 a b => ?_⟩
    have : (b1 = 0 ∧ b2 = 1) ∨ (b1 = 0 ∧ b2 = 2) ∨ (b1 = 0 ∧ b2 = 3) ∨ (b1 = 1 ∧ b2 = 2) ∨ (b1 = 1 ∧ b2 = 3) ∨ (b1 = 2 ∧ b2 = 3) := by omega
    rcases this with ⟨rfl, rfl⟩ | ⟨rfl, rfl⟩ | ⟨rfl, rfl⟩ | ⟨rfl, rfl⟩ | ⟨rfl, rfl⟩ | ⟨rfl, rfl⟩ <;> (intro e; exact absurd e (by decide))
set_option maxHeartbeats 1000000 in
theorem bestOC {t few : Nat} {x : Int} {Mc N M : Mem} (hr : RelT t Mc N) (hf : 1 ≤ few ∧ few ≤ 4) (hw : (few : Int) ≤ N 69 0) (hx : FB few (N 70) x) (hs : SO few x (M 43)) (fc : FC t Mc M) : ∃ m M' c, f_X9_bestOrder_L16 few ((few ^ few : Nat) : Int) q_N (-1) 0 M = some (m, M') ∧ FC t Mc M' ∧ 0 ≤ m ∧ m ≤ 792 ∧ BST (PV okO frO few few) (wO few (M 43) Mc) (few ^ few) m c ∧ ∀ b : Nat, b < few → M' 45 b = M 43 (DG few few c b) := by
  have p4 : few ^ few ≤ 256 := by
    have h1 : few = 1 ∨ few = 2 ∨ few = 3 ∨ few = 4 := by omega
    rcases h1 with rfl | rfl | rfl | rfl <;> decide
  have ev : ∀ c, PV okO frO few few c → 0 ≤ wO few (M 43) Mc c ∧ wO few (M 43) Mc c ≤ 792 := fun c hv => by
    obtain ⟨Mb, hMb⟩ : ∃ Mb : Mem, Mb = (fun n i => if n = 44 ∧ 0 ≤ i ∧ i < 4 then M 43 (DG few few c i.toNat) else Mc n i) := ⟨_, rfl⟩
    have ht := hr.2.1.1
    have fcb : FC t Mc Mb := fun n hn => by
      rw [hMb]; funext i
      show (if n = 44 ∧ 0 ≤ i ∧ i < 4 then M 43 (DG few few c i.toNat) else Mc n i) = Mc n i
      rw [if_neg (fun h => by unfold KC at hn; omega)]
    obtain ⟨M', N5, -, -, -, -, -, -, -, -, -, z⟩ := evalV (M := Mb) (P := N) hr hf.2 hw (prmO hf.1 hx hs hv) fcb (FM.refl _) (fun b hb => by
      rw [hMb]
      show (if (44 : Nat) = 44 ∧ 0 ≤ (b : Int) ∧ (b : Int) < 4 then M 43 (DG few few c (b : Int).toNat) else Mc 44 b) = _
      rw [if_pos (by omega), Int.toNat_natCast])
    exact z
  have ht := hr.2.1.1
  have key : wpo (f_X9_bestOrder_L16 few ((few ^ few : Nat) : Int) q_N (-1) 0 M) (fun z => FC t Mc z.2 ∧ ∃ c, 0 ≤ z.1 ∧ z.1 ≤ 792 ∧ BST (PV okO frO few few) (wO few (M 43) Mc) (few ^ few) z.1 c ∧ ∀ b : Nat, b < few → z.2 45 b = M 43 (DG few few c b)) := by
    unfold f_X9_bestOrder_L16
    obtain ⟨ci, ci1, ci2⟩ := ident hf
    refine qlm2_N (fun m l P => ∃ L : Nat, l = L ∧ L ≤ few ^ few ∧ -1 ≤ m ∧ m ≤ 792 ∧ (∃ c, BST (PV okO frO few few) (wO few (M 43) Mc) L m c ∧ (0 ≤ m → ∀ b : Nat, b < few → P 45 b = M 43 (DG few few c b))) ∧ FC t Mc P ∧ P 43 = M 43) (fun _ l _ => (256 - l).toNat) _ _ _ ⟨0, rfl, by omega, by omega, by omega, ⟨0, .inl ⟨rfl, fun c' h => by omega⟩, fun h => by omega⟩, fc, rfl⟩ (by omega) ?_
    intro m l P g2 ⟨L, j1, j2, j3, j4, ⟨cb, j5, j6⟩, j7, j8⟩ ih2
    subst j1
    unfold f_X9_bestOrder_B16
    generalize h9 : few ^ few = NB at *
    (try simp (disch := omega) only [w32_id, q_gf_e, q_gr_e, q_pf_e, q_pz_e, q_let_e, q_call_e, q_calp_e, q_al_ok, q_as_ok, q_nz_ok, up_same, up_nei, up_ne1, Int.toNat_natCast, reduceIte, Int.reduceEq, Int.reduceLT, Int.reduceLE, Int.reduceNeg, not_true_eq_false, not_false_eq_true])
    refine wpo_ite (fun cl => wpo_some.mpr ?_) (fun cl => ?_)
    · have eL : L = NB := by omega
      subst eL
      have m0 : 0 ≤ m := by
        rcases j5 with ⟨q1, q2⟩ | ⟨q1, -⟩
        · exact absurd ci2 (q2 ci ci1)
        · exact q1
      exact ⟨j7, cb, m0, j4, j5, j6 m0⟩
    · obtain ⟨⟨v, P1⟩, v1, v2, v3⟩ := pickR (few := few) (c := L) (M := P) hf (by rw [h9]; omega)
      simp only at v2 v3
      have fc1 : FC t Mc P1 := fun n hn => by rw [v2 n (by unfold KC at hn; omega)]; exact j7 n hn
      rw [v1]
      rcases v3 with ⟨rfl, hv, hd⟩ | ⟨rfl, hv⟩
      · rw [j8] at hd
        obtain ⟨P2, N5, a1, a2, a3, -, -, -, -, -, -, a10, a11⟩ := evalV (M := P1) (P := N) (c := L) (so := M 43) hr hf.2 hw (prmO hf.1 hx hs hv) fc1 (FM.refl _) hd
        simp (disch := omega) only [w32_id, q_gf_e, q_gr_e, q_pf_e, q_pz_e, q_let_e, q_call_e, q_calp_e, q_al_ok, q_as_ok, q_nz_ok, up_same, up_nei, up_ne1, Int.toNat_natCast, reduceIte, Int.reduceEq, Int.reduceLT, Int.reduceLE, Int.reduceNeg, not_true_eq_false, not_false_eq_true, a1]
        have e43 : P2 43 = M 43 := by rw [a3 43 (by omega) (by omega), v2 43 (by omega)]; exact j8
        have e45 : P2 45 = P 45 := by rw [a3 45 (by omega) (by omega), v2 45 (by omega)]
        have e44 : P2 44 = P1 44 := a3 44 (by omega) (by omega)
        refine wpo_ite (fun cv => ?_) (fun cv => ?_)
        · exact ih2 _ _ _ ⟨L + 1, by omega, by omega, j3, j4, ⟨cb, j5.old (fun _ => a10) (fun _ => cv), fun h b hb => by rw [e45]; exact j6 h b hb⟩, fc1.trans a2, e43⟩ (by omega)
        · unfold q_cpy
          rw [w32_id (x := 0) (by omega), w32_id (x := 4) (by omega), if_pos (by omega)]
          refine ih2 _ _ _ ⟨L + 1, by omega, by omega, by omega, by omega, ⟨L, j5.new hv (by omega) a10, fun _ b hb => ?_⟩, (fc1.trans a2).trans (fun n hn => ?_), ?_⟩ (by omega)
          · unfold q_cp
            rw [if_pos ⟨rfl, by omega, by omega⟩, show 0 + ((b : Int) - 0) = b by omega, e44]
            exact hd b hb
          · funext i
            unfold q_cp
            rw [if_neg (fun h => by unfold KC at hn; omega)]
          · funext i
            unfold q_cp
            rw [if_neg (fun h => by omega), e43]
      · (try simp (disch := omega) only [w32_id, q_gf_e, q_gr_e, q_pf_e, q_pz_e, q_let_e, q_call_e, q_calp_e, q_al_ok, q_as_ok, q_nz_ok, up_same, up_nei, up_ne1, Int.toNat_natCast, reduceIte, Int.reduceEq, Int.reduceLT, Int.reduceLE, Int.reduceNeg, not_true_eq_false, not_false_eq_true])
        exact ih2 _ _ _ ⟨L + 1, by omega, by omega, j3, j4, ⟨cb, j5.old (fun h => absurd h hv) (fun h => absurd h hv), fun h b hb => by rw [v2 45 (by omega)]; exact j6 h b hb⟩, fc1, by rw [v2 43 (by omega)]; exact j8⟩ (by omega)
  obtain ⟨⟨m, M'⟩, e1, e2, c, e3, e4, e5, e6⟩ := key
  exact ⟨m, M', c, e1, e2, e3, e4, e5, e6⟩
