def okO (b d : Nat) : Prop := True
def frO (d : Nat) : Prop := False
set_option maxHeartbeats 1000000 in
theorem pickR {few c : Nat} {M : Mem} (hf : 1 ≤ few ∧ few ≤ 4) (hc : c < few ^ few) : wpo (f_X9_pickRow c few M) (fun z => (∀ n, n ≠ 44 → z.2 n = M n) ∧ ((z.1 = 1 ∧ PV okO frO few few c ∧ ∀ b : Nat, b < few → z.2 44 b = M 43 (DG few few c b)) ∨ (z.1 = 0 ∧ ¬ PV okO frO few few c))) := by
  have p4 : few ^ few ≤ 256 := by
    have h1 : few = 1 ∨ few = 2 ∨ few = 3 ∨ few = 4 := by omega
    rcases h1 with rfl | rfl | rfl | rfl <;> decide
  have qm : q_min (few : Int) 4 = few := by
    unfold q_min
    rw [w32_id (by omega), w32_id (by omega)]
    split <;> omega
  unfold f_X9_pickRow f_X9_pickRow_L14
  rw [qm]
  have hq : ∀ (fl j : Nat) (x3 x4 x5 : Int) (P : Mem), j ≤ few → few - j < fl → x5 = (few : Int) - 1 - j → x3 = ((c / few ^ j : Nat) : Int) → (∀ b1 b2, few - j ≤ b1 → b1 < b2 → b2 < few → DG few few c b1 ≠ DG few few c b2) → (∀ d : Int, 0 ≤ d → d < 8 → (Bt x4 d = true ↔ ∃ b', few - j ≤ b' ∧ b' < few ∧ (DG few few c b' : Int) = d)) → (∀ b' : Nat, few - j ≤ b' → b' < few → P 44 b' = M 43 (DG few few c b')) → (∀ n, n ≠ 44 → P n = M n) → wpo (qlm3 (fun x3 x4 x5 M g14 => f_X9_pickRow_B14 few x3 x4 x5 M g14) fl x3 x4 x5 P) (fun z => (∀ n, n ≠ 44 → z.2 n = M n) ∧ ((z.1 = 1 ∧ PV okO frO few few c ∧ ∀ b : Nat, b < few → z.2 44 b = M 43 (DG few few c b)) ∨ (z.1 = 0 ∧ ¬ PV okO frO few few c))) := by
    intro fl
    induction fl with
    | zero => intro j _ _ _ _ _ h; exact absurd h (Nat.not_lt_zero _)
    | succ fl ih =>
      intro j x3 x4 x5 P hj hfl e5 e2 i2 i3 i5 i6
      show wpo (f_X9_pickRow_B14 few x3 x4 x5 P (fun a b c d => qlm3 (fun x3 x4 x5 M g14 => f_X9_pickRow_B14 few x3 x4 x5 M g14) fl a b c d)) _
      generalize hG : (fun a b c d => qlm3 (fun x3 x4 x5 M g14 => f_X9_pickRow_B14 few x3 x4 x5 M g14) fl a b c d) = G at ih ⊢
      unfold f_X9_pickRow_B14
      have hdv : c / few ^ j ≤ c := Nat.div_le_self _ _
      have hx2 : 0 ≤ x3 ∧ x3 < 7000 := by
        rw [e2]
        generalize c / few ^ j = qq at hdv
        omega
      (try simp (disch := omega) only [w32_id, q_gf_e, q_gr_e, q_pf_e, q_pz_e, q_let_e, q_call_e, q_calp_e, q_al_ok, q_as_ok, q_nz_ok, up_same, up_nei, up_ne1, Int.toNat_natCast, reduceIte, Int.reduceEq, Int.reduceLT, Int.reduceLE, Int.reduceNeg, not_true_eq_false, not_false_eq_true])
      refine wpo_ite (fun cn => wpo_some.mpr ?_) (fun cn => ?_)
      · have ej : j = few := by omega
        subst ej
        exact ⟨i6, .inl ⟨rfl, ⟨fun _ _ => trivial, fun b1 b2 a b e => i2 b1 b2 (by omega) a b e⟩, fun b a => i5 b (by omega) a⟩⟩
      · obtain ⟨b, hb⟩ : ∃ b, b = few - 1 - j := ⟨_, rfl⟩
        have hbB : b < few := by omega
        have eb5 : x5 = (b : Int) := by omega
        obtain ⟨d, hd⟩ : ∃ d, d = DG few few c b := ⟨_, rfl⟩
        have hdd : d = (c / few ^ j) % few := by rw [hd]; unfold DG; rw [show few - 1 - b = j by omega]
        have d9 : d < few := by rw [hdd]; exact Nat.mod_lt _ (by omega)
        have et : x3.tmod (few : Int) = (d : Int) := by rw [e2, hdd]; rfl
        have ed : x3.tdiv (few : Int) = ((c / few ^ (j + 1) : Nat) : Int) := by
          rw [e2, Nat.pow_succ, ← Nat.div_div_eq_div_mul]; rfl
        rw [et, ed, eb5, w32_id (x := (d : Int)) (by omega)]
        have es : ∀ b', few - (j + 1) ≤ b' → b' < few → b' ≠ b → few - j ≤ b' := fun b' a1 a2 a3 => by omega
        refine wpo_ite (fun cu => wpo_some.mpr ⟨i6, .inr ⟨rfl, fun hv => ?_⟩⟩) (fun cu => ?_)
        · have ct : Bt x4 (d : Int) = true := by
            cases hh : Bt x4 (d : Int)
            · exact absurd ((and1 (by omega)).mpr hh) cu
            · rfl
          obtain ⟨b', h1, h2, h3⟩ := (i3 d (by omega) (by omega)).mp ct
          exact hv.2 b b' (by omega) h2 (by omega)
        · have cf : Bt x4 (d : Int) = false := by
            have cu : w32 (q_and x4 (q_shl 1 (d : Int))) = 0 := by simpa using cu
            exact (and1 (by omega)).mp cu
          rw [if_pos (by omega), q_al_ok (by omega), i6 43 (by omega)]
          rw [← hG]
          refine ih (j + 1) _ _ _ _ (by omega) (by omega) (by omega) rfl (fun b1 b2 a1 a2 a3 a4 => ?_) (fun dd a1 a2 => ?_) (fun b' a1 a2 => ?_) (fun n a => (up_ne1 a).trans (i6 n a))
          · by_cases e : b1 = b
            · have hb2 : Bt x4 (d : Int) = true := (i3 d (by omega) (by omega)).mpr ⟨b2, by omega, a3, by rw [← a4, e, ← hd]⟩
              rw [cf] at hb2; exact absurd hb2 (by decide)
            · exact i2 b1 b2 (es b1 a1 (by omega) e) a2 a3 a4
          · rw [Bt_or, Bt_shl (by omega) a1]
            constructor
            · intro h
              by_cases e : (d : Int) = dd
              · exact ⟨b, by omega, hbB, by rw [← hd]; exact e⟩
              · have h : Bt x4 dd = true := by simpa [e] using h
                obtain ⟨b', h1, h2, h3⟩ := (i3 dd a1 a2).mp h
                exact ⟨b', by omega, h2, h3⟩
            · intro ⟨b', h1, h2, h3⟩
              by_cases e : b' = b
              · rw [e, ← hd] at h3; simp [h3]
              · have : Bt x4 dd = true := (i3 dd a1 a2).mpr ⟨b', es b' h1 h2 e, h2, h3⟩
                simp [this]
          · by_cases e : b' = b
            · rw [e, up_same, hd]
            · rw [up_nei (by omega)]; exact i5 b' (es b' a1 a2 e) a2
  refine hq q_N 0 _ _ _ _ (by omega) (q_N_lt (by omega)) (by omega) (by simp) (fun b1 b2 a b c => by omega) (fun d a b => ?_) (fun b' a b => by omega) (fun n _ => rfl)
  rw [Bt_0]
  constructor
  · intro h; exact absurd h (by decide)
  · intro ⟨b', h1, h2, _⟩; omega
