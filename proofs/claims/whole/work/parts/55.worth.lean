theorem TKS_tok {a b : Int} (h : (a, b) ∈ TKS) : (b = 260 ∧ a = 12) ∨ (b ≠ 260 ∧ a ≠ 12 ∧ a ≠ 21 ∧ (a < 13 ∨ 19 < a) ∧ 0 ≤ a ∧ a ≤ 40 ∧ 0 ≤ b ∧ b ≤ 300) := by
  simp only [TKS, List.mem_cons, Prod.mk.injEq, List.not_mem_nil, or_false] at h
  omega
theorem dpt_succ {R V : Int → Int} {a i : Int} (h : a ≤ i) : dpt R V a (i + 1 - a).toNat = dpt R V a (i - a).toNat + (if R i = 2 then (if V i = 260 then 0 else -1) else 1) := by
  have e : (i + 1 - a).toNat = (i - a).toNat + 1 := by omega
  have e2 : a + ((i - a).toNat : Int) = i := by omega
  rw [e]
  show dpt R V a (i - a).toNat + (if R (a + ((i - a).toNat : Int)) = 2 then (if V (a + ((i - a).toNat : Int)) = 260 then 0 else -1) else 1) = _
  rw [e2]
theorem dpt_le (R V : Int → Int) (a : Int) : ∀ n : Nat, dpt R V a n ≤ n
  | 0 => by unfold dpt; omega
  | n + 1 => by
    have := dpt_le R V a n
    unfold dpt
    split
    · split <;> omega
    · omega
/-- what a law is worth: the two answers, and what is left as it was -/
def WQ (cs : Nat) (Mc Mm : Mem) (x y : Int × Mem) : Prop := ((y.1 = 1 ∧ y.2 65 0 = x.1 ∧ bd x.1) ∨ (y.1 = 0 ∧ x.1 = -9223372036854775808)) ∧ (∀ n, n ≠ cs → x.2 n = Mc n) ∧ (∀ n, n ≠ 65 → n ≠ 0 → y.2 n = Mm n) ∧ ∀ f, f ≠ 34 → y.2 0 f = Mm 0 f
set_option maxHeartbeats 4000000 in
theorem worthW {t : Nat} {l : Int} {Mc Mm : Mem} (ht : t = 2 ∨ t = 3) (hL : LR t Mc Mm) (hl : 0 ≤ l ∧ l < 3) (hlt : Mm 47 l < Mm 48 l) (hn : ∀ j, 0 ≤ j → j < 7 → Mc 262 j = Mm 64 j ∧ bd (Mm 64 j)) : W2 (f_X2_worth (t + 10) 262 7 l Mc) (f_X10_comesOut l Mm) some some (WQ (32 * (t + 11) + 4) Mc Mm) := by
  obtain ⟨g1, g2, g3, g4, g5, g6, g7⟩ := hL l hl.1 hl.2
  have g8 := g7.resolve_left (by omega)
  obtain ⟨g8, g9⟩ := g8
  unfold f_X2_worth f_X2_isTold f_X10_comesOut
  have ec : ∀ n : Nat, 32 * (t + 10 + 1) + n = 32 * (t + 11) + n := fun n => by omega
  have ec0 : 32 * (t + 10 + 1) = 32 * (t + 11) := by omega
  simp only [ec, ec0]
  simp (disch := omega) only [w32_id, q_gf_e, q_gr_e, q_pf_e, q_pz_e, q_let_e, q_call_e, q_calp_e, q_al_ok, q_as_ok, q_nz_ok, up_same, up_nei, up_ne1, Int.toNat_natCast, reduceIte, Int.reduceEq, Int.reduceLT, Int.reduceLE, Int.reduceNeg, not_true_eq_false, not_false_eq_true, g1, g2]
  rw [if_neg (by omega), if_neg (by omega), if_neg (by omega)]
  simp (disch := omega) only [w32_id, q_gf_e, q_gr_e, q_pf_e, q_pz_e, q_let_e, q_call_e, q_calp_e, q_al_ok, q_as_ok, q_nz_ok, up_same, up_nei, up_ne1, Int.toNat_natCast, reduceIte, Int.reduceEq, Int.reduceLT, Int.reduceLE, Int.reduceNeg, not_true_eq_false, not_false_eq_true, g1]
  generalize hcs : 32 * (t + 11) + 4 = cs
  unfold f_X2_worth_L22 f_X10_comesOut_L12
  refine lock (fun n (s : Int × Int × Mem) => qlm2 (fun x3 x4 M g22 => f_X2_worth_B22 (t + 10) 262 7 l x3 x4 M g22) n s.1 s.2.1 s.2.2) (fun n (s : Int × Mem) => qlm1 (fun x2 M g12 => f_X10_comesOut_B12 l x2 M g12) n s.1 s.2) some some (WQ cs Mc Mm) (fun s u => s.2.1 = u.1 ∧ Mm 47 l ≤ u.1 ∧ u.1 ≤ Mm 48 l ∧ s.1 = u.2 0 34 ∧ s.1 = dpt (Mm 49) (Mm 50) (Mm 47 l) (u.1 - Mm 47 l).toNat ∧ 0 ≤ s.1 ∧ (∀ j, 0 ≤ j → j < s.1 → s.2.2 cs j = u.2 65 j ∧ bd (u.2 65 j)) ∧ (∀ n, n ≠ cs → s.2.2 n = Mc n) ∧ (∀ n, n ≠ 65 → n ≠ 0 → u.2 n = Mm n) ∧ ∀ f, f ≠ 34 → u.2 0 f = Mm 0 f) (fun s u => (Mm 48 l - u.1).toNat) ?_ q_N q_N (0, Mm 47 l, Mc) (Mm 47 l, up Mm 0 34 0) ?_ ?_ ?_
  · intro n n' ⟨x3, x4, M⟩ ⟨y, M'⟩ ⟨i1, i2, i3, i4, i5, i6, i7, i8, i9, i10⟩ ih
    simp only at i1 i2 i3 i4 i5 i6 i7 i8 i9 i10 ih
    subst i1
    have hT0 : M (32 * (t + 11)) = Mc (32 * (t + 11)) := i8 _ (by omega)
    have hT1 : M (32 * (t + 11) + 1) = Mc (32 * (t + 11) + 1) := i8 _ (by omega)
    have hT3 : M (32 * (t + 11) + 3) = Mc (32 * (t + 11) + 3) := i8 _ (by omega)
    have hN : M 262 = Mc 262 := i8 _ (by omega)
    have m48 : M' 48 = Mm 48 := i9 _ (by omega) (by omega)
    have m49 : M' 49 = Mm 49 := i9 _ (by omega) (by omega)
    have m50 : M' 50 = Mm 50 := i9 _ (by omega) (by omega)
    have m64 : M' 64 = Mm 64 := i9 _ (by omega) (by omega)
    have hle := dpt_le (Mm 49) (Mm 50) (Mm 47 l) (x4 - Mm 47 l).toNat
    rw [← i5] at hle
    show W2 (f_X2_worth_B22 (t + 10) 262 7 l x3 x4 M (qlm2 (fun x3 x4 M g22 => f_X2_worth_B22 (t + 10) 262 7 l x3 x4 M g22) n)) (f_X10_comesOut_B12 l x4 M' (qlm1 (fun x2 M g12 => f_X10_comesOut_B12 l x2 M g12) n')) some some (WQ cs Mc Mm)
    generalize hGc : qlm2 (fun x3 x4 M g22 => f_X2_worth_B22 (t + 10) 262 7 l x3 x4 M g22) n = Gc at ih ⊢
    generalize hGm : qlm1 (fun x2 M g12 => f_X10_comesOut_B12 l x2 M g12) n' = Gm at ih ⊢
    unfold f_X2_worth_B22 f_X10_comesOut_B12
    simp only [ec, ec0, Nat.add_zero]
    simp (disch := omega) only [w32_id, q_gf_e, q_gr_e, q_pf_e, q_pz_e, q_let_e, q_call_e, q_calp_e, q_al_ok, q_as_ok, q_nz_ok, up_same, up_nei, up_ne1, Int.toNat_natCast, reduceIte, Int.reduceEq, Int.reduceLT, Int.reduceLE, Int.reduceNeg, not_true_eq_false, not_false_eq_true, hT3, m48, g2]
    by_cases c : Mm 48 l ≤ x4
    · have e : x4 = Mm 48 l := by omega
      rw [e, g9] at i5
      subst i5
      rw [if_pos c, if_pos c]
      unfold f_X2_worth_J226
      simp only [ec, hcs]
      (try simp (disch := omega) only [w32_id, q_gf_e, q_gr_e, q_pf_e, q_pz_e, q_let_e, q_call_e, q_calp_e, q_al_ok, q_as_ok, q_nz_ok, up_same, up_nei, up_ne1, Int.toNat_natCast, reduceIte, Int.reduceEq, Int.reduceLT, Int.reduceLE, Int.reduceNeg, not_true_eq_false, not_false_eq_true])
      obtain ⟨j1, j2⟩ := i7 0 (by omega) (by omega)
      refine W2.ok (M cs 0, M) (1, M') rfl rfl ⟨.inl ⟨rfl, ?_, ?_⟩, i8, i9, i10⟩
      · exact j1.symm
      · rw [j1]; exact j2
    · rw [if_neg c, if_neg c, if_neg (by omega)]
      have hk := g6 x4 i2 (by omega)
      have hd := dpt_succ (R := Mm 49) (V := Mm 50) i2
      rw [← i5] at hd
      rcases hk with ⟨k1, k2, k3, k4, k5⟩ | ⟨k1, k2, k3, k4⟩ | ⟨k1, k2⟩
      · -- a number
        simp (disch := omega) only [w32_id, q_gf_e, q_gr_e, q_pf_e, q_pz_e, q_let_e, q_call_e, q_calp_e, q_al_ok, q_as_ok, q_nz_ok, up_same, up_nei, up_ne1, Int.toNat_natCast, reduceIte, Int.reduceEq, Int.reduceLT, Int.reduceLE, Int.reduceNeg, not_true_eq_false, not_false_eq_true, hT0, hT1, m49, m50, k1, k2]
        unfold f_X2_worth_J70 f_X10_comesOut_J85
        simp only [ec, hcs]
        simp (disch := omega) only [w32_id, q_gf_e, q_gr_e, q_pf_e, q_pz_e, q_let_e, q_call_e, q_calp_e, q_al_ok, q_as_ok, q_nz_ok, up_same, up_nei, up_ne1, Int.toNat_natCast, reduceIte, Int.reduceEq, Int.reduceLT, Int.reduceLE, Int.reduceNeg, not_true_eq_false, not_false_eq_true, hT0, hT1, m49, m50, k1, k2, k3]
        rw [← i4]
        rw [if_pos (by omega)]
        (try simp (disch := omega) only [w32_id, q_gf_e, q_gr_e, q_pf_e, q_pz_e, q_let_e, q_call_e, q_calp_e, q_al_ok, q_as_ok, q_nz_ok, up_same, up_nei, up_ne1, Int.toNat_natCast, reduceIte, Int.reduceEq, Int.reduceLT, Int.reduceLE, Int.reduceNeg, not_true_eq_false, not_false_eq_true])
        refine ih (x3 + 1, x4 + 1, up M cs x3 (Mm 50 x4)) (x4 + 1, up (up M' 65 x3 (Mm 50 x4)) 0 34 (x3 + 1)) ?_ (by show (Mm 48 l - (x4 + 1)).toNat < (Mm 48 l - x4).toNat; omega)
        refine ⟨rfl, by show Mm 47 l ≤ x4 + 1; omega, by show x4 + 1 ≤ Mm 48 l; omega, ?_, ?_, by show 0 ≤ x3 + 1; omega, ?_, fun n a => ?_, fun n a b => ?_, fun f a => ?_⟩
        · show x3 + 1 = up (up M' 65 x3 (Mm 50 x4)) 0 34 (x3 + 1) 0 34
          rw [up_same]
        · show x3 + 1 = dpt _ _ _ (x4 + 1 - Mm 47 l).toNat
          rw [hd, k1, if_neg (by omega)]
        · intro j a b
          have e65 : up (up M' 65 x3 (Mm 50 x4)) 0 34 (x3 + 1) 65 = up M' 65 x3 (Mm 50 x4) 65 := up_ne1 (by omega)
          show up M cs x3 (Mm 50 x4) cs j = up (up M' 65 x3 (Mm 50 x4)) 0 34 (x3 + 1) 65 j ∧ bd (up (up M' 65 x3 (Mm 50 x4)) 0 34 (x3 + 1) 65 j)
          rw [e65]
          by_cases cj : j = x3
          · rw [cj, up_same, up_same]
            exact ⟨rfl, by unfold bd; omega⟩
          · rw [up_nei cj, up_nei cj]
            exact i7 j a (by have : j < x3 + 1 := b; omega)
        · exact (up_ne1 a).trans (i8 n a)
        · exact (up_ne1 b).trans ((up_ne1 a).trans (i9 n a b))
        · exact (up_nei a).trans ((congrFun (up_ne1 (by omega)) f).trans (i10 f a))
      · -- a name
        obtain ⟨b1, b2⟩ := hn (Mm 50 x4) k3 (by omega)
        simp (disch := omega) only [w32_id, q_gf_e, q_gr_e, q_pf_e, q_pz_e, q_let_e, q_call_e, q_calp_e, q_al_ok, q_as_ok, q_nz_ok, up_same, up_nei, up_ne1, Int.toNat_natCast, reduceIte, Int.reduceEq, Int.reduceLT, Int.reduceLE, Int.reduceNeg, not_true_eq_false, not_false_eq_true, hT0, hT1, m49, m50, k1, k2]
        rw [if_neg (by omega), if_neg (by omega), if_neg (by omega)]
        unfold f_X2_worth_J70 f_X10_comesOut_J85
        simp only [ec, hcs]
        rw [show 13 + Mm 50 x4 - 13 = Mm 50 x4 by omega]
        simp (disch := omega) only [w32_id, q_gf_e, q_gr_e, q_pf_e, q_pz_e, q_let_e, q_call_e, q_calp_e, q_al_ok, q_as_ok, q_nz_ok, up_same, up_nei, up_ne1, Int.toNat_natCast, reduceIte, Int.reduceEq, Int.reduceLT, Int.reduceLE, Int.reduceNeg, not_true_eq_false, not_false_eq_true, m64, hN, b1]
        rw [← i4]
        rw [if_pos (by omega), if_pos (by omega)]
        refine ih (x3 + 1, x4 + 1, up M cs x3 (Mm 64 (Mm 50 x4))) (x4 + 1, up (up M' 65 x3 (Mm 64 (Mm 50 x4))) 0 34 (x3 + 1)) ?_ (by show (Mm 48 l - (x4 + 1)).toNat < (Mm 48 l - x4).toNat; omega)
        refine ⟨rfl, by show Mm 47 l ≤ x4 + 1; omega, by show x4 + 1 ≤ Mm 48 l; omega, ?_, ?_, by show 0 ≤ x3 + 1; omega, ?_, fun n a => ?_, fun n a b => ?_, fun f a => ?_⟩
        · show x3 + 1 = up (up M' 65 x3 (Mm 64 (Mm 50 x4))) 0 34 (x3 + 1) 0 34
          rw [up_same]
        · show x3 + 1 = dpt _ _ _ (x4 + 1 - Mm 47 l).toNat
          rw [hd, k1, if_neg (by omega)]
        · intro j a b
          have e65 : up (up M' 65 x3 (Mm 64 (Mm 50 x4))) 0 34 (x3 + 1) 65 = up M' 65 x3 (Mm 64 (Mm 50 x4)) 65 := up_ne1 (by omega)
          show up M cs x3 (Mm 64 (Mm 50 x4)) cs j = up (up M' 65 x3 (Mm 64 (Mm 50 x4))) 0 34 (x3 + 1) 65 j ∧ bd (up (up M' 65 x3 (Mm 64 (Mm 50 x4))) 0 34 (x3 + 1) 65 j)
          rw [e65]
          by_cases cj : j = x3
          · rw [cj, up_same, up_same]
            exact ⟨rfl, b2⟩
          · rw [up_nei cj, up_nei cj]
            exact i7 j a (by have : j < x3 + 1 := b; omega)
        · exact (up_ne1 a).trans (i8 n a)
        · exact (up_ne1 b).trans ((up_ne1 a).trans (i9 n a b))
        · exact (up_nei a).trans ((congrFun (up_ne1 (by omega)) f).trans (i10 f a))
      · -- a sign
        have hg := g8 (x4 - Mm 47 l).toNat (by omega)
        rw [show Mm 47 l + ((x4 - Mm 47 l).toNat : Int) = x4 by omega, ← i5] at hg
        have hg := hg k1
        rcases TKS_tok k2 with ⟨s1, s2⟩ | ⟨s1, s2, s3, s4, s5⟩
        · -- not
          rw [s1, if_pos rfl] at hg
          obtain ⟨b1, b2⟩ := i7 (x3 - 1) (by omega) (by omega)
          unfold bd at b2
          unfold f_X10_works f_X10_works_J40 f_X10_is
          simp (disch := omega) only [w32_id, q_gf_e, q_gr_e, q_pf_e, q_pz_e, q_let_e, q_call_e, q_calp_e, q_al_ok, q_as_ok, q_nz_ok, up_same, up_nei, up_ne1, Int.toNat_natCast, reduceIte, Int.reduceEq, Int.reduceLT, Int.reduceLE, Int.reduceNeg, not_true_eq_false, not_false_eq_true, hT0, hT1, m49, m50, k1, s1, s2, ← i4]
          unfold f_X2_worth_J117
          simp only [ec, hcs]
          simp (disch := omega) only [w32_id, q_gf_e, q_gr_e, q_pf_e, q_pz_e, q_let_e, q_call_e, q_calp_e, q_al_ok, q_as_ok, q_nz_ok, up_same, up_nei, up_ne1, Int.toNat_natCast, reduceIte, Int.reduceEq, Int.reduceLT, Int.reduceLE, Int.reduceNeg, not_true_eq_false, not_false_eq_true, ← i4, b1, cmp_v]
          have fin : ∀ v, bd v → W2 (Gc x3 (x4 + 1) (up M cs (x3 - 1) v)) (Gm (x4 + 1) (up M' 65 (x3 - 1) v)) some some (WQ cs Mc Mm) := by
            intro v hv
            refine ih (x3, x4 + 1, up M cs (x3 - 1) v) (x4 + 1, up M' 65 (x3 - 1) v) ?_ (by show (Mm 48 l - (x4 + 1)).toNat < (Mm 48 l - x4).toNat; omega)
            refine ⟨rfl, by show Mm 47 l ≤ x4 + 1; omega, by show x4 + 1 ≤ Mm 48 l; omega, ?_, ?_, i6, ?_, fun n a => ?_, fun n a b => ?_, fun f a => ?_⟩
            · show x3 = up M' 65 (x3 - 1) v 0 34
              rw [up_ne1 (by omega)]; exact i4
            · show x3 = dpt _ _ _ (x4 + 1 - Mm 47 l).toNat
              rw [hd, k1, s1, if_pos rfl, if_pos rfl, Int.add_zero]
            · intro j a b
              show up M cs (x3 - 1) v cs j = up M' 65 (x3 - 1) v 65 j ∧ bd (up M' 65 (x3 - 1) v 65 j)
              by_cases cj : j = x3 - 1
              · rw [cj, up_same, up_same]
                exact ⟨rfl, hv⟩
              · rw [up_nei cj, up_nei cj]
                exact i7 j a b
            · exact (up_ne1 a).trans (i8 n a)
            · exact (up_ne1 a).trans (i9 n a b)
            · show up M' 65 (x3 - 1) v 0 f = _
              rw [up_ne1 (by omega)]; exact i10 f a
          have f0 := fin 0 (by unfold bd; omega)
          have f1 := fin 1 (by unfold bd; omega)
          rw [if_pos (by omega)]
          have w1 : w32 1 = 1 := w32_id (by omega)
          by_cases z : M' 65 (x3 - 1) = 0
          · simpa [z, q_call_e, w1] using f1
          · by_cases z' : M' 65 (x3 - 1) < 0
            · simpa [z, z', q_call_e, w1] using f0
            · simpa [z, z', q_call_e, w1] using f0
        · -- two are joined
          rw [if_neg s1] at hg
          obtain ⟨b1, b2⟩ := i7 (x3 - 1) (by omega) (by omega)
          obtain ⟨a1, a2⟩ := i7 (x3 - 2) (by omega) (by omega)
          have hw : w32 (Mc (32 * (t + 11)) x4) = Mc (32 * (t + 11)) x4 := w32_id (by omega)
          simp (disch := omega) only [w32_id, q_gf_e, q_gr_e, q_pf_e, q_pz_e, q_let_e, q_call_e, q_calp_e, q_al_ok, q_as_ok, q_nz_ok, up_same, up_nei, up_ne1, Int.toNat_natCast, reduceIte, Int.reduceEq, Int.reduceLT, Int.reduceLE, Int.reduceNeg, not_true_eq_false, not_false_eq_true, hT0, hT1, m49, m50, k1]
          have hJ : f_X2_worth_J117 (t + 10) 262 7 Gc l x3 x4 (Mc (32 * (t + 11)) x4) M = (if Mc (32 * (t + 11)) x4 = 21 then f_X2_worth_J70 (t + 10) 262 7 Gc l x3 x4 (Mc (32 * (t + 11)) x4) M else if Mc (32 * (t + 11)) x4 < 13 then f_X2_worth_J117 (t + 10) 262 7 Gc l x3 x4 (Mc (32 * (t + 11)) x4) M else if 19 < Mc (32 * (t + 11)) x4 then f_X2_worth_J117 (t + 10) 262 7 Gc l x3 x4 (Mc (32 * (t + 11)) x4) M else f_X2_worth_J70 (t + 10) 262 7 Gc l x3 x4 (Mc (32 * (t + 11)) x4) M) := by
            rw [if_neg s3]
            rcases s4 with s4 | s4
            · rw [if_pos s4]
            · rw [if_neg (by omega), if_pos s4]
          rw [← hJ]
          unfold f_X2_worth_J117
          simp only [ec, hcs]
          rw [hw, w32_id (x := 12) (by omega), if_pos s2, w32_id (x := 2) (by omega), w32_id (x := x3) (by omega), if_pos (by omega)]
          rw [show x3 + -1 - 1 = x3 - 2 by omega, show x3 + -1 = x3 - 1 by omega]
          simp (disch := omega) only [w32_id, q_gf_e, q_gr_e, q_pf_e, q_pz_e, q_let_e, q_call_e, q_calp_e, q_al_ok, q_as_ok, q_nz_ok, up_same, up_nei, up_ne1, Int.toNat_natCast, reduceIte, Int.reduceEq, Int.reduceLT, Int.reduceLE, Int.reduceNeg, not_true_eq_false, not_false_eq_true, b1, a1]
          rcases joinW (Mc := M) (Mm := M') (d := x3) k2 s1 a2 b2 (by omega) i4.symm rfl rfl with ⟨v, v1, v2, v3⟩ | ⟨v2, M1, v3, v4, v5⟩
          · rw [v2, v3]
            unfold bd at v1
            simp (disch := omega) only [w32_id, q_gf_e, q_gr_e, q_pf_e, q_pz_e, q_let_e, q_call_e, q_calp_e, q_al_ok, q_as_ok, q_nz_ok, up_same, up_nei, up_ne1, Int.toNat_natCast, reduceIte, Int.reduceEq, Int.reduceLT, Int.reduceLE, Int.reduceNeg, not_true_eq_false, not_false_eq_true, cmp_v]
            have hne : ¬ (if v < -9223372036854775808 then (-1 : Int) else if v = -9223372036854775808 then 0 else 1) = 0 := by
              rw [if_neg (by omega), if_neg (by omega)]; omega
            rw [if_pos hne]
            refine ih (x3 - 1, x4 + 1, up M cs (x3 - 2) v) (x4 + 1, up (up M' 0 34 (x3 - 1)) 65 (x3 - 2) v) ?_ (by show (Mm 48 l - (x4 + 1)).toNat < (Mm 48 l - x4).toNat; omega)
            refine ⟨rfl, by show Mm 47 l ≤ x4 + 1; omega, by show x4 + 1 ≤ Mm 48 l; omega, ?_, ?_, by show 0 ≤ x3 - 1; omega, ?_, fun n a => ?_, fun n a b => ?_, fun f a => ?_⟩
            · show x3 - 1 = up (up M' 0 34 (x3 - 1)) 65 (x3 - 2) v 0 34
              rw [up_ne1 (by omega), up_same]
            · show x3 - 1 = dpt _ _ _ (x4 + 1 - Mm 47 l).toNat
              rw [hd, k1, if_pos rfl, if_neg s1]; omega
            · intro j a b
              show up M cs (x3 - 2) v cs j = up (up M' 0 34 (x3 - 1)) 65 (x3 - 2) v 65 j ∧ bd (up (up M' 0 34 (x3 - 1)) 65 (x3 - 2) v 65 j)
              by_cases cj : j = x3 - 2
              · rw [cj, up_same, up_same]
                exact ⟨rfl, v1⟩
              · rw [up_nei cj, up_nei cj]
                have e65 : up M' 0 34 (x3 - 1) 65 = M' 65 := up_ne1 (by omega)
                rw [e65]
                exact i7 j a (by have : j < x3 - 1 := b; omega)
            · exact (up_ne1 a).trans (i8 n a)
            · exact (up_ne1 a).trans ((up_ne1 b).trans (i9 n a b))
            · show up (up M' 0 34 (x3 - 1)) 65 (x3 - 2) v 0 f = _
              rw [up_ne1 (by omega), up_nei a]; exact i10 f a
          · rw [v2, v3]
            simp (disch := omega) only [w32_id, q_gf_e, q_gr_e, q_pf_e, q_pz_e, q_let_e, q_call_e, q_calp_e, q_al_ok, q_as_ok, q_nz_ok, up_same, up_nei, up_ne1, Int.toNat_natCast, reduceIte, Int.reduceEq, Int.reduceLT, Int.reduceLE, Int.reduceNeg, not_true_eq_false, not_false_eq_true, cmp_v]
            refine W2.ok (-9223372036854775808, up M cs (x3 - 2) (-9223372036854775808)) (0, M1) rfl rfl ⟨.inr ⟨rfl, rfl⟩, fun n a => (up_ne1 a).trans (i8 n a), fun n a b => (v4 n a b).trans (i9 n a b), fun f a => (v5 f a).trans (i10 f a)⟩
  · refine ⟨rfl, by omega, by omega, ?_, ?_, by omega, ?_, fun n a => rfl, fun n a b => up_ne1 b, fun f a => up_nei a⟩
    · show (0 : Int) = up Mm 0 34 0 0 34
      rw [up_same]
    · show 0 = dpt _ _ _ (Mm 47 l - Mm 47 l).toNat
      rw [show Mm 47 l - Mm 47 l = 0 by omega]
      rfl
    · intro j a b
      exact absurd b (by omega)
  · exact q_N_lt (by show (Mm 48 l - Mm 47 l).toNat < 100000; omega)
  · exact q_N_lt (by show (Mm 48 l - Mm 47 l).toNat < 100000; omega)
