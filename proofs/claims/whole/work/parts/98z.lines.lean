/-! lines: a number and a name of both sides; faults -/
def FLT (f : Int) (Mc Mm Mc' Mm' : Mem) : Prop := (1 ≤ f ∧ f ≤ 5) ∧ Mc' = up (up Mc 1 4 f) 1 5 (Mm 0 23) ∧ Mm' = up (up Mm 0 26 f) 0 27 (Mm 0 23)
theorem wrongM {f : Int} {M : Mem} (h : M 0 26 = 0) : f_X10_wrong f M = some (0, up (up M 0 26 f) 0 27 (M 0 23)) := by
  unfold f_X10_wrong
  simp (disch := omega) only [w32_id, q_gf_e, q_gr_e, q_pf_e, q_pz_e, q_let_e, q_call_e, q_calp_e, q_al_ok, q_as_ok, q_nz_ok, up_same, up_nei, up_ne1, Int.toNat_natCast, reduceIte, Int.reduceEq, Int.reduceLT, Int.reduceLE, Int.reduceNeg, not_true_eq_false, not_false_eq_true, h]
theorem refuseC {f : Int} {Mc Mm : Mem} (h : TKN Mc Mm) : f_X4_refuse f Mc = some (0, up (up Mc 1 4 f) 1 5 (Mm 0 23)) := by
  unfold f_X4_refuse
  simp (disch := omega) only [w32_id, q_gf_e, q_gr_e, q_pf_e, q_pz_e, q_let_e, q_call_e, q_calp_e, q_al_ok, q_as_ok, q_nz_ok, up_same, up_nei, up_ne1, Int.toNat_natCast, reduceIte, Int.reduceEq, Int.reduceLT, Int.reduceLE, Int.reduceNeg, not_true_eq_false, not_false_eq_true, h.1]
theorem TB.up {L : Int} {Mc Mm : Mem} {n : Nat} {i v : Int} (h : TB L Mc Mm) (hn : n ≠ 10 ∧ n ≠ 32 ∧ n ≠ 352) : TB L (up Mc n i v) Mm := by
  unfold TB BY at *
  rw [up_ne1 (by omega), up_ne1 (by omega), up_ne1 (by omega)]
  exact h
theorem TKN.up {Mc Mm : Mem} {n : Nat} {i v : Int} (h : TKN Mc Mm) (hn : n ≠ 10) : TKN (up Mc n i v) Mm := by
  unfold TKN at *
  rw [up_ne1 (by omega)]
  exact h
/-- a step that went well: token behind token -/
def NXT (L : Int) (Mc Mm Mc' Mm' : Mem) : Prop := fC7 Mc Mc' ∧ fM7 Mm Mm' ∧ TB L Mc' Mm' ∧ TKN Mc' Mm' ∧ Mm 0 22 ≤ Mm' 0 22
theorem NXT.of {L : Int} {Mc Mm : Mem} (h : TB L Mc Mm) : ∃ Mc' Mm', f_X7_advance Mc = some (0, Mc') ∧ f_X10_token Mm = some (0, Mm') ∧ NXT L Mc Mm Mc' Mm' ∧ Mm' 0 26 = Mm 0 26 := by
  obtain ⟨Mc', Mm', a1, a2, a3, a4, a5, a6, a7, a8⟩ := advW h
  exact ⟨Mc', Mm', a1, a2, ⟨a3, a4, a5, a6, a7.2⟩, a4 0 26 (by omega)⟩
theorem NXT.of2 {L : Int} {Mc Mm : Mem} (h : TB L Mc Mm) : ∃ Mc' Mm', f_X7_advance Mc = some (0, Mc') ∧ f_X10_token Mm = some (0, Mm') ∧ NXT L Mc Mm Mc' Mm' ∧ Mm' 0 26 = Mm 0 26 ∧ (Mm' 0 24 ≠ 4 → Mm 0 22 < Mm' 0 22) := by
  obtain ⟨Mc', Mm', a1, a2, a3, a4, a5, a6, a7, a8⟩ := advW h
  exact ⟨Mc', Mm', a1, a2, ⟨a3, a4, a5, a6, a7.2⟩, a4 0 26 (by omega), a8⟩
theorem TKR.num {tok wor srt val : Int} (h : TKR tok wor srt val) : (tok = 21 ↔ srt = 2) ∧ (srt = 2 → (0 ≤ wor ∧ wor ≤ 1000000 ∧ 0 ≤ val ∧ val ≤ 999999) ∧ (wor = val ∨ (100000 ≤ wor ∧ 100000 ≤ val))) ∧ (0 ≤ tok ∧ tok ≤ 36) ∧ (0 ≤ srt ∧ srt ≤ 5) := by
  rcases h with ⟨a, b, c⟩ | ⟨a, b, c⟩ | ⟨a, b, c⟩ | ⟨a, b⟩ | ⟨a, b⟩ | ⟨a, b⟩
  · exact ⟨by omega, fun h => by omega, by omega, by omega⟩
  · exact ⟨by omega, fun h => by omega, by omega, by omega⟩
  · exact ⟨by omega, fun h => c, by omega, by omega⟩
  · simp [SGS] at b
    exact ⟨by omega, fun h => by omega, by omega, by omega⟩
  · exact ⟨by omega, fun h => by omega, by omega, by omega⟩
  · exact ⟨by omega, fun h => by omega, by omega, by omega⟩
theorem TKR.own {tok wor srt val : Int} (h : TKR tok wor srt val) : (tok = 20 ↔ srt = 1) ∧ (srt = 1 → wor = val ∧ 0 ≤ val ∧ val < 1073741824) := by
  rcases h with ⟨a, b, c⟩ | ⟨a, b, c⟩ | ⟨a, b, c⟩ | ⟨a, b⟩ | ⟨a, b⟩ | ⟨a, b⟩
  · exact ⟨by omega, fun h => by omega⟩
  · exact ⟨by omega, fun h => c⟩
  · exact ⟨by omega, fun h => by omega⟩
  · simp [SGS] at b
    exact ⟨by omega, fun h => by omega⟩
  · exact ⟨by omega, fun h => by omega⟩
  · exact ⟨by omega, fun h => by omega⟩
theorem TKR.word {tok wor srt val : Int} (h : TKR tok wor srt val) : (tok < 20 ↔ srt = 0) ∧ (srt = 0 → tok = val ∧ 0 ≤ val) ∧ (tok = 35 ↔ srt = 4) := by
  rcases h with ⟨a, b, c⟩ | ⟨a, b, c⟩ | ⟨a, b, c⟩ | ⟨a, b⟩ | ⟨a, b⟩ | ⟨a, b⟩
  · exact ⟨by omega, fun h => by omega, by omega⟩
  · exact ⟨by omega, fun h => by omega, by omega⟩
  · exact ⟨by omega, fun h => by omega, by omega⟩
  · simp [SGS] at b
    exact ⟨by omega, fun h => by omega, by omega⟩
  · exact ⟨by omega, fun h => by omega, by omega⟩
  · exact ⟨by omega, fun h => by omega, by omega⟩
theorem TKR.sgn {tok wor srt val : Int} (h : TKR tok wor srt val) (t v : Int) (hm : (t, v) ∈ SGS) : tok = t ↔ srt = 3 ∧ val = v := by
  simp [SGS] at hm
  rcases h with ⟨a, b, c⟩ | ⟨a, b, c⟩ | ⟨a, b, c⟩ | ⟨a, b⟩ | ⟨a, b⟩ | ⟨a, b⟩
  · omega
  · omega
  · omega
  · simp [SGS] at b
    omega
  · omega
  · omega
theorem rnumW {L : Int} {Mc Mm : Mem} {n0 l0 : Nat} {a1 lo hi : Int} (hb : TB L Mc Mm) (hk : TKN Mc Mm) (h26 : Mm 0 26 = 0) (hn : n0 ≠ 10 ∧ n0 ≠ 32 ∧ n0 ≠ 352) (ha : 0 ≤ a1 ∧ a1 < l0 ∧ (l0 : Int) ≤ 1000) (hl : 0 ≤ lo ∧ lo ≤ hi ∧ hi ≤ 99999) : ∃ r v Mc' Mm', f_X4_readNumber n0 l0 a1 lo hi Mc = some (r, Mc') ∧ f_X10_numeral lo hi Mm = some (v, Mm') ∧ ((r = 1 ∧ lo ≤ v ∧ v ≤ hi ∧ NXT L (up Mc n0 a1 v) Mm Mc' Mm' ∧ Mm' 0 26 = 0) ∨ (r = 0 ∧ v = lo ∧ ∃ f, FLT f Mc Mm Mc' Mm')) := by
  obtain ⟨t1, t2, t3, t4⟩ := hk.2.2.num
  have e26 : ∀ f : Int, (up (up Mm 0 26 f) 0 27 (Mm 0 23)) 0 26 = f := fun f => by rw [up_nei (by omega), up_same]
  have rc := fun f => refuseC (f := f) hk
  have wm := fun f => wrongM (f := f) h26
  have qb : ∀ K : Res, q_bit 0 K = K := fun K => q_bit_e (.inl rfl)
  unfold f_X4_readNumber f_X4_readNumber_J41 f_X4_readNumber_J67 f_X10_numeral f_X10_numeral_J41 f_X10_numeral_J46
  by_cases c : Mm 0 24 = 2
  · obtain ⟨u1, u2⟩ := t2 c
    have c' := t1.mpr c
    simp (disch := omega) only [w32_id, q_gf_e, q_gr_e, q_pf_e, q_pz_e, q_let_e, q_call_e, q_calp_e, q_al_ok, q_as_ok, q_nz_ok, up_same, up_nei, up_ne1, Int.toNat_natCast, reduceIte, Int.reduceEq, Int.reduceLT, Int.reduceLE, Int.reduceNeg, not_true_eq_false, not_false_eq_true, rc, wm, e26, h26, qb]
    rw [if_pos c, if_pos c']
    by_cases c1 : Mm 0 25 < lo
    · rw [if_pos c1, if_pos (show Mc 10 6 < lo by omega)]
      exact ⟨0, lo, _, _, rfl, rfl, .inr ⟨rfl, rfl, 2, by omega, rfl, rfl⟩⟩
    · rw [if_neg c1, if_neg (show ¬ Mc 10 6 < lo by omega)]
      by_cases c2 : Mm 0 25 ≤ hi
      · have ew : Mc 10 6 = Mm 0 25 := by omega
        obtain ⟨Mc', Mm', p1, p2, p3, p4⟩ := NXT.of (hb.up (n := n0) (i := a1) (v := Mm 0 25) hn)
        rw [if_pos c2, if_pos (show Mc 10 6 ≤ hi by omega), if_neg (show ¬ a1 < 0 by omega), if_neg (show ¬ (l0 : Int) ≤ a1 by omega), ew, p1, p2, q_call_e, q_call_e]
        exact ⟨1, Mm 0 25, Mc', Mm', rfl, rfl, .inl ⟨rfl, by omega, c2, p3, by rw [p4, h26]⟩⟩
      · rw [if_neg c2, if_neg (show ¬ Mc 10 6 ≤ hi by omega)]
        exact ⟨0, lo, _, _, rfl, rfl, .inr ⟨rfl, rfl, 2, by omega, rfl, rfl⟩⟩
  · have c' : ¬ Mc 10 4 = 21 := fun h => c (t1.mp h)
    rw [q_gf_e, w32_id (x := Mc 10 4) (by omega), w32_id (x := 21) (by omega), if_neg c', rc, q_call_e, qb]
    rw [q_gf_e, h26, if_pos (show w32 0 = 0 by decide), q_gf_e, w32_id (x := Mm 0 24) (by omega), w32_id (x := 2) (by omega), if_neg c, wm, q_call_e, q_gf_e, e26, if_neg (show ¬ w32 1 = 0 by decide)]
    exact ⟨0, lo, _, _, rfl, rfl, .inr ⟨rfl, rfl, 1, by omega, rfl, rfl⟩⟩
theorem newW {L : Int} {Mc Mm : Mem} {n0 l0 m0 k0 : Nat} {a1 off : Int} (hb : TB L Mc Mm) (hk : TKN Mc Mm) (h26 : Mm 0 26 = 0) (hn : n0 ≠ 10 ∧ n0 ≠ 32 ∧ n0 ≠ 352) (ha : 0 ≤ a1 ∧ a1 < l0 ∧ (l0 : Int) ≤ 1000) (ho : 0 ≤ off ∧ off + a1 ≤ k0 ∧ (k0 : Int) ≤ 1000) (he : ∀ j, 0 ≤ j → j < a1 → Mc n0 j = Mm m0 (off + j) ∧ in32 (Mm m0 (off + j))) : ∃ r v Mc' Mm', f_X4_readNewName n0 l0 a1 Mc = some (r, Mc') ∧ f_X10_fresh m0 k0 off a1 Mm = some (v, Mm') ∧ ((r = 1 ∧ in32 v ∧ NXT L (up Mc n0 a1 v) Mm Mc' Mm' ∧ Mm' 0 26 = 0) ∨ (r = 0 ∧ v = 0 ∧ ∃ f, FLT f Mc Mm Mc' Mm')) := by
  obtain ⟨t1, t2, t3, t4⟩ := hk.2.2.num
  obtain ⟨o1, o2⟩ := hk.2.2.own
  have e26 : ∀ f : Int, (up (up Mm 0 26 f) 0 27 (Mm 0 23)) 0 26 = f := fun f => by rw [up_nei (by omega), up_same]
  have rc := fun f => refuseC (f := f) hk
  have wm := fun f => wrongM (f := f) h26
  have qb : ∀ K : Res, q_bit 0 K = K := fun K => q_bit_e (.inl rfl)
  unfold f_X4_readNewName f_X4_readNewName_J56 f_X10_fresh f_X10_fresh_J44
  by_cases c : Mm 0 24 = 1
  · obtain ⟨w1, w2, w3⟩ := o2 c
    have c' := o1.mpr c
    have hin : in32 (Mm 0 25) := by unfold in32; omega
    obtain ⟨x, f1, f2⟩ := findC (n0 := n0) (l0 := l0) (w := a1) (s := Mm 0 25) (M := Mc) ha.2.2 (by omega) hin (fun j a b => by rw [(he j a b).1]; exact (he j a b).2)
    obtain ⟨y, g1, g2⟩ := foundM (n0 := m0) (l0 := k0) (b := off) (w := a1) (s := Mm 0 25) (M := Mm) ho.2.2 (by omega) hin (fun j a b => (he j a b).2)
    have exy : x = y := by
      rcases f2.same g2 (fun j a b => (he j a b).1) with ⟨z, _⟩ | ⟨z1, z2⟩
      · exact z
      · rw [z1, z2]
    rw [← exy] at g1
    have hx : -1 ≤ x ∧ x < 1000 := by rcases f2 with ⟨z1, z2, _⟩ | ⟨z1, _⟩ <;> omega
    simp only [q_gf_e]
    rw [w1, f1, g1, q_calp_e, q_calp_e, h26, w32_id (x := Mc 10 4) (by omega), w32_id (x := Mm 0 24) (by omega), c', c, if_pos (show (20 : Int) = w32 20 by decide), if_pos (show w32 0 = 0 by decide), if_pos (show (1 : Int) = w32 1 by decide), w32_id (x := x) (by omega), w32_id (x := -1) (by omega)]
    by_cases c1 : x = -1
    · obtain ⟨Mc', Mm', p1, p2, p3, p4⟩ := NXT.of (hb.up (n := n0) (i := a1) (v := Mm 0 25) hn)
      rw [if_pos c1, if_pos c1, w32_id (by omega), w32_id (by omega), if_neg (by omega), q_as_ok (by omega), p1, q_call_e, if_pos (show w32 0 = 0 by decide), p2, q_call_e]
      exact ⟨1, Mm 0 25, Mc', Mm', rfl, rfl, .inl ⟨rfl, hin, p3, by rw [p4, h26]⟩⟩
    · rw [if_neg c1, if_neg c1, rc, q_call_e, qb, wm, q_call_e, e26, if_neg (show ¬ w32 3 = 0 by decide)]
      exact ⟨0, 0, _, _, rfl, rfl, .inr ⟨rfl, rfl, 3, by omega, rfl, rfl⟩⟩
  · have c' : ¬ Mc 10 4 = 20 := fun h => c (o1.mp h)
    rw [q_gf_e, w32_id (x := Mc 10 4) (by omega), w32_id (x := 20) (by omega), if_neg c', rc, q_call_e, qb]
    rw [q_gf_e, h26, if_pos (show w32 0 = 0 by decide), q_gf_e, w32_id (x := Mm 0 24) (by omega), w32_id (x := 1) (by omega), if_neg c, wm, q_call_e, q_gf_e, e26, if_neg (show ¬ w32 1 = 0 by decide)]
    exact ⟨0, 0, _, _, rfl, rfl, .inr ⟨rfl, rfl, 1, by omega, rfl, rfl⟩⟩
