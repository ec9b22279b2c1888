theorem tk_L1 : Cond.classLink RL 13 xE1 ∈ wsQ := wq_5 (List.mem_of_getElem? (i := 52) rfl) rfl
theorem tk_L2 : Cond.classLink RL 15 xE2 ∈ wsQ := wq_5 (List.mem_of_getElem? (i := 53) rfl) rfl
theorem td_L_soul : Cond.codeWith yL_soul cL_soul 5 (some .int) [(0, 10, 13, 13), (0, 10, 17, 15)] ∈ wsQ := wq_5 (List.mem_of_getElem? (i := 51) rfl) rfl
theorem arrV_ext1 {cI : ClassId} {f g : Nat → Value} (h : f 0 = g 0) : arrV cI 1 f = arrV cI 1 g := by
  have e9 : (fun j : Fin 1 => f j.val) = fun j : Fin 1 => g j.val := by
    funext j
    have : j.val = 0 := by omega
    rw [this]
    exact h
  unfold arrV
  rw [e9]
def xA (adC : Nat → Nat) (o : Nat) : Nat → Prop := fun q => q_A syC adC q ∨ q = o
def xO (D : va_G) (cA : Nat → ClassId) (o : Nat) (w : Int) (H : Heap) : Prop := va_at D vwCl (o, .inl (cA 5, 1, .inr (.inl (fun _ : Nat => qJ w)))) H
def xLQ (D : va_G) (adC : Nat → Nat) (cA : Nat → ClassId) (o : Nat) (k0 r0 wo : Int) (M : Mem) : Array Value → State → Outcome → State → Prop := fun _ st oc t => oc = .returned (some (.int (qI k0))) ∧ q_P syC D adC cA M t.heap ∧ tyC M ∧ xO D cA o (if k0 = 0 then w32 r0 else wo) t.heap ∧ va_F (xA adC o) st t
abbrev rm_L_soul : Room := { frames := 8, cells := 1, slots := 6, locals := 150 }
def xLP (D : va_G) (adC : Nat → Nat) (cA : Nat → ClassId) (o : Nat) (M : Mem) (wo : Int) (U : State) : Prop := q_P syC D adC cA M U.heap ∧ tyC M ∧ xO D cA o wo U.heap ∧ va_K D vwCl (q_tys cA) U ∧ q_X (xA adC o) U U.heap ∧ q_XS (xA adC o) U U.heap
set_option maxHeartbeats 1000000 in
theorem c_L_soul {l : Launch} {D : va_G} {adC : Nat → Nat} {cA : Nat → ClassId} {o : Nat} (hst : l.stackTraces = false) (hi : q_inj syC adC) (hno : ∀ n, (syC.1 n).1 ≠ 0 → adC n ≠ o) (a0 a1 : Int) (M : Mem) (k0 r0 wo : Int) (h : f_X9_soul a0 a1 M = some (k0, r0)) : Met l yL_soul (Cond.codeWith yL_soul cL_soul 5 (some .int) [(0, 10, 13, 13), (0, 10, 17, 15)] :: wsQ) rm_L_soul (va_Pc [.ref (adC 0), .int (qI a0), .int (qI a1), .ref o] (xLP D adC cA o M wo)) (xLQ D adC cA o k0 r0 wo M) 1 6 (xA adC o) := by
  refine va_MetW (cc := cL_soul) (maxL := 5) (ret := some .int) (hh := [(0, 10, 13, 13), (0, 10, 17, 15)]) (by decide +kernel) rfl ?_
  intro p e s m args below meth c s₁ B hml hv
  obtain ⟨rfl, hP, hT, hO, hK, hX, hXS⟩ := hv
  have hts0 := atoms_spec (ws := Cond.codeWith yL_soul cL_soul 5 (some .int) [(0, 10, 13, 13), (0, 10, 17, 15)] :: wsQ) B.pre
  have hts : ∀ w ∈ wsQ, w.before ([.ref (adC 0), .int (qI a0), .int (qI a1), .ref o] : List Value).toArray s = true := fun w hw => hts0 w (List.mem_cons_of_mem _ hw)
  have htab := vx_table (x := yL_soul) B (hts0 _ List.mem_cons_self)
  have hown : s.vm.findClass RL = some m.cls := findClass_of_methodNamed B.named
  have hx := B.exec
  have hb := B.bytes
  have hr := B.returns
  have hlk := B.notSynchronized
  have hsubC : ∀ q, q_A syC adC q → xA adC o q := fun q h => Or.inl h
  have hl := lv_entry ([.ref (adC 0), .int (qI a0), .int (qI a1), .ref o] : List Value) (n := 5) (Nat.le_of_ble_eq_true rfl)
  rw [lg_entry_eq]
  generalize (lg_sl ([.ref (adC 0), .int (qI a0), .int (qI a1), .ref o] : List Value) ++ List.replicate (5 - (lg_sl ([.ref (adC 0), .int (qI a0), .int (qI a1), .ref o] : List Value)).length) Slot.unset).toArray = ls at hl ⊢
  have hl : lv_has ls 5 [(0, .ref (adC 0)), (1, .int (qI a0)), (2, .int (qI a1)), (3, .ref o)] := hl
  refine lv_aload_n hx hb dL_soul_0 rfl (lv_at hl 3 rfl) ?_
  refine lv_iconst (v := 0) hx hb dL_soul_1 (by decide) ?_
  refine lv_aload_n hx hb dL_soul_2 rfl (lv_at hl 0 rfl) ?_
  refine lv_iload_n hx hb dL_soul_3 rfl (lv_at hl 1 rfl) ?_
  refine lv_iload_n hx hb dL_soul_4 rfl (lv_at hl 2 rfl) ?_
  have hv0 := hP 0 (by rw [kc_0]; exact Nat.one_ne_zero)
  rw [q_ent_obj kc_0 clX9.1] at hv0
  have hrun := vx_runV (As := [.int (qI a0), .int (qI a1)]) (rest := [.int 0, .ref o]) (cells := 0) (slots := 0) (H := s.heap) (locs := []) (below := below) (meth := meth) (e := e) (R := rm_L_soul) (g := F0 m 5 ls [.int (qI a1), .int (qI a0), .ref (adC 0), .int 0, .ref o]) ⟨hx, hb, hml, hown, hts⟩ (c_X9_soul (D := D) (cA := cA) hst hi a0 a1 M k0 r0 h) (cwV 2 hts (q_goodV tm_RL_7 mw_X9_soul) rfl rfl rfl mw_X9_soul.2 ⟨Nat.le_of_ble_eq_true rfl, Nat.le_of_ble_eq_true rfl⟩) ⟨fun a U g mk q => by
      obtain ⟨q0, qP, qT, qK, qX, qS⟩ := q
      exact ⟨q0, qP, qT, va_K.moved (u := U) (U := U.calling g mk a) (Vm.Alike.refl U.vm) qK, q_X.same (s := U) (U := U.calling g mk a) qX rfl, q_XS.same (s := U) (U := U.calling g mk a) qS rfl⟩, va_recv hK (q_one hv0) (ci := 9) (q0 := 0) clX9.1 rfl, fun U hU hW => ⟨rfl, by rw [hU]; exact hP, hT, va_K.moved hW.alike hK, by rw [hU]; exact (hX.moved hW (fun _ _ _ => rfl)).narrow hsubC, by rw [hU]; exact (hXS.moved hW (fun _ _ _ => rfl)).narrow hsubC⟩⟩ rfl rfl hl.1 rfl (lv_room (Nat.le_of_ble_eq_true rfl)) dL_soul_5 ⟨Nat.le_of_ble_eq_true rfl, Nat.le_of_ble_eq_true rfl⟩
  have keepO : ∀ (t : State), va_F (q_A syC adC) s t → xO D cA o wo t.heap := fun t hF => va_at.kept hO (hF.2 _ hO.lt (fun ⟨n, hn, e9⟩ => hno n hn e9.symm))
  intro T0 hT0 X0
  rcases hrun T0 hT0 X0 with ⟨v, st₀, t, T', L2, h0, X', hL, e1, e2, ⟨hk0, hv2, hP1, hT1, hz, hkp⟩, stp⟩ | ⟨q, st₀, t, T', L2, E, ce, h0, X', hL, e1, e2, ⟨hE, hP1, hT1, hz, hkp⟩, hce, hcv, hcl, stp⟩
  · cases hv2
    subst hk0
    rw [h0] at hz hkp
    have hF : va_F (q_A syC adC) s t := ⟨hz, hkp⟩
    have hS1 : va_S (xA adC o) s.heap T'.heap ([] ++ L2) := ⟨by rw [e1]; exact hz, fun q h1 h2 => by rw [e1]; exact hkp q h1 (fun z => h2 (hsubC q z)), fun q hq => hsubC _ (hL q (by simpa using hq))⟩
    have ho1 := keepO t hF
    have goal : W p l e rm_L_soul s m ([.ref (adC 0), .int (qI a0), .int (qI a1), .ref o] : List Value).toArray below meth c T'.heap ([] ++ L2) 1 6 (MQ below (xLQ D adC cA o 0 r0 wo M) ([.ref (adC 0), .int (qI a0), .int (qI a1), .ref o] : List Value).toArray s 1 6 (xA adC o)) (F0 m 8 ls [.int (qI r0), .int 0, .ref o]) := by
      refine lv_i2l hx hb dL_soul_8 (qI_i2l r0) ?_
      have hoT : va_at D vwCl (o, .inl (cA 5, 1, .inr (.inl (fun _ : Nat => qJ wo)))) T'.heap := by rw [e1]; exact ho1
      refine W.last hx hb hoT ((hK.2 3 _ rfl).1 1 (fun _ => .long (qJ wo))) (fun q => by cases q) (by show ¬ ((0 : Int32) < 0 ∨ (arrV _ _ _).slots.size ≤ _); rw [arrV_size]; show ¬ ((0 : Int32) < 0 ∨ 1 ≤ (0 : Int32).toNatClampNeg); decide) rfl rfl dL_soul_9 fun H1 e9 z9 oq => ?_
      have hP2 : q_P syC D adC cA M H1 := fun n hn => va_at.kept (H := T'.heap) (by rw [e1]; exact hP1 n hn) (oq _ (hno n hn))
      have ho2 : xO D cA o (w32 r0) H1 := by
        show H1[o]? = some (vp_cell _ _)
        rw [e9, vp_cell_l, vp_cell_l, arrV_store]
        first | (congr 1; done) | (congr 1; exact arrV_ext1 rfl)
      refine W.eq (g2 := F0 m 10 ls []) rfl ?_
      refine lv_goto (tgt := 21) hx hb dL_soul_10 (by decide) ?_
      refine lv_iconst (v := 0) hx hb dL_soul_21 (by decide) ?_
      have hS2 := hS1.put (k := (0 : Int32).toNatClampNeg) z9 oq (Or.inr rfl)
      exact W.iret hx hb hr (fun t ht hW => ⟨rfl, by rw [ht]; exact hP2, hT, by rw [if_pos rfl, ht]; exact ho2, hS2.F ht⟩) hS2.2.2 dL_soul_22 hlk
    obtain ⟨t2, a1, b1⟩ := goal T' rfl X'
    exact ⟨t2, stp t2 a1, b1⟩
  · rw [h0] at hz hkp
    have hF : va_F (q_A syC adC) s t := ⟨hz, hkp⟩
    have hS1 : va_S (xA adC o) s.heap T'.heap ([] ++ L2) := ⟨by rw [e1]; exact hz, fun q h1 h2 => by rw [e1]; exact hkp q h1 (fun z => h2 (hsubC q z)), fun q hq => hsubC _ (hL q (by simpa using hq))⟩
    have ho1 := keepO t hF
    have hcast : ∀ w ∈ xB, w.before ([.ref (adC 0), .int (qI a0), .int (qI a1), .ref o] : List Value).toArray s = true := fun w hw => by
      have h9 := hXS.1 w hw
      unfold xB at hw
      simp only [List.mem_cons, List.not_mem_nil, or_false] at hw
      rcases hw with rfl | rfl | rfl | rfl | rfl <;> exact va_Nw.use rfl h9
    have goal : vx_W p l e rm_L_soul s m ([.ref (adC 0), .int (qI a0), .int (qI a1), .ref o] : List Value).toArray below meth c T'.heap ([] ++ L2) 1 6 (MQ below (xLQ D adC cA o k0 r0 wo M) ([.ref (adC 0), .int (qI a0), .int (qI a1), .ref o] : List Value).toArray s 1 6 (xA adC o)) (F0 m 5 ls [.int 0, .ref o]) q := by
      rcases hE with ⟨rfl, rfl⟩ | ⟨rfl, rfl⟩
      · refine vx_catch hown [] ⟨0, 10, 13, 13⟩ [⟨0, 10, 17, 15⟩] (by rw [htab]; rfl) (fun z hz => by cases hz) (by decide) (by decide) (hts _ tk_L1) (hcast _ (by unfold xB; simp)) (by rw [e1]; exact hce) hcv hcl ?_
        refine lv_astore (lv' := [(4, .ref q), (0, .ref (adC 0)), (1, .int (qI a0)), (2, .int (qI a1)), (3, .ref o)]) hx hb dL_soul_13 hl (by decide) rfl (fun ls hl => ?_)
        refine lv_iconst (v := 1) hx hb dL_soul_15 (by decide) ?_
        exact W.iret hx hb hr (fun t' ht hW => ⟨rfl, by rw [ht, e1]; exact hP1, hT, by rw [if_neg (by decide), ht, e1]; exact ho1, hS1.F ht⟩) hS1.2.2 dL_soul_16 hlk
      · refine vx_catch hown [⟨0, 10, 13, 13⟩] ⟨0, 10, 17, 15⟩ [] (by rw [htab]; rfl) (fun z hz => ?_) (by decide) (by decide) (hts _ tk_L2) (hcast _ (by unfold xB; simp)) (by rw [e1]; exact hce) hcv hcl ?_
        · rw [List.mem_singleton.mp hz]
          exact Or.inr ⟨by decide, xE1, hts _ tk_L1, hXS.2.2.2.2.2⟩
        refine lv_astore (lv' := [(4, .ref q), (0, .ref (adC 0)), (1, .int (qI a0)), (2, .int (qI a1)), (3, .ref o)]) hx hb dL_soul_17 hl (by decide) rfl (fun ls hl => ?_)
        refine lv_iconst (v := 2) hx hb dL_soul_19 (by decide) ?_
        exact W.iret hx hb hr (fun t' ht hW => ⟨rfl, by rw [ht, e1]; exact hP1, hT, by rw [if_neg (by decide), ht, e1]; exact ho1, hS1.F ht⟩) hS1.2.2 dL_soul_20 hlk
    obtain ⟨t2, a1, b1⟩ := goal T' rfl X'
    exact ⟨t2, stp.trans a1, b1⟩
