theorem na_nil {D : va_G} {H : Heap} : va_P D vwCl [] H := fun k q h => by simp at h
theorem nd_nil {A : Nat → Prop} : va_D A [] := ⟨fun i j p q h => by simp at h, fun k q h => by simp at h⟩
set_option maxRecDepth 100000 in
set_option maxHeartbeats 4000000 in
/-- the law from its entry, over the methods' relation -/
theorem whole_open {Rel : Mem → Mem → Prop} (hrs : rs_all Rel) (hR0 : Rel MC0 MM0) {p : Program} {e : Env} {s : State} {m : MethodId} {below : List Frame} {meth : Method} {c : Code} (l : Launch) (hflags : l.flags = flags0) {b L : Nat} {xs : Nat → Int32} (hL : L ≤ 3072) (C0 : lw_At p s m meth c b L xs) : W p l e room_1 s m #[Value.ref b] below meth c s.heap [] 0 0 (lw_Z below #[Value.ref b] s) (entryFrame m ([Value.ref b] : List Value).toArray 7) := by
  obtain ⟨hx, hb, hr, hml, hown, hts0, hXs, hbl, hlk, hgv⟩ := id C0
  have hst : l.stackTraces = false := by
    unfold Launch.stackTraces
    rw [hflags]
    decide +kernel
  have hts : ∀ w ∈ wsQ, w.before #[Value.ref b] s = true := fun w h => hts0 w (wsQ_tbl w h)
  obtain ⟨D, cA, hK⟩ := st_K hts
  obtain ⟨hX, hXS⟩ := st_X hts0 hgv
  have CF : CallFix p m c code 7 s #[Value.ref b] wsQ RL := ⟨hx, hb, hml, hown, hts⟩
  have hl := lv_entry ([.ref b]) (n := 7) (Nat.le_of_ble_eq_true rfl)
  rw [lg_entry_eq]
  generalize (lg_sl ([.ref b]) ++ List.replicate (7 - (lg_sl ([.ref b])).length) Slot.unset).toArray = ls at hl ⊢
  have hl : lv_has ls 7 [(0, .ref b)] := hl
  refine va_new (D := D) (ci := 9) (fs := [.null, .int (qI 0), .null, .null, .null, .null, .null, .int (qI 0), .null, .null, .null, .null, .null, .null, .null]) (C := RX9) (T := TX9) (N := 15) (A := fun q => s.heap.size ≤ q) (ws := []) (H0 := s.heap) hx hb hts iqX9 tyX9 tyX9_ok hown (hts _ tk_RL_8) (hts _ tz_RX9) (hts _ tn_RX9) hK na_nil nd_nil va_S.rf (fun _ h => h) rfl (by decide +kernel) (Nat.le_of_ble_eq_true rfl) (Nat.le_of_ble_eq_true rfl) dL_law_0 (fun q0 H hP hD hS => ?_)
  have hP : va_P D vwCl [(q0, .inr (9, [.null, .int (qI 0), .null, .null, .null, .null, .null, .int (qI 0), .null, .null, .null, .null, .null, .null, .null]))] H := hP
  have hD : va_D (fun q => s.heap.size ≤ q) [(q0, .inr (9, [.null, .int (qI 0), .null, .null, .null, .null, .null, .int (qI 0), .null, .null, .null, .null, .null, .null, .null]))] := hD
  refine lv_dup hx hb dL_law_3 rfl ?_
  have hr1 := va_runI (l := l) (As := []) (rest := [.ref q0]) (cells := 1) (slots := 15) (H := H) (locs := []) (below := below) (meth := meth) (e := e) (R := room_1) (b := q0) (g := F0 m 4 ls [.ref q0, .ref q0]) CF (i_X9_init l s.heap.size D cA q0 H.size) (k_cwI hts tm_RL_17 ti_X9_init tn_RX9 td_X9_init rfl rfl rfl (by decide +kernel) ⟨Nat.le_of_ble_eq_true rfl, Nat.le_of_ble_eq_true rfl⟩) ⟨fun a U g mk q => by
      obtain ⟨q0, q1, qb, qP, qD, qK, qX⟩ := q
      exact ⟨q0, q1, qb, qP, qD, va_K.moved (u := U) (U := U.calling g mk a) (Vm.Alike.refl U.vm) qK, kX.same (s := U) (U := U.calling g mk a) qX rfl rfl⟩, fun U hU hW => ⟨rfl, by rw [hU], hS.1, by rw [hU]; exact hP, hD, va_K.moved hW.alike hK, kX.moved hX hW hU (fun q h1 h2 => hS.2.1 q h1 h2)⟩⟩ rfl rfl hl.1 rfl (lv_room (Nat.le_of_ble_eq_true rfl)) dL_law_4 ⟨Nat.le_of_ble_eq_true rfl, Nat.le_of_ble_eq_true rfl⟩
  intro T0 hT0 X0
  obtain ⟨v, st₀, t, T1, L1, e0, X1, hL1, e1, e2, ⟨hv, ⟨adC, eC, hiC, hAC, hPC, hTC⟩, hz, hkp⟩, stp⟩ := hr1 T0 hT0 X0
  cases hv
  rw [e0] at hz hkp hAC
  have hq0 : s.heap.size ≤ q0 := hD.2 0 _ rfl
  have loA : ∀ q, va_A [(q0, .inr (9, [.null, .int (qI 0), .null, .null, .null, .null, .null, .int (qI 0), .null, .null, .null, .null, .null, .null, .null]))] H.size q → s.heap.size ≤ q := fun q h => by
    rcases h with ⟨k, e9, h9⟩ | h
    · exact hD.2 k _ h9
    · exact Nat.le_trans hS.1 h
  have hlow1 : ∀ q, q < s.heap.size → T1.heap[q]? = s.heap[q]? := fun q h => by
    rw [e1, hkp q (Nat.lt_of_lt_of_le h hS.1) (fun z => Nat.not_le.mpr h (loA q z))]
    exact hS.2.1 q h (Nat.not_le.mpr h)
  have hsz1 : s.heap.size ≤ T1.heap.size := Nat.le_trans hS.1 (by rw [e1]; exact hz)
  have hPC1 : q_P syC D adC cA MC0 T1.heap := by rw [e1]; exact hPC
  have main : W p l e room_1 s m #[Value.ref b] below meth c T1.heap ([] ++ L1) (1 + 80) (15 + 1763) (lw_Z below #[Value.ref b] s) (F0 m 7 ls [.ref q0]) := by
    refine va_forget (fun q hq => loA _ (hL1 q (by simpa using hq))) ?_
    refine lv_astore_n (lv' := [(1, .ref q0), (0, .ref b)]) hx hb dL_law_7 rfl hl (by decide) rfl (fun ls hl => ?_)
    refine va_new (D := D) (ci := 10) (fs := [.int (qI 0), .null, .int (qI 0), .null, .null, .null, .null, .null, .null, .null, .null, .null, .null, .null, .null, .null, .null, .null, .null, .int (qI 0), .int (qI 0), .int (qI 0), .int (qI 0), .int (qI 0), .int (qI 0), .int (qI 0), .int (qI 0), .int (qI 0), .int (qI 0), .int (qI 0), .int (qI 0), .int (qI 0), .null, .null, .int (qI 0), .null, .null, .null, .null, .null, .null, .null, .null, .null, .null, .int (qI 0), .int (qI 0), .int (qI 0), .int (qI 0), .int (qI 0), .null, .int (qI 0), .null, .null, .int (qI 0), .null, .null, .int (qI 0), .int (qI 0), .int (qI 0), .null, .null, .null, .null, .null]) (C := RX10) (T := TX10) (N := 65) (A := fun q => T1.heap.size ≤ q) (ws := []) (H0 := T1.heap) hx hb hts iqX10 tyX10 tyX10_ok hown (hts _ tk_RL_18) (hts _ tz_RX10) (hts _ tn_RX10) hK na_nil nd_nil va_S.rf (fun _ h => h) rfl (by decide +kernel) (Nat.le_of_ble_eq_true rfl) (Nat.le_of_ble_eq_true rfl) dL_law_8 (fun q1 H2 hP2 hD2 hS2 => ?_)
    have hP2 : va_P D vwCl [(q1, .inr (10, [.int (qI 0), .null, .int (qI 0), .null, .null, .null, .null, .null, .null, .null, .null, .null, .null, .null, .null, .null, .null, .null, .null, .int (qI 0), .int (qI 0), .int (qI 0), .int (qI 0), .int (qI 0), .int (qI 0), .int (qI 0), .int (qI 0), .int (qI 0), .int (qI 0), .int (qI 0), .int (qI 0), .int (qI 0), .null, .null, .int (qI 0), .null, .null, .null, .null, .null, .null, .null, .null, .null, .null, .int (qI 0), .int (qI 0), .int (qI 0), .int (qI 0), .int (qI 0), .null, .int (qI 0), .null, .null, .int (qI 0), .null, .null, .int (qI 0), .int (qI 0), .int (qI 0), .null, .null, .null, .null, .null]))] H2 := hP2
    have hD2 : va_D (fun q => T1.heap.size ≤ q) [(q1, .inr (10, [.int (qI 0), .null, .int (qI 0), .null, .null, .null, .null, .null, .null, .null, .null, .null, .null, .null, .null, .null, .null, .null, .null, .int (qI 0), .int (qI 0), .int (qI 0), .int (qI 0), .int (qI 0), .int (qI 0), .int (qI 0), .int (qI 0), .int (qI 0), .int (qI 0), .int (qI 0), .int (qI 0), .int (qI 0), .null, .null, .int (qI 0), .null, .null, .null, .null, .null, .null, .null, .null, .null, .null, .int (qI 0), .int (qI 0), .int (qI 0), .int (qI 0), .int (qI 0), .null, .int (qI 0), .null, .null, .int (qI 0), .null, .null, .int (qI 0), .int (qI 0), .int (qI 0), .null, .null, .null, .null, .null]))] := hD2
    refine lv_dup hx hb dL_law_11 rfl ?_
    have low2 : ∀ q, q < T1.heap.size → H2[q]? = T1.heap[q]? := fun q h => hS2.2.1 q h (Nat.not_le.mpr h)
    have hr2 := va_runI (l := l) (As := []) (rest := [.ref q1]) (cells := 82) (slots := 1843) (H := H2) (locs := []) (below := below) (meth := meth) (e := e) (R := room_1) (b := q1) (g := F0 m 12 ls [.ref q1, .ref q1]) CF (i_X10_init l s.heap.size D cA q1 H2.size) (k_cwI hts tm_RL_20 ti_X10_init tn_RX10 td_X10_init rfl rfl rfl (by decide +kernel) ⟨Nat.le_of_ble_eq_true rfl, Nat.le_of_ble_eq_true rfl⟩) ⟨fun a U g mk q => by
        obtain ⟨q0, q1, qb, qP, qD, qK, qX⟩ := q
        exact ⟨q0, q1, qb, qP, qD, va_K.moved (u := U) (U := U.calling g mk a) (Vm.Alike.refl U.vm) qK, kX.same (s := U) (U := U.calling g mk a) qX rfl rfl⟩, fun U hU hW => ⟨rfl, by rw [hU], Nat.le_trans hsz1 hS2.1, by rw [hU]; exact hP2, hD2.weaken (fun _ _ _ h => Nat.le_trans hsz1 h), va_K.moved hW.alike hK, kX.moved hX hW hU (fun q h1 h2 => by rw [low2 q (Nat.lt_of_lt_of_le h1 hsz1)]; exact hlow1 q h1)⟩⟩ rfl rfl hl.1 rfl (lv_room (Nat.le_of_ble_eq_true rfl)) dL_law_12 ⟨Nat.le_of_ble_eq_true rfl, Nat.le_of_ble_eq_true rfl⟩
    intro T2 hT2 X2
    obtain ⟨v, st₁, t1, T3, L3, f0, X3, hL3, f1, f2, ⟨hv, ⟨adM, eM, hiM, hAM, hPM, hTM⟩, hz3, hkp3⟩, stp3⟩ := hr2 T2 hT2 X2
    cases hv
    rw [f0] at hz3 hkp3 hAM
    have hq1 : T1.heap.size ≤ q1 := hD2.2 0 _ rfl
    have lo2 : ∀ q, va_A [(q1, .inr (10, [.int (qI 0), .null, .int (qI 0), .null, .null, .null, .null, .null, .null, .null, .null, .null, .null, .null, .null, .null, .null, .null, .null, .int (qI 0), .int (qI 0), .int (qI 0), .int (qI 0), .int (qI 0), .int (qI 0), .int (qI 0), .int (qI 0), .int (qI 0), .int (qI 0), .int (qI 0), .int (qI 0), .int (qI 0), .null, .null, .int (qI 0), .null, .null, .null, .null, .null, .null, .null, .null, .null, .null, .int (qI 0), .int (qI 0), .int (qI 0), .int (qI 0), .int (qI 0), .null, .int (qI 0), .null, .null, .int (qI 0), .null, .null, .int (qI 0), .int (qI 0), .int (qI 0), .null, .null, .null, .null, .null]))] H2.size q → T1.heap.size ≤ q := fun q h => by
      rcases h with ⟨k, e9, h9⟩ | h
      · exact hD2.2 k _ h9
      · exact Nat.le_trans hS2.1 h
    have low3 : ∀ q, q < T1.heap.size → T3.heap[q]? = T1.heap[q]? := fun q h => by
      rw [f1, hkp3 q (Nat.lt_of_lt_of_le h hS2.1) (fun z => Nat.not_le.mpr h (lo2 q z))]
      exact low2 q h
    have hsz3 : T1.heap.size ≤ T3.heap.size := Nat.le_trans hS2.1 (by rw [f1]; exact hz3)
    have ltC : ∀ n, (syC.1 n).1 ≠ 0 → adC n < T1.heap.size := fun n hn => (hPC1 n hn).lt
    have hPC3 : q_P syC D adC cA MC0 T3.heap := fun n hn => (hPC1 n hn).kept (low3 _ (ltC n hn))
    have hPM3 : q_P syM D adM cA MM0 T3.heap := by rw [f1]; exact hPM
    have main3 : W p l e room_1 s m #[Value.ref b] below meth c T3.heap ([] ++ L3) (82 + 39) (1843 + 2690) (lw_Z below #[Value.ref b] s) (F0 m 15 ls [.ref q1]) := by
      refine va_forget (fun q hq => Nat.le_trans hsz1 (lo2 _ (hL3 q (by simpa using hq)))) ?_
      refine lv_astore_n (lv' := [(2, .ref q1), (1, .ref q0), (0, .ref b)]) hx hb dL_law_15 rfl hl (by decide) rfl (fun ls hl => ?_)
      refine lv_iconst (v := 1) hx hb dL_law_16 (by decide) ?_
      refine va_newa (atype := .long) (ty := .long) (a0 := (1, .inr (.inl (fun _ : Nat => qJ 0)))) (A := fun q => T3.heap.size ≤ q) (ws := []) (H0 := T3.heap) (N' := 1) hx hb (hts _ ta_long) rfl hK na_nil nd_nil va_S.rf (fun _ h => h) (fun _ => rfl) (by decide) (by decide) (by show 1 * 8 ≤ _; omega) (Nat.le_of_ble_eq_true rfl) (Nat.le_of_ble_eq_true rfl) dL_law_17 (fun o cN H4 hK4 hP4 hD4 hS4 => ?_)
      have w1 : s.vm.findClass ("[" ++ (FieldType.toString .long)) = some (cA 5) := (hK.2 3 _ rfl).2
      have w2 : s.vm.findClass ("[" ++ (FieldType.toString .long)) = some cN := (hK4.2 4 _ rfl).2
      have w3 : cA 5 = cN := Option.some.inj (w1.symm.trans w2)
      subst w3
      have ho : T3.heap.size ≤ o := hD4.2 0 _ rfl
      have low4 : ∀ q, q < T3.heap.size → H4[q]? = T3.heap[q]? := fun q h => hS4.2.1 q h (Nat.not_le.mpr h)
      have ltM : ∀ n, (syM.1 n).1 ≠ 0 → adM n < T3.heap.size := fun n hn => (hPM3 n hn).lt
      have gC : ∀ n, (syC.1 n).1 ≠ 0 → s.heap.size ≤ adC n := fun n hn => loA _ (hAC n hn)
      have gM : ∀ n, (syM.1 n).1 ≠ 0 → T1.heap.size ≤ adM n := fun n hn => lo2 _ (hAM n hn)
      have hCL : CL p s m c b L xs D adC adM cA o := ⟨CF, hK, ⟨hiC, hiM⟩, ⟨fun n hn => ⟨gC n hn, by have := ltC n hn; omega⟩, fun n hn => ⟨Nat.le_trans hsz1 (gM n hn), by have := ltM n hn; omega⟩, fun n n' hn hn' => by have := ltC n hn; have := gM n' hn'; omega, by omega⟩, hX.2, hXs, hbl, hL⟩
      refine lv_astore_n (lv' := [(3, .ref o), (2, .ref q1), (1, .ref q0), (0, .ref b)]) hx hb dL_law_19 rfl hl (by decide) rfl (fun ls hl => ?_)
      refine lv_iconst (v := 0) hx hb dL_law_20 (by decide) ?_
      refine lv_istore (lv' := [(4, .int 0), (3, .ref o), (2, .ref q1), (1, .ref q0), (0, .ref b)]) hx hb dL_law_21 hl (by decide) rfl (fun ls hl => ?_)
      have hlp := law_loop (l := l) (e := e) (below := below) (meth := meth) hCL hr hlk hst hXS hrs 513 0 0 122 4534 MC0 MM0 hR0 (by omega) (by omega) (by omega) (by omega) (by omega)
      refine hlp H4 [] ls (fun n hn => (hPC3 n hn).kept (low4 _ (Nat.lt_of_lt_of_le (ltC n hn) hsz3))) hTC (fun n hn => (hPM3 n hn).kept (low4 _ (ltM n hn))) (hP4 0 _ rfl) ⟨by have := hS4.1; omega, fun q h1 h2 => by rw [low4 q (by omega), low3 q (by omega)]; exact hlow1 q h1, fun _ h => by cases h⟩ ?_
      have hl2 := lv_sub hl [4, 3, 2, 1, 0] rfl
      rw [eC, eM]
      exact hl2
    obtain ⟨t4, a4, b4⟩ := main3 T3 rfl X3
    exact ⟨t4, stp3 t4 a4, b4⟩
  obtain ⟨t5, a5, b5⟩ := main T1 rfl X1
  exact ⟨t5, stp t5 a5, b5⟩
