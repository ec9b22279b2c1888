def in32 (a : Int) : Prop := -2147483648 ≤ a ∧ a < 2147483648
theorem q_sx_in (xs : Nat → Int32) (j : Int) : in32 (q_sx xs j) := by
  unfold q_sx in32
  have h1 := Int32.le_toInt (xs j.toNat)
  have h2 := Int32.toInt_lt (xs j.toNat)
  exact ⟨by simpa using h1, by simpa using h2⟩
def rs_feed (Rel : Mem → Mem → Prop) : Prop := ∀ (Mc Mm : Mem) (a0 a1 a2 a3 a4 : Int), Rel Mc Mm → in32 a0 → in32 a1 → in32 a2 → in32 a3 → in32 a4 → ∃ (r : Int) (Mc1 : Mem) (Mm1 : Mem), f_X9_feed a0 a1 a2 a3 a4 Mc = some (r, Mc1) ∧ f_X10_feed a0 a1 a2 a3 a4 Mm = some (r, Mm1) ∧ Rel Mc1 Mm1
def rs_text (Rel : Mem → Mem → Prop) : Prop := ∀ (Mc Mm : Mem) (a0 : Int), Rel Mc Mm → in32 a0 → ∃ (r : Int) (Mc1 : Mem) (Mm1 : Mem), f_X9_text a0 Mc = some (r, Mc1) ∧ f_X10_text a0 Mm = some (r, Mm1) ∧ Rel Mc1 Mm1
def rs_fault (Rel : Mem → Mem → Prop) : Prop := ∀ (Mc Mm : Mem) (a0 : Int), Rel Mc Mm → in32 a0 → ∃ (r : Int) (Mm1 : Mem), f_X9_fault a0 Mc = some r ∧ f_X10_fault a0 Mm = some (r, Mm1) ∧ Rel Mc Mm1
def rs_named (Rel : Mem → Mem → Prop) : Prop := ∀ (Mc Mm : Mem) (a0 a1 : Int), Rel Mc Mm → in32 a0 → in32 a1 → ∃ (r : Int) (Mm1 : Mem), f_X9_named a0 a1 Mc = some r ∧ f_X10_named a0 a1 Mm = some (r, Mm1) ∧ Rel Mc Mm1
def rs_bus (Rel : Mem → Mem → Prop) : Prop := ∀ (Mc Mm : Mem) (a0 a1 : Int), Rel Mc Mm → in32 a0 → in32 a1 → ∃ (r : Int) (Mm1 : Mem), f_X9_bus a0 a1 Mc = some r ∧ f_X10_bus a0 a1 Mm = some (r, Mm1) ∧ Rel Mc Mm1
def rs_queue (Rel : Mem → Mem → Prop) : Prop := ∀ (Mc Mm : Mem) (a0 : Int), Rel Mc Mm → in32 a0 → ∃ (r : Int) (Mm1 : Mem), f_X9_queue a0 Mc = some r ∧ f_X10_queue a0 Mm = some (r, Mm1) ∧ Rel Mc Mm1
def rs_lets (Rel : Mem → Mem → Prop) : Prop := ∀ (Mc Mm : Mem) (a0 : Int), Rel Mc Mm → in32 a0 → ∃ (r : Int) (Mm1 : Mem), f_X9_lets a0 Mc = some r ∧ f_X10_lets a0 Mm = some (r, Mm1) ∧ Rel Mc Mm1
def rs_law (Rel : Mem → Mem → Prop) : Prop := ∀ (Mc Mm : Mem) (a0 a1 a2 : Int), Rel Mc Mm → in32 a0 → in32 a1 → in32 a2 → ∃ (r : Int) (Mc1 : Mem) (Mm1 : Mem), f_X9_law a0 a1 a2 Mc = some (r, Mc1) ∧ f_X10_law a0 a1 a2 Mm = some (r, Mm1) ∧ Rel Mc1 Mm1
def rs_move (Rel : Mem → Mem → Prop) : Prop := ∀ (Mc Mm : Mem) (a0 a1 : Int), Rel Mc Mm → in32 a0 → in32 a1 → ∃ (r : Int) (Mc1 : Mem) (Mm1 : Mem), f_X9_move a0 a1 Mc = some (r, Mc1) ∧ f_X10_move a0 a1 Mm = some (r, Mm1) ∧ Rel Mc1 Mm1
def rs_give (Rel : Mem → Mem → Prop) : Prop := ∀ (Mc Mm : Mem) (a0 a1 : Int), Rel Mc Mm → in32 a0 → in32 a1 → ∃ (r : Int) (Mc1 : Mem) (Mm1 : Mem), f_X9_give a0 a1 Mc = some (r, Mc1) ∧ f_X10_give a0 a1 Mm = some (r, Mm1) ∧ Rel Mc1 Mm1
def rs_off (Rel : Mem → Mem → Prop) : Prop := ∀ (Mc Mm : Mem) (a0 : Int), Rel Mc Mm → in32 a0 → ∃ (r : Int) (Mc1 : Mem) (Mm1 : Mem), f_X9_off a0 Mc = some (r, Mc1) ∧ f_X10_off a0 Mm = some (r, Mm1) ∧ Rel Mc1 Mm1
def rs_go (Rel : Mem → Mem → Prop) : Prop := ∀ (Mc Mm : Mem) (a0 : Int), Rel Mc Mm → in32 a0 → ∃ (r : Int) (Mc1 : Mem) (Mm1 : Mem), f_X9_go a0 Mc = some (r, Mc1) ∧ f_X10_go a0 Mm = some (r, Mm1) ∧ Rel Mc1 Mm1
def rs_ahead (Rel : Mem → Mem → Prop) : Prop := ∀ (Mc Mm : Mem) (a0 a1 a2 : Int), Rel Mc Mm → in32 a0 → in32 a1 → in32 a2 → ∃ (r : Int) (Mc1 : Mem) (Mm1 : Mem), f_X9_ahead a0 a1 a2 Mc = some (r, Mc1) ∧ f_X10_ahead a0 a1 a2 Mm = some (r, Mm1) ∧ Rel Mc1 Mm1
def rs_next (Rel : Mem → Mem → Prop) : Prop := ∀ (Mc Mm : Mem) (a0 : Int), Rel Mc Mm → in32 a0 → ∃ (r : Int) (Mm1 : Mem), f_X9_next a0 Mc = some r ∧ f_X10_next a0 Mm = some (r, Mm1) ∧ Rel Mc Mm1
def rs_meet (Rel : Mem → Mem → Prop) : Prop := ∀ (Mc Mm : Mem) (a0 a1 : Int), Rel Mc Mm → in32 a0 → in32 a1 → ∃ (r : Int) (Mm1 : Mem), f_X9_meet a0 a1 Mc = some r ∧ f_X10_meet a0 a1 Mm = some (r, Mm1) ∧ Rel Mc Mm1
def rs_goes (Rel : Mem → Mem → Prop) : Prop := ∀ (Mc Mm : Mem) (a0 : Int), Rel Mc Mm → in32 a0 → ∃ (r : Int) (Mc1 : Mem) (Mm1 : Mem), f_X9_goes a0 Mc = some (r, Mc1) ∧ f_X10_goes a0 Mm = some (r, Mm1) ∧ Rel Mc1 Mm1
def rs_empty (Rel : Mem → Mem → Prop) : Prop := ∀ (Mc Mm : Mem) , Rel Mc Mm → ∃ (r : Int) (Mc1 : Mem) (Mm1 : Mem), f_X9_empty  Mc = some (r, Mc1) ∧ f_X10_empty  Mm = some (r, Mm1) ∧ Rel Mc1 Mm1
def rs_order (Rel : Mem → Mem → Prop) : Prop := ∀ (Mc Mm : Mem) (a0 : Int), Rel Mc Mm → in32 a0 → ∃ (r : Int) (Mc1 : Mem) (Mm1 : Mem), f_X9_order a0 Mc = some (r, Mc1) ∧ f_X10_order a0 Mm = some (r, Mm1) ∧ Rel Mc1 Mm1
def rs_trips (Rel : Mem → Mem → Prop) : Prop := ∀ (Mc Mm : Mem) (a0 : Int), Rel Mc Mm → in32 a0 → ∃ (r : Int) (Mc1 : Mem) (Mm1 : Mem), f_X9_trips a0 Mc = some (r, Mc1) ∧ f_X10_trips a0 Mm = some (r, Mm1) ∧ Rel Mc1 Mm1
def rs_match (Rel : Mem → Mem → Prop) : Prop := ∀ (Mc Mm : Mem) (a0 : Int), Rel Mc Mm → in32 a0 → ∃ (r : Int) (Mc1 : Mem) (Mm1 : Mem), f_X9_match a0 Mc = some (r, Mc1) ∧ f_X10_match a0 Mm = some (r, Mm1) ∧ Rel Mc1 Mm1
def rs_coins (Rel : Mem → Mem → Prop) : Prop := ∀ (Mc Mm : Mem) (a0 : Int), Rel Mc Mm → in32 a0 → ∃ (r : Int) (Mc1 : Mem) (Mm1 : Mem), f_X9_coins a0 Mc = some (r, Mc1) ∧ f_X10_coins a0 Mm = some (r, Mm1) ∧ Rel Mc1 Mm1
def rs_rests (Rel : Mem → Mem → Prop) : Prop := ∀ (Mc Mm : Mem) (a0 a1 : Int), Rel Mc Mm → in32 a0 → in32 a1 → ∃ (r : Int) (Mm1 : Mem), f_X9_rests a0 a1 Mc = some r ∧ f_X10_rests a0 a1 Mm = some (r, Mm1) ∧ Rel Mc Mm1
def rs_rest (Rel : Mem → Mem → Prop) : Prop := ∀ (Mc Mm : Mem) (a0 a1 a2 : Int), Rel Mc Mm → in32 a0 → in32 a1 → in32 a2 → ∃ (r : Int) (Mm1 : Mem), f_X9_rest a0 a1 a2 Mc = some r ∧ f_X10_rest a0 a1 a2 Mm = some (r, Mm1) ∧ Rel Mc Mm1
def rs_dry (Rel : Mem → Mem → Prop) : Prop := ∀ (Mc Mm : Mem) (a0 a1 : Int), Rel Mc Mm → in32 a0 → in32 a1 → ∃ (r : Int) (Mm1 : Mem), f_X9_dry a0 a1 Mc = some r ∧ f_X10_dry a0 a1 Mm = some (r, Mm1) ∧ Rel Mc Mm1
def rs_see (Rel : Mem → Mem → Prop) : Prop := ∀ (Mc Mm : Mem) (a0 a1 a2 : Int), Rel Mc Mm → in32 a0 → in32 a1 → (a2 = 0 ∨ a2 = 1) → ∃ (r : Int) (Mc1 : Mem) (Mm1 : Mem), f_X9_see a0 a1 a2 Mc = some (r, Mc1) ∧ f_X10_see a0 a1 a2 Mm = some (r, Mm1) ∧ Rel Mc1 Mm1
def rs_strike (Rel : Mem → Mem → Prop) : Prop := ∀ (Mc Mm : Mem) (a0 : Int), Rel Mc Mm → in32 a0 → ∃ (r : Int) (Mc1 : Mem) (Mm1 : Mem), f_X9_strike a0 Mc = some (r, Mc1) ∧ f_X10_strike a0 Mm = some (r, Mm1) ∧ Rel Mc1 Mm1
def rs_known (Rel : Mem → Mem → Prop) : Prop := ∀ (Mc Mm : Mem) (a0 : Int), Rel Mc Mm → in32 a0 → ∃ (r : Int) (Mc1 : Mem) (Mm1 : Mem), f_X9_known a0 Mc = some (r, Mc1) ∧ f_X10_known a0 Mm = some (r, Mm1) ∧ Rel Mc1 Mm1
def rs_everies (Rel : Mem → Mem → Prop) : Prop := ∀ (Mc Mm : Mem) (a0 : Int), Rel Mc Mm → in32 a0 → ∃ (r : Int) (Mc1 : Mem) (Mm1 : Mem), f_X9_everies a0 Mc = some (r, Mc1) ∧ f_X10_everies a0 Mm = some (r, Mm1) ∧ Rel Mc1 Mm1
def rs_ask (Rel : Mem → Mem → Prop) : Prop := ∀ (Mc Mm : Mem) (a0 a1 : Int), Rel Mc Mm → in32 a0 → in32 a1 → ∃ (r : Int) (Mc1 : Mem) (Mm1 : Mem), f_X9_ask a0 a1 Mc = some (r, Mc1) ∧ f_X10_ask a0 a1 Mm = some (r, Mm1) ∧ Rel Mc1 Mm1
def rs_chance (Rel : Mem → Mem → Prop) : Prop := ∀ (Mc Mm : Mem) (a0 a1 a2 a3 : Int), Rel Mc Mm → in32 a0 → in32 a1 → in32 a2 → in32 a3 → ∃ (r : Int) (Mc1 : Mem) (Mm1 : Mem), f_X9_chance a0 a1 a2 a3 Mc = some (r, Mc1) ∧ f_X10_chance a0 a1 a2 a3 Mm = some (r, Mm1) ∧ Rel Mc1 Mm1
def rs_tried (Rel : Mem → Mem → Prop) : Prop := ∀ (Mc Mm : Mem) (a0 a1 a2 : Int), Rel Mc Mm → in32 a0 → in32 a1 → in32 a2 → ∃ (r : Int) (Mc1 : Mem) (Mm1 : Mem), f_X9_tried a0 a1 a2 Mc = some (r, Mc1) ∧ f_X10_tried a0 a1 a2 Mm = some (r, Mm1) ∧ Rel Mc1 Mm1
def rs_undo (Rel : Mem → Mem → Prop) : Prop := ∀ (Mc Mm : Mem) , Rel Mc Mm → ∃ (r : Int) (Mc1 : Mem) (Mm1 : Mem), f_X9_undo  Mc = some (r, Mc1) ∧ f_X10_undo  Mm = some (r, Mm1) ∧ Rel Mc1 Mm1
def rs_keep (Rel : Mem → Mem → Prop) : Prop := ∀ (Mc Mm : Mem) , Rel Mc Mm → ∃ (r : Int) (Mc1 : Mem) (Mm1 : Mem), f_X9_keep  Mc = some (r, Mc1) ∧ f_X10_keep  Mm = some (r, Mm1) ∧ Rel Mc1 Mm1
def rs_back (Rel : Mem → Mem → Prop) : Prop := ∀ (Mc Mm : Mem) , Rel Mc Mm → ∃ (r : Int) (Mc1 : Mem) (Mm1 : Mem), f_X9_back  Mc = some (r, Mc1) ∧ f_X10_back  Mm = some (r, Mm1) ∧ Rel Mc1 Mm1
def rs_count (Rel : Mem → Mem → Prop) : Prop := ∀ (Mc Mm : Mem) (a0 : Int), Rel Mc Mm → in32 a0 → ∃ (r : Int) (Mm1 : Mem), f_X9_count a0 Mc = some r ∧ f_X10_count a0 Mm = some (r, Mm1) ∧ Rel Mc Mm1
theorem q_cmp_rr (r : Int) : w32 (q_cmp r r) = 0 := by
  unfold q_cmp
  rw [if_neg (Int.lt_irrefl _), if_pos rfl]
  exact w32_0
section QCASE
variable {p : Program} {l : Launch} {e : Env} {s : State} {m : MethodId} {below : List Frame} {meth : Method} {c : Code} {b Ln : Nat} {xs : Nat → Int32} {D : va_G} {adC adM : Nat → Nat} {cA : Nat → ClassId} {o : Nat} {Q : State → Prop} {wo : Int} {kc ks : Nat}
theorem lc_feed (C : CL p s m c b Ln xs D adC adM cA o) {i : Int} (hi : 0 ≤ i ∧ i + 6 ≤ (Ln : Int)) (hks : kc ≤ 601024 ∧ ks ≤ 7293034) {Rel : Mem → Mem → Prop} (hrel : rs_feed Rel) {Mc Mm : Mem} (hRel : Rel Mc Mm) (kk : ∀ Mc1 Mm1, Rel Mc1 Mm1 → WL p l e s m below meth c b D adC adM cA o Q Mc1 Mm1 wo (kc + 1) (ks + 6) 1413 [(0, .ref b), (1, .ref (adC 0)), (2, .ref (adM 0)), (3, .ref o), (4, .int (qI i))] []) : WL p l e s m below meth c b D adC adM cA o Q Mc Mm wo kc ks 200 [(0, .ref b), (1, .ref (adC 0)), (2, .ref (adM 0)), (3, .ref o), (4, .int (qI i))] [] := by
  have hLn := C.2.2.2.2.2.2.2
  refine l_aln C dL_law_200 (k := 1) rfl ?_
  refine l_aln C dL_law_201 (k := 0) rfl ?_
  refine l_il C dL_law_202 (k := 4) rfl ?_
  refine l_ic C dL_law_204 ?_
  refine l_iadd C dL_law_205 ?_
  refine l_sld C (by rw [w32_id (by omega)]; omega) dL_law_206 ?_
  refine l_aln C dL_law_207 (k := 0) rfl ?_
  refine l_il C dL_law_208 (k := 4) rfl ?_
  refine l_ic C dL_law_210 ?_
  refine l_iadd C dL_law_211 ?_
  refine l_sld C (by rw [w32_id (by omega)]; omega) dL_law_212 ?_
  refine l_aln C dL_law_213 (k := 0) rfl ?_
  refine l_il C dL_law_214 (k := 4) rfl ?_
  refine l_ic C dL_law_216 ?_
  refine l_iadd C dL_law_217 ?_
  refine l_sld C (by rw [w32_id (by omega)]; omega) dL_law_218 ?_
  refine l_aln C dL_law_219 (k := 0) rfl ?_
  refine l_il C dL_law_220 (k := 4) rfl ?_
  refine l_ic C dL_law_222 ?_
  refine l_iadd C dL_law_223 ?_
  refine l_sld C (by rw [w32_id (by omega)]; omega) dL_law_224 ?_
  refine l_aln C dL_law_225 (k := 0) rfl ?_
  refine l_il C dL_law_226 (k := 4) rfl ?_
  refine l_ic C dL_law_228 ?_
  refine l_iadd C dL_law_229 ?_
  refine l_sld C (by rw [w32_id (by omega)]; omega) dL_law_230 ?_
  obtain ⟨r, Mc1, Mm1, e1, e2, hR⟩ := hrel Mc Mm (q_sx xs (w32 (i + 1))) (q_sx xs (w32 (i + 2))) (q_sx xs (w32 (i + 3))) (q_sx xs (w32 (i + 4))) (q_sx xs (w32 (i + 5))) hRel (q_sx_in _ _) (q_sx_in _ _) (q_sx_in _ _) (q_sx_in _ _) (q_sx_in _ _)
  refine l_cCi C (st := []) (c_X9_feed C.2.2.1.1 (q_sx xs (w32 (i + 1))) (q_sx xs (w32 (i + 2))) (q_sx xs (w32 (i + 3))) (q_sx xs (w32 (i + 4))) (q_sx xs (w32 (i + 5))) Mc r Mc1 e1) tm_RL_21 mw_X9_feed ⟨rfl, rfl⟩ ⟨Nat.le_of_ble_eq_true rfl, Nat.le_of_ble_eq_true rfl⟩ kc_0 clX9 hks rfl rfl (Nat.le_of_ble_eq_true rfl) dL_law_231 ?_
  refine l_aln C dL_law_234 (k := 2) rfl ?_
  refine l_aln C dL_law_235 (k := 0) rfl ?_
  refine l_il C dL_law_236 (k := 4) rfl ?_
  refine l_ic C dL_law_238 ?_
  refine l_iadd C dL_law_239 ?_
  refine l_sld C (by rw [w32_id (by omega)]; omega) dL_law_240 ?_
  refine l_aln C dL_law_241 (k := 0) rfl ?_
  refine l_il C dL_law_242 (k := 4) rfl ?_
  refine l_ic C dL_law_244 ?_
  refine l_iadd C dL_law_245 ?_
  refine l_sld C (by rw [w32_id (by omega)]; omega) dL_law_246 ?_
  refine l_aln C dL_law_247 (k := 0) rfl ?_
  refine l_il C dL_law_248 (k := 4) rfl ?_
  refine l_ic C dL_law_250 ?_
  refine l_iadd C dL_law_251 ?_
  refine l_sld C (by rw [w32_id (by omega)]; omega) dL_law_252 ?_
  refine l_aln C dL_law_253 (k := 0) rfl ?_
  refine l_il C dL_law_254 (k := 4) rfl ?_
  refine l_ic C dL_law_256 ?_
  refine l_iadd C dL_law_257 ?_
  refine l_sld C (by rw [w32_id (by omega)]; omega) dL_law_258 ?_
  refine l_aln C dL_law_259 (k := 0) rfl ?_
  refine l_il C dL_law_260 (k := 4) rfl ?_
  refine l_ic C dL_law_262 ?_
  refine l_iadd C dL_law_263 ?_
  refine l_sld C (by rw [w32_id (by omega)]; omega) dL_law_264 ?_
  refine l_cMi C (st := [.int (qI (r))]) (c_X10_feed C.2.2.1.2 (q_sx xs (w32 (i + 1))) (q_sx xs (w32 (i + 2))) (q_sx xs (w32 (i + 3))) (q_sx xs (w32 (i + 4))) (q_sx xs (w32 (i + 5))) Mm r Mm1 e2) tm_RL_25 mw_X10_feed ⟨rfl, rfl⟩ ⟨Nat.le_of_ble_eq_true rfl, Nat.le_of_ble_eq_true rfl⟩ km_0 clX10 hks rfl rfl (Nat.le_of_ble_eq_true rfl) dL_law_265 ?_
  refine l_ceq C (tgt := 1413) dL_law_268 (by decide) (fun _ => ?_) (fun z => absurd rfl z)
  refine l_widen (Nat.le_succ _) (Nat.le_add_right _ 6) ?_
  exact kk Mc1 Mm1 hR
theorem lc_text (C : CL p s m c b Ln xs D adC adM cA o) {i : Int} (hi : 0 ≤ i ∧ i + 6 ≤ (Ln : Int)) (hks : kc ≤ 601024 ∧ ks ≤ 7293034) {Rel : Mem → Mem → Prop} (hrel : rs_text Rel) {Mc Mm : Mem} (hRel : Rel Mc Mm) (kk : ∀ Mc1 Mm1, Rel Mc1 Mm1 → WL p l e s m below meth c b D adC adM cA o Q Mc1 Mm1 wo (kc + 1) (ks + 6) 1413 [(0, .ref b), (1, .ref (adC 0)), (2, .ref (adM 0)), (3, .ref o), (4, .int (qI i))] []) : WL p l e s m below meth c b D adC adM cA o Q Mc Mm wo kc ks 273 [(0, .ref b), (1, .ref (adC 0)), (2, .ref (adM 0)), (3, .ref o), (4, .int (qI i))] [] := by
  have hLn := C.2.2.2.2.2.2.2
  refine l_aln C dL_law_273 (k := 1) rfl ?_
  refine l_aln C dL_law_274 (k := 0) rfl ?_
  refine l_il C dL_law_275 (k := 4) rfl ?_
  refine l_ic C dL_law_277 ?_
  refine l_iadd C dL_law_278 ?_
  refine l_sld C (by rw [w32_id (by omega)]; omega) dL_law_279 ?_
  obtain ⟨r, Mc1, Mm1, e1, e2, hR⟩ := hrel Mc Mm (q_sx xs (w32 (i + 1))) hRel (q_sx_in _ _)
  refine l_cCi C (st := []) (c_X9_text C.2.2.1.1 (q_sx xs (w32 (i + 1))) Mc r Mc1 e1) tm_RL_26 mw_X9_text ⟨rfl, rfl⟩ ⟨Nat.le_of_ble_eq_true rfl, Nat.le_of_ble_eq_true rfl⟩ kc_0 clX9 hks rfl rfl (Nat.le_of_ble_eq_true rfl) dL_law_280 ?_
  refine l_aln C dL_law_283 (k := 2) rfl ?_
  refine l_aln C dL_law_284 (k := 0) rfl ?_
  refine l_il C dL_law_285 (k := 4) rfl ?_
  refine l_ic C dL_law_287 ?_
  refine l_iadd C dL_law_288 ?_
  refine l_sld C (by rw [w32_id (by omega)]; omega) dL_law_289 ?_
  refine l_cMi C (st := [.int (qI (r))]) (c_X10_text C.2.2.1.2 (q_sx xs (w32 (i + 1))) Mm r Mm1 e2) tm_RL_30 mw_X10_text ⟨rfl, rfl⟩ ⟨Nat.le_of_ble_eq_true rfl, Nat.le_of_ble_eq_true rfl⟩ km_0 clX10 hks rfl rfl (Nat.le_of_ble_eq_true rfl) dL_law_290 ?_
  refine l_ceq C (tgt := 1413) dL_law_293 (by decide) (fun _ => ?_) (fun z => absurd rfl z)
  refine l_widen (Nat.le_succ _) (Nat.le_add_right _ 6) ?_
  exact kk Mc1 Mm1 hR
theorem lc_fault (C : CL p s m c b Ln xs D adC adM cA o) {i : Int} (hi : 0 ≤ i ∧ i + 6 ≤ (Ln : Int)) (hks : kc ≤ 601024 ∧ ks ≤ 7293034) {Rel : Mem → Mem → Prop} (hrel : rs_fault Rel) {Mc Mm : Mem} (hRel : Rel Mc Mm) (kk : ∀ Mc1 Mm1, Rel Mc1 Mm1 → WL p l e s m below meth c b D adC adM cA o Q Mc1 Mm1 wo (kc + 1) (ks + 6) 1413 [(0, .ref b), (1, .ref (adC 0)), (2, .ref (adM 0)), (3, .ref o), (4, .int (qI i))] []) : WL p l e s m below meth c b D adC adM cA o Q Mc Mm wo kc ks 298 [(0, .ref b), (1, .ref (adC 0)), (2, .ref (adM 0)), (3, .ref o), (4, .int (qI i))] [] := by
  have hLn := C.2.2.2.2.2.2.2
  refine l_aln C dL_law_298 (k := 1) rfl ?_
  refine l_aln C dL_law_299 (k := 0) rfl ?_
  refine l_il C dL_law_300 (k := 4) rfl ?_
  refine l_ic C dL_law_302 ?_
  refine l_iadd C dL_law_303 ?_
  refine l_sld C (by rw [w32_id (by omega)]; omega) dL_law_304 ?_
  obtain ⟨r, Mm1, e1, e2, hR⟩ := hrel Mc Mm (q_sx xs (w32 (i + 1))) hRel (q_sx_in _ _)
  refine l_cCi C (st := []) (c_X9_fault C.2.2.1.1 (q_sx xs (w32 (i + 1))) Mc r  e1) tm_RL_31 mw_X9_fault ⟨rfl, rfl⟩ ⟨Nat.le_of_ble_eq_true rfl, Nat.le_of_ble_eq_true rfl⟩ kc_0 clX9 hks rfl rfl (Nat.le_of_ble_eq_true rfl) dL_law_305 ?_
  refine l_aln C dL_law_308 (k := 2) rfl ?_
  refine l_aln C dL_law_309 (k := 0) rfl ?_
  refine l_il C dL_law_310 (k := 4) rfl ?_
  refine l_ic C dL_law_312 ?_
  refine l_iadd C dL_law_313 ?_
  refine l_sld C (by rw [w32_id (by omega)]; omega) dL_law_314 ?_
  refine l_cMi C (st := [.int (qI (r))]) (c_X10_fault C.2.2.1.2 (q_sx xs (w32 (i + 1))) Mm r Mm1 e2) tm_RL_34 mw_X10_fault ⟨rfl, rfl⟩ ⟨Nat.le_of_ble_eq_true rfl, Nat.le_of_ble_eq_true rfl⟩ km_0 clX10 hks rfl rfl (Nat.le_of_ble_eq_true rfl) dL_law_315 ?_
  refine l_ceq C (tgt := 1413) dL_law_318 (by decide) (fun _ => ?_) (fun z => absurd rfl z)
  refine l_widen (Nat.le_succ _) (Nat.le_add_right _ 6) ?_
  exact kk Mc Mm1 hR
theorem lc_named (C : CL p s m c b Ln xs D adC adM cA o) {i : Int} (hi : 0 ≤ i ∧ i + 6 ≤ (Ln : Int)) (hks : kc ≤ 601024 ∧ ks ≤ 7293034) {Rel : Mem → Mem → Prop} (hrel : rs_named Rel) {Mc Mm : Mem} (hRel : Rel Mc Mm) (kk : ∀ Mc1 Mm1, Rel Mc1 Mm1 → WL p l e s m below meth c b D adC adM cA o Q Mc1 Mm1 wo (kc + 1) (ks + 6) 1413 [(0, .ref b), (1, .ref (adC 0)), (2, .ref (adM 0)), (3, .ref o), (4, .int (qI i))] []) : WL p l e s m below meth c b D adC adM cA o Q Mc Mm wo kc ks 323 [(0, .ref b), (1, .ref (adC 0)), (2, .ref (adM 0)), (3, .ref o), (4, .int (qI i))] [] := by
  have hLn := C.2.2.2.2.2.2.2
  refine l_aln C dL_law_323 (k := 1) rfl ?_
  refine l_aln C dL_law_324 (k := 0) rfl ?_
  refine l_il C dL_law_325 (k := 4) rfl ?_
  refine l_ic C dL_law_327 ?_
  refine l_iadd C dL_law_328 ?_
  refine l_sld C (by rw [w32_id (by omega)]; omega) dL_law_329 ?_
  refine l_aln C dL_law_330 (k := 0) rfl ?_
  refine l_il C dL_law_331 (k := 4) rfl ?_
  refine l_ic C dL_law_333 ?_
  refine l_iadd C dL_law_334 ?_
  refine l_sld C (by rw [w32_id (by omega)]; omega) dL_law_335 ?_
  obtain ⟨r, Mm1, e1, e2, hR⟩ := hrel Mc Mm (q_sx xs (w32 (i + 1))) (q_sx xs (w32 (i + 2))) hRel (q_sx_in _ _) (q_sx_in _ _)
  refine l_cCi C (st := []) (c_X9_named C.2.2.1.1 (q_sx xs (w32 (i + 1))) (q_sx xs (w32 (i + 2))) Mc r  e1) tm_RL_35 mw_X9_named ⟨rfl, rfl⟩ ⟨Nat.le_of_ble_eq_true rfl, Nat.le_of_ble_eq_true rfl⟩ kc_0 clX9 hks rfl rfl (Nat.le_of_ble_eq_true rfl) dL_law_336 ?_
  refine l_aln C dL_law_339 (k := 2) rfl ?_
  refine l_aln C dL_law_340 (k := 0) rfl ?_
  refine l_il C dL_law_341 (k := 4) rfl ?_
  refine l_ic C dL_law_343 ?_
  refine l_iadd C dL_law_344 ?_
  refine l_sld C (by rw [w32_id (by omega)]; omega) dL_law_345 ?_
  refine l_aln C dL_law_346 (k := 0) rfl ?_
  refine l_il C dL_law_347 (k := 4) rfl ?_
  refine l_ic C dL_law_349 ?_
  refine l_iadd C dL_law_350 ?_
  refine l_sld C (by rw [w32_id (by omega)]; omega) dL_law_351 ?_
  refine l_cMi C (st := [.int (qI (r))]) (c_X10_named C.2.2.1.2 (q_sx xs (w32 (i + 1))) (q_sx xs (w32 (i + 2))) Mm r Mm1 e2) tm_RL_38 mw_X10_named ⟨rfl, rfl⟩ ⟨Nat.le_of_ble_eq_true rfl, Nat.le_of_ble_eq_true rfl⟩ km_0 clX10 hks rfl rfl (Nat.le_of_ble_eq_true rfl) dL_law_352 ?_
  refine l_ceq C (tgt := 1413) dL_law_355 (by decide) (fun _ => ?_) (fun z => absurd rfl z)
  refine l_widen (Nat.le_succ _) (Nat.le_add_right _ 6) ?_
  exact kk Mc Mm1 hR
theorem lc_bus (C : CL p s m c b Ln xs D adC adM cA o) {i : Int} (hi : 0 ≤ i ∧ i + 6 ≤ (Ln : Int)) (hks : kc ≤ 601024 ∧ ks ≤ 7293034) {Rel : Mem → Mem → Prop} (hrel : rs_bus Rel) {Mc Mm : Mem} (hRel : Rel Mc Mm) (kk : ∀ Mc1 Mm1, Rel Mc1 Mm1 → WL p l e s m below meth c b D adC adM cA o Q Mc1 Mm1 wo (kc + 1) (ks + 6) 1413 [(0, .ref b), (1, .ref (adC 0)), (2, .ref (adM 0)), (3, .ref o), (4, .int (qI i))] []) : WL p l e s m below meth c b D adC adM cA o Q Mc Mm wo kc ks 428 [(0, .ref b), (1, .ref (adC 0)), (2, .ref (adM 0)), (3, .ref o), (4, .int (qI i))] [] := by
  have hLn := C.2.2.2.2.2.2.2
  refine l_aln C dL_law_428 (k := 1) rfl ?_
  refine l_aln C dL_law_429 (k := 0) rfl ?_
  refine l_il C dL_law_430 (k := 4) rfl ?_
  refine l_ic C dL_law_432 ?_
  refine l_iadd C dL_law_433 ?_
  refine l_sld C (by rw [w32_id (by omega)]; omega) dL_law_434 ?_
  refine l_aln C dL_law_435 (k := 0) rfl ?_
  refine l_il C dL_law_436 (k := 4) rfl ?_
  refine l_ic C dL_law_438 ?_
  refine l_iadd C dL_law_439 ?_
  refine l_sld C (by rw [w32_id (by omega)]; omega) dL_law_440 ?_
  obtain ⟨r, Mm1, e1, e2, hR⟩ := hrel Mc Mm (q_sx xs (w32 (i + 1))) (q_sx xs (w32 (i + 2))) hRel (q_sx_in _ _) (q_sx_in _ _)
  refine l_cCi C (st := []) (c_X9_bus C.2.2.1.1 (q_sx xs (w32 (i + 1))) (q_sx xs (w32 (i + 2))) Mc r  e1) tm_RL_49 mw_X9_bus ⟨rfl, rfl⟩ ⟨Nat.le_of_ble_eq_true rfl, Nat.le_of_ble_eq_true rfl⟩ kc_0 clX9 hks rfl rfl (Nat.le_of_ble_eq_true rfl) dL_law_441 ?_
  refine l_aln C dL_law_444 (k := 2) rfl ?_
  refine l_aln C dL_law_445 (k := 0) rfl ?_
  refine l_il C dL_law_446 (k := 4) rfl ?_
  refine l_ic C dL_law_448 ?_
  refine l_iadd C dL_law_449 ?_
  refine l_sld C (by rw [w32_id (by omega)]; omega) dL_law_450 ?_
  refine l_aln C dL_law_451 (k := 0) rfl ?_
  refine l_il C dL_law_452 (k := 4) rfl ?_
  refine l_ic C dL_law_454 ?_
  refine l_iadd C dL_law_455 ?_
  refine l_sld C (by rw [w32_id (by omega)]; omega) dL_law_456 ?_
  refine l_cMi C (st := [.int (qI (r))]) (c_X10_bus C.2.2.1.2 (q_sx xs (w32 (i + 1))) (q_sx xs (w32 (i + 2))) Mm r Mm1 e2) tm_RL_52 mw_X10_bus ⟨rfl, rfl⟩ ⟨Nat.le_of_ble_eq_true rfl, Nat.le_of_ble_eq_true rfl⟩ km_0 clX10 hks rfl rfl (Nat.le_of_ble_eq_true rfl) dL_law_457 ?_
  refine l_ceq C (tgt := 1413) dL_law_460 (by decide) (fun _ => ?_) (fun z => absurd rfl z)
  refine l_widen (Nat.le_succ _) (Nat.le_add_right _ 6) ?_
  exact kk Mc Mm1 hR
theorem lc_queue (C : CL p s m c b Ln xs D adC adM cA o) {i : Int} (hi : 0 ≤ i ∧ i + 6 ≤ (Ln : Int)) (hks : kc ≤ 601024 ∧ ks ≤ 7293034) {Rel : Mem → Mem → Prop} (hrel : rs_queue Rel) {Mc Mm : Mem} (hRel : Rel Mc Mm) (kk : ∀ Mc1 Mm1, Rel Mc1 Mm1 → WL p l e s m below meth c b D adC adM cA o Q Mc1 Mm1 wo (kc + 1) (ks + 6) 1413 [(0, .ref b), (1, .ref (adC 0)), (2, .ref (adM 0)), (3, .ref o), (4, .int (qI i))] []) : WL p l e s m below meth c b D adC adM cA o Q Mc Mm wo kc ks 465 [(0, .ref b), (1, .ref (adC 0)), (2, .ref (adM 0)), (3, .ref o), (4, .int (qI i))] [] := by
  have hLn := C.2.2.2.2.2.2.2
  refine l_aln C dL_law_465 (k := 1) rfl ?_
  refine l_aln C dL_law_466 (k := 0) rfl ?_
  refine l_il C dL_law_467 (k := 4) rfl ?_
  refine l_ic C dL_law_469 ?_
  refine l_iadd C dL_law_470 ?_
  refine l_sld C (by rw [w32_id (by omega)]; omega) dL_law_471 ?_
  obtain ⟨r, Mm1, e1, e2, hR⟩ := hrel Mc Mm (q_sx xs (w32 (i + 1))) hRel (q_sx_in _ _)
  refine l_cCi C (st := []) (c_X9_queue C.2.2.1.1 (q_sx xs (w32 (i + 1))) Mc r  e1) tm_RL_53 mw_X9_queue ⟨rfl, rfl⟩ ⟨Nat.le_of_ble_eq_true rfl, Nat.le_of_ble_eq_true rfl⟩ kc_0 clX9 hks rfl rfl (Nat.le_of_ble_eq_true rfl) dL_law_472 ?_
  refine l_aln C dL_law_475 (k := 2) rfl ?_
  refine l_aln C dL_law_476 (k := 0) rfl ?_
  refine l_il C dL_law_477 (k := 4) rfl ?_
  refine l_ic C dL_law_479 ?_
  refine l_iadd C dL_law_480 ?_
  refine l_sld C (by rw [w32_id (by omega)]; omega) dL_law_481 ?_
  refine l_cMi C (st := [.int (qI (r))]) (c_X10_queue C.2.2.1.2 (q_sx xs (w32 (i + 1))) Mm r Mm1 e2) tm_RL_56 mw_X10_queue ⟨rfl, rfl⟩ ⟨Nat.le_of_ble_eq_true rfl, Nat.le_of_ble_eq_true rfl⟩ km_0 clX10 hks rfl rfl (Nat.le_of_ble_eq_true rfl) dL_law_482 ?_
  refine l_ceq C (tgt := 1413) dL_law_485 (by decide) (fun _ => ?_) (fun z => absurd rfl z)
  refine l_widen (Nat.le_succ _) (Nat.le_add_right _ 6) ?_
  exact kk Mc Mm1 hR
theorem lc_lets (C : CL p s m c b Ln xs D adC adM cA o) {i : Int} (hi : 0 ≤ i ∧ i + 6 ≤ (Ln : Int)) (hks : kc ≤ 601024 ∧ ks ≤ 7293034) {Rel : Mem → Mem → Prop} (hrel : rs_lets Rel) {Mc Mm : Mem} (hRel : Rel Mc Mm) (kk : ∀ Mc1 Mm1, Rel Mc1 Mm1 → WL p l e s m below meth c b D adC adM cA o Q Mc1 Mm1 wo (kc + 1) (ks + 6) 1413 [(0, .ref b), (1, .ref (adC 0)), (2, .ref (adM 0)), (3, .ref o), (4, .int (qI i))] []) : WL p l e s m below meth c b D adC adM cA o Q Mc Mm wo kc ks 490 [(0, .ref b), (1, .ref (adC 0)), (2, .ref (adM 0)), (3, .ref o), (4, .int (qI i))] [] := by
  have hLn := C.2.2.2.2.2.2.2
  refine l_aln C dL_law_490 (k := 1) rfl ?_
  refine l_aln C dL_law_491 (k := 0) rfl ?_
  refine l_il C dL_law_492 (k := 4) rfl ?_
  refine l_ic C dL_law_494 ?_
  refine l_iadd C dL_law_495 ?_
  refine l_sld C (by rw [w32_id (by omega)]; omega) dL_law_496 ?_
  obtain ⟨r, Mm1, e1, e2, hR⟩ := hrel Mc Mm (q_sx xs (w32 (i + 1))) hRel (q_sx_in _ _)
  refine l_cCi C (st := []) (c_X9_lets C.2.2.1.1 (q_sx xs (w32 (i + 1))) Mc r  e1) tm_RL_57 mw_X9_lets ⟨rfl, rfl⟩ ⟨Nat.le_of_ble_eq_true rfl, Nat.le_of_ble_eq_true rfl⟩ kc_0 clX9 hks rfl rfl (Nat.le_of_ble_eq_true rfl) dL_law_497 ?_
  refine l_aln C dL_law_500 (k := 2) rfl ?_
  refine l_aln C dL_law_501 (k := 0) rfl ?_
  refine l_il C dL_law_502 (k := 4) rfl ?_
  refine l_ic C dL_law_504 ?_
  refine l_iadd C dL_law_505 ?_
  refine l_sld C (by rw [w32_id (by omega)]; omega) dL_law_506 ?_
  refine l_cMi C (st := [.int (qI (r))]) (c_X10_lets C.2.2.1.2 (q_sx xs (w32 (i + 1))) Mm r Mm1 e2) tm_RL_60 mw_X10_lets ⟨rfl, rfl⟩ ⟨Nat.le_of_ble_eq_true rfl, Nat.le_of_ble_eq_true rfl⟩ km_0 clX10 hks rfl rfl (Nat.le_of_ble_eq_true rfl) dL_law_507 ?_
  refine l_ceq C (tgt := 1413) dL_law_510 (by decide) (fun _ => ?_) (fun z => absurd rfl z)
  refine l_widen (Nat.le_succ _) (Nat.le_add_right _ 6) ?_
  exact kk Mc Mm1 hR
theorem lc_law (C : CL p s m c b Ln xs D adC adM cA o) {i : Int} (hi : 0 ≤ i ∧ i + 6 ≤ (Ln : Int)) (hks : kc ≤ 601024 ∧ ks ≤ 7293034) {Rel : Mem → Mem → Prop} (hrel : rs_law Rel) {Mc Mm : Mem} (hRel : Rel Mc Mm) (kk : ∀ Mc1 Mm1, Rel Mc1 Mm1 → WL p l e s m below meth c b D adC adM cA o Q Mc1 Mm1 wo (kc + 1) (ks + 6) 1413 [(0, .ref b), (1, .ref (adC 0)), (2, .ref (adM 0)), (3, .ref o), (4, .int (qI i))] []) : WL p l e s m below meth c b D adC adM cA o Q Mc Mm wo kc ks 515 [(0, .ref b), (1, .ref (adC 0)), (2, .ref (adM 0)), (3, .ref o), (4, .int (qI i))] [] := by
  have hLn := C.2.2.2.2.2.2.2
  refine l_aln C dL_law_515 (k := 1) rfl ?_
  refine l_aln C dL_law_516 (k := 0) rfl ?_
  refine l_il C dL_law_517 (k := 4) rfl ?_
  refine l_ic C dL_law_519 ?_
  refine l_iadd C dL_law_520 ?_
  refine l_sld C (by rw [w32_id (by omega)]; omega) dL_law_521 ?_
  refine l_aln C dL_law_522 (k := 0) rfl ?_
  refine l_il C dL_law_523 (k := 4) rfl ?_
  refine l_ic C dL_law_525 ?_
  refine l_iadd C dL_law_526 ?_
  refine l_sld C (by rw [w32_id (by omega)]; omega) dL_law_527 ?_
  refine l_aln C dL_law_528 (k := 0) rfl ?_
  refine l_il C dL_law_529 (k := 4) rfl ?_
  refine l_ic C dL_law_531 ?_
  refine l_iadd C dL_law_532 ?_
  refine l_sld C (by rw [w32_id (by omega)]; omega) dL_law_533 ?_
  obtain ⟨r, Mc1, Mm1, e1, e2, hR⟩ := hrel Mc Mm (q_sx xs (w32 (i + 1))) (q_sx xs (w32 (i + 2))) (q_sx xs (w32 (i + 3))) hRel (q_sx_in _ _) (q_sx_in _ _) (q_sx_in _ _)
  refine l_cCl C (st := []) (c_X9_law C.2.2.1.1 (q_sx xs (w32 (i + 1))) (q_sx xs (w32 (i + 2))) (q_sx xs (w32 (i + 3))) Mc r Mc1 e1) tm_RL_61 mw_X9_law ⟨rfl, rfl⟩ ⟨Nat.le_of_ble_eq_true rfl, Nat.le_of_ble_eq_true rfl⟩ kc_0 clX9 hks rfl rfl (Nat.le_of_ble_eq_true rfl) dL_law_534 ?_
  refine l_aln C dL_law_537 (k := 2) rfl ?_
  refine l_aln C dL_law_538 (k := 0) rfl ?_
  refine l_il C dL_law_539 (k := 4) rfl ?_
  refine l_ic C dL_law_541 ?_
  refine l_iadd C dL_law_542 ?_
  refine l_sld C (by rw [w32_id (by omega)]; omega) dL_law_543 ?_
  refine l_aln C dL_law_544 (k := 0) rfl ?_
  refine l_il C dL_law_545 (k := 4) rfl ?_
  refine l_ic C dL_law_547 ?_
  refine l_iadd C dL_law_548 ?_
  refine l_sld C (by rw [w32_id (by omega)]; omega) dL_law_549 ?_
  refine l_aln C dL_law_550 (k := 0) rfl ?_
  refine l_il C dL_law_551 (k := 4) rfl ?_
  refine l_ic C dL_law_553 ?_
  refine l_iadd C dL_law_554 ?_
  refine l_sld C (by rw [w32_id (by omega)]; omega) dL_law_555 ?_
  refine l_cMl C (st := [.long (qJ r)]) (c_X10_law C.2.2.1.2 (q_sx xs (w32 (i + 1))) (q_sx xs (w32 (i + 2))) (q_sx xs (w32 (i + 3))) Mm r Mm1 e2) tm_RL_65 mw_X10_law ⟨rfl, rfl⟩ ⟨Nat.le_of_ble_eq_true rfl, Nat.le_of_ble_eq_true rfl⟩ km_0 clX10 hks rfl rfl (Nat.le_of_ble_eq_true rfl) dL_law_556 ?_
  refine l_lcmp C dL_law_559 ?_
  refine l_zeq C (tgt := 1413) dL_law_560 (by decide) (fun _ => ?_) (fun z => absurd (q_cmp_rr r) z)
  refine l_widen (Nat.le_succ _) (Nat.le_add_right _ 6) ?_
  exact kk Mc1 Mm1 hR
theorem lc_move (C : CL p s m c b Ln xs D adC adM cA o) {i : Int} (hi : 0 ≤ i ∧ i + 6 ≤ (Ln : Int)) (hks : kc ≤ 601024 ∧ ks ≤ 7293034) {Rel : Mem → Mem → Prop} (hrel : rs_move Rel) {Mc Mm : Mem} (hRel : Rel Mc Mm) (kk : ∀ Mc1 Mm1, Rel Mc1 Mm1 → WL p l e s m below meth c b D adC adM cA o Q Mc1 Mm1 wo (kc + 1) (ks + 6) 1413 [(0, .ref b), (1, .ref (adC 0)), (2, .ref (adM 0)), (3, .ref o), (4, .int (qI i))] []) : WL p l e s m below meth c b D adC adM cA o Q Mc Mm wo kc ks 565 [(0, .ref b), (1, .ref (adC 0)), (2, .ref (adM 0)), (3, .ref o), (4, .int (qI i))] [] := by
  have hLn := C.2.2.2.2.2.2.2
  refine l_aln C dL_law_565 (k := 1) rfl ?_
  refine l_aln C dL_law_566 (k := 0) rfl ?_
  refine l_il C dL_law_567 (k := 4) rfl ?_
  refine l_ic C dL_law_569 ?_
  refine l_iadd C dL_law_570 ?_
  refine l_sld C (by rw [w32_id (by omega)]; omega) dL_law_571 ?_
  refine l_aln C dL_law_572 (k := 0) rfl ?_
  refine l_il C dL_law_573 (k := 4) rfl ?_
  refine l_ic C dL_law_575 ?_
  refine l_iadd C dL_law_576 ?_
  refine l_sld C (by rw [w32_id (by omega)]; omega) dL_law_577 ?_
  obtain ⟨r, Mc1, Mm1, e1, e2, hR⟩ := hrel Mc Mm (q_sx xs (w32 (i + 1))) (q_sx xs (w32 (i + 2))) hRel (q_sx_in _ _) (q_sx_in _ _)
  refine l_cCi C (st := []) (c_X9_move C.2.2.1.1 (q_sx xs (w32 (i + 1))) (q_sx xs (w32 (i + 2))) Mc r Mc1 e1) tm_RL_66 mw_X9_move ⟨rfl, rfl⟩ ⟨Nat.le_of_ble_eq_true rfl, Nat.le_of_ble_eq_true rfl⟩ kc_0 clX9 hks rfl rfl (Nat.le_of_ble_eq_true rfl) dL_law_578 ?_
  refine l_aln C dL_law_581 (k := 2) rfl ?_
  refine l_aln C dL_law_582 (k := 0) rfl ?_
  refine l_il C dL_law_583 (k := 4) rfl ?_
  refine l_ic C dL_law_585 ?_
  refine l_iadd C dL_law_586 ?_
  refine l_sld C (by rw [w32_id (by omega)]; omega) dL_law_587 ?_
  refine l_aln C dL_law_588 (k := 0) rfl ?_
  refine l_il C dL_law_589 (k := 4) rfl ?_
  refine l_ic C dL_law_591 ?_
  refine l_iadd C dL_law_592 ?_
  refine l_sld C (by rw [w32_id (by omega)]; omega) dL_law_593 ?_
  refine l_cMi C (st := [.int (qI (r))]) (c_X10_move C.2.2.1.2 (q_sx xs (w32 (i + 1))) (q_sx xs (w32 (i + 2))) Mm r Mm1 e2) tm_RL_70 mw_X10_move ⟨rfl, rfl⟩ ⟨Nat.le_of_ble_eq_true rfl, Nat.le_of_ble_eq_true rfl⟩ km_0 clX10 hks rfl rfl (Nat.le_of_ble_eq_true rfl) dL_law_594 ?_
  refine l_ceq C (tgt := 1413) dL_law_597 (by decide) (fun _ => ?_) (fun z => absurd rfl z)
  refine l_widen (Nat.le_succ _) (Nat.le_add_right _ 6) ?_
  exact kk Mc1 Mm1 hR
theorem lc_give (C : CL p s m c b Ln xs D adC adM cA o) {i : Int} (hi : 0 ≤ i ∧ i + 6 ≤ (Ln : Int)) (hks : kc ≤ 601024 ∧ ks ≤ 7293034) {Rel : Mem → Mem → Prop} (hrel : rs_give Rel) {Mc Mm : Mem} (hRel : Rel Mc Mm) (kk : ∀ Mc1 Mm1, Rel Mc1 Mm1 → WL p l e s m below meth c b D adC adM cA o Q Mc1 Mm1 wo (kc + 1) (ks + 6) 1413 [(0, .ref b), (1, .ref (adC 0)), (2, .ref (adM 0)), (3, .ref o), (4, .int (qI i))] []) : WL p l e s m below meth c b D adC adM cA o Q Mc Mm wo kc ks 602 [(0, .ref b), (1, .ref (adC 0)), (2, .ref (adM 0)), (3, .ref o), (4, .int (qI i))] [] := by
  have hLn := C.2.2.2.2.2.2.2
  refine l_aln C dL_law_602 (k := 1) rfl ?_
  refine l_aln C dL_law_603 (k := 0) rfl ?_
  refine l_il C dL_law_604 (k := 4) rfl ?_
  refine l_ic C dL_law_606 ?_
  refine l_iadd C dL_law_607 ?_
  refine l_sld C (by rw [w32_id (by omega)]; omega) dL_law_608 ?_
  refine l_aln C dL_law_609 (k := 0) rfl ?_
  refine l_il C dL_law_610 (k := 4) rfl ?_
  refine l_ic C dL_law_612 ?_
  refine l_iadd C dL_law_613 ?_
  refine l_sld C (by rw [w32_id (by omega)]; omega) dL_law_614 ?_
  obtain ⟨r, Mc1, Mm1, e1, e2, hR⟩ := hrel Mc Mm (q_sx xs (w32 (i + 1))) (q_sx xs (w32 (i + 2))) hRel (q_sx_in _ _) (q_sx_in _ _)
  refine l_cCi C (st := []) (c_X9_give C.2.2.1.1 (q_sx xs (w32 (i + 1))) (q_sx xs (w32 (i + 2))) Mc r Mc1 e1) tm_RL_71 mw_X9_give ⟨rfl, rfl⟩ ⟨Nat.le_of_ble_eq_true rfl, Nat.le_of_ble_eq_true rfl⟩ kc_0 clX9 hks rfl rfl (Nat.le_of_ble_eq_true rfl) dL_law_615 ?_
  refine l_aln C dL_law_618 (k := 2) rfl ?_
  refine l_aln C dL_law_619 (k := 0) rfl ?_
  refine l_il C dL_law_620 (k := 4) rfl ?_
  refine l_ic C dL_law_622 ?_
  refine l_iadd C dL_law_623 ?_
  refine l_sld C (by rw [w32_id (by omega)]; omega) dL_law_624 ?_
  refine l_aln C dL_law_625 (k := 0) rfl ?_
  refine l_il C dL_law_626 (k := 4) rfl ?_
  refine l_ic C dL_law_628 ?_
  refine l_iadd C dL_law_629 ?_
  refine l_sld C (by rw [w32_id (by omega)]; omega) dL_law_630 ?_
  refine l_cMi C (st := [.int (qI (r))]) (c_X10_give C.2.2.1.2 (q_sx xs (w32 (i + 1))) (q_sx xs (w32 (i + 2))) Mm r Mm1 e2) tm_RL_74 mw_X10_give ⟨rfl, rfl⟩ ⟨Nat.le_of_ble_eq_true rfl, Nat.le_of_ble_eq_true rfl⟩ km_0 clX10 hks rfl rfl (Nat.le_of_ble_eq_true rfl) dL_law_631 ?_
  refine l_ceq C (tgt := 1413) dL_law_634 (by decide) (fun _ => ?_) (fun z => absurd rfl z)
  refine l_widen (Nat.le_succ _) (Nat.le_add_right _ 6) ?_
  exact kk Mc1 Mm1 hR
theorem lc_off (C : CL p s m c b Ln xs D adC adM cA o) {i : Int} (hi : 0 ≤ i ∧ i + 6 ≤ (Ln : Int)) (hks : kc ≤ 601024 ∧ ks ≤ 7293034) {Rel : Mem → Mem → Prop} (hrel : rs_off Rel) {Mc Mm : Mem} (hRel : Rel Mc Mm) (kk : ∀ Mc1 Mm1, Rel Mc1 Mm1 → WL p l e s m below meth c b D adC adM cA o Q Mc1 Mm1 wo (kc + 1) (ks + 6) 1413 [(0, .ref b), (1, .ref (adC 0)), (2, .ref (adM 0)), (3, .ref o), (4, .int (qI i))] []) : WL p l e s m below meth c b D adC adM cA o Q Mc Mm wo kc ks 639 [(0, .ref b), (1, .ref (adC 0)), (2, .ref (adM 0)), (3, .ref o), (4, .int (qI i))] [] := by
  have hLn := C.2.2.2.2.2.2.2
  refine l_aln C dL_law_639 (k := 1) rfl ?_
  refine l_aln C dL_law_640 (k := 0) rfl ?_
  refine l_il C dL_law_641 (k := 4) rfl ?_
  refine l_ic C dL_law_643 ?_
  refine l_iadd C dL_law_644 ?_
  refine l_sld C (by rw [w32_id (by omega)]; omega) dL_law_645 ?_
  obtain ⟨r, Mc1, Mm1, e1, e2, hR⟩ := hrel Mc Mm (q_sx xs (w32 (i + 1))) hRel (q_sx_in _ _)
  refine l_cCi C (st := []) (c_X9_off C.2.2.1.1 (q_sx xs (w32 (i + 1))) Mc r Mc1 e1) tm_RL_75 mw_X9_off ⟨rfl, rfl⟩ ⟨Nat.le_of_ble_eq_true rfl, Nat.le_of_ble_eq_true rfl⟩ kc_0 clX9 hks rfl rfl (Nat.le_of_ble_eq_true rfl) dL_law_646 ?_
  refine l_aln C dL_law_649 (k := 2) rfl ?_
  refine l_aln C dL_law_650 (k := 0) rfl ?_
  refine l_il C dL_law_651 (k := 4) rfl ?_
  refine l_ic C dL_law_653 ?_
  refine l_iadd C dL_law_654 ?_
  refine l_sld C (by rw [w32_id (by omega)]; omega) dL_law_655 ?_
  refine l_cMi C (st := [.int (qI (r))]) (c_X10_off C.2.2.1.2 (q_sx xs (w32 (i + 1))) Mm r Mm1 e2) tm_RL_78 mw_X10_off ⟨rfl, rfl⟩ ⟨Nat.le_of_ble_eq_true rfl, Nat.le_of_ble_eq_true rfl⟩ km_0 clX10 hks rfl rfl (Nat.le_of_ble_eq_true rfl) dL_law_656 ?_
  refine l_ceq C (tgt := 1413) dL_law_659 (by decide) (fun _ => ?_) (fun z => absurd rfl z)
  refine l_widen (Nat.le_succ _) (Nat.le_add_right _ 6) ?_
  exact kk Mc1 Mm1 hR
theorem lc_go (C : CL p s m c b Ln xs D adC adM cA o) {i : Int} (hi : 0 ≤ i ∧ i + 6 ≤ (Ln : Int)) (hks : kc ≤ 601024 ∧ ks ≤ 7293034) {Rel : Mem → Mem → Prop} (hrel : rs_go Rel) {Mc Mm : Mem} (hRel : Rel Mc Mm) (kk : ∀ Mc1 Mm1, Rel Mc1 Mm1 → WL p l e s m below meth c b D adC adM cA o Q Mc1 Mm1 wo (kc + 1) (ks + 6) 1413 [(0, .ref b), (1, .ref (adC 0)), (2, .ref (adM 0)), (3, .ref o), (4, .int (qI i))] []) : WL p l e s m below meth c b D adC adM cA o Q Mc Mm wo kc ks 664 [(0, .ref b), (1, .ref (adC 0)), (2, .ref (adM 0)), (3, .ref o), (4, .int (qI i))] [] := by
  have hLn := C.2.2.2.2.2.2.2
  refine l_aln C dL_law_664 (k := 1) rfl ?_
  refine l_aln C dL_law_665 (k := 0) rfl ?_
  refine l_il C dL_law_666 (k := 4) rfl ?_
  refine l_ic C dL_law_668 ?_
  refine l_iadd C dL_law_669 ?_
  refine l_sld C (by rw [w32_id (by omega)]; omega) dL_law_670 ?_
  obtain ⟨r, Mc1, Mm1, e1, e2, hR⟩ := hrel Mc Mm (q_sx xs (w32 (i + 1))) hRel (q_sx_in _ _)
  refine l_cCi C (st := []) (c_X9_go C.2.2.1.1 (q_sx xs (w32 (i + 1))) Mc r Mc1 e1) tm_RL_79 mw_X9_go ⟨rfl, rfl⟩ ⟨Nat.le_of_ble_eq_true rfl, Nat.le_of_ble_eq_true rfl⟩ kc_0 clX9 hks rfl rfl (Nat.le_of_ble_eq_true rfl) dL_law_671 ?_
  refine l_aln C dL_law_674 (k := 2) rfl ?_
  refine l_aln C dL_law_675 (k := 0) rfl ?_
  refine l_il C dL_law_676 (k := 4) rfl ?_
  refine l_ic C dL_law_678 ?_
  refine l_iadd C dL_law_679 ?_
  refine l_sld C (by rw [w32_id (by omega)]; omega) dL_law_680 ?_
  refine l_cMi C (st := [.int (qI (r))]) (c_X10_go C.2.2.1.2 (q_sx xs (w32 (i + 1))) Mm r Mm1 e2) tm_RL_82 mw_X10_go ⟨rfl, rfl⟩ ⟨Nat.le_of_ble_eq_true rfl, Nat.le_of_ble_eq_true rfl⟩ km_0 clX10 hks rfl rfl (Nat.le_of_ble_eq_true rfl) dL_law_681 ?_
  refine l_ceq C (tgt := 1413) dL_law_684 (by decide) (fun _ => ?_) (fun z => absurd rfl z)
  refine l_widen (Nat.le_succ _) (Nat.le_add_right _ 6) ?_
  exact kk Mc1 Mm1 hR
theorem lc_ahead (C : CL p s m c b Ln xs D adC adM cA o) {i : Int} (hi : 0 ≤ i ∧ i + 6 ≤ (Ln : Int)) (hks : kc ≤ 601024 ∧ ks ≤ 7293034) {Rel : Mem → Mem → Prop} (hrel : rs_ahead Rel) {Mc Mm : Mem} (hRel : Rel Mc Mm) (kk : ∀ Mc1 Mm1, Rel Mc1 Mm1 → WL p l e s m below meth c b D adC adM cA o Q Mc1 Mm1 wo (kc + 1) (ks + 6) 1413 [(0, .ref b), (1, .ref (adC 0)), (2, .ref (adM 0)), (3, .ref o), (4, .int (qI i))] []) : WL p l e s m below meth c b D adC adM cA o Q Mc Mm wo kc ks 689 [(0, .ref b), (1, .ref (adC 0)), (2, .ref (adM 0)), (3, .ref o), (4, .int (qI i))] [] := by
  have hLn := C.2.2.2.2.2.2.2
  refine l_aln C dL_law_689 (k := 1) rfl ?_
  refine l_aln C dL_law_690 (k := 0) rfl ?_
  refine l_il C dL_law_691 (k := 4) rfl ?_
  refine l_ic C dL_law_693 ?_
  refine l_iadd C dL_law_694 ?_
  refine l_sld C (by rw [w32_id (by omega)]; omega) dL_law_695 ?_
  refine l_aln C dL_law_696 (k := 0) rfl ?_
  refine l_il C dL_law_697 (k := 4) rfl ?_
  refine l_ic C dL_law_699 ?_
  refine l_iadd C dL_law_700 ?_
  refine l_sld C (by rw [w32_id (by omega)]; omega) dL_law_701 ?_
  refine l_aln C dL_law_702 (k := 0) rfl ?_
  refine l_il C dL_law_703 (k := 4) rfl ?_
  refine l_ic C dL_law_705 ?_
  refine l_iadd C dL_law_706 ?_
  refine l_sld C (by rw [w32_id (by omega)]; omega) dL_law_707 ?_
  obtain ⟨r, Mc1, Mm1, e1, e2, hR⟩ := hrel Mc Mm (q_sx xs (w32 (i + 1))) (q_sx xs (w32 (i + 2))) (q_sx xs (w32 (i + 3))) hRel (q_sx_in _ _) (q_sx_in _ _) (q_sx_in _ _)
  refine l_cCi C (st := []) (c_X9_ahead C.2.2.1.1 (q_sx xs (w32 (i + 1))) (q_sx xs (w32 (i + 2))) (q_sx xs (w32 (i + 3))) Mc r Mc1 e1) tm_RL_83 mw_X9_ahead ⟨rfl, rfl⟩ ⟨Nat.le_of_ble_eq_true rfl, Nat.le_of_ble_eq_true rfl⟩ kc_0 clX9 hks rfl rfl (Nat.le_of_ble_eq_true rfl) dL_law_708 ?_
  refine l_aln C dL_law_711 (k := 2) rfl ?_
  refine l_aln C dL_law_712 (k := 0) rfl ?_
  refine l_il C dL_law_713 (k := 4) rfl ?_
  refine l_ic C dL_law_715 ?_
  refine l_iadd C dL_law_716 ?_
  refine l_sld C (by rw [w32_id (by omega)]; omega) dL_law_717 ?_
  refine l_aln C dL_law_718 (k := 0) rfl ?_
  refine l_il C dL_law_719 (k := 4) rfl ?_
  refine l_ic C dL_law_721 ?_
  refine l_iadd C dL_law_722 ?_
  refine l_sld C (by rw [w32_id (by omega)]; omega) dL_law_723 ?_
  refine l_aln C dL_law_724 (k := 0) rfl ?_
  refine l_il C dL_law_725 (k := 4) rfl ?_
  refine l_ic C dL_law_727 ?_
  refine l_iadd C dL_law_728 ?_
  refine l_sld C (by rw [w32_id (by omega)]; omega) dL_law_729 ?_
  refine l_cMi C (st := [.int (qI (r))]) (c_X10_ahead C.2.2.1.2 (q_sx xs (w32 (i + 1))) (q_sx xs (w32 (i + 2))) (q_sx xs (w32 (i + 3))) Mm r Mm1 e2) tm_RL_87 mw_X10_ahead ⟨rfl, rfl⟩ ⟨Nat.le_of_ble_eq_true rfl, Nat.le_of_ble_eq_true rfl⟩ km_0 clX10 hks rfl rfl (Nat.le_of_ble_eq_true rfl) dL_law_730 ?_
  refine l_ceq C (tgt := 1413) dL_law_733 (by decide) (fun _ => ?_) (fun z => absurd rfl z)
  refine l_widen (Nat.le_succ _) (Nat.le_add_right _ 6) ?_
  exact kk Mc1 Mm1 hR
theorem lc_next (C : CL p s m c b Ln xs D adC adM cA o) {i : Int} (hi : 0 ≤ i ∧ i + 6 ≤ (Ln : Int)) (hks : kc ≤ 601024 ∧ ks ≤ 7293034) {Rel : Mem → Mem → Prop} (hrel : rs_next Rel) {Mc Mm : Mem} (hRel : Rel Mc Mm) (kk : ∀ Mc1 Mm1, Rel Mc1 Mm1 → WL p l e s m below meth c b D adC adM cA o Q Mc1 Mm1 wo (kc + 1) (ks + 6) 1413 [(0, .ref b), (1, .ref (adC 0)), (2, .ref (adM 0)), (3, .ref o), (4, .int (qI i))] []) : WL p l e s m below meth c b D adC adM cA o Q Mc Mm wo kc ks 738 [(0, .ref b), (1, .ref (adC 0)), (2, .ref (adM 0)), (3, .ref o), (4, .int (qI i))] [] := by
  have hLn := C.2.2.2.2.2.2.2
  refine l_aln C dL_law_738 (k := 1) rfl ?_
  refine l_aln C dL_law_739 (k := 0) rfl ?_
  refine l_il C dL_law_740 (k := 4) rfl ?_
  refine l_ic C dL_law_742 ?_
  refine l_iadd C dL_law_743 ?_
  refine l_sld C (by rw [w32_id (by omega)]; omega) dL_law_744 ?_
  obtain ⟨r, Mm1, e1, e2, hR⟩ := hrel Mc Mm (q_sx xs (w32 (i + 1))) hRel (q_sx_in _ _)
  refine l_cCi C (st := []) (c_X9_next C.2.2.1.1 (q_sx xs (w32 (i + 1))) Mc r  e1) tm_RL_88 mw_X9_next ⟨rfl, rfl⟩ ⟨Nat.le_of_ble_eq_true rfl, Nat.le_of_ble_eq_true rfl⟩ kc_0 clX9 hks rfl rfl (Nat.le_of_ble_eq_true rfl) dL_law_745 ?_
  refine l_aln C dL_law_748 (k := 2) rfl ?_
  refine l_aln C dL_law_749 (k := 0) rfl ?_
  refine l_il C dL_law_750 (k := 4) rfl ?_
  refine l_ic C dL_law_752 ?_
  refine l_iadd C dL_law_753 ?_
  refine l_sld C (by rw [w32_id (by omega)]; omega) dL_law_754 ?_
  refine l_cMi C (st := [.int (qI (r))]) (c_X10_next C.2.2.1.2 (q_sx xs (w32 (i + 1))) Mm r Mm1 e2) tm_RL_91 mw_X10_next ⟨rfl, rfl⟩ ⟨Nat.le_of_ble_eq_true rfl, Nat.le_of_ble_eq_true rfl⟩ km_0 clX10 hks rfl rfl (Nat.le_of_ble_eq_true rfl) dL_law_755 ?_
  refine l_ceq C (tgt := 1413) dL_law_758 (by decide) (fun _ => ?_) (fun z => absurd rfl z)
  refine l_widen (Nat.le_succ _) (Nat.le_add_right _ 6) ?_
  exact kk Mc Mm1 hR
theorem lc_meet (C : CL p s m c b Ln xs D adC adM cA o) {i : Int} (hi : 0 ≤ i ∧ i + 6 ≤ (Ln : Int)) (hks : kc ≤ 601024 ∧ ks ≤ 7293034) {Rel : Mem → Mem → Prop} (hrel : rs_meet Rel) {Mc Mm : Mem} (hRel : Rel Mc Mm) (kk : ∀ Mc1 Mm1, Rel Mc1 Mm1 → WL p l e s m below meth c b D adC adM cA o Q Mc1 Mm1 wo (kc + 1) (ks + 6) 1413 [(0, .ref b), (1, .ref (adC 0)), (2, .ref (adM 0)), (3, .ref o), (4, .int (qI i))] []) : WL p l e s m below meth c b D adC adM cA o Q Mc Mm wo kc ks 763 [(0, .ref b), (1, .ref (adC 0)), (2, .ref (adM 0)), (3, .ref o), (4, .int (qI i))] [] := by
  have hLn := C.2.2.2.2.2.2.2
  refine l_aln C dL_law_763 (k := 1) rfl ?_
  refine l_aln C dL_law_764 (k := 0) rfl ?_
  refine l_il C dL_law_765 (k := 4) rfl ?_
  refine l_ic C dL_law_767 ?_
  refine l_iadd C dL_law_768 ?_
  refine l_sld C (by rw [w32_id (by omega)]; omega) dL_law_769 ?_
  refine l_aln C dL_law_770 (k := 0) rfl ?_
  refine l_il C dL_law_771 (k := 4) rfl ?_
  refine l_ic C dL_law_773 ?_
  refine l_iadd C dL_law_774 ?_
  refine l_sld C (by rw [w32_id (by omega)]; omega) dL_law_775 ?_
  obtain ⟨r, Mm1, e1, e2, hR⟩ := hrel Mc Mm (q_sx xs (w32 (i + 1))) (q_sx xs (w32 (i + 2))) hRel (q_sx_in _ _) (q_sx_in _ _)
  refine l_cCi C (st := []) (c_X9_meet C.2.2.1.1 (q_sx xs (w32 (i + 1))) (q_sx xs (w32 (i + 2))) Mc r  e1) tm_RL_92 mw_X9_meet ⟨rfl, rfl⟩ ⟨Nat.le_of_ble_eq_true rfl, Nat.le_of_ble_eq_true rfl⟩ kc_0 clX9 hks rfl rfl (Nat.le_of_ble_eq_true rfl) dL_law_776 ?_
  refine l_aln C dL_law_779 (k := 2) rfl ?_
  refine l_aln C dL_law_780 (k := 0) rfl ?_
  refine l_il C dL_law_781 (k := 4) rfl ?_
  refine l_ic C dL_law_783 ?_
  refine l_iadd C dL_law_784 ?_
  refine l_sld C (by rw [w32_id (by omega)]; omega) dL_law_785 ?_
  refine l_aln C dL_law_786 (k := 0) rfl ?_
  refine l_il C dL_law_787 (k := 4) rfl ?_
  refine l_ic C dL_law_789 ?_
  refine l_iadd C dL_law_790 ?_
  refine l_sld C (by rw [w32_id (by omega)]; omega) dL_law_791 ?_
  refine l_cMi C (st := [.int (qI (r))]) (c_X10_meet C.2.2.1.2 (q_sx xs (w32 (i + 1))) (q_sx xs (w32 (i + 2))) Mm r Mm1 e2) tm_RL_95 mw_X10_meet ⟨rfl, rfl⟩ ⟨Nat.le_of_ble_eq_true rfl, Nat.le_of_ble_eq_true rfl⟩ km_0 clX10 hks rfl rfl (Nat.le_of_ble_eq_true rfl) dL_law_792 ?_
  refine l_ceq C (tgt := 1413) dL_law_795 (by decide) (fun _ => ?_) (fun z => absurd rfl z)
  refine l_widen (Nat.le_succ _) (Nat.le_add_right _ 6) ?_
  exact kk Mc Mm1 hR
theorem lc_goes (C : CL p s m c b Ln xs D adC adM cA o) {i : Int} (hi : 0 ≤ i ∧ i + 6 ≤ (Ln : Int)) (hks : kc ≤ 601024 ∧ ks ≤ 7293034) {Rel : Mem → Mem → Prop} (hrel : rs_goes Rel) {Mc Mm : Mem} (hRel : Rel Mc Mm) (kk : ∀ Mc1 Mm1, Rel Mc1 Mm1 → WL p l e s m below meth c b D adC adM cA o Q Mc1 Mm1 wo (kc + 1) (ks + 6) 1413 [(0, .ref b), (1, .ref (adC 0)), (2, .ref (adM 0)), (3, .ref o), (4, .int (qI i))] []) : WL p l e s m below meth c b D adC adM cA o Q Mc Mm wo kc ks 800 [(0, .ref b), (1, .ref (adC 0)), (2, .ref (adM 0)), (3, .ref o), (4, .int (qI i))] [] := by
  have hLn := C.2.2.2.2.2.2.2
  refine l_aln C dL_law_800 (k := 1) rfl ?_
  refine l_aln C dL_law_801 (k := 0) rfl ?_
  refine l_il C dL_law_802 (k := 4) rfl ?_
  refine l_ic C dL_law_804 ?_
  refine l_iadd C dL_law_805 ?_
  refine l_sld C (by rw [w32_id (by omega)]; omega) dL_law_806 ?_
  obtain ⟨r, Mc1, Mm1, e1, e2, hR⟩ := hrel Mc Mm (q_sx xs (w32 (i + 1))) hRel (q_sx_in _ _)
  refine l_cCi C (st := []) (c_X9_goes C.2.2.1.1 (q_sx xs (w32 (i + 1))) Mc r Mc1 e1) tm_RL_96 mw_X9_goes ⟨rfl, rfl⟩ ⟨Nat.le_of_ble_eq_true rfl, Nat.le_of_ble_eq_true rfl⟩ kc_0 clX9 hks rfl rfl (Nat.le_of_ble_eq_true rfl) dL_law_807 ?_
  refine l_aln C dL_law_810 (k := 2) rfl ?_
  refine l_aln C dL_law_811 (k := 0) rfl ?_
  refine l_il C dL_law_812 (k := 4) rfl ?_
  refine l_ic C dL_law_814 ?_
  refine l_iadd C dL_law_815 ?_
  refine l_sld C (by rw [w32_id (by omega)]; omega) dL_law_816 ?_
  refine l_cMi C (st := [.int (qI (r))]) (c_X10_goes C.2.2.1.2 (q_sx xs (w32 (i + 1))) Mm r Mm1 e2) tm_RL_99 mw_X10_goes ⟨rfl, rfl⟩ ⟨Nat.le_of_ble_eq_true rfl, Nat.le_of_ble_eq_true rfl⟩ km_0 clX10 hks rfl rfl (Nat.le_of_ble_eq_true rfl) dL_law_817 ?_
  refine l_ceq C (tgt := 1413) dL_law_820 (by decide) (fun _ => ?_) (fun z => absurd rfl z)
  refine l_widen (Nat.le_succ _) (Nat.le_add_right _ 6) ?_
  exact kk Mc1 Mm1 hR
theorem lc_empty (C : CL p s m c b Ln xs D adC adM cA o) {i : Int} (hi : 0 ≤ i ∧ i + 6 ≤ (Ln : Int)) (hks : kc ≤ 601024 ∧ ks ≤ 7293034) {Rel : Mem → Mem → Prop} (hrel : rs_empty Rel) {Mc Mm : Mem} (hRel : Rel Mc Mm) (kk : ∀ Mc1 Mm1, Rel Mc1 Mm1 → WL p l e s m below meth c b D adC adM cA o Q Mc1 Mm1 wo (kc + 1) (ks + 6) 1413 [(0, .ref b), (1, .ref (adC 0)), (2, .ref (adM 0)), (3, .ref o), (4, .int (qI i))] []) : WL p l e s m below meth c b D adC adM cA o Q Mc Mm wo kc ks 825 [(0, .ref b), (1, .ref (adC 0)), (2, .ref (adM 0)), (3, .ref o), (4, .int (qI i))] [] := by
  have hLn := C.2.2.2.2.2.2.2
  refine l_aln C dL_law_825 (k := 1) rfl ?_
  obtain ⟨r, Mc1, Mm1, e1, e2, hR⟩ := hrel Mc Mm  hRel 
  refine l_cCi C (st := []) (c_X9_empty C.2.2.1.1  Mc r Mc1 e1) tm_RL_100 mw_X9_empty ⟨rfl, rfl⟩ ⟨Nat.le_of_ble_eq_true rfl, Nat.le_of_ble_eq_true rfl⟩ kc_0 clX9 hks rfl rfl (Nat.le_of_ble_eq_true rfl) dL_law_826 ?_
  refine l_aln C dL_law_829 (k := 2) rfl ?_
  refine l_cMi C (st := [.int (qI (r))]) (c_X10_empty C.2.2.1.2  Mm r Mm1 e2) tm_RL_103 mw_X10_empty ⟨rfl, rfl⟩ ⟨Nat.le_of_ble_eq_true rfl, Nat.le_of_ble_eq_true rfl⟩ km_0 clX10 hks rfl rfl (Nat.le_of_ble_eq_true rfl) dL_law_830 ?_
  refine l_ceq C (tgt := 1413) dL_law_833 (by decide) (fun _ => ?_) (fun z => absurd rfl z)
  refine l_widen (Nat.le_succ _) (Nat.le_add_right _ 6) ?_
  exact kk Mc1 Mm1 hR
theorem lc_order (C : CL p s m c b Ln xs D adC adM cA o) {i : Int} (hi : 0 ≤ i ∧ i + 6 ≤ (Ln : Int)) (hks : kc ≤ 601024 ∧ ks ≤ 7293034) {Rel : Mem → Mem → Prop} (hrel : rs_order Rel) {Mc Mm : Mem} (hRel : Rel Mc Mm) (kk : ∀ Mc1 Mm1, Rel Mc1 Mm1 → WL p l e s m below meth c b D adC adM cA o Q Mc1 Mm1 wo (kc + 1) (ks + 6) 1413 [(0, .ref b), (1, .ref (adC 0)), (2, .ref (adM 0)), (3, .ref o), (4, .int (qI i))] []) : WL p l e s m below meth c b D adC adM cA o Q Mc Mm wo kc ks 838 [(0, .ref b), (1, .ref (adC 0)), (2, .ref (adM 0)), (3, .ref o), (4, .int (qI i))] [] := by
  have hLn := C.2.2.2.2.2.2.2
  refine l_aln C dL_law_838 (k := 1) rfl ?_
  refine l_aln C dL_law_839 (k := 0) rfl ?_
  refine l_il C dL_law_840 (k := 4) rfl ?_
  refine l_ic C dL_law_842 ?_
  refine l_iadd C dL_law_843 ?_
  refine l_sld C (by rw [w32_id (by omega)]; omega) dL_law_844 ?_
  obtain ⟨r, Mc1, Mm1, e1, e2, hR⟩ := hrel Mc Mm (q_sx xs (w32 (i + 1))) hRel (q_sx_in _ _)
  refine l_cCi C (st := []) (c_X9_order C.2.2.1.1 (q_sx xs (w32 (i + 1))) Mc r Mc1 e1) tm_RL_104 mw_X9_order ⟨rfl, rfl⟩ ⟨Nat.le_of_ble_eq_true rfl, Nat.le_of_ble_eq_true rfl⟩ kc_0 clX9 hks rfl rfl (Nat.le_of_ble_eq_true rfl) dL_law_845 ?_
  refine l_aln C dL_law_848 (k := 2) rfl ?_
  refine l_aln C dL_law_849 (k := 0) rfl ?_
  refine l_il C dL_law_850 (k := 4) rfl ?_
  refine l_ic C dL_law_852 ?_
  refine l_iadd C dL_law_853 ?_
  refine l_sld C (by rw [w32_id (by omega)]; omega) dL_law_854 ?_
  refine l_cMi C (st := [.int (qI (r))]) (c_X10_order C.2.2.1.2 (q_sx xs (w32 (i + 1))) Mm r Mm1 e2) tm_RL_107 mw_X10_order ⟨rfl, rfl⟩ ⟨Nat.le_of_ble_eq_true rfl, Nat.le_of_ble_eq_true rfl⟩ km_0 clX10 hks rfl rfl (Nat.le_of_ble_eq_true rfl) dL_law_855 ?_
  refine l_ceq C (tgt := 1413) dL_law_858 (by decide) (fun _ => ?_) (fun z => absurd rfl z)
  refine l_widen (Nat.le_succ _) (Nat.le_add_right _ 6) ?_
  exact kk Mc1 Mm1 hR
theorem lc_trips (C : CL p s m c b Ln xs D adC adM cA o) {i : Int} (hi : 0 ≤ i ∧ i + 6 ≤ (Ln : Int)) (hks : kc ≤ 601024 ∧ ks ≤ 7293034) {Rel : Mem → Mem → Prop} (hrel : rs_trips Rel) {Mc Mm : Mem} (hRel : Rel Mc Mm) (kk : ∀ Mc1 Mm1, Rel Mc1 Mm1 → WL p l e s m below meth c b D adC adM cA o Q Mc1 Mm1 wo (kc + 1) (ks + 6) 1413 [(0, .ref b), (1, .ref (adC 0)), (2, .ref (adM 0)), (3, .ref o), (4, .int (qI i))] []) : WL p l e s m below meth c b D adC adM cA o Q Mc Mm wo kc ks 863 [(0, .ref b), (1, .ref (adC 0)), (2, .ref (adM 0)), (3, .ref o), (4, .int (qI i))] [] := by
  have hLn := C.2.2.2.2.2.2.2
  refine l_aln C dL_law_863 (k := 1) rfl ?_
  refine l_aln C dL_law_864 (k := 0) rfl ?_
  refine l_il C dL_law_865 (k := 4) rfl ?_
  refine l_ic C dL_law_867 ?_
  refine l_iadd C dL_law_868 ?_
  refine l_sld C (by rw [w32_id (by omega)]; omega) dL_law_869 ?_
  obtain ⟨r, Mc1, Mm1, e1, e2, hR⟩ := hrel Mc Mm (q_sx xs (w32 (i + 1))) hRel (q_sx_in _ _)
  refine l_cCi C (st := []) (c_X9_trips C.2.2.1.1 (q_sx xs (w32 (i + 1))) Mc r Mc1 e1) tm_RL_108 mw_X9_trips ⟨rfl, rfl⟩ ⟨Nat.le_of_ble_eq_true rfl, Nat.le_of_ble_eq_true rfl⟩ kc_0 clX9 hks rfl rfl (Nat.le_of_ble_eq_true rfl) dL_law_870 ?_
  refine l_aln C dL_law_873 (k := 2) rfl ?_
  refine l_aln C dL_law_874 (k := 0) rfl ?_
  refine l_il C dL_law_875 (k := 4) rfl ?_
  refine l_ic C dL_law_877 ?_
  refine l_iadd C dL_law_878 ?_
  refine l_sld C (by rw [w32_id (by omega)]; omega) dL_law_879 ?_
  refine l_cMi C (st := [.int (qI (r))]) (c_X10_trips C.2.2.1.2 (q_sx xs (w32 (i + 1))) Mm r Mm1 e2) tm_RL_111 mw_X10_trips ⟨rfl, rfl⟩ ⟨Nat.le_of_ble_eq_true rfl, Nat.le_of_ble_eq_true rfl⟩ km_0 clX10 hks rfl rfl (Nat.le_of_ble_eq_true rfl) dL_law_880 ?_
  refine l_ceq C (tgt := 1413) dL_law_883 (by decide) (fun _ => ?_) (fun z => absurd rfl z)
  refine l_widen (Nat.le_succ _) (Nat.le_add_right _ 6) ?_
  exact kk Mc1 Mm1 hR
theorem lc_match (C : CL p s m c b Ln xs D adC adM cA o) {i : Int} (hi : 0 ≤ i ∧ i + 6 ≤ (Ln : Int)) (hks : kc ≤ 601024 ∧ ks ≤ 7293034) {Rel : Mem → Mem → Prop} (hrel : rs_match Rel) {Mc Mm : Mem} (hRel : Rel Mc Mm) (kk : ∀ Mc1 Mm1, Rel Mc1 Mm1 → WL p l e s m below meth c b D adC adM cA o Q Mc1 Mm1 wo (kc + 1) (ks + 6) 1413 [(0, .ref b), (1, .ref (adC 0)), (2, .ref (adM 0)), (3, .ref o), (4, .int (qI i))] []) : WL p l e s m below meth c b D adC adM cA o Q Mc Mm wo kc ks 888 [(0, .ref b), (1, .ref (adC 0)), (2, .ref (adM 0)), (3, .ref o), (4, .int (qI i))] [] := by
  have hLn := C.2.2.2.2.2.2.2
  refine l_aln C dL_law_888 (k := 1) rfl ?_
  refine l_aln C dL_law_889 (k := 0) rfl ?_
  refine l_il C dL_law_890 (k := 4) rfl ?_
  refine l_ic C dL_law_892 ?_
  refine l_iadd C dL_law_893 ?_
  refine l_sld C (by rw [w32_id (by omega)]; omega) dL_law_894 ?_
  obtain ⟨r, Mc1, Mm1, e1, e2, hR⟩ := hrel Mc Mm (q_sx xs (w32 (i + 1))) hRel (q_sx_in _ _)
  refine l_cCi C (st := []) (c_X9_match C.2.2.1.1 (q_sx xs (w32 (i + 1))) Mc r Mc1 e1) tm_RL_112 mw_X9_match ⟨rfl, rfl⟩ ⟨Nat.le_of_ble_eq_true rfl, Nat.le_of_ble_eq_true rfl⟩ kc_0 clX9 hks rfl rfl (Nat.le_of_ble_eq_true rfl) dL_law_895 ?_
  refine l_aln C dL_law_898 (k := 2) rfl ?_
  refine l_aln C dL_law_899 (k := 0) rfl ?_
  refine l_il C dL_law_900 (k := 4) rfl ?_
  refine l_ic C dL_law_902 ?_
  refine l_iadd C dL_law_903 ?_
  refine l_sld C (by rw [w32_id (by omega)]; omega) dL_law_904 ?_
  refine l_cMi C (st := [.int (qI (r))]) (c_X10_match C.2.2.1.2 (q_sx xs (w32 (i + 1))) Mm r Mm1 e2) tm_RL_115 mw_X10_match ⟨rfl, rfl⟩ ⟨Nat.le_of_ble_eq_true rfl, Nat.le_of_ble_eq_true rfl⟩ km_0 clX10 hks rfl rfl (Nat.le_of_ble_eq_true rfl) dL_law_905 ?_
  refine l_ceq C (tgt := 1413) dL_law_908 (by decide) (fun _ => ?_) (fun z => absurd rfl z)
  refine l_widen (Nat.le_succ _) (Nat.le_add_right _ 6) ?_
  exact kk Mc1 Mm1 hR
theorem lc_coins (C : CL p s m c b Ln xs D adC adM cA o) {i : Int} (hi : 0 ≤ i ∧ i + 6 ≤ (Ln : Int)) (hks : kc ≤ 601024 ∧ ks ≤ 7293034) {Rel : Mem → Mem → Prop} (hrel : rs_coins Rel) {Mc Mm : Mem} (hRel : Rel Mc Mm) (kk : ∀ Mc1 Mm1, Rel Mc1 Mm1 → WL p l e s m below meth c b D adC adM cA o Q Mc1 Mm1 wo (kc + 1) (ks + 6) 1413 [(0, .ref b), (1, .ref (adC 0)), (2, .ref (adM 0)), (3, .ref o), (4, .int (qI i))] []) : WL p l e s m below meth c b D adC adM cA o Q Mc Mm wo kc ks 913 [(0, .ref b), (1, .ref (adC 0)), (2, .ref (adM 0)), (3, .ref o), (4, .int (qI i))] [] := by
  have hLn := C.2.2.2.2.2.2.2
  refine l_aln C dL_law_913 (k := 1) rfl ?_
  refine l_aln C dL_law_914 (k := 0) rfl ?_
  refine l_il C dL_law_915 (k := 4) rfl ?_
  refine l_ic C dL_law_917 ?_
  refine l_iadd C dL_law_918 ?_
  refine l_sld C (by rw [w32_id (by omega)]; omega) dL_law_919 ?_
  obtain ⟨r, Mc1, Mm1, e1, e2, hR⟩ := hrel Mc Mm (q_sx xs (w32 (i + 1))) hRel (q_sx_in _ _)
  refine l_cCi C (st := []) (c_X9_coins C.2.2.1.1 (q_sx xs (w32 (i + 1))) Mc r Mc1 e1) tm_RL_116 mw_X9_coins ⟨rfl, rfl⟩ ⟨Nat.le_of_ble_eq_true rfl, Nat.le_of_ble_eq_true rfl⟩ kc_0 clX9 hks rfl rfl (Nat.le_of_ble_eq_true rfl) dL_law_920 ?_
  refine l_aln C dL_law_923 (k := 2) rfl ?_
  refine l_aln C dL_law_924 (k := 0) rfl ?_
  refine l_il C dL_law_925 (k := 4) rfl ?_
  refine l_ic C dL_law_927 ?_
  refine l_iadd C dL_law_928 ?_
  refine l_sld C (by rw [w32_id (by omega)]; omega) dL_law_929 ?_
  refine l_cMi C (st := [.int (qI (r))]) (c_X10_coins C.2.2.1.2 (q_sx xs (w32 (i + 1))) Mm r Mm1 e2) tm_RL_119 mw_X10_coins ⟨rfl, rfl⟩ ⟨Nat.le_of_ble_eq_true rfl, Nat.le_of_ble_eq_true rfl⟩ km_0 clX10 hks rfl rfl (Nat.le_of_ble_eq_true rfl) dL_law_930 ?_
  refine l_ceq C (tgt := 1413) dL_law_933 (by decide) (fun _ => ?_) (fun z => absurd rfl z)
  refine l_widen (Nat.le_succ _) (Nat.le_add_right _ 6) ?_
  exact kk Mc1 Mm1 hR
theorem lc_rests (C : CL p s m c b Ln xs D adC adM cA o) {i : Int} (hi : 0 ≤ i ∧ i + 6 ≤ (Ln : Int)) (hks : kc ≤ 601024 ∧ ks ≤ 7293034) {Rel : Mem → Mem → Prop} (hrel : rs_rests Rel) {Mc Mm : Mem} (hRel : Rel Mc Mm) (kk : ∀ Mc1 Mm1, Rel Mc1 Mm1 → WL p l e s m below meth c b D adC adM cA o Q Mc1 Mm1 wo (kc + 1) (ks + 6) 1413 [(0, .ref b), (1, .ref (adC 0)), (2, .ref (adM 0)), (3, .ref o), (4, .int (qI i))] []) : WL p l e s m below meth c b D adC adM cA o Q Mc Mm wo kc ks 938 [(0, .ref b), (1, .ref (adC 0)), (2, .ref (adM 0)), (3, .ref o), (4, .int (qI i))] [] := by
  have hLn := C.2.2.2.2.2.2.2
  refine l_aln C dL_law_938 (k := 1) rfl ?_
  refine l_aln C dL_law_939 (k := 0) rfl ?_
  refine l_il C dL_law_940 (k := 4) rfl ?_
  refine l_ic C dL_law_942 ?_
  refine l_iadd C dL_law_943 ?_
  refine l_sld C (by rw [w32_id (by omega)]; omega) dL_law_944 ?_
  refine l_aln C dL_law_945 (k := 0) rfl ?_
  refine l_il C dL_law_946 (k := 4) rfl ?_
  refine l_ic C dL_law_948 ?_
  refine l_iadd C dL_law_949 ?_
  refine l_sld C (by rw [w32_id (by omega)]; omega) dL_law_950 ?_
  obtain ⟨r, Mm1, e1, e2, hR⟩ := hrel Mc Mm (q_sx xs (w32 (i + 1))) (q_sx xs (w32 (i + 2))) hRel (q_sx_in _ _) (q_sx_in _ _)
  refine l_cCi C (st := []) (c_X9_rests C.2.2.1.1 (q_sx xs (w32 (i + 1))) (q_sx xs (w32 (i + 2))) Mc r  e1) tm_RL_120 mw_X9_rests ⟨rfl, rfl⟩ ⟨Nat.le_of_ble_eq_true rfl, Nat.le_of_ble_eq_true rfl⟩ kc_0 clX9 hks rfl rfl (Nat.le_of_ble_eq_true rfl) dL_law_951 ?_
  refine l_aln C dL_law_954 (k := 2) rfl ?_
  refine l_aln C dL_law_955 (k := 0) rfl ?_
  refine l_il C dL_law_956 (k := 4) rfl ?_
  refine l_ic C dL_law_958 ?_
  refine l_iadd C dL_law_959 ?_
  refine l_sld C (by rw [w32_id (by omega)]; omega) dL_law_960 ?_
  refine l_aln C dL_law_961 (k := 0) rfl ?_
  refine l_il C dL_law_962 (k := 4) rfl ?_
  refine l_ic C dL_law_964 ?_
  refine l_iadd C dL_law_965 ?_
  refine l_sld C (by rw [w32_id (by omega)]; omega) dL_law_966 ?_
  refine l_cMi C (st := [.int (qI (r))]) (c_X10_rests C.2.2.1.2 (q_sx xs (w32 (i + 1))) (q_sx xs (w32 (i + 2))) Mm r Mm1 e2) tm_RL_123 mw_X10_rests ⟨rfl, rfl⟩ ⟨Nat.le_of_ble_eq_true rfl, Nat.le_of_ble_eq_true rfl⟩ km_0 clX10 hks rfl rfl (Nat.le_of_ble_eq_true rfl) dL_law_967 ?_
  refine l_ceq C (tgt := 1413) dL_law_970 (by decide) (fun _ => ?_) (fun z => absurd rfl z)
  refine l_widen (Nat.le_succ _) (Nat.le_add_right _ 6) ?_
  exact kk Mc Mm1 hR
theorem lc_rest (C : CL p s m c b Ln xs D adC adM cA o) {i : Int} (hi : 0 ≤ i ∧ i + 6 ≤ (Ln : Int)) (hks : kc ≤ 601024 ∧ ks ≤ 7293034) {Rel : Mem → Mem → Prop} (hrel : rs_rest Rel) {Mc Mm : Mem} (hRel : Rel Mc Mm) (kk : ∀ Mc1 Mm1, Rel Mc1 Mm1 → WL p l e s m below meth c b D adC adM cA o Q Mc1 Mm1 wo (kc + 1) (ks + 6) 1413 [(0, .ref b), (1, .ref (adC 0)), (2, .ref (adM 0)), (3, .ref o), (4, .int (qI i))] []) : WL p l e s m below meth c b D adC adM cA o Q Mc Mm wo kc ks 975 [(0, .ref b), (1, .ref (adC 0)), (2, .ref (adM 0)), (3, .ref o), (4, .int (qI i))] [] := by
  have hLn := C.2.2.2.2.2.2.2
  refine l_aln C dL_law_975 (k := 1) rfl ?_
  refine l_aln C dL_law_976 (k := 0) rfl ?_
  refine l_il C dL_law_977 (k := 4) rfl ?_
  refine l_ic C dL_law_979 ?_
  refine l_iadd C dL_law_980 ?_
  refine l_sld C (by rw [w32_id (by omega)]; omega) dL_law_981 ?_
  refine l_aln C dL_law_982 (k := 0) rfl ?_
  refine l_il C dL_law_983 (k := 4) rfl ?_
  refine l_ic C dL_law_985 ?_
  refine l_iadd C dL_law_986 ?_
  refine l_sld C (by rw [w32_id (by omega)]; omega) dL_law_987 ?_
  refine l_aln C dL_law_988 (k := 0) rfl ?_
  refine l_il C dL_law_989 (k := 4) rfl ?_
  refine l_ic C dL_law_991 ?_
  refine l_iadd C dL_law_992 ?_
  refine l_sld C (by rw [w32_id (by omega)]; omega) dL_law_993 ?_
  obtain ⟨r, Mm1, e1, e2, hR⟩ := hrel Mc Mm (q_sx xs (w32 (i + 1))) (q_sx xs (w32 (i + 2))) (q_sx xs (w32 (i + 3))) hRel (q_sx_in _ _) (q_sx_in _ _) (q_sx_in _ _)
  refine l_cCi C (st := []) (c_X9_rest C.2.2.1.1 (q_sx xs (w32 (i + 1))) (q_sx xs (w32 (i + 2))) (q_sx xs (w32 (i + 3))) Mc r  e1) tm_RL_124 mw_X9_rest ⟨rfl, rfl⟩ ⟨Nat.le_of_ble_eq_true rfl, Nat.le_of_ble_eq_true rfl⟩ kc_0 clX9 hks rfl rfl (Nat.le_of_ble_eq_true rfl) dL_law_994 ?_
  refine l_aln C dL_law_997 (k := 2) rfl ?_
  refine l_aln C dL_law_998 (k := 0) rfl ?_
  refine l_il C dL_law_999 (k := 4) rfl ?_
  refine l_ic C dL_law_1001 ?_
  refine l_iadd C dL_law_1002 ?_
  refine l_sld C (by rw [w32_id (by omega)]; omega) dL_law_1003 ?_
  refine l_aln C dL_law_1004 (k := 0) rfl ?_
  refine l_il C dL_law_1005 (k := 4) rfl ?_
  refine l_ic C dL_law_1007 ?_
  refine l_iadd C dL_law_1008 ?_
  refine l_sld C (by rw [w32_id (by omega)]; omega) dL_law_1009 ?_
  refine l_aln C dL_law_1010 (k := 0) rfl ?_
  refine l_il C dL_law_1011 (k := 4) rfl ?_
  refine l_ic C dL_law_1013 ?_
  refine l_iadd C dL_law_1014 ?_
  refine l_sld C (by rw [w32_id (by omega)]; omega) dL_law_1015 ?_
  refine l_cMi C (st := [.int (qI (r))]) (c_X10_rest C.2.2.1.2 (q_sx xs (w32 (i + 1))) (q_sx xs (w32 (i + 2))) (q_sx xs (w32 (i + 3))) Mm r Mm1 e2) tm_RL_127 mw_X10_rest ⟨rfl, rfl⟩ ⟨Nat.le_of_ble_eq_true rfl, Nat.le_of_ble_eq_true rfl⟩ km_0 clX10 hks rfl rfl (Nat.le_of_ble_eq_true rfl) dL_law_1016 ?_
  refine l_ceq C (tgt := 1413) dL_law_1019 (by decide) (fun _ => ?_) (fun z => absurd rfl z)
  refine l_widen (Nat.le_succ _) (Nat.le_add_right _ 6) ?_
  exact kk Mc Mm1 hR
theorem lc_dry (C : CL p s m c b Ln xs D adC adM cA o) {i : Int} (hi : 0 ≤ i ∧ i + 6 ≤ (Ln : Int)) (hks : kc ≤ 601024 ∧ ks ≤ 7293034) {Rel : Mem → Mem → Prop} (hrel : rs_dry Rel) {Mc Mm : Mem} (hRel : Rel Mc Mm) (kk : ∀ Mc1 Mm1, Rel Mc1 Mm1 → WL p l e s m below meth c b D adC adM cA o Q Mc1 Mm1 wo (kc + 1) (ks + 6) 1413 [(0, .ref b), (1, .ref (adC 0)), (2, .ref (adM 0)), (3, .ref o), (4, .int (qI i))] []) : WL p l e s m below meth c b D adC adM cA o Q Mc Mm wo kc ks 1024 [(0, .ref b), (1, .ref (adC 0)), (2, .ref (adM 0)), (3, .ref o), (4, .int (qI i))] [] := by
  have hLn := C.2.2.2.2.2.2.2
  refine l_aln C dL_law_1024 (k := 1) rfl ?_
  refine l_aln C dL_law_1025 (k := 0) rfl ?_
  refine l_il C dL_law_1026 (k := 4) rfl ?_
  refine l_ic C dL_law_1028 ?_
  refine l_iadd C dL_law_1029 ?_
  refine l_sld C (by rw [w32_id (by omega)]; omega) dL_law_1030 ?_
  refine l_aln C dL_law_1031 (k := 0) rfl ?_
  refine l_il C dL_law_1032 (k := 4) rfl ?_
  refine l_ic C dL_law_1034 ?_
  refine l_iadd C dL_law_1035 ?_
  refine l_sld C (by rw [w32_id (by omega)]; omega) dL_law_1036 ?_
  obtain ⟨r, Mm1, e1, e2, hR⟩ := hrel Mc Mm (q_sx xs (w32 (i + 1))) (q_sx xs (w32 (i + 2))) hRel (q_sx_in _ _) (q_sx_in _ _)
  refine l_cCl C (st := []) (c_X9_dry C.2.2.1.1 (q_sx xs (w32 (i + 1))) (q_sx xs (w32 (i + 2))) Mc r  e1) tm_RL_128 mw_X9_dry ⟨rfl, rfl⟩ ⟨Nat.le_of_ble_eq_true rfl, Nat.le_of_ble_eq_true rfl⟩ kc_0 clX9 hks rfl rfl (Nat.le_of_ble_eq_true rfl) dL_law_1037 ?_
  refine l_aln C dL_law_1040 (k := 2) rfl ?_
  refine l_aln C dL_law_1041 (k := 0) rfl ?_
  refine l_il C dL_law_1042 (k := 4) rfl ?_
  refine l_ic C dL_law_1044 ?_
  refine l_iadd C dL_law_1045 ?_
  refine l_sld C (by rw [w32_id (by omega)]; omega) dL_law_1046 ?_
  refine l_aln C dL_law_1047 (k := 0) rfl ?_
  refine l_il C dL_law_1048 (k := 4) rfl ?_
  refine l_ic C dL_law_1050 ?_
  refine l_iadd C dL_law_1051 ?_
  refine l_sld C (by rw [w32_id (by omega)]; omega) dL_law_1052 ?_
  refine l_cMl C (st := [.long (qJ r)]) (c_X10_dry C.2.2.1.2 (q_sx xs (w32 (i + 1))) (q_sx xs (w32 (i + 2))) Mm r Mm1 e2) tm_RL_132 mw_X10_dry ⟨rfl, rfl⟩ ⟨Nat.le_of_ble_eq_true rfl, Nat.le_of_ble_eq_true rfl⟩ km_0 clX10 hks rfl rfl (Nat.le_of_ble_eq_true rfl) dL_law_1053 ?_
  refine l_lcmp C dL_law_1056 ?_
  refine l_zeq C (tgt := 1413) dL_law_1057 (by decide) (fun _ => ?_) (fun z => absurd (q_cmp_rr r) z)
  refine l_widen (Nat.le_succ _) (Nat.le_add_right _ 6) ?_
  exact kk Mc Mm1 hR
theorem lc_see (C : CL p s m c b Ln xs D adC adM cA o) {i : Int} (hi : 0 ≤ i ∧ i + 6 ≤ (Ln : Int)) (hks : kc ≤ 601024 ∧ ks ≤ 7293034) {Rel : Mem → Mem → Prop} (hrel : rs_see Rel) {Mc Mm : Mem} (hRel : Rel Mc Mm) (kk : ∀ Mc1 Mm1, Rel Mc1 Mm1 → WL p l e s m below meth c b D adC adM cA o Q Mc1 Mm1 wo (kc + 1) (ks + 6) 1413 [(0, .ref b), (1, .ref (adC 0)), (2, .ref (adM 0)), (3, .ref o), (4, .int (qI i))] []) : WL p l e s m below meth c b D adC adM cA o Q Mc Mm wo kc ks 1062 [(0, .ref b), (1, .ref (adC 0)), (2, .ref (adM 0)), (3, .ref o), (4, .int (qI i))] [] := by
  have hLn := C.2.2.2.2.2.2.2
  refine l_aln C dL_law_1062 (k := 1) rfl ?_
  refine l_aln C dL_law_1063 (k := 0) rfl ?_
  refine l_il C dL_law_1064 (k := 4) rfl ?_
  refine l_ic C dL_law_1066 ?_
  refine l_iadd C dL_law_1067 ?_
  refine l_sld C (by rw [w32_id (by omega)]; omega) dL_law_1068 ?_
  refine l_aln C dL_law_1069 (k := 0) rfl ?_
  refine l_il C dL_law_1070 (k := 4) rfl ?_
  refine l_ic C dL_law_1072 ?_
  refine l_iadd C dL_law_1073 ?_
  refine l_sld C (by rw [w32_id (by omega)]; omega) dL_law_1074 ?_
  refine l_aln C dL_law_1075 (k := 0) rfl ?_
  refine l_il C dL_law_1076 (k := 4) rfl ?_
  refine l_ic C dL_law_1078 ?_
  refine l_iadd C dL_law_1079 ?_
  refine l_sld C (by rw [w32_id (by omega)]; omega) dL_law_1080 ?_
  refine l_zeq C (tgt := 1088) dL_law_1081 (by decide) (fun z => ?_) (fun z => ?_)
  · have cz0 := z
    refine l_ic C dL_law_1088 ?_
    obtain ⟨r, Mc1, Mm1, e1, e2, hR⟩ := hrel Mc Mm (q_sx xs (w32 (i + 1))) (q_sx xs (w32 (i + 2))) (0) hRel (q_sx_in _ _) (q_sx_in _ _) (by first | exact Or.inl rfl | exact Or.inr rfl)
    refine l_cCi C (st := []) (c_X9_see C.2.2.1.1 (q_sx xs (w32 (i + 1))) (q_sx xs (w32 (i + 2))) (0) Mc r Mc1 e1) tm_RL_133 mw_X9_see ⟨rfl, rfl⟩ ⟨Nat.le_of_ble_eq_true rfl, Nat.le_of_ble_eq_true rfl⟩ kc_0 clX9 hks rfl rfl (Nat.le_of_ble_eq_true rfl) dL_law_1089 ?_
    refine l_aln C dL_law_1092 (k := 2) rfl ?_
    refine l_aln C dL_law_1093 (k := 0) rfl ?_
    refine l_il C dL_law_1094 (k := 4) rfl ?_
    refine l_ic C dL_law_1096 ?_
    refine l_iadd C dL_law_1097 ?_
    refine l_sld C (by rw [w32_id (by omega)]; omega) dL_law_1098 ?_
    refine l_aln C dL_law_1099 (k := 0) rfl ?_
    refine l_il C dL_law_1100 (k := 4) rfl ?_
    refine l_ic C dL_law_1102 ?_
    refine l_iadd C dL_law_1103 ?_
    refine l_sld C (by rw [w32_id (by omega)]; omega) dL_law_1104 ?_
    refine l_aln C dL_law_1105 (k := 0) rfl ?_
    refine l_il C dL_law_1106 (k := 4) rfl ?_
    refine l_ic C dL_law_1108 ?_
    refine l_iadd C dL_law_1109 ?_
    refine l_sld C (by rw [w32_id (by omega)]; omega) dL_law_1110 ?_
    refine l_zeq C (tgt := 1118) dL_law_1111 (by decide) (fun z => ?_) (fun z => ?_)
    · refine l_ic C dL_law_1118 ?_
      refine l_cMi C (st := [.int (qI (r))]) (c_X10_see C.2.2.1.2 (q_sx xs (w32 (i + 1))) (q_sx xs (w32 (i + 2))) (0) Mm r Mm1 e2) tm_RL_137 mw_X10_see ⟨rfl, rfl⟩ ⟨Nat.le_of_ble_eq_true rfl, Nat.le_of_ble_eq_true rfl⟩ km_0 clX10 hks rfl rfl (Nat.le_of_ble_eq_true rfl) dL_law_1119 ?_
      refine l_ceq C (tgt := 1413) dL_law_1122 (by decide) (fun _ => ?_) (fun z => absurd rfl z)
      refine l_widen (Nat.le_succ _) (Nat.le_add_right _ 6) ?_
      exact kk Mc1 Mm1 hR
    · exact absurd cz0 z
  · have cz0 := z
    refine l_ic C dL_law_1084 ?_
    refine l_goto C (tgt := 1089) dL_law_1085 (by decide) ?_
    obtain ⟨r, Mc1, Mm1, e1, e2, hR⟩ := hrel Mc Mm (q_sx xs (w32 (i + 1))) (q_sx xs (w32 (i + 2))) (1) hRel (q_sx_in _ _) (q_sx_in _ _) (by first | exact Or.inl rfl | exact Or.inr rfl)
    refine l_cCi C (st := []) (c_X9_see C.2.2.1.1 (q_sx xs (w32 (i + 1))) (q_sx xs (w32 (i + 2))) (1) Mc r Mc1 e1) tm_RL_133 mw_X9_see ⟨rfl, rfl⟩ ⟨Nat.le_of_ble_eq_true rfl, Nat.le_of_ble_eq_true rfl⟩ kc_0 clX9 hks rfl rfl (Nat.le_of_ble_eq_true rfl) dL_law_1089 ?_
    refine l_aln C dL_law_1092 (k := 2) rfl ?_
    refine l_aln C dL_law_1093 (k := 0) rfl ?_
    refine l_il C dL_law_1094 (k := 4) rfl ?_
    refine l_ic C dL_law_1096 ?_
    refine l_iadd C dL_law_1097 ?_
    refine l_sld C (by rw [w32_id (by omega)]; omega) dL_law_1098 ?_
    refine l_aln C dL_law_1099 (k := 0) rfl ?_
    refine l_il C dL_law_1100 (k := 4) rfl ?_
    refine l_ic C dL_law_1102 ?_
    refine l_iadd C dL_law_1103 ?_
    refine l_sld C (by rw [w32_id (by omega)]; omega) dL_law_1104 ?_
    refine l_aln C dL_law_1105 (k := 0) rfl ?_
    refine l_il C dL_law_1106 (k := 4) rfl ?_
    refine l_ic C dL_law_1108 ?_
    refine l_iadd C dL_law_1109 ?_
    refine l_sld C (by rw [w32_id (by omega)]; omega) dL_law_1110 ?_
    refine l_zeq C (tgt := 1118) dL_law_1111 (by decide) (fun z => ?_) (fun z => ?_)
    · exact absurd z cz0
    · refine l_ic C dL_law_1114 ?_
      refine l_goto C (tgt := 1119) dL_law_1115 (by decide) ?_
      refine l_cMi C (st := [.int (qI (r))]) (c_X10_see C.2.2.1.2 (q_sx xs (w32 (i + 1))) (q_sx xs (w32 (i + 2))) (1) Mm r Mm1 e2) tm_RL_137 mw_X10_see ⟨rfl, rfl⟩ ⟨Nat.le_of_ble_eq_true rfl, Nat.le_of_ble_eq_true rfl⟩ km_0 clX10 hks rfl rfl (Nat.le_of_ble_eq_true rfl) dL_law_1119 ?_
      refine l_ceq C (tgt := 1413) dL_law_1122 (by decide) (fun _ => ?_) (fun z => absurd rfl z)
      refine l_widen (Nat.le_succ _) (Nat.le_add_right _ 6) ?_
      exact kk Mc1 Mm1 hR
theorem lc_strike (C : CL p s m c b Ln xs D adC adM cA o) {i : Int} (hi : 0 ≤ i ∧ i + 6 ≤ (Ln : Int)) (hks : kc ≤ 601024 ∧ ks ≤ 7293034) {Rel : Mem → Mem → Prop} (hrel : rs_strike Rel) {Mc Mm : Mem} (hRel : Rel Mc Mm) (kk : ∀ Mc1 Mm1, Rel Mc1 Mm1 → WL p l e s m below meth c b D adC adM cA o Q Mc1 Mm1 wo (kc + 1) (ks + 6) 1413 [(0, .ref b), (1, .ref (adC 0)), (2, .ref (adM 0)), (3, .ref o), (4, .int (qI i))] []) : WL p l e s m below meth c b D adC adM cA o Q Mc Mm wo kc ks 1127 [(0, .ref b), (1, .ref (adC 0)), (2, .ref (adM 0)), (3, .ref o), (4, .int (qI i))] [] := by
  have hLn := C.2.2.2.2.2.2.2
  refine l_aln C dL_law_1127 (k := 1) rfl ?_
  refine l_aln C dL_law_1128 (k := 0) rfl ?_
  refine l_il C dL_law_1129 (k := 4) rfl ?_
  refine l_ic C dL_law_1131 ?_
  refine l_iadd C dL_law_1132 ?_
  refine l_sld C (by rw [w32_id (by omega)]; omega) dL_law_1133 ?_
  obtain ⟨r, Mc1, Mm1, e1, e2, hR⟩ := hrel Mc Mm (q_sx xs (w32 (i + 1))) hRel (q_sx_in _ _)
  refine l_cCi C (st := []) (c_X9_strike C.2.2.1.1 (q_sx xs (w32 (i + 1))) Mc r Mc1 e1) tm_RL_138 mw_X9_strike ⟨rfl, rfl⟩ ⟨Nat.le_of_ble_eq_true rfl, Nat.le_of_ble_eq_true rfl⟩ kc_0 clX9 hks rfl rfl (Nat.le_of_ble_eq_true rfl) dL_law_1134 ?_
  refine l_aln C dL_law_1137 (k := 2) rfl ?_
  refine l_aln C dL_law_1138 (k := 0) rfl ?_
  refine l_il C dL_law_1139 (k := 4) rfl ?_
  refine l_ic C dL_law_1141 ?_
  refine l_iadd C dL_law_1142 ?_
  refine l_sld C (by rw [w32_id (by omega)]; omega) dL_law_1143 ?_
  refine l_cMi C (st := [.int (qI (r))]) (c_X10_strike C.2.2.1.2 (q_sx xs (w32 (i + 1))) Mm r Mm1 e2) tm_RL_141 mw_X10_strike ⟨rfl, rfl⟩ ⟨Nat.le_of_ble_eq_true rfl, Nat.le_of_ble_eq_true rfl⟩ km_0 clX10 hks rfl rfl (Nat.le_of_ble_eq_true rfl) dL_law_1144 ?_
  refine l_ceq C (tgt := 1413) dL_law_1147 (by decide) (fun _ => ?_) (fun z => absurd rfl z)
  refine l_widen (Nat.le_succ _) (Nat.le_add_right _ 6) ?_
  exact kk Mc1 Mm1 hR
theorem lc_known (C : CL p s m c b Ln xs D adC adM cA o) {i : Int} (hi : 0 ≤ i ∧ i + 6 ≤ (Ln : Int)) (hks : kc ≤ 601024 ∧ ks ≤ 7293034) {Rel : Mem → Mem → Prop} (hrel : rs_known Rel) {Mc Mm : Mem} (hRel : Rel Mc Mm) (kk : ∀ Mc1 Mm1, Rel Mc1 Mm1 → WL p l e s m below meth c b D adC adM cA o Q Mc1 Mm1 wo (kc + 1) (ks + 6) 1413 [(0, .ref b), (1, .ref (adC 0)), (2, .ref (adM 0)), (3, .ref o), (4, .int (qI i))] []) : WL p l e s m below meth c b D adC adM cA o Q Mc Mm wo kc ks 1152 [(0, .ref b), (1, .ref (adC 0)), (2, .ref (adM 0)), (3, .ref o), (4, .int (qI i))] [] := by
  have hLn := C.2.2.2.2.2.2.2
  refine l_aln C dL_law_1152 (k := 1) rfl ?_
  refine l_aln C dL_law_1153 (k := 0) rfl ?_
  refine l_il C dL_law_1154 (k := 4) rfl ?_
  refine l_ic C dL_law_1156 ?_
  refine l_iadd C dL_law_1157 ?_
  refine l_sld C (by rw [w32_id (by omega)]; omega) dL_law_1158 ?_
  obtain ⟨r, Mc1, Mm1, e1, e2, hR⟩ := hrel Mc Mm (q_sx xs (w32 (i + 1))) hRel (q_sx_in _ _)
  refine l_cCi C (st := []) (c_X9_known C.2.2.1.1 (q_sx xs (w32 (i + 1))) Mc r Mc1 e1) tm_RL_142 mw_X9_known ⟨rfl, rfl⟩ ⟨Nat.le_of_ble_eq_true rfl, Nat.le_of_ble_eq_true rfl⟩ kc_0 clX9 hks rfl rfl (Nat.le_of_ble_eq_true rfl) dL_law_1159 ?_
  refine l_aln C dL_law_1162 (k := 2) rfl ?_
  refine l_aln C dL_law_1163 (k := 0) rfl ?_
  refine l_il C dL_law_1164 (k := 4) rfl ?_
  refine l_ic C dL_law_1166 ?_
  refine l_iadd C dL_law_1167 ?_
  refine l_sld C (by rw [w32_id (by omega)]; omega) dL_law_1168 ?_
  refine l_cMi C (st := [.int (qI (r))]) (c_X10_known C.2.2.1.2 (q_sx xs (w32 (i + 1))) Mm r Mm1 e2) tm_RL_146 mw_X10_known ⟨rfl, rfl⟩ ⟨Nat.le_of_ble_eq_true rfl, Nat.le_of_ble_eq_true rfl⟩ km_0 clX10 hks rfl rfl (Nat.le_of_ble_eq_true rfl) dL_law_1169 ?_
  refine l_ceq C (tgt := 1413) dL_law_1172 (by decide) (fun _ => ?_) (fun z => absurd rfl z)
  refine l_widen (Nat.le_succ _) (Nat.le_add_right _ 6) ?_
  exact kk Mc1 Mm1 hR
theorem lc_everies (C : CL p s m c b Ln xs D adC adM cA o) {i : Int} (hi : 0 ≤ i ∧ i + 6 ≤ (Ln : Int)) (hks : kc ≤ 601024 ∧ ks ≤ 7293034) {Rel : Mem → Mem → Prop} (hrel : rs_everies Rel) {Mc Mm : Mem} (hRel : Rel Mc Mm) (kk : ∀ Mc1 Mm1, Rel Mc1 Mm1 → WL p l e s m below meth c b D adC adM cA o Q Mc1 Mm1 wo (kc + 1) (ks + 6) 1413 [(0, .ref b), (1, .ref (adC 0)), (2, .ref (adM 0)), (3, .ref o), (4, .int (qI i))] []) : WL p l e s m below meth c b D adC adM cA o Q Mc Mm wo kc ks 1177 [(0, .ref b), (1, .ref (adC 0)), (2, .ref (adM 0)), (3, .ref o), (4, .int (qI i))] [] := by
  have hLn := C.2.2.2.2.2.2.2
  refine l_aln C dL_law_1177 (k := 1) rfl ?_
  refine l_aln C dL_law_1178 (k := 0) rfl ?_
  refine l_il C dL_law_1179 (k := 4) rfl ?_
  refine l_ic C dL_law_1181 ?_
  refine l_iadd C dL_law_1182 ?_
  refine l_sld C (by rw [w32_id (by omega)]; omega) dL_law_1183 ?_
  obtain ⟨r, Mc1, Mm1, e1, e2, hR⟩ := hrel Mc Mm (q_sx xs (w32 (i + 1))) hRel (q_sx_in _ _)
  refine l_cCi C (st := []) (c_X9_everies C.2.2.1.1 (q_sx xs (w32 (i + 1))) Mc r Mc1 e1) tm_RL_147 mw_X9_everies ⟨rfl, rfl⟩ ⟨Nat.le_of_ble_eq_true rfl, Nat.le_of_ble_eq_true rfl⟩ kc_0 clX9 hks rfl rfl (Nat.le_of_ble_eq_true rfl) dL_law_1184 ?_
  refine l_aln C dL_law_1187 (k := 2) rfl ?_
  refine l_aln C dL_law_1188 (k := 0) rfl ?_
  refine l_il C dL_law_1189 (k := 4) rfl ?_
  refine l_ic C dL_law_1191 ?_
  refine l_iadd C dL_law_1192 ?_
  refine l_sld C (by rw [w32_id (by omega)]; omega) dL_law_1193 ?_
  refine l_cMi C (st := [.int (qI (r))]) (c_X10_everies C.2.2.1.2 (q_sx xs (w32 (i + 1))) Mm r Mm1 e2) tm_RL_150 mw_X10_everies ⟨rfl, rfl⟩ ⟨Nat.le_of_ble_eq_true rfl, Nat.le_of_ble_eq_true rfl⟩ km_0 clX10 hks rfl rfl (Nat.le_of_ble_eq_true rfl) dL_law_1194 ?_
  refine l_ceq C (tgt := 1413) dL_law_1197 (by decide) (fun _ => ?_) (fun z => absurd rfl z)
  refine l_widen (Nat.le_succ _) (Nat.le_add_right _ 6) ?_
  exact kk Mc1 Mm1 hR
theorem lc_ask (C : CL p s m c b Ln xs D adC adM cA o) {i : Int} (hi : 0 ≤ i ∧ i + 6 ≤ (Ln : Int)) (hks : kc ≤ 601024 ∧ ks ≤ 7293034) {Rel : Mem → Mem → Prop} (hrel : rs_ask Rel) {Mc Mm : Mem} (hRel : Rel Mc Mm) (kk : ∀ Mc1 Mm1, Rel Mc1 Mm1 → WL p l e s m below meth c b D adC adM cA o Q Mc1 Mm1 wo (kc + 1) (ks + 6) 1413 [(0, .ref b), (1, .ref (adC 0)), (2, .ref (adM 0)), (3, .ref o), (4, .int (qI i))] []) : WL p l e s m below meth c b D adC adM cA o Q Mc Mm wo kc ks 1202 [(0, .ref b), (1, .ref (adC 0)), (2, .ref (adM 0)), (3, .ref o), (4, .int (qI i))] [] := by
  have hLn := C.2.2.2.2.2.2.2
  refine l_aln C dL_law_1202 (k := 1) rfl ?_
  refine l_aln C dL_law_1203 (k := 0) rfl ?_
  refine l_il C dL_law_1204 (k := 4) rfl ?_
  refine l_ic C dL_law_1206 ?_
  refine l_iadd C dL_law_1207 ?_
  refine l_sld C (by rw [w32_id (by omega)]; omega) dL_law_1208 ?_
  refine l_aln C dL_law_1209 (k := 0) rfl ?_
  refine l_il C dL_law_1210 (k := 4) rfl ?_
  refine l_ic C dL_law_1212 ?_
  refine l_iadd C dL_law_1213 ?_
  refine l_sld C (by rw [w32_id (by omega)]; omega) dL_law_1214 ?_
  obtain ⟨r, Mc1, Mm1, e1, e2, hR⟩ := hrel Mc Mm (q_sx xs (w32 (i + 1))) (q_sx xs (w32 (i + 2))) hRel (q_sx_in _ _) (q_sx_in _ _)
  refine l_cCi C (st := []) (c_X9_ask C.2.2.1.1 (q_sx xs (w32 (i + 1))) (q_sx xs (w32 (i + 2))) Mc r Mc1 e1) tm_RL_151 mw_X9_ask ⟨rfl, rfl⟩ ⟨Nat.le_of_ble_eq_true rfl, Nat.le_of_ble_eq_true rfl⟩ kc_0 clX9 hks rfl rfl (Nat.le_of_ble_eq_true rfl) dL_law_1215 ?_
  refine l_aln C dL_law_1218 (k := 2) rfl ?_
  refine l_aln C dL_law_1219 (k := 0) rfl ?_
  refine l_il C dL_law_1220 (k := 4) rfl ?_
  refine l_ic C dL_law_1222 ?_
  refine l_iadd C dL_law_1223 ?_
  refine l_sld C (by rw [w32_id (by omega)]; omega) dL_law_1224 ?_
  refine l_aln C dL_law_1225 (k := 0) rfl ?_
  refine l_il C dL_law_1226 (k := 4) rfl ?_
  refine l_ic C dL_law_1228 ?_
  refine l_iadd C dL_law_1229 ?_
  refine l_sld C (by rw [w32_id (by omega)]; omega) dL_law_1230 ?_
  refine l_cMi C (st := [.int (qI (r))]) (c_X10_ask C.2.2.1.2 (q_sx xs (w32 (i + 1))) (q_sx xs (w32 (i + 2))) Mm r Mm1 e2) tm_RL_154 mw_X10_ask ⟨rfl, rfl⟩ ⟨Nat.le_of_ble_eq_true rfl, Nat.le_of_ble_eq_true rfl⟩ km_0 clX10 hks rfl rfl (Nat.le_of_ble_eq_true rfl) dL_law_1231 ?_
  refine l_ceq C (tgt := 1413) dL_law_1234 (by decide) (fun _ => ?_) (fun z => absurd rfl z)
  refine l_widen (Nat.le_succ _) (Nat.le_add_right _ 6) ?_
  exact kk Mc1 Mm1 hR
theorem lc_chance (C : CL p s m c b Ln xs D adC adM cA o) {i : Int} (hi : 0 ≤ i ∧ i + 6 ≤ (Ln : Int)) (hks : kc ≤ 601024 ∧ ks ≤ 7293034) {Rel : Mem → Mem → Prop} (hrel : rs_chance Rel) {Mc Mm : Mem} (hRel : Rel Mc Mm) (kk : ∀ Mc1 Mm1, Rel Mc1 Mm1 → WL p l e s m below meth c b D adC adM cA o Q Mc1 Mm1 wo (kc + 1) (ks + 6) 1413 [(0, .ref b), (1, .ref (adC 0)), (2, .ref (adM 0)), (3, .ref o), (4, .int (qI i))] []) : WL p l e s m below meth c b D adC adM cA o Q Mc Mm wo kc ks 1239 [(0, .ref b), (1, .ref (adC 0)), (2, .ref (adM 0)), (3, .ref o), (4, .int (qI i))] [] := by
  have hLn := C.2.2.2.2.2.2.2
  refine l_aln C dL_law_1239 (k := 1) rfl ?_
  refine l_aln C dL_law_1240 (k := 0) rfl ?_
  refine l_il C dL_law_1241 (k := 4) rfl ?_
  refine l_ic C dL_law_1243 ?_
  refine l_iadd C dL_law_1244 ?_
  refine l_sld C (by rw [w32_id (by omega)]; omega) dL_law_1245 ?_
  refine l_aln C dL_law_1246 (k := 0) rfl ?_
  refine l_il C dL_law_1247 (k := 4) rfl ?_
  refine l_ic C dL_law_1249 ?_
  refine l_iadd C dL_law_1250 ?_
  refine l_sld C (by rw [w32_id (by omega)]; omega) dL_law_1251 ?_
  refine l_aln C dL_law_1252 (k := 0) rfl ?_
  refine l_il C dL_law_1253 (k := 4) rfl ?_
  refine l_ic C dL_law_1255 ?_
  refine l_iadd C dL_law_1256 ?_
  refine l_sld C (by rw [w32_id (by omega)]; omega) dL_law_1257 ?_
  refine l_aln C dL_law_1258 (k := 0) rfl ?_
  refine l_il C dL_law_1259 (k := 4) rfl ?_
  refine l_ic C dL_law_1261 ?_
  refine l_iadd C dL_law_1262 ?_
  refine l_sld C (by rw [w32_id (by omega)]; omega) dL_law_1263 ?_
  obtain ⟨r, Mc1, Mm1, e1, e2, hR⟩ := hrel Mc Mm (q_sx xs (w32 (i + 1))) (q_sx xs (w32 (i + 2))) (q_sx xs (w32 (i + 3))) (q_sx xs (w32 (i + 4))) hRel (q_sx_in _ _) (q_sx_in _ _) (q_sx_in _ _) (q_sx_in _ _)
  refine l_cCi C (st := []) (c_X9_chance C.2.2.1.1 (q_sx xs (w32 (i + 1))) (q_sx xs (w32 (i + 2))) (q_sx xs (w32 (i + 3))) (q_sx xs (w32 (i + 4))) Mc r Mc1 e1) tm_RL_155 mw_X9_chance ⟨rfl, rfl⟩ ⟨Nat.le_of_ble_eq_true rfl, Nat.le_of_ble_eq_true rfl⟩ kc_0 clX9 hks rfl rfl (Nat.le_of_ble_eq_true rfl) dL_law_1264 ?_
  refine l_aln C dL_law_1267 (k := 2) rfl ?_
  refine l_aln C dL_law_1268 (k := 0) rfl ?_
  refine l_il C dL_law_1269 (k := 4) rfl ?_
  refine l_ic C dL_law_1271 ?_
  refine l_iadd C dL_law_1272 ?_
  refine l_sld C (by rw [w32_id (by omega)]; omega) dL_law_1273 ?_
  refine l_aln C dL_law_1274 (k := 0) rfl ?_
  refine l_il C dL_law_1275 (k := 4) rfl ?_
  refine l_ic C dL_law_1277 ?_
  refine l_iadd C dL_law_1278 ?_
  refine l_sld C (by rw [w32_id (by omega)]; omega) dL_law_1279 ?_
  refine l_aln C dL_law_1280 (k := 0) rfl ?_
  refine l_il C dL_law_1281 (k := 4) rfl ?_
  refine l_ic C dL_law_1283 ?_
  refine l_iadd C dL_law_1284 ?_
  refine l_sld C (by rw [w32_id (by omega)]; omega) dL_law_1285 ?_
  refine l_aln C dL_law_1286 (k := 0) rfl ?_
  refine l_il C dL_law_1287 (k := 4) rfl ?_
  refine l_ic C dL_law_1289 ?_
  refine l_iadd C dL_law_1290 ?_
  refine l_sld C (by rw [w32_id (by omega)]; omega) dL_law_1291 ?_
  refine l_cMi C (st := [.int (qI (r))]) (c_X10_chance C.2.2.1.2 (q_sx xs (w32 (i + 1))) (q_sx xs (w32 (i + 2))) (q_sx xs (w32 (i + 3))) (q_sx xs (w32 (i + 4))) Mm r Mm1 e2) tm_RL_159 mw_X10_chance ⟨rfl, rfl⟩ ⟨Nat.le_of_ble_eq_true rfl, Nat.le_of_ble_eq_true rfl⟩ km_0 clX10 hks rfl rfl (Nat.le_of_ble_eq_true rfl) dL_law_1292 ?_
  refine l_ceq C (tgt := 1413) dL_law_1295 (by decide) (fun _ => ?_) (fun z => absurd rfl z)
  refine l_widen (Nat.le_succ _) (Nat.le_add_right _ 6) ?_
  exact kk Mc1 Mm1 hR
theorem lc_tried (C : CL p s m c b Ln xs D adC adM cA o) {i : Int} (hi : 0 ≤ i ∧ i + 6 ≤ (Ln : Int)) (hks : kc ≤ 601024 ∧ ks ≤ 7293034) {Rel : Mem → Mem → Prop} (hrel : rs_tried Rel) {Mc Mm : Mem} (hRel : Rel Mc Mm) (kk : ∀ Mc1 Mm1, Rel Mc1 Mm1 → WL p l e s m below meth c b D adC adM cA o Q Mc1 Mm1 wo (kc + 1) (ks + 6) 1413 [(0, .ref b), (1, .ref (adC 0)), (2, .ref (adM 0)), (3, .ref o), (4, .int (qI i))] []) : WL p l e s m below meth c b D adC adM cA o Q Mc Mm wo kc ks 1300 [(0, .ref b), (1, .ref (adC 0)), (2, .ref (adM 0)), (3, .ref o), (4, .int (qI i))] [] := by
  have hLn := C.2.2.2.2.2.2.2
  refine l_aln C dL_law_1300 (k := 1) rfl ?_
  refine l_aln C dL_law_1301 (k := 0) rfl ?_
  refine l_il C dL_law_1302 (k := 4) rfl ?_
  refine l_ic C dL_law_1304 ?_
  refine l_iadd C dL_law_1305 ?_
  refine l_sld C (by rw [w32_id (by omega)]; omega) dL_law_1306 ?_
  refine l_aln C dL_law_1307 (k := 0) rfl ?_
  refine l_il C dL_law_1308 (k := 4) rfl ?_
  refine l_ic C dL_law_1310 ?_
  refine l_iadd C dL_law_1311 ?_
  refine l_sld C (by rw [w32_id (by omega)]; omega) dL_law_1312 ?_
  refine l_aln C dL_law_1313 (k := 0) rfl ?_
  refine l_il C dL_law_1314 (k := 4) rfl ?_
  refine l_ic C dL_law_1316 ?_
  refine l_iadd C dL_law_1317 ?_
  refine l_sld C (by rw [w32_id (by omega)]; omega) dL_law_1318 ?_
  obtain ⟨r, Mc1, Mm1, e1, e2, hR⟩ := hrel Mc Mm (q_sx xs (w32 (i + 1))) (q_sx xs (w32 (i + 2))) (q_sx xs (w32 (i + 3))) hRel (q_sx_in _ _) (q_sx_in _ _) (q_sx_in _ _)
  refine l_cCi C (st := []) (c_X9_tried C.2.2.1.1 (q_sx xs (w32 (i + 1))) (q_sx xs (w32 (i + 2))) (q_sx xs (w32 (i + 3))) Mc r Mc1 e1) tm_RL_160 mw_X9_tried ⟨rfl, rfl⟩ ⟨Nat.le_of_ble_eq_true rfl, Nat.le_of_ble_eq_true rfl⟩ kc_0 clX9 hks rfl rfl (Nat.le_of_ble_eq_true rfl) dL_law_1319 ?_
  refine l_aln C dL_law_1322 (k := 2) rfl ?_
  refine l_aln C dL_law_1323 (k := 0) rfl ?_
  refine l_il C dL_law_1324 (k := 4) rfl ?_
  refine l_ic C dL_law_1326 ?_
  refine l_iadd C dL_law_1327 ?_
  refine l_sld C (by rw [w32_id (by omega)]; omega) dL_law_1328 ?_
  refine l_aln C dL_law_1329 (k := 0) rfl ?_
  refine l_il C dL_law_1330 (k := 4) rfl ?_
  refine l_ic C dL_law_1332 ?_
  refine l_iadd C dL_law_1333 ?_
  refine l_sld C (by rw [w32_id (by omega)]; omega) dL_law_1334 ?_
  refine l_aln C dL_law_1335 (k := 0) rfl ?_
  refine l_il C dL_law_1336 (k := 4) rfl ?_
  refine l_ic C dL_law_1338 ?_
  refine l_iadd C dL_law_1339 ?_
  refine l_sld C (by rw [w32_id (by omega)]; omega) dL_law_1340 ?_
  refine l_cMi C (st := [.int (qI (r))]) (c_X10_tried C.2.2.1.2 (q_sx xs (w32 (i + 1))) (q_sx xs (w32 (i + 2))) (q_sx xs (w32 (i + 3))) Mm r Mm1 e2) tm_RL_163 mw_X10_tried ⟨rfl, rfl⟩ ⟨Nat.le_of_ble_eq_true rfl, Nat.le_of_ble_eq_true rfl⟩ km_0 clX10 hks rfl rfl (Nat.le_of_ble_eq_true rfl) dL_law_1341 ?_
  refine l_ceq C (tgt := 1413) dL_law_1344 (by decide) (fun _ => ?_) (fun z => absurd rfl z)
  refine l_widen (Nat.le_succ _) (Nat.le_add_right _ 6) ?_
  exact kk Mc1 Mm1 hR
theorem lc_undo (C : CL p s m c b Ln xs D adC adM cA o) {i : Int} (hi : 0 ≤ i ∧ i + 6 ≤ (Ln : Int)) (hks : kc ≤ 601024 ∧ ks ≤ 7293034) {Rel : Mem → Mem → Prop} (hrel : rs_undo Rel) {Mc Mm : Mem} (hRel : Rel Mc Mm) (kk : ∀ Mc1 Mm1, Rel Mc1 Mm1 → WL p l e s m below meth c b D adC adM cA o Q Mc1 Mm1 wo (kc + 1) (ks + 6) 1413 [(0, .ref b), (1, .ref (adC 0)), (2, .ref (adM 0)), (3, .ref o), (4, .int (qI i))] []) : WL p l e s m below meth c b D adC adM cA o Q Mc Mm wo kc ks 1349 [(0, .ref b), (1, .ref (adC 0)), (2, .ref (adM 0)), (3, .ref o), (4, .int (qI i))] [] := by
  have hLn := C.2.2.2.2.2.2.2
  refine l_aln C dL_law_1349 (k := 1) rfl ?_
  obtain ⟨r, Mc1, Mm1, e1, e2, hR⟩ := hrel Mc Mm  hRel 
  refine l_cCi C (st := []) (c_X9_undo C.2.2.1.1  Mc r Mc1 e1) tm_RL_164 mw_X9_undo ⟨rfl, rfl⟩ ⟨Nat.le_of_ble_eq_true rfl, Nat.le_of_ble_eq_true rfl⟩ kc_0 clX9 hks rfl rfl (Nat.le_of_ble_eq_true rfl) dL_law_1350 ?_
  refine l_aln C dL_law_1353 (k := 2) rfl ?_
  refine l_cMi C (st := [.int (qI (r))]) (c_X10_undo C.2.2.1.2  Mm r Mm1 e2) tm_RL_167 mw_X10_undo ⟨rfl, rfl⟩ ⟨Nat.le_of_ble_eq_true rfl, Nat.le_of_ble_eq_true rfl⟩ km_0 clX10 hks rfl rfl (Nat.le_of_ble_eq_true rfl) dL_law_1354 ?_
  refine l_ceq C (tgt := 1413) dL_law_1357 (by decide) (fun _ => ?_) (fun z => absurd rfl z)
  refine l_widen (Nat.le_succ _) (Nat.le_add_right _ 6) ?_
  exact kk Mc1 Mm1 hR
theorem lc_keep (C : CL p s m c b Ln xs D adC adM cA o) {i : Int} (hi : 0 ≤ i ∧ i + 6 ≤ (Ln : Int)) (hks : kc ≤ 601024 ∧ ks ≤ 7293034) {Rel : Mem → Mem → Prop} (hrel : rs_keep Rel) {Mc Mm : Mem} (hRel : Rel Mc Mm) (kk : ∀ Mc1 Mm1, Rel Mc1 Mm1 → WL p l e s m below meth c b D adC adM cA o Q Mc1 Mm1 wo (kc + 1) (ks + 6) 1413 [(0, .ref b), (1, .ref (adC 0)), (2, .ref (adM 0)), (3, .ref o), (4, .int (qI i))] []) : WL p l e s m below meth c b D adC adM cA o Q Mc Mm wo kc ks 1362 [(0, .ref b), (1, .ref (adC 0)), (2, .ref (adM 0)), (3, .ref o), (4, .int (qI i))] [] := by
  have hLn := C.2.2.2.2.2.2.2
  refine l_aln C dL_law_1362 (k := 1) rfl ?_
  obtain ⟨r, Mc1, Mm1, e1, e2, hR⟩ := hrel Mc Mm  hRel 
  refine l_cCi C (st := []) (c_X9_keep C.2.2.1.1  Mc r Mc1 e1) tm_RL_168 mw_X9_keep ⟨rfl, rfl⟩ ⟨Nat.le_of_ble_eq_true rfl, Nat.le_of_ble_eq_true rfl⟩ kc_0 clX9 hks rfl rfl (Nat.le_of_ble_eq_true rfl) dL_law_1363 ?_
  refine l_aln C dL_law_1366 (k := 2) rfl ?_
  refine l_cMi C (st := [.int (qI (r))]) (c_X10_keep C.2.2.1.2  Mm r Mm1 e2) tm_RL_171 mw_X10_keep ⟨rfl, rfl⟩ ⟨Nat.le_of_ble_eq_true rfl, Nat.le_of_ble_eq_true rfl⟩ km_0 clX10 hks rfl rfl (Nat.le_of_ble_eq_true rfl) dL_law_1367 ?_
  refine l_ceq C (tgt := 1413) dL_law_1370 (by decide) (fun _ => ?_) (fun z => absurd rfl z)
  refine l_widen (Nat.le_succ _) (Nat.le_add_right _ 6) ?_
  exact kk Mc1 Mm1 hR
theorem lc_back (C : CL p s m c b Ln xs D adC adM cA o) {i : Int} (hi : 0 ≤ i ∧ i + 6 ≤ (Ln : Int)) (hks : kc ≤ 601024 ∧ ks ≤ 7293034) {Rel : Mem → Mem → Prop} (hrel : rs_back Rel) {Mc Mm : Mem} (hRel : Rel Mc Mm) (kk : ∀ Mc1 Mm1, Rel Mc1 Mm1 → WL p l e s m below meth c b D adC adM cA o Q Mc1 Mm1 wo (kc + 1) (ks + 6) 1413 [(0, .ref b), (1, .ref (adC 0)), (2, .ref (adM 0)), (3, .ref o), (4, .int (qI i))] []) : WL p l e s m below meth c b D adC adM cA o Q Mc Mm wo kc ks 1375 [(0, .ref b), (1, .ref (adC 0)), (2, .ref (adM 0)), (3, .ref o), (4, .int (qI i))] [] := by
  have hLn := C.2.2.2.2.2.2.2
  refine l_aln C dL_law_1375 (k := 1) rfl ?_
  obtain ⟨r, Mc1, Mm1, e1, e2, hR⟩ := hrel Mc Mm  hRel 
  refine l_cCi C (st := []) (c_X9_back C.2.2.1.1  Mc r Mc1 e1) tm_RL_172 mw_X9_back ⟨rfl, rfl⟩ ⟨Nat.le_of_ble_eq_true rfl, Nat.le_of_ble_eq_true rfl⟩ kc_0 clX9 hks rfl rfl (Nat.le_of_ble_eq_true rfl) dL_law_1376 ?_
  refine l_aln C dL_law_1379 (k := 2) rfl ?_
  refine l_cMi C (st := [.int (qI (r))]) (c_X10_back C.2.2.1.2  Mm r Mm1 e2) tm_RL_175 mw_X10_back ⟨rfl, rfl⟩ ⟨Nat.le_of_ble_eq_true rfl, Nat.le_of_ble_eq_true rfl⟩ km_0 clX10 hks rfl rfl (Nat.le_of_ble_eq_true rfl) dL_law_1380 ?_
  refine l_ceq C (tgt := 1413) dL_law_1383 (by decide) (fun _ => ?_) (fun z => absurd rfl z)
  refine l_widen (Nat.le_succ _) (Nat.le_add_right _ 6) ?_
  exact kk Mc1 Mm1 hR
theorem lc_count (C : CL p s m c b Ln xs D adC adM cA o) {i : Int} (hi : 0 ≤ i ∧ i + 6 ≤ (Ln : Int)) (hks : kc ≤ 601024 ∧ ks ≤ 7293034) {Rel : Mem → Mem → Prop} (hrel : rs_count Rel) {Mc Mm : Mem} (hRel : Rel Mc Mm) (kk : ∀ Mc1 Mm1, Rel Mc1 Mm1 → WL p l e s m below meth c b D adC adM cA o Q Mc1 Mm1 wo (kc + 1) (ks + 6) 1413 [(0, .ref b), (1, .ref (adC 0)), (2, .ref (adM 0)), (3, .ref o), (4, .int (qI i))] []) : WL p l e s m below meth c b D adC adM cA o Q Mc Mm wo kc ks 1388 [(0, .ref b), (1, .ref (adC 0)), (2, .ref (adM 0)), (3, .ref o), (4, .int (qI i))] [] := by
  have hLn := C.2.2.2.2.2.2.2
  refine l_aln C dL_law_1388 (k := 1) rfl ?_
  refine l_aln C dL_law_1389 (k := 0) rfl ?_
  refine l_il C dL_law_1390 (k := 4) rfl ?_
  refine l_ic C dL_law_1392 ?_
  refine l_iadd C dL_law_1393 ?_
  refine l_sld C (by rw [w32_id (by omega)]; omega) dL_law_1394 ?_
  obtain ⟨r, Mm1, e1, e2, hR⟩ := hrel Mc Mm (q_sx xs (w32 (i + 1))) hRel (q_sx_in _ _)
  refine l_cCi C (st := []) (c_X9_count C.2.2.1.1 (q_sx xs (w32 (i + 1))) Mc r  e1) tm_RL_176 mw_X9_count ⟨rfl, rfl⟩ ⟨Nat.le_of_ble_eq_true rfl, Nat.le_of_ble_eq_true rfl⟩ kc_0 clX9 hks rfl rfl (Nat.le_of_ble_eq_true rfl) dL_law_1395 ?_
  refine l_aln C dL_law_1398 (k := 2) rfl ?_
  refine l_aln C dL_law_1399 (k := 0) rfl ?_
  refine l_il C dL_law_1400 (k := 4) rfl ?_
  refine l_ic C dL_law_1402 ?_
  refine l_iadd C dL_law_1403 ?_
  refine l_sld C (by rw [w32_id (by omega)]; omega) dL_law_1404 ?_
  refine l_cMi C (st := [.int (qI (r))]) (c_X10_count C.2.2.1.2 (q_sx xs (w32 (i + 1))) Mm r Mm1 e2) tm_RL_179 mw_X10_count ⟨rfl, rfl⟩ ⟨Nat.le_of_ble_eq_true rfl, Nat.le_of_ble_eq_true rfl⟩ km_0 clX10 hks rfl rfl (Nat.le_of_ble_eq_true rfl) dL_law_1405 ?_
  refine l_ceq C (tgt := 1413) dL_law_1408 (by decide) (fun _ => ?_) (fun z => absurd rfl z)
  refine l_widen (Nat.le_succ _) (Nat.le_add_right _ 6) ?_
  exact kk Mc Mm1 hR
end QCASE
