/-! the law: the class's world, the reference's, the array 'out', the script -/
def CL (p : Program) (s : State) (m : MethodId) (c : Code) (b Ln : Nat) (xs : Nat → Int32) (D : va_G) (adC adM : Nat → Nat) (cA : Nat → ClassId) (o : Nat) : Prop :=
  CallFix p m c code 7 s #[Value.ref b] wsQ RL ∧ va_K D vwCl (q_tys cA) s ∧ (q_inj syC adC ∧ q_inj syM adM) ∧ ((∀ n, (syC.1 n).1 ≠ 0 → s.heap.size ≤ adC n ∧ adC n ≠ o) ∧ (∀ n, (syM.1 n).1 ≠ 0 → s.heap.size ≤ adM n ∧ adM n ≠ o) ∧ (∀ n n', (syC.1 n).1 ≠ 0 → (syM.1 n').1 ≠ 0 → adC n ≠ adM n') ∧ s.heap.size ≤ o) ∧ q_X (fun q => s.heap.size ≤ q) s s.heap ∧ va_X b Ln xs s s.heap ∧ b < s.heap.size ∧ Ln ≤ 3072
def WL (p : Program) (l : Launch) (e : Env) (s : State) (m : MethodId) (below : List Frame) (meth : Method) (c : Code) (b : Nat) (D : va_G) (adC adM : Nat → Nat) (cA : Nat → ClassId) (o : Nat) (Q : State → Prop) (Mc Mm : Mem) (w : Int) (kc ks : Nat) (pc : Nat) (L : List (Nat × Value)) (st : List Value) : Prop :=
  ∀ (H : Heap) (locs : List Loc) (ls : Array Slot), q_P syC D adC cA Mc H → tyC Mc → q_P syM D adM cA Mm H → va_at D vwCl (o, .inl (cA 5, 1, .inr (.inl (fun _ : Nat => qJ w)))) H → va_S (fun q => s.heap.size ≤ q) s.heap H locs → lv_has ls 7 L → W p l e room_1 s m #[Value.ref b] below meth c H locs kc ks Q (F0 m pc ls st)
def q_sx (xs : Nat → Int32) (j : Int) : Int := (xs j.toNat).toInt
theorem q_X.narrow {A B : Nat → Prop} {U : State} {H : Heap} (h : q_X A U H) (hAB : ∀ q, B q → A q) : q_X B U H := by
  obtain ⟨h1, ⟨h2, h2'⟩, ⟨a, h3, v, g1, g2, g3, g4⟩, a', h3', v', g1', g2', g3', g4'⟩ := h
  exact ⟨h1, ⟨h2.narrow hAB, h2'.narrow hAB⟩, ⟨a, h3, v, g1.narrow hAB, g2.narrow hAB, g3.narrow hAB, g4.narrow hAB⟩, a', h3', v', g1'.narrow hAB, g2'.narrow hAB, g3'.narrow hAB, g4'.narrow hAB⟩
section QLAW
variable {p : Program} {l : Launch} {e : Env} {s : State} {m : MethodId} {below : List Frame} {meth : Method} {c : Code} {b Ln : Nat} {xs : Nat → Int32} {D : va_G} {adC adM : Nat → Nat} {cA : Nat → ClassId} {o : Nat} {Q : State → Prop} {Mc Mm : Mem} {wo : Int} {kc ks : Nat} {pc : Nat} {L : List (Nat × Value)} {st : List Value}
theorem l_iln (C : CL p s m c b Ln xs D adC adM cA o) {j : Fin 4} {k : Nat} {x : Int} (d : decode code pc = .ok (.iload_n j, 1)) (hk : L[k]? = some ((j : Nat), .int (qI x))) (kk : WL p l e s m below meth c b D adC adM cA o Q Mc Mm wo kc ks (pc + 1) L (.int (qI x) :: st)) : WL p l e s m below meth c b D adC adM cA o Q Mc Mm wo kc ks pc L st := by
  intro H locs ls hC hT hM ho hS hl
  exact lv_iload_n C.1.1 C.1.2.1 d rfl (lv_at hl k hk) (kk H locs ls hC hT hM ho hS hl)
theorem l_il (C : CL p s m c b Ln xs D adC adM cA o) {j k : Nat} {x : Int} (d : decode code pc = .ok (.iload j, 2)) (hk : L[k]? = some (j, .int (qI x))) (kk : WL p l e s m below meth c b D adC adM cA o Q Mc Mm wo kc ks (pc + 2) L (.int (qI x) :: st)) : WL p l e s m below meth c b D adC adM cA o Q Mc Mm wo kc ks pc L st := by
  intro H locs ls hC hT hM ho hS hl
  exact lv_iload C.1.1 C.1.2.1 d (lv_at hl k hk) (kk H locs ls hC hT hM ho hS hl)
theorem l_aln (C : CL p s m c b Ln xs D adC adM cA o) {j : Fin 4} {k : Nat} {x : Nat} (d : decode code pc = .ok (.aload_n j, 1)) (hk : L[k]? = some ((j : Nat), .ref (x))) (kk : WL p l e s m below meth c b D adC adM cA o Q Mc Mm wo kc ks (pc + 1) L (.ref (x) :: st)) : WL p l e s m below meth c b D adC adM cA o Q Mc Mm wo kc ks pc L st := by
  intro H locs ls hC hT hM ho hS hl
  exact lv_aload_n C.1.1 C.1.2.1 d rfl (lv_at hl k hk) (kk H locs ls hC hT hM ho hS hl)
theorem l_al (C : CL p s m c b Ln xs D adC adM cA o) {j k : Nat} {x : Nat} (d : decode code pc = .ok (.aload j, 2)) (hk : L[k]? = some (j, .ref (x))) (kk : WL p l e s m below meth c b D adC adM cA o Q Mc Mm wo kc ks (pc + 2) L (.ref (x) :: st)) : WL p l e s m below meth c b D adC adM cA o Q Mc Mm wo kc ks pc L st := by
  intro H locs ls hC hT hM ho hS hl
  exact lv_aload C.1.1 C.1.2.1 d (lv_at hl k hk) (kk H locs ls hC hT hM ho hS hl)
theorem l_ic (C : CL p s m c b Ln xs D adC adM cA o) {n : Int} (d : decode code pc = .ok (.iconst n, 1)) (kk : WL p l e s m below meth c b D adC adM cA o Q Mc Mm wo kc ks (pc + 1) L (.int (qI n) :: st)) : WL p l e s m below meth c b D adC adM cA o Q Mc Mm wo kc ks pc L st := by
  intro H locs ls hC hT hM ho hS hl
  exact lv_iconst C.1.1 C.1.2.1 d rfl (kk H locs ls hC hT hM ho hS hl)
theorem l_bi (C : CL p s m c b Ln xs D adC adM cA o) {n : Int} (d : decode code pc = .ok (.bipush n, 2)) (hv : (Int8.ofInt n).toInt32 = qI n) (kk : WL p l e s m below meth c b D adC adM cA o Q Mc Mm wo kc ks (pc + 2) L (.int (qI n) :: st)) : WL p l e s m below meth c b D adC adM cA o Q Mc Mm wo kc ks pc L st := by
  intro H locs ls hC hT hM ho hS hl
  exact lv_bipush C.1.1 C.1.2.1 d hv (kk H locs ls hC hT hM ho hS hl)
theorem l_iadd (C : CL p s m c b Ln xs D adC adM cA o) {x y : Int} (d : decode code pc = .ok (.iadd, 1)) (kk : WL p l e s m below meth c b D adC adM cA o Q Mc Mm wo kc ks (pc + 1) L (.int (qI (x + y)) :: st)) : WL p l e s m below meth c b D adC adM cA o Q Mc Mm wo kc ks pc L (.int (qI y) :: .int (qI x) :: st) := by
  intro H locs ls hC hT hM ho hS hl
  refine lv_iadd C.1.1 C.1.2.1 d ?_
  rw [← qI_add]
  exact kk H locs ls hC hT hM ho hS hl
theorem l_isub (C : CL p s m c b Ln xs D adC adM cA o) {x y : Int} (d : decode code pc = .ok (.isub, 1)) (kk : WL p l e s m below meth c b D adC adM cA o Q Mc Mm wo kc ks (pc + 1) L (.int (qI (x - y)) :: st)) : WL p l e s m below meth c b D adC adM cA o Q Mc Mm wo kc ks pc L (.int (qI y) :: .int (qI x) :: st) := by
  intro H locs ls hC hT hM ho hS hl
  refine lv_isub C.1.1 C.1.2.1 d ?_
  rw [← qI_sub]
  exact kk H locs ls hC hT hM ho hS hl
theorem l_iand (C : CL p s m c b Ln xs D adC adM cA o) {x y : Int} (d : decode code pc = .ok (.iand, 1)) (kk : WL p l e s m below meth c b D adC adM cA o Q Mc Mm wo kc ks (pc + 1) L (.int (qI (q_and x y)) :: st)) : WL p l e s m below meth c b D adC adM cA o Q Mc Mm wo kc ks pc L (.int (qI y) :: .int (qI x) :: st) := by
  intro H locs ls hC hT hM ho hS hl
  refine lv_iand C.1.1 C.1.2.1 d ?_
  rw [q_and_I]
  exact kk H locs ls hC hT hM ho hS hl
theorem l_lcmp (C : CL p s m c b Ln xs D adC adM cA o) {x y : Int} (d : decode code pc = .ok (.lcmp, 1)) (kk : WL p l e s m below meth c b D adC adM cA o Q Mc Mm wo kc ks (pc + 1) L (.int (qI (q_cmp x y)) :: st)) : WL p l e s m below meth c b D adC adM cA o Q Mc Mm wo kc ks pc L (.long (qJ y) :: .long (qJ x) :: st) := by
  intro H locs ls hC hT hM ho hS hl
  refine W.lcmp C.1.1 C.1.2.1 d ?_
  rw [q_cmp_I]
  exact kk H locs ls hC hT hM ho hS hl
theorem l_goto (C : CL p s m c b Ln xs D adC adM cA o) {off : Int} {tgt : Nat} (d : decode code pc = .ok (.goto off, 3)) (ht : (pc : Int) + off = (tgt : Int)) (kk : WL p l e s m below meth c b D adC adM cA o Q Mc Mm wo kc ks tgt L st) : WL p l e s m below meth c b D adC adM cA o Q Mc Mm wo kc ks pc L st := by
  intro H locs ls hC hT hM ho hS hl
  exact lv_goto C.1.1 C.1.2.1 d ht (kk H locs ls hC hT hM ho hS hl)
theorem l_inc (C : CL p s m c b Ln xs D adC adM cA o) {j k : Nat} {n x : Int} {L1 : List (Nat × Value)} (d : decode code pc = .ok (.iinc j n, 3)) (hk : L[k]? = some (j, .int (qI x))) (hn : j < 7) (h1 : (j, Value.int (qI (x + n))) :: L.filter (fun q => !(q.1 == j) && !(q.1 + 1 == j && q.2.category == 2)) = L1) (kk : WL p l e s m below meth c b D adC adM cA o Q Mc Mm wo kc ks (pc + 3) L1 st) : WL p l e s m below meth c b D adC adM cA o Q Mc Mm wo kc ks pc L st := by
  intro H locs ls hC hT hM ho hS hl
  exact lv_iinc C.1.1 C.1.2.1 d hl hk (qI_add x n).symm hn h1 (fun ls hl => kk H locs ls hC hT hM ho hS hl)
theorem l_is (C : CL p s m c b Ln xs D adC adM cA o) {j : Nat} {x : Int} {L1 : List (Nat × Value)} (d : decode code pc = .ok (.istore j, 2)) (hn : j < 7) (h1 : (j, Value.int (qI x)) :: L.filter (fun q => !(q.1 == j) && !(q.1 + 1 == j && q.2.category == 2)) = L1) (kk : WL p l e s m below meth c b D adC adM cA o Q Mc Mm wo kc ks (pc + 2) L1 st) : WL p l e s m below meth c b D adC adM cA o Q Mc Mm wo kc ks pc L (.int (qI x) :: st) := by
  intro H locs ls hC hT hM ho hS hl
  exact lv_istore C.1.1 C.1.2.1 d hl hn h1 (fun ls hl => kk H locs ls hC hT hM ho hS hl)
theorem l_drop {L1 : List (Nat × Value)} (ks' : List Nat) (h1 : lv_pick L ks' = L1) (kk : WL p l e s m below meth c b D adC adM cA o Q Mc Mm wo kc ks pc L1 st) : WL p l e s m below meth c b D adC adM cA o Q Mc Mm wo kc ks pc L st := by
  intro H locs ls hC hT hM ho hS hl
  exact kk H locs ls hC hT hM ho hS (lv_sub hl ks' h1)
theorem l_widen {k' n' : Nat} (h1 : kc ≤ k') (h2 : ks ≤ n') (kk : WL p l e s m below meth c b D adC adM cA o Q Mc Mm wo k' n' pc L st) : WL p l e s m below meth c b D adC adM cA o Q Mc Mm wo kc ks pc L st := by
  intro H locs ls hC hT hM ho hS hl
  exact W.widen h1 h2 (kk H locs ls hC hT hM ho hS hl)
theorem l_i2l (C : CL p s m c b Ln xs D adC adM cA o) {x : Int} (d : decode code pc = .ok (.i2l, 1)) (kk : WL p l e s m below meth c b D adC adM cA o Q Mc Mm wo kc ks (pc + 1) L (.long (qJ (w32 x)) :: st)) : WL p l e s m below meth c b D adC adM cA o Q Mc Mm wo kc ks pc L (.int (qI x) :: st) := by
  intro H locs ls hC hT hM ho hS hl
  exact lv_i2l C.1.1 C.1.2.1 d (qI_i2l x) (kk H locs ls hC hT hM ho hS hl)
theorem l_old (C : CL p s m c b Ln xs D adC adM cA o) (d : decode code pc = .ok (.laload, 1)) (kk : WL p l e s m below meth c b D adC adM cA o Q Mc Mm wo kc ks (pc + 1) L (.long (qJ wo) :: st)) : WL p l e s m below meth c b D adC adM cA o Q Mc Mm wo kc ks pc L (.int (qI 0) :: .ref o :: st) := by
  intro H locs ls hC hT hM ho hS hl
  exact va_lald C.1.1 C.1.2.1 C.2.1 (q_one ho) 0 3 rfl rfl (q_inw (len := 1) (i := 0) ⟨by decide, by decide⟩).1 d (kk H locs ls hC hT hM ho hS hl)
theorem l_slen (C : CL p s m c b Ln xs D adC adM cA o) (d : decode code pc = .ok (.arraylength, 1)) (kk : WL p l e s m below meth c b D adC adM cA o Q Mc Mm wo kc ks (pc + 1) L (.int (qI Ln) :: st)) : WL p l e s m below meth c b D adC adM cA o Q Mc Mm wo kc ks pc L (.ref b :: st) := by
  intro H locs ls hC hT hM ho hS hl
  exact va_slen C.1.1 C.1.2.1 C.2.2.2.2.2.1 C.2.2.2.2.2.2.1 (Nat.not_le.mpr C.2.2.2.2.2.2.1) hS d (kk H locs ls hC hT hM ho hS hl)
theorem l_sld (C : CL p s m c b Ln xs D adC adM cA o) {j : Int} (hj : 0 ≤ w32 j ∧ w32 j < (Ln : Int)) (d : decode code pc = .ok (.iaload, 1)) (kk : WL p l e s m below meth c b D adC adM cA o Q Mc Mm wo kc ks (pc + 1) L (.int (qI (q_sx xs (w32 j))) :: st)) : WL p l e s m below meth c b D adC adM cA o Q Mc Mm wo kc ks pc L (.int (qI j) :: .ref b :: st) := by
  intro H locs ls hC hT hM ho hS hl
  obtain ⟨hin, hix⟩ := q_inw hj
  refine va_sld C.1.1 C.1.2.1 C.2.2.2.2.2.1 C.2.2.2.2.2.2.1 (Nat.not_le.mpr C.2.2.2.2.2.2.1) hS hin d ?_
  have hk := kk H locs ls hC hT hM ho hS hl
  unfold q_sx at hk
  rw [qI_of, ← hix, Int.toNat_natCast] at hk
  exact hk
theorem l_ceq (C : CL p s m c b Ln xs D adC adM cA o) {x y : Int} {off : Int} {tgt : Nat} (d : decode code pc = .ok (.if_icmp .eq off, 3)) (ht : (pc : Int) + off = (tgt : Int)) (k1 : w32 x = w32 y → WL p l e s m below meth c b D adC adM cA o Q Mc Mm wo kc ks tgt L st) (k2 : ¬ w32 x = w32 y → WL p l e s m below meth c b D adC adM cA o Q Mc Mm wo kc ks (pc + 3) L st) : WL p l e s m below meth c b D adC adM cA o Q Mc Mm wo kc ks pc L (.int (qI y) :: .int (qI x) :: st) := by
  intro H locs ls hC hT hM ho hS hl
  exact lv_icmp_eq C.1.1 C.1.2.1 d ht (fun q => k1 (qI_eq.mp q) H locs ls hC hT hM ho hS hl) (fun q => k2 (fun z => q (qI_eq.mpr z)) H locs ls hC hT hM ho hS hl)
theorem l_cgt (C : CL p s m c b Ln xs D adC adM cA o) {x y : Int} {off : Int} {tgt : Nat} (d : decode code pc = .ok (.if_icmp .gt off, 3)) (ht : (pc : Int) + off = (tgt : Int)) (k1 : w32 y < w32 x → WL p l e s m below meth c b D adC adM cA o Q Mc Mm wo kc ks tgt L st) (k2 : ¬ w32 y < w32 x → WL p l e s m below meth c b D adC adM cA o Q Mc Mm wo kc ks (pc + 3) L st) : WL p l e s m below meth c b D adC adM cA o Q Mc Mm wo kc ks pc L (.int (qI y) :: .int (qI x) :: st) := by
  intro H locs ls hC hT hM ho hS hl
  exact lv_icmp_gt C.1.1 C.1.2.1 d ht (fun q => k1 (qI_lt.mp q) H locs ls hC hT hM ho hS hl) (fun q => k2 (fun z => q (qI_lt.mpr z)) H locs ls hC hT hM ho hS hl)
theorem l_zeq (C : CL p s m c b Ln xs D adC adM cA o) {x : Int} {off : Int} {tgt : Nat} (d : decode code pc = .ok (.ifCond .eq off, 3)) (ht : (pc : Int) + off = (tgt : Int)) (k1 : w32 x = 0 → WL p l e s m below meth c b D adC adM cA o Q Mc Mm wo kc ks tgt L st) (k2 : ¬ w32 x = 0 → WL p l e s m below meth c b D adC adM cA o Q Mc Mm wo kc ks (pc + 3) L st) : WL p l e s m below meth c b D adC adM cA o Q Mc Mm wo kc ks pc L (.int (qI x) :: st) := by
  intro H locs ls hC hT hM ho hS hl
  have e0 : qI x = 0 ↔ w32 x = 0 := by
    have : (qI x = qI 0) ↔ w32 x = w32 0 := qI_eq
    rwa [qI_0, w32_0] at this
  exact lv_if_eq C.1.1 C.1.2.1 d ht (fun q => k1 (e0.mp q) H locs ls hC hT hM ho hS hl) (fun q => k2 (fun z => q (e0.mpr z)) H locs ls hC hT hM ho hS hl)
theorem l_tin (C : CL p s m c b Ln xs D adC adM cA o) {x k dflt lo hi off : Int} {offs : Array Int} {len tgt : Nat} (d : decode code pc = .ok (.tableswitch dflt lo hi offs, len)) (hx : w32 x = k) (h12 : ¬ k < lo ∧ ¬ hi < k) (ho' : offs[(k - lo).toNat]? = some off) (ht : (pc : Int) + off = (tgt : Int)) (kk : WL p l e s m below meth c b D adC adM cA o Q Mc Mm wo kc ks tgt L st) : WL p l e s m below meth c b D adC adM cA o Q Mc Mm wo kc ks pc L (.int (qI x) :: st) := by
  subst hx
  intro H locs ls hC hT hM ho hS hl
  exact lv_tableIn C.1.1 C.1.2.1 d h12.1 h12.2 ho' ht (kk H locs ls hC hT hM ho hS hl)
theorem l_tout (C : CL p s m c b Ln xs D adC adM cA o) {x dflt lo hi : Int} {offs : Array Int} {len tgt : Nat} (d : decode code pc = .ok (.tableswitch dflt lo hi offs, len)) (hx : w32 x < lo ∨ hi < w32 x) (ht : (pc : Int) + dflt = (tgt : Int)) (kk : WL p l e s m below meth c b D adC adM cA o Q Mc Mm wo kc ks tgt L st) : WL p l e s m below meth c b D adC adM cA o Q Mc Mm wo kc ks pc L (.int (qI x) :: st) := by
  intro H locs ls hC hT hM ho hS hl
  exact lv_tableOut C.1.1 C.1.2.1 d hx ht (kk H locs ls hC hT hM ho hS hl)
theorem l_cCi (C : CL p s m c b Ln xs D adC adM cA o) {y : MethodName} {bytes : ByteArray} {maxL : Nat} {ret : Option FieldType} {rm : Room} {As : List Value} {ci N na idx : Nat} {Cn : String} {T : u_T} {r : Int} {M1 : Mem} {stk : List Value} (hMt : q_Met l syC D adC cA y bytes maxL ret rm (.ref (adC 0) :: As) Mc (some (.int (qI r))) M1) (w : Cond.methodLink RL idx y ∈ wsQ) (mw : q_mw Cn y bytes maxL ret na) (hr0 : rm.cells = 0 ∧ rm.slots = 0) (hR : rm.frames + 1 ≤ room_1.frames ∧ 8 + (maxL + 11) + rm.locals ≤ room_1.locals) (hk : syC.1 0 = (1, ci)) (hc : q_cl ci Cn T N) (hks : kc ≤ 601024 ∧ ks ≤ 7293034) (hn : As.length = na) (hstk : stk = As.reverse ++ .ref (adC 0) :: st) (hW : (st.map fun v => v.category).sum ≤ 8) (d : decode code pc = .ok (.invokevirtual idx, 3)) (kk : WL p l e s m below meth c b D adC adM cA o Q M1 Mm wo kc ks (pc + 3) L (.int (qI r) :: st)) : WL p l e s m below meth c b D adC adM cA o Q Mc Mm wo kc ks pc L stk := by
  subst hstk
  intro H locs ls hC hT hM ho hS hl
  have hv := hC 0 (by rw [hk]; exact Nat.one_ne_zero)
  rw [q_ent_obj hk hc.1] at hv
  have hsub : ∀ q, q_A syC adC q → s.heap.size ≤ q := fun q ⟨n, h1, h2⟩ => by rw [h2]; exact (C.2.2.2.1.1 n h1).1
  have hr := va_runV (As := As) (rest := st) (cells := kc) (slots := ks) C.1 hMt (cwV na C.1.2.2.2.2 (q_goodV w mw) rfl hr0.1 hr0.2 mw.2 hR) ⟨q_blind, va_recv C.2.1 (q_one hv) (ci := ci) (q0 := 0) hc.1 rfl, fun U hU hW => ⟨rfl, by rw [hU]; exact hC, hT, va_K.moved hW.alike C.2.1, by rw [hU]; exact (C.2.2.2.2.1.moved hW hS.2.1).narrow hsub⟩⟩ rfl hn hl.1 rfl (lv_room hW) d ⟨hks.1, hks.2⟩ (g := F0 m pc ls (As.reverse ++ .ref (adC 0) :: st)) (l := l) (R := room_1) (locs := locs) (below := below) (meth := meth) (e := e)
  intro T0 hT0 X
  obtain ⟨v, st₀, t, T', L2, h0, X', hL, e1, e2, ⟨hv2, hP1, hT1, hz, hkp⟩, stp⟩ := hr T0 hT0 X
  cases hv2
  rw [h0] at hz hkp
  have hS1 : va_S (fun q => s.heap.size ≤ q) s.heap T'.heap (locs ++ L2) := ⟨Nat.le_trans hS.1 (by rw [e1]; exact hz), fun q h1 h2 => by rw [e1, hkp q (Nat.lt_of_lt_of_le h1 hS.1) (fun z => h2 (hsub q z))]; exact hS.2.1 q h1 h2, fun q hq => by
      rcases List.mem_append.mp hq with h | h
      · exact hS.2.2 q h
      · exact hsub _ (hL q h)⟩
  have hO : q_P syM D adM cA Mm T'.heap := fun n hn => by
    have h9 := hM n hn
    exact h9.kept (by rw [e1]; exact hkp _ h9.lt (fun ⟨n2, hn2, e9⟩ => (fun e9 => C.2.2.2.1.2.2.1 n2 n hn2 hn e9.symm) e9))
  have ho1 := ho.kept (H1 := T'.heap) (by rw [e1]; exact hkp _ ho.lt (fun ⟨n2, hn2, e9⟩ => (C.2.2.2.1.1 n2 hn2).2 e9.symm))
  obtain ⟨t2, a1, b1⟩ := kk T'.heap (locs ++ L2) ls (by rw [e1]; exact hP1) hT1 hO ho1 hS1 hl T' rfl X'
  exact ⟨t2, stp t2 a1, b1⟩
theorem l_cCl (C : CL p s m c b Ln xs D adC adM cA o) {y : MethodName} {bytes : ByteArray} {maxL : Nat} {ret : Option FieldType} {rm : Room} {As : List Value} {ci N na idx : Nat} {Cn : String} {T : u_T} {r : Int} {M1 : Mem} {stk : List Value} (hMt : q_Met l syC D adC cA y bytes maxL ret rm (.ref (adC 0) :: As) Mc (some (.long (qJ r))) M1) (w : Cond.methodLink RL idx y ∈ wsQ) (mw : q_mw Cn y bytes maxL ret na) (hr0 : rm.cells = 0 ∧ rm.slots = 0) (hR : rm.frames + 1 ≤ room_1.frames ∧ 8 + (maxL + 11) + rm.locals ≤ room_1.locals) (hk : syC.1 0 = (1, ci)) (hc : q_cl ci Cn T N) (hks : kc ≤ 601024 ∧ ks ≤ 7293034) (hn : As.length = na) (hstk : stk = As.reverse ++ .ref (adC 0) :: st) (hW : (st.map fun v => v.category).sum ≤ 8) (d : decode code pc = .ok (.invokevirtual idx, 3)) (kk : WL p l e s m below meth c b D adC adM cA o Q M1 Mm wo kc ks (pc + 3) L (.long (qJ r) :: st)) : WL p l e s m below meth c b D adC adM cA o Q Mc Mm wo kc ks pc L stk := by
  subst hstk
  intro H locs ls hC hT hM ho hS hl
  have hv := hC 0 (by rw [hk]; exact Nat.one_ne_zero)
  rw [q_ent_obj hk hc.1] at hv
  have hsub : ∀ q, q_A syC adC q → s.heap.size ≤ q := fun q ⟨n, h1, h2⟩ => by rw [h2]; exact (C.2.2.2.1.1 n h1).1
  have hr := va_runV (As := As) (rest := st) (cells := kc) (slots := ks) C.1 hMt (cwV na C.1.2.2.2.2 (q_goodV w mw) rfl hr0.1 hr0.2 mw.2 hR) ⟨q_blind, va_recv C.2.1 (q_one hv) (ci := ci) (q0 := 0) hc.1 rfl, fun U hU hW => ⟨rfl, by rw [hU]; exact hC, hT, va_K.moved hW.alike C.2.1, by rw [hU]; exact (C.2.2.2.2.1.moved hW hS.2.1).narrow hsub⟩⟩ rfl hn hl.1 rfl (lv_room hW) d ⟨hks.1, hks.2⟩ (g := F0 m pc ls (As.reverse ++ .ref (adC 0) :: st)) (l := l) (R := room_1) (locs := locs) (below := below) (meth := meth) (e := e)
  intro T0 hT0 X
  obtain ⟨v, st₀, t, T', L2, h0, X', hL, e1, e2, ⟨hv2, hP1, hT1, hz, hkp⟩, stp⟩ := hr T0 hT0 X
  cases hv2
  rw [h0] at hz hkp
  have hS1 : va_S (fun q => s.heap.size ≤ q) s.heap T'.heap (locs ++ L2) := ⟨Nat.le_trans hS.1 (by rw [e1]; exact hz), fun q h1 h2 => by rw [e1, hkp q (Nat.lt_of_lt_of_le h1 hS.1) (fun z => h2 (hsub q z))]; exact hS.2.1 q h1 h2, fun q hq => by
      rcases List.mem_append.mp hq with h | h
      · exact hS.2.2 q h
      · exact hsub _ (hL q h)⟩
  have hO : q_P syM D adM cA Mm T'.heap := fun n hn => by
    have h9 := hM n hn
    exact h9.kept (by rw [e1]; exact hkp _ h9.lt (fun ⟨n2, hn2, e9⟩ => (fun e9 => C.2.2.2.1.2.2.1 n2 n hn2 hn e9.symm) e9))
  have ho1 := ho.kept (H1 := T'.heap) (by rw [e1]; exact hkp _ ho.lt (fun ⟨n2, hn2, e9⟩ => (C.2.2.2.1.1 n2 hn2).2 e9.symm))
  obtain ⟨t2, a1, b1⟩ := kk T'.heap (locs ++ L2) ls (by rw [e1]; exact hP1) hT1 hO ho1 hS1 hl T' rfl X'
  exact ⟨t2, stp t2 a1, b1⟩
theorem l_cMi (C : CL p s m c b Ln xs D adC adM cA o) {y : MethodName} {bytes : ByteArray} {maxL : Nat} {ret : Option FieldType} {rm : Room} {As : List Value} {ci N na idx : Nat} {Cn : String} {T : u_T} {r : Int} {M1 : Mem} {stk : List Value} (hMt : q_Met l syM D adM cA y bytes maxL ret rm (.ref (adM 0) :: As) Mm (some (.int (qI r))) M1) (w : Cond.methodLink RL idx y ∈ wsQ) (mw : q_mw Cn y bytes maxL ret na) (hr0 : rm.cells = 0 ∧ rm.slots = 0) (hR : rm.frames + 1 ≤ room_1.frames ∧ 8 + (maxL + 11) + rm.locals ≤ room_1.locals) (hk : syM.1 0 = (1, ci)) (hc : q_cl ci Cn T N) (hks : kc ≤ 601024 ∧ ks ≤ 7293034) (hn : As.length = na) (hstk : stk = As.reverse ++ .ref (adM 0) :: st) (hW : (st.map fun v => v.category).sum ≤ 8) (d : decode code pc = .ok (.invokevirtual idx, 3)) (kk : WL p l e s m below meth c b D adC adM cA o Q Mc M1 wo kc ks (pc + 3) L (.int (qI r) :: st)) : WL p l e s m below meth c b D adC adM cA o Q Mc Mm wo kc ks pc L stk := by
  subst hstk
  intro H locs ls hC hT hM ho hS hl
  have hv := hM 0 (by rw [hk]; exact Nat.one_ne_zero)
  rw [q_ent_obj hk hc.1] at hv
  have hsub : ∀ q, q_A syM adM q → s.heap.size ≤ q := fun q ⟨n, h1, h2⟩ => by rw [h2]; exact (C.2.2.2.1.2.1 n h1).1
  have hr := va_runV (As := As) (rest := st) (cells := kc) (slots := ks) C.1 hMt (cwV na C.1.2.2.2.2 (q_goodV w mw) rfl hr0.1 hr0.2 mw.2 hR) ⟨q_blind, va_recv C.2.1 (q_one hv) (ci := ci) (q0 := 0) hc.1 rfl, fun U hU hW => ⟨rfl, by rw [hU]; exact hM, trivial, va_K.moved hW.alike C.2.1, by rw [hU]; exact (C.2.2.2.2.1.moved hW hS.2.1).narrow hsub⟩⟩ rfl hn hl.1 rfl (lv_room hW) d ⟨hks.1, hks.2⟩ (g := F0 m pc ls (As.reverse ++ .ref (adM 0) :: st)) (l := l) (R := room_1) (locs := locs) (below := below) (meth := meth) (e := e)
  intro T0 hT0 X
  obtain ⟨v, st₀, t, T', L2, h0, X', hL, e1, e2, ⟨hv2, hP1, hT1, hz, hkp⟩, stp⟩ := hr T0 hT0 X
  cases hv2
  rw [h0] at hz hkp
  have hS1 : va_S (fun q => s.heap.size ≤ q) s.heap T'.heap (locs ++ L2) := ⟨Nat.le_trans hS.1 (by rw [e1]; exact hz), fun q h1 h2 => by rw [e1, hkp q (Nat.lt_of_lt_of_le h1 hS.1) (fun z => h2 (hsub q z))]; exact hS.2.1 q h1 h2, fun q hq => by
      rcases List.mem_append.mp hq with h | h
      · exact hS.2.2 q h
      · exact hsub _ (hL q h)⟩
  have hO : q_P syC D adC cA Mc T'.heap := fun n hn => by
    have h9 := hC n hn
    exact h9.kept (by rw [e1]; exact hkp _ h9.lt (fun ⟨n2, hn2, e9⟩ => (fun e9 => C.2.2.2.1.2.2.1 n n2 hn hn2 e9) e9))
  have ho1 := ho.kept (H1 := T'.heap) (by rw [e1]; exact hkp _ ho.lt (fun ⟨n2, hn2, e9⟩ => (C.2.2.2.1.2.1 n2 hn2).2 e9.symm))
  obtain ⟨t2, a1, b1⟩ := kk T'.heap (locs ++ L2) ls hO hT (by rw [e1]; exact hP1) ho1 hS1 hl T' rfl X'
  exact ⟨t2, stp t2 a1, b1⟩
theorem l_cMl (C : CL p s m c b Ln xs D adC adM cA o) {y : MethodName} {bytes : ByteArray} {maxL : Nat} {ret : Option FieldType} {rm : Room} {As : List Value} {ci N na idx : Nat} {Cn : String} {T : u_T} {r : Int} {M1 : Mem} {stk : List Value} (hMt : q_Met l syM D adM cA y bytes maxL ret rm (.ref (adM 0) :: As) Mm (some (.long (qJ r))) M1) (w : Cond.methodLink RL idx y ∈ wsQ) (mw : q_mw Cn y bytes maxL ret na) (hr0 : rm.cells = 0 ∧ rm.slots = 0) (hR : rm.frames + 1 ≤ room_1.frames ∧ 8 + (maxL + 11) + rm.locals ≤ room_1.locals) (hk : syM.1 0 = (1, ci)) (hc : q_cl ci Cn T N) (hks : kc ≤ 601024 ∧ ks ≤ 7293034) (hn : As.length = na) (hstk : stk = As.reverse ++ .ref (adM 0) :: st) (hW : (st.map fun v => v.category).sum ≤ 8) (d : decode code pc = .ok (.invokevirtual idx, 3)) (kk : WL p l e s m below meth c b D adC adM cA o Q Mc M1 wo kc ks (pc + 3) L (.long (qJ r) :: st)) : WL p l e s m below meth c b D adC adM cA o Q Mc Mm wo kc ks pc L stk := by
  subst hstk
  intro H locs ls hC hT hM ho hS hl
  have hv := hM 0 (by rw [hk]; exact Nat.one_ne_zero)
  rw [q_ent_obj hk hc.1] at hv
  have hsub : ∀ q, q_A syM adM q → s.heap.size ≤ q := fun q ⟨n, h1, h2⟩ => by rw [h2]; exact (C.2.2.2.1.2.1 n h1).1
  have hr := va_runV (As := As) (rest := st) (cells := kc) (slots := ks) C.1 hMt (cwV na C.1.2.2.2.2 (q_goodV w mw) rfl hr0.1 hr0.2 mw.2 hR) ⟨q_blind, va_recv C.2.1 (q_one hv) (ci := ci) (q0 := 0) hc.1 rfl, fun U hU hW => ⟨rfl, by rw [hU]; exact hM, trivial, va_K.moved hW.alike C.2.1, by rw [hU]; exact (C.2.2.2.2.1.moved hW hS.2.1).narrow hsub⟩⟩ rfl hn hl.1 rfl (lv_room hW) d ⟨hks.1, hks.2⟩ (g := F0 m pc ls (As.reverse ++ .ref (adM 0) :: st)) (l := l) (R := room_1) (locs := locs) (below := below) (meth := meth) (e := e)
  intro T0 hT0 X
  obtain ⟨v, st₀, t, T', L2, h0, X', hL, e1, e2, ⟨hv2, hP1, hT1, hz, hkp⟩, stp⟩ := hr T0 hT0 X
  cases hv2
  rw [h0] at hz hkp
  have hS1 : va_S (fun q => s.heap.size ≤ q) s.heap T'.heap (locs ++ L2) := ⟨Nat.le_trans hS.1 (by rw [e1]; exact hz), fun q h1 h2 => by rw [e1, hkp q (Nat.lt_of_lt_of_le h1 hS.1) (fun z => h2 (hsub q z))]; exact hS.2.1 q h1 h2, fun q hq => by
      rcases List.mem_append.mp hq with h | h
      · exact hS.2.2 q h
      · exact hsub _ (hL q h)⟩
  have hO : q_P syC D adC cA Mc T'.heap := fun n hn => by
    have h9 := hC n hn
    exact h9.kept (by rw [e1]; exact hkp _ h9.lt (fun ⟨n2, hn2, e9⟩ => (fun e9 => C.2.2.2.1.2.2.1 n n2 hn hn2 e9) e9))
  have ho1 := ho.kept (H1 := T'.heap) (by rw [e1]; exact hkp _ ho.lt (fun ⟨n2, hn2, e9⟩ => (C.2.2.2.1.2.1 n2 hn2).2 e9.symm))
  obtain ⟨t2, a1, b1⟩ := kk T'.heap (locs ++ L2) ls hO hT (by rw [e1]; exact hP1) ho1 hS1 hl T' rfl X'
  exact ⟨t2, stp t2 a1, b1⟩
end QLAW
