theorem q_cmp_I (x y : Int) : lg_cmp (qJ x) (qJ y) = qI (q_cmp x y) := by
  unfold lg_cmp q_cmp
  have e1 : (qJ x > qJ y) ↔ w64 y < w64 x := qJ_lt
  have e2 : (qJ x = qJ y) ↔ w64 x = w64 y := qJ_eq
  by_cases h1 : w64 y < w64 x
  · rw [if_pos (e1.mpr h1), if_neg (by omega), if_neg (by omega)]; rfl
  · rw [if_neg (fun q => h1 (e1.mp q))]
    by_cases h2 : w64 x = w64 y
    · rw [if_pos (e2.mpr h2), if_neg (by omega), if_pos h2]; rfl
    · rw [if_neg (fun q => h2 (e2.mp q)), if_pos (by omega)]; rfl
section QROWS
variable {sy : Sys} {p : Program} {l : Launch} {e : Env} {R : Room} {s : State} {m : MethodId} {args : Array Value} {below : List Frame} {meth : Method} {c : Code} {cc : ByteArray} {nL : Nat} {own : String} {D : va_G} {ad : Nat → Nat} {cA : Nat → ClassId} {Q : State → Prop} {M : Mem} {pc : Nat} {L : List (Nat × Value)} {st : List Value} {α : Type} {RR : α}
theorem r_ic (C : Cx sy p m c cc nL s args own D ad cA) {n : Int} (d : decode cc pc = .ok (.iconst n, 1)) (kk : WM sy p l e R s m args below meth c nL D ad cA Q M (pc + 1) L (.int (qI n) :: st)) : WM sy p l e R s m args below meth c nL D ad cA Q M pc L st := by
  intro H locs ls hP hT hS hl
  exact lv_iconst C.1.1 C.1.2.1 d rfl (kk H locs ls hP hT hS hl)
theorem r_bi (C : Cx sy p m c cc nL s args own D ad cA) {n : Int} (d : decode cc pc = .ok (.bipush n, 2)) (hv : (Int8.ofInt n).toInt32 = qI n) (kk : WM sy p l e R s m args below meth c nL D ad cA Q M (pc + 2) L (.int (qI n) :: st)) : WM sy p l e R s m args below meth c nL D ad cA Q M pc L st := by
  intro H locs ls hP hT hS hl
  exact lv_bipush C.1.1 C.1.2.1 d hv (kk H locs ls hP hT hS hl)
theorem r_si (C : Cx sy p m c cc nL s args own D ad cA) {n : Int} (d : decode cc pc = .ok (.sipush n, 3)) (hv : (Int16.ofInt n).toInt32 = qI n) (kk : WM sy p l e R s m args below meth c nL D ad cA Q M (pc + 3) L (.int (qI n) :: st)) : WM sy p l e R s m args below meth c nL D ad cA Q M pc L st := by
  intro H locs ls hP hT hS hl
  exact lv_sipush C.1.1 C.1.2.1 d hv (kk H locs ls hP hT hS hl)
theorem r_lc (C : Cx sy p m c cc nL s args own D ad cA) {n : Fin 2} {x : Int} (d : decode cc pc = .ok (.lconst n, 1)) (hv : Int64.ofNat n = qJ x) (kk : WM sy p l e R s m args below meth c nL D ad cA Q M (pc + 1) L (.long (qJ x) :: st)) : WM sy p l e R s m args below meth c nL D ad cA Q M pc L st := by
  intro H locs ls hP hT hS hl
  exact lv_lconst C.1.1 C.1.2.1 d hv (kk H locs ls hP hT hS hl)
theorem r_ldc (C : Cx sy p m c cc nL s args own D ad cA) {idx : Nat} {v : Int32} {x : Int} (w : Cond.constant own idx v ∈ wsQ) (hv : v = qI x) (d : decode cc pc = .ok (.ldc idx, 2)) (kk : WM sy p l e R s m args below meth c nL D ad cA Q M (pc + 2) L (.int (qI x) :: st)) : WM sy p l e R s m args below meth c nL D ad cA Q M pc L st := by
  intro H locs ls hP hT hS hl
  subst hv; exact lv_ldc C.1.1 C.1.2.1 C.1.2.2.2.1 (C.1.2.2.2.2 _ w) d (kk H locs ls hP hT hS hl)
theorem r_ldc2 (C : Cx sy p m c cc nL s args own D ad cA) {idx : Nat} {v : Int64} {x : Int} (w : Cond.constantLong own idx v ∈ wsQ) (hv : v = qJ x) (d : decode cc pc = .ok (.ldc2_w idx, 3)) (kk : WM sy p l e R s m args below meth c nL D ad cA Q M (pc + 3) L (.long (qJ x) :: st)) : WM sy p l e R s m args below meth c nL D ad cA Q M pc L st := by
  intro H locs ls hP hT hS hl
  subst hv; exact lv_ldc2 C.1.1 C.1.2.1 C.1.2.2.2.1 (C.1.2.2.2.2 _ w) d (kk H locs ls hP hT hS hl)
theorem r_ldcw (C : Cx sy p m c cc nL s args own D ad cA) {idx : Nat} {v : Int32} {x : Int} (w : Cond.constant own idx v ∈ wsQ) (hv : v = qI x) (d : decode cc pc = .ok (.ldc_w idx, 3)) (kk : WM sy p l e R s m args below meth c nL D ad cA Q M (pc + 3) L (.int (qI x) :: st)) : WM sy p l e R s m args below meth c nL D ad cA Q M pc L st := by
  intro H locs ls hP hT hS hl
  subst hv; exact lv_ldcw C.1.1 C.1.2.1 C.1.2.2.2.1 (C.1.2.2.2.2 _ w) d (kk H locs ls hP hT hS hl)
theorem r_let {v : Int} {K : Int → Option α} (h : q_let v K = some RR) (kk : ∀ x : Int, K x = some RR → WM sy p l e R s m args below meth c nL D ad cA Q M pc L (.int (qI x) :: st)) : WM sy p l e R s m args below meth c nL D ad cA Q M pc L (.int (qI v) :: st) := kk v h
theorem r_letl {v : Int} {K : Int → Option α} (h : q_let v K = some RR) (kk : ∀ x : Int, K x = some RR → WM sy p l e R s m args below meth c nL D ad cA Q M pc L (.long (qJ x) :: st)) : WM sy p l e R s m args below meth c nL D ad cA Q M pc L (.long (qJ v) :: st) := kk v h
theorem r_iln (C : Cx sy p m c cc nL s args own D ad cA) {j : Fin 4} {k : Nat} {x : Int} (d : decode cc pc = .ok (.iload_n j, 1)) (hk : L[k]? = some ((j : Nat), .int (qI x))) (kk : WM sy p l e R s m args below meth c nL D ad cA Q M (pc + 1) L (.int (qI x) :: st)) : WM sy p l e R s m args below meth c nL D ad cA Q M pc L st := by
  intro H locs ls hP hT hS hl
  exact lv_iload_n C.1.1 C.1.2.1 d rfl (lv_at hl k hk) (kk H locs ls hP hT hS hl)
theorem r_il (C : Cx sy p m c cc nL s args own D ad cA) {j k : Nat} {x : Int} (d : decode cc pc = .ok (.iload j, 2)) (hk : L[k]? = some (j, .int (qI x))) (kk : WM sy p l e R s m args below meth c nL D ad cA Q M (pc + 2) L (.int (qI x) :: st)) : WM sy p l e R s m args below meth c nL D ad cA Q M pc L st := by
  intro H locs ls hP hT hS hl
  exact lv_iload C.1.1 C.1.2.1 d (lv_at hl k hk) (kk H locs ls hP hT hS hl)
theorem r_isn (C : Cx sy p m c cc nL s args own D ad cA) {j : Fin 4} {L1 : List (Nat × Value)} {x : Int} (d : decode cc pc = .ok (.istore_n j, 1)) (hn : (j : Nat) < nL) (h1 : ((j : Nat), Value.int (qI x)) :: L.filter (fun q => !(q.1 == (j : Nat)) && !(q.1 + 1 == (j : Nat) && q.2.category == 2)) = L1) (kk : WM sy p l e R s m args below meth c nL D ad cA Q M (pc + 1) L1 st) : WM sy p l e R s m args below meth c nL D ad cA Q M pc L (.int (qI x) :: st) := by
  intro H locs ls hP hT hS hl
  exact lv_istore_n C.1.1 C.1.2.1 d rfl hl hn h1 (fun ls hl => kk H locs ls hP hT hS hl)
theorem r_is (C : Cx sy p m c cc nL s args own D ad cA) {j : Nat} {L1 : List (Nat × Value)} {x : Int} (d : decode cc pc = .ok (.istore j, 2)) (hn : j < nL) (h1 : (j, Value.int (qI x)) :: L.filter (fun q => !(q.1 == j) && !(q.1 + 1 == j && q.2.category == 2)) = L1) (kk : WM sy p l e R s m args below meth c nL D ad cA Q M (pc + 2) L1 st) : WM sy p l e R s m args below meth c nL D ad cA Q M pc L (.int (qI x) :: st) := by
  intro H locs ls hP hT hS hl
  exact lv_istore C.1.1 C.1.2.1 d hl hn h1 (fun ls hl => kk H locs ls hP hT hS hl)
theorem r_lln (C : Cx sy p m c cc nL s args own D ad cA) {j : Fin 4} {k : Nat} {x : Int} (d : decode cc pc = .ok (.lload_n j, 1)) (hk : L[k]? = some ((j : Nat), .long (qJ x))) (kk : WM sy p l e R s m args below meth c nL D ad cA Q M (pc + 1) L (.long (qJ x) :: st)) : WM sy p l e R s m args below meth c nL D ad cA Q M pc L st := by
  intro H locs ls hP hT hS hl
  exact lv_lload_n C.1.1 C.1.2.1 d rfl (lv_at hl k hk) (kk H locs ls hP hT hS hl)
theorem r_ll (C : Cx sy p m c cc nL s args own D ad cA) {j k : Nat} {x : Int} (d : decode cc pc = .ok (.lload j, 2)) (hk : L[k]? = some (j, .long (qJ x))) (kk : WM sy p l e R s m args below meth c nL D ad cA Q M (pc + 2) L (.long (qJ x) :: st)) : WM sy p l e R s m args below meth c nL D ad cA Q M pc L st := by
  intro H locs ls hP hT hS hl
  exact lv_lload C.1.1 C.1.2.1 d (lv_at hl k hk) (kk H locs ls hP hT hS hl)
theorem r_lsn (C : Cx sy p m c cc nL s args own D ad cA) {j : Fin 4} {L1 : List (Nat × Value)} {x : Int} (d : decode cc pc = .ok (.lstore_n j, 1)) (hn : (j : Nat) + 1 < nL) (h1 : ((j : Nat), Value.long (qJ x)) :: L.filter (fun q => !(q.1 == (j : Nat)) && (!(q.1 == (j : Nat) + 1) && !(q.1 + 1 == (j : Nat) && q.2.category == 2))) = L1) (kk : WM sy p l e R s m args below meth c nL D ad cA Q M (pc + 1) L1 st) : WM sy p l e R s m args below meth c nL D ad cA Q M pc L (.long (qJ x) :: st) := by
  intro H locs ls hP hT hS hl
  exact lv_lstore_n C.1.1 C.1.2.1 d rfl hl hn h1 (fun ls hl => kk H locs ls hP hT hS hl)
theorem r_ls (C : Cx sy p m c cc nL s args own D ad cA) {j : Nat} {L1 : List (Nat × Value)} {x : Int} (d : decode cc pc = .ok (.lstore j, 2)) (hn : j + 1 < nL) (h1 : (j, Value.long (qJ x)) :: L.filter (fun q => !(q.1 == j) && (!(q.1 == j + 1) && !(q.1 + 1 == j && q.2.category == 2))) = L1) (kk : WM sy p l e R s m args below meth c nL D ad cA Q M (pc + 2) L1 st) : WM sy p l e R s m args below meth c nL D ad cA Q M pc L (.long (qJ x) :: st) := by
  intro H locs ls hP hT hS hl
  exact lv_lstore C.1.1 C.1.2.1 d hl hn h1 (fun ls hl => kk H locs ls hP hT hS hl)
theorem r_aln (C : Cx sy p m c cc nL s args own D ad cA) {j : Fin 4} {k : Nat} {x : Nat} (d : decode cc pc = .ok (.aload_n j, 1)) (hk : L[k]? = some ((j : Nat), .ref (x))) (kk : WM sy p l e R s m args below meth c nL D ad cA Q M (pc + 1) L (.ref (x) :: st)) : WM sy p l e R s m args below meth c nL D ad cA Q M pc L st := by
  intro H locs ls hP hT hS hl
  exact lv_aload_n C.1.1 C.1.2.1 d rfl (lv_at hl k hk) (kk H locs ls hP hT hS hl)
theorem r_al (C : Cx sy p m c cc nL s args own D ad cA) {j k : Nat} {x : Nat} (d : decode cc pc = .ok (.aload j, 2)) (hk : L[k]? = some (j, .ref (x))) (kk : WM sy p l e R s m args below meth c nL D ad cA Q M (pc + 2) L (.ref (x) :: st)) : WM sy p l e R s m args below meth c nL D ad cA Q M pc L st := by
  intro H locs ls hP hT hS hl
  exact lv_aload C.1.1 C.1.2.1 d (lv_at hl k hk) (kk H locs ls hP hT hS hl)
theorem r_asn (C : Cx sy p m c cc nL s args own D ad cA) {j : Fin 4} {L1 : List (Nat × Value)} {x : Nat} (d : decode cc pc = .ok (.astore_n j, 1)) (hn : (j : Nat) < nL) (h1 : ((j : Nat), Value.ref (x)) :: L.filter (fun q => !(q.1 == (j : Nat)) && !(q.1 + 1 == (j : Nat) && q.2.category == 2)) = L1) (kk : WM sy p l e R s m args below meth c nL D ad cA Q M (pc + 1) L1 st) : WM sy p l e R s m args below meth c nL D ad cA Q M pc L (.ref (x) :: st) := by
  intro H locs ls hP hT hS hl
  exact lv_astore_n C.1.1 C.1.2.1 d rfl hl hn h1 (fun ls hl => kk H locs ls hP hT hS hl)
theorem r_as (C : Cx sy p m c cc nL s args own D ad cA) {j : Nat} {L1 : List (Nat × Value)} {x : Nat} (d : decode cc pc = .ok (.astore j, 2)) (hn : j < nL) (h1 : (j, Value.ref (x)) :: L.filter (fun q => !(q.1 == j) && !(q.1 + 1 == j && q.2.category == 2)) = L1) (kk : WM sy p l e R s m args below meth c nL D ad cA Q M (pc + 2) L1 st) : WM sy p l e R s m args below meth c nL D ad cA Q M pc L (.ref (x) :: st) := by
  intro H locs ls hP hT hS hl
  exact lv_astore C.1.1 C.1.2.1 d hl hn h1 (fun ls hl => kk H locs ls hP hT hS hl)
theorem r_inc (C : Cx sy p m c cc nL s args own D ad cA) {j k : Nat} {n x : Int} {L1 : List (Nat × Value)} (d : decode cc pc = .ok (.iinc j n, 3)) (hk : L[k]? = some (j, .int (qI x))) (hn : j < nL) (h1 : (j, Value.int (qI (x + n))) :: L.filter (fun q => !(q.1 == j) && !(q.1 + 1 == j && q.2.category == 2)) = L1) (kk : WM sy p l e R s m args below meth c nL D ad cA Q M (pc + 3) L1 st) : WM sy p l e R s m args below meth c nL D ad cA Q M pc L st := by
  intro H locs ls hP hT hS hl
  exact lv_iinc C.1.1 C.1.2.1 d hl hk (qI_add x n).symm hn h1 (fun ls hl => kk H locs ls hP hT hS hl)
theorem r_drop {L1 : List (Nat × Value)} (ks : List Nat) (h1 : lv_pick L ks = L1) (kk : WM sy p l e R s m args below meth c nL D ad cA Q M pc L1 st) : WM sy p l e R s m args below meth c nL D ad cA Q M pc L st := by
  intro H locs ls hP hT hS hl
  exact kk H locs ls hP hT hS (lv_sub hl ks h1)
theorem r_iadd (C : Cx sy p m c cc nL s args own D ad cA) {x y : Int} (d : decode cc pc = .ok (.iadd, 1)) (kk : WM sy p l e R s m args below meth c nL D ad cA Q M (pc + 1) L (.int (qI (x + y)) :: st)) : WM sy p l e R s m args below meth c nL D ad cA Q M pc L (.int (qI y) :: .int (qI x) :: st) := by
  intro H locs ls hP hT hS hl
  refine lv_iadd C.1.1 C.1.2.1 d ?_
  rw [← qI_add]
  exact kk H locs ls hP hT hS hl
theorem r_isub (C : Cx sy p m c cc nL s args own D ad cA) {x y : Int} (d : decode cc pc = .ok (.isub, 1)) (kk : WM sy p l e R s m args below meth c nL D ad cA Q M (pc + 1) L (.int (qI (x - y)) :: st)) : WM sy p l e R s m args below meth c nL D ad cA Q M pc L (.int (qI y) :: .int (qI x) :: st) := by
  intro H locs ls hP hT hS hl
  refine lv_isub C.1.1 C.1.2.1 d ?_
  rw [← qI_sub]
  exact kk H locs ls hP hT hS hl
theorem r_imul (C : Cx sy p m c cc nL s args own D ad cA) {x y : Int} (d : decode cc pc = .ok (.imul, 1)) (kk : WM sy p l e R s m args below meth c nL D ad cA Q M (pc + 1) L (.int (qI (x * y)) :: st)) : WM sy p l e R s m args below meth c nL D ad cA Q M pc L (.int (qI y) :: .int (qI x) :: st) := by
  intro H locs ls hP hT hS hl
  refine lv_imul C.1.1 C.1.2.1 d ?_
  rw [← qI_mul]
  exact kk H locs ls hP hT hS hl
theorem r_iand (C : Cx sy p m c cc nL s args own D ad cA) {x y : Int} (d : decode cc pc = .ok (.iand, 1)) (kk : WM sy p l e R s m args below meth c nL D ad cA Q M (pc + 1) L (.int (qI (q_and x y)) :: st)) : WM sy p l e R s m args below meth c nL D ad cA Q M pc L (.int (qI y) :: .int (qI x) :: st) := by
  intro H locs ls hP hT hS hl
  refine lv_iand C.1.1 C.1.2.1 d ?_
  rw [q_and_I]
  exact kk H locs ls hP hT hS hl
theorem r_ior (C : Cx sy p m c cc nL s args own D ad cA) {x y : Int} (d : decode cc pc = .ok (.ior, 1)) (kk : WM sy p l e R s m args below meth c nL D ad cA Q M (pc + 1) L (.int (qI (q_or x y)) :: st)) : WM sy p l e R s m args below meth c nL D ad cA Q M pc L (.int (qI y) :: .int (qI x) :: st) := by
  intro H locs ls hP hT hS hl
  refine lv_ior C.1.1 C.1.2.1 d ?_
  rw [q_or_I]
  exact kk H locs ls hP hT hS hl
theorem r_ixor (C : Cx sy p m c cc nL s args own D ad cA) {x y : Int} (d : decode cc pc = .ok (.ixor, 1)) (kk : WM sy p l e R s m args below meth c nL D ad cA Q M (pc + 1) L (.int (qI (q_xor x y)) :: st)) : WM sy p l e R s m args below meth c nL D ad cA Q M pc L (.int (qI y) :: .int (qI x) :: st) := by
  intro H locs ls hP hT hS hl
  refine lv_ixor C.1.1 C.1.2.1 d ?_
  rw [q_xor_I]
  exact kk H locs ls hP hT hS hl
theorem r_ishl (C : Cx sy p m c cc nL s args own D ad cA) {x y : Int} (d : decode cc pc = .ok (.ishl, 1)) (kk : WM sy p l e R s m args below meth c nL D ad cA Q M (pc + 1) L (.int (qI (q_shl x y)) :: st)) : WM sy p l e R s m args below meth c nL D ad cA Q M pc L (.int (qI y) :: .int (qI x) :: st) := by
  intro H locs ls hP hT hS hl
  refine lv_ishl C.1.1 C.1.2.1 d ?_
  rw [q_shl_I]
  exact kk H locs ls hP hT hS hl
theorem r_ishr (C : Cx sy p m c cc nL s args own D ad cA) {x y : Int} (d : decode cc pc = .ok (.ishr, 1)) (kk : WM sy p l e R s m args below meth c nL D ad cA Q M (pc + 1) L (.int (qI (q_shr x y)) :: st)) : WM sy p l e R s m args below meth c nL D ad cA Q M pc L (.int (qI y) :: .int (qI x) :: st) := by
  intro H locs ls hP hT hS hl
  refine lv_ishr C.1.1 C.1.2.1 d ?_
  rw [q_shr_I]
  exact kk H locs ls hP hT hS hl
theorem r_ladd (C : Cx sy p m c cc nL s args own D ad cA) {x y : Int} (d : decode cc pc = .ok (.ladd, 1)) (kk : WM sy p l e R s m args below meth c nL D ad cA Q M (pc + 1) L (.long (qJ (x + y)) :: st)) : WM sy p l e R s m args below meth c nL D ad cA Q M pc L (.long (qJ y) :: .long (qJ x) :: st) := by
  intro H locs ls hP hT hS hl
  refine lv_ladd C.1.1 C.1.2.1 d ?_
  rw [← qJ_add]
  exact kk H locs ls hP hT hS hl
theorem r_lsub (C : Cx sy p m c cc nL s args own D ad cA) {x y : Int} (d : decode cc pc = .ok (.lsub, 1)) (kk : WM sy p l e R s m args below meth c nL D ad cA Q M (pc + 1) L (.long (qJ (x - y)) :: st)) : WM sy p l e R s m args below meth c nL D ad cA Q M pc L (.long (qJ y) :: .long (qJ x) :: st) := by
  intro H locs ls hP hT hS hl
  refine lv_lsub C.1.1 C.1.2.1 d ?_
  rw [← qJ_sub]
  exact kk H locs ls hP hT hS hl
theorem r_lmul (C : Cx sy p m c cc nL s args own D ad cA) {x y : Int} (d : decode cc pc = .ok (.lmul, 1)) (kk : WM sy p l e R s m args below meth c nL D ad cA Q M (pc + 1) L (.long (qJ (x * y)) :: st)) : WM sy p l e R s m args below meth c nL D ad cA Q M pc L (.long (qJ y) :: .long (qJ x) :: st) := by
  intro H locs ls hP hT hS hl
  refine lv_lmul C.1.1 C.1.2.1 d ?_
  rw [← qJ_mul]
  exact kk H locs ls hP hT hS hl
theorem r_land (C : Cx sy p m c cc nL s args own D ad cA) {x y : Int} (d : decode cc pc = .ok (.land, 1)) (kk : WM sy p l e R s m args below meth c nL D ad cA Q M (pc + 1) L (.long (qJ (q_land x y)) :: st)) : WM sy p l e R s m args below meth c nL D ad cA Q M pc L (.long (qJ y) :: .long (qJ x) :: st) := by
  intro H locs ls hP hT hS hl
  refine lv_land C.1.1 C.1.2.1 d ?_
  rw [q_land_I]
  exact kk H locs ls hP hT hS hl
theorem r_idiv (C : Cx sy p m c cc nL s args own D ad cA) {x y : Int} {K : Option α} (d : decode cc pc = .ok (.idiv, 1)) (h : q_nz y K = some RR) (kk : K = some RR → WM sy p l e R s m args below meth c nL D ad cA Q M (pc + 1) L (.int (qI ((w32 x).tdiv (w32 y))) :: st)) : WM sy p l e R s m args below meth c nL D ad cA Q M pc L (.int (qI y) :: .int (qI x) :: st) := by
  intro H locs ls hP hT hS hl
  unfold q_nz at h
  by_cases hy : w32 y = 0
  · rw [if_pos hy] at h; cases h
  · rw [if_neg hy] at h
    refine lv_idiv C.1.1 C.1.2.1 d (fun z => hy ?_) ?_
    · rw [← qI_toInt, z]; rfl
    · rw [qI_div]
      exact kk h H locs ls hP hT hS hl
theorem r_irem (C : Cx sy p m c cc nL s args own D ad cA) {x y : Int} {K : Option α} (d : decode cc pc = .ok (.irem, 1)) (h : q_nz y K = some RR) (kk : K = some RR → WM sy p l e R s m args below meth c nL D ad cA Q M (pc + 1) L (.int (qI ((w32 x).tmod (w32 y))) :: st)) : WM sy p l e R s m args below meth c nL D ad cA Q M pc L (.int (qI y) :: .int (qI x) :: st) := by
  intro H locs ls hP hT hS hl
  unfold q_nz at h
  by_cases hy : w32 y = 0
  · rw [if_pos hy] at h; cases h
  · rw [if_neg hy] at h
    refine lv_irem C.1.1 C.1.2.1 d (fun z => hy ?_) ?_
    · rw [← qI_toInt, z]; rfl
    · rw [qI_rem2]
      exact kk h H locs ls hP hT hS hl
theorem r_ldiv (C : Cx sy p m c cc nL s args own D ad cA) {x y : Int} {K : Option α} (d : decode cc pc = .ok (.ldiv, 1)) (h : q_nzl y K = some RR) (kk : K = some RR → WM sy p l e R s m args below meth c nL D ad cA Q M (pc + 1) L (.long (qJ ((w64 x).tdiv (w64 y))) :: st)) : WM sy p l e R s m args below meth c nL D ad cA Q M pc L (.long (qJ y) :: .long (qJ x) :: st) := by
  intro H locs ls hP hT hS hl
  unfold q_nzl at h
  by_cases hy : w64 y = 0
  · rw [if_pos hy] at h; cases h
  · rw [if_neg hy] at h
    refine lv_ldiv C.1.1 C.1.2.1 d (fun z => hy ?_) ?_
    · rw [← qJ_toInt, z]; rfl
    · rw [qJ_div]
      exact kk h H locs ls hP hT hS hl
theorem r_lrem (C : Cx sy p m c cc nL s args own D ad cA) {x y : Int} {K : Option α} (d : decode cc pc = .ok (.lrem, 1)) (h : q_nzl y K = some RR) (kk : K = some RR → WM sy p l e R s m args below meth c nL D ad cA Q M (pc + 1) L (.long (qJ ((w64 x).tmod (w64 y))) :: st)) : WM sy p l e R s m args below meth c nL D ad cA Q M pc L (.long (qJ y) :: .long (qJ x) :: st) := by
  intro H locs ls hP hT hS hl
  unfold q_nzl at h
  by_cases hy : w64 y = 0
  · rw [if_pos hy] at h; cases h
  · rw [if_neg hy] at h
    refine lv_lrem C.1.1 C.1.2.1 d (fun z => hy ?_) ?_
    · rw [← qJ_toInt, z]; rfl
    · rw [qJ_rem2]
      exact kk h H locs ls hP hT hS hl
theorem r_ineg (C : Cx sy p m c cc nL s args own D ad cA) {x : Int} (d : decode cc pc = .ok (.ineg, 1)) (kk : WM sy p l e R s m args below meth c nL D ad cA Q M (pc + 1) L (.int (qI (-x)) :: st)) : WM sy p l e R s m args below meth c nL D ad cA Q M pc L (.int (qI x) :: st) := by
  intro H locs ls hP hT hS hl
  refine lv_ineg C.1.1 C.1.2.1 d ?_
  rw [← qI_neg]
  exact kk H locs ls hP hT hS hl
theorem r_lneg (C : Cx sy p m c cc nL s args own D ad cA) {x : Int} (d : decode cc pc = .ok (.lneg, 1)) (kk : WM sy p l e R s m args below meth c nL D ad cA Q M (pc + 1) L (.long (qJ (-x)) :: st)) : WM sy p l e R s m args below meth c nL D ad cA Q M pc L (.long (qJ x) :: st) := by
  intro H locs ls hP hT hS hl
  refine lv_lneg C.1.1 C.1.2.1 d ?_
  rw [← qJ_neg]
  exact kk H locs ls hP hT hS hl
theorem r_iushr (C : Cx sy p m c cc nL s args own D ad cA) {x y : Int} (d : decode cc pc = .ok (.iushr, 1)) (kk : WM sy p l e R s m args below meth c nL D ad cA Q M (pc + 1) L (.int (qI (q_ushr x y)) :: st)) : WM sy p l e R s m args below meth c nL D ad cA Q M pc L (.int (qI y) :: .int (qI x) :: st) := by
  intro H locs ls hP hT hS hl
  exact lv_iushr C.1.1 C.1.2.1 d (q_ushr_I x y) (kk H locs ls hP hT hS hl)
theorem r_i2l (C : Cx sy p m c cc nL s args own D ad cA) {x : Int} (d : decode cc pc = .ok (.i2l, 1)) (kk : WM sy p l e R s m args below meth c nL D ad cA Q M (pc + 1) L (.long (qJ (w32 x)) :: st)) : WM sy p l e R s m args below meth c nL D ad cA Q M pc L (.int (qI x) :: st) := by
  intro H locs ls hP hT hS hl
  exact lv_i2l C.1.1 C.1.2.1 d (qI_i2l x) (kk H locs ls hP hT hS hl)
theorem r_l2i (C : Cx sy p m c cc nL s args own D ad cA) {x : Int} (d : decode cc pc = .ok (.l2i, 1)) (kk : WM sy p l e R s m args below meth c nL D ad cA Q M (pc + 1) L (.int (qI x) :: st)) : WM sy p l e R s m args below meth c nL D ad cA Q M pc L (.long (qJ x) :: st) := by
  intro H locs ls hP hT hS hl
  exact lv_l2i C.1.1 C.1.2.1 d (qJ_l2i x) (kk H locs ls hP hT hS hl)
theorem r_i2b (C : Cx sy p m c cc nL s args own D ad cA) {x : Int} (d : decode cc pc = .ok (.i2b, 1)) (kk : WM sy p l e R s m args below meth c nL D ad cA Q M (pc + 1) L (.int (qI (q_i2b x)) :: st)) : WM sy p l e R s m args below meth c nL D ad cA Q M pc L (.int (qI x) :: st) := by
  intro H locs ls hP hT hS hl
  exact lv_i2b C.1.1 C.1.2.1 d (q_i2b_I x) (kk H locs ls hP hT hS hl)
theorem r_lcmp (C : Cx sy p m c cc nL s args own D ad cA) {x y : Int} (d : decode cc pc = .ok (.lcmp, 1)) (kk : WM sy p l e R s m args below meth c nL D ad cA Q M (pc + 1) L (.int (qI (q_cmp x y)) :: st)) : WM sy p l e R s m args below meth c nL D ad cA Q M pc L (.long (qJ y) :: .long (qJ x) :: st) := by
  intro H locs ls hP hT hS hl
  refine W.lcmp C.1.1 C.1.2.1 d ?_
  rw [q_cmp_I]
  exact kk H locs ls hP hT hS hl
theorem r_dup (C : Cx sy p m c cc nL s args own D ad cA) {v : Value} (hc : v.category = 1) (d : decode cc pc = .ok (.dup, 1)) (kk : WM sy p l e R s m args below meth c nL D ad cA Q M (pc + 1) L (v :: v :: st)) : WM sy p l e R s m args below meth c nL D ad cA Q M pc L (v :: st) := by
  intro H locs ls hP hT hS hl
  exact lv_dup C.1.1 C.1.2.1 d hc (kk H locs ls hP hT hS hl)
theorem r_dup2 (C : Cx sy p m c cc nL s args own D ad cA) {v u : Value} (hc : v.category = 1) (hu : u.category = 1) (d : decode cc pc = .ok (.dup2, 1)) (kk : WM sy p l e R s m args below meth c nL D ad cA Q M (pc + 1) L (v :: u :: v :: u :: st)) : WM sy p l e R s m args below meth c nL D ad cA Q M pc L (v :: u :: st) := by
  intro H locs ls hP hT hS hl
  exact lv_dup2_11 C.1.1 C.1.2.1 d hc hu (kk H locs ls hP hT hS hl)
theorem r_pop (C : Cx sy p m c cc nL s args own D ad cA) {v : Value} (hc : v.category = 1) (d : decode cc pc = .ok (.pop, 1)) (kk : WM sy p l e R s m args below meth c nL D ad cA Q M (pc + 1) L st) : WM sy p l e R s m args below meth c nL D ad cA Q M pc L (v :: st) := by
  intro H locs ls hP hT hS hl
  exact lv_pop C.1.1 C.1.2.1 d hc (kk H locs ls hP hT hS hl)
theorem r_goto (C : Cx sy p m c cc nL s args own D ad cA) {off : Int} {tgt : Nat} (d : decode cc pc = .ok (.goto off, 3)) (ht : (pc : Int) + off = (tgt : Int)) (kk : WM sy p l e R s m args below meth c nL D ad cA Q M tgt L st) : WM sy p l e R s m args below meth c nL D ad cA Q M pc L st := by
  intro H locs ls hP hT hS hl
  exact lv_goto C.1.1 C.1.2.1 d ht (kk H locs ls hP hT hS hl)
theorem r_ceq (C : Cx sy p m c cc nL s args own D ad cA) {x y : Int} {off : Int} {tgt : Nat} {K1 K2 : Option α} (d : decode cc pc = .ok (.if_icmp .eq off, 3)) (ht : (pc : Int) + off = (tgt : Int)) (h : (if w32 x = w32 y then K1 else K2) = some RR) (k1 : K1 = some RR → WM sy p l e R s m args below meth c nL D ad cA Q M tgt L st) (k2 : K2 = some RR → WM sy p l e R s m args below meth c nL D ad cA Q M (pc + 3) L st) : WM sy p l e R s m args below meth c nL D ad cA Q M pc L (.int (qI y) :: .int (qI x) :: st) := by
  intro H locs ls hP hT hS hl
  by_cases hc : w32 x = w32 y
  · rw [if_pos hc] at h
    refine lv_icmp_eq C.1.1 C.1.2.1 d ht (fun _ => k1 h H locs ls hP hT hS hl) (fun q => absurd ?_ q)
    simpa [qI_lt, qI_le, qI_eq, Int.not_lt, Int.not_le, w32_0, ← qI_0] using hc
  · rw [if_neg hc] at h
    refine lv_icmp_eq C.1.1 C.1.2.1 d ht (fun q => absurd ?_ hc) (fun _ => k2 h H locs ls hP hT hS hl)
    simpa [qI_lt, qI_le, qI_eq, Int.not_lt, Int.not_le, w32_0, ← qI_0] using q
theorem r_zeq (C : Cx sy p m c cc nL s args own D ad cA) {x : Int} {off : Int} {tgt : Nat} {K1 K2 : Option α} (d : decode cc pc = .ok (.ifCond .eq off, 3)) (ht : (pc : Int) + off = (tgt : Int)) (h : (if w32 x = 0 then K1 else K2) = some RR) (k1 : K1 = some RR → WM sy p l e R s m args below meth c nL D ad cA Q M tgt L st) (k2 : K2 = some RR → WM sy p l e R s m args below meth c nL D ad cA Q M (pc + 3) L st) : WM sy p l e R s m args below meth c nL D ad cA Q M pc L (.int (qI x) :: st) := by
  intro H locs ls hP hT hS hl
  by_cases hc : w32 x = 0
  · rw [if_pos hc] at h
    refine lv_if_eq C.1.1 C.1.2.1 d ht (fun _ => k1 h H locs ls hP hT hS hl) (fun q => absurd ?_ q)
    simpa [qI_lt, qI_le, qI_eq, Int.not_lt, Int.not_le, w32_0, ← qI_0] using hc
  · rw [if_neg hc] at h
    refine lv_if_eq C.1.1 C.1.2.1 d ht (fun q => absurd ?_ hc) (fun _ => k2 h H locs ls hP hT hS hl)
    simpa [qI_lt, qI_le, qI_eq, Int.not_lt, Int.not_le, w32_0, ← qI_0] using q
theorem r_cne (C : Cx sy p m c cc nL s args own D ad cA) {x y : Int} {off : Int} {tgt : Nat} {K1 K2 : Option α} (d : decode cc pc = .ok (.if_icmp .ne off, 3)) (ht : (pc : Int) + off = (tgt : Int)) (h : (if ¬ w32 x = w32 y then K1 else K2) = some RR) (k1 : K1 = some RR → WM sy p l e R s m args below meth c nL D ad cA Q M tgt L st) (k2 : K2 = some RR → WM sy p l e R s m args below meth c nL D ad cA Q M (pc + 3) L st) : WM sy p l e R s m args below meth c nL D ad cA Q M pc L (.int (qI y) :: .int (qI x) :: st) := by
  intro H locs ls hP hT hS hl
  by_cases hc : ¬ w32 x = w32 y
  · rw [if_pos hc] at h
    refine lv_icmp_ne C.1.1 C.1.2.1 d ht (fun _ => k1 h H locs ls hP hT hS hl) (fun q => absurd ?_ hc)
    simpa [qI_lt, qI_le, qI_eq, Int.not_lt, Int.not_le, w32_0, ← qI_0] using q
  · rw [if_neg hc] at h
    refine lv_icmp_ne C.1.1 C.1.2.1 d ht (fun q => absurd ?_ hc) (fun _ => k2 h H locs ls hP hT hS hl)
    simpa [qI_lt, qI_le, qI_eq, Int.not_lt, Int.not_le, w32_0, ← qI_0] using q
theorem r_zne (C : Cx sy p m c cc nL s args own D ad cA) {x : Int} {off : Int} {tgt : Nat} {K1 K2 : Option α} (d : decode cc pc = .ok (.ifCond .ne off, 3)) (ht : (pc : Int) + off = (tgt : Int)) (h : (if ¬ w32 x = 0 then K1 else K2) = some RR) (k1 : K1 = some RR → WM sy p l e R s m args below meth c nL D ad cA Q M tgt L st) (k2 : K2 = some RR → WM sy p l e R s m args below meth c nL D ad cA Q M (pc + 3) L st) : WM sy p l e R s m args below meth c nL D ad cA Q M pc L (.int (qI x) :: st) := by
  intro H locs ls hP hT hS hl
  by_cases hc : ¬ w32 x = 0
  · rw [if_pos hc] at h
    refine lv_if_ne C.1.1 C.1.2.1 d ht (fun _ => k1 h H locs ls hP hT hS hl) (fun q => absurd ?_ hc)
    simpa [qI_lt, qI_le, qI_eq, Int.not_lt, Int.not_le, w32_0, ← qI_0] using q
  · rw [if_neg hc] at h
    refine lv_if_ne C.1.1 C.1.2.1 d ht (fun q => absurd ?_ hc) (fun _ => k2 h H locs ls hP hT hS hl)
    simpa [qI_lt, qI_le, qI_eq, Int.not_lt, Int.not_le, w32_0, ← qI_0] using q
theorem r_clt (C : Cx sy p m c cc nL s args own D ad cA) {x y : Int} {off : Int} {tgt : Nat} {K1 K2 : Option α} (d : decode cc pc = .ok (.if_icmp .lt off, 3)) (ht : (pc : Int) + off = (tgt : Int)) (h : (if w32 x < w32 y then K1 else K2) = some RR) (k1 : K1 = some RR → WM sy p l e R s m args below meth c nL D ad cA Q M tgt L st) (k2 : K2 = some RR → WM sy p l e R s m args below meth c nL D ad cA Q M (pc + 3) L st) : WM sy p l e R s m args below meth c nL D ad cA Q M pc L (.int (qI y) :: .int (qI x) :: st) := by
  intro H locs ls hP hT hS hl
  by_cases hc : w32 x < w32 y
  · rw [if_pos hc] at h
    refine lv_icmp_lt C.1.1 C.1.2.1 d ht (fun _ => k1 h H locs ls hP hT hS hl) (fun q => absurd ?_ q)
    simpa [qI_lt, qI_le, qI_eq, Int.not_lt, Int.not_le, w32_0, ← qI_0] using hc
  · rw [if_neg hc] at h
    refine lv_icmp_lt C.1.1 C.1.2.1 d ht (fun q => absurd ?_ hc) (fun _ => k2 h H locs ls hP hT hS hl)
    simpa [qI_lt, qI_le, qI_eq, Int.not_lt, Int.not_le, w32_0, ← qI_0] using q
theorem r_zlt (C : Cx sy p m c cc nL s args own D ad cA) {x : Int} {off : Int} {tgt : Nat} {K1 K2 : Option α} (d : decode cc pc = .ok (.ifCond .lt off, 3)) (ht : (pc : Int) + off = (tgt : Int)) (h : (if w32 x < 0 then K1 else K2) = some RR) (k1 : K1 = some RR → WM sy p l e R s m args below meth c nL D ad cA Q M tgt L st) (k2 : K2 = some RR → WM sy p l e R s m args below meth c nL D ad cA Q M (pc + 3) L st) : WM sy p l e R s m args below meth c nL D ad cA Q M pc L (.int (qI x) :: st) := by
  intro H locs ls hP hT hS hl
  by_cases hc : w32 x < 0
  · rw [if_pos hc] at h
    refine lv_if_lt C.1.1 C.1.2.1 d ht (fun _ => k1 h H locs ls hP hT hS hl) (fun q => absurd ?_ q)
    simpa [qI_lt, qI_le, qI_eq, Int.not_lt, Int.not_le, w32_0, ← qI_0] using hc
  · rw [if_neg hc] at h
    refine lv_if_lt C.1.1 C.1.2.1 d ht (fun q => absurd ?_ hc) (fun _ => k2 h H locs ls hP hT hS hl)
    simpa [qI_lt, qI_le, qI_eq, Int.not_lt, Int.not_le, w32_0, ← qI_0] using q
theorem r_cge (C : Cx sy p m c cc nL s args own D ad cA) {x y : Int} {off : Int} {tgt : Nat} {K1 K2 : Option α} (d : decode cc pc = .ok (.if_icmp .ge off, 3)) (ht : (pc : Int) + off = (tgt : Int)) (h : (if w32 y ≤ w32 x then K1 else K2) = some RR) (k1 : K1 = some RR → WM sy p l e R s m args below meth c nL D ad cA Q M tgt L st) (k2 : K2 = some RR → WM sy p l e R s m args below meth c nL D ad cA Q M (pc + 3) L st) : WM sy p l e R s m args below meth c nL D ad cA Q M pc L (.int (qI y) :: .int (qI x) :: st) := by
  intro H locs ls hP hT hS hl
  by_cases hc : w32 y ≤ w32 x
  · rw [if_pos hc] at h
    refine lv_icmp_ge C.1.1 C.1.2.1 d ht (fun _ => k1 h H locs ls hP hT hS hl) (fun q => absurd ?_ q)
    simpa [qI_lt, qI_le, qI_eq, Int.not_lt, Int.not_le, w32_0, ← qI_0] using hc
  · rw [if_neg hc] at h
    refine lv_icmp_ge C.1.1 C.1.2.1 d ht (fun q => absurd ?_ hc) (fun _ => k2 h H locs ls hP hT hS hl)
    simpa [qI_lt, qI_le, qI_eq, Int.not_lt, Int.not_le, w32_0, ← qI_0] using q
theorem r_zge (C : Cx sy p m c cc nL s args own D ad cA) {x : Int} {off : Int} {tgt : Nat} {K1 K2 : Option α} (d : decode cc pc = .ok (.ifCond .ge off, 3)) (ht : (pc : Int) + off = (tgt : Int)) (h : (if 0 ≤ w32 x then K1 else K2) = some RR) (k1 : K1 = some RR → WM sy p l e R s m args below meth c nL D ad cA Q M tgt L st) (k2 : K2 = some RR → WM sy p l e R s m args below meth c nL D ad cA Q M (pc + 3) L st) : WM sy p l e R s m args below meth c nL D ad cA Q M pc L (.int (qI x) :: st) := by
  intro H locs ls hP hT hS hl
  by_cases hc : 0 ≤ w32 x
  · rw [if_pos hc] at h
    refine lv_if_ge C.1.1 C.1.2.1 d ht (fun _ => k1 h H locs ls hP hT hS hl) (fun q => absurd ?_ q)
    simpa [qI_lt, qI_le, qI_eq, Int.not_lt, Int.not_le, w32_0, ← qI_0] using hc
  · rw [if_neg hc] at h
    refine lv_if_ge C.1.1 C.1.2.1 d ht (fun q => absurd ?_ hc) (fun _ => k2 h H locs ls hP hT hS hl)
    simpa [qI_lt, qI_le, qI_eq, Int.not_lt, Int.not_le, w32_0, ← qI_0] using q
theorem r_cgt (C : Cx sy p m c cc nL s args own D ad cA) {x y : Int} {off : Int} {tgt : Nat} {K1 K2 : Option α} (d : decode cc pc = .ok (.if_icmp .gt off, 3)) (ht : (pc : Int) + off = (tgt : Int)) (h : (if w32 y < w32 x then K1 else K2) = some RR) (k1 : K1 = some RR → WM sy p l e R s m args below meth c nL D ad cA Q M tgt L st) (k2 : K2 = some RR → WM sy p l e R s m args below meth c nL D ad cA Q M (pc + 3) L st) : WM sy p l e R s m args below meth c nL D ad cA Q M pc L (.int (qI y) :: .int (qI x) :: st) := by
  intro H locs ls hP hT hS hl
  by_cases hc : w32 y < w32 x
  · rw [if_pos hc] at h
    refine lv_icmp_gt C.1.1 C.1.2.1 d ht (fun _ => k1 h H locs ls hP hT hS hl) (fun q => absurd ?_ q)
    simpa [qI_lt, qI_le, qI_eq, Int.not_lt, Int.not_le, w32_0, ← qI_0] using hc
  · rw [if_neg hc] at h
    refine lv_icmp_gt C.1.1 C.1.2.1 d ht (fun q => absurd ?_ hc) (fun _ => k2 h H locs ls hP hT hS hl)
    simpa [qI_lt, qI_le, qI_eq, Int.not_lt, Int.not_le, w32_0, ← qI_0] using q
theorem r_zgt (C : Cx sy p m c cc nL s args own D ad cA) {x : Int} {off : Int} {tgt : Nat} {K1 K2 : Option α} (d : decode cc pc = .ok (.ifCond .gt off, 3)) (ht : (pc : Int) + off = (tgt : Int)) (h : (if 0 < w32 x then K1 else K2) = some RR) (k1 : K1 = some RR → WM sy p l e R s m args below meth c nL D ad cA Q M tgt L st) (k2 : K2 = some RR → WM sy p l e R s m args below meth c nL D ad cA Q M (pc + 3) L st) : WM sy p l e R s m args below meth c nL D ad cA Q M pc L (.int (qI x) :: st) := by
  intro H locs ls hP hT hS hl
  by_cases hc : 0 < w32 x
  · rw [if_pos hc] at h
    refine lv_if_gt C.1.1 C.1.2.1 d ht (fun _ => k1 h H locs ls hP hT hS hl) (fun q => absurd ?_ q)
    simpa [qI_lt, qI_le, qI_eq, Int.not_lt, Int.not_le, w32_0, ← qI_0] using hc
  · rw [if_neg hc] at h
    refine lv_if_gt C.1.1 C.1.2.1 d ht (fun q => absurd ?_ hc) (fun _ => k2 h H locs ls hP hT hS hl)
    simpa [qI_lt, qI_le, qI_eq, Int.not_lt, Int.not_le, w32_0, ← qI_0] using q
theorem r_cle (C : Cx sy p m c cc nL s args own D ad cA) {x y : Int} {off : Int} {tgt : Nat} {K1 K2 : Option α} (d : decode cc pc = .ok (.if_icmp .le off, 3)) (ht : (pc : Int) + off = (tgt : Int)) (h : (if w32 x ≤ w32 y then K1 else K2) = some RR) (k1 : K1 = some RR → WM sy p l e R s m args below meth c nL D ad cA Q M tgt L st) (k2 : K2 = some RR → WM sy p l e R s m args below meth c nL D ad cA Q M (pc + 3) L st) : WM sy p l e R s m args below meth c nL D ad cA Q M pc L (.int (qI y) :: .int (qI x) :: st) := by
  intro H locs ls hP hT hS hl
  by_cases hc : w32 x ≤ w32 y
  · rw [if_pos hc] at h
    refine lv_icmp_le C.1.1 C.1.2.1 d ht (fun _ => k1 h H locs ls hP hT hS hl) (fun q => absurd ?_ q)
    simpa [qI_lt, qI_le, qI_eq, Int.not_lt, Int.not_le, w32_0, ← qI_0] using hc
  · rw [if_neg hc] at h
    refine lv_icmp_le C.1.1 C.1.2.1 d ht (fun q => absurd ?_ hc) (fun _ => k2 h H locs ls hP hT hS hl)
    simpa [qI_lt, qI_le, qI_eq, Int.not_lt, Int.not_le, w32_0, ← qI_0] using q
theorem r_zle (C : Cx sy p m c cc nL s args own D ad cA) {x : Int} {off : Int} {tgt : Nat} {K1 K2 : Option α} (d : decode cc pc = .ok (.ifCond .le off, 3)) (ht : (pc : Int) + off = (tgt : Int)) (h : (if w32 x ≤ 0 then K1 else K2) = some RR) (k1 : K1 = some RR → WM sy p l e R s m args below meth c nL D ad cA Q M tgt L st) (k2 : K2 = some RR → WM sy p l e R s m args below meth c nL D ad cA Q M (pc + 3) L st) : WM sy p l e R s m args below meth c nL D ad cA Q M pc L (.int (qI x) :: st) := by
  intro H locs ls hP hT hS hl
  by_cases hc : w32 x ≤ 0
  · rw [if_pos hc] at h
    refine lv_if_le C.1.1 C.1.2.1 d ht (fun _ => k1 h H locs ls hP hT hS hl) (fun q => absurd ?_ q)
    simpa [qI_lt, qI_le, qI_eq, Int.not_lt, Int.not_le, w32_0, ← qI_0] using hc
  · rw [if_neg hc] at h
    refine lv_if_le C.1.1 C.1.2.1 d ht (fun q => absurd ?_ hc) (fun _ => k2 h H locs ls hP hT hS hl)
    simpa [qI_lt, qI_le, qI_eq, Int.not_lt, Int.not_le, w32_0, ← qI_0] using q
end QROWS
