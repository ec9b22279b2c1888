section QSTR2
variable {p : Program} {l : Launch} {e : Env} {R : Room} {s : State} {m : MethodId} {args : Array Value} {below : List Frame} {meth : Method} {c : Code} {cc : ByteArray} {nL : Nat} {own : String} {Q : State → Prop} {pc : Nat} {st : List Value} {H : Heap} {locs : List Loc} {ls : Array Slot} {kc ks : Nat}
theorem k_s_cv (C : CallFix p m c cc nL s args wsQ own) {y : MethodName} {bytes : ByteArray} {maxL : Nat} {ret : Option FieldType} {rm : Room} {As : List Value} {na idx a : Nat} {Cn : String} {rv : Option Value} {F : State → Prop} {stk : List Value} (hM : s_Met l y bytes maxL ret rm (.ref a :: As) F rv) (w : Cond.methodLink own idx y ∈ wsQ) (mw : q_mw Cn y bytes maxL ret na) (hr0 : rm.cells = 0 ∧ rm.slots = 0) (hR : (rm.frames + 1 ≤ R.frames ∧ 8 + (maxL + 11) + rm.locals ≤ R.locals) ∧ kc ≤ R.cells ∧ ks ≤ R.slots) (hF : (∀ (U : State) (g : JFrame) (mk : MethodId) (a : Array Value), F U → F (U.calling g mk a)) ∧ ∀ U : State, U.heap = H → s.WarmedH U.vm → F U) (ho : ∃ cellB : Cell, H[a]? = some cellB ∧ cellB.vm.isStatics = false ∧ s.vm.findClass Cn = some cellB.cls) (hn : As.length = na) (hstk : stk = As.reverse ++ .ref a :: st) (hW : (st.map fun v => v.category).sum ≤ 8) (hsz : ls.size = nL) (d : decode cc pc = .ok (.invokevirtual idx, 3)) (kk : W p l e R s m args below meth c H locs kc ks Q (F0 m (pc + 3) ls (rv.toList ++ st))) : W p l e R s m args below meth c H locs kc ks Q (F0 m pc ls stk) := by
  subst hstk
  have hr := va_runV (As := As) (rest := st) (cells := kc) (slots := ks) (H := H) (locs := locs) (below := below) (meth := meth) (e := e) (g := F0 m pc ls (As.reverse ++ .ref a :: st)) C hM (cwV na C.2.2.2.2 (q_goodV w mw) rfl hr0.1 hr0.2 mw.2 hR.1) ⟨fun a U g mk q => ⟨q.1, hF.1 U g mk a q.2⟩, ho, fun U hU hW => ⟨rfl, hF.2 U hU hW⟩⟩ rfl hn hsz rfl (lv_room hW) d ⟨hR.2.1, hR.2.2⟩
  intro T hT X
  obtain ⟨v, st₀, t, T', L2, h0, X', hL, e1, e2, ⟨hv, hh⟩, stp⟩ := hr T hT X
  cases hv
  have hL0 : L2 = [] := by
    cases L2 with
    | nil => rfl
    | cons q _ => exact (hL q List.mem_cons_self).elim
  subst hL0
  rw [List.append_nil] at X'
  obtain ⟨t2, a1, b1⟩ := kk T' (by rw [e1, hh, h0]) X'
  exact ⟨t2, stp t2 a1, b1⟩
end QSTR2
def fup (f : Int → Int) (i v : Int) : Int → Int := fun j => if j = i then v else f j
section QK2
variable {p : Program} {l : Launch} {e : Env} {R : Room} {s : State} {m : MethodId} {args : Array Value} {below : List Frame} {meth : Method} {c : Code} {cc : ByteArray} {nL : Nat} {own : String} {D : va_G} {cA : Nat → ClassId} {A : Nat → Prop} {b0 : Nat} {Q : State → Prop} {ws ws1 : va_W} {kc ks : Nat} {pc : Nat} {L : List (Nat × Value)} {st : List Value}
theorem k_il (C : CK p m c cc nL s args own D cA A b0) {j k : Nat} {x : Int} (d : decode cc pc = .ok (.iload j, 2)) (hk : L[k]? = some (j, .int (qI x))) (kk : KM p l e R s m args below meth c nL D A Q ws kc ks (pc + 2) L (.int (qI x) :: st)) : KM p l e R s m args below meth c nL D A Q ws kc ks pc L st := by
  intro H locs ls hP hD hS hl
  exact lv_iload C.1.1 C.1.2.1 d (lv_at hl k hk) (kk H locs ls hP hD hS hl)
theorem k_isn (C : CK p m c cc nL s args own D cA A b0) {j : Fin 4} {L1 : List (Nat × Value)} {x : Int} (d : decode cc pc = .ok (.istore_n j, 1)) (hn : (j : Nat) < nL) (h1 : ((j : Nat), Value.int (qI x)) :: L.filter (fun q => !(q.1 == (j : Nat)) && !(q.1 + 1 == (j : Nat) && q.2.category == 2)) = L1) (kk : KM p l e R s m args below meth c nL D A Q ws kc ks (pc + 1) L1 st) : KM p l e R s m args below meth c nL D A Q ws kc ks pc L (.int (qI x) :: st) := by
  intro H locs ls hP hD hS hl
  exact lv_istore_n C.1.1 C.1.2.1 d rfl hl hn h1 (fun ls hl => kk H locs ls hP hD hS hl)
theorem k_is (C : CK p m c cc nL s args own D cA A b0) {j : Nat} {L1 : List (Nat × Value)} {x : Int} (d : decode cc pc = .ok (.istore j, 2)) (hn : j < nL) (h1 : (j, Value.int (qI x)) :: L.filter (fun q => !(q.1 == j) && !(q.1 + 1 == j && q.2.category == 2)) = L1) (kk : KM p l e R s m args below meth c nL D A Q ws kc ks (pc + 2) L1 st) : KM p l e R s m args below meth c nL D A Q ws kc ks pc L (.int (qI x) :: st) := by
  intro H locs ls hP hD hS hl
  exact lv_istore C.1.1 C.1.2.1 d hl hn h1 (fun ls hl => kk H locs ls hP hD hS hl)
theorem k_inc (C : CK p m c cc nL s args own D cA A b0) {j k : Nat} {n x : Int} {L1 : List (Nat × Value)} (d : decode cc pc = .ok (.iinc j n, 3)) (hk : L[k]? = some (j, .int (qI x))) (hn : j < nL) (h1 : (j, Value.int (qI (x + n))) :: L.filter (fun q => !(q.1 == j) && !(q.1 + 1 == j && q.2.category == 2)) = L1) (kk : KM p l e R s m args below meth c nL D A Q ws kc ks (pc + 3) L1 st) : KM p l e R s m args below meth c nL D A Q ws kc ks pc L st := by
  intro H locs ls hP hD hS hl
  exact lv_iinc C.1.1 C.1.2.1 d hl hk (qI_add x n).symm hn h1 (fun ls hl => kk H locs ls hP hD hS hl)
theorem k_drop {L1 : List (Nat × Value)} (ks' : List Nat) (h1 : lv_pick L ks' = L1) (kk : KM p l e R s m args below meth c nL D A Q ws kc ks pc L1 st) : KM p l e R s m args below meth c nL D A Q ws kc ks pc L st := by
  intro H locs ls hP hD hS hl
  exact kk H locs ls hP hD hS (lv_sub hl ks' h1)
theorem k_goto (C : CK p m c cc nL s args own D cA A b0) {off : Int} {tgt : Nat} (d : decode cc pc = .ok (.goto off, 3)) (ht : (pc : Int) + off = (tgt : Int)) (kk : KM p l e R s m args below meth c nL D A Q ws kc ks tgt L st) : KM p l e R s m args below meth c nL D A Q ws kc ks pc L st := by
  intro H locs ls hP hD hS hl
  exact lv_goto C.1.1 C.1.2.1 d ht (kk H locs ls hP hD hS hl)
theorem k_dup2 (C : CK p m c cc nL s args own D cA A b0) {v u : Value} (hc : v.category = 1) (hu : u.category = 1) (d : decode cc pc = .ok (.dup2, 1)) (kk : KM p l e R s m args below meth c nL D A Q ws kc ks (pc + 1) L (v :: u :: v :: u :: st)) : KM p l e R s m args below meth c nL D A Q ws kc ks pc L (v :: u :: st) := by
  intro H locs ls hP hD hS hl
  exact lv_dup2_11 C.1.1 C.1.2.1 d hc hu (kk H locs ls hP hD hS hl)
theorem k_cge (C : CK p m c cc nL s args own D cA A b0) {x y : Int} {off : Int} {tgt : Nat} (d : decode cc pc = .ok (.if_icmp .ge off, 3)) (ht : (pc : Int) + off = (tgt : Int)) (k1 : w32 y ≤ w32 x → KM p l e R s m args below meth c nL D A Q ws kc ks tgt L st) (k2 : ¬ w32 y ≤ w32 x → KM p l e R s m args below meth c nL D A Q ws kc ks (pc + 3) L st) : KM p l e R s m args below meth c nL D A Q ws kc ks pc L (.int (qI y) :: .int (qI x) :: st) := by
  intro H locs ls hP hD hS hl
  exact lv_icmp_ge C.1.1 C.1.2.1 d ht (fun q => k1 (qI_le.mp q) H locs ls hP hD hS hl) (fun q => k2 (fun z => q (qI_le.mpr z)) H locs ls hP hD hS hl)
theorem k_cne (C : CK p m c cc nL s args own D cA A b0) {x y : Int} {off : Int} {tgt : Nat} (d : decode cc pc = .ok (.if_icmp .ne off, 3)) (ht : (pc : Int) + off = (tgt : Int)) (k1 : ¬ w32 x = w32 y → KM p l e R s m args below meth c nL D A Q ws kc ks tgt L st) (k2 : w32 x = w32 y → KM p l e R s m args below meth c nL D A Q ws kc ks (pc + 3) L st) : KM p l e R s m args below meth c nL D A Q ws kc ks pc L (.int (qI y) :: .int (qI x) :: st) := by
  intro H locs ls hP hD hS hl
  exact lv_icmp_ne C.1.1 C.1.2.1 d ht (fun q => k1 (fun z => q (qI_eq.mpr z)) H locs ls hP hD hS hl) (fun q => k2 (qI_eq.mp q) H locs ls hP hD hS hl)
theorem k_iadd (C : CK p m c cc nL s args own D cA A b0) {x y : Int} (d : decode cc pc = .ok (.iadd, 1)) (kk : KM p l e R s m args below meth c nL D A Q ws kc ks (pc + 1) L (.int (qI (x + y)) :: st)) : KM p l e R s m args below meth c nL D A Q ws kc ks pc L (.int (qI y) :: .int (qI x) :: st) := by
  intro H locs ls hP hD hS hl
  refine lv_iadd C.1.1 C.1.2.1 d ?_
  rw [← qI_add]
  exact kk H locs ls hP hD hS hl
theorem k_isub (C : CK p m c cc nL s args own D cA A b0) {x y : Int} (d : decode cc pc = .ok (.isub, 1)) (kk : KM p l e R s m args below meth c nL D A Q ws kc ks (pc + 1) L (.int (qI (x - y)) :: st)) : KM p l e R s m args below meth c nL D A Q ws kc ks pc L (.int (qI y) :: .int (qI x) :: st) := by
  intro H locs ls hP hD hS hl
  refine lv_isub C.1.1 C.1.2.1 d ?_
  rw [← qI_sub]
  exact kk H locs ls hP hD hS hl
theorem k_imul (C : CK p m c cc nL s args own D cA A b0) {x y : Int} (d : decode cc pc = .ok (.imul, 1)) (kk : KM p l e R s m args below meth c nL D A Q ws kc ks (pc + 1) L (.int (qI (x * y)) :: st)) : KM p l e R s m args below meth c nL D A Q ws kc ks pc L (.int (qI y) :: .int (qI x) :: st) := by
  intro H locs ls hP hD hS hl
  refine lv_imul C.1.1 C.1.2.1 d ?_
  rw [← qI_mul]
  exact kk H locs ls hP hD hS hl
theorem k_ior (C : CK p m c cc nL s args own D cA A b0) {x y : Int} (d : decode cc pc = .ok (.ior, 1)) (kk : KM p l e R s m args below meth c nL D A Q ws kc ks (pc + 1) L (.int (qI (q_or x y)) :: st)) : KM p l e R s m args below meth c nL D A Q ws kc ks pc L (.int (qI y) :: .int (qI x) :: st) := by
  intro H locs ls hP hD hS hl
  refine lv_ior C.1.1 C.1.2.1 d ?_
  rw [q_or_I]
  exact kk H locs ls hP hD hS hl
theorem k_ishl (C : CK p m c cc nL s args own D cA A b0) {x y : Int} (d : decode cc pc = .ok (.ishl, 1)) (kk : KM p l e R s m args below meth c nL D A Q ws kc ks (pc + 1) L (.int (qI (q_shl x y)) :: st)) : KM p l e R s m args below meth c nL D A Q ws kc ks pc L (.int (qI y) :: .int (qI x) :: st) := by
  intro H locs ls hP hD hS hl
  refine lv_ishl C.1.1 C.1.2.1 d ?_
  rw [q_shl_I]
  exact kk H locs ls hP hD hS hl
theorem k_iald (C : CK p m c cc nL s args own D cA A b0) (q0 : Nat) {a n : Nat} {f : Int → Int} {i : Int} (he : ws[q0]? = some (a, .inl (cA 2, n, .inl (fun j : Nat => qI (f (j : Int)))))) (hb : 0 ≤ w32 i ∧ w32 i < (n : Int)) (d : decode cc pc = .ok (.iaload, 1)) (kk : KM p l e R s m args below meth c nL D A Q ws kc ks (pc + 1) L (.int (qI (f (w32 i))) :: st)) : KM p l e R s m args below meth c nL D A Q ws kc ks pc L (.int (qI i) :: .ref a :: st) := by
  intro H locs ls hP hD hS hl
  obtain ⟨hin, hix⟩ := q_inw hb
  refine va_iald C.1.1 C.1.2.1 C.2.1 hP q0 0 he rfl hin d ?_
  have h2 := kk H locs ls hP hD hS hl
  rw [← hix] at h2
  exact h2
theorem k_iast (C : CK p m c cc nL s args own D cA A b0) (q0 : Nat) {a n : Nat} {f : Int → Int} {i v : Int} (he : ws[q0]? = some (a, .inl (cA 2, n, .inl (fun j : Nat => qI (f (j : Int)))))) (hb : 0 ≤ w32 i ∧ w32 i < (n : Int)) (h1 : ws.set q0 (a, .inl (cA 2, n, .inl (fun j : Nat => qI (fup f (w32 i) v (j : Int))))) = ws1) (d : decode cc pc = .ok (.iastore, 1)) (kk : KM p l e R s m args below meth c nL D A Q ws1 kc ks (pc + 1) L st) : KM p l e R s m args below meth c nL D A Q ws kc ks pc L (.int (qI v) :: .int (qI i) :: .ref a :: st) := by
  intro H locs ls hP hD hS hl
  obtain ⟨hin, hix⟩ := q_inw hb
  refine va_iast C.1.1 C.1.2.1 C.2.1 hP hD hS q0 0 he rfl hin d (fun H1 locs1 hP1 hD1 hS1 => ?_)
  have e9 : (upd (fun j : Nat => qI (f (j : Int))) (qI i).toNatClampNeg (qI v)) = fun j : Nat => qI (fup f (w32 i) v (j : Int)) := by
    funext j
    unfold upd fup
    by_cases hj : j = (qI i).toNatClampNeg
    · rw [if_pos hj, if_pos (by rw [hj, hix])]
    · rw [if_neg hj, if_neg (fun z => hj (by rw [← hix] at z; omega))]
  rw [e9, h1] at hP1 hD1
  exact kk H1 locs1 ls hP1 hD1 hS1 hl
theorem k_ldcS (C : CK p m c cc nL s args own D cA A b0) {idx : Nat} (hx : ∃ a, vk_R own idx q_tx a s ∧ q_str (fun q => b0 ≤ q) s s.heap a) (d : decode cc pc = .ok (.ldc idx, 2)) (kk : ∀ a : Nat, q_str (fun q => b0 ≤ q) s s.heap a → KM p l e R s m args below meth c nL D A Q ws kc ks (pc + 2) L (.ref a :: st)) : KM p l e R s m args below meth c nL D A Q ws kc ks pc L st := by
  intro H locs ls hP hD hS hl
  obtain ⟨a, h1, h2⟩ := hx
  exact va_ldcS C.1.1 C.1.2.1 C.1.2.2.2.1 h1 d (kk a h2 H locs ls hP hD hS hl)
theorem k_slen (C : CK p m c cc nL s args own D cA A b0) {idx a : Nat}  (ha : q_str (fun q => b0 ≤ q) s s.heap a) (w : Cond.methodLink own idx yJ0_length_8abf5 ∈ wsQ) (hR : (2 ≤ R.frames ∧ 60 ≤ R.locals) ∧ kc ≤ R.cells ∧ ks ≤ R.slots) (hW : (st.map fun v => v.category).sum ≤ 8) (d : decode cc pc = .ok (.invokevirtual idx, 3)) (kk : KM p l e R s m args below meth c nL D A Q ws kc ks (pc + 3) L (.int (qI 97) :: st)) : KM p l e R s m args below meth c nL D A Q ws kc ks pc L (.ref a :: st) := by
  intro H locs ls hP hD hS hl
  have hk9 : ∀ q : Nat, q < s.heap.size → ¬ b0 ≤ q → H[q]? = s.heap[q]? := fun q h1 h2 => hS.2.1 q h1 (fun z => h2 (C.2.2.2.1 q z))
  have ho : ∃ cellB : Cell, H[a]? = some cellB ∧ cellB.vm.isStatics = false ∧ s.vm.findClass RJ0 = some cellB.cls := by
    obtain ⟨v, h1, -⟩ := ha.moved (U := s) (Vm.Alike.refl _) hk9
    obtain ⟨cell, g1, g2, g3, -⟩ := h1
    exact ⟨cell, g1, g2, g3⟩
  have hk := kk H locs ls hP hD hS hl
  exact k_s_cv C.1 (st := st) (c_J0l l (fun q => b0 ≤ q) a) w mv_J0l ⟨rfl, rfl⟩ hR ⟨s_F.blind, fun U hU hW => by unfold s_F; rw [hU]; exact ⟨C.2.2.2.2.2.2.1.moved hW.alike hk9, ha.moved hW.alike hk9⟩⟩ ho rfl rfl hW hl.1 d hk
theorem k_sch (C : CK p m c cc nL s args own D cA A b0) {idx a : Nat} {i : Int} (hb : 0 ≤ w32 i ∧ w32 i < 97) (ha : q_str (fun q => b0 ≤ q) s s.heap a) (w : Cond.methodLink own idx yJ0_charAt_5068e ∈ wsQ) (hR : (4 ≤ R.frames ∧ 141 ≤ R.locals) ∧ kc ≤ R.cells ∧ ks ≤ R.slots) (hW : (st.map fun v => v.category).sum ≤ 8) (d : decode cc pc = .ok (.invokevirtual idx, 3)) (kk : KM p l e R s m args below meth c nL D A Q ws kc ks (pc + 3) L (.int (qI (q_wc (w32 i))) :: st)) : KM p l e R s m args below meth c nL D A Q ws kc ks pc L (.int (qI i) :: .ref a :: st) := by
  intro H locs ls hP hD hS hl
  have hk9 : ∀ q : Nat, q < s.heap.size → ¬ b0 ≤ q → H[q]? = s.heap[q]? := fun q h1 h2 => hS.2.1 q h1 (fun z => h2 (C.2.2.2.1 q z))
  have ho : ∃ cellB : Cell, H[a]? = some cellB ∧ cellB.vm.isStatics = false ∧ s.vm.findClass RJ0 = some cellB.cls := by
    obtain ⟨v, h1, -⟩ := ha.moved (U := s) (Vm.Alike.refl _) hk9
    obtain ⟨cell, g1, g2, g3, -⟩ := h1
    exact ⟨cell, g1, g2, g3⟩
  have hk := kk H locs ls hP hD hS hl
  have hix := (q_inw (len := 97) hb).2
  unfold q_wc at hk
  rw [qI_of, ← hix, Int.toNat_natCast] at hk
  exact k_s_cv C.1 (st := st) (c_J0h l (fun q => b0 ≤ q) a (qI i) (q_inw (len := 97) hb).1) w mv_J0c ⟨rfl, rfl⟩ hR ⟨s_F.blind, fun U hU hW => by unfold s_F; rw [hU]; exact ⟨C.2.2.2.2.2.2.1.moved hW.alike hk9, ha.moved hW.alike hk9⟩⟩ ho rfl rfl hW hl.1 d hk
end QK2
def tokF : Nat → Int → Int → Int → (Int → Int) → Option (Int → Int)
  | 0, _, _, _, _ => none
  | n + 1, wd, lt, i, f =>
    if w32 97 ≤ w32 i then some f
    else if w32 20 ≤ w32 wd then some f
    else if 0 ≤ w32 i ∧ w32 i < 97 then
      (if ¬ w32 (q_wc (w32 i)) = w32 32 then
        (if 0 ≤ w32 wd ∧ w32 wd < 20 then tokF n wd (lt + 1) (i + 1) (fup f (w32 wd) (q_or (f (w32 wd)) (q_shl (q_wc (w32 i) - 97 + 1) (5 * (5 - lt))))) else none)
      else tokF n (wd + 1) 0 (i + 1) f)
    else none
def tokR : Int → Int := (tokF 200 0 0 0 (fun _ => 0)).getD (fun _ => 0)
theorem tokR_ok : tokF 200 0 0 0 (fun _ => 0) = some tokR := by
  have h : (tokF 200 0 0 0 (fun _ => 0)).isSome = true := by decide +kernel
  unfold tokR
  cases hq : tokF 200 0 0 0 (fun _ => 0) with
  | none => rw [hq] at h; cases h
  | some f => rfl
theorem tmo_X7_init : Cond.methodLink RX7 3 objectInit ∈ wsQ := wq_1 (List.mem_of_getElem? (i := 178) rfl) rfl
def w_X7_init (cA : Nat → ClassId) (h0 p0 : Nat) (q : Nat → Nat) : va_W := [(h0, .inr (7, [.ref (q 0), .ref p0, .int (qI 0), .int (qI 0), .int (qI 35), .int (qI 0), .int (qI 0)])), (q 0, .inl (cA 2, 20, .inl (fun j : Nat => qI (tokR (j : Int)))))]
abbrev rm_X7_init : Room := { frames := 5, cells := 1, slots := 20, locals := 200 }
theorem tok_loop {p : Program} {l : Launch} {e : Env} {s : State} {m : MethodId} {args : Array Value} {below : List Frame} {meth : Method} {c : Code} {D : va_G} {cA : Nat → ClassId} {b0 h0 p0 q7 : Nat} (C : CK p m c cX7_init 5 s args RX7 D cA (va_A [(h0, .inr (7, [.null, .null, .int (qI 0), .int (qI 0), .int (qI 0), .int (qI 0), .int (qI 0)]))] s.heap.size) b0) (hr : meth.sig.returnType = none) (hlk : meth.locks = false) : ∀ (n : Nat) (wd lt i : Int) (f : Int → Int), tokF n wd lt i f = some tokR → KM p l e rm_X7_init s m args below meth c 5 D (va_A [(h0, .inr (7, [.null, .null, .int (qI 0), .int (qI 0), .int (qI 0), .int (qI 0), .int (qI 0)]))] s.heap.size) (MQ below (k_Post D [(h0, .inr (7, [.null, .null, .int (qI 0), .int (qI 0), .int (qI 0), .int (qI 0), .int (qI 0)]))] (w_X7_init cA h0 p0)) args s 1 20 (va_A [(h0, .inr (7, [.null, .null, .int (qI 0), .int (qI 0), .int (qI 0), .int (qI 0), .int (qI 0)]))] s.heap.size)) [(h0, .inr (7, [.ref q7, .ref p0, .int (qI 0), .int (qI 0), .int (qI 35), .int (qI 0), .int (qI 0)])), (q7, .inl (cA 2, 20, .inl (fun j : Nat => qI (f (j : Int)))))] 1 20 50 [(0, .ref h0), (1, .ref p0), (2, .int (qI wd)), (3, .int (qI lt)), (4, .int (qI i))] [] := by
  intro n
  induction n with
  | zero => intro wd lt i f h; cases h
  | succ n ih =>
    intro wd lt i f h
    unfold tokF at h
    have done : f = tokR → ∀ L, KM p l e rm_X7_init s m args below meth c 5 D (va_A [(h0, .inr (7, [.null, .null, .int (qI 0), .int (qI 0), .int (qI 0), .int (qI 0), .int (qI 0)]))] s.heap.size) (MQ below (k_Post D [(h0, .inr (7, [.null, .null, .int (qI 0), .int (qI 0), .int (qI 0), .int (qI 0), .int (qI 0)]))] (w_X7_init cA h0 p0)) args s 1 20 (va_A [(h0, .inr (7, [.null, .null, .int (qI 0), .int (qI 0), .int (qI 0), .int (qI 0), .int (qI 0)]))] s.heap.size)) [(h0, .inr (7, [.ref q7, .ref p0, .int (qI 0), .int (qI 0), .int (qI 35), .int (qI 0), .int (qI 0)])), (q7, .inl (cA 2, 20, .inl (fun j : Nat => qI (f (j : Int)))))] 1 20 122 L [] := fun hf L => by
      rw [hf]
      exact k_ret C hr hlk (fun _ => q7) [0, 1] (by decide) rfl rfl dX7_init_122
    refine k_il C dX7_init_50 (k := 4) rfl ?_
    refine k_ldcS C C.2.2.2.2.2.2.2.2 dX7_init_52 (fun sa hsa => ?_)
    refine k_slen C hsa tm_RX7_37 ⟨⟨Nat.le_of_ble_eq_true rfl, Nat.le_of_ble_eq_true rfl⟩, Nat.le_of_ble_eq_true rfl, Nat.le_of_ble_eq_true rfl⟩ (Nat.le_of_ble_eq_true rfl) dX7_init_54 ?_
    refine k_cge C (tgt := 122) dX7_init_57 (by decide) (fun z => ?_) (fun z => ?_)
    · rw [if_pos z] at h
      exact done (Option.some.inj h) _
    rw [if_neg z] at h
    refine k_iln C dX7_init_60 (k := 2) rfl ?_
    refine k_bi C dX7_init_61 (by decide) ?_
    refine k_cge C (tgt := 122) dX7_init_63 (by decide) (fun z2 => ?_) (fun z2 => ?_)
    · rw [if_pos z2] at h
      exact done (Option.some.inj h) _
    rw [if_neg z2] at h
    by_cases hb : 0 ≤ w32 i ∧ w32 i < 97
    case neg => rw [if_neg hb] at h; cases h
    rw [if_pos hb] at h
    refine k_ldcS C C.2.2.2.2.2.2.2.2 dX7_init_66 (fun sb hsb => ?_)
    refine k_il C dX7_init_68 (k := 4) rfl ?_
    refine k_sch C hb hsb tm_RX7_42 ⟨⟨Nat.le_of_ble_eq_true rfl, Nat.le_of_ble_eq_true rfl⟩, Nat.le_of_ble_eq_true rfl, Nat.le_of_ble_eq_true rfl⟩ (Nat.le_of_ble_eq_true rfl) dX7_init_70 ?_
    refine k_bi C dX7_init_73 (by decide) ?_
    refine k_cne C (tgt := 86) dX7_init_75 (by decide) (fun z3 => ?_) (fun z3 => ?_)
    · rw [if_pos z3] at h
      by_cases hw : 0 ≤ w32 wd ∧ w32 wd < 20
      case neg => rw [if_neg hw] at h; cases h
      rw [if_pos hw] at h
      refine k_aln C dX7_init_86 (k := 0) rfl ?_
      refine k_gf C 0 0 (v := .ref q7) clX7 rfl rfl (by decide) rfl tf_RX7_9 dX7_init_87 ?_
      refine k_iln C dX7_init_90 (k := 2) rfl ?_
      refine k_dup2 C rfl rfl dX7_init_91 ?_
      refine k_iald C 1 (n := 20) (f := f) rfl hw dX7_init_92 ?_
      refine k_ldcS C C.2.2.2.2.2.2.2.2 dX7_init_93 (fun sc hsc => ?_)
      refine k_il C dX7_init_95 (k := 4) rfl ?_
      refine k_sch C hb hsc tm_RX7_42 ⟨⟨Nat.le_of_ble_eq_true rfl, Nat.le_of_ble_eq_true rfl⟩, Nat.le_of_ble_eq_true rfl, Nat.le_of_ble_eq_true rfl⟩ (Nat.le_of_ble_eq_true rfl) dX7_init_97 ?_
      refine k_bi C dX7_init_100 (by decide) ?_
      refine k_isub C dX7_init_102 ?_
      refine k_ic C dX7_init_103 ?_
      refine k_iadd C dX7_init_104 ?_
      refine k_ic C dX7_init_105 ?_
      refine k_ic C dX7_init_106 ?_
      refine k_iln C dX7_init_107 (k := 3) rfl ?_
      refine k_isub C dX7_init_108 ?_
      refine k_imul C dX7_init_109 ?_
      refine k_ishl C dX7_init_110 ?_
      refine k_ior C dX7_init_111 ?_
      refine k_iast C 1 (n := 20) (f := f) (ws1 := [(h0, .inr (7, [.ref q7, .ref p0, .int (qI 0), .int (qI 0), .int (qI 35), .int (qI 0), .int (qI 0)])), (q7, .inl (cA 2, 20, .inl (fun j : Nat => qI (fup f (w32 wd) (q_or (f (w32 wd)) (q_shl (q_wc (w32 i) - 97 + 1) (5 * (5 - lt)))) (j : Int)))))]) rfl hw rfl dX7_init_112 ?_
      refine k_inc C (L1 := [(3, .int (qI (lt + 1))), (0, .ref h0), (1, .ref p0), (2, .int (qI wd)), (4, .int (qI i))]) dX7_init_113 (k := 3) rfl (by decide) rfl ?_
      refine k_inc C (L1 := [(4, .int (qI (i + 1))), (3, .int (qI (lt + 1))), (0, .ref h0), (1, .ref p0), (2, .int (qI wd))]) dX7_init_116 (k := 4) rfl (by decide) rfl ?_
      refine k_goto C (tgt := 50) dX7_init_119 (by decide) ?_
      refine k_drop [2, 3, 4, 1, 0] rfl ?_
      exact ih wd (lt + 1) (i + 1) _ h
    · rw [if_neg (fun z => z z3)] at h
      refine k_inc C (L1 := [(2, .int (qI (wd + 1))), (0, .ref h0), (1, .ref p0), (3, .int (qI lt)), (4, .int (qI i))]) dX7_init_78 (k := 2) rfl (by decide) rfl ?_
      refine k_ic C dX7_init_81 ?_
      refine k_isn C (L1 := [(3, .int (qI 0)), (2, .int (qI (wd + 1))), (0, .ref h0), (1, .ref p0), (4, .int (qI i))]) dX7_init_82 (by decide) rfl ?_
      refine k_goto C (tgt := 116) dX7_init_83 (by decide) ?_
      refine k_inc C (L1 := [(4, .int (qI (i + 1))), (3, .int (qI 0)), (2, .int (qI (wd + 1))), (0, .ref h0), (1, .ref p0)]) dX7_init_116 (k := 4) rfl (by decide) rfl ?_
      refine k_goto C (tgt := 50) dX7_init_119 (by decide) ?_
      refine k_drop [3, 4, 2, 1, 0] rfl ?_
      exact ih (wd + 1) 0 (i + 1) f h
set_option maxRecDepth 20000 in
theorem k_X7_init (l : Launch) (b0 : Nat) (D : va_G) (cA : Nat → ClassId) (h0 p0 : Nat) : k_Met l b0 D cA yX7_init cX7_init 5 rm_X7_init [.ref h0, .ref p0] [(h0, .inr (7, [.null, .null, .int (qI 0), .int (qI 0), .int (qI 0), .int (qI 0), .int (qI 0)]))] (w_X7_init cA h0 p0) 1 20 := by
  refine k_met (L0 := [(0, .ref h0), (1, .ref p0)]) (by decide) (Nat.le_of_ble_eq_true rfl) rfl rfl ?_
  intro p e s m args below meth c C hr hlk hin
  refine k_aln C dX7_init_0 (k := 0) rfl ?_
  refine k_obj C (tmo_X7_init) ⟨Nat.le_of_ble_eq_true rfl, Nat.le_of_ble_eq_true rfl⟩ dX7_init_1 ?_
  refine k_aln C dX7_init_4 (k := 0) rfl ?_
  refine k_bi C dX7_init_5 (by decide) ?_
  refine k_nI C (by decide) (N' := 20) (by decide) (by decide) ⟨Nat.le_of_ble_eq_true rfl, Nat.le_of_ble_eq_true rfl⟩ dX7_init_7 (fun q7 => ?_)
  refine k_eq (ws1 := [(h0, .inr (7, [.null, .null, .int (qI 0), .int (qI 0), .int (qI 0), .int (qI 0), .int (qI 0)])), (q7, .inl (cA 2, 20, .inl (fun _ => qI 0)))]) rfl ?_
  refine k_pF C 0 0 (v := .ref q7) (ty := (.array .int)) (ws1 := [(h0, .inr (7, [.ref q7, .null, .int (qI 0), .int (qI 0), .int (qI 0), .int (qI 0), .int (qI 0)])), (q7, .inl (cA 2, 20, .inl (fun _ => qI 0)))]) hin rfl clX7 rfl rfl (by decide) (Nat.le_of_ble_eq_true rfl) (by decide +kernel) rfl rfl tf_RX7_9 rfl dX7_init_9 ?_
  refine k_aln C dX7_init_12 (k := 0) rfl ?_
  refine k_ic C dX7_init_13 ?_
  refine k_pf C 0 2 (v := .int (qI 0)) (ty := .int) (ws1 := [(h0, .inr (7, [.ref q7, .null, .int (qI 0), .int (qI 0), .int (qI 0), .int (qI 0), .int (qI 0)])), (q7, .inl (cA 2, 20, .inl (fun _ => qI 0)))]) clX7 rfl rfl (by decide) (Nat.le_of_ble_eq_true rfl) (by decide +kernel) rfl rfl tf_RX7_15 rfl dX7_init_14 ?_
  refine k_aln C dX7_init_17 (k := 0) rfl ?_
  refine k_ic C dX7_init_18 ?_
  refine k_pf C 0 3 (v := .int (qI 0)) (ty := .int) (ws1 := [(h0, .inr (7, [.ref q7, .null, .int (qI 0), .int (qI 0), .int (qI 0), .int (qI 0), .int (qI 0)])), (q7, .inl (cA 2, 20, .inl (fun _ => qI 0)))]) clX7 rfl rfl (by decide) (Nat.le_of_ble_eq_true rfl) (by decide +kernel) rfl rfl tf_RX7_19 rfl dX7_init_19 ?_
  refine k_aln C dX7_init_22 (k := 0) rfl ?_
  refine k_bi C dX7_init_23 (by decide) ?_
  refine k_pf C 0 4 (v := .int (qI 35)) (ty := .int) (ws1 := [(h0, .inr (7, [.ref q7, .null, .int (qI 0), .int (qI 0), .int (qI 35), .int (qI 0), .int (qI 0)])), (q7, .inl (cA 2, 20, .inl (fun _ => qI 0)))]) clX7 rfl rfl (by decide) (Nat.le_of_ble_eq_true rfl) (by decide +kernel) rfl rfl tf_RX7_22 rfl dX7_init_25 ?_
  refine k_aln C dX7_init_28 (k := 0) rfl ?_
  refine k_ic C dX7_init_29 ?_
  refine k_pf C 0 5 (v := .int (qI 0)) (ty := .int) (ws1 := [(h0, .inr (7, [.ref q7, .null, .int (qI 0), .int (qI 0), .int (qI 35), .int (qI 0), .int (qI 0)])), (q7, .inl (cA 2, 20, .inl (fun _ => qI 0)))]) clX7 rfl rfl (by decide) (Nat.le_of_ble_eq_true rfl) (by decide +kernel) rfl rfl tf_RX7_25 rfl dX7_init_30 ?_
  refine k_aln C dX7_init_33 (k := 0) rfl ?_
  refine k_ic C dX7_init_34 ?_
  refine k_pf C 0 6 (v := .int (qI 0)) (ty := .int) (ws1 := [(h0, .inr (7, [.ref q7, .null, .int (qI 0), .int (qI 0), .int (qI 35), .int (qI 0), .int (qI 0)])), (q7, .inl (cA 2, 20, .inl (fun _ => qI 0)))]) clX7 rfl rfl (by decide) (Nat.le_of_ble_eq_true rfl) (by decide +kernel) rfl rfl tf_RX7_28 rfl dX7_init_35 ?_
  refine k_aln C dX7_init_38 (k := 0) rfl ?_
  refine k_aln C dX7_init_39 (k := 1) rfl ?_
  refine k_pF C 0 1 (v := .ref p0) (ty := (.array .byte)) (ws1 := [(h0, .inr (7, [.ref q7, .ref p0, .int (qI 0), .int (qI 0), .int (qI 35), .int (qI 0), .int (qI 0)])), (q7, .inl (cA 2, 20, .inl (fun _ => qI 0)))]) hin rfl clX7 rfl rfl (by decide) (Nat.le_of_ble_eq_true rfl) (by decide +kernel) rfl rfl tf_RX7_31 rfl dX7_init_40 ?_
  refine k_ic C dX7_init_43 ?_
  refine k_isn C (L1 := [(2, .int (qI 0)), (0, .ref h0), (1, .ref p0)]) dX7_init_44 (by decide) rfl ?_
  refine k_ic C dX7_init_45 ?_
  refine k_isn C (L1 := [(3, .int (qI 0)), (2, .int (qI 0)), (0, .ref h0), (1, .ref p0)]) dX7_init_46 (by decide) rfl ?_
  refine k_ic C dX7_init_47 ?_
  refine k_is C (L1 := [(4, .int (qI 0)), (3, .int (qI 0)), (2, .int (qI 0)), (0, .ref h0), (1, .ref p0)]) dX7_init_48 (by decide) rfl ?_
  refine k_drop [3, 4, 2, 1, 0] rfl ?_
  exact tok_loop C hr hlk 200 0 0 0 (fun _ => 0) tokR_ok
theorem tmo_X4_init : Cond.methodLink RX4 3 objectInit ∈ wsQ := wq_1 (List.mem_of_getElem? (i := 37) rfl) rfl
def w_X4_init (cA : Nat → ClassId) (h0 : Nat) (p0 : Nat) (q : Nat → Nat) : va_W := [(h0, .inr (4, [.ref (q 17), .ref (q 19), .ref (q 0), .int (qI 0), .int (qI 0), .int (qI (-1))])), ((q 0), .inr (8, [.int (qI 0), .ref (q 1), .ref (q 2), .ref (q 3), .ref (q 4), .ref (q 5), .int (qI 0), .int (qI 0), .ref (q 6), .ref (q 7), .ref (q 8), .ref (q 9), .ref (q 10), .int (qI 2), .int (qI 0), .int (qI 0), .ref (q 11)])), ((q 1), .inl (cA 2, 8, .inl (fun _ => qI 0))), ((q 2), .inl (cA 2, 8, .inl (fun _ => qI 0))), ((q 3), .inl (cA 2, 8, .inl (fun _ => qI 0))), ((q 4), .inl (cA 2, 8, .inl (fun _ => qI 0))), ((q 5), .inl (cA 2, 8, .inl (fun _ => qI 0))), ((q 6), .inl (cA 2, 4, .inl (fun _ => qI 0))), ((q 7), .inl (cA 2, 4, .inl (fun _ => qI 0))), ((q 8), .inl (cA 2, 4, .inl (fun _ => qI 0))), ((q 9), .inl (cA 2, 4, .inl (fun _ => qI 0))), ((q 10), .inl (cA 2, 4, .inl (fun _ => qI 0))), ((q 11), .inr (2, [.ref (q 12), .ref (q 13), .ref (q 14), .ref (q 15), .ref (q 16), .int (qI 0), .int (qI 0)])), ((q 12), .inl (cA 2, 64, .inl (fun _ => qI 0))), ((q 13), .inl (cA 2, 64, .inl (fun _ => qI 0))), ((q 14), .inl (cA 2, 3, .inl (fun _ => qI 0))), ((q 15), .inl (cA 2, 3, .inl (fun _ => qI 0))), ((q 16), .inl (cA 5, 64, .inr (.inl (fun _ => qJ 0)))), ((q 17), .inr (7, [.ref (q 18), .ref p0, .int (qI 0), .int (qI 0), .int (qI 35), .int (qI 0), .int (qI 0)])), ((q 18), .inl (cA 2, 20, .inl (fun j : Nat => qI (tokR (j : Int))))), ((q 19), .inr (1, [.ref (q 17), .ref (q 20), .int (qI 0), .int (qI 0), .ref (q 21), .int (qI 1), .int (qI 1)])), ((q 20), .inl (cA 2, 72, .inl (fun _ => qI 0))), ((q 21), .inl (cA 4, 9, .inl (fun _ => qI 0)))]
abbrev rm_X4_init : Room := { frames := 6, cells := 22, slots := 397, locals := 224 }
set_option maxRecDepth 20000 in
theorem k_X4_init (l : Launch) (b0 : Nat) (D : va_G) (cA : Nat → ClassId) (h0 : Nat) (p0 : Nat) : k_Met l b0 D cA yX4_init cX4_init 2 rm_X4_init [.ref h0, .ref p0] [(h0, .inr (4, [.null, .null, .null, .int (qI 0), .int (qI 0), .int (qI 0)]))] (w_X4_init cA h0 p0) 22 397 := by
  refine k_met (L0 := [(0, .ref h0), (1, .ref p0)]) (by decide) (Nat.le_of_ble_eq_true rfl) rfl rfl ?_
  intro p e s m args below meth c C hr hlk hin
  refine k_aln C dX4_init_0 (k := 0) rfl ?_
  refine k_obj C (tmo_X4_init) ⟨Nat.le_of_ble_eq_true rfl, Nat.le_of_ble_eq_true rfl⟩ dX4_init_1 ?_
  refine k_aln C dX4_init_4 (k := 0) rfl ?_
  refine k_new C (fs := [.int (qI 0), .null, .null, .null, .null, .null, .int (qI 0), .int (qI 0), .null, .null, .null, .null, .null, .int (qI 0), .int (qI 0), .int (qI 0), .null]) clX8 tyX8_ok (by decide +kernel) tk_RX4_9 tz_RX8 tn_RX8 ⟨Nat.le_of_ble_eq_true rfl, Nat.le_of_ble_eq_true rfl⟩ dX4_init_5 (fun q5 => ?_)
  refine k_eq (ws1 := [(h0, .inr (4, [.null, .null, .null, .int (qI 0), .int (qI 0), .int (qI 0)])), (q5, .inr (8, [.int (qI 0), .null, .null, .null, .null, .null, .int (qI 0), .int (qI 0), .null, .null, .null, .null, .null, .int (qI 0), .int (qI 0), .int (qI 0), .null]))]) rfl ?_
  refine k_dup C rfl dX4_init_8 ?_
  refine k_calN C (wr := [(h0, .inr (4, [.null, .null, .null, .int (qI 0), .int (qI 0), .int (qI 0)]))]) (na := 0) (st := [.ref q5, .ref h0]) (k_X8_init l b0 D cA q5) (k_cwN C.1.2.2.2.2 (C.2.2.2.2.1 _ (by decide)) ti_X8_init tn_RX8 td_X8_init rfl rfl rfl (by decide +kernel) ⟨Nat.le_of_ble_eq_true rfl, Nat.le_of_ble_eq_true rfl⟩) [1] [0] rfl rfl rfl (by decide) (by decide) (by decide) ⟨Nat.le_of_ble_eq_true rfl, Nat.le_of_ble_eq_true rfl⟩ rfl rfl (Nat.le_of_ble_eq_true rfl) dX4_init_9 (fun q9 => ?_)
  refine k_eq (ws1 := [(h0, .inr (4, [.null, .null, .null, .int (qI 0), .int (qI 0), .int (qI 0)])), (q5, .inr (8, [.int (qI 0), .ref (q9 0), .ref (q9 1), .ref (q9 2), .ref (q9 3), .ref (q9 4), .int (qI 0), .int (qI 0), .ref (q9 5), .ref (q9 6), .ref (q9 7), .ref (q9 8), .ref (q9 9), .int (qI 2), .int (qI 0), .int (qI 0), .ref (q9 10)])), (q9 0, .inl (cA 2, 8, .inl (fun _ => qI 0))), (q9 1, .inl (cA 2, 8, .inl (fun _ => qI 0))), (q9 2, .inl (cA 2, 8, .inl (fun _ => qI 0))), (q9 3, .inl (cA 2, 8, .inl (fun _ => qI 0))), (q9 4, .inl (cA 2, 8, .inl (fun _ => qI 0))), (q9 5, .inl (cA 2, 4, .inl (fun _ => qI 0))), (q9 6, .inl (cA 2, 4, .inl (fun _ => qI 0))), (q9 7, .inl (cA 2, 4, .inl (fun _ => qI 0))), (q9 8, .inl (cA 2, 4, .inl (fun _ => qI 0))), (q9 9, .inl (cA 2, 4, .inl (fun _ => qI 0))), (q9 10, .inr (2, [.ref (q9 11), .ref (q9 12), .ref (q9 13), .ref (q9 14), .ref (q9 15), .int (qI 0), .int (qI 0)])), (q9 11, .inl (cA 2, 64, .inl (fun _ => qI 0))), (q9 12, .inl (cA 2, 64, .inl (fun _ => qI 0))), (q9 13, .inl (cA 2, 3, .inl (fun _ => qI 0))), (q9 14, .inl (cA 2, 3, .inl (fun _ => qI 0))), (q9 15, .inl (cA 5, 64, .inr (.inl (fun _ => qJ 0))))]) rfl ?_
  refine k_pf C 0 2 (v := .ref q5) (ty := (.object "HeavenStop$Told")) (ws1 := [(h0, .inr (4, [.null, .null, .ref q5, .int (qI 0), .int (qI 0), .int (qI 0)])), (q5, .inr (8, [.int (qI 0), .ref (q9 0), .ref (q9 1), .ref (q9 2), .ref (q9 3), .ref (q9 4), .int (qI 0), .int (qI 0), .ref (q9 5), .ref (q9 6), .ref (q9 7), .ref (q9 8), .ref (q9 9), .int (qI 2), .int (qI 0), .int (qI 0), .ref (q9 10)])), (q9 0, .inl (cA 2, 8, .inl (fun _ => qI 0))), (q9 1, .inl (cA 2, 8, .inl (fun _ => qI 0))), (q9 2, .inl (cA 2, 8, .inl (fun _ => qI 0))), (q9 3, .inl (cA 2, 8, .inl (fun _ => qI 0))), (q9 4, .inl (cA 2, 8, .inl (fun _ => qI 0))), (q9 5, .inl (cA 2, 4, .inl (fun _ => qI 0))), (q9 6, .inl (cA 2, 4, .inl (fun _ => qI 0))), (q9 7, .inl (cA 2, 4, .inl (fun _ => qI 0))), (q9 8, .inl (cA 2, 4, .inl (fun _ => qI 0))), (q9 9, .inl (cA 2, 4, .inl (fun _ => qI 0))), (q9 10, .inr (2, [.ref (q9 11), .ref (q9 12), .ref (q9 13), .ref (q9 14), .ref (q9 15), .int (qI 0), .int (qI 0)])), (q9 11, .inl (cA 2, 64, .inl (fun _ => qI 0))), (q9 12, .inl (cA 2, 64, .inl (fun _ => qI 0))), (q9 13, .inl (cA 2, 3, .inl (fun _ => qI 0))), (q9 14, .inl (cA 2, 3, .inl (fun _ => qI 0))), (q9 15, .inl (cA 5, 64, .inr (.inl (fun _ => qJ 0))))]) clX4 rfl rfl (by decide) (Nat.le_of_ble_eq_true rfl) (by decide +kernel) rfl rfl tf_RX4_12 rfl dX4_init_12 ?_
  refine k_aln C dX4_init_15 (k := 0) rfl ?_
  refine k_ic C dX4_init_16 ?_
  refine k_pf C 0 3 (v := .int (qI 0)) (ty := .int) (ws1 := [(h0, .inr (4, [.null, .null, .ref q5, .int (qI 0), .int (qI 0), .int (qI 0)])), (q5, .inr (8, [.int (qI 0), .ref (q9 0), .ref (q9 1), .ref (q9 2), .ref (q9 3), .ref (q9 4), .int (qI 0), .int (qI 0), .ref (q9 5), .ref (q9 6), .ref (q9 7), .ref (q9 8), .ref (q9 9), .int (qI 2), .int (qI 0), .int (qI 0), .ref (q9 10)])), (q9 0, .inl (cA 2, 8, .inl (fun _ => qI 0))), (q9 1, .inl (cA 2, 8, .inl (fun _ => qI 0))), (q9 2, .inl (cA 2, 8, .inl (fun _ => qI 0))), (q9 3, .inl (cA 2, 8, .inl (fun _ => qI 0))), (q9 4, .inl (cA 2, 8, .inl (fun _ => qI 0))), (q9 5, .inl (cA 2, 4, .inl (fun _ => qI 0))), (q9 6, .inl (cA 2, 4, .inl (fun _ => qI 0))), (q9 7, .inl (cA 2, 4, .inl (fun _ => qI 0))), (q9 8, .inl (cA 2, 4, .inl (fun _ => qI 0))), (q9 9, .inl (cA 2, 4, .inl (fun _ => qI 0))), (q9 10, .inr (2, [.ref (q9 11), .ref (q9 12), .ref (q9 13), .ref (q9 14), .ref (q9 15), .int (qI 0), .int (qI 0)])), (q9 11, .inl (cA 2, 64, .inl (fun _ => qI 0))), (q9 12, .inl (cA 2, 64, .inl (fun _ => qI 0))), (q9 13, .inl (cA 2, 3, .inl (fun _ => qI 0))), (q9 14, .inl (cA 2, 3, .inl (fun _ => qI 0))), (q9 15, .inl (cA 5, 64, .inr (.inl (fun _ => qJ 0))))]) clX4 rfl rfl (by decide) (Nat.le_of_ble_eq_true rfl) (by decide +kernel) rfl rfl tf_RX4_18 rfl dX4_init_17 ?_
  refine k_aln C dX4_init_20 (k := 0) rfl ?_
  refine k_ic C dX4_init_21 ?_
  refine k_pf C 0 4 (v := .int (qI 0)) (ty := .int) (ws1 := [(h0, .inr (4, [.null, .null, .ref q5, .int (qI 0), .int (qI 0), .int (qI 0)])), (q5, .inr (8, [.int (qI 0), .ref (q9 0), .ref (q9 1), .ref (q9 2), .ref (q9 3), .ref (q9 4), .int (qI 0), .int (qI 0), .ref (q9 5), .ref (q9 6), .ref (q9 7), .ref (q9 8), .ref (q9 9), .int (qI 2), .int (qI 0), .int (qI 0), .ref (q9 10)])), (q9 0, .inl (cA 2, 8, .inl (fun _ => qI 0))), (q9 1, .inl (cA 2, 8, .inl (fun _ => qI 0))), (q9 2, .inl (cA 2, 8, .inl (fun _ => qI 0))), (q9 3, .inl (cA 2, 8, .inl (fun _ => qI 0))), (q9 4, .inl (cA 2, 8, .inl (fun _ => qI 0))), (q9 5, .inl (cA 2, 4, .inl (fun _ => qI 0))), (q9 6, .inl (cA 2, 4, .inl (fun _ => qI 0))), (q9 7, .inl (cA 2, 4, .inl (fun _ => qI 0))), (q9 8, .inl (cA 2, 4, .inl (fun _ => qI 0))), (q9 9, .inl (cA 2, 4, .inl (fun _ => qI 0))), (q9 10, .inr (2, [.ref (q9 11), .ref (q9 12), .ref (q9 13), .ref (q9 14), .ref (q9 15), .int (qI 0), .int (qI 0)])), (q9 11, .inl (cA 2, 64, .inl (fun _ => qI 0))), (q9 12, .inl (cA 2, 64, .inl (fun _ => qI 0))), (q9 13, .inl (cA 2, 3, .inl (fun _ => qI 0))), (q9 14, .inl (cA 2, 3, .inl (fun _ => qI 0))), (q9 15, .inl (cA 5, 64, .inr (.inl (fun _ => qJ 0))))]) clX4 rfl rfl (by decide) (Nat.le_of_ble_eq_true rfl) (by decide +kernel) rfl rfl tf_RX4_22 rfl dX4_init_22 ?_
  refine k_aln C dX4_init_25 (k := 0) rfl ?_
  refine k_ic C dX4_init_26 ?_
  refine k_pf C 0 5 (v := .int (qI (-1))) (ty := .int) (ws1 := [(h0, .inr (4, [.null, .null, .ref q5, .int (qI 0), .int (qI 0), .int (qI (-1))])), (q5, .inr (8, [.int (qI 0), .ref (q9 0), .ref (q9 1), .ref (q9 2), .ref (q9 3), .ref (q9 4), .int (qI 0), .int (qI 0), .ref (q9 5), .ref (q9 6), .ref (q9 7), .ref (q9 8), .ref (q9 9), .int (qI 2), .int (qI 0), .int (qI 0), .ref (q9 10)])), (q9 0, .inl (cA 2, 8, .inl (fun _ => qI 0))), (q9 1, .inl (cA 2, 8, .inl (fun _ => qI 0))), (q9 2, .inl (cA 2, 8, .inl (fun _ => qI 0))), (q9 3, .inl (cA 2, 8, .inl (fun _ => qI 0))), (q9 4, .inl (cA 2, 8, .inl (fun _ => qI 0))), (q9 5, .inl (cA 2, 4, .inl (fun _ => qI 0))), (q9 6, .inl (cA 2, 4, .inl (fun _ => qI 0))), (q9 7, .inl (cA 2, 4, .inl (fun _ => qI 0))), (q9 8, .inl (cA 2, 4, .inl (fun _ => qI 0))), (q9 9, .inl (cA 2, 4, .inl (fun _ => qI 0))), (q9 10, .inr (2, [.ref (q9 11), .ref (q9 12), .ref (q9 13), .ref (q9 14), .ref (q9 15), .int (qI 0), .int (qI 0)])), (q9 11, .inl (cA 2, 64, .inl (fun _ => qI 0))), (q9 12, .inl (cA 2, 64, .inl (fun _ => qI 0))), (q9 13, .inl (cA 2, 3, .inl (fun _ => qI 0))), (q9 14, .inl (cA 2, 3, .inl (fun _ => qI 0))), (q9 15, .inl (cA 5, 64, .inr (.inl (fun _ => qJ 0))))]) clX4 rfl rfl (by decide) (Nat.le_of_ble_eq_true rfl) (by decide +kernel) rfl rfl tf_RX4_25 rfl dX4_init_27 ?_
  refine k_aln C dX4_init_30 (k := 0) rfl ?_
  refine k_new C (fs := [.null, .null, .int (qI 0), .int (qI 0), .int (qI 0), .int (qI 0), .int (qI 0)]) clX7 tyX7_ok (by decide +kernel) tk_RX4_28 tz_RX7 tn_RX7 ⟨Nat.le_of_ble_eq_true rfl, Nat.le_of_ble_eq_true rfl⟩ dX4_init_31 (fun q31 => ?_)
  refine k_eq (ws1 := [(h0, .inr (4, [.null, .null, .ref q5, .int (qI 0), .int (qI 0), .int (qI (-1))])), (q5, .inr (8, [.int (qI 0), .ref (q9 0), .ref (q9 1), .ref (q9 2), .ref (q9 3), .ref (q9 4), .int (qI 0), .int (qI 0), .ref (q9 5), .ref (q9 6), .ref (q9 7), .ref (q9 8), .ref (q9 9), .int (qI 2), .int (qI 0), .int (qI 0), .ref (q9 10)])), (q9 0, .inl (cA 2, 8, .inl (fun _ => qI 0))), (q9 1, .inl (cA 2, 8, .inl (fun _ => qI 0))), (q9 2, .inl (cA 2, 8, .inl (fun _ => qI 0))), (q9 3, .inl (cA 2, 8, .inl (fun _ => qI 0))), (q9 4, .inl (cA 2, 8, .inl (fun _ => qI 0))), (q9 5, .inl (cA 2, 4, .inl (fun _ => qI 0))), (q9 6, .inl (cA 2, 4, .inl (fun _ => qI 0))), (q9 7, .inl (cA 2, 4, .inl (fun _ => qI 0))), (q9 8, .inl (cA 2, 4, .inl (fun _ => qI 0))), (q9 9, .inl (cA 2, 4, .inl (fun _ => qI 0))), (q9 10, .inr (2, [.ref (q9 11), .ref (q9 12), .ref (q9 13), .ref (q9 14), .ref (q9 15), .int (qI 0), .int (qI 0)])), (q9 11, .inl (cA 2, 64, .inl (fun _ => qI 0))), (q9 12, .inl (cA 2, 64, .inl (fun _ => qI 0))), (q9 13, .inl (cA 2, 3, .inl (fun _ => qI 0))), (q9 14, .inl (cA 2, 3, .inl (fun _ => qI 0))), (q9 15, .inl (cA 5, 64, .inr (.inl (fun _ => qJ 0)))), (q31, .inr (7, [.null, .null, .int (qI 0), .int (qI 0), .int (qI 0), .int (qI 0), .int (qI 0)]))]) rfl ?_
  refine k_dup C rfl dX4_init_34 ?_
  refine k_aln C dX4_init_35 (k := 1) rfl ?_
  refine k_call C (wr := [(h0, .inr (4, [.null, .null, .ref q5, .int (qI 0), .int (qI 0), .int (qI (-1))])), (q5, .inr (8, [.int (qI 0), .ref (q9 0), .ref (q9 1), .ref (q9 2), .ref (q9 3), .ref (q9 4), .int (qI 0), .int (qI 0), .ref (q9 5), .ref (q9 6), .ref (q9 7), .ref (q9 8), .ref (q9 9), .int (qI 2), .int (qI 0), .int (qI 0), .ref (q9 10)])), (q9 0, .inl (cA 2, 8, .inl (fun _ => qI 0))), (q9 1, .inl (cA 2, 8, .inl (fun _ => qI 0))), (q9 2, .inl (cA 2, 8, .inl (fun _ => qI 0))), (q9 3, .inl (cA 2, 8, .inl (fun _ => qI 0))), (q9 4, .inl (cA 2, 8, .inl (fun _ => qI 0))), (q9 5, .inl (cA 2, 4, .inl (fun _ => qI 0))), (q9 6, .inl (cA 2, 4, .inl (fun _ => qI 0))), (q9 7, .inl (cA 2, 4, .inl (fun _ => qI 0))), (q9 8, .inl (cA 2, 4, .inl (fun _ => qI 0))), (q9 9, .inl (cA 2, 4, .inl (fun _ => qI 0))), (q9 10, .inr (2, [.ref (q9 11), .ref (q9 12), .ref (q9 13), .ref (q9 14), .ref (q9 15), .int (qI 0), .int (qI 0)])), (q9 11, .inl (cA 2, 64, .inl (fun _ => qI 0))), (q9 12, .inl (cA 2, 64, .inl (fun _ => qI 0))), (q9 13, .inl (cA 2, 3, .inl (fun _ => qI 0))), (q9 14, .inl (cA 2, 3, .inl (fun _ => qI 0))), (q9 15, .inl (cA 5, 64, .inr (.inl (fun _ => qJ 0))))]) (na := 1) (st := [.ref q31, .ref h0]) (k_X7_init l b0 D cA q31 p0) (k_cwI C.1.2.2.2.2 tm_RX4_30 ti_X7_init tn_RX7 td_X7_init rfl rfl rfl (by decide +kernel) ⟨Nat.le_of_ble_eq_true rfl, Nat.le_of_ble_eq_true rfl⟩) [18] [0, 1, 2, 3, 4, 5, 6, 7, 8, 9, 10, 11, 12, 13, 14, 15, 16, 17] rfl rfl rfl (by decide) (by decide) (by decide) ⟨Nat.le_of_ble_eq_true rfl, Nat.le_of_ble_eq_true rfl⟩ rfl rfl (Nat.le_of_ble_eq_true rfl) dX4_init_36 (fun q36 => ?_)
  refine k_eq (ws1 := [(h0, .inr (4, [.null, .null, .ref q5, .int (qI 0), .int (qI 0), .int (qI (-1))])), (q5, .inr (8, [.int (qI 0), .ref (q9 0), .ref (q9 1), .ref (q9 2), .ref (q9 3), .ref (q9 4), .int (qI 0), .int (qI 0), .ref (q9 5), .ref (q9 6), .ref (q9 7), .ref (q9 8), .ref (q9 9), .int (qI 2), .int (qI 0), .int (qI 0), .ref (q9 10)])), (q9 0, .inl (cA 2, 8, .inl (fun _ => qI 0))), (q9 1, .inl (cA 2, 8, .inl (fun _ => qI 0))), (q9 2, .inl (cA 2, 8, .inl (fun _ => qI 0))), (q9 3, .inl (cA 2, 8, .inl (fun _ => qI 0))), (q9 4, .inl (cA 2, 8, .inl (fun _ => qI 0))), (q9 5, .inl (cA 2, 4, .inl (fun _ => qI 0))), (q9 6, .inl (cA 2, 4, .inl (fun _ => qI 0))), (q9 7, .inl (cA 2, 4, .inl (fun _ => qI 0))), (q9 8, .inl (cA 2, 4, .inl (fun _ => qI 0))), (q9 9, .inl (cA 2, 4, .inl (fun _ => qI 0))), (q9 10, .inr (2, [.ref (q9 11), .ref (q9 12), .ref (q9 13), .ref (q9 14), .ref (q9 15), .int (qI 0), .int (qI 0)])), (q9 11, .inl (cA 2, 64, .inl (fun _ => qI 0))), (q9 12, .inl (cA 2, 64, .inl (fun _ => qI 0))), (q9 13, .inl (cA 2, 3, .inl (fun _ => qI 0))), (q9 14, .inl (cA 2, 3, .inl (fun _ => qI 0))), (q9 15, .inl (cA 5, 64, .inr (.inl (fun _ => qJ 0)))), (q31, .inr (7, [.ref (q36 0), .ref p0, .int (qI 0), .int (qI 0), .int (qI 35), .int (qI 0), .int (qI 0)])), (q36 0, .inl (cA 2, 20, .inl (fun j : Nat => qI (tokR (j : Int)))))]) rfl ?_
  refine k_pF C 0 0 (v := .ref q31) (ty := (.object "HeavenStop$Tokens")) (ws1 := [(h0, .inr (4, [.ref q31, .null, .ref q5, .int (qI 0), .int (qI 0), .int (qI (-1))])), (q5, .inr (8, [.int (qI 0), .ref (q9 0), .ref (q9 1), .ref (q9 2), .ref (q9 3), .ref (q9 4), .int (qI 0), .int (qI 0), .ref (q9 5), .ref (q9 6), .ref (q9 7), .ref (q9 8), .ref (q9 9), .int (qI 2), .int (qI 0), .int (qI 0), .ref (q9 10)])), (q9 0, .inl (cA 2, 8, .inl (fun _ => qI 0))), (q9 1, .inl (cA 2, 8, .inl (fun _ => qI 0))), (q9 2, .inl (cA 2, 8, .inl (fun _ => qI 0))), (q9 3, .inl (cA 2, 8, .inl (fun _ => qI 0))), (q9 4, .inl (cA 2, 8, .inl (fun _ => qI 0))), (q9 5, .inl (cA 2, 4, .inl (fun _ => qI 0))), (q9 6, .inl (cA 2, 4, .inl (fun _ => qI 0))), (q9 7, .inl (cA 2, 4, .inl (fun _ => qI 0))), (q9 8, .inl (cA 2, 4, .inl (fun _ => qI 0))), (q9 9, .inl (cA 2, 4, .inl (fun _ => qI 0))), (q9 10, .inr (2, [.ref (q9 11), .ref (q9 12), .ref (q9 13), .ref (q9 14), .ref (q9 15), .int (qI 0), .int (qI 0)])), (q9 11, .inl (cA 2, 64, .inl (fun _ => qI 0))), (q9 12, .inl (cA 2, 64, .inl (fun _ => qI 0))), (q9 13, .inl (cA 2, 3, .inl (fun _ => qI 0))), (q9 14, .inl (cA 2, 3, .inl (fun _ => qI 0))), (q9 15, .inl (cA 5, 64, .inr (.inl (fun _ => qJ 0)))), (q31, .inr (7, [.ref (q36 0), .ref p0, .int (qI 0), .int (qI 0), .int (qI 35), .int (qI 0), .int (qI 0)])), (q36 0, .inl (cA 2, 20, .inl (fun j : Nat => qI (tokR (j : Int)))))]) hin rfl clX4 rfl rfl (by decide) (Nat.le_of_ble_eq_true rfl) (by decide +kernel) rfl rfl tf_RX4_33 rfl dX4_init_39 ?_
  refine k_aln C dX4_init_42 (k := 0) rfl ?_
  refine k_new C (fs := [.null, .null, .int (qI 0), .int (qI 0), .null, .int (qI 0), .int (qI 0)]) clX1 tyX1_ok (by decide +kernel) tk_RX4_37 tz_RX1 tn_RX1 ⟨Nat.le_of_ble_eq_true rfl, Nat.le_of_ble_eq_true rfl⟩ dX4_init_43 (fun q43 => ?_)
  refine k_eq (ws1 := [(h0, .inr (4, [.ref q31, .null, .ref q5, .int (qI 0), .int (qI 0), .int (qI (-1))])), (q5, .inr (8, [.int (qI 0), .ref (q9 0), .ref (q9 1), .ref (q9 2), .ref (q9 3), .ref (q9 4), .int (qI 0), .int (qI 0), .ref (q9 5), .ref (q9 6), .ref (q9 7), .ref (q9 8), .ref (q9 9), .int (qI 2), .int (qI 0), .int (qI 0), .ref (q9 10)])), (q9 0, .inl (cA 2, 8, .inl (fun _ => qI 0))), (q9 1, .inl (cA 2, 8, .inl (fun _ => qI 0))), (q9 2, .inl (cA 2, 8, .inl (fun _ => qI 0))), (q9 3, .inl (cA 2, 8, .inl (fun _ => qI 0))), (q9 4, .inl (cA 2, 8, .inl (fun _ => qI 0))), (q9 5, .inl (cA 2, 4, .inl (fun _ => qI 0))), (q9 6, .inl (cA 2, 4, .inl (fun _ => qI 0))), (q9 7, .inl (cA 2, 4, .inl (fun _ => qI 0))), (q9 8, .inl (cA 2, 4, .inl (fun _ => qI 0))), (q9 9, .inl (cA 2, 4, .inl (fun _ => qI 0))), (q9 10, .inr (2, [.ref (q9 11), .ref (q9 12), .ref (q9 13), .ref (q9 14), .ref (q9 15), .int (qI 0), .int (qI 0)])), (q9 11, .inl (cA 2, 64, .inl (fun _ => qI 0))), (q9 12, .inl (cA 2, 64, .inl (fun _ => qI 0))), (q9 13, .inl (cA 2, 3, .inl (fun _ => qI 0))), (q9 14, .inl (cA 2, 3, .inl (fun _ => qI 0))), (q9 15, .inl (cA 5, 64, .inr (.inl (fun _ => qJ 0)))), (q31, .inr (7, [.ref (q36 0), .ref p0, .int (qI 0), .int (qI 0), .int (qI 35), .int (qI 0), .int (qI 0)])), (q36 0, .inl (cA 2, 20, .inl (fun j : Nat => qI (tokR (j : Int))))), (q43, .inr (1, [.null, .null, .int (qI 0), .int (qI 0), .null, .int (qI 0), .int (qI 0)]))]) rfl ?_
  refine k_dup C rfl dX4_init_46 ?_
  refine k_aln C dX4_init_47 (k := 0) rfl ?_
  refine k_gf C 0 0 (v := .ref q31) clX4 rfl rfl (by decide) rfl tf_RX4_33 dX4_init_48 ?_
  refine k_call C (wr := [(h0, .inr (4, [.ref q31, .null, .ref q5, .int (qI 0), .int (qI 0), .int (qI (-1))])), (q5, .inr (8, [.int (qI 0), .ref (q9 0), .ref (q9 1), .ref (q9 2), .ref (q9 3), .ref (q9 4), .int (qI 0), .int (qI 0), .ref (q9 5), .ref (q9 6), .ref (q9 7), .ref (q9 8), .ref (q9 9), .int (qI 2), .int (qI 0), .int (qI 0), .ref (q9 10)])), (q9 0, .inl (cA 2, 8, .inl (fun _ => qI 0))), (q9 1, .inl (cA 2, 8, .inl (fun _ => qI 0))), (q9 2, .inl (cA 2, 8, .inl (fun _ => qI 0))), (q9 3, .inl (cA 2, 8, .inl (fun _ => qI 0))), (q9 4, .inl (cA 2, 8, .inl (fun _ => qI 0))), (q9 5, .inl (cA 2, 4, .inl (fun _ => qI 0))), (q9 6, .inl (cA 2, 4, .inl (fun _ => qI 0))), (q9 7, .inl (cA 2, 4, .inl (fun _ => qI 0))), (q9 8, .inl (cA 2, 4, .inl (fun _ => qI 0))), (q9 9, .inl (cA 2, 4, .inl (fun _ => qI 0))), (q9 10, .inr (2, [.ref (q9 11), .ref (q9 12), .ref (q9 13), .ref (q9 14), .ref (q9 15), .int (qI 0), .int (qI 0)])), (q9 11, .inl (cA 2, 64, .inl (fun _ => qI 0))), (q9 12, .inl (cA 2, 64, .inl (fun _ => qI 0))), (q9 13, .inl (cA 2, 3, .inl (fun _ => qI 0))), (q9 14, .inl (cA 2, 3, .inl (fun _ => qI 0))), (q9 15, .inl (cA 5, 64, .inr (.inl (fun _ => qJ 0)))), (q31, .inr (7, [.ref (q36 0), .ref p0, .int (qI 0), .int (qI 0), .int (qI 35), .int (qI 0), .int (qI 0)])), (q36 0, .inl (cA 2, 20, .inl (fun j : Nat => qI (tokR (j : Int)))))]) (na := 1) (st := [.ref q43, .ref h0]) (k_X1_init l b0 D cA q43 q31) (k_cwI C.1.2.2.2.2 tm_RX4_39 ti_X1_init tn_RX1 td_X1_init rfl rfl rfl (by decide +kernel) ⟨Nat.le_of_ble_eq_true rfl, Nat.le_of_ble_eq_true rfl⟩) [20] [0, 1, 2, 3, 4, 5, 6, 7, 8, 9, 10, 11, 12, 13, 14, 15, 16, 17, 18, 19] rfl rfl rfl (by decide) (by decide) (by decide) ⟨Nat.le_of_ble_eq_true rfl, Nat.le_of_ble_eq_true rfl⟩ rfl rfl (Nat.le_of_ble_eq_true rfl) dX4_init_51 (fun q51 => ?_)
  refine k_eq (ws1 := [(h0, .inr (4, [.ref q31, .null, .ref q5, .int (qI 0), .int (qI 0), .int (qI (-1))])), (q5, .inr (8, [.int (qI 0), .ref (q9 0), .ref (q9 1), .ref (q9 2), .ref (q9 3), .ref (q9 4), .int (qI 0), .int (qI 0), .ref (q9 5), .ref (q9 6), .ref (q9 7), .ref (q9 8), .ref (q9 9), .int (qI 2), .int (qI 0), .int (qI 0), .ref (q9 10)])), (q9 0, .inl (cA 2, 8, .inl (fun _ => qI 0))), (q9 1, .inl (cA 2, 8, .inl (fun _ => qI 0))), (q9 2, .inl (cA 2, 8, .inl (fun _ => qI 0))), (q9 3, .inl (cA 2, 8, .inl (fun _ => qI 0))), (q9 4, .inl (cA 2, 8, .inl (fun _ => qI 0))), (q9 5, .inl (cA 2, 4, .inl (fun _ => qI 0))), (q9 6, .inl (cA 2, 4, .inl (fun _ => qI 0))), (q9 7, .inl (cA 2, 4, .inl (fun _ => qI 0))), (q9 8, .inl (cA 2, 4, .inl (fun _ => qI 0))), (q9 9, .inl (cA 2, 4, .inl (fun _ => qI 0))), (q9 10, .inr (2, [.ref (q9 11), .ref (q9 12), .ref (q9 13), .ref (q9 14), .ref (q9 15), .int (qI 0), .int (qI 0)])), (q9 11, .inl (cA 2, 64, .inl (fun _ => qI 0))), (q9 12, .inl (cA 2, 64, .inl (fun _ => qI 0))), (q9 13, .inl (cA 2, 3, .inl (fun _ => qI 0))), (q9 14, .inl (cA 2, 3, .inl (fun _ => qI 0))), (q9 15, .inl (cA 5, 64, .inr (.inl (fun _ => qJ 0)))), (q31, .inr (7, [.ref (q36 0), .ref p0, .int (qI 0), .int (qI 0), .int (qI 35), .int (qI 0), .int (qI 0)])), (q36 0, .inl (cA 2, 20, .inl (fun j : Nat => qI (tokR (j : Int))))), (q43, .inr (1, [.ref q31, .ref (q51 0), .int (qI 0), .int (qI 0), .ref (q51 1), .int (qI 1), .int (qI 1)])), (q51 0, .inl (cA 2, 72, .inl (fun _ => qI 0))), (q51 1, .inl (cA 4, 9, .inl (fun _ => qI 0)))]) rfl ?_
  refine k_pF C 0 1 (v := .ref q43) (ty := (.object "HeavenStop$LawReader")) (ws1 := [(h0, .inr (4, [.ref q31, .ref q43, .ref q5, .int (qI 0), .int (qI 0), .int (qI (-1))])), (q5, .inr (8, [.int (qI 0), .ref (q9 0), .ref (q9 1), .ref (q9 2), .ref (q9 3), .ref (q9 4), .int (qI 0), .int (qI 0), .ref (q9 5), .ref (q9 6), .ref (q9 7), .ref (q9 8), .ref (q9 9), .int (qI 2), .int (qI 0), .int (qI 0), .ref (q9 10)])), (q9 0, .inl (cA 2, 8, .inl (fun _ => qI 0))), (q9 1, .inl (cA 2, 8, .inl (fun _ => qI 0))), (q9 2, .inl (cA 2, 8, .inl (fun _ => qI 0))), (q9 3, .inl (cA 2, 8, .inl (fun _ => qI 0))), (q9 4, .inl (cA 2, 8, .inl (fun _ => qI 0))), (q9 5, .inl (cA 2, 4, .inl (fun _ => qI 0))), (q9 6, .inl (cA 2, 4, .inl (fun _ => qI 0))), (q9 7, .inl (cA 2, 4, .inl (fun _ => qI 0))), (q9 8, .inl (cA 2, 4, .inl (fun _ => qI 0))), (q9 9, .inl (cA 2, 4, .inl (fun _ => qI 0))), (q9 10, .inr (2, [.ref (q9 11), .ref (q9 12), .ref (q9 13), .ref (q9 14), .ref (q9 15), .int (qI 0), .int (qI 0)])), (q9 11, .inl (cA 2, 64, .inl (fun _ => qI 0))), (q9 12, .inl (cA 2, 64, .inl (fun _ => qI 0))), (q9 13, .inl (cA 2, 3, .inl (fun _ => qI 0))), (q9 14, .inl (cA 2, 3, .inl (fun _ => qI 0))), (q9 15, .inl (cA 5, 64, .inr (.inl (fun _ => qJ 0)))), (q31, .inr (7, [.ref (q36 0), .ref p0, .int (qI 0), .int (qI 0), .int (qI 35), .int (qI 0), .int (qI 0)])), (q36 0, .inl (cA 2, 20, .inl (fun j : Nat => qI (tokR (j : Int))))), (q43, .inr (1, [.ref q31, .ref (q51 0), .int (qI 0), .int (qI 0), .ref (q51 1), .int (qI 1), .int (qI 1)])), (q51 0, .inl (cA 2, 72, .inl (fun _ => qI 0))), (q51 1, .inl (cA 4, 9, .inl (fun _ => qI 0)))]) hin rfl clX4 rfl rfl (by decide) (Nat.le_of_ble_eq_true rfl) (by decide +kernel) rfl rfl tf_RX4_42 rfl dX4_init_54 ?_
  exact k_ret C hr hlk (fun i => [q5, q9 0, q9 1, q9 2, q9 3, q9 4, q9 5, q9 6, q9 7, q9 8, q9 9, q9 10, q9 11, q9 12, q9 13, q9 14, q9 15, q31, q36 0, q43, q51 0, q51 1].getD i 0) [0, 1, 2, 3, 4, 5, 6, 7, 8, 9, 10, 11, 12, 13, 14, 15, 16, 17, 18, 19, 20, 21, 22] (by decide) rfl rfl dX4_init_57
