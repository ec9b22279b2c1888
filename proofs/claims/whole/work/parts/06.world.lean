/-! a system: what each cell is (tag, x: 0 none; 1 an object of class x; 2 int, 3 byte, 4 boolean, 5 long array of length x), where its reference fields point, what holds of its references -/
abbrev Sys : Type := (Nat → Nat × Nat) × (Mem → Nat → Nat → Nat → Option Nat) × (Mem → Prop)
def q_nf (ci : Nat) : Nat := ((vwCl[ci]?).map (fun q => q.2.2)).getD 0
def q_fv (sy : Sys) (ad : Nat → Nat) (M : Mem) (ci n f : Nat) : Value := match sy.2.1 M ci n f with
  | some t => .ref (ad t)
  | none => .int (qI (M n (f : Int)))
def q_fs (sy : Sys) (ad : Nat → Nat) (M : Mem) (ci n N : Nat) : List Value := (List.range N).map (q_fv sy ad M ci n)
def q_ent (sy : Sys) (ad : Nat → Nat) (cA : Nat → ClassId) (M : Mem) (n : Nat) : va_E :=
  if (sy.1 n).1 = 1 then .inr ((sy.1 n).2, q_fs sy ad M (sy.1 n).2 n (q_nf (sy.1 n).2))
  else if (sy.1 n).1 = 5 then .inl (cA 5, (sy.1 n).2, .inr (.inl (fun i : Nat => qJ (M n (i : Int)))))
  else .inl (cA (sy.1 n).1, (sy.1 n).2, .inl (fun i : Nat => qI (M n (i : Int))))
def q_A (sy : Sys) (ad : Nat → Nat) : Nat → Prop := fun q => ∃ n, (sy.1 n).1 ≠ 0 ∧ q = ad n
def q_P (sy : Sys) (D : va_G) (ad : Nat → Nat) (cA : Nat → ClassId) (M : Mem) (H : Heap) : Prop := ∀ n, (sy.1 n).1 ≠ 0 → va_at D vwCl (ad n, q_ent sy ad cA M n) H
def q_inj (sy : Sys) (ad : Nat → Nat) : Prop := ∀ n n', (sy.1 n).1 ≠ 0 → (sy.1 n').1 ≠ 0 → ad n = ad n' → n = n'
def q_tys (cA : Nat → ClassId) : List (ClassId × FieldType) := [(cA 2, .int), (cA 3, .byte), (cA 4, .boolean), (cA 5, .long)]
/-- a number written leaves all references -/
def q_ok (sy : Sys) : Prop := ∀ (M : Mem) (n : Nat) (i v : Int), (2 ≤ (sy.1 n).1 ∨ ((sy.1 n).1 = 1 ∧ ∃ f : Nat, i = (f : Int) ∧ sy.2.1 M (sy.1 n).2 n f = none)) → (∀ ci n' f, sy.1 n' = (1, ci) → sy.2.1 (up M n i v) ci n' f = sy.2.1 M ci n' f) ∧ (sy.2.2 M → sy.2.2 (up M n i v))
def q_cl (ci : Nat) (Cn : String) (T : u_T) (N : Nat) : Prop := vwCl[ci]? = some (Cn, T, N) ∧ (∀ w ∈ u_ws Cn T N, w ∈ wsQ) ∧ (∃ ty0 : Nat → FieldType, ∀ k, k < N → parseFieldDescriptor (T k).2.2.1 = some (ty0 k)) ∧ ∀ a, a < N → ∀ b, b < N → a ≠ b → (T a).2.1 ≠ (T b).2.1
/-- facts of the start that no method of the two systems changes: the links between nest mates, two statics of the JDK, the text of the words -/
def q_nest (w : Cond) : Prop := w = .methodLinkNest RX7 64 yX9_find RX9 ∨ w = .methodLinkNest RX4 128 yX9_find RX9
def q_tx : String := "soul bus lets seats rain seed law may turn soak or and not kind coins wet wait fare place minute "
def q_wb : List Int32 := [115, 111, 117, 108, 32, 98, 117, 115, 32, 108, 101, 116, 115, 32, 115, 101, 97, 116, 115, 32, 114, 97, 105, 110, 32, 115, 101, 101, 100, 32, 108, 97, 119, 32, 109, 97, 121, 32, 116, 117, 114, 110, 32, 115, 111, 97, 107, 32, 111, 114, 32, 97, 110, 100, 32, 110, 111, 116, 32, 107, 105, 110, 100, 32, 99, 111, 105, 110, 115, 32, 119, 101, 116, 32, 119, 97, 105, 116, 32, 102, 97, 114, 101, 32, 112, 108, 97, 99, 101, 32, 109, 105, 110, 117, 116, 101, 32]
def q_str (A : Nat → Prop) (U : State) (H : Heap) (a : Nat) : Prop := ∃ v : Nat, va_O "java/lang/String" a A U H ∧ va_OF "java/lang/String" "coder" "B" (.int 0) a A U H ∧ va_OF "java/lang/String" "value" "[B" (.ref v) a A U H ∧ va_T .byte v 97 (fun j => .int (q_wb.getD j 0)) A U H
def q_stat (A : Nat → Prop) (U : State) (H : Heap) : Prop := va_Z "java/lang/String" "COMPACT_STRINGS" "Z" (.int 1) A U H ∧ va_Zq "jdk/internal/util/Preconditions" "SIOOBE_FORMATTER" "Ljava/util/function/BiFunction;" A U H
def q_X (A : Nat → Prop) (U : State) (H : Heap) : Prop := (∀ w, q_nest w → va_Nw w U) ∧ q_stat A U H ∧ (∃ a, vk_R RX10 185 q_tx a U ∧ q_str A U H a) ∧ ∃ a, vk_R RX7 35 q_tx a U ∧ q_str A U H a
theorem q_str.moved {A : Nat → Prop} {s U : State} {H H1 : Heap} {a : Nat} (h : q_str A s H a) (hW : s.vm.Alike U.vm) (hk : ∀ q : Nat, q < H.size → ¬ A q → H1[q]? = H[q]?) : q_str A U H1 a := by
  obtain ⟨v, h1, h2, h3, h4⟩ := h
  exact ⟨v, (va_O.moved hW h1).kept hk, (va_OF.moved hW h2).kept hk, (va_OF.moved hW h3).kept hk, (va_T.moved hW h4).kept hk⟩
theorem q_stat.moved {A : Nat → Prop} {s U : State} {H H1 : Heap} (h : q_stat A s H) (hW : s.vm.Alike U.vm) (hk : ∀ q : Nat, q < H.size → ¬ A q → H1[q]? = H[q]?) : q_stat A U H1 :=
  ⟨(va_Z.moved hW h.1).kept hk, (va_Zq.moved hW h.2).kept hk⟩
theorem q_X.moved {A : Nat → Prop} {s U : State} {H H1 : Heap} (h : q_X A s H) (hW : s.WarmedH U.vm) (hk : ∀ q : Nat, q < H.size → ¬ A q → H1[q]? = H[q]?) : q_X A U H1 := by
  obtain ⟨h1, h2, ⟨a, h3, h4⟩, b, h5, h6⟩ := h
  refine ⟨fun w hw => ?_, h2.moved hW.alike hk, ⟨a, h3.warm hW, h4.moved hW.alike hk⟩, b, h5.warm hW, h6.moved hW.alike hk⟩
  have h1 := h1 w hw
  rcases hw with rfl | rfl <;> exact va_Nw.warmM hW h1
theorem q_X.same {A : Nat → Prop} {s U : State} {H : Heap} (h : q_X A s H) (hv : s.vm = U.vm) : q_X A U H := by
  obtain ⟨h1, h2, ⟨a, h3, h4⟩, b, h5, h6⟩ := h
  have ha : s.vm.Alike U.vm := by rw [← hv]; exact Vm.Alike.refl _
  refine ⟨fun w hw => ?_, h2.moved ha (fun _ _ _ => rfl), ⟨a, vk_R.same hv.symm h3, h4.moved ha (fun _ _ _ => rfl)⟩, b, vk_R.same hv.symm h5, h6.moved ha (fun _ _ _ => rfl)⟩
  have h1 := h1 w hw
  rcases hw with rfl | rfl <;> exact va_Nw.same rfl hv h1
def Cx (sy : Sys) (p : Program) (m : MethodId) (c : Code) (cc : ByteArray) (nL : Nat) (s : State) (args : Array Value) (own : String) (D : va_G) (ad : Nat → Nat) (cA : Nat → ClassId) : Prop :=
  CallFix p m c cc nL s args wsQ own ∧ va_K D vwCl (q_tys cA) s ∧ q_inj sy ad ∧ q_ok sy ∧ q_X (q_A sy ad) s s.heap
def WM (sy : Sys) (p : Program) (l : Launch) (e : Env) (R : Room) (s : State) (m : MethodId) (args : Array Value) (below : List Frame) (meth : Method) (c : Code) (nL : Nat) (D : va_G) (ad : Nat → Nat) (cA : Nat → ClassId) (Q : State → Prop) (M : Mem) (pc : Nat) (L : List (Nat × Value)) (st : List Value) : Prop :=
  ∀ (H : Heap) (locs : List Loc) (ls : Array Slot), q_P sy D ad cA M H → sy.2.2 M → va_S (q_A sy ad) s.heap H locs → lv_has ls nL L → W p l e R s m args below meth c H locs 0 0 Q (F0 m pc ls st)
theorem q_ent_obj {sy : Sys} {ad : Nat → Nat} {cA : Nat → ClassId} {M : Mem} {n ci : Nat} {Cn : String} {T : u_T} {N : Nat} (hk : sy.1 n = (1, ci)) (hc : vwCl[ci]? = some (Cn, T, N)) : q_ent sy ad cA M n = .inr (ci, q_fs sy ad M ci n N) := by
  have hn : q_nf ci = N := by rw [q_nf, hc]; rfl
  unfold q_ent
  rw [hk, if_pos rfl]
  show Sum.inr (ci, q_fs sy ad M ci n (q_nf ci)) = _
  rw [hn]
theorem q_ent_arr {sy : Sys} {ad : Nat → Nat} {cA : Nat → ClassId} {M : Mem} {n t len : Nat} (hk : sy.1 n = (t, len)) (h1 : t ≠ 1) (h5 : t ≠ 5) : q_ent sy ad cA M n = .inl (cA t, len, .inl (fun i : Nat => qI (M n (i : Int)))) := by
  unfold q_ent
  rw [hk, if_neg h1, if_neg h5]
theorem q_ent_long {sy : Sys} {ad : Nat → Nat} {cA : Nat → ClassId} {M : Mem} {n len : Nat} (hk : sy.1 n = (5, len)) : q_ent sy ad cA M n = .inl (cA 5, len, .inr (.inl (fun i : Nat => qJ (M n (i : Int))))) := by
  unfold q_ent
  rw [hk, if_neg (show ¬ (5 : Nat) = 1 by decide), if_pos rfl]
theorem q_one {D : va_G} {q : Nat × va_E} {H : Heap} (h : va_at D vwCl q H) : va_P D vwCl [q] H := by
  intro k x hx
  cases k with
  | zero => cases hx; exact h
  | succ k => cases k <;> cases hx
theorem q_fs_get {sy : Sys} {ad : Nat → Nat} {M : Mem} {ci n N f : Nat} (hf : f < N) : (q_fs sy ad M ci n N)[f]? = some (q_fv sy ad M ci n f) := by
  unfold q_fs
  rw [List.getElem?_map, List.getElem?_range hf]
  rfl
theorem q_vpV {sy : Sys} {ad : Nat → Nat} {M : Mem} {ci n N f : Nat} (hf : f < N) : vp_V (q_fs sy ad M ci n N) f = q_fv sy ad M ci n f := by
  unfold vp_V
  rw [List.getD_eq_getElem?_getD, q_fs_get hf]
  rfl
theorem up_same (M : Mem) (n : Nat) (i v : Int) : up M n i v n i = v := by unfold up; rw [if_pos ⟨rfl, rfl⟩]
theorem up_ne {M : Mem} {n n' : Nat} {i i' v : Int} (h : ¬ (n' = n ∧ i' = i)) : up M n i v n' i' = M n' i' := by unfold up; rw [if_neg h]
theorem up_ne1 {M : Mem} {n n' : Nat} {i v : Int} (h : n' ≠ n) : up M n i v n' = M n' := by funext j; exact up_ne (fun q => h q.1)
theorem q_ent_kept {sy : Sys} {ad : Nat → Nat} {cA : Nat → ClassId} {M M' : Mem} {n : Nat} (h1 : M' n = M n) (h2 : ∀ ci f, sy.1 n = (1, ci) → sy.2.1 M' ci n f = sy.2.1 M ci n f) : q_ent sy ad cA M' n = q_ent sy ad cA M n := by
  unfold q_ent
  rw [h1]
  by_cases hk : (sy.1 n).1 = 1
  · rw [if_pos hk, if_pos hk]
    congr 2
    unfold q_fs
    apply List.map_congr_left
    intro f _
    unfold q_fv
    rw [h2 _ f (by rw [← hk]), h1]
  · rw [if_neg hk, if_neg hk]
/-- a cell is written: the world behind it -/
theorem q_P.set {sy : Sys} {D : va_G} {ad : Nat → Nat} {cA : Nat → ClassId} {M M' : Mem} {H H1 : Heap} {n : Nat} (hP : q_P sy D ad cA M H) (hi : q_inj sy ad) (hn : (sy.1 n).1 ≠ 0) (h0 : va_at D vwCl (ad n, q_ent sy ad cA M' n) H1) (ho : ∀ q : Nat, q ≠ ad n → H1[q]? = H[q]?) (hm : ∀ n', n' ≠ n → M' n' = M n') (hr : ∀ ci n' f, n' ≠ n → sy.1 n' = (1, ci) → sy.2.1 M' ci n' f = sy.2.1 M ci n' f) : q_P sy D ad cA M' H1 := by
  intro n' hn'
  by_cases h : n' = n
  · subst h; exact h0
  · rw [q_ent_kept (hm n' h) (fun ci f hc => hr ci n' f h hc)]
    exact (hP n' hn').kept (ho _ (fun q => h (hi n' n hn' hn q)))
def q_al {α : Type} (M : Mem) (n len : Nat) (i : Int) (K : Int → Option α) : Option α := if 0 ≤ w32 i ∧ w32 i < (len : Int) then K (M n (w32 i)) else none
def q_as {α : Type} (M : Mem) (n len : Nat) (i v : Int) (K : Mem → Option α) : Option α := if 0 ≤ w32 i ∧ w32 i < (len : Int) then K (up M n (w32 i) v) else none
def q_gf {α : Type} (M : Mem) (n : Nat) (f : Int) (K : Int → Option α) : Option α := K (M n f)
def q_gr {α : Type} (M : Mem) (n : Nat) (f : Int) (K : Nat → Option α) : Option α := K (M n f).toNat
def q_pf {α : Type} (M : Mem) (n : Nat) (f v : Int) (K : Mem → Option α) : Option α := K (up M n f v)
def q_pz {α : Type} (M : Mem) (n : Nat) (f v : Int) (K : Mem → Option α) : Option α := if v = 0 ∨ v = 1 then K (up M n f v) else none
/-- a call: of a method that writes, of one that only reads -/
def q_call {α : Type} (o : Res) (K : Int → Mem → Option α) : Option α := match o with
  | some (r, M) => K r M
  | none => none
def q_calp {α : Type} (o : Option Int) (K : Int → Option α) : Option α := match o with
  | some r => K r
  | none => none
def q_let {α : Type} (v : Int) (K : Int → Option α) : Option α := K v
def q_nz {α : Type} (y : Int) (K : Option α) : Option α := if w32 y = 0 then none else K
def q_nzl {α : Type} (y : Int) (K : Option α) : Option α := if w64 y = 0 then none else K
def q_bit {α : Type} (v : Int) (K : Option α) : Option α := if v = 0 ∨ v = 1 then K else none
theorem q_inw {i : Int} {len : Nat} (h : 0 ≤ w32 i ∧ w32 i < (len : Int)) : vp_in (qI i) len ∧ ((qI i).toNatClampNeg : Int) = w32 i := by
  have h0 : vp_in (qI i) len := vp_in_iff.mpr h
  refine ⟨h0, ?_⟩
  show (((qI i).toInt.toNat : Nat) : Int) = _
  rw [Int.toNat_of_nonneg (show 0 ≤ (qI i).toInt from h.1)]
  rfl
