theorem tv_arraycopy : Cond.native arraycopyName ∈ wsQ := wq_4 (List.mem_of_getElem? (i := 151) rfl) rfl
theorem ts_arraycopy : Cond.static arraycopyName ∈ wsQ := wq_4 (List.mem_of_getElem? (i := 150) rfl) rfl
theorem tn_System : Cond.initialized "java/lang/System" ∈ wsQ := wq_1 (List.mem_of_getElem? (i := 22) rfl) rfl
def q_pr (sy : Sys) (M : Mem) (n ci f t : Nat) : Prop := (∀ ci' n' f', sy.1 n' = (1, ci') → ¬ (n' = n ∧ f' = f) → sy.2.1 (up M n (f : Int) (t : Int)) ci' n' f' = sy.2.1 M ci' n' f') ∧ sy.2.1 (up M n (f : Int) (t : Int)) ci n f = some t ∧ (sy.2.2 M → sy.2.2 (up M n (f : Int) (t : Int)))
section QROWS4
variable {sy : Sys} {p : Program} {l : Launch} {e : Env} {R : Room} {s : State} {m : MethodId} {args : Array Value} {below : List Frame} {meth : Method} {c : Code} {cc : ByteArray} {nL : Nat} {own : String} {D : va_G} {ad : Nat → Nat} {cA : Nat → ClassId} {Q : State → Prop} {M : Mem} {pc : Nat} {L : List (Nat × Value)} {st : List Value} {α : Type} {RR : α}
theorem r_pr (C : Cx sy p m c cc nL s args own D ad cA) {n ci N f idx : Nat} {Cn nm ds : String} {T : u_T} (hk : sy.1 n = (1, ci)) (hc : q_cl ci Cn T N) (hf : f < N) (hT0 : T f = (Cn, nm, ds, false)) {fz : Int} {t : Nat} {ty : FieldType} {K : Mem → Option α} (hd : parseFieldDescriptor ds = some ty) (hn0 : narrow ty (.ref (ad t)) = .ref (ad t)) (hfit : fits ty (.ref (ad t)) = true) (hu : q_pr sy M n ci f t) (hz : (f : Int) = fz) (w : Cond.fieldLink own idx Cn nm ds ∈ wsQ) (d : decode cc pc = .ok (.putfield idx, 3)) (h : q_pf M n fz (t : Int) K = some RR) (kk : ∀ M1 : Mem, K M1 = some RR → WM sy p l e R s m args below meth c nL D ad cA Q M1 (pc + 3) L st) : WM sy p l e R s m args below meth c nL D ad cA Q M pc L (.ref (ad t) :: .ref (ad n) :: st) := by
  subst hz
  intro H locs ls hP hT hS hl
  have hn : (sy.1 n).1 ≠ 0 := by rw [hk]; exact Nat.one_ne_zero
  have hv := hP n hn
  rw [q_ent_obj hk hc.1] at hv
  obtain ⟨r, h1, cell, q1, q2, q3, q4⟩ := hv
  have hrr : r = (Cn, T, N) := Option.some.inj (h1.symm.trans hc.1)
  subst hrr
  obtain ⟨hSl, hfc, kC, hkC, hkind⟩ := C.2.1.1 ci _ hc.1
  obtain ⟨cf, kf, fi, fd, hi, hsl⟩ := hSl f hf
  obtain ⟨ty0, hty⟩ := hc.2.2.1
  have hap := va_apart (own := own) C.1.2.2.2.2 hc.2.1 ty0 hty hc.2.2.2 C.2.1 hc.1
  have hlay := C.1.2.2.2.2 _ (hc.2.1 _ (u_in_lay hf))
  unfold u_lay at hlay
  rw [if_neg (by rw [hT0]; exact Bool.false_ne_true)] at hlay
  have hi2 : s.fieldFound? Cn nm ds = some (cf, kf, fi, fd) := by
    have h9 : s.fieldFound? (T f).1 (T f).2.1 (T f).2.2.1 = some (cf, kf, fi, fd) := hi
    rw [hT0] at h9
    exact h9
  have hst := (u_facts hfc hkC (u_lays C.1.2.2.2.2 hc.2.1 hf) hi).1
  have h6 := u_store (v := .ref (ad t)) (ty := ty) hfc hkC hkind hlay hi (by rw [hT0]; exact hd) hn0 hfit
  refine W.putK C.1.1 C.1.2.1 (f := fd) ⟨C.1.2.2.2.1, C.1.2.2.2.2 _ w, ⟨_, _, _, hi2⟩, hst⟩ (by rw [q2]; exact h6) q1 q3 (by rw [hsl]; exact k2_hasslot (q4 f hf)) rfl rfl d fun H' e1 e2 e3 => ?_
  rw [hsl] at e1 ⊢
  refine kk _ h H' _ ls (hP.set C.2.2.1 hn ?_ e3 (fun n' h' => up_ne1 h') (fun ci' n' f' hq9 hk' => hu.1 ci' n' f' hk' (fun q => absurd q.1 hq9))) ?_ (hS.put e2 e3 ⟨n, hn, rfl⟩) hl
  · refine q_ob hk hc hf hT0 e1 q2 q3 q4 hap ?_ ?_
    · unfold q_fv
      rw [hu.2.1]
    · intro j hj hne
      unfold q_fv
      rw [hu.1 ci n j hk (fun q => hne q.2), up_ne (fun q => hne (by have := q.2; omega))]
  · exact hu.2.2 hT
theorem r_typ (kk : sy.2.2 M → WM sy p l e R s m args below meth c nL D ad cA Q M pc L st) : WM sy p l e R s m args below meth c nL D ad cA Q M pc L st := by
  intro H locs ls hP hT hS hl
  exact kk hT H locs ls hP hT hS hl
end QROWS4
theorem pr_C {M : Mem} {n f t : Nat} {ci : Nat} (hs : (ci = 9 ∧ n = 0 ∧ f = 3) ∨ (ci = 4 ∧ n = 1 ∧ f = 2) ∨ (ci = 3 ∧ n = 7 ∧ f = 0) ∨ (ci = 3 ∧ n = 7 ∧ f = 1)) (hty : tyC M → tyC (up M n (f : Int) (t : Int))) : q_pr syC M n ci f t := by
  refine ⟨?_, ?_, hty⟩
  · intro ci' n' f' hk hne
    have hm := kdC_mem hk Nat.one_ne_zero
    have ho := tabC_obj _ hm rfl
    show frC (up M n f t) ci' n' f' = frC M ci' n' f'
    have key : up M n (f : Int) (t : Int) n' (f' : Int) = M n' (f' : Int) := up_ne (fun q => hne ⟨q.1, by have := q.2; omega⟩)
    by_cases h1 : ci' = 9 ∧ f' = 3
    · obtain ⟨rfl, rfl⟩ := h1
      show some _ = some _
      rw [show up M n f t n' 3 = M n' 3 from key]
    by_cases h2 : ci' = 4 ∧ f' = 2
    · obtain ⟨rfl, rfl⟩ := h2
      show some _ = some _
      rw [show up M n f t n' 2 = M n' 2 from key]
    by_cases h3 : ci' = 3 ∧ f' = 0
    · obtain ⟨rfl, rfl⟩ := h3
      show some _ = some _
      rw [show up M n f t n' 0 = M n' 0 from key]
    by_cases h4 : ci' = 3 ∧ f' = 1
    · obtain ⟨rfl, rfl⟩ := h4
      show some _ = some _
      rw [show up M n f t n' 1 = M n' 1 from key]
    unfold frC
    split <;> first | rfl | (exfalso; simp_all)
  · rcases hs with ⟨rfl, rfl, rfl⟩ | ⟨rfl, rfl, rfl⟩ | ⟨rfl, rfl, rfl⟩ | ⟨rfl, rfl, rfl⟩
    · show some (up M 0 3 t 0 3).toNat = some t
      rw [up_same]; simp
    · show some (up M 1 2 t 1 2).toNat = some t
      rw [up_same]; simp
    · show some (up M 7 0 t 7 0).toNat = some t
      rw [up_same]; simp
    · show some (up M 7 1 t 7 1).toNat = some t
      rw [up_same]; simp
theorem pr_9_3 {M : Mem} {t : Nat} (ht : isT t) : q_pr syC M 0 9 3 t := pr_C (Or.inl ⟨rfl, rfl, rfl⟩) (fun q => ⟨by rw [show up M 0 ((3 : Nat) : Int) t 0 3 = t from up_same _ _ _ _]; simpa using ht, by rw [up_ne (by simp)]; exact q.2.1, by rw [up_ne (by simp)]; exact q.2.2.1, by rw [up_ne (by simp)]; exact q.2.2.2⟩)
theorem pr_4_2 {M : Mem} {t : Nat} (ht : isT t) : q_pr syC M 1 4 2 t := pr_C (Or.inr (Or.inl ⟨rfl, rfl, rfl⟩)) (fun q => ⟨by rw [up_ne (by simp)]; exact q.1, by rw [show up M 1 ((2 : Nat) : Int) t 1 2 = t from up_same _ _ _ _]; simpa using ht, by rw [up_ne (by simp)]; exact q.2.2.1, by rw [up_ne (by simp)]; exact q.2.2.2⟩)
theorem pr_3_0 {M : Mem} {t : Nat} (ht : isT t) : q_pr syC M 7 3 0 t := pr_C (Or.inr (Or.inr (Or.inl ⟨rfl, rfl, rfl⟩))) (fun q => ⟨by rw [up_ne (by simp)]; exact q.1, by rw [up_ne (by simp)]; exact q.2.1, by rw [show up M 7 ((0 : Nat) : Int) t 7 0 = t from up_same _ _ _ _]; simpa using ht, by rw [up_ne (by simp)]; exact q.2.2.2⟩)
theorem pr_3_1 {M : Mem} {t : Nat} (ht : isS t) : q_pr syC M 7 3 1 t := pr_C (Or.inr (Or.inr (Or.inr ⟨rfl, rfl, rfl⟩))) (fun q => ⟨by rw [up_ne (by simp)]; exact q.1, by rw [up_ne (by simp)]; exact q.2.1, by rw [up_ne (by simp)]; exact q.2.2.1, by rw [show up M 7 ((1 : Nat) : Int) t 7 1 = t from up_same _ _ _ _]; simpa using ht⟩)
def q_cp (M : Mem) (n1 : Nat) (sp : Int) (n2 : Nat) (dp cnt : Int) : Mem := fun n i => if n = n2 ∧ dp ≤ i ∧ i < dp + cnt then M n1 (sp + (i - dp)) else M n i
def q_cpy {α : Type} (M : Mem) (n1 : Nat) (sp : Int) (n2 : Nat) (dp cnt : Int) (l1 l2 : Nat) (K : Mem → Option α) : Option α := if (0 ≤ w32 sp ∧ 0 ≤ w32 dp ∧ 0 ≤ w32 cnt) ∧ w32 sp + w32 cnt ≤ (l1 : Int) ∧ w32 dp + w32 cnt ≤ (l2 : Int) then K (q_cp M n1 (w32 sp) n2 (w32 dp) (w32 cnt)) else none
theorem map_set {α β : Type} {F F1 : α → β} (t : List α) (i : Nat) (x : β) (h1 : ∀ j q, t[j]? = some q → j ≠ i → F1 q = F q) (h2 : ∀ q, t[i]? = some q → F1 q = x) : (t.map F).set i x = t.map F1 := by
  apply List.ext_getElem?
  intro j
  rw [List.getElem?_set, List.getElem?_map, List.getElem?_map]
  by_cases hj : i = j
  · subst hj
    rw [if_pos rfl]
    cases hq : t[i]? with
    | none =>
      rw [if_neg (by rw [List.length_map]; exact fun h => by rw [List.getElem?_eq_none_iff] at hq; omega)]
      rfl
    | some q =>
      rw [if_pos (by rw [List.length_map]; exact (List.getElem?_eq_some_iff.mp hq).1)]
      show some x = some (F1 q)
      rw [h2 q hq]
  · rw [if_neg hj]
    cases hq : t[j]? with
    | none => rfl
    | some q => show some (F q) = some (F1 q); rw [h1 j q hq (fun e => hj e.symm)]
section QROWS5
variable {p : Program} {l : Launch} {e : Env} {R : Room} {s : State} {m : MethodId} {args : Array Value} {below : List Frame} {meth : Method} {c : Code} {cc : ByteArray} {nL : Nat} {own : String} {D : va_G} {ad : Nat → Nat} {cA : Nat → ClassId} {Q : State → Prop} {M : Mem} {pc : Nat} {L : List (Nat × Value)} {st : List Value} {α : Type} {RR : α}
def q_cells (ad : Nat → Nat) (cA : Nat → ClassId) (M : Mem) : va_W := tabC.map (fun q => (ad q.1, q_ent syC ad cA M q.1))
theorem tabC_kd : ∀ q ∈ tabC, kdC q.1 = q.2 ∧ q.2.1 ≠ 0 := by decide +kernel
theorem tabC_nd : ∀ i, i < tabC.length → ∀ j, j < tabC.length → (tabC[i]?.map (·.1)) = (tabC[j]?.map (·.1)) → i = j := by decide +kernel
theorem q_cells_P (M : Mem) (H : Heap) : va_P D vwCl (q_cells ad cA M) H ↔ q_P syC D ad cA M H := by
  constructor
  · intro h n hn
    have hm : (n, (kdC n).1, (kdC n).2) ∈ tabC := kdC_mem rfl hn
    obtain ⟨k, hk⟩ := List.getElem?_of_mem hm
    exact h k _ (by unfold q_cells; rw [List.getElem?_map, hk]; rfl)
  · intro h k q hq
    unfold q_cells at hq
    rw [List.getElem?_map] at hq
    cases ht : tabC[k]? with
    | none => rw [ht] at hq; cases hq
    | some x =>
      rw [ht] at hq
      cases hq
      have hx := tabC_kd x (List.mem_of_getElem? ht)
      exact h x.1 (by show (kdC x.1).1 ≠ 0; rw [hx.1]; exact hx.2)
theorem q_cells_D (hi : q_inj syC ad) (M : Mem) : va_D (q_A syC ad) (q_cells ad cA M) := by
  have key : ∀ (k : Nat) (q : Nat × va_E), (q_cells ad cA M)[k]? = some q → ∃ x, tabC[k]? = some x ∧ q.1 = ad x.1 := by
    intro k q hq
    unfold q_cells at hq
    rw [List.getElem?_map] at hq
    cases ht : tabC[k]? with
    | none => rw [ht] at hq; cases hq
    | some x => rw [ht] at hq; cases hq; exact ⟨x, rfl, rfl⟩
  have kd : ∀ x ∈ tabC, (syC.1 x.1).1 ≠ 0 := fun x hx => by show (kdC x.1).1 ≠ 0; rw [(tabC_kd x hx).1]; exact (tabC_kd x hx).2
  constructor
  · intro i j a b ha hb hab
    obtain ⟨x, hx, ex⟩ := key i a ha
    obtain ⟨y, hy, ey⟩ := key j b hb
    have e1 : x.1 = y.1 := hi _ _ (kd x (List.mem_of_getElem? hx)) (kd y (List.mem_of_getElem? hy)) (by rw [← ex, ← ey, hab])
    refine tabC_nd i (List.getElem?_eq_some_iff.mp hx).1 j (List.getElem?_eq_some_iff.mp hy).1 ?_
    rw [hx, hy]
    show some x.1 = some y.1
    rw [e1]
  · intro k q hq
    obtain ⟨x, hx, ex⟩ := key k q hq
    exact ⟨x.1, kd x (List.mem_of_getElem? hx), ex⟩
theorem q_w0 {x : Int} (h : 0 ≤ w32 x) : ¬ qI x < 0 ∧ ((qI x).toNatClampNeg : Int) = w32 x := by
  refine ⟨fun q => ?_, ?_⟩
  · have q2 : qI x < qI 0 := by rw [qI_0]; exact q
    have := qI_lt.mp q2
    rw [w32_0] at this
    omega
  · show (((qI x).toInt.toNat : Nat) : Int) = _
    rw [Int.toNat_of_nonneg (show 0 ≤ (qI x).toInt from h)]
    rfl
theorem r_cpy (C : Cx syC p m c cc nL s args own D ad cA) {sp dp cnt : Int} {idx : Nat} {K : Mem → Option α} (hk1 : syC.1 44 = (2, 4)) (hk2 : syC.1 45 = (2, 4)) (_h : 4 = 4) (w : Cond.methodLink own idx arraycopyName ∈ wsQ) (d : decode cc pc = .ok (.invokestatic idx, 3)) (hR : 1 ≤ R.frames ∧ (st.map fun v => v.category).sum + (nativeFrameWords "java/lang/System" "arraycopy" 5 + 11) ≤ R.locals) (h : q_cpy M 44 sp 45 dp cnt 4 4 K = some RR) (kk : ∀ M1 : Mem, K M1 = some RR → WM syC p l e R s m args below meth c nL D ad cA Q M1 (pc + 3) L st) : WM syC p l e R s m args below meth c nL D ad cA Q M pc L (.int (qI cnt) :: .int (qI dp) :: .ref (ad 45) :: .int (qI sp) :: .ref (ad 44) :: st) := by
  intro H locs ls hP hT hS hl
  unfold q_cpy at h
  split at h
  case isFalse => cases h
  rename_i hg
  obtain ⟨⟨g1, g2, g3⟩, g4, g5⟩ := hg
  obtain ⟨a1, b1⟩ := q_w0 g1
  obtain ⟨a2, b2⟩ := q_w0 g2
  obtain ⟨a3, b3⟩ := q_w0 g3
  have e44 : (q_cells ad cA M)[16]? = some (ad 44, .inl (cA 2, 4, .inl (fun i : Nat => qI (M 44 (i : Int))))) := by
    unfold q_cells
    rw [List.getElem?_map, show tabC[16]? = some (44, 2, 4) by decide +kernel]
    show some (ad 44, q_ent syC ad cA M 44) = _
    rw [q_ent_arr hk1 (by decide) (by decide)]
  have e45 : (q_cells ad cA M)[17]? = some (ad 45, .inl (cA 2, 4, .inl (fun i : Nat => qI (M 45 (i : Int))))) := by
    unfold q_cells
    rw [List.getElem?_map, show tabC[17]? = some (45, 2, 4) by decide +kernel]
    show some (ad 45, q_ent syC ad cA M 45) = _
    rw [q_ent_arr hk2 (by decide) (by decide)]
  refine va_copyi C.1.1 C.1.2.1 (C.1.2.2.1.trans hl.1.symm) C.1.2.2.2.1 (C.1.2.2.2.2 _ w) (C.1.2.2.2.2 _ tv_arraycopy) (C.1.2.2.2.2 _ ts_arraycopy) (C.1.2.2.2.2 _ tn_System) C.2.1 ((q_cells_P M H).mpr hP) (q_cells_D C.2.2.1 M) hS 16 17 0 0 e44 e45 rfl rfl rfl a1 a2 a3 (by omega) (by omega) (fun i _ => rfl) hR.1 hR.2 d (fun H1 locs1 hP1 hD1 hS1 => ?_)
  have hw : ∀ n i, n ≠ 45 → q_cp M 44 (w32 sp) 45 (w32 dp) (w32 cnt) n i = M n i := fun n i hn => by unfold q_cp; rw [if_neg (fun q => hn q.1)]
  have hm : (q_cells ad cA M).set 17 (ad 45, .inl (cA 2, 4, .inl (va_cpy (fun i : Nat => qI (M 44 (i : Int))) (fun i : Nat => qI (M 45 (i : Int))) (qI sp).toNatClampNeg (qI dp).toNatClampNeg (qI cnt).toNatClampNeg))) = q_cells ad cA (q_cp M 44 (w32 sp) 45 (w32 dp) (w32 cnt)) := by
    unfold q_cells
    apply map_set
    · intro j q hq hj
      have hne : q.1 ≠ 45 := fun e9 => hj (tabC_nd j (List.getElem?_eq_some_iff.mp hq).1 17 (by decide +kernel) (by rw [hq]; show some q.1 = _; rw [e9]; decide +kernel))
      have hx := tabC_kd q (List.mem_of_getElem? hq)
      rw [q_ent_kept (funext fun i => hw q.1 i hne) (fun ci f hk => ?_)]
      show frC _ ci q.1 f = frC M ci q.1 f
      unfold frC
      split <;> first | rfl | (rw [hw _ _ hne])
    · intro q hq
      rw [show tabC[17]? = some (45, 2, 4) by decide +kernel] at hq
      cases hq
      show (ad 45, q_ent syC ad cA _ 45) = _
      rw [q_ent_arr hk2 (by decide) (by decide)]
      congr 5
      funext i
      unfold q_cp va_cpy
      by_cases hin : (qI dp).toNatClampNeg ≤ i ∧ i < (qI dp).toNatClampNeg + (qI cnt).toNatClampNeg
      · rw [if_pos ⟨rfl, by omega, by omega⟩, if_pos hin]
        congr 2
        omega
      · rw [if_neg (fun q => hin ⟨by omega, by omega⟩), if_neg hin]
  rw [hm] at hP1
  refine kk _ h H1 locs1 ls ((q_cells_P _ H1).mp hP1) ?_ hS1 hl
  show tyC _
  unfold tyC
  rw [hw 0 3 (by decide), hw 1 2 (by decide), hw 7 0 (by decide), hw 7 1 (by decide)]
  exact hT
end QROWS5
