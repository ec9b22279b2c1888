section QROWS2
variable {sy : Sys} {p : Program} {l : Launch} {e : Env} {R : Room} {s : State} {m : MethodId} {args : Array Value} {below : List Frame} {meth : Method} {c : Code} {cc : ByteArray} {nL : Nat} {own : String} {D : va_G} {ad : Nat → Nat} {cA : Nat → ClassId} {Q : State → Prop} {M : Mem} {pc : Nat} {L : List (Nat × Value)} {st : List Value} {α : Type} {RR : α}
theorem r_gf (C : Cx sy p m c cc nL s args own D ad cA) {n ci N f idx : Nat} {Cn nm ds : String} {T : u_T} {fin : Bool} (hk : sy.1 n = (1, ci)) (hc : q_cl ci Cn T N) (hf : f < N) (hT0 : T f = (Cn, nm, ds, fin)) {fz : Int} {K : Int → Option α} (hr : sy.2.1 M ci n f = none) (hz : (f : Int) = fz) (w : Cond.fieldLink own idx Cn nm ds ∈ wsQ) (d : decode cc pc = .ok (.getfield idx, 3)) (h : q_gf M n fz K = some RR) (kk : ∀ v : Int, K v = some RR → WM sy p l e R s m args below meth c nL D ad cA Q M (pc + 3) L (.int (qI v) :: st)) : WM sy p l e R s m args below meth c nL D ad cA Q M pc L (.ref (ad n) :: st) := by
  subst hz
  intro H locs ls hP hT hS hl
  have hv := hP n (by rw [hk]; exact Nat.one_ne_zero)
  rw [q_ent_obj hk hc.1] at hv
  refine va_get (D := D) (ci := ci) (v := .int (qI (M n f))) (C := Cn) (T := T) (N := N) (ref := Cn) C.1.1 C.1.2.1 C.1.2.2.2.2 hc.2.1 C.1.2.2.2.1 C.2.1 (q_one hv) 0 rfl hc.1 f hf (by rw [hT0]; exact C.1.2.2.2.2 _ w) (fun _ h9 => by rw [hT0] at h9 ⊢; exact h9) (by rw [q_fs_get hf, q_fv, hr]) d ?_
  exact kk _ h H locs ls hP hT hS hl
theorem r_gs (C : Cx sy p m c cc nL s args own D ad cA) {n ci N f idx : Nat} {Cn nm ds : String} {T : u_T} {fin : Bool} (hk : sy.1 n = (1, ci)) (hc : q_cl ci Cn T N) (hf : f < N) (hT0 : T f = (Cn, nm, ds, fin)) {t : Nat} (hr : sy.2.1 M ci n f = some t) (w : Cond.fieldLink own idx Cn nm ds ∈ wsQ) (d : decode cc pc = .ok (.getfield idx, 3)) (kk : WM sy p l e R s m args below meth c nL D ad cA Q M (pc + 3) L (.ref (ad t) :: st)) : WM sy p l e R s m args below meth c nL D ad cA Q M pc L (.ref (ad n) :: st) := by
  intro H locs ls hP hT hS hl
  have hv := hP n (by rw [hk]; exact Nat.one_ne_zero)
  rw [q_ent_obj hk hc.1] at hv
  refine va_get (D := D) (ci := ci) (v := .ref (ad t)) (C := Cn) (T := T) (N := N) (ref := Cn) C.1.1 C.1.2.1 C.1.2.2.2.2 hc.2.1 C.1.2.2.2.1 C.2.1 (q_one hv) 0 rfl hc.1 f hf (by rw [hT0]; exact C.1.2.2.2.2 _ w) (fun _ h9 => by rw [hT0] at h9 ⊢; exact h9) (by rw [q_fs_get hf, q_fv, hr]) d ?_
  exact kk H locs ls hP hT hS hl
theorem r_gr (C : Cx sy p m c cc nL s args own D ad cA) {n ci N f idx : Nat} {Cn nm ds : String} {T : u_T} {fin : Bool} (hk : sy.1 n = (1, ci)) (hc : q_cl ci Cn T N) (hf : f < N) (hT0 : T f = (Cn, nm, ds, fin)) {fz : Int} {K : Nat → Option α} {Pp : Nat → Prop} (hr : sy.2.1 M ci n f = some (M n fz).toNat) (hp : sy.2.2 M → Pp (M n fz).toNat) (w : Cond.fieldLink own idx Cn nm ds ∈ wsQ) (d : decode cc pc = .ok (.getfield idx, 3)) (h : q_gr M n fz K = some RR) (kk : ∀ t : Nat, Pp t → K t = some RR → WM sy p l e R s m args below meth c nL D ad cA Q M (pc + 3) L (.ref (ad t) :: st)) : WM sy p l e R s m args below meth c nL D ad cA Q M pc L (.ref (ad n) :: st) := by
  intro H locs ls hP hT hS hl
  have hv := hP n (by rw [hk]; exact Nat.one_ne_zero)
  rw [q_ent_obj hk hc.1] at hv
  refine va_get (D := D) (ci := ci) (v := .ref (ad (M n fz).toNat)) (C := Cn) (T := T) (N := N) (ref := Cn) C.1.1 C.1.2.1 C.1.2.2.2.2 hc.2.1 C.1.2.2.2.1 C.2.1 (q_one hv) 0 rfl hc.1 f hf (by rw [hT0]; exact C.1.2.2.2.2 _ w) (fun _ h9 => by rw [hT0] at h9 ⊢; exact h9) (by rw [q_fs_get hf, q_fv, hr]) d ?_
  exact kk _ (hp hT) h H locs ls hP hT hS hl
theorem q_ob {cell : Cell} {n ci N f : Nat} {Cn nm ds : String} {H : Heap} {v : Value} {M1 : Mem} {T : u_T} {fin : Bool} (hk : sy.1 n = (1, ci)) (hc : q_cl ci Cn T N) (hf : f < N) (hT0 : T f = (Cn, nm, ds, fin)) (e1 : H[ad n]? = some (cell.setSlot (D.2 ci f) v)) (q2 : cell.cls = D.1 ci) (q3 : cell.vm = .none) (q4 : ∀ k, k < N → cell.slots[D.2 ci k]? = some (vp_V (q_fs sy ad M ci n N) k)) (hap : ∀ x y, x < N → y < N → x ≠ y → (D.2 ci) x ≠ (D.2 ci) y) (hv : q_fv sy ad M1 ci n f = v) (ho : ∀ j, j < N → j ≠ f → q_fv sy ad M1 ci n j = q_fv sy ad M ci n j) : va_at D vwCl (ad n, q_ent sy ad cA M1 n) H := by
  rw [q_ent_obj hk hc.1]
  refine ⟨_, hc.1, t_OB.to (V := updV (vp_V (q_fs sy ad M ci n N)) f v) ⟨_, e1, q2, q3, t_set q4 hap hf v⟩ (fun j hj => ?_)⟩
  show updV (vp_V (q_fs sy ad M ci n N)) f v j = vp_V (q_fs sy ad M1 ci n N) j
  rw [q_vpV hj]
  unfold updV
  by_cases h : j = f
  · rw [if_pos h, h, hv]
  · rw [if_neg h, q_vpV hj, ho j hj h]
theorem r_pf (C : Cx sy p m c cc nL s args own D ad cA) {n ci N f idx : Nat} {Cn nm ds : String} {T : u_T} (hk : sy.1 n = (1, ci)) (hc : q_cl ci Cn T N) (hf : f < N) (hT0 : T f = (Cn, nm, ds, false)) {fz v : Int} {K : Mem → Option α} (hd : parseFieldDescriptor ds = some .int) (hr : sy.2.1 M ci n f = none) (hz : (f : Int) = fz) (w : Cond.fieldLink own idx Cn nm ds ∈ wsQ) (d : decode cc pc = .ok (.putfield idx, 3)) (h : q_pf M n fz v K = some RR) (kk : ∀ M1 : Mem, K M1 = some RR → WM sy p l e R s m args below meth c nL D ad cA Q M1 (pc + 3) L st) : WM sy p l e R s m args below meth c nL D ad cA Q M pc L (.int (qI v) :: .ref (ad n) :: st) := by
  subst hz
  intro H locs ls hP hT hS hl
  have hw : 2 ≤ (sy.1 n).1 ∨ ((sy.1 n).1 = 1 ∧ ∃ f2 : Nat, (f : Int) = (f2 : Int) ∧ sy.2.1 M (sy.1 n).2 n f2 = none) := Or.inr ⟨by rw [hk], f, rfl, by rw [hk]; exact hr⟩
  have hn : (sy.1 n).1 ≠ 0 := by rw [hk]; exact Nat.one_ne_zero
  have hv := hP n hn
  rw [q_ent_obj hk hc.1] at hv
  obtain ⟨r, h1, cell, q1, q2, q3, q4⟩ := hv
  have hrr : r = (Cn, T, N) := Option.some.inj (h1.symm.trans hc.1)
  subst hrr
  obtain ⟨hSl, hfc, kC, hkC, hkind⟩ := C.2.1.1 ci _ hc.1
  obtain ⟨cf, kf, fi, fd, hi, hsl⟩ := hSl f hf
  obtain ⟨ty0, hty⟩ := hc.2.2.1
  have hap := va_apart (own := own) C.1.2.2.2.2 hc.2.1 ty0 hty hc.2.2.2 C.2.1 hc.1
  have hlay := C.1.2.2.2.2 _ (hc.2.1 _ (u_in_lay hf))
  unfold u_lay at hlay
  rw [if_neg (by rw [hT0]; exact Bool.false_ne_true)] at hlay
  have hi2 : s.fieldFound? Cn nm ds = some (cf, kf, fi, fd) := by
    have h9 : s.fieldFound? (T f).1 (T f).2.1 (T f).2.2.1 = some (cf, kf, fi, fd) := hi
    rw [hT0] at h9
    exact h9
  have hst := (u_facts hfc hkC (u_lays C.1.2.2.2.2 hc.2.1 hf) hi).1
  have h6 := u_store (v := .int (qI v)) (ty := .int) hfc hkC hkind hlay hi (by rw [hT0]; exact hd) rfl rfl
  refine W.putK C.1.1 C.1.2.1 (f := fd) ⟨C.1.2.2.2.1, C.1.2.2.2.2 _ w, ⟨_, _, _, hi2⟩, hst⟩ (by rw [q2]; exact h6) q1 q3 (by rw [hsl]; exact k2_hasslot (q4 f hf)) rfl rfl d fun H' e1 e2 e3 => ?_
  rw [hsl] at e1 ⊢
  refine kk _ h H' _ ls (hP.set C.2.2.1 hn ?_ e3 (fun n' h' => up_ne1 h') (fun ci' n' f' _ hk' => (C.2.2.2.1 M n (f : Int) v hw).1 ci' n' f' hk')) ?_ (hS.put e2 e3 ⟨n, hn, rfl⟩) hl
  · refine q_ob hk hc hf hT0 e1 q2 q3 q4 hap ?_ ?_
    · unfold q_fv
      rw [(C.2.2.2.1 M n (f : Int) v hw).1 ci n f hk, hr, up_same]
    · intro j hj hne
      unfold q_fv
      rw [(C.2.2.2.1 M n (f : Int) v hw).1 ci n j hk, up_ne (fun q => hne (by have := q.2; omega))]
  · exact (C.2.2.2.1 M n (f : Int) v hw).2 hT
theorem r_pz (C : Cx sy p m c cc nL s args own D ad cA) {n ci N f idx : Nat} {Cn nm ds : String} {T : u_T} (hk : sy.1 n = (1, ci)) (hc : q_cl ci Cn T N) (hf : f < N) (hT0 : T f = (Cn, nm, ds, false)) {fz v : Int} {K : Mem → Option α} (hd : parseFieldDescriptor ds = some .boolean) (hr : sy.2.1 M ci n f = none) (hz : (f : Int) = fz) (w : Cond.fieldLink own idx Cn nm ds ∈ wsQ) (d : decode cc pc = .ok (.putfield idx, 3)) (h : q_pz M n fz v K = some RR) (kk : ∀ M1 : Mem, K M1 = some RR → WM sy p l e R s m args below meth c nL D ad cA Q M1 (pc + 3) L st) : WM sy p l e R s m args below meth c nL D ad cA Q M pc L (.int (qI v) :: .ref (ad n) :: st) := by
  subst hz
  intro H locs ls hP hT hS hl
  unfold q_pz at h
  by_cases hb : v = 0 ∨ v = 1
  case neg => rw [if_neg hb] at h; cases h
  rw [if_pos hb] at h
  have hnar : narrow .boolean (.int (qI v)) = .int (qI v) := by rcases hb with rfl | rfl <;> decide
  have hw : 2 ≤ (sy.1 n).1 ∨ ((sy.1 n).1 = 1 ∧ ∃ f2 : Nat, (f : Int) = (f2 : Int) ∧ sy.2.1 M (sy.1 n).2 n f2 = none) := Or.inr ⟨by rw [hk], f, rfl, by rw [hk]; exact hr⟩
  have hn : (sy.1 n).1 ≠ 0 := by rw [hk]; exact Nat.one_ne_zero
  have hv := hP n hn
  rw [q_ent_obj hk hc.1] at hv
  obtain ⟨r, h1, cell, q1, q2, q3, q4⟩ := hv
  have hrr : r = (Cn, T, N) := Option.some.inj (h1.symm.trans hc.1)
  subst hrr
  obtain ⟨hSl, hfc, kC, hkC, hkind⟩ := C.2.1.1 ci _ hc.1
  obtain ⟨cf, kf, fi, fd, hi, hsl⟩ := hSl f hf
  obtain ⟨ty0, hty⟩ := hc.2.2.1
  have hap := va_apart (own := own) C.1.2.2.2.2 hc.2.1 ty0 hty hc.2.2.2 C.2.1 hc.1
  have hlay := C.1.2.2.2.2 _ (hc.2.1 _ (u_in_lay hf))
  unfold u_lay at hlay
  rw [if_neg (by rw [hT0]; exact Bool.false_ne_true)] at hlay
  have hi2 : s.fieldFound? Cn nm ds = some (cf, kf, fi, fd) := by
    have h9 : s.fieldFound? (T f).1 (T f).2.1 (T f).2.2.1 = some (cf, kf, fi, fd) := hi
    rw [hT0] at h9
    exact h9
  have hst := (u_facts hfc hkC (u_lays C.1.2.2.2.2 hc.2.1 hf) hi).1
  have h6 := u_store (v := .int (qI v)) (ty := .boolean) hfc hkC hkind hlay hi (by rw [hT0]; exact hd) hnar (by rcases hb with rfl | rfl <;> decide)
  refine W.putK C.1.1 C.1.2.1 (f := fd) ⟨C.1.2.2.2.1, C.1.2.2.2.2 _ w, ⟨_, _, _, hi2⟩, hst⟩ (by rw [q2]; exact h6) q1 q3 (by rw [hsl]; exact k2_hasslot (q4 f hf)) rfl rfl d fun H' e1 e2 e3 => ?_
  rw [hsl] at e1 ⊢
  refine kk _ h H' _ ls (hP.set C.2.2.1 hn ?_ e3 (fun n' h' => up_ne1 h') (fun ci' n' f' _ hk' => (C.2.2.2.1 M n (f : Int) v hw).1 ci' n' f' hk')) ?_ (hS.put e2 e3 ⟨n, hn, rfl⟩) hl
  · refine q_ob hk hc hf hT0 e1 q2 q3 q4 hap ?_ ?_
    · unfold q_fv
      rw [(C.2.2.2.1 M n (f : Int) v hw).1 ci n f hk, hr, up_same]
    · intro j hj hne
      unfold q_fv
      rw [(C.2.2.2.1 M n (f : Int) v hw).1 ci n j hk, up_ne (fun q => hne (by have := q.2; omega))]
  · exact (C.2.2.2.1 M n (f : Int) v hw).2 hT
theorem r_iald (C : Cx sy p m c cc nL s args own D ad cA) {n len : Nat} {i : Int} {K : Int → Option α} (hk : sy.1 n = (2, len)) (d : decode cc pc = .ok (.iaload, 1)) (h : q_al M n len i K = some RR) (kk : ∀ v : Int, K v = some RR → WM sy p l e R s m args below meth c nL D ad cA Q M (pc + 1) L (.int (qI v) :: st)) : WM sy p l e R s m args below meth c nL D ad cA Q M pc L (.int (qI i) :: .ref (ad n) :: st) := by
  intro H locs ls hP hT hS hl
  unfold q_al at h
  by_cases hb : 0 ≤ w32 i ∧ w32 i < (len : Int)
  case neg => rw [if_neg hb] at h; cases h
  rw [if_pos hb] at h
  obtain ⟨hin, hix⟩ := q_inw hb
  have hv := hP n (by rw [hk]; show (2 : Nat) ≠ 0; decide)
  rw [q_ent_arr hk (by decide) (by decide)] at hv
  refine va_iald C.1.1 C.1.2.1 C.2.1 (q_one hv) 0 0 rfl rfl hin d ?_
  have h2 := kk _ h H locs ls hP hT hS hl
  rw [← hix] at h2
  exact h2
theorem r_bald (C : Cx sy p m c cc nL s args own D ad cA) {n len : Nat} {i : Int} {K : Int → Option α} (hk : sy.1 n = (3, len)) (d : decode cc pc = .ok (.baload, 1)) (h : q_al M n len i K = some RR) (kk : ∀ v : Int, K v = some RR → WM sy p l e R s m args below meth c nL D ad cA Q M (pc + 1) L (.int (qI v) :: st)) : WM sy p l e R s m args below meth c nL D ad cA Q M pc L (.int (qI i) :: .ref (ad n) :: st) := by
  intro H locs ls hP hT hS hl
  unfold q_al at h
  by_cases hb : 0 ≤ w32 i ∧ w32 i < (len : Int)
  case neg => rw [if_neg hb] at h; cases h
  rw [if_pos hb] at h
  obtain ⟨hin, hix⟩ := q_inw hb
  have hv := hP n (by rw [hk]; show (3 : Nat) ≠ 0; decide)
  rw [q_ent_arr hk (by decide) (by decide)] at hv
  refine va_bald C.1.1 C.1.2.1 C.2.1 (q_one hv) 0 1 rfl rfl hin d ?_
  have h2 := kk _ h H locs ls hP hT hS hl
  rw [← hix] at h2
  exact h2
theorem r_zald (C : Cx sy p m c cc nL s args own D ad cA) {n len : Nat} {i : Int} {K : Int → Option α} (hk : sy.1 n = (4, len)) (d : decode cc pc = .ok (.baload, 1)) (h : q_al M n len i K = some RR) (kk : ∀ v : Int, K v = some RR → WM sy p l e R s m args below meth c nL D ad cA Q M (pc + 1) L (.int (qI v) :: st)) : WM sy p l e R s m args below meth c nL D ad cA Q M pc L (.int (qI i) :: .ref (ad n) :: st) := by
  intro H locs ls hP hT hS hl
  unfold q_al at h
  by_cases hb : 0 ≤ w32 i ∧ w32 i < (len : Int)
  case neg => rw [if_neg hb] at h; cases h
  rw [if_pos hb] at h
  obtain ⟨hin, hix⟩ := q_inw hb
  have hv := hP n (by rw [hk]; show (4 : Nat) ≠ 0; decide)
  rw [q_ent_arr hk (by decide) (by decide)] at hv
  refine va_zald C.1.1 C.1.2.1 C.2.1 (q_one hv) 0 2 rfl rfl hin d ?_
  have h2 := kk _ h H locs ls hP hT hS hl
  rw [← hix] at h2
  exact h2
theorem r_lald (C : Cx sy p m c cc nL s args own D ad cA) {n len : Nat} {i : Int} {K : Int → Option α} (hk : sy.1 n = (5, len)) (d : decode cc pc = .ok (.laload, 1)) (h : q_al M n len i K = some RR) (kk : ∀ v : Int, K v = some RR → WM sy p l e R s m args below meth c nL D ad cA Q M (pc + 1) L (.long (qJ v) :: st)) : WM sy p l e R s m args below meth c nL D ad cA Q M pc L (.int (qI i) :: .ref (ad n) :: st) := by
  intro H locs ls hP hT hS hl
  unfold q_al at h
  by_cases hb : 0 ≤ w32 i ∧ w32 i < (len : Int)
  case neg => rw [if_neg hb] at h; cases h
  rw [if_pos hb] at h
  obtain ⟨hin, hix⟩ := q_inw hb
  have hv := hP n (by rw [hk]; show (5 : Nat) ≠ 0; decide)
  rw [q_ent_long hk] at hv
  refine va_lald C.1.1 C.1.2.1 C.2.1 (q_one hv) 0 3 rfl rfl hin d ?_
  have h2 := kk _ h H locs ls hP hT hS hl
  rw [← hix] at h2
  exact h2
theorem r_iast (C : Cx sy p m c cc nL s args own D ad cA) {n len : Nat} {i v : Int} {K : Mem → Option α} (hk : sy.1 n = (2, len)) (d : decode cc pc = .ok (.iastore, 1)) (h : q_as M n len i v K = some RR) (kk : ∀ M1 : Mem, K M1 = some RR → WM sy p l e R s m args below meth c nL D ad cA Q M1 (pc + 1) L st) : WM sy p l e R s m args below meth c nL D ad cA Q M pc L (.int (qI v) :: .int (qI i) :: .ref (ad n) :: st) := by
  intro H locs ls hP hT hS hl
  unfold q_as at h
  by_cases hb : 0 ≤ w32 i ∧ w32 i < (len : Int)
  case neg => rw [if_neg hb] at h; cases h
  rw [if_pos hb] at h
  obtain ⟨hin, hix⟩ := q_inw hb
  have hn : (sy.1 n).1 ≠ 0 := by rw [hk]; show (2 : Nat) ≠ 0; decide
  have hw : 2 ≤ (sy.1 n).1 ∨ ((sy.1 n).1 = 1 ∧ ∃ f2 : Nat, w32 i = (f2 : Int) ∧ sy.2.1 M (sy.1 n).2 n f2 = none) := Or.inl (by rw [hk]; show 2 ≤ 2; decide)
  have hv := hP n hn
  rw [q_ent_arr hk (by decide) (by decide)] at hv
  refine W.iast C.1.1 C.1.2.1 hv ((C.2.1.2 0 _ rfl).1 len (fun j => .int (qI (M n (j : Int))))) (fun q => by cases q) (by show ¬ ((qI i) < 0 ∨ (arrV _ _ _).slots.size ≤ _); rw [arrV_size]; exact hin) rfl rfl d fun H1 e1 z oq => ?_
  refine kk _ h H1 _ ls (hP.set C.2.2.1 hn ?_ oq (fun n' h' => up_ne1 h') (fun ci' n' f' _ hk' => (C.2.2.2.1 M n (w32 i) v hw).1 ci' n' f' hk')) ((C.2.2.2.1 M n (w32 i) v hw).2 hT) (hS.put z oq ⟨n, hn, rfl⟩) hl
  rw [q_ent_arr hk (by decide) (by decide)]
  show H1[ad n]? = some (vp_cell _ _)
  rw [e1, vp_cell_i, vp_cell_i, arrV_store]
  congr 2
  funext j
  unfold updV
  by_cases hj : j = (qI i).toNatClampNeg
  · rw [if_pos hj, hj, hix, up_same]
  · rw [if_neg hj, up_ne (fun q => hj (by have := q.2; rw [← hix] at this; omega))]
theorem r_last (C : Cx sy p m c cc nL s args own D ad cA) {n len : Nat} {i v : Int} {K : Mem → Option α} (hk : sy.1 n = (5, len)) (d : decode cc pc = .ok (.lastore, 1)) (h : q_as M n len i v K = some RR) (kk : ∀ M1 : Mem, K M1 = some RR → WM sy p l e R s m args below meth c nL D ad cA Q M1 (pc + 1) L st) : WM sy p l e R s m args below meth c nL D ad cA Q M pc L (.long (qJ v) :: .int (qI i) :: .ref (ad n) :: st) := by
  intro H locs ls hP hT hS hl
  unfold q_as at h
  by_cases hb : 0 ≤ w32 i ∧ w32 i < (len : Int)
  case neg => rw [if_neg hb] at h; cases h
  rw [if_pos hb] at h
  obtain ⟨hin, hix⟩ := q_inw hb
  have hn : (sy.1 n).1 ≠ 0 := by rw [hk]; show (5 : Nat) ≠ 0; decide
  have hw : 2 ≤ (sy.1 n).1 ∨ ((sy.1 n).1 = 1 ∧ ∃ f2 : Nat, w32 i = (f2 : Int) ∧ sy.2.1 M (sy.1 n).2 n f2 = none) := Or.inl (by rw [hk]; show 2 ≤ 5; decide)
  have hv := hP n hn
  rw [q_ent_long hk] at hv
  refine W.last C.1.1 C.1.2.1 hv ((C.2.1.2 3 _ rfl).1 len (fun j => .long (qJ (M n (j : Int))))) (fun q => by cases q) (by show ¬ ((qI i) < 0 ∨ (arrV _ _ _).slots.size ≤ _); rw [arrV_size]; exact hin) rfl rfl d fun H1 e1 z oq => ?_
  refine kk _ h H1 _ ls (hP.set C.2.2.1 hn ?_ oq (fun n' h' => up_ne1 h') (fun ci' n' f' _ hk' => (C.2.2.2.1 M n (w32 i) v hw).1 ci' n' f' hk')) ((C.2.2.2.1 M n (w32 i) v hw).2 hT) (hS.put z oq ⟨n, hn, rfl⟩) hl
  rw [q_ent_long hk]
  show H1[ad n]? = some (vp_cell _ _)
  rw [e1, vp_cell_l, vp_cell_l, arrV_store]
  congr 2
  funext j
  unfold updV
  by_cases hj : j = (qI i).toNatClampNeg
  · rw [if_pos hj, hj, hix, up_same]
  · rw [if_neg hj, up_ne (fun q => hj (by have := q.2; rw [← hix] at this; omega))]
theorem r_bast (C : Cx sy p m c cc nL s args own D ad cA) {n len : Nat} {i v : Int} {K : Mem → Option α} (hk : sy.1 n = (3, len)) (d : decode cc pc = .ok (.bastore, 1)) (h : (if q_i2b v = v then q_as M n len i v K else none) = some RR) (kk : ∀ M1 : Mem, K M1 = some RR → WM sy p l e R s m args below meth c nL D ad cA Q M1 (pc + 1) L st) : WM sy p l e R s m args below meth c nL D ad cA Q M pc L (.int (qI v) :: .int (qI i) :: .ref (ad n) :: st) := by
  intro H locs ls hP hT hS hl
  by_cases hg : q_i2b v = v
  case neg => rw [if_neg hg] at h; cases h
  rw [if_pos hg] at h
  have hnar : narrow .byte (.int (qI v)) = .int (qI v) := by
    have e9 : (qI v).toInt8.toInt32 = qI v := by rw [q_i2b_I, hg]
    simp [narrow, e9]
  unfold q_as at h
  by_cases hb : 0 ≤ w32 i ∧ w32 i < (len : Int)
  case neg => rw [if_neg hb] at h; cases h
  rw [if_pos hb] at h
  obtain ⟨hin, hix⟩ := q_inw hb
  have hn : (sy.1 n).1 ≠ 0 := by rw [hk]; show (3 : Nat) ≠ 0; decide
  have hw : 2 ≤ (sy.1 n).1 ∨ ((sy.1 n).1 = 1 ∧ ∃ f2 : Nat, w32 i = (f2 : Int) ∧ sy.2.1 M (sy.1 n).2 n f2 = none) := Or.inl (by rw [hk]; show 2 ≤ 3; decide)
  have hv := hP n hn
  rw [q_ent_arr hk (by decide) (by decide)] at hv
  refine W.bast C.1.1 C.1.2.1 hv ((C.2.1.2 1 _ rfl).1 len (fun j => .int (qI (M n (j : Int))))) (fun q => by cases q) (by show ¬ ((qI i) < 0 ∨ (arrV _ _ _).slots.size ≤ _); rw [arrV_size]; exact hin) rfl rfl d fun H1 e1 z oq => ?_
  refine kk _ h H1 _ ls (hP.set C.2.2.1 hn ?_ oq (fun n' h' => up_ne1 h') (fun ci' n' f' _ hk' => (C.2.2.2.1 M n (w32 i) v hw).1 ci' n' f' hk')) ((C.2.2.2.1 M n (w32 i) v hw).2 hT) (hS.put z oq ⟨n, hn, rfl⟩) hl
  rw [q_ent_arr hk (by decide) (by decide)]
  show H1[ad n]? = some (vp_cell _ _)
  rw [e1, vp_cell_i, vp_cell_i, arrV_store]
  congr 2
  funext j
  unfold updV
  by_cases hj : j = (qI i).toNatClampNeg
  · rw [if_pos hj, hj, hix, up_same, hnar]
  · rw [if_neg hj, up_ne (fun q => hj (by have := q.2; rw [← hix] at this; omega))]
theorem r_zast (C : Cx sy p m c cc nL s args own D ad cA) {n len : Nat} {i v : Int} {K : Mem → Option α} (hk : sy.1 n = (4, len)) (d : decode cc pc = .ok (.bastore, 1)) (h : (if v = 0 ∨ v = 1 then q_as M n len i v K else none) = some RR) (kk : ∀ M1 : Mem, K M1 = some RR → WM sy p l e R s m args below meth c nL D ad cA Q M1 (pc + 1) L st) : WM sy p l e R s m args below meth c nL D ad cA Q M pc L (.int (qI v) :: .int (qI i) :: .ref (ad n) :: st) := by
  intro H locs ls hP hT hS hl
  by_cases hg : v = 0 ∨ v = 1
  case neg => rw [if_neg hg] at h; cases h
  rw [if_pos hg] at h
  have hnar : narrow .boolean (.int (qI v)) = .int (qI v) := by rcases hg with rfl | rfl <;> decide
  unfold q_as at h
  by_cases hb : 0 ≤ w32 i ∧ w32 i < (len : Int)
  case neg => rw [if_neg hb] at h; cases h
  rw [if_pos hb] at h
  obtain ⟨hin, hix⟩ := q_inw hb
  have hn : (sy.1 n).1 ≠ 0 := by rw [hk]; show (4 : Nat) ≠ 0; decide
  have hw : 2 ≤ (sy.1 n).1 ∨ ((sy.1 n).1 = 1 ∧ ∃ f2 : Nat, w32 i = (f2 : Int) ∧ sy.2.1 M (sy.1 n).2 n f2 = none) := Or.inl (by rw [hk]; show 2 ≤ 4; decide)
  have hv := hP n hn
  rw [q_ent_arr hk (by decide) (by decide)] at hv
  refine W.zast C.1.1 C.1.2.1 hv ((C.2.1.2 2 _ rfl).1 len (fun j => .int (qI (M n (j : Int))))) (fun q => by cases q) (by show ¬ ((qI i) < 0 ∨ (arrV _ _ _).slots.size ≤ _); rw [arrV_size]; exact hin) rfl rfl d fun H1 e1 z oq => ?_
  refine kk _ h H1 _ ls (hP.set C.2.2.1 hn ?_ oq (fun n' h' => up_ne1 h') (fun ci' n' f' _ hk' => (C.2.2.2.1 M n (w32 i) v hw).1 ci' n' f' hk')) ((C.2.2.2.1 M n (w32 i) v hw).2 hT) (hS.put z oq ⟨n, hn, rfl⟩) hl
  rw [q_ent_arr hk (by decide) (by decide)]
  show H1[ad n]? = some (vp_cell _ _)
  rw [e1, vp_cell_i, vp_cell_i, arrV_store]
  congr 2
  funext j
  unfold updV
  by_cases hj : j = (qI i).toNatClampNeg
  · rw [if_pos hj, hj, hix, up_same, hnar]
  · rw [if_neg hj, up_ne (fun q => hj (by have := q.2; rw [← hix] at this; omega))]
theorem r_alen (C : Cx sy p m c cc nL s args own D ad cA) {n t len t0 : Nat} {ty : FieldType} (hk : sy.1 n = (t, len)) (h1 : t ≠ 1) (h5 : t ≠ 5) (h0 : t ≠ 0) (ht : (q_tys cA)[t0]? = some (cA t, ty)) (d : decode cc pc = .ok (.arraylength, 1)) (kk : WM sy p l e R s m args below meth c nL D ad cA Q M (pc + 1) L (.int (qI len) :: st)) : WM sy p l e R s m args below meth c nL D ad cA Q M pc L (.ref (ad n) :: st) := by
  intro H locs ls hP hT hS hl
  have hv := hP n (by rw [hk]; exact h0)
  rw [q_ent_arr hk h1 h5] at hv
  refine va_alen C.1.1 C.1.2.1 C.2.1 (q_one hv) 0 t0 rfl ht (v := qI len) ?_ d (kk H locs ls hP hT hS hl)
  rfl
end QROWS2
