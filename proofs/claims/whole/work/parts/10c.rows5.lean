theorem tn_Math : Cond.initialized "java/lang/Math" ∈ wsQ := wq_1 (List.mem_of_getElem? (i := 16) rfl) rfl
theorem ts_q_min : Cond.static Lib.Math.min.name ∈ wsQ := wq_3 (List.mem_of_getElem? (i := 44) rfl) rfl
theorem td_q_min : Cond.code Lib.Math.min.name Lib.Math.min.code 2 (some .int) ∈ wsQ := wq_3 (List.mem_of_getElem? (i := 45) rfl) rfl
def q_min (x y : Int) : Int := if w32 y < w32 x then y else x
theorem ts_q_max : Cond.static Lib.Math.max.name ∈ wsQ := wq_4 (List.mem_of_getElem? (i := 56) rfl) rfl
theorem td_q_max : Cond.code Lib.Math.max.name Lib.Math.max.code 2 (some .int) ∈ wsQ := wq_4 (List.mem_of_getElem? (i := 57) rfl) rfl
def q_max (x y : Int) : Int := if w32 x < w32 y then y else x
theorem ts_q_minl : Cond.static Lib.MathLoose.min_long.x ∈ wsQ := wq_4 (List.mem_of_getElem? (i := 45) rfl) rfl
theorem td_q_minl : Cond.code Lib.MathLoose.min_long.x Lib.MathLoose.min_long.code 4 (some .long) ∈ wsQ := wq_4 (List.mem_of_getElem? (i := 46) rfl) rfl
def q_minl (x y : Int) : Int := if w64 y < w64 x then y else x
theorem ts_q_maxl : Cond.static Lib.MathLoose.max_long.x ∈ wsQ := wq_4 (List.mem_of_getElem? (i := 48) rfl) rfl
theorem td_q_maxl : Cond.code Lib.MathLoose.max_long.x Lib.MathLoose.max_long.code 4 (some .long) ∈ wsQ := wq_4 (List.mem_of_getElem? (i := 49) rfl) rfl
def q_maxl (x y : Int) : Int := if w64 y < w64 x then x else y
theorem ts_q_absl : Cond.static Lib.MathLoose.abs_long.x ∈ wsQ := wq_7 (List.mem_of_getElem? (i := 79) rfl) rfl
theorem td_q_absl : Cond.code Lib.MathLoose.abs_long.x Lib.MathLoose.abs_long.code 2 (some .long) ∈ wsQ := wq_7 (List.mem_of_getElem? (i := 80) rfl) rfl
def q_absl (x : Int) : Int := if 0 < w64 x then x else -x
section QROWS6
variable {sy : Sys} {p : Program} {l : Launch} {e : Env} {R : Room} {s : State} {m : MethodId} {args : Array Value} {below : List Frame} {meth : Method} {c : Code} {cc : ByteArray} {nL : Nat} {own : String} {D : va_G} {ad : Nat → Nat} {cA : Nat → ClassId} {Q : State → Prop} {M : Mem} {pc : Nat} {L : List (Nat × Value)} {st : List Value}
theorem r_q_min (C : Cx sy p m c cc nL s args own D ad cA) {x y : Int} {idx : Nat} (w : Cond.methodLink own idx Lib.Math.min.name ∈ wsQ) (hR : 1 ≤ R.frames ∧ (st.map fun v => v.category).sum + 13 ≤ R.locals) (d : decode cc pc = .ok (.invokestatic idx, 3)) (kk : WM sy p l e R s m args below meth c nL D ad cA Q M (pc + 3) L (.int (qI (q_min x y)) :: st)) : WM sy p l e R s m args below meth c nL D ad cA Q M pc L (.int (qI y) :: .int (qI x) :: st) := by
  intro H locs ls hP hT hS hl
  have e9 : (if qI y < qI x then qI y else qI x) = qI (q_min x y) := by
    unfold q_min
    by_cases hc : w32 y < w32 x
    · rw [if_pos hc, if_pos (qI_lt.mpr hc)]
    · rw [if_neg hc, if_neg (fun z => hc (qI_lt.mp z))]
  refine va_mmin C.1.1 C.1.2.1 (C.1.2.2.1.trans hl.1.symm) C.1.2.2.2.1 (C.1.2.2.2.2 _ w) (C.1.2.2.2.2 _ ts_q_min) (C.1.2.2.2.2 _ tn_Math) (C.1.2.2.2.2 _ td_q_min) hR.1 hR.2 (Nat.zero_le _) (Nat.zero_le _) d ?_
  rw [e9]
  exact kk H locs ls hP hT hS hl
theorem r_q_max (C : Cx sy p m c cc nL s args own D ad cA) {x y : Int} {idx : Nat} (w : Cond.methodLink own idx Lib.Math.max.name ∈ wsQ) (hR : 1 ≤ R.frames ∧ (st.map fun v => v.category).sum + 13 ≤ R.locals) (d : decode cc pc = .ok (.invokestatic idx, 3)) (kk : WM sy p l e R s m args below meth c nL D ad cA Q M (pc + 3) L (.int (qI (q_max x y)) :: st)) : WM sy p l e R s m args below meth c nL D ad cA Q M pc L (.int (qI y) :: .int (qI x) :: st) := by
  intro H locs ls hP hT hS hl
  have e9 : (if qI x < qI y then qI y else qI x) = qI (q_max x y) := by
    unfold q_max
    by_cases hc : w32 x < w32 y
    · rw [if_pos hc, if_pos (qI_lt.mpr hc)]
    · rw [if_neg hc, if_neg (fun z => hc (qI_lt.mp z))]
  refine va_mmax C.1.1 C.1.2.1 (C.1.2.2.1.trans hl.1.symm) C.1.2.2.2.1 (C.1.2.2.2.2 _ w) (C.1.2.2.2.2 _ ts_q_max) (C.1.2.2.2.2 _ tn_Math) (C.1.2.2.2.2 _ td_q_max) hR.1 hR.2 (Nat.zero_le _) (Nat.zero_le _) d ?_
  rw [e9]
  exact kk H locs ls hP hT hS hl
theorem r_q_minl (C : Cx sy p m c cc nL s args own D ad cA) {x y : Int} {idx : Nat} (w : Cond.methodLink own idx Lib.MathLoose.min_long.x ∈ wsQ) (hR : 1 ≤ R.frames ∧ (st.map fun v => v.category).sum + 15 ≤ R.locals) (d : decode cc pc = .ok (.invokestatic idx, 3)) (kk : WM sy p l e R s m args below meth c nL D ad cA Q M (pc + 3) L (.long (qJ (q_minl x y)) :: st)) : WM sy p l e R s m args below meth c nL D ad cA Q M pc L (.long (qJ y) :: .long (qJ x) :: st) := by
  intro H locs ls hP hT hS hl
  have e9 : (if qJ y < qJ x then qJ y else qJ x) = qJ (q_minl x y) := by
    unfold q_minl
    by_cases hc : w64 y < w64 x
    · rw [if_pos hc, if_pos (qJ_lt.mpr hc)]
    · rw [if_neg hc, if_neg (fun z => hc (qJ_lt.mp z))]
  refine va_mmin_long C.1.1 C.1.2.1 (C.1.2.2.1.trans hl.1.symm) C.1.2.2.2.1 (C.1.2.2.2.2 _ w) (C.1.2.2.2.2 _ ts_q_minl) (C.1.2.2.2.2 _ tn_Math) (C.1.2.2.2.2 _ td_q_minl) hR.1 hR.2 (Nat.zero_le _) (Nat.zero_le _) d ?_
  rw [e9]
  exact kk H locs ls hP hT hS hl
theorem r_q_maxl (C : Cx sy p m c cc nL s args own D ad cA) {x y : Int} {idx : Nat} (w : Cond.methodLink own idx Lib.MathLoose.max_long.x ∈ wsQ) (hR : 1 ≤ R.frames ∧ (st.map fun v => v.category).sum + 15 ≤ R.locals) (d : decode cc pc = .ok (.invokestatic idx, 3)) (kk : WM sy p l e R s m args below meth c nL D ad cA Q M (pc + 3) L (.long (qJ (q_maxl x y)) :: st)) : WM sy p l e R s m args below meth c nL D ad cA Q M pc L (.long (qJ y) :: .long (qJ x) :: st) := by
  intro H locs ls hP hT hS hl
  have e9 : (if qJ y < qJ x then qJ x else qJ y) = qJ (q_maxl x y) := by
    unfold q_maxl
    by_cases hc : w64 y < w64 x
    · rw [if_pos hc, if_pos (qJ_lt.mpr hc)]
    · rw [if_neg hc, if_neg (fun z => hc (qJ_lt.mp z))]
  refine va_mmax_long C.1.1 C.1.2.1 (C.1.2.2.1.trans hl.1.symm) C.1.2.2.2.1 (C.1.2.2.2.2 _ w) (C.1.2.2.2.2 _ ts_q_maxl) (C.1.2.2.2.2 _ tn_Math) (C.1.2.2.2.2 _ td_q_maxl) hR.1 hR.2 (Nat.zero_le _) (Nat.zero_le _) d ?_
  rw [e9]
  exact kk H locs ls hP hT hS hl
theorem r_q_absl (C : Cx sy p m c cc nL s args own D ad cA) {x : Int} {idx : Nat} (w : Cond.methodLink own idx Lib.MathLoose.abs_long.x ∈ wsQ) (hR : 1 ≤ R.frames ∧ (st.map fun v => v.category).sum + 13 ≤ R.locals) (d : decode cc pc = .ok (.invokestatic idx, 3)) (kk : WM sy p l e R s m args below meth c nL D ad cA Q M (pc + 3) L (.long (qJ (q_absl x)) :: st)) : WM sy p l e R s m args below meth c nL D ad cA Q M pc L (.long (qJ x) :: st) := by
  intro H locs ls hP hT hS hl
  have e9 : (if 0 < qJ x then qJ x else - qJ x) = qJ (q_absl x) := by
    unfold q_absl
    have hz : (0 < qJ x) ↔ 0 < w64 x := by
      have : (qJ 0 < qJ x) ↔ w64 0 < w64 x := qJ_lt
      simpa [show qJ 0 = 0 by decide, show w64 0 = 0 by decide] using this
    by_cases hc : 0 < w64 x
    · rw [if_pos hc, if_pos (hz.mpr hc)]
    · rw [if_neg hc, if_neg (fun z => hc (hz.mp z)), qJ_neg]
  refine va_mabs_long C.1.1 C.1.2.1 (C.1.2.2.1.trans hl.1.symm) C.1.2.2.2.1 (C.1.2.2.2.2 _ w) (C.1.2.2.2.2 _ ts_q_absl) (C.1.2.2.2.2 _ tn_Math) (C.1.2.2.2.2 _ td_q_absl) hR.1 hR.2 (Nat.zero_le _) (Nat.zero_le _) d ?_
  rw [e9]
  exact kk H locs ls hP hT hS hl
end QROWS6
