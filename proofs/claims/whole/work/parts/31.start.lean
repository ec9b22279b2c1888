theorem wt_1 {w : Cond} (h : w ∈ tables_1_1) : w ∈ tables_1 := (List.mem_append_left _ h)
theorem wt_2 {w : Cond} (h : w ∈ tables_1_2) : w ∈ tables_1 := (List.mem_append_right _ (List.mem_append_left _ h))
theorem wt_3 {w : Cond} (h : w ∈ tables_1_3) : w ∈ tables_1 := (List.mem_append_right _ (List.mem_append_right _ (List.mem_append_left _ h)))
theorem wt_4 {w : Cond} (h : w ∈ tables_1_4) : w ∈ tables_1 := (List.mem_append_right _ (List.mem_append_right _ (List.mem_append_right _ (List.mem_append_left _ h))))
theorem wt_5 {w : Cond} (h : w ∈ tables_1_5) : w ∈ tables_1 := (List.mem_append_right _ (List.mem_append_right _ (List.mem_append_right _ (List.mem_append_right _ (List.mem_append_left _ h)))))
theorem wt_6 {w : Cond} (h : w ∈ tables_1_6) : w ∈ tables_1 := (List.mem_append_right _ (List.mem_append_right _ (List.mem_append_right _ (List.mem_append_right _ (List.mem_append_right _ (List.mem_append_left _ h))))))
theorem wt_7 {w : Cond} (h : w ∈ tables_1_7) : w ∈ tables_1 := (List.mem_append_right _ (List.mem_append_right _ (List.mem_append_right _ (List.mem_append_right _ (List.mem_append_right _ (List.mem_append_right _ (List.mem_append_left _ h)))))))
theorem wt_8 {w : Cond} (h : w ∈ tables_1_8) : w ∈ tables_1 := (List.mem_append_right _ (List.mem_append_right _ (List.mem_append_right _ (List.mem_append_right _ (List.mem_append_right _ (List.mem_append_right _ (List.mem_append_right _ h)))))))
abbrev GN : Cond := Jvm.Cond.and given_1 narrow_1
theorem st_el1 : ∀ j, j < 97 → (Cond.eq (.elem (.field (.string RX7 35) "java/lang/String" "value" "[B") (.int (Int32.ofNat j))) (.int (q_wb.getD j 0))) ∈ flatC GN := by decide +kernel
theorem st_eq : (Cond.eq (.string RX7 35) (.string RX10 185)) ∈ flatC GN := by decide +kernel
def st_str (C : String) (k : Nat) : List Cond := [.exactly (.string C k) "java/lang/String", .eq (.field (.string C k) "java/lang/String" "coder" "B") (.int 0), .arrayOf (.field (.string C k) "java/lang/String" "value" "[B") .byte, .eq (.length (.field (.string C k) "java/lang/String" "value" "[B")) (.int 97)]
theorem st_a1 : ∀ w ∈ st_str RX7 35, w ∈ flatC GN := by decide +kernel
theorem st_a3 : (Cond.exactly (.string RX9 144) "java/lang/String") ∈ flatC GN ∧ (Cond.exactly (.string RX9 173) "java/lang/String") ∈ flatC GN := by decide +kernel
theorem st_a4 : (Cond.eq (.static "java/lang/String" "COMPACT_STRINGS" "Z") (.int 1)) ∈ flatC GN ∧ (Cond.isRef (.static "jdk/internal/util/Preconditions" "SIOOBE_FORMATTER" "Ljava/util/function/BiFunction;")) ∈ flatC GN ∧ (Cond.isRef (.static Bundle.tN "UNASSIGNED_STACK" Bundle.steD)) ∈ flatC GN ∧ (Cond.isRef (.static Bundle.tN "SUPPRESSED_SENTINEL" Bundle.listD)) ∈ flatC GN ∧ (Cond.not (.castable xE2 xE1)) ∈ flatC GN := by decide +kernel
theorem st_q {args : Array Value} {s : State} {A : Nat → Prop} (hgv : GN.before args s = true) (C : String) (k : Nat) (h1 : ∀ w ∈ st_str C k, w ∈ flatC GN) (h2 : ∀ j, j < 97 → (Cond.eq (.elem (.field (.string C k) "java/lang/String" "value" "[B") (.int (Int32.ofNat j))) (.int (q_wb.getD j 0))) ∈ flatC GN) (hA : ∀ a : Nat, a < s.heap.size → ¬ A a) : ∃ a, (Term.string C k).eval args s none [] s = some (.ref a) ∧ q_str A s s.heap a := by
  have hf := flat_of_before _ hgv
  obtain ⟨adK, adV, hS, he⟩ := vk_Sof (args := args) (s := s) (N := 1) (tm := fun _ => .string C k) (len := [97]) (byt := [q_wb]) (A := A) (fun i hi => by rw [show i = 0 by omega]; decide) (fun i hi => hf _ (h1 _ (by unfold st_str; simp))) (fun i hi => hf _ (h1 _ (by unfold st_str; simp))) (fun i hi => hf _ (h1 _ (by unfold st_str; simp))) (fun i hi => by rw [show i = 0 by omega]; exact hf _ (h1 _ (by unfold st_str; simp))) (fun i hi j hj => by
      rw [show i = 0 by omega] at hj ⊢
      exact hf _ (h2 j hj)) (fun i j hi hj hne => absurd (by omega : i = j) hne) hA
  exact ⟨adK 0, he 0 (by omega), adV 0, (hS.1 0 (by omega)).1, (hS.1 0 (by omega)).2.1, (hS.1 0 (by omega)).2.2.1, (hS.1 0 (by omega)).2.2.2⟩
set_option maxRecDepth 20000 in
theorem st_X {s : State} {b : Nat} (hts : ∀ w ∈ lw_tbl, w.before #[Value.ref b] s = true) (hgv : GN.before #[Value.ref b] s = true) : kX s.heap.size s ∧ q_XS (fun q => s.heap.size ≤ q) s s.heap := by
  have hf := flat_of_before _ hgv
  have hA : ∀ a : Nat, a < s.heap.size → ¬ (fun q => s.heap.size ≤ q) a := fun a h z => Nat.not_le.mpr h z
  obtain ⟨a1, e1, q1⟩ := st_q (A := fun q => s.heap.size ≤ q) hgv RX7 35 st_a1 st_el1 hA
  have e2 := va_eqR (hf _ st_eq) e1
  have hX : q_X (fun q => s.heap.size ≤ q) s s.heap := by
    refine ⟨fun w hw => ?_, ⟨va_Zof (hts _ (List.mem_append_right _ (wt_1 (List.mem_of_getElem? (i := 189) rfl)))) (hts _ (List.mem_append_right _ (wt_1 (List.mem_of_getElem? (i := 6) rfl)))) (va_eqi (hf _ st_a4.1)) hA, va_Zqof (hts _ (List.mem_append_right _ (wt_1 (List.mem_of_getElem? (i := 205) rfl)))) (hts _ (List.mem_append_right _ (wt_1 (List.mem_of_getElem? (i := 8) rfl)))) (hf _ st_a4.2.1) hA⟩, ⟨a1, vk_R.of (hts _ (List.mem_append_right _ (wt_6 (List.mem_of_getElem? (i := 145) rfl)))) e2, q1⟩, a1, vk_R.of (hts _ (List.mem_append_right _ (wt_1 (List.mem_of_getElem? (i := 179) rfl)))) e1, q1⟩
    rcases hw with rfl | rfl
    · exact va_Nw.of rfl (hts _ (List.mem_append_right _ (wt_3 (List.mem_of_getElem? (i := 54) rfl))))
    · exact va_Nw.of rfl (hts _ (List.mem_append_right _ (wt_3 (List.mem_of_getElem? (i := 83) rfl))))
  refine ⟨⟨fun w hw => ?_, hX⟩, ⟨fun w hw => ?_, vx_Zqof (hts _ (List.mem_append_right _ (wt_5 (List.mem_of_getElem? (i := 85) rfl)))) (hts _ (List.mem_append_right _ (wt_1 (List.mem_of_getElem? (i := 17) rfl)))) (hf _ st_a4.2.2.1) hA, vx_Zqof (hts _ (List.mem_append_right _ (wt_5 (List.mem_of_getElem? (i := 87) rfl)))) (hts _ (List.mem_append_right _ (wt_1 (List.mem_of_getElem? (i := 17) rfl)))) (hf _ st_a4.2.2.2.1) hA, ?_, ?_, va_Nc.of (hf _ st_a4.2.2.2.2)⟩⟩
  · unfold kN at hw
    simp only [List.mem_cons, List.not_mem_nil, or_false] at hw
    rcases hw with rfl | rfl | rfl | rfl | rfl | rfl
    · exact va_Nw.of rfl (hts _ (List.mem_append_right _ (wt_1 (List.mem_of_getElem? (i := 40) rfl))))
    · exact va_Nw.of rfl (hts _ (List.mem_append_right _ (wt_1 (List.mem_of_getElem? (i := 46) rfl))))
    · exact va_Nw.of rfl (hts _ (List.mem_append_right _ (wt_2 (List.mem_of_getElem? (i := 66) rfl))))
    · exact va_Nw.of rfl (hts _ (List.mem_append_right _ (wt_2 (List.mem_of_getElem? (i := 69) rfl))))
    · exact va_Nw.of rfl (hts _ (List.mem_append_right _ (wt_2 (List.mem_of_getElem? (i := 163) rfl))))
    · exact va_Nw.of rfl (hts _ (List.mem_append_right _ (wt_2 (List.mem_of_getElem? (i := 183) rfl))))
  · unfold xB at hw
    simp only [List.mem_cons, List.not_mem_nil, or_false] at hw
    rcases hw with rfl | rfl | rfl | rfl | rfl
    · exact va_Nw.of rfl (hts _ (List.mem_append_right _ (wt_5 (List.mem_of_getElem? (i := 60) rfl))))
    · exact va_Nw.of rfl (hts _ (List.mem_append_right _ (wt_5 (List.mem_of_getElem? (i := 130) rfl))))
    · exact va_Nw.of rfl (hts _ (List.mem_append_right _ (wt_5 (List.mem_of_getElem? (i := 62) rfl))))
    · exact va_Nw.of rfl (hts _ (List.mem_append_right _ (wt_5 (List.mem_of_getElem? (i := 64) rfl))))
    · exact va_Nw.of rfl (hts _ (List.mem_append_right _ (wt_5 (List.mem_of_getElem? (i := 66) rfl))))
  · obtain ⟨a, c, cA, kA, q1, -⟩ := Cond.exactly_spec (args := #[Value.ref b]) (first := s) (o := none) (s := s) (idx := []) (hf _ st_a3.1)
    exact ⟨a, vk_R.of (hts _ (List.mem_append_right _ (wt_5 (List.mem_of_getElem? (i := 98) rfl)))) q1⟩
  · obtain ⟨a, c, cA, kA, q1, -⟩ := Cond.exactly_spec (args := #[Value.ref b]) (first := s) (o := none) (s := s) (idx := []) (hf _ st_a3.2)
    exact ⟨a, vk_R.of (hts _ (List.mem_append_right _ (wt_5 (List.mem_of_getElem? (i := 137) rfl)))) q1⟩
theorem st_arr {s : State} {args : Array Value} {ty : FieldType} (hp : ∀ C, ty ≠ .object C) (h : (Cond.arrayClass ty).before args s = true) : ∃ cN : ClassId, ArrOfT s cN ty ∧ va_RA s cN ty := by
  obtain ⟨cN, kA, comp, hfind, hk, hkind⟩ := Cond.arrayClass_spec h
  refine ⟨cN, fun n z => ⟨fun k h => (by cases h), kA, hk, comp, hkind⟩, ?_⟩
  cases ty with
  | object C => exact absurd rfl (hp C)
  | _ => exact hfind
set_option maxRecDepth 20000 in
theorem st_K {s : State} {b : Nat} (hts : ∀ w ∈ wsQ, w.before #[Value.ref b] s = true) : ∃ (D : va_G) (cA : Nat → ClassId), va_K D vwCl (q_tys cA) s := by
  obtain ⟨x2, y2⟩ := st_arr (s := s) (ty := .int) (fun _ h => by cases h) (hts _ ta_int)
  obtain ⟨x3, y3⟩ := st_arr (s := s) (ty := .byte) (fun _ h => by cases h) (hts _ ta_byte)
  obtain ⟨x4, y4⟩ := st_arr (s := s) (ty := .boolean) (fun _ h => by cases h) (hts _ ta_boolean)
  obtain ⟨x5, y5⟩ := st_arr (s := s) (ty := .long) (fun _ h => by cases h) (hts _ ta_long)
  obtain ⟨c0, i0, hK0⟩ := u_known (C := RX0) (T := TX0) (N := 4) (n := 4) hts iqX0 (hts _ tz_RX0)
  obtain ⟨c1, i1, hK1⟩ := u_known (C := RX1) (T := TX1) (N := 7) (n := 7) hts iqX1 (hts _ tz_RX1)
  obtain ⟨c2, i2, hK2⟩ := u_known (C := RX2) (T := TX2) (N := 7) (n := 7) hts iqX2 (hts _ tz_RX2)
  obtain ⟨c3, i3, hK3⟩ := u_known (C := RX3) (T := TX3) (N := 8) (n := 8) hts iqX3 (hts _ tz_RX3)
  obtain ⟨c4, i4, hK4⟩ := u_known (C := RX4) (T := TX4) (N := 6) (n := 6) hts iqX4 (hts _ tz_RX4)
  obtain ⟨c5, i5, hK5⟩ := u_known (C := RX5) (T := TX5) (N := 5) (n := 5) hts iqX5 (hts _ tz_RX5)
  obtain ⟨c6, i6, hK6⟩ := u_known (C := RX6) (T := TX6) (N := 10) (n := 10) hts iqX6 (hts _ tz_RX6)
  obtain ⟨c7, i7, hK7⟩ := u_known (C := RX7) (T := TX7) (N := 7) (n := 7) hts iqX7 (hts _ tz_RX7)
  obtain ⟨c8, i8, hK8⟩ := u_known (C := RX8) (T := TX8) (N := 17) (n := 17) hts iqX8 (hts _ tz_RX8)
  obtain ⟨c9, i9, hK9⟩ := u_known (C := RX9) (T := TX9) (N := 15) (n := 15) hts iqX9 (hts _ tz_RX9)
  obtain ⟨c10, i10, hK10⟩ := u_known (C := RX10) (T := TX10) (N := 65) (n := 65) hts iqX10 (hts _ tz_RX10)
  refine ⟨(fun k => if k = 0 then c0 else if k = 1 then c1 else if k = 2 then c2 else if k = 3 then c3 else if k = 4 then c4 else if k = 5 then c5 else if k = 6 then c6 else if k = 7 then c7 else if k = 8 then c8 else if k = 9 then c9 else c10, fun k => if k = 0 then i0 else if k = 1 then i1 else if k = 2 then i2 else if k = 3 then i3 else if k = 4 then i4 else if k = 5 then i5 else if k = 6 then i6 else if k = 7 then i7 else if k = 8 then i8 else if k = 9 then i9 else i10), (fun k => if k = 2 then x2 else if k = 3 then x3 else if k = 4 then x4 else x5), fun k q hq => ?_, fun k q hq => ?_⟩
  · match k, hq with
    | 0, hq => cases hq; exact hK0
    | 1, hq => cases hq; exact hK1
    | 2, hq => cases hq; exact hK2
    | 3, hq => cases hq; exact hK3
    | 4, hq => cases hq; exact hK4
    | 5, hq => cases hq; exact hK5
    | 6, hq => cases hq; exact hK6
    | 7, hq => cases hq; exact hK7
    | 8, hq => cases hq; exact hK8
    | 9, hq => cases hq; exact hK9
    | 10, hq => cases hq; exact hK10
    | k + 11, hq => simp [vwCl] at hq
  · match k, hq with
    | 0, hq => cases hq; exact y2
    | 1, hq => cases hq; exact y3
    | 2, hq => cases hq; exact y4
    | 3, hq => cases hq; exact y5
    | k + 4, hq => simp [q_tys] at hq
