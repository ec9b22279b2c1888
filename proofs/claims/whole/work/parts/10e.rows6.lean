def q_wc (i : Int) : Int := (q_wb.getD i.toNat 0).toInt
def q_ch {α : Type} (i : Int) (K : Int → Option α) : Option α := if 0 ≤ w32 i ∧ w32 i < 97 then K (q_wc (w32 i)) else none
section QROWS7
variable {sy : Sys} {p : Program} {l : Launch} {e : Env} {R : Room} {s : State} {m : MethodId} {args : Array Value} {below : List Frame} {meth : Method} {c : Code} {cc : ByteArray} {nL : Nat} {own : String} {D : va_G} {ad : Nat → Nat} {cA : Nat → ClassId} {Q : State → Prop} {M : Mem} {pc : Nat} {L : List (Nat × Value)} {st : List Value} {α : Type} {RR : α}
theorem r_ldcS (C : Cx sy p m c cc nL s args own D ad cA) {idx : Nat} (hx : ∃ a, vk_R own idx q_tx a s ∧ q_str (q_A sy ad) s s.heap a) (d : decode cc pc = .ok (.ldc idx, 2)) (kk : ∀ a : Nat, q_str (q_A sy ad) s s.heap a → WM sy p l e R s m args below meth c nL D ad cA Q M (pc + 2) L (.ref a :: st)) : WM sy p l e R s m args below meth c nL D ad cA Q M pc L st := by
  intro H locs ls hP hT hS hl
  obtain ⟨a, h1, h2⟩ := hx
  exact va_ldcS C.1.1 C.1.2.1 C.1.2.2.2.1 h1 d (kk a h2 H locs ls hP hT hS hl)
theorem r_slen (C : Cx sy p m c cc nL s args own D ad cA) {idx a : Nat} (ha : q_str (q_A sy ad) s s.heap a) (w : Cond.methodLink own idx yJ0_length_8abf5 ∈ wsQ) (hR : 2 ≤ R.frames ∧ 60 ≤ R.locals) (hW : (st.map fun v => v.category).sum ≤ 8) (d : decode cc pc = .ok (.invokevirtual idx, 3)) (kk : WM sy p l e R s m args below meth c nL D ad cA Q M (pc + 3) L (.int (qI 97) :: st)) : WM sy p l e R s m args below meth c nL D ad cA Q M pc L (.ref a :: st) := by
  intro H locs ls hP hT hS hl
  have ho : ∃ cellB : Cell, H[a]? = some cellB ∧ cellB.vm.isStatics = false ∧ s.vm.findClass RJ0 = some cellB.cls := by
    obtain ⟨v, h1, -⟩ := ha.moved (U := s) (Vm.Alike.refl _) hS.2.1
    obtain ⟨cell, g1, g2, g3, -⟩ := h1
    exact ⟨cell, g1, g2, g3⟩
  exact s_cv C.1 (st := st) (c_J0l l (q_A sy ad) a) w mv_J0l ⟨rfl, rfl⟩ hR ⟨s_F.blind, fun U hU hW => by unfold s_F; rw [hU]; exact ⟨C.2.2.2.2.2.1.moved hW.alike hS.2.1, ha.moved hW.alike hS.2.1⟩⟩ ho rfl rfl hW hl.1 d (kk H locs ls hP hT hS hl)
theorem r_sch (C : Cx sy p m c cc nL s args own D ad cA) {idx a : Nat} {i : Int} {K : Int → Option α} (ha : q_str (q_A sy ad) s s.heap a) (w : Cond.methodLink own idx yJ0_charAt_5068e ∈ wsQ) (hR : 4 ≤ R.frames ∧ 141 ≤ R.locals) (hW : (st.map fun v => v.category).sum ≤ 8) (d : decode cc pc = .ok (.invokevirtual idx, 3)) (h : q_ch i K = some RR) (kk : ∀ v : Int, K v = some RR → WM sy p l e R s m args below meth c nL D ad cA Q M (pc + 3) L (.int (qI v) :: st)) : WM sy p l e R s m args below meth c nL D ad cA Q M pc L (.int (qI i) :: .ref a :: st) := by
  intro H locs ls hP hT hS hl
  unfold q_ch at h
  by_cases hb : 0 ≤ w32 i ∧ w32 i < 97
  case neg => rw [if_neg hb] at h; cases h
  rw [if_pos hb] at h
  obtain ⟨hin, hix⟩ := q_inw (len := 97) hb
  have ho : ∃ cellB : Cell, H[a]? = some cellB ∧ cellB.vm.isStatics = false ∧ s.vm.findClass RJ0 = some cellB.cls := by
    obtain ⟨v, h1, -⟩ := ha.moved (U := s) (Vm.Alike.refl _) hS.2.1
    obtain ⟨cell, g1, g2, g3, -⟩ := h1
    exact ⟨cell, g1, g2, g3⟩
  have hk := kk _ h H locs ls hP hT hS hl
  unfold q_wc at hk
  rw [qI_of, ← hix, Int.toNat_natCast] at hk
  exact s_cv C.1 (st := st) (c_J0h l (q_A sy ad) a (qI i) hin) w mv_J0c ⟨rfl, rfl⟩ hR ⟨s_F.blind, fun U hU hW => by unfold s_F; rw [hU]; exact ⟨C.2.2.2.2.2.1.moved hW.alike hS.2.1, ha.moved hW.alike hS.2.1⟩⟩ ho rfl rfl hW hl.1 d hk
end QROWS7
