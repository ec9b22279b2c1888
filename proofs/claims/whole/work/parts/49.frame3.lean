theorem FC.vw {t k : Nat} {M M' : Mem} (h : FC t M M') (hk : k = 4 ∨ k = 6) : VEQ (cvw k M') (cvw k M) := by
  have h0 : M' k = M k := h k (by unfold KC; omega)
  refine ⟨?_, ?_, ?_, fun f i a b c d => ?_⟩
  · show M' k 0 = M k 0
    rw [h0]
  · show M' k 1 = M k 1
    rw [h0]
  · show M' k 9 = M k 9
    rw [h0]
  · unfold cvw
    rw [if_neg (by omega), if_neg (by omega), h (32 * (k + 1) + f) (by unfold KC; omega)]
theorem SR.frm {S : Int} {t k : Nat} {q : Int} {Mc Mc' Mm Mm' : Mem} (h : SR S k q Mc Mm) (hS : S ≤ 8) (hk : k = 4 ∨ k = 6) (hq : q ≠ 1) (fc : FC t Mc Mc') (fm : FM Mm Mm') : SR S k q Mc' Mm' := by
  obtain ⟨h1, h2, h3⟩ := h
  have ec := fc.vw hk
  have em := fm.vw hq
  have w9 : cvw k Mc 0 9 ≤ 8 := by have := h2.2.2.1; omega
  have e1 : EQV S (cvw k Mc) (cvw k Mc') := VEQ.to ec.symm hS w9
  have w8 : mvw q Mm 0 9 ≤ 8 := by have := h1.2.2.1; omega
  have e2 : EQV S (mvw q Mm) (mvw q Mm') := VEQ.to em.symm hS w8
  exact ⟨e1.symm.trans (h1.trans e2), WFB.of h2 e1, NOB.of h3 em.symm hS⟩
theorem LR.frm {t : Nat} {Mc Mc' Mm Mm' : Mem} (h : LR t Mc Mm) (fc : FC t Mc Mc') (fm : FM Mm Mm') : LR t Mc' Mm' := by
  unfold LR at h ⊢
  rw [fc (32 * (t + 11) + 2) (by unfold KC; omega), fc (32 * (t + 11) + 3) (by unfold KC; omega), fc (32 * (t + 11)) (by unfold KC; omega), fc (32 * (t + 11) + 1) (by unfold KC; omega), fm.1 47 (by omega), fm.1 48 (by omega), fm.1 49 (by omega), fm.1 50 (by omega)]
  exact h
theorem TR.frm {t : Nat} {Mc Mc' Mm Mm' : Mem} (h : TR t Mc Mm) (fc : FC t Mc Mc') (fm : FM Mm Mm') : TR t Mc' Mm' := by
  have hl : LR t Mc' Mm' := LR.frm (h.2.2.2.2.2.2.2.2.2.2) fc fm
  unfold TR at h ⊢
  rw [fc t (by unfold KC; omega), fc (t + 10) (by unfold KC; omega), fc (32 * (t + 1) + 1) (by unfold KC; omega), fc (32 * (t + 1) + 2) (by unfold KC; omega), fc (32 * (t + 1) + 3) (by unfold KC; omega), fc (32 * (t + 1) + 4) (by unfold KC; omega), fc (32 * (t + 1) + 5) (by unfold KC; omega), fc (32 * (t + 1) + 8) (by unfold KC; omega), fc (32 * (t + 1) + 9) (by unfold KC; omega), fc (32 * (t + 1) + 10) (by unfold KC; omega), fc (32 * (t + 1) + 11) (by unfold KC; omega), fc (32 * (t + 1) + 12) (by unfold KC; omega)]
  rw [fm.1 35 (by omega), fm.1 36 (by omega), fm.1 37 (by omega), fm.1 38 (by omega), fm.1 39 (by omega), fm.1 40 (by omega), fm.1 41 (by omega), fm.1 42 (by omega), fm.1 43 (by omega), fm.1 44 (by omega), fm.1 45 (by omega), fm.1 46 (by omega)]
  exact ⟨h.1, h.2.1, h.2.2.1, h.2.2.2.1, h.2.2.2.2.1, h.2.2.2.2.2.1, h.2.2.2.2.2.2.1, h.2.2.2.2.2.2.2.1, h.2.2.2.2.2.2.2.2.1, h.2.2.2.2.2.2.2.2.2.1, hl⟩
theorem DR.frm {S : Int} {t : Nat} {Mc Mc' Mm Mm' : Mem} (h : DR S Mc Mm) (hS : S ≤ 8) (w0 : WFV S (mvw 0 Mm)) (fc : FC t Mc Mc') (fm : FM Mm Mm') : DR S Mc' Mm' := by
  obtain ⟨h1, h2, h3, h4⟩ := h
  unfold DR
  rw [fc 8 (by unfold KC; omega), fc 288 (by unfold KC; omega), fc 289 (by unfold KC; omega), fc 290 (by unfold KC; omega), fm.2.1 46 (by omega)]
  refine ⟨h1, h2, h3, fun j a b => ?_⟩
  obtain ⟨g1, g2, g3⟩ := h4 j a b
  have ev : ∀ q, q ≠ 1 → WFV S (mvw q Mm) → EQV S (mvw q Mm) (mvw q Mm') := fun q hq w => VEQ.to (fm.vw hq).symm hS (by have := w.2.2.1; omega)
  have e3 := ev (3 + j) (by omega) g1
  have hw : WFV S (mvw (if j + 1 = Mm 0 46 then 0 else 4 + j) Mm) := by
    by_cases c : j + 1 = Mm 0 46
    · rw [if_pos c]; exact w0
    · rw [if_neg c, show 4 + j = 3 + (j + 1) by omega]
      exact (h4 (j + 1) (by omega) (by omega)).1
  exact ⟨WFB.of g1 e3, NOB.of g2 (fm.vw (by omega)).symm hS, UND.of g3 hw (ev _ (by split <;> omega) hw) e3⟩
theorem NR.frm {S : Int} {t : Nat} {Mc Mc' Mm Mm' : Mem} (h : NR S Mc Mm) (fc : FC t Mc Mc') (fm : FM Mm Mm') : NR S Mc' Mm' := by
  unfold NR at h ⊢
  rw [fc 9 (by unfold KC; omega), fc 320 (by unfold KC; omega), fc 321 (by unfold KC; omega), fc 322 (by unfold KC; omega), fm.2.1 58 (by omega), fm.2.1 59 (by omega), fm.1 92 (by omega), fm.1 93 (by omega), fm.1 94 (by omega), fm.1 95 (by omega)]
  exact h
theorem FR.frm {t : Nat} {Mc Mc' Mm Mm' : Mem} (h : FR Mc Mm) (fc : FC t Mc Mc') (fm : FM Mm Mm') : FR Mc' Mm' := by
  unfold FR at h ⊢
  rw [fc 0 (by unfold KC; omega), fc 1 (by unfold KC; omega), fc 32 (by unfold KC; omega), fc 352 (by unfold KC; omega), fm.2.1 2 (by omega), fm.2.1 28 (by omega), fm.2.1 29 (by omega), fm.1 33 (by omega)]
  exact h
theorem RelT.frm {t : Nat} {Mc Mc' Mm Mm' : Mem} (h : RelT t Mc Mm) (fc : FC t Mc Mc') (fm : FM Mm Mm') : RelT t Mc' Mm' := by
  obtain ⟨h1, h2, h3, h4, h5, h6, h7, h8, h9⟩ := h
  have hS : Mm 35 0 ≤ 8 := h2.2.1.2.2
  have w0 : WFV (Mm 35 0) (mvw 0 Mm) := WFB.of h3.1.2.1 h3.1.1
  have e35 : Mm' 35 = Mm 35 := fm.1 35 (by omega)
  unfold RelT
  rw [e35, fc 0 (by unfold KC; omega), fc 1 (by unfold KC; omega), fc 4 (by unfold KC; omega), fc 6 (by unfold KC; omega), fm.2.1 45 (by omega), fm.2.1 47 (by omega), fm.2.1 48 (by omega)]
  exact ⟨h1, TR.frm h2 fc fm, ⟨SR.frm h3.1 hS (.inl rfl) (by omega) fc fm, h3.2⟩, ⟨h4.1, h4.2.1, fun c => ⟨SR.frm (h4.2.2 c).1 hS (.inr rfl) (by omega) fc fm, (h4.2.2 c).2⟩⟩, DR.frm h5 hS w0 fc fm, NR.frm h6 fc fm, FR.frm h7 fc fm, h8, h9⟩
theorem FM.thrown (M : Mem) (v : Int) : FM M (up M 0 0 v) := ⟨fun n h => up_ne1 (by omega), fun f h => up_nei (by omega), fun n q a b c => up_ne (by omega), fun n i a b c => up_ne (by omega)⟩
