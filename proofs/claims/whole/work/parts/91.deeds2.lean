theorem TOV.f0 {p : Int} {v : Mem} (i : Int) : TOV p v 0 i = if i = 9 then v 0 9 - 1 else v 0 i := by simp [TOV]
theorem TOV.f8 {p : Int} {v : Mem} (i : Int) : TOV p v 8 i = if p ≤ i ∧ i < v 0 9 - 1 then v 8 (i + 1) else v 8 i := by simp [TOV]
theorem TOV.fo {p : Int} {v : Mem} {f : Nat} (h : f ≠ 0 ∧ f ≠ 8) (i : Int) : TOV p v f i = v f i := by simp [TOV, h]
/-- put back where it walked off -/
theorem PIV_AWV {S s p : Int} {w : Mem} (hp : 0 ≤ p ∧ p < w 0 9) (h8 : w 8 p = s) (h2 : w 2 s = 1) : EQV S (PIV s p (AWV s p w)) w := by
  have e9 : AWV s p w 0 9 = w 0 9 - 1 := by rw [AWV.f0, if_pos rfl]
  refine ⟨?_, ?_, ?_, fun i a b => ?_, fun j a b => ?_⟩
  · rw [PIV.f0, if_neg (by omega), AWV.f0, if_neg (by omega)]
  · rw [PIV.f0, if_neg (by omega), AWV.f0, if_neg (by omega)]
  · rw [PIV.f0, if_pos rfl, e9]; omega
  · rw [PIV.f0, if_pos rfl, e9] at b
    rw [PIV.f8, e9]
    by_cases c : i = p
    · rw [if_pos c, c, h8]
    · rw [if_neg c]
      by_cases d : p < i
      · rw [if_pos ⟨d, by omega⟩, AWV.f8, if_pos (by omega), show i - 1 + 1 = i by omega]
      · rw [if_neg (by omega), AWV.f8, if_neg (by omega)]
  · have q : ∀ f, f ≠ 0 ∧ f ≠ 2 ∧ f ≠ 8 → PIV s p (AWV s p w) f j = w f j := fun f h => by rw [PIV.fo h, AWV.fo h]
    rw [PIV.f2, q 3 (by omega), q 4 (by omega), q 5 (by omega), q 6 (by omega), q 7 (by omega)]
    refine ⟨?_, rfl, rfl, rfl, fun _ => ⟨rfl, rfl⟩⟩
    by_cases c : j = s
    · rw [if_pos c, c, h2]
    · rw [if_neg c, AWV.f2, if_neg c]
/-- moved back -/
theorem PIV_TOV {S s p f : Int} {w : Mem} (hf : 0 ≤ f ∧ f < w 0 9) (hp : 0 ≤ p ∧ p < w 0 9) (h8 : w 8 f = s) (h2 : w 2 s = 1) : EQV S (PIV s f (TOV p (PIV s p (TOV f w)))) w := by
  obtain ⟨u, hu⟩ : ∃ u, u = PIV s p (TOV f w) := ⟨_, rfl⟩
  rw [← hu]
  have u9 : u 0 9 = w 0 9 := by rw [hu, PIV.f0, if_pos rfl, TOV.f0, if_pos rfl]; omega
  have u8 : ∀ i, 0 ≤ i → i < w 0 9 → u 8 i = if i = p then s else if p < i then (if f ≤ i - 1 then w 8 i else w 8 (i - 1)) else (if f ≤ i then w 8 (i + 1) else w 8 i) := by
    intro i a b
    rw [hu, PIV.f8, TOV.f0, if_pos rfl]
    by_cases c : i = p
    · rw [if_pos c, if_pos c]
    · rw [if_neg c, if_neg c]
      by_cases d : p < i
      · rw [if_pos ⟨d, by omega⟩, if_pos d, TOV.f8]
        by_cases e : f ≤ i - 1
        · rw [if_pos (by omega), if_pos e, show i - 1 + 1 = i by omega]
        · rw [if_neg (by omega), if_neg e]
      · rw [if_neg (by omega), if_neg d, TOV.f8]
        by_cases e : f ≤ i
        · rw [if_pos (by omega), if_pos e]
        · rw [if_neg (by omega), if_neg e]
  have t9 : TOV p u 0 9 = w 0 9 - 1 := by rw [TOV.f0, if_pos rfl, u9]
  refine ⟨?_, ?_, ?_, fun i a b => ?_, fun j a b => ?_⟩
  · rw [PIV.f0, if_neg (by omega), TOV.f0, if_neg (by omega), hu, PIV.f0, if_neg (by omega), TOV.f0, if_neg (by omega)]
  · rw [PIV.f0, if_neg (by omega), TOV.f0, if_neg (by omega), hu, PIV.f0, if_neg (by omega), TOV.f0, if_neg (by omega)]
  · rw [PIV.f0, if_pos rfl, t9]; omega
  · rw [PIV.f0, if_pos rfl, t9] at b
    have t8 : ∀ i, 0 ≤ i → i < w 0 9 - 1 → TOV p u 8 i = if p ≤ i then u 8 (i + 1) else u 8 i := by
      intro i a b
      rw [TOV.f8, u9]
      by_cases c : p ≤ i
      · rw [if_pos ⟨c, b⟩, if_pos c]
      · rw [if_neg (by omega), if_neg c]
    rw [PIV.f8, t9]
    by_cases c : i = f
    · rw [if_pos c, c, h8]
    · rw [if_neg c]
      by_cases d : f < i
      · rw [if_pos ⟨d, by omega⟩, t8 (i - 1) (by omega) (by omega), show i - 1 + 1 = i by omega]
        by_cases e : p ≤ i - 1
        · rw [if_pos e, u8 i a (by omega), if_neg (by omega), if_pos (by omega), if_pos (by omega)]
        · rw [if_neg e, u8 (i - 1) (by omega) (by omega), if_neg (by omega), if_neg (by omega), if_pos (by omega), show i - 1 + 1 = i by omega]
      · rw [if_neg (by omega), t8 i a (by omega)]
        by_cases e : p ≤ i
        · rw [if_pos e, u8 (i + 1) (by omega) (by omega), if_neg (by omega), if_pos (by omega), if_neg (by omega), show i + 1 - 1 = i by omega]
        · rw [if_neg e, u8 i a (by omega), if_neg (by omega), if_neg (by omega), if_neg (by omega)]
  · have q : ∀ g, g ≠ 0 ∧ g ≠ 2 ∧ g ≠ 8 → PIV s f (TOV p u) g j = w g j := fun g h => by rw [PIV.fo h, TOV.fo (by omega), hu, PIV.fo h, TOV.fo (by omega)]
    rw [PIV.f2, q 3 (by omega), q 4 (by omega), q 5 (by omega), q 6 (by omega), q 7 (by omega)]
    refine ⟨?_, rfl, rfl, rfl, fun _ => ⟨rfl, rfl⟩⟩
    by_cases c : j = s
    · rw [if_pos c, c, h2]
    · rw [if_neg c, TOV.fo (by omega), hu, PIV.f2, if_neg c, TOV.fo (by omega)]
/-- the relation behind a deed -/
theorem deedRel {t : Nat} {kd s fo : Int} {Mc Mc' N N' : Mem} (h : RelT t Mc N) (c8 : Mc' 8 3 = nn (N 0 46) + 1) (cd : ∀ c i, 288 ≤ c → c ≤ 290 → 0 ≤ i → i < nn (N 0 46) → Mc' c i = Mc c (i + sg (N 0 46))) (cn : Mc' 288 (nn (N 0 46)) = kd ∧ Mc' 289 (nn (N 0 46)) = s ∧ Mc' 290 (nn (N 0 46)) = fo) (cN : ∀ n, KC t n → n ≠ 4 → (n < 162 ∨ 168 < n) → n ≠ 8 → (n < 288 ∨ 290 < n) → Mc' n = Mc n) (m46 : N' 0 46 = nn (N 0 46) + 1) (m0 : ∀ f, f ≠ 46 → N' 0 f = N 0 f) (mN : ∀ n, n ≠ 0 → (n < 67 ∨ 76 < n) → N' n = N n) (m2 : VEQ (mvw 2 N) (mvw 2 N')) (mq : ∀ j, 0 ≤ j → j < nn (N 0 46) → VEQ (mvw (3 + j + sg (N 0 46)) N) (mvw (3 + j) N')) (mn : VEQ (mvw 0 N) (mvw (3 + nn (N 0 46)) N')) (hs : SR (N 35 0) 4 0 Mc' N') (h98 : Mc' 4 0 ≤ 9800) (und : UND (N 35 0) kd s fo (mvw 0 N') (mvw 0 N)) : RelT t Mc' N' := by
  have w0 := h.w0
  obtain ⟨h1, hT, ⟨h3, h3'⟩, h4, h5, h6, h7, h8, h9⟩ := h
  have ht := hT.1
  have hS := hT.2.1
  have e35 : N' 35 = N 35 := mN 35 (by omega) (by omega)
  have c0 : Mc' 0 = Mc 0 := cN 0 (by unfold KC; omega) (by omega) (by omega) (by omega) (by omega)
  have c1 : Mc' 1 = Mc 1 := cN 1 (by unfold KC; omega) (by omega) (by omega) (by omega) (by omega)
  have c6 : Mc' 6 = Mc 6 := cN 6 (by unfold KC; omega) (by omega) (by omega) (by omega) (by omega)
  obtain ⟨d1, d2, d3, d4⟩ := h5
  have hn : 0 ≤ nn (N 0 46) ∧ nn (N 0 46) ≤ 19 ∧ nn (N 0 46) + sg (N 0 46) = N 0 46 ∧ 0 ≤ sg (N 0 46) := by unfold nn sg; split <;> omega
  have v6 : VEQ (cvw 6 Mc) (cvw 6 Mc') := cvw_eq c6 (fun f a b => cN _ (by unfold KC; omega) (by omega) (by omega) (by omega) (by omega))
  unfold RelT
  rw [e35, c0, c1, c6, m0 45 (by omega), m0 47 (by omega), m0 48 (by omega)]
  refine ⟨h1, TR.frm2 hT (fun n a => cN n (by unfold KC; omega) (by omega) (by omega) (by omega) (by omega)) (fun n a b => mN n (by omega) (by omega)), ⟨hs, h98⟩, ⟨h4.1, h4.2.1, fun c => ⟨(h4.2.2 c).1.of (by omega) v6 m2, (h4.2.2 c).2⟩⟩, ⟨by rw [c8, m46], by rw [m46]; omega, by rw [m46]; omega, fun j a b => ?_⟩, h6.of (cN 9 (by unfold KC; omega) (by omega) (by omega) (by omega) (by omega)) (fun n a b => cN n (by unfold KC; omega) (by omega) (by omega) (by omega) (by omega)) (m0 58 (by omega)) (m0 59 (by omega)) (fun n a b => mN n (by omega) (by omega)), h7.of (by rw [c0]) (cN 32 (by unfold KC; omega) (by omega) (by omega) (by omega) (by omega)) c1 (cN 352 (by unfold KC; omega) (by omega) (by omega) (by omega) (by omega)) (m0 2 (by omega)) (m0 28 (by omega)) (m0 29 (by omega)) (mN 33 (by omega) (by omega)), h8, h9⟩
  rw [m46] at b ⊢
  by_cases cj : j = nn (N 0 46)
  · subst cj
    rw [if_pos rfl, cn.1, cn.2.1, cn.2.2]
    have k := VEQ.to (S := N 35 0) mn (by omega) (by have := w0.2.2.1; omega)
    have wn : WFV (N 35 0) (mvw 0 N') := WFB.of hs.2.1 hs.1
    exact ⟨WFB.of w0 k, NOB.of h3.2.2 mn (by omega), und.of wn (EQV.refl _ _) k⟩
  · obtain ⟨g1, g2, g3⟩ := d4 (j + sg (N 0 46)) (by omega) (by omega)
    have mj := mq j a (by omega)
    rw [show 3 + (j + sg (N 0 46)) = 3 + j + sg (N 0 46) by omega] at g1 g2 g3
    have k := VEQ.to (S := N 35 0) mj (by omega) (by have := g1.2.2.1; omega)
    rw [if_neg (by omega), cd 288 j (by omega) (by omega) a (by omega), cd 289 j (by omega) (by omega) a (by omega), cd 290 j (by omega) (by omega) a (by omega)]
    refine ⟨WFB.of g1 k, NOB.of g2 mj (by omega), ?_⟩
    by_cases cl : j + 1 = nn (N 0 46)
    · rw [if_pos (by omega)] at g3
      have k2 := VEQ.to (S := N 35 0) mn (by omega) (by have := w0.2.2.1; omega)
      rw [show 4 + j = 3 + nn (N 0 46) by omega]
      exact g3.of w0 k2 k
    · rw [if_neg (by omega)] at g3
      have wj := (d4 (j + sg (N 0 46) + 1) (by omega) (by omega)).1
      rw [show 3 + (j + sg (N 0 46) + 1) = 4 + (j + sg (N 0 46)) by omega] at wj
      have mj2 := mq (j + 1) (by omega) (by omega)
      rw [show 3 + (j + 1) + sg (N 0 46) = 4 + (j + sg (N 0 46)) by omega, show 3 + (j + 1) = 4 + j by omega] at mj2
      have k2 := VEQ.to (S := N 35 0) mj2 (by omega) (by have := wj.2.2.1; omega)
      exact g3.of wj k2 k
