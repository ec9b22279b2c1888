/-! what a run gives: rules for the functions of parts 11 .. 13 -/
def wpo {α : Type} (o : Option α) (Q : α → Prop) : Prop := ∃ x, o = some x ∧ Q x
theorem wpo_some {α : Type} {x : α} {Q : α → Prop} : wpo (some x) Q ↔ Q x := ⟨fun ⟨_, h, q⟩ => by cases h; exact q, fun q => ⟨x, rfl, q⟩⟩
theorem wpo_mono {α : Type} {o : Option α} {Q Q' : α → Prop} (h : wpo o Q) (hq : ∀ x, Q x → Q' x) : wpo o Q' := by
  obtain ⟨x, e, q⟩ := h
  exact ⟨x, e, hq x q⟩
theorem wpo_call {α : Type} {o : Res} {K : Int → Mem → Option α} {Q : α → Prop} : wpo (q_call o K) Q ↔ wpo o (fun x => wpo (K x.1 x.2) Q) := by
  cases o with
  | none => exact ⟨(fun ⟨_, h, _⟩ => (by cases h)), (fun ⟨_, h, _⟩ => (by cases h))⟩
  | some x => obtain ⟨r, M⟩ := x; exact (wpo_some (x := (r, M)) (Q := fun (x : Int × Mem) => wpo (K x.1 x.2) Q)).symm
theorem wpo_calp {α : Type} {o : Option Int} {K : Int → Option α} {Q : α → Prop} : wpo (q_calp o K) Q ↔ wpo o (fun x => wpo (K x) Q) := by
  cases o with
  | none => exact ⟨(fun ⟨_, h, _⟩ => (by cases h)), (fun ⟨_, h, _⟩ => (by cases h))⟩
  | some x => exact (Iff.trans Iff.rfl (wpo_some (Q := fun x => wpo (K x) Q)).symm)
theorem wpo_ite {α : Type} {c : Prop} [Decidable c] {a b : Option α} {Q : α → Prop} (h1 : c → wpo a Q) (h2 : ¬ c → wpo b Q) : wpo (if c then a else b) Q := by
  by_cases h : c
  · rw [if_pos h]; exact h1 h
  · rw [if_neg h]; exact h2 h
theorem q_al_ok {α : Type} {M : Mem} {n len : Nat} {i : Int} {K : Int → Option α} (h : 0 ≤ i ∧ i < (len : Int) ∧ (len : Int) ≤ 2147483648) : q_al M n len i K = K (M n i) := by
  unfold q_al
  rw [w32_id ⟨by omega, by omega⟩, if_pos ⟨h.1, h.2.1⟩]
theorem q_as_ok {α : Type} {M : Mem} {n len : Nat} {i v : Int} {K : Mem → Option α} (h : 0 ≤ i ∧ i < (len : Int) ∧ (len : Int) ≤ 2147483648) : q_as M n len i v K = K (up M n i v) := by
  unfold q_as
  rw [w32_id ⟨by omega, by omega⟩, if_pos ⟨h.1, h.2.1⟩]
theorem q_nz_ok {α : Type} {y : Int} {K : Option α} (h : y ≠ 0 ∧ -2147483648 ≤ y ∧ y < 2147483648) : q_nz y K = K := by
  unfold q_nz
  rw [w32_id h.2, if_neg h.1]
theorem q_nzl_ok {α : Type} {y : Int} {K : Option α} (h : y ≠ 0 ∧ -9223372036854775808 ≤ y ∧ y < 9223372036854775808) : q_nzl y K = K := by
  unfold q_nzl
  rw [w64_id h.2, if_neg h.1]
theorem up_nej {M : Mem} {n n' : Nat} {i i' v : Int} (h : i' ≠ i) : up M n i v n' i' = M n' i' := up_ne (fun q => h q.2)
theorem up_nei {M : Mem} {n : Nat} {i i' v : Int} (h : i' ≠ i) : up M n i v n i' = M n i' := up_ne (fun q => h q.2)
/-- loops: an invariant and a measure -/
theorem qlm0_wp {α : Type} {B : Mem → (Mem → Option α) → Option α} {Q : α → Prop} (I : Mem → Prop) (m : Mem → Nat) (hs : ∀ M g, I M → (∀ M', I M' → m M' < m M → wpo (g M') Q) → wpo (B M g) Q) : ∀ n M, I M → m M < n → wpo (qlm0 B n M) Q
  | 0, _, _, h => absurd h (Nat.not_lt_zero _)
  | n + 1, M, hi, h => hs M _ hi (fun M' hi' h' => qlm0_wp I m hs n M' hi' (Nat.lt_of_lt_of_le h' (Nat.le_of_lt_succ h)))
theorem qlm1_wp {α : Type} {B : Int → Mem → (Int → Mem → Option α) → Option α} {Q : α → Prop} (I : Int → Mem → Prop) (m : Int → Mem → Nat) (hs : ∀ x M g, I x M → (∀ x' M', I x' M' → m x' M' < m x M → wpo (g x' M') Q) → wpo (B x M g) Q) : ∀ n x M, I x M → m x M < n → wpo (qlm1 B n x M) Q
  | 0, _, _, _, h => absurd h (Nat.not_lt_zero _)
  | n + 1, x, M, hi, h => hs x M _ hi (fun x' M' hi' h' => qlm1_wp I m hs n x' M' hi' (Nat.lt_of_lt_of_le h' (Nat.le_of_lt_succ h)))
theorem qlm2_wp {α : Type} {B : Int → Int → Mem → (Int → Int → Mem → Option α) → Option α} {Q : α → Prop} (I : Int → Int → Mem → Prop) (m : Int → Int → Mem → Nat) (hs : ∀ x y M g, I x y M → (∀ x' y' M', I x' y' M' → m x' y' M' < m x y M → wpo (g x' y' M') Q) → wpo (B x y M g) Q) : ∀ n x y M, I x y M → m x y M < n → wpo (qlm2 B n x y M) Q
  | 0, _, _, _, _, h => absurd h (Nat.not_lt_zero _)
  | n + 1, x, y, M, hi, h => hs x y M _ hi (fun x' y' M' hi' h' => qlm2_wp I m hs n x' y' M' hi' (Nat.lt_of_lt_of_le h' (Nat.le_of_lt_succ h)))
theorem qlm3_wp {α : Type} {B : Int → Int → Int → Mem → (Int → Int → Int → Mem → Option α) → Option α} {Q : α → Prop} (I : Int → Int → Int → Mem → Prop) (m : Int → Int → Int → Mem → Nat) (hs : ∀ x y z M g, I x y z M → (∀ x' y' z' M', I x' y' z' M' → m x' y' z' M' < m x y z M → wpo (g x' y' z' M') Q) → wpo (B x y z M g) Q) : ∀ n x y z M, I x y z M → m x y z M < n → wpo (qlm3 B n x y z M) Q
  | 0, _, _, _, _, _, h => absurd h (Nat.not_lt_zero _)
  | n + 1, x, y, z, M, hi, h => hs x y z M _ hi (fun x' y' z' M' hi' h' => qlm3_wp I m hs n x' y' z' M' hi' (Nat.lt_of_lt_of_le h' (Nat.le_of_lt_succ h)))
theorem qlp1_wp {α : Type} {B : Int → (Int → Option α) → Option α} {Q : α → Prop} (I : Int → Prop) (m : Int → Nat) (hs : ∀ x g, I x → (∀ x', I x' → m x' < m x → wpo (g x') Q) → wpo (B x g) Q) : ∀ n x, I x → m x < n → wpo (qlp1 B n x) Q
  | 0, _, _, h => absurd h (Nat.not_lt_zero _)
  | n + 1, x, hi, h => hs x _ hi (fun x' hi' h' => qlp1_wp I m hs n x' hi' (Nat.lt_of_lt_of_le h' (Nat.le_of_lt_succ h)))
theorem qlp2_wp {α : Type} {B : Int → Int → (Int → Int → Option α) → Option α} {Q : α → Prop} (I : Int → Int → Prop) (m : Int → Int → Nat) (hs : ∀ x y g, I x y → (∀ x' y', I x' y' → m x' y' < m x y → wpo (g x' y') Q) → wpo (B x y g) Q) : ∀ n x y, I x y → m x y < n → wpo (qlp2 B n x y) Q
  | 0, _, _, _, h => absurd h (Nat.not_lt_zero _)
  | n + 1, x, y, hi, h => hs x y _ hi (fun x' y' hi' h' => qlp2_wp I m hs n x' y' hi' (Nat.lt_of_lt_of_le h' (Nat.le_of_lt_succ h)))
theorem qlp3_wp {α : Type} {B : Int → Int → Int → (Int → Int → Int → Option α) → Option α} {Q : α → Prop} (I : Int → Int → Int → Prop) (m : Int → Int → Int → Nat) (hs : ∀ x y z g, I x y z → (∀ x' y' z', I x' y' z' → m x' y' z' < m x y z → wpo (g x' y' z') Q) → wpo (B x y z g) Q) : ∀ n x y z, I x y z → m x y z < n → wpo (qlp3 B n x y z) Q
  | 0, _, _, _, _, h => absurd h (Nat.not_lt_zero _)
  | n + 1, x, y, z, hi, h => hs x y z _ hi (fun x' y' z' hi' h' => qlp3_wp I m hs n x' y' z' hi' (Nat.lt_of_lt_of_le h' (Nat.le_of_lt_succ h)))
theorem wpo_eq {α : Type} {o : Option α} {x : α} : wpo o (fun y => y = x) ↔ o = some x := ⟨fun ⟨_, h, q⟩ => by rw [h, q], fun h => ⟨x, h, rfl⟩⟩
theorem q_N_lt {a : Nat} (h : a < 100000) : a < q_N := h
theorem qlm0_N {α : Type} {B : Mem → (Mem → Option α) → Option α} {Q : α → Prop} (I : Mem → Prop) (m : Mem → Nat)  (M : Mem) (hi : I M) (hm : m M < 100000) (hs : ∀ M g, I M → (∀ M', I M' → m M' < m M → wpo (g M') Q) → wpo (B M g) Q) : wpo (qlm0 B q_N M) Q := qlm0_wp I m hs q_N M hi (q_N_lt hm)
theorem qlm1_N {α : Type} {B : Int → Mem → (Int → Mem → Option α) → Option α} {Q : α → Prop} (I : Int → Mem → Prop) (m : Int → Mem → Nat) (x : Int) (M : Mem) (hi : I x M) (hm : m x M < 100000) (hs : ∀ x M g, I x M → (∀ x' M', I x' M' → m x' M' < m x M → wpo (g x' M') Q) → wpo (B x M g) Q) : wpo (qlm1 B q_N x M) Q := qlm1_wp I m hs q_N x M hi (q_N_lt hm)
theorem qlm2_N {α : Type} {B : Int → Int → Mem → (Int → Int → Mem → Option α) → Option α} {Q : α → Prop} (I : Int → Int → Mem → Prop) (m : Int → Int → Mem → Nat) (x : Int) (y : Int) (M : Mem) (hi : I x y M) (hm : m x y M < 100000) (hs : ∀ x y M g, I x y M → (∀ x' y' M', I x' y' M' → m x' y' M' < m x y M → wpo (g x' y' M') Q) → wpo (B x y M g) Q) : wpo (qlm2 B q_N x y M) Q := qlm2_wp I m hs q_N x y M hi (q_N_lt hm)
theorem qlm3_N {α : Type} {B : Int → Int → Int → Mem → (Int → Int → Int → Mem → Option α) → Option α} {Q : α → Prop} (I : Int → Int → Int → Mem → Prop) (m : Int → Int → Int → Mem → Nat) (x : Int) (y : Int) (z : Int) (M : Mem) (hi : I x y z M) (hm : m x y z M < 100000) (hs : ∀ x y z M g, I x y z M → (∀ x' y' z' M', I x' y' z' M' → m x' y' z' M' < m x y z M → wpo (g x' y' z' M') Q) → wpo (B x y z M g) Q) : wpo (qlm3 B q_N x y z M) Q := qlm3_wp I m hs q_N x y z M hi (q_N_lt hm)
theorem qlp1_N {α : Type} {B : Int → (Int → Option α) → Option α} {Q : α → Prop} (I : Int → Prop) (m : Int → Nat) (x : Int) (hi : I x) (hm : m x < 100000) (hs : ∀ x g, I x → (∀ x', I x' → m x' < m x → wpo (g x') Q) → wpo (B x g) Q) : wpo (qlp1 B q_N x) Q := qlp1_wp I m hs q_N x hi (q_N_lt hm)
theorem qlp2_N {α : Type} {B : Int → Int → (Int → Int → Option α) → Option α} {Q : α → Prop} (I : Int → Int → Prop) (m : Int → Int → Nat) (x : Int) (y : Int) (hi : I x y) (hm : m x y < 100000) (hs : ∀ x y g, I x y → (∀ x' y', I x' y' → m x' y' < m x y → wpo (g x' y') Q) → wpo (B x y g) Q) : wpo (qlp2 B q_N x y) Q := qlp2_wp I m hs q_N x y hi (q_N_lt hm)
theorem qlp3_N {α : Type} {B : Int → Int → Int → (Int → Int → Int → Option α) → Option α} {Q : α → Prop} (I : Int → Int → Int → Prop) (m : Int → Int → Int → Nat) (x : Int) (y : Int) (z : Int) (hi : I x y z) (hm : m x y z < 100000) (hs : ∀ x y z g, I x y z → (∀ x' y' z', I x' y' z' → m x' y' z' < m x y z → wpo (g x' y' z') Q) → wpo (B x y z g) Q) : wpo (qlp3 B q_N x y z) Q := qlp3_wp I m hs q_N x y z hi (q_N_lt hm)
theorem q_gf_e {α : Type} {M : Mem} {n : Nat} {f : Int} {K : Int → Option α} : q_gf M n f K = K (M n f) := by
  have h : ∀ o, o = q_gf M n f K → o = K (M n f) := fun o h => h
  exact h _ rfl
theorem q_gr_e {α : Type} {M : Mem} {n : Nat} {f : Int} {K : Nat → Option α} : q_gr M n f K = K (M n f).toNat := by
  have h : ∀ o, o = q_gr M n f K → o = K (M n f).toNat := fun o h => h
  exact h _ rfl
theorem q_pf_e {α : Type} {M : Mem} {n : Nat} {f v : Int} {K : Mem → Option α} : q_pf M n f v K = K (up M n f v) := by
  have h : ∀ o, o = q_pf M n f v K → o = K (up M n f v) := fun o h => h
  exact h _ rfl
theorem q_pz_e {α : Type} {M : Mem} {n : Nat} {f v : Int} {K : Mem → Option α} (h : v = 0 ∨ v = 1) : q_pz M n f v K = K (up M n f v) := by
  unfold q_pz
  rw [if_pos h]
theorem q_bit_e {α : Type} {v : Int} {K : Option α} (h : v = 0 ∨ v = 1) : q_bit v K = K := by
  unfold q_bit
  rw [if_pos h]
theorem q_let_e {α : Type} {v : Int} {K : Int → Option α} : q_let v K = K v := by
  have h : ∀ o, o = q_let v K → o = K v := fun o h => h
  exact h _ rfl
theorem q_call_e {α : Type} {r : Int} {M : Mem} {K : Int → Mem → Option α} : q_call (some (r, M)) K = K r M := by
  have h : ∀ o, o = q_call (some (r, M)) K → o = K r M := fun o h => h
  exact h _ rfl
theorem q_calp_e {α : Type} {r : Int} {K : Int → Option α} : q_calp (some r) K = K r := by
  have h : ∀ o, o = q_calp (some r) K → o = K r := fun o h => h
  exact h _ rfl
