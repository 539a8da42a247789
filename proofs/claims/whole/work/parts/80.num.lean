/-! PURE MATH, its ground: numbers below 2^31 as nI, what the operations make of them; loops; regions -/
theorem na_add (a b : Nat) : nI a + nI b = nI (a + b) := (Int32.ofNat_add a b).symm
theorem na_mul (a b : Nat) : nI a * nI b = nI (a * b) := (Int32.ofNat_mul a b).symm
theorem na_sub {a b : Nat} (h : b ≤ a) : nI a - nI b = nI (a - b) := by
  have h1 : nI (a - b) + nI b = nI a := by rw [na_add, Nat.sub_add_cancel h]
  rw [← h1, Int32.add_sub_cancel]
theorem na_le {a b : Nat} (ha : a < 2 ^ 31) (hb : b < 2 ^ 31) : nI a ≤ nI b ↔ a ≤ b := by
  rw [Int32.le_iff_toInt_le, nI_toInt ha, nI_toInt hb]; omega
theorem na_lt {a b : Nat} (ha : a < 2 ^ 31) (hb : b < 2 ^ 31) : nI a < nI b ↔ a < b := by
  rw [Int32.lt_iff_toInt_lt, nI_toInt ha, nI_toInt hb]; omega
theorem na_eq {a b : Nat} (ha : a < 2 ^ 31) (hb : b < 2 ^ 31) : nI a = nI b ↔ a = b := by
  rw [← Int32.toInt_inj, nI_toInt ha, nI_toInt hb]; omega
theorem na_le1 {a : Nat} (ha : a < 2 ^ 31) : ¬ nI a ≤ -1 := by
  rw [Int32.le_iff_toInt_le, nI_toInt ha]
  have : (-1 : Int32).toInt = -1 := by decide
  omega
theorem na_ne1 {a : Nat} (ha : a < 2 ^ 31) : ¬ nI a = -1 := by
  rw [← Int32.toInt_inj, nI_toInt ha]
  have : (-1 : Int32).toInt = -1 := by decide
  omega
theorem na_lt1 {a : Nat} (ha : a < 2 ^ 31) : ¬ nI a < -1 := by
  rw [Int32.lt_iff_toInt_lt, nI_toInt ha]
  have : (-1 : Int32).toInt = -1 := by decide
  omega
theorem na_bv (a : Nat) : (nI a).toBitVec = BitVec.ofNat 32 a := rfl
theorem na_and (a b : Nat) : nI a &&& nI b = nI (a &&& b) := by
  apply Int32.toBitVec_inj.mp
  show BitVec.ofNat 32 a &&& BitVec.ofNat 32 b = BitVec.ofNat 32 (a &&& b)
  apply BitVec.eq_of_toNat_eq
  simp [BitVec.toNat_ofNat, Nat.and_mod_two_pow]
theorem na_or (a b : Nat) : nI a ||| nI b = nI (a ||| b) := by
  apply Int32.toBitVec_inj.mp
  show BitVec.ofNat 32 a ||| BitVec.ofNat 32 b = BitVec.ofNat 32 (a ||| b)
  apply BitVec.eq_of_toNat_eq
  simp [BitVec.toNat_ofNat, Nat.or_mod_two_pow]
theorem na_xor (a b : Nat) : nI a ^^^ nI b = nI (a ^^^ b) := by
  apply Int32.toBitVec_inj.mp
  show BitVec.ofNat 32 a ^^^ BitVec.ofNat 32 b = BitVec.ofNat 32 (a ^^^ b)
  apply BitVec.eq_of_toNat_eq
  simp [BitVec.toNat_ofNat, Nat.xor_mod_two_pow]
/-- a counting loop, its states told ahead -/
theorem loop_for {σ β : Type} {body : Int32 × σ → Option ((Int32 × σ) ⊕ β)} (N : Nat) (S : Nat → σ) {b : β} (i0 : Nat) (h0 : i0 ≤ N) (hN : N < 1000000)
    (h1 : ∀ i, i0 ≤ i → i < N → body (nI i, S i) = some (.inl (nI (i + 1), S (i + 1)))) (h2 : body (nI N, S N) = some (.inr b)) : loopN body a_F (nI i0, S i0) = some b := by
  have key : ∀ t i n, i + t = N → i0 ≤ i → t < n → loopN body n (nI i, S i) = some b := by
    intro t
    induction t with
    | zero =>
      intro i n hi _ hn
      obtain ⟨n, rfl⟩ : ∃ k, n = k + 1 := ⟨n - 1, by omega⟩
      have hi : i = N := by omega
      subst hi
      unfold loopN
      rw [h2]
    | succ t ih =>
      intro i n hi hi0 hn
      obtain ⟨n, rfl⟩ : ∃ k, n = k + 1 := ⟨n - 1, by omega⟩
      unfold loopN
      rw [h1 i hi0 (by omega)]
      exact ih (i + 1) n (by omega) (by omega) (by omega)
  exact key (N - i0) i0 a_F (by omega) (Nat.le_refl _) (by unfold a_F; omega)
/-- any loop: an invariant, a measure, what holds at its end -/
theorem loop_inv {α β : Type} {body : α → Option (α ⊕ β)} (I : α → Prop) (m : α → Nat) (Q : β → Prop)
    (hb : ∀ a, I a → (∃ a', body a = some (.inl a') ∧ I a' ∧ m a' < m a) ∨ (∃ b, body a = some (.inr b) ∧ Q b)) :
    ∀ (n : Nat) (a : α), I a → m a < n → ∃ b, loopN body n a = some b ∧ Q b := by
  intro n
  induction n with
  | zero => intro a _ h; omega
  | succ n ih =>
    intro a ha hm
    rcases hb a ha with ⟨a', h1, h2, h3⟩ | ⟨b, h1, h2⟩
    · obtain ⟨b, h4, h5⟩ := ih a' h2 (by omega)
      refine ⟨b, ?_, h5⟩
      unfold loopN
      rw [h1]
      exact h4
    · refine ⟨b, ?_, h2⟩
      unfold loopN
      rw [h1]
theorem u2_same (A : Nat → Nat → Int32) (k i : Nat) (v : Int32) : u2 A k i v k i = v := by
  unfold u2
  rw [Nat.beq_refl, Nat.beq_refl]
  rfl
theorem u2_row (A : Nat → Nat → Int32) {k i : Nat} (v : Int32) {a b : Nat} (h : a ≠ k) : u2 A k i v a b = A a b := by
  unfold u2
  rw [show Nat.beq a k = false from by cases hb : Nat.beq a k with
    | false => rfl
    | true => exact absurd (Nat.eq_of_beq_eq_true hb) h]
  rfl
theorem u2_col (A : Nat → Nat → Int32) {k i : Nat} (v : Int32) {a b : Nat} (h : b ≠ i) : u2 A k i v a b = A a b := by
  unfold u2
  rw [show Nat.beq b i = false from by cases hb : Nat.beq b i with
    | false => rfl
    | true => exact absurd (Nat.eq_of_beq_eq_true hb) h]
  cases Nat.beq a k <;> rfl
theorem u2_eq (A : Nat → Nat → Int32) (k i : Nat) (v : Int32) (a b : Nat) : u2 A k i v a b = if a = k ∧ b = i then v else A a b := by
  by_cases h1 : a = k
  · by_cases h2 : b = i
    · subst h1; subst h2; rw [u2_same, if_pos ⟨rfl, rfl⟩]
    · rw [u2_col A v h2, if_neg (fun h => h2 h.2)]
  · rw [u2_row A v h1, if_neg (fun h => h1 h.1)]
theorem u1_eq (A : Nat → Nat → Int32) (k : Nat) (f : Nat → Int32) (a b : Nat) : u1 A k f a b = if a = k then f b else A a b := by
  unfold u1
  by_cases h : a = k
  · subst h; rw [Nat.beq_refl, if_pos rfl]; rfl
  · rw [if_neg h, show Nat.beq a k = false from by cases hb : Nat.beq a k with
      | false => rfl
      | true => exact absurd (Nat.eq_of_beq_eq_true hb) h]; rfl
