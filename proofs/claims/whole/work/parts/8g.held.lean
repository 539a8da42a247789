/-! PURE MATH: a place that is held -/
theorem held_bit (C : CS) (r h : Nat) (K : Nat) : (s_held C r K).testBit h = true ↔ ∃ k, k < K ∧ C 14 k = 0 ∧ C 11 k % 3 = r ∧ C 11 k / 3 = h := by
  induction K with
  | zero =>
    constructor
    · intro hh
      rw [show s_held C r 0 = 0 from rfl, Nat.zero_testBit] at hh
      cases hh
    · rintro ⟨k, hk, _⟩
      omega
  | succ K ih =>
    by_cases hc : C 14 K = 0 ∧ C 11 K % 3 = r
    · rw [s_held_hit hc, Nat.testBit_or, Bool.or_eq_true, ih, Nat.testBit_two_pow, decide_eq_true_eq]
      constructor
      · rintro (⟨k, hk, h1, h2, h3⟩ | h1)
        · exact ⟨k, by omega, h1, h2, h3⟩
        · exact ⟨K, by omega, hc.1, hc.2, h1⟩
      · rintro ⟨k, hk, h1, h2, h3⟩
        by_cases he : k = K
        · subst he
          exact Or.inr h3
        · exact Or.inl ⟨k, by omega, h1, h2, h3⟩
    · rw [s_held_miss hc, ih]
      constructor
      · rintro ⟨k, hk, h1, h2, h3⟩
        exact ⟨k, by omega, h1, h2, h3⟩
      · rintro ⟨k, hk, h1, h2, h3⟩
        by_cases he : k = K
        · subst he
          exact absurd ⟨h1, h2⟩ hc
        · exact ⟨k, by omega, h1, h2, h3⟩
theorem s_first_some {p : Nat → Prop} [DecidablePred p] (t : Nat) : ∀ i, ((s_first p t i).isSome = true ↔ ∃ k, i ≤ k ∧ k < i + t ∧ p k) := by
  induction t with
  | zero =>
    intro i
    constructor
    · intro h; cases h
    · rintro ⟨k, h1, h2, _⟩; omega
  | succ t ih =>
    intro i
    unfold s_first
    by_cases hp : p i
    · rw [if_pos hp]
      exact ⟨fun _ => ⟨i, by omega, by omega, hp⟩, fun _ => rfl⟩
    · rw [if_neg hp, ih]
      constructor
      · rintro ⟨k, h1, h2, h3⟩
        exact ⟨k, by omega, by omega, h3⟩
      · rintro ⟨k, h1, h2, h3⟩
        have : k ≠ i := fun e => hp (e ▸ h3)
        exact ⟨k, by omega, by omega, h3⟩
/-- is this place held -/
def s_isHeld (C : CS) (pl : Nat) : Prop := (s_held C (pl % 3) (C 0 4)).testBit (pl / 3) = true
theorem M_isHeld {C : CS} {A : Nat → Nat → Int32} (hW : WFC C) (hM : RMo C A) {pl : Nat} (hpl : pl < 30) : (s_isHeld C pl → f_M_isHeld A (nI pl) = some 1) ∧ (¬ s_isHeld C pl → f_M_isHeld A (nI pl) = some 0) := by
  have hK := hW.2.2.2.2.1
  have n4 : A 0 27 = nI (C 0 4) := hM.n (j := 4) (by omega)
  have r0 : ∀ k, k < C 0 4 → rdx (A 6) 16 (4 * nI k) = some (nI (C 11 k)) := fun k hk => by rw [show (4 : Int32) * nI k = nI (4 * k) from na_mul 4 k, rdx_nI (by omega) (by omega), (hM.hold hk).1]
  have r3 : ∀ k, k < C 0 4 → rdx (A 6) 16 (4 * nI k + 3) = some (nI (C 14 k)) := fun k hk => by rw [show (3 : Int32) = nI 3 from rfl, ix4, rdx_nI (by omega) (by omega), (hM.hold hk).2.2.2]
  have e := loop_first (body := fun q => f_M_isHeld_l2 A (nI pl) q) (C 0 4) (fun k => C 11 k = pl ∧ C 14 k = 0) (fun _ => (1 : Int32)) (by omega)
    (fun i hi hp => by
      show f_M_isHeld_l2 A (nI pl) (nI i) = _
      unfold f_M_isHeld_l2
      rw [n4, if_neg (nI_ge hi (by omega)), r0 i hi, r3 i hi, hp.1, hp.2]
      simp only [Option.bind_some]
      rw [if_neg (fun h => h rfl), if_neg (by decide), zb_1])
    (fun i hi hp => by
      have hh := hW.hplace i
      have hl := hW.let i
      show f_M_isHeld_l2 A (nI pl) (nI i) = _
      unfold f_M_isHeld_l2
      rw [n4, if_neg (nI_ge hi (by omega)), r0 i hi, r3 i hi]
      simp only [Option.bind_some]
      by_cases h1 : C 11 i = pl
      · rw [if_neg (fun h => h (by rw [h1])), if_pos (nI_ne0 (by have : C 14 i ≠ 0 := fun e => hp ⟨h1, e⟩; omega) (by omega))]
      · rw [if_pos (fun h => h1 ((na_eq (by omega) (by omega)).mp h))])
    (by
      show f_M_isHeld_l2 A (nI pl) (nI (C 0 4)) = _
      unfold f_M_isHeld_l2
      rw [n4, if_pos (nI_le (Nat.le_refl _) (by omega))])
  have hq : s_isHeld C pl ↔ (s_first (fun k => C 11 k = pl ∧ C 14 k = 0) (C 0 4) 0).isSome = true := by
    unfold s_isHeld
    rw [held_bit, s_first_some]
    constructor
    · rintro ⟨k, h1, h2, h3, h4⟩
      exact ⟨k, by omega, by omega, by omega, h2⟩
    · rintro ⟨k, h1, h2, h3, h4⟩
      exact ⟨k, by omega, h4, by rw [h3], by rw [h3]⟩
  unfold f_M_isHeld
  rw [e, hq]
  cases s_first (fun k => C 11 k = pl ∧ C 14 k = 0) (C 0 4) 0 with
  | none => exact ⟨fun h => (by cases h), fun _ => rfl⟩
  | some i => exact ⟨fun _ => rfl, fun h => absurd rfl h⟩
