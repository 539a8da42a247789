/-! PURE MATH: drops -/
/-- whom p meets, some meetings being away, by the first n meetings -/
def s_mt (C : CS) (w p : Nat) : Nat → Nat
  | 0 => 0
  | n + 1 => s_mt C w p n ||| (if C 15 n ≠ 0 ∧ ¬ w.testBit n = true ∧ (C 8 n).testBit p = true then C 8 n &&& (2 ^ p ^^^ 4294967295) else 0)
theorem mt_bit (C : CS) (w p q n : Nat) (hq : q < 32) : (s_mt C w p n).testBit q = true ↔ ∃ m, m < n ∧ (C 15 m ≠ 0 ∧ ¬ w.testBit m = true ∧ (C 8 m).testBit p = true) ∧ (C 8 m).testBit q = true ∧ p ≠ q := by
  induction n with
  | zero => rw [show s_mt C w p 0 = 0 from rfl, Nat.zero_testBit]; exact ⟨fun h => (by cases h), fun ⟨m, hm, _⟩ => by omega⟩
  | succ n ih =>
    unfold s_mt
    rw [Nat.testBit_or, Bool.or_eq_true, ih]
    have key : (if C 15 n ≠ 0 ∧ ¬ w.testBit n = true ∧ (C 8 n).testBit p = true then C 8 n &&& (2 ^ p ^^^ 4294967295) else 0).testBit q = true ↔ (C 15 n ≠ 0 ∧ ¬ w.testBit n = true ∧ (C 8 n).testBit p = true) ∧ (C 8 n).testBit q = true ∧ p ≠ q := by
      by_cases hc : C 15 n ≠ 0 ∧ ¬ w.testBit n = true ∧ (C 8 n).testBit p = true
      · rw [if_pos hc, Nat.testBit_and, Nat.testBit_xor, ones_bit, Nat.testBit_two_pow]
        by_cases hpq : p = q <;> cases hb : (C 8 n).testBit q <;> simp [hq, hpq, hc]
      · rw [if_neg hc, Nat.zero_testBit]
        exact ⟨fun h => (by cases h), fun h => absurd h.1 hc⟩
    rw [key]
    constructor
    · rintro (⟨m, h1, h2⟩ | h)
      · exact ⟨m, by omega, h2⟩
      · exact ⟨n, by omega, h⟩
    · rintro ⟨m, h1, h2⟩
      by_cases he : m = n
      · subst he; exact Or.inr h2
      · exact Or.inl ⟨m, by omega, h2⟩
theorem mt_lt {C : CS} (hW : WFC C) (w p n : Nat) : s_mt C w p n < 2 ^ 8 := by
  induction n with
  | zero => exact Nat.two_pow_pos _
  | succ n ih =>
    unfold s_mt
    refine Nat.or_lt_two_pow ih ?_
    split
    · exact Nat.lt_of_le_of_lt Nat.and_le_left (hW.mem n)
    · exact Nat.two_pow_pos _
theorem M_meets {C : CS} {A MS : Nat → Nat → Int32} (hW : WFC C) (hM : RMo C A) {w : Nat} (hw : w < 2 ^ 31) : ∃ M', f_M_findMeets A MS (nI w) = some M' ∧ (∀ p, p < 8 → M' 7 p = nI (s_mt C w p (C 0 3))) ∧ ∀ a b, a ≠ 7 → M' a b = MS a b := by
  have hN := hW.2.2.2.1
  have n3 : A 0 26 = nI (C 0 3) := hM.n (j := 3) (by omega)
  unfold f_M_findMeets
  have e := loop_rel (body := fun q : Int32 × (Nat → Nat → Int32) => f_M_findMeets_l2 A (nI w) q.1 q.2) 8
    (fun i s => s.1 = nI i ∧ (∀ p, p < i → s.2 7 p = nI (s_mt C w p (C 0 3))) ∧ ∀ a b, a ≠ 7 → s.2 a b = MS a b) (fun b => (∀ p, p < 8 → b 7 p = nI (s_mt C w p (C 0 3))) ∧ ∀ a b', a ≠ 7 → b a b' = MS a b') (by omega)
    (fun i s hi hR => by
      obtain ⟨v, M⟩ := s
      obtain ⟨r1, r2, r3⟩ := hR
      have r1 : v = nI i := r1
      have t2 : ∀ p, p < i → M 7 p = nI (s_mt C w p (C 0 3)) := r2
      have t3 : ∀ a b, a ≠ 7 → M a b = MS a b := r3
      clear r2 r3
      subst r1
      show ∃ s', f_M_findMeets_l2 A (nI w) (nI i) M = _ ∧ _
      unfold f_M_findMeets_l2
      rw [if_neg (show ¬ (8 : Int32) ≤ nI i from nI_ge (b := 8) hi (by omega)), ixx_nI hi (by omega), obs]
      have e2 := loop_for (body := fun q => f_M_findMeets_l15 A (nI i) (nI w) q.1 q.2) (C 0 3) (fun m => u2 M 7 i (nI (s_mt C w i m))) (b := u2 M 7 i (nI (s_mt C w i (C 0 3)))) 0 (by omega) (by omega)
        (fun m _ hm => by
          have hp := hW.plan m
          have hx := hW.mem m
          obtain ⟨a1, a2⟩ := bitq (x := w) (j := m) hw (by omega)
          obtain ⟨b1, b2⟩ := bitq (x := C 8 m) (j := i) (by omega) (by omega)
          have q2 : rdx (A 5) 60 (6 * nI m + 2) = some (nI (C 8 m)) := by rw [show (2 : Int32) = nI 2 from rfl, ix6, rdx_nI (by omega) (by omega), hM.meet hm 2 (by omega)]; rfl
          show f_M_findMeets_l15 A (nI i) (nI w) (nI m) (u2 M 7 i (nI (s_mt C w i m))) = some (Sum.inl (nI (m + 1), u2 M 7 i (nI (s_mt C w i m ||| (if C 15 m ≠ 0 ∧ ¬ w.testBit m = true ∧ (C 8 m).testBit i = true then C 8 m &&& (2 ^ i ^^^ 4294967295) else 0)))))
          unfold f_M_findMeets_l15
          rw [n3, if_neg (nI_ge hm (by omega)), rdx_nI hi (by omega), u2_same, obs, rdx_nI (by omega) (by omega), hM.here hm, obs, q2, ixx_nI hi (by omega)]
          simp only [obs, oI_z hp, ne_eq, a1, b2, Decidable.not_not]
          have hv : (((((if C 15 m = 0 then (some (.inl ()) : Option (Unit ⊕ Int32)) else if w.testBit m = true then some (.inl ()) else if ¬ (C 8 m).testBit i = true then some (.inl ()) else some (.inr (nI (C 8 m) &&& (a_shl 1 (nI i) ^^^ (-1)))))).bind fun b5 => sumE b5 (fun _ => some 0) (fun q => some q)) : Option Int32)) = some (nI (if C 15 m ≠ 0 ∧ ¬ w.testBit m = true ∧ (C 8 m).testBit i = true then C 8 m &&& (2 ^ i ^^^ 4294967295) else 0)) := by
            by_cases c1 : C 15 m = 0
            · rw [if_pos c1, obs, se_l, if_neg (fun h => h.1 c1)]; rfl
            · rw [if_neg c1]
              by_cases c2 : w.testBit m = true
              · rw [if_pos c2, obs, se_l, if_neg (fun h => h.2.1 c2)]; rfl
              · rw [if_neg c2]
                by_cases c3 : (C 8 m).testBit i = true
                · rw [if_neg (fun h => h c3), obs, se_r, if_pos ⟨c1, c2, c3⟩, shl_1 _ (by omega), na_not, na_and]
                · rw [if_pos c3, obs, se_l, if_neg (fun h => c3 h.2.2)]; rfl
          rw [hv, obs, na_or, ← nI_succ]
          congr 3
          funext a b
          rw [u2_eq, u2_eq, u2_eq]
          by_cases h : a = 7 ∧ b = i
          · rw [if_pos h, if_pos h]
          · rw [if_neg h, if_neg h, if_neg h])
        (by
          show f_M_findMeets_l15 A (nI i) (nI w) (nI (C 0 3)) (u2 M 7 i (nI (s_mt C w i (C 0 3)))) = _
          unfold f_M_findMeets_l15
          rw [n3, if_pos (nI_le (Nat.le_refl _) (by omega))])
      have e3 : u2 M 7 i 0 = u2 M 7 i (nI (s_mt C w i 0)) := rfl
      rw [e3, show ((0 : Int32), u2 M 7 i (nI (s_mt C w i 0))) = (nI 0, u2 M 7 i (nI (s_mt C w i 0))) from rfl, e2, obs]
      refine ⟨_, rfl, (nI_succ i).symm, fun p hp => ?_, fun a b ha => ?_⟩
      · dsimp only
        by_cases he : p = i
        · subst he; rw [u2_same]
        · rw [u2_col _ _ he, t2 p (by omega)]
      · dsimp only
        rw [u2_row _ _ ha, t3 a b ha])
    (fun s hR => by
      obtain ⟨v, M⟩ := s
      obtain ⟨r1, r2, r3⟩ := hR
      have r1 : v = nI 8 := r1
      subst r1
      refine ⟨M, ?_, r2, r3⟩
      show f_M_findMeets_l2 A (nI w) (nI 8) M = _
      unfold f_M_findMeets_l2
      rw [if_pos (by decide)])
    (0, MS) ⟨rfl, (fun p hp => absurd hp (Nat.not_lt_zero p)), fun _ _ _ => rfl⟩
  obtain ⟨b, b1, b2, b3⟩ := e
  rw [b1, obs]
  exact ⟨b, rfl, b2, b3⟩
theorem M_meets_2 {C : CS} {A MS : Nat → Nat → Int32} (hW : WFC C) (hM : RMo C A) {w : Nat} (hw : w < 2 ^ 31) : ∃ M', f_M_findMeets_2 A MS (nI w) = some M' ∧ (∀ p, p < 8 → M' 8 p = nI (s_mt C w p (C 0 3))) ∧ ∀ a b, a ≠ 8 → M' a b = MS a b := by
  have hN := hW.2.2.2.1
  have n3 : A 0 26 = nI (C 0 3) := hM.n (j := 3) (by omega)
  unfold f_M_findMeets_2
  have e := loop_rel (body := fun q : Int32 × (Nat → Nat → Int32) => f_M_findMeets_2_l2 A (nI w) q.1 q.2) 8
    (fun i s => s.1 = nI i ∧ (∀ p, p < i → s.2 8 p = nI (s_mt C w p (C 0 3))) ∧ ∀ a b, a ≠ 8 → s.2 a b = MS a b) (fun b => (∀ p, p < 8 → b 8 p = nI (s_mt C w p (C 0 3))) ∧ ∀ a b', a ≠ 8 → b a b' = MS a b') (by omega)
    (fun i s hi hR => by
      obtain ⟨v, M⟩ := s
      obtain ⟨r1, r2, r3⟩ := hR
      have r1 : v = nI i := r1
      have t2 : ∀ p, p < i → M 8 p = nI (s_mt C w p (C 0 3)) := r2
      have t3 : ∀ a b, a ≠ 8 → M a b = MS a b := r3
      clear r2 r3
      subst r1
      show ∃ s', f_M_findMeets_2_l2 A (nI w) (nI i) M = _ ∧ _
      unfold f_M_findMeets_2_l2
      rw [if_neg (show ¬ (8 : Int32) ≤ nI i from nI_ge (b := 8) hi (by omega)), ixx_nI hi (by omega), obs]
      have e2 := loop_for (body := fun q => f_M_findMeets_2_l15 A (nI i) (nI w) q.1 q.2) (C 0 3) (fun m => u2 M 8 i (nI (s_mt C w i m))) (b := u2 M 8 i (nI (s_mt C w i (C 0 3)))) 0 (by omega) (by omega)
        (fun m _ hm => by
          have hp := hW.plan m
          have hx := hW.mem m
          obtain ⟨a1, a2⟩ := bitq (x := w) (j := m) hw (by omega)
          obtain ⟨b1, b2⟩ := bitq (x := C 8 m) (j := i) (by omega) (by omega)
          have q2 : rdx (A 5) 60 (6 * nI m + 2) = some (nI (C 8 m)) := by rw [show (2 : Int32) = nI 2 from rfl, ix6, rdx_nI (by omega) (by omega), hM.meet hm 2 (by omega)]; rfl
          show f_M_findMeets_2_l15 A (nI i) (nI w) (nI m) (u2 M 8 i (nI (s_mt C w i m))) = some (Sum.inl (nI (m + 1), u2 M 8 i (nI (s_mt C w i m ||| (if C 15 m ≠ 0 ∧ ¬ w.testBit m = true ∧ (C 8 m).testBit i = true then C 8 m &&& (2 ^ i ^^^ 4294967295) else 0)))))
          unfold f_M_findMeets_2_l15
          rw [n3, if_neg (nI_ge hm (by omega)), rdx_nI hi (by omega), u2_same, obs, rdx_nI (by omega) (by omega), hM.here hm, obs, q2, ixx_nI hi (by omega)]
          simp only [obs, oI_z hp, ne_eq, a1, b2, Decidable.not_not]
          have hv : (((((if C 15 m = 0 then (some (.inl ()) : Option (Unit ⊕ Int32)) else if w.testBit m = true then some (.inl ()) else if ¬ (C 8 m).testBit i = true then some (.inl ()) else some (.inr (nI (C 8 m) &&& (a_shl 1 (nI i) ^^^ (-1)))))).bind fun b5 => sumE b5 (fun _ => some 0) (fun q => some q)) : Option Int32)) = some (nI (if C 15 m ≠ 0 ∧ ¬ w.testBit m = true ∧ (C 8 m).testBit i = true then C 8 m &&& (2 ^ i ^^^ 4294967295) else 0)) := by
            by_cases c1 : C 15 m = 0
            · rw [if_pos c1, obs, se_l, if_neg (fun h => h.1 c1)]; rfl
            · rw [if_neg c1]
              by_cases c2 : w.testBit m = true
              · rw [if_pos c2, obs, se_l, if_neg (fun h => h.2.1 c2)]; rfl
              · rw [if_neg c2]
                by_cases c3 : (C 8 m).testBit i = true
                · rw [if_neg (fun h => h c3), obs, se_r, if_pos ⟨c1, c2, c3⟩, shl_1 _ (by omega), na_not, na_and]
                · rw [if_pos c3, obs, se_l, if_neg (fun h => c3 h.2.2)]; rfl
          rw [hv, obs, na_or, ← nI_succ]
          congr 3
          funext a b
          rw [u2_eq, u2_eq, u2_eq]
          by_cases h : a = 8 ∧ b = i
          · rw [if_pos h, if_pos h]
          · rw [if_neg h, if_neg h, if_neg h])
        (by
          show f_M_findMeets_2_l15 A (nI i) (nI w) (nI (C 0 3)) (u2 M 8 i (nI (s_mt C w i (C 0 3)))) = _
          unfold f_M_findMeets_2_l15
          rw [n3, if_pos (nI_le (Nat.le_refl _) (by omega))])
      have e3 : u2 M 8 i 0 = u2 M 8 i (nI (s_mt C w i 0)) := rfl
      rw [e3, show ((0 : Int32), u2 M 8 i (nI (s_mt C w i 0))) = (nI 0, u2 M 8 i (nI (s_mt C w i 0))) from rfl, e2, obs]
      refine ⟨_, rfl, (nI_succ i).symm, fun p hp => ?_, fun a b ha => ?_⟩
      · dsimp only
        by_cases he : p = i
        · subst he; rw [u2_same]
        · rw [u2_col _ _ he, t2 p (by omega)]
      · dsimp only
        rw [u2_row _ _ ha, t3 a b ha])
    (fun s hR => by
      obtain ⟨v, M⟩ := s
      obtain ⟨r1, r2, r3⟩ := hR
      have r1 : v = nI 8 := r1
      subst r1
      refine ⟨M, ?_, r2, r3⟩
      show f_M_findMeets_2_l2 A (nI w) (nI 8) M = _
      unfold f_M_findMeets_2_l2
      rw [if_pos (by decide)])
    (0, MS) ⟨rfl, (fun p hp => absurd hp (Nat.not_lt_zero p)), fun _ _ _ => rfl⟩
  obtain ⟨b, b1, b2, b3⟩ := e
  rw [b1, obs]
  exact ⟨b, rfl, b2, b3⟩
def s_both (C : CS) (p q : Nat) : Nat := bs (fun m => (C 15 m ≠ 0 ∧ (C 8 m).testBit p = true) ∧ (C 8 m).testBit q = true) (C 0 3)
/-- all who meet still meet, these meetings being away -/
def s_keep (C : CS) (w : Nat) : Prop := ∀ p q, p < q → q < C 0 2 → s_both C p q ≠ 0 → ∃ m, m < C 0 3 ∧ ((C 15 m ≠ 0 ∧ (C 8 m).testBit p = true) ∧ (C 8 m).testBit q = true) ∧ ¬ w.testBit m = true
/-- members are people of the house -/
def WFM (C : CS) : Prop := ∀ m p, (C 8 m).testBit p = true → p < C 0 2
theorem enough_keep {C : CS} (hW : WFC C) (hB : WFM C) (w : Nat) : (∀ p, p < 8 → s_mt C 0 p (C 0 3) = s_mt C w p (C 0 3)) ↔ s_keep C w := by
  have hP := hW.2.2.1
  constructor
  · intro h p q hpq hq hb
    obtain ⟨m, h1, h2⟩ := (bs_ne0 _ _).mp hb
    have e := h p (by omega)
    have hbit := (mt_bit C 0 p q (C 0 3) (by omega)).mpr ⟨m, h1, ⟨h2.1.1, by rw [Nat.zero_testBit]; decide, h2.1.2⟩, h2.2, by omega⟩
    rw [e] at hbit
    obtain ⟨m', k1, k2, k3, _⟩ := (mt_bit C w p q (C 0 3) (by omega)).mp hbit
    exact ⟨m', k1, ⟨⟨k2.1, k2.2.2⟩, k3⟩, k2.2.1⟩
  · intro h p hp
    apply Nat.eq_of_testBit_eq
    intro q
    by_cases hq : q < 32
    · have iff : (s_mt C 0 p (C 0 3)).testBit q = true ↔ (s_mt C w p (C 0 3)).testBit q = true := by
        rw [mt_bit _ _ _ _ _ hq, mt_bit _ _ _ _ _ hq]
        constructor
        · rintro ⟨m, h1, h2, h3, h4⟩
          have l1 := hB m p h2.2.2
          have l2 := hB m q h3
          have : p < q ∨ q < p := by omega
          rcases this with hlt | hlt
          · obtain ⟨m', k1, k2, k3⟩ := h p q hlt l2 ((bs_ne0 _ _).mpr ⟨m, h1, ⟨h2.1, h2.2.2⟩, h3⟩)
            exact ⟨m', k1, ⟨k2.1.1, k3, k2.1.2⟩, k2.2, h4⟩
          · obtain ⟨m', k1, k2, k3⟩ := h q p hlt l1 ((bs_ne0 _ _).mpr ⟨m, h1, ⟨h2.1, h3⟩, h2.2.2⟩)
            exact ⟨m', k1, ⟨k2.1.1, k3, k2.2⟩, k2.1.2, h4⟩
        · rintro ⟨m, h1, h2, h3, h4⟩
          exact ⟨m, h1, ⟨h2.1, by rw [Nat.zero_testBit]; decide, h2.2.2⟩, h3, h4⟩
      cases hx : (s_mt C 0 p (C 0 3)).testBit q <;> cases hy : (s_mt C w p (C 0 3)).testBit q
      · rfl
      · exact absurd (iff.mpr hy) (by rw [hx]; decide)
      · exact absurd (iff.mp hx) (by rw [hy]; decide)
      · rfl
    · have hlt : ∀ w, s_mt C w p (C 0 3) < 2 ^ q := fun w => Nat.lt_of_lt_of_le (mt_lt hW w p _) (Nat.pow_le_pow_right (by omega) (by omega))
      rw [Nat.testBit_lt_two_pow (hlt 0), Nat.testBit_lt_two_pow (hlt w)]
theorem M_enough {C : CS} {MS : Nat → Nat → Int32} (hW : WFC C) (hB : WFM C) {w : Nat} (h7 : ∀ p, p < 8 → MS 7 p = nI (s_mt C 0 p (C 0 3))) (h8 : ∀ p, p < 8 → MS 8 p = nI (s_mt C w p (C 0 3))) : (s_keep C w → f_M_isEnough MS = some 1) ∧ (¬ s_keep C w → f_M_isEnough MS = some 0) := by
  have e := loop_first (body := fun q => f_M_isEnough_l2 MS q) 8 (fun p => s_mt C 0 p (C 0 3) ≠ s_mt C w p (C 0 3)) (fun _ => (0 : Int32)) (by omega)
    (fun i hi hp => by
      have l1 := mt_lt hW 0 i (C 0 3)
      have l2 := mt_lt hW w i (C 0 3)
      show f_M_isEnough_l2 MS (nI i) = _
      unfold f_M_isEnough_l2
      rw [if_neg (show ¬ (8 : Int32) ≤ nI i from nI_ge (b := 8) hi (by omega)), rdx_nI hi (by omega), rdx_nI hi (by omega), h7 i hi, h8 i hi, obs, obs, if_neg (fun h => hp ((na_eq (by omega) (by omega)).mp h)), zb_0])
    (fun i hi hp => by
      show f_M_isEnough_l2 MS (nI i) = _
      unfold f_M_isEnough_l2
      rw [if_neg (show ¬ (8 : Int32) ≤ nI i from nI_ge (b := 8) hi (by omega)), rdx_nI hi (by omega), rdx_nI hi (by omega), h7 i hi, h8 i hi, obs, obs, if_pos (by rw [Decidable.not_not.mp hp])])
    (by
      show f_M_isEnough_l2 MS (nI 8) = _
      unfold f_M_isEnough_l2
      rw [if_pos (by decide)])
  have hq := s_first_some (p := fun p => s_mt C 0 p (C 0 3) ≠ s_mt C w p (C 0 3)) 8 0
  have hk := enough_keep hW hB w
  unfold f_M_isEnough
  rw [e, obs]
  cases hf : s_first (fun p => s_mt C 0 p (C 0 3) ≠ s_mt C w p (C 0 3)) 8 0 with
  | none =>
    rw [hf] at hq
    refine ⟨fun _ => by rw [se_l, zb_1], fun hn => absurd (hk.mp (fun p hp => Decidable.byContradiction fun hne => ?_)) hn⟩
    have := hq.mpr ⟨p, by omega, by omega, hne⟩
    cases this
  | some i =>
    rw [hf] at hq
    obtain ⟨i, i0, i1, i2⟩ := hq.mp rfl
    exact ⟨fun hy => absurd (hk.mpr hy i (by omega)) i2, fun _ => by rw [se_r]⟩
/-- may these go -/
def s_mgo (C : CS) (w : Nat) : Prop := ∀ m, m < C 0 3 → w.testBit m = true → C 15 m ≠ 0 ∧ C 10 m = 0
theorem M_canMove {C : CS} {A : Nat → Nat → Int32} (hW : WFC C) (hM : RMo C A) {w : Nat} (hw : w < 2 ^ 31) : (s_mgo C w → f_M_canMove A (nI w) = some 1) ∧ (¬ s_mgo C w → f_M_canMove A (nI w) = some 0) := by
  have hN := hW.2.2.2.1
  have n3 : A 0 26 = nI (C 0 3) := hM.n (j := 3) (by omega)
  have body : ∀ m, m < C 0 3 → f_M_canMove_l2 A (nI w) (nI m) = if w.testBit m = true ∧ ¬ (C 15 m ≠ 0 ∧ C 10 m = 0) then some (.inr (.inr 0)) else some (.inl (nI m + 1)) := fun m hm => by
    have hf := hW.fixed m
    obtain ⟨a1, a2⟩ := bitq (x := w) (j := m) hw (by omega)
    unfold f_M_canMove_l2
    rw [n3, if_neg (nI_ge hm (by omega)), rdx_nI (by omega) (by omega), hM.here hm, M_isFixed hW hM hm]
    simp only [obs, ne_eq, a2, oI_z (hW.plan m)]
    by_cases c1 : w.testBit m = true
    · rw [if_neg (fun h => h c1)]
      by_cases c2 : C 15 m = 0
      · rw [if_pos c2, if_pos ⟨c1, fun h => h.1 c2⟩, zb_0]
      · rw [if_neg c2]
        by_cases c3 : C 10 m = 0
        · rw [if_pos (show nI (C 10 m) = 0 by rw [c3]; rfl), if_neg (fun h => h.2 ⟨c2, c3⟩)]
        · have c3' : C 10 m = 1 := by omega
          rw [if_neg (show ¬ nI (C 10 m) = 0 by rw [c3']; decide), if_pos ⟨c1, fun h => c3 h.2⟩, zb_0]
    · rw [if_pos c1, if_neg (fun h => c1 h.1)]
  have e := loop_first (body := fun q => f_M_canMove_l2 A (nI w) q) (C 0 3) (fun m => w.testBit m = true ∧ ¬ (C 15 m ≠ 0 ∧ C 10 m = 0)) (fun _ => (0 : Int32)) (by omega)
    (fun i hi hp => by show f_M_canMove_l2 A (nI w) (nI i) = _; rw [body i hi, if_pos hp])
    (fun i hi hp => by show f_M_canMove_l2 A (nI w) (nI i) = _; rw [body i hi, if_neg hp])
    (by
      show f_M_canMove_l2 A (nI w) (nI (C 0 3)) = _
      unfold f_M_canMove_l2
      rw [n3, if_pos (nI_le (Nat.le_refl _) (by omega))])
  have hq := s_first_some (p := fun m => w.testBit m = true ∧ ¬ (C 15 m ≠ 0 ∧ C 10 m = 0)) (C 0 3) 0
  unfold f_M_canMove
  rw [e, obs]
  cases hf : s_first (fun m => w.testBit m = true ∧ ¬ (C 15 m ≠ 0 ∧ C 10 m = 0)) (C 0 3) 0 with
  | none =>
    rw [hf] at hq
    refine ⟨fun _ => by rw [se_l, zb_1], fun hn => absurd (fun m hm hb => Decidable.byContradiction fun hne => ?_) hn⟩
    have := hq.mpr ⟨m, by omega, by omega, hb, hne⟩
    cases this
  | some i =>
    rw [hf] at hq
    obtain ⟨i, i0, i1, i2⟩ := hq.mp rfl
    exact ⟨fun hy => absurd (hy i (by omega) i2.1) i2.2, fun _ => by rw [se_r]⟩
