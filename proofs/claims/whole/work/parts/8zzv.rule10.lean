/-! PURE MATH: a rule is read, the two -/
theorem grp_ok {b : Nat → Nat} {n : Nat} {A : Nat → Nat → Int32} (hX : TXt b n A) (hn : n ≤ 150) : ∀ d o, o + d = 6 → GD b n A 3 3 (24 - 3 * o) o false ∧ GD b n A 2 2 (26 - 3 * o) o true ∧ GD b n A 0 0 (28 - 3 * o) o true := by
  have up : ∀ o, o ≤ 6 → (o < 6 → GD b n A 3 3 (21 - 3 * o) (o + 1) false) → (o < 6 → GD b n A 2 2 (23 - 3 * o) (o + 1) true) → (o < 6 → GD b n A 0 0 (25 - 3 * o) (o + 1) true) → GD b n A 3 3 (24 - 3 * o) o false ∧ GD b n A 2 2 (26 - 3 * o) o true ∧ GD b n A 0 0 (28 - 3 * o) o true := fun o ho h3 h2 h0 => by
    have s := sum_ok hX hn ho (product_ok hX hn ho (unit_ok hX hn ho h3))
    have e := one_ok hX hn ho s h2 h0
    exact ⟨s, e, any_ok hX hn ho (all_ok hX hn ho e)⟩
  intro d
  induction d with
  | zero => intro o ho; exact up o (by omega) (fun h => by omega) (fun h => by omega) (fun h => by omega)
  | succ d ih =>
    intro o ho
    obtain ⟨i3, i2, i0⟩ := ih (o + 1) (by omega)
    rw [show 24 - 3 * (o + 1) = 21 - 3 * o from by omega] at i3
    rw [show 26 - 3 * (o + 1) = 23 - 3 * o from by omega] at i2
    rw [show 28 - 3 * (o + 1) = 25 - 3 * o from by omega] at i0
    exact up o (by omega) (fun _ => i3) (fun _ => i2) (fun _ => i0)
theorem rule_both {b : Nat → Nat} {n w : Nat} {A T M : Nat → Nat → Int32} (RV : Nat → Nat → Int32) (hX : TXt b n A) (hn : n ≤ 150) (h : OSt b n 0 T w M) (h7 : M 0 7 = 0) :
    ∃ T' U' w' M1 x M', f_Rule_read T RV w = some (T', U', w') ∧ f_grp_mr 40 0 A (u2 M 0 39 0) = some M1 ∧ f_M_fine M1 = some x ∧
      ((if x = 0 then some M1 else (f_M_isMore A M1).bind fun c9 => if c9.1 = 0 then some c9.2 else (f_M_wrong c9.2 1 (c9.2 0 4)).bind fun MN_10 => some MN_10 : Option (Nat → Nat → Int32)) = some M') ∧
      ((∃ c E, c ≤ 150 ∧ T' 0 8 = 0 ∧ T' 0 9 = -1 ∧ M' 0 5 = -1 ∧ CDE E c [true] U' M') ∨ FSt n T' M') := by
  have h0 : ROK b n 0 0 0 [] T (u2 RV 0 1 0) w (u2 M 0 39 0) := ⟨h.cg (fun x hx => by rw [u2_col _ _ (by omega)]), by rw [u2_col _ _ (by decide), h7]; rfl, Nat.le_refl _, fun _ _ => 0, u2_same _ _ _ _, u2_same _ _ _ _, fun k hk => by omega, rfl⟩
  obtain ⟨T1, U1, w1, M1, a1, a2, a3⟩ := (grp_ok hX hn 6 0 rfl).2.2 40 40 (by omega) (by omega) 0 0 [] T _ w _ h0
  have a1 : f_grp_cr 40 0 T (u2 RV 0 1 0) w 0 = some (T1, U1, w1) := a1
  have ef : f_Rule_forget RV = some (u2 RV 0 1 0) := rfl
  unfold f_Rule_read
  rw [ef, obs, a1, obs]
  dsimp only
  rcases a3 with ⟨p, c, hp, hc, e1, e7, ecp, E, eE⟩ | hbad
  · obtain ⟨m1, m2⟩ := more_both (A := A) hX e1
    have hp' := e1.1
    obtain ⟨s1, s2⟩ := sp_le (b := b) hp'
    rw [m1, obs]
    by_cases cm : k_sp b n p < n
    · obtain ⟨T2, M2, f1, f2, f3, f4, f5, f6⟩ := fail_bothQ e1 1 (by omega) (by omega) (MNr.at M1 (nI (k_sp b n p))) (by rw [u2_col _ _ (by decide), e1.2.2.2.1])
      have f1 : f_Tape_fail T1 1 = some T2 := f1
      have f2 : f_M_wrong (u2 M1 0 4 (nI (k_sp b n p))) 1 (nI (k_sp b n p)) = some M2 := f2
      rw [if_pos cm, if_neg (show ¬ (0 : Int32) ≠ 0 from fun g => g rfl), f1, obs]
      refine ⟨T2, U1, w1, M1, 1, M2, rfl, a2, e1.f.2, ?_, Or.inr f3⟩
      rw [if_neg (show ¬ (1 : Int32) = 0 by decide), m2, obs, if_pos cm]
      dsimp only
      rw [if_neg (show ¬ (1 : Int32) = 0 by decide), u2_same, f2, obs]
    · rw [if_neg cm, if_pos (show (1 : Int32) ≠ 0 by decide)]
      refine ⟨T1, U1, w1, M1, 1, _, rfl, a2, e1.f.2, ?_, Or.inl ⟨c, E, by omega, e1.2.2.2.2.2.1, e1.2.2.2.2.2.2.1, ?_, eE.m0 (x := 4) (by decide) (nI (k_sp b n p))⟩⟩
      · rw [if_neg (show ¬ (1 : Int32) = 0 by decide), m2, obs, if_neg cm]
        dsimp only
        rw [if_pos (show (0 : Int32) = 0 from rfl)]
      · rw [u2_col _ _ (by decide), e1.2.2.2.1]
  · have ea : ∃ v, f_Tape_atEnd T1 = some v := by
      unfold f_Tape_atEnd
      by_cases c : T1 0 3 ≠ 0
      · rw [if_pos c]; exact ⟨_, rfl⟩
      · rw [if_neg c]; exact ⟨_, rfl⟩
    obtain ⟨v, hv⟩ := ea
    have efl : f_Tape_fail T1 1 = some T1 := by
      obtain ⟨⟨k, pl, g1, g2, g3, g4, g5, g6, g7⟩, _⟩ := hbad
      unfold f_Tape_fail
      rw [if_pos (by rw [g4]; exact nI_ne0 (by omega) (by omega))]
    rw [hv, obs, efl, obs, ite_self]
    exact ⟨T1, U1, w1, M1, 0, M1, rfl, a2, (hbad.f (by omega)).2, if_pos rfl, Or.inr hbad.1⟩
def ruC (C : CS) (c : Nat) (E : CS) : CS := fun a b => if a = 0 ∧ b = 8 then c else if a = 20 then E 20 b else if a = 21 then E 21 b else C a b
theorem ru_t (C : CS) (c : Nat) (E : CS) : EQT C (ruC C c E) := fun a b _ h20 h21 h => by
  unfold ruC
  rw [if_neg (fun g => h ⟨g.1, Or.inl g.2⟩), if_neg h20, if_neg h21]
theorem ru_0 (C : CS) (c : Nat) (E : CS) {b : Nat} (hb : b ≠ 8) : ruC C c E 0 b = C 0 b := by
  unfold ruC
  rw [if_neg (fun h => hb h.2)]
  rfl
theorem RM_ru {C E : CS} {c : Nat} {A A' : Nat → Nat → Int32} (hM : RMo C A) (h40 : A' 0 40 = nI c) (h10 : ∀ k, k < c → A' 10 k = nI (E 20 k) ∧ A' 11 k = nI (E 21 k)) (ho : ∀ a b, a ≠ 10 → a ≠ 11 → ¬ (a = 0 ∧ b = 40) → A' a b = A a b) : RMo (ruC C c E) A' := by
  intro a b hd
  by_cases e10 : a = 10
  · subst e10
    exact (h10 b hd).1
  · by_cases e11 : a = 11
    · subst e11
      exact (h10 b hd).2
    · by_cases e40 : a = 0 ∧ b = 40
      · obtain ⟨rfl, rfl⟩ := e40
        exact h40
      · rw [ho a b e10 e11 e40]
        by_cases e2 : a = 2
        · subst e2
          exact hM 2 b hd
        · by_cases e02 : a = 0 ∧ b = 2
          · obtain ⟨rfl, rfl⟩ := e02
            exact hM 0 2 hd
          · by_cases e08 : a = 0 ∧ b = 8
            · obtain ⟨rfl, rfl⟩ := e08
              exact hM 0 8 hd
            · obtain ⟨d1, d2⟩ := mV_t (ru_t C c E) e2 e10 e11 (fun g => g.2.elim (fun e => e02 ⟨g.1, e⟩) (fun e => e.elim (fun e => e08 ⟨g.1, e⟩) (fun e => e40 ⟨g.1, e⟩))) hd
              rw [← d2]
              exact hM a b d1
theorem WFC_ru {C : CS} (hW : WFC C) {c : Nat} (E : CS) (hc : c ≤ 150) : WFC (ruC C c E) := by
  have h9 : C 0 9 ≤ 600 := by obtain ⟨_, _, _, _, _, _, _, _, _, h, _⟩ := hW; exact h
  have h12 : C 0 12 ≤ 601 := by obtain ⟨_, _, _, _, _, _, _, _, _, _, h, _⟩ := hW; exact h
  exact WFC_t (ru_t C c E) hW (show c ≤ 150 from hc) (by rw [ru_0 C c E (by decide)]; exact h9) (by rw [ru_0 C c E (by decide)]; exact h12) (fun k => hW.c9.2 k)
