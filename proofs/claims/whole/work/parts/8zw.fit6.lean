/-! PURE MATH: the two searches, set by set -/
theorem sub_mask {p : Nat → Prop} [DecidablePred p] {w n : Nat} (hn : n ≤ 10) (hw : w < 2 ^ n) : (nI w &&& (nI (bs p n) ^^^ (-1))) = 0 ↔ ∀ x, w.testBit x = true → p x := by
  have hpow : 2 ^ n ≤ 1024 := Nat.le_trans (Nat.pow_le_pow_right (by omega) hn) (by decide : 2 ^ 10 ≤ 1024)
  rw [na_not, na_and]
  have hle : w &&& (bs p n ^^^ 4294967295) ≤ w := Nat.and_le_left
  refine (na_eq (b := 0) (by omega) (by omega)).trans ?_
  constructor
  · intro h0 x hx
    have hbit := congrArg (fun y => y.testBit x) h0
    have hxn := bit_lt hw hx
    have h32 : x < 32 := by omega
    simp only [Nat.testBit_and, Nat.testBit_xor, ones_bit, Nat.zero_testBit, hx, Bool.true_and, bs_bit] at hbit
    by_cases h : p x
    · exact h
    · exfalso
      rw [decide_eq_false (fun g => h g.2)] at hbit
      simp [h32] at hbit
  · intro hg
    apply Nat.eq_of_testBit_eq
    intro i
    rw [Nat.testBit_and, Nat.testBit_xor, ones_bit, Nat.zero_testBit]
    by_cases hb : w.testBit i = true
    · have hi := bit_lt hw hb
      have h32 : i < 32 := by omega
      have : (bs p n).testBit i = true := by
        rw [bs_bit, decide_eq_true_eq]
        exact ⟨hi, hg i hb⟩
      rw [this, hb]
      simp [h32]
    · rw [Bool.not_eq_true] at hb; rw [hb]; rfl
theorem aw_ne {C : CS} {j w x : Nat} : s_aw C j w x ≠ 0 ↔ ((C 15 x ≠ 0 ∧ ¬ w.testBit x = true) ∧ ¬ (2 ^ j).testBit x = true) := by
  unfold s_aw
  rw [Nat.testBit_two_pow, decide_eq_true_eq]
  constructor
  · intro h
    by_cases hc : x = j ∨ w.testBit x = true
    · rw [if_pos hc] at h; exact absurd rfl h
    · rw [if_neg hc] at h
      exact ⟨⟨h, fun h2 => hc (Or.inr h2)⟩, fun h2 => hc (Or.inl h2.symm)⟩
  · rintro ⟨⟨h1, h2⟩, h3⟩
    rw [if_neg (fun h => h.elim (fun e => h3 e.symm) h2)]
    exact h1
theorem aw_eq {C : CS} {j w x : Nat} (h : s_aw C j w x ≠ 0) : s_aw C j w x = C 15 x := by
  unfold s_aw at h ⊢
  by_cases hc : x = j ∨ w.testBit x = true
  · rw [if_pos hc] at h; exact absurd rfl h
  · rw [if_neg hc]
/-- those that stay, as bits -/
theorem rest_bits {C : CS} {j w n : Nat} (hn : n ≤ 10) (hj : j < 10) (hw : w < 2 ^ 31) : ((nI (bs (fun m => C 15 m ≠ 0) n) &&& (nI w ^^^ (-1))) &&& (a_shl 1 (nI j) ^^^ (-1))) = nI (bs (fun x => s_aw C j w x ≠ 0) n) := by
  rw [na_not, na_and, bs_diff _ (by omega), shl_1 _ (by omega), na_not, na_and, bs_diff _ (by omega)]
  exact congrArg nI (bs_congr (fun x _ => aw_ne.symm))
/-- all that stay are lawful: the class's way -/
theorem rest_law {C : CS} {j w : Nat} : bs (s_bad C (s_aw C j w)) (C 0 3) = 0 ↔ ((∀ x, x < C 0 3 → ¬ (s_stk C x ∧ s_aw C j w x ≠ 0)) ∧ ∀ x, x < C 0 3 → ¬ (s_aw C j w x ≠ 0 ∧ bs (fun o => (C 15 x ≠ 0 ∧ s_way C (C 15) x (C 15 x - 1) o) ∧ s_aw C j w o ≠ 0) (C 0 3) ≠ 0)) := by
  have e0 : ∀ (p : Nat → Prop) [DecidablePred p] n, bs p n = 0 ↔ ∀ x, x < n → ¬ p x := fun p _ n => by
    constructor
    · intro h x hx hp
      exact (bs_ne0 p n).mpr ⟨x, hx, hp⟩ h
    · intro h
      exact Classical.byContradiction (fun h2 => by
        obtain ⟨x, hx, hp⟩ := (bs_ne0 p n).mp h2
        exact h x hx hp)
  rw [e0]
  have ew : ∀ x o, s_aw C j w x ≠ 0 → (s_way C (s_aw C j w) x (s_aw C j w x - 1) o ↔ (C 15 x ≠ 0 ∧ s_way C (C 15) x (C 15 x - 1) o) ∧ s_aw C j w o ≠ 0) := fun x o hx => by
    have h1 := aw_eq hx
    rw [h1]
    rw [h1] at hx
    by_cases ho : s_aw C j w o ≠ 0
    · have h2 := aw_eq ho
      unfold s_way s_wP s_wR
      rw [h2]
      exact ⟨fun h => ⟨⟨hx, h⟩, by rw [← h2]; exact ho⟩, fun h => h.1.2⟩
    · have ho' : s_aw C j w o = 0 := Decidable.not_not.mp ho
      constructor
      · rintro (h | h)
        · exact absurd ho' h.2.1
        · have := h.2; omega
      · exact fun h => absurd h.2 ho
  constructor
  · intro h
    refine ⟨fun x hx hs => ?_, fun x hx hs => ?_⟩
    · have hb := h x hx
      have h1 := aw_eq hs.2
      apply hb
      refine ⟨hs.2, fun hc => ?_⟩
      rw [clash_0w, h1] at hc
      rcases hs.1.2 with k | k
      · exact hc.1.2 k
      · exact k hc.1.1
    · have hb := h x hx
      obtain ⟨o, ho, hw⟩ := (bs_ne0 _ _).mp hs.2
      apply hb
      refine ⟨hs.1, fun hc => ?_⟩
      rw [clash_0w] at hc
      exact hc.2 o ho ((ew x o hs.1).mpr hw)
  · rintro ⟨h1, h2⟩ x hx ⟨b1, b2⟩
    apply b2
    rw [clash_0w]
    have e1 := aw_eq b1
    have k1 := h1 x hx
    have k2 := h2 x hx
    have hx0 : C 15 x ≠ 0 := by rw [← e1]; exact b1
    refine ⟨⟨?_, ?_⟩, fun o ho hw => ?_⟩
    · rw [e1]
      exact Classical.byContradiction (fun h => k1 ⟨⟨hx0, Or.inr h⟩, b1⟩)
    · rw [e1]
      exact fun h => k1 ⟨⟨hx0, Or.inl h⟩, b1⟩
    · exact k2 ⟨b1, (bs_ne0 _ _).mpr ⟨o, ho, (ew x o b1).mp hw⟩⟩
theorem Y_restLaw {C : CS} {H F : Nat → Nat → Int32} (hW : WFC C) (hH : RH C H) (hF : FB C F) {j w : Nat} : f_Fitter_restIsLawful H F (nI (bs (fun x => s_aw C j w x ≠ 0) (C 0 3))) = some (if bs (s_bad C (s_aw C j w)) (C 0 3) = 0 then 1 else 0) := by
  have hN := hW.2.2.2.1
  have h03 : H 0 3 = nI (C 0 3) := hH 0 3 (show 3 < 6 by omega)
  have hl : bs (fun x => s_aw C j w x ≠ 0) (C 0 3) < 1024 := bs_lt10 _ hN
  have hl2 : bs (fun m => s_stk C m ∧ s_aw C j w m ≠ 0) (C 0 3) < 1024 := bs_lt10 _ hN
  unfold f_Fitter_restIsLawful
  rw [hF.2.2, na_and, bs_and]
  have e0 : (nI (bs (fun m => s_stk C m ∧ s_aw C j w m ≠ 0) (C 0 3)) = 0) = (bs (fun m => s_stk C m ∧ s_aw C j w m ≠ 0) (C 0 3) = 0) := nI_eqP (b := 0) (by omega) (by omega)
  simp only [e0]
  have body : ∀ i, i < C 0 3 → f_Fitter_restIsLawful_l13 H F (nI (bs (fun x => s_aw C j w x ≠ 0) (C 0 3))) (nI i) = if s_aw C j w i ≠ 0 ∧ bs (fun o => (C 15 i ≠ 0 ∧ s_way C (C 15) i (C 15 i - 1) o) ∧ s_aw C j w o ≠ 0) (C 0 3) ≠ 0 then some (.inr (.inr 0)) else some (.inl (nI i + 1)) := fun i hi => by
    obtain ⟨q1, q2⟩ := bitq (x := bs (fun x => s_aw C j w x ≠ 0) (C 0 3)) (j := i) (by omega) (by omega)
    have hl3 : bs (fun o => (C 15 i ≠ 0 ∧ s_way C (C 15) i (C 15 i - 1) o) ∧ s_aw C j w o ≠ 0) (C 0 3) < 1024 := bs_lt10 _ hN
    have e1 : (nI (bs (fun o => (C 15 i ≠ 0 ∧ s_way C (C 15) i (C 15 i - 1) o) ∧ s_aw C j w o ≠ 0) (C 0 3)) = 0) = (bs (fun o => (C 15 i ≠ 0 ∧ s_way C (C 15) i (C 15 i - 1) o) ∧ s_aw C j w o ≠ 0) (C 0 3) = 0) := nI_eqP (b := 0) (by omega) (by omega)
    unfold f_Fitter_restIsLawful_l13
    rw [h03, if_neg (nI_ge hi (by omega)), rdx_nI (by omega) (by omega), hF.2.1 i hi, obs, na_and, bs_and]
    simp only [q1, e1, bs_bit, decide_eq_true_eq, hi, true_and, ne_eq, Decidable.not_not]
    by_cases c1 : s_aw C j w i = 0
    · rw [if_pos c1, if_neg (fun h => h.1 c1)]
    · rw [if_neg c1]
      by_cases c2 : bs (fun o => (¬ C 15 i = 0 ∧ s_way C (C 15) i (C 15 i - 1) o) ∧ ¬ s_aw C j w o = 0) (C 0 3) = 0
      · rw [if_pos c2, if_neg (fun h => h.2 c2)]
      · rw [if_neg c2, if_pos ⟨c1, c2⟩, zb_0]
  by_cases h1 : bs (fun m => s_stk C m ∧ s_aw C j w m ≠ 0) (C 0 3) = 0
  · rw [if_pos h1]
    have e := loop_first (body := fun q => f_Fitter_restIsLawful_l13 H F (nI (bs (fun x => s_aw C j w x ≠ 0) (C 0 3))) q) (C 0 3) (fun i => s_aw C j w i ≠ 0 ∧ bs (fun o => (C 15 i ≠ 0 ∧ s_way C (C 15) i (C 15 i - 1) o) ∧ s_aw C j w o ≠ 0) (C 0 3) ≠ 0) (fun _ => (0 : Int32)) (by omega)
      (fun i hi hp => by
        show f_Fitter_restIsLawful_l13 H F _ (nI i) = _
        rw [body i hi, if_pos hp])
      (fun i hi hp => by
        show f_Fitter_restIsLawful_l13 H F _ (nI i) = _
        rw [body i hi, if_neg hp])
      (by
        show f_Fitter_restIsLawful_l13 H F _ (nI (C 0 3)) = _
        unfold f_Fitter_restIsLawful_l13
        rw [h03, if_pos (nI_le (Nat.le_refl _) (by omega))])
    rw [e, obs]
    have hsome := s_first_some (p := fun i => s_aw C j w i ≠ 0 ∧ bs (fun o => (C 15 i ≠ 0 ∧ s_way C (C 15) i (C 15 i - 1) o) ∧ s_aw C j w o ≠ 0) (C 0 3) ≠ 0) (C 0 3) 0
    have hst : ∀ x, x < C 0 3 → ¬ (s_stk C x ∧ s_aw C j w x ≠ 0) := fun x hx hp => (bs_ne0 (fun m => s_stk C m ∧ s_aw C j w m ≠ 0) _).mpr ⟨x, hx, hp⟩ h1
    cases hs : s_first (fun i => s_aw C j w i ≠ 0 ∧ bs (fun o => (C 15 i ≠ 0 ∧ s_way C (C 15) i (C 15 i - 1) o) ∧ s_aw C j w o ≠ 0) (C 0 3) ≠ 0) (C 0 3) 0 with
    | none =>
      rw [hs] at hsome
      have hno : ¬ ∃ k, 0 ≤ k ∧ k < 0 + C 0 3 ∧ _ := fun h => by have := hsome.mpr h; cases this
      rw [if_pos (rest_law.mpr ⟨hst, fun x hx hp => hno ⟨x, Nat.zero_le _, by omega, hp⟩⟩)]
      show some (zb 1) = _
      rw [zb_1]
    | some i =>
      rw [hs] at hsome
      obtain ⟨k, _, k2, k3⟩ := hsome.mp rfl
      rw [if_neg (fun h => (rest_law.mp h).2 k (by omega) k3)]
      rfl
  · rw [if_neg h1, zb_0]
    obtain ⟨x, hx, hp⟩ := (bs_ne0 _ _).mp h1
    rw [if_neg (fun h => (rest_law.mp h).1 x hx hp)]
theorem Y_rubs {C : CS} {H B F : Nat → Nat → Int32} {tm : Nat → Nat} (hW : WFC C) (hP : WFP C) (hH : RH C H) (hB : RB C (C 15) tm B) (h1 : ∀ x, x < C 0 3 → F 1 x = oI (C 15 x)) :
    ∃ F', f_Fitter_collectRubs H B F = some F' ∧ FB C F' ∧ ∀ a b, a ≠ 3 → ¬ (a = 0 ∧ b = 4) → F' a b = F a b := by
  have hN := hW.2.2.2.1
  have h03 : H 0 3 = nI (C 0 3) := hH 0 3 (show 3 < 6 by omega)
  have z10 : ((1 : Int32) = 0) = False := by simp
  unfold f_Fitter_collectRubs
  have e := loop_rel (body := fun q : Int32 × (Nat → Nat → Int32) => f_Fitter_collectRubs_l7 H B q.1 q.2) (C 0 3)
    (fun i s => s.1 = nI i ∧ (∀ x, x < i → s.2 3 x = nI (bs (fun o => C 15 x ≠ 0 ∧ s_way C (C 15) x (C 15 x - 1) o) (C 0 3))) ∧ s.2 0 4 = nI (bs (s_stk C) i) ∧ ∀ a b, a ≠ 3 → ¬ (a = 0 ∧ b = 4) → s.2 a b = F a b)
    (fun F' => (∀ x, x < C 0 3 → F' 3 x = nI (bs (fun o => C 15 x ≠ 0 ∧ s_way C (C 15) x (C 15 x - 1) o) (C 0 3))) ∧ F' 0 4 = nI (bs (s_stk C) (C 0 3)) ∧ ∀ a b, a ≠ 3 → ¬ (a = 0 ∧ b = 4) → F' a b = F a b) (by omega)
    (fun i s hi hs => by
      obtain ⟨v, G⟩ := s
      obtain ⟨s1, s2, s3, s4⟩ := hs
      have s1 : v = nI i := s1
      subst s1
      have s2' : ∀ x, x < i → G 3 x = nI (bs (fun o => C 15 x ≠ 0 ∧ s_way C (C 15) x (C 15 x - 1) o) (C 0 3)) := s2
      have s3' : G 0 4 = nI (bs (s_stk C) i) := s3
      have s4' : ∀ a b, a ≠ 3 → ¬ (a = 0 ∧ b = 4) → G a b = F a b := s4
      have hp := hW.plan i
      show ∃ s', f_Fitter_collectRubs_l7 H B (nI i) G = _ ∧ _
      unfold f_Fitter_collectRubs_l7
      rw [h03, if_neg (nI_ge hi (by omega)), rdx_nI (by omega) (by omega), hB.1 i hi, obs, ixx_nI (by omega) (by omega), obs]
      simp only [oI_z hp]
      by_cases c0 : C 15 i = 0
      · rw [if_pos c0, ← nI_succ]
        refine ⟨_, rfl, rfl, fun x hx => ?_, ?_, fun a b ha hab => ?_⟩
        · show u2 G 3 i 0 3 x = _
          by_cases hxi : x = i
          · subst hxi
            rw [u2_same, (Classical.byContradiction (fun h => by
              obtain ⟨o, _, ho⟩ := (bs_ne0 (fun o => C 15 x ≠ 0 ∧ s_way C (C 15) x (C 15 x - 1) o) (C 0 3)).mp h
              exact ho.1 c0) : bs (fun o => C 15 x ≠ 0 ∧ s_way C (C 15) x (C 15 x - 1) o) (C 0 3) = 0)]
            rfl
          · rw [u2_col _ _ hxi, s2' x (by omega)]
        · show u2 G 3 i 0 0 4 = _
          rw [u2_row _ _ (by decide), s3', bs_miss (p := s_stk C) (fun h => h.1 c0)]
        · show u2 G 3 i 0 a b = _
          rw [u2_row _ _ ha, s4' a b ha hab]
      · obtain ⟨k, hk⟩ : ∃ k, C 15 i = k + 1 := ⟨C 15 i - 1, by omega⟩
        have hk30 : k < 30 := by omega
        have hkr : k % 3 < C 0 1 := by
          have := ((hP.1 i hi).2 c0).1
          rw [hk] at this
          exact this
        have hoi : oI (C 15 i) = nI k := by rw [hk, oI_s]
        have hlast := s_last_lt C i k
        have el : (nI (s_last C i k) = 0) = (s_last C i k = 0) := nI_eqP (b := 0) (by omega) (by omega)
        rw [if_neg c0, hoi, Y_inWay hW hH hB hW.plan hi hk30, obs, obs, Y_isHeldPlace hW hB hk30, obs, Y_lasting hW hH hi hk30 hkr, obs]
        simp only [el]
        have hx3 : ∀ (v : Int32) x, x < i + 1 → u2 (u2 G 3 i 0) 3 i (nI (bs (s_way C (C 15) i k) (C 0 3))) 3 x = nI (bs (fun o => C 15 x ≠ 0 ∧ s_way C (C 15) x (C 15 x - 1) o) (C 0 3)) := fun v x hx => by
          by_cases hxi : x = i
          · subst hxi
            rw [u2_same]
            refine congrArg nI (bs_congr (fun o _ => ?_))
            rw [hk]
            exact ⟨fun h => ⟨by omega, h⟩, fun h => h.2⟩
          · rw [u2_col _ _ hxi, u2_col _ _ hxi, s2' x (by omega)]
        have hx0 : ∀ a b, a ≠ 3 → u2 (u2 G 3 i 0) 3 i (nI (bs (s_way C (C 15) i k) (C 0 3))) a b = G a b := fun a b ha => by rw [u2_row _ _ ha, u2_row _ _ ha]
        by_cases cs : s_stk C i
        · have ev : (if (if (s_held C (k % 3) (C 0 4)).testBit (k / 3) = true then (1 : Int32) else 0) ≠ 0 then some (.inl ()) else if s_last C i k = 0 then some (.inr (.inl (nI i + 1, u2 (u2 G 3 i 0) 3 i (nI (bs (s_way C (C 15) i k) (C 0 3)))))) else some (.inl ()) : Option (Unit ⊕ ((Int32 × (Nat → Nat → Int32)) ⊕ (Nat → Nat → Int32)))) = some (.inl ()) := by
            have cs2 : (s_held C (k % 3) (C 0 4)).testBit (k / 3) = true ∨ s_last C i k ≠ 0 := by
              have := cs.2
              rw [hk] at this
              exact this
            by_cases c1 : (s_held C (k % 3) (C 0 4)).testBit (k / 3) = true
            · rw [if_pos c1, if_pos (by decide)]
            · rw [if_neg c1, if_neg (fun h => h rfl), if_neg (fun h => cs2.elim c1 (fun h2 => h2 h))]
          rw [ev, obs, se_l, ← nI_succ]
          refine ⟨_, rfl, rfl, fun x hx => ?_, ?_, fun a b ha hab => ?_⟩
          · show u2 (u2 (u2 G 3 i 0) 3 i (nI (bs (s_way C (C 15) i k) (C 0 3)))) 0 4 ((u2 (u2 G 3 i 0) 3 i (nI (bs (s_way C (C 15) i k) (C 0 3)))) 0 4 ||| a_shl 1 (nI i)) 3 x = _
            rw [u2_row _ _ (by decide), hx3 0 x hx]
          · show u2 (u2 (u2 G 3 i 0) 3 i (nI (bs (s_way C (C 15) i k) (C 0 3)))) 0 4 ((u2 (u2 G 3 i 0) 3 i (nI (bs (s_way C (C 15) i k) (C 0 3)))) 0 4 ||| a_shl 1 (nI i)) 0 4 = _
            rw [u2_same, hx0 0 4 (by decide), s3', shl_1 _ (by omega), na_or, bs_hit (p := s_stk C) cs]
          · show u2 (u2 (u2 G 3 i 0) 3 i (nI (bs (s_way C (C 15) i k) (C 0 3)))) 0 4 ((u2 (u2 G 3 i 0) 3 i (nI (bs (s_way C (C 15) i k) (C 0 3)))) 0 4 ||| a_shl 1 (nI i)) a b = _
            rw [u2_eq, if_neg hab, hx0 a b ha, s4' a b ha hab]
        · have ev : (if (if (s_held C (k % 3) (C 0 4)).testBit (k / 3) = true then (1 : Int32) else 0) ≠ 0 then some (.inl ()) else if s_last C i k = 0 then some (.inr (.inl (nI i + 1, u2 (u2 G 3 i 0) 3 i (nI (bs (s_way C (C 15) i k) (C 0 3)))))) else some (.inl ()) : Option (Unit ⊕ ((Int32 × (Nat → Nat → Int32)) ⊕ (Nat → Nat → Int32)))) = some (.inr (.inl (nI i + 1, u2 (u2 G 3 i 0) 3 i (nI (bs (s_way C (C 15) i k) (C 0 3)))))) := by
            by_cases c1 : (s_held C (k % 3) (C 0 4)).testBit (k / 3) = true
            · exact absurd ⟨c0, Or.inl (by rw [hk]; exact c1)⟩ cs
            · rw [if_neg c1, if_neg (fun h => h rfl)]
              by_cases c2 : s_last C i k = 0
              · rw [if_pos c2]
              · exact absurd ⟨c0, Or.inr (by rw [hk]; exact c2)⟩ cs
          rw [ev, obs, se_r, ← nI_succ]
          refine ⟨_, rfl, rfl, fun x hx => hx3 0 x hx, ?_, fun a b ha hab => ?_⟩
          · show u2 (u2 G 3 i 0) 3 i (nI (bs (s_way C (C 15) i k) (C 0 3))) 0 4 = _
            rw [hx0 0 4 (by decide), s3', bs_miss (p := s_stk C) cs]
          · show u2 (u2 G 3 i 0) 3 i (nI (bs (s_way C (C 15) i k) (C 0 3))) a b = _
            rw [hx0 a b ha, s4' a b ha hab])
    (fun s hs => by
      obtain ⟨v, G⟩ := s
      obtain ⟨s1, s2, s3, s4⟩ := hs
      have s1 : v = nI (C 0 3) := s1
      subst s1
      show ∃ b, f_Fitter_collectRubs_l7 H B (nI (C 0 3)) G = _ ∧ _
      unfold f_Fitter_collectRubs_l7
      rw [h03, if_pos (nI_le (Nat.le_refl _) (by omega))]
      exact ⟨_, rfl, s2, s3, s4⟩)
    (0, u2 F 0 4 0) ⟨rfl, fun x hx => by omega, u2_same F 0 4 0, fun a b ha hab => by
      show u2 F 0 4 0 a b = _
      rw [u2_eq, if_neg hab]⟩
  obtain ⟨F', e1, e2, e3, e4⟩ := e
  rw [e1, obs]
  exact ⟨F', rfl, ⟨fun x hx => by rw [e4 1 x (by decide) (by omega), h1 x hx], e2, e3⟩, e4⟩
