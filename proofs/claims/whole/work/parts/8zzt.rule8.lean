/-! PURE MATH: a rule is read: a comparison -/
theorem RBD.m4 {n q : Nat} {T U M : Nat → Nat → Int32} (h : RBD n T U M) (hq : q ≤ n) : RBD n T U (u2 M 0 4 (nI q)) := by
  obtain ⟨⟨k, pl, h1, h2, h3, h4, h5, h6, h7⟩, g2, _, g4⟩ := h
  exact ⟨⟨k, pl, h1, h2, h3, h4, h5, by rw [u2_col _ _ (by decide), h6], by rw [u2_col _ _ (by decide), h7]⟩, by rw [u2_col _ _ (by decide), g2], ⟨q, hq, u2_same _ _ _ _⟩, g4⟩
theorem RES.up {b : Nat → Nat} {n p p1 o c c1 w : Nat} {st : List Bool} {T U M : Nat → Nat → Int32} (hp : p < p1) (hc : c1 + p ≤ c + p1) (h : RES b n p1 o c1 st T U w M) : RES b n p o c st T U w M := by
  rcases h with ⟨p2, c2, h1, h2, h3⟩ | h
  · exact Or.inl ⟨p2, c2, by omega, by omega, h3⟩
  · exact Or.inr h
theorem wrong_bad {M : Nat → Nat → Int32} {n : Nat} {T : Nat → Nat → Int32} (hn : n ≤ 600) (h : FSt n T M) (a b : Int32) : f_M_wrong M a b = some M := by
  obtain ⟨k, pl, h1, h2, h3, h4, h5, h6, h7⟩ := h
  unfold f_M_wrong
  rw [h6, if_neg (na_ne1 (by omega))]
/-- the reference's own comparison -/
def cmpM (MA : Nat → Nat → Int32) (rc : Nat → (Nat → Nat → Int32) → (Nat → Nat → Int32) → Option (Nat → Nat → Int32)) (M : Nat → Nat → Int32) : Option (Nat → Nat → Int32) :=
  (rc 3 MA M).bind fun MN_7 =>
  (f_M_here MA MN_7).bind fun c6 =>
  (((if c6.1 = 60 then some c6.2 else if c6.1 = 62 then some c6.2 else if c6.1 = 61 then some c6.2 else
    (f_M_wrong c6.2 1 (c6.2 0 4)).bind fun MN_10 => some MN_10) : Option (Nat → Nat → Int32))).bind fun MN_11 =>
  (f_M_fine MN_11).bind fun x12 =>
  if x12 ≠ 0 then
    (rc 3 MA (u2 MN_11 0 4 ((MN_11 0 4) + 1))).bind fun MN_13 =>
    (((if c6.1 ≠ 60 then if c6.1 ≠ 62 then some 7 else some 6 else some 5) : Option Int32)).bind fun v14 =>
    (f_M_emit MN_13 v14 0).bind fun MN_15 => some MN_15
  else some MN_11
theorem cmp_ok {b : Nat → Nat} {n o : Nat} {A : Nat → Nat → Int32} (hX : TXt b n A) (hn : n ≤ 150) (hG : GD b n A 3 3 (24 - 3 * o) o false) {k1 m2 : Nat} (hk1 : 24 - 3 * o ≤ k1) (hm2 : 24 - 3 * o ≤ m2) {p c w : Nat} {st : List Bool} {T U M : Nat → Nat → Int32} (h : ROK b n p o c st T U w M) : ∃ T' U' w' M', f_Rule_readComparison_B (f_grp_cr k1) T U w (nI o) = some (T', U', w') ∧ cmpM A (f_grp_mr m2) M = some M' ∧ RES b n p o c (true :: st) T' U' w' M' := by
  obtain ⟨T1, U1, w1, M1, a1, a2, a3⟩ := hG k1 m2 hk1 hm2 p c st T U w M h
  unfold f_Rule_readComparison_B cmpM
  rw [a1, a2, obs, obs]
  dsimp only
  rcases a3 with ⟨p1, c1, hp1, hc1, h, h7, hcp, E, hE⟩ | hbad
  · have hp := h.1
    have hs := h.s
    obtain ⟨s1, s2⟩ := sp_le (b := b) hp
    obtain ⟨q60, r60⟩ := atSign_is (c := 60) hX.1 h (by omega) (by omega) (by omega) (by omega)
    have q60 : f_Tape_atSign T1 60 = _ := q60
    obtain ⟨q62, r62⟩ := atSign_is (c := 62) hX.1 h (by omega) (by omega) (by omega) (by omega)
    have q62 : f_Tape_atSign T1 62 = _ := q62
    obtain ⟨q61, r61⟩ := atSign_is (c := 61) hX.1 h (by omega) (by omega) (by omega) (by omega)
    have q61 : f_Tape_atSign T1 61 = _ := q61
    have step : k_sp b n p1 < n → k_end b n (k_sp b n p1) = k_sp b n p1 + 1 → ∀ cc, s_tstep cc 0 (false :: false :: st) = some (true :: st) → ∃ T2 w2 T3 U3 w3 M3 U4 M4, f_Tape_advance T1 = some (T2, w2) ∧ f_grp_cr k1 3 T2 U1 w2 (nI o) = some (T3, U3, w3) ∧ f_grp_mr m2 3 A (u2 M1 0 4 (nI (k_sp b n p1 + 1))) = some M3 ∧ f_Rule_emit U3 (nI (s_enc cc 0)) = some U4 ∧ f_M_emit M3 (nI cc) 0 = some M4 ∧ RES b n p o c (true :: st) T3 U4 w3 M4 := fun g1 g2 cc ht => by
      obtain ⟨T2, w2, b1, b2⟩ := sgn_step (A := A) hX h g1 g2
      have hr1 : ROK b n (k_sp b n p1 + 1) o c1 (false :: st) T2 U1 w2 (u2 M1 0 4 (nI (k_sp b n p1 + 1))) := ⟨b2, by rw [u2_col _ _ (by decide), h7], by omega, E, hE.m0 (by decide) _⟩
      obtain ⟨T3, U3, w3, M3, e1, e2, e3⟩ := hG k1 m2 hk1 hm2 _ c1 _ T2 U1 w2 _ hr1
      obtain ⟨U4, M4, d1, d2, d3⟩ := emit_step (cc := cc) hn hcp (show p1 < k_sp b n p1 + 1 by omega) e3 ht
      exact ⟨T2, w2, T3, U3, w3, M3, U4, M4, b1, e1, e2, d1, d2, RES.up hp1 hc1 d3⟩
    rw [h.f.1, obs, if_pos (show (0 : Int32) = 0 from rfl), q60, q62, q61, obs, obs, obs, M_here hX hp h.2.1 h.2.2.1, obs]
    dsimp only
    by_cases c60 : hv b n (k_sp b n p1) = nI 60
    · obtain ⟨g1, g2⟩ := r60 c60
      obtain ⟨T2, w2, T3, U3, w3, M3, U4, M4, b1, e1, e2, d1, d2, d3⟩ := step g1 g2 5 rfl
      have d1 : f_Rule_emit U3 203 = some U4 := d1
      have d2 : f_M_emit M3 5 0 = some M4 := d2
      rw [if_pos c60, if_neg (show ¬ (1 : Int32) = 0 by decide), obs, if_pos (show (203 : Int32) ≠ 205 by decide), obs, se_l, b1, obs, e1, obs, d1, obs, if_pos (show hv b n (k_sp b n p1) = 60 from c60), obs, hs.f.2, obs, if_pos (show (1 : Int32) ≠ 0 by decide), if_neg (show ¬ hv b n (k_sp b n p1) ≠ 60 from fun g => g c60), u2_same, u2_u2, ← nI_succ, e2, obs, obs, d2, obs]
      exact ⟨T3, U4, w3, M4, rfl, rfl, d3⟩
    · rw [if_neg c60, if_pos (show (0 : Int32) = 0 from rfl), if_neg (show ¬ hv b n (k_sp b n p1) = 60 from c60)]
      by_cases c62 : hv b n (k_sp b n p1) = nI 62
      · obtain ⟨g1, g2⟩ := r62 c62
        obtain ⟨T2, w2, T3, U3, w3, M3, U4, M4, b1, e1, e2, d1, d2, d3⟩ := step g1 g2 6 rfl
        have d1 : f_Rule_emit U3 204 = some U4 := d1
        have d2 : f_M_emit M3 6 0 = some M4 := d2
        rw [if_pos c62, if_neg (show ¬ (1 : Int32) = 0 by decide), obs, if_pos (show (204 : Int32) ≠ 205 by decide), obs, se_l, b1, obs, e1, obs, d1, obs, if_pos (show hv b n (k_sp b n p1) = 62 from c62), obs, hs.f.2, obs, if_pos (show (1 : Int32) ≠ 0 by decide), if_pos (show hv b n (k_sp b n p1) ≠ 60 from c60), if_neg (show ¬ hv b n (k_sp b n p1) ≠ 62 from fun g => g c62), u2_same, u2_u2, ← nI_succ, e2, obs, obs, d2, obs]
        exact ⟨T3, U4, w3, M4, rfl, rfl, d3⟩
      · rw [if_neg c62, if_pos (show (0 : Int32) = 0 from rfl), if_neg (show ¬ hv b n (k_sp b n p1) = 62 from c62), obs, if_neg (show ¬ (205 : Int32) ≠ 205 from fun g => g rfl)]
        by_cases c61 : hv b n (k_sp b n p1) = nI 61
        · obtain ⟨g1, g2⟩ := r61 c61
          obtain ⟨T2, w2, T3, U3, w3, M3, U4, M4, b1, e1, e2, d1, d2, d3⟩ := step g1 g2 7 rfl
          have d1 : f_Rule_emit U3 205 = some U4 := d1
          have d2 : f_M_emit M3 7 0 = some M4 := d2
          rw [if_pos c61, if_pos (show (1 : Int32) ≠ 0 by decide), obs, se_l, b1, obs, e1, obs, d1, obs, if_pos (show hv b n (k_sp b n p1) = 61 from c61), obs, hs.f.2, obs, if_pos (show (1 : Int32) ≠ 0 by decide), if_pos (show hv b n (k_sp b n p1) ≠ 60 from c60), if_pos (show hv b n (k_sp b n p1) ≠ 62 from c62), u2_same, u2_u2, ← nI_succ, e2, obs, obs, d2, obs]
          exact ⟨T3, U4, w3, M4, rfl, rfl, d3⟩
        · obtain ⟨T2, M2, f1, f2, f3, f4, f5, f6⟩ := fail_bothQ h 1 (by omega) (by omega) (MNr.at M1 (nI (k_sp b n p1))) (by rw [u2_col _ _ (by decide), h.2.2.2.1])
          have f1 : f_Tape_fail T1 1 = some T2 := f1
          have f2 : f_M_wrong (u2 M1 0 4 (nI (k_sp b n p1))) 1 (nI (k_sp b n p1)) = some M2 := f2
          rw [if_neg c61, if_neg (show ¬ (0 : Int32) ≠ 0 from fun g => g rfl), f1, obs, obs, se_r, if_neg (show ¬ hv b n (k_sp b n p1) = 61 from c61), u2_same, f2, obs, obs, (f3.f (by omega)).2, obs, if_neg (show ¬ (0 : Int32) ≠ 0 from fun g => g rfl)]
          exact ⟨T2, U1, w1, M2, rfl, rfl, Or.inr ⟨f3, by rw [f5 0 3 (by omega), h.2.1], ⟨k_sp b n p1, s2, by rw [f6, u2_same]⟩, hE.u (by omega)⟩⟩
  · obtain ⟨q, hq, hq4⟩ := hbad.2.2.1
    obtain ⟨s1, s2⟩ := sp_le (b := b) hq
    have hb4 := hbad.m4 s2
    rw [(hbad.f (by omega)).1, obs, if_neg (show ¬ (1 : Int32) = 0 by decide), M_here hX hq hbad.2.1 hq4, obs]
    dsimp only
    rw [wrong_bad (by omega) hb4.1, obs, ite_self, ite_self, ite_self, obs, (hb4.f (by omega)).2, obs, if_neg (show ¬ (0 : Int32) ≠ 0 from fun g => g rfl)]
    exact ⟨T1, U1, w1, _, rfl, rfl, Or.inr hb4⟩
