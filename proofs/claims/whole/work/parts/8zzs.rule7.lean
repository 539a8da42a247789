/-! PURE MATH: a rule is read: sums, and, or -/
theorem sum_ok {b : Nat → Nat} {n o : Nat} {A : Nat → Nat → Int32} (hX : TXt b n A) (hn : n ≤ 150) (ho : o ≤ 6) (hG : GD b n A 4 4 (23 - 3 * o) o false) : GD b n A 3 3 (24 - 3 * o) o false := by
  intro n1 n2 hn1 hn2 p c st T U w M h
  obtain ⟨m1, rfl⟩ : ∃ k, n1 = k + 1 := ⟨n1 - 1, by omega⟩
  obtain ⟨m2, rfl⟩ : ∃ k, n2 = k + 1 := ⟨n2 - 1, by omega⟩
  refine op_grp (bc := fun q => f_Rule_readSum_B_l8 (f_grp_cr m1) (nI o) q.1 q.2.1 q.2.2.1 q.2.2.2) (bm := fun q => f_M_readSum_B_l4 A (f_grp_mr m2) q) hn hG (by omega) (by omega) (fun st i p c T U w M hi h => ?_) (fun v T U w M h => ?_) h
  · obtain ⟨h, h7, hcp, E, hE⟩ := h
    have hp := h.1
    have hs := h.s
    obtain ⟨s1, s2⟩ := sp_le (b := b) hp
    obtain ⟨q1, q2⟩ := atSign_is (c := 43) hX.1 h (by omega) (by omega) (by omega) (by omega)
    have q1 : f_Tape_atSign T 43 = _ := q1
    obtain ⟨q3, q4⟩ := atSign_is (c := 45) hX.1 h (by omega) (by omega) (by omega) (by omega)
    have q3 : f_Tape_atSign T 45 = _ := q3
    have here2 : f_M_here A (u2 M 0 4 (nI (k_sp b n p))) = some (hv b n (k_sp b n p), u2 M 0 4 (nI (k_sp b n p))) := by rw [M_here hX hs.1 hs.2.1 hs.2.2.1, sp_sp hp, u2_u2]
    unfold STP
    show (f_Rule_readSum_B_l8 (f_grp_cr m1) (nI o) (nI i) T U w = _ ∧ f_M_readSum_B_l4 A (f_grp_mr m2) M = _) ∨ ∃ T' U' w' M', f_Rule_readSum_B_l8 (f_grp_cr m1) (nI o) (nI i) T U w = _ ∧ f_M_readSum_B_l4 A (f_grp_mr m2) M = _ ∧ _
    unfold f_Rule_readSum_B_l8 f_M_readSum_B_l4
    rw [h.f.1, h.f.2, obs, obs, if_neg (show ¬ (0 : Int32) ≠ 0 from fun g => g rfl), if_neg (show ¬ (1 : Int32) = 0 by decide), q1, q3, obs, obs, obs, M_here hX hp h.2.1 h.2.2.1, obs]
    dsimp only
    rw [here2, obs]
    dsimp only
    have step : k_sp b n p < n → k_end b n (k_sp b n p) = k_sp b n p + 1 → ∀ cc, s_tstep cc 0 (false :: false :: st) = some (false :: st) → ∃ T1 w1 T2 U2 w2 M2 U3 M3, i < 150 ∧ f_Tape_advance T = some (T1, w1) ∧ f_grp_cr m1 4 T1 U w1 (nI o) = some (T2, U2, w2) ∧ f_grp_mr m2 4 A (u2 M 0 4 (nI (k_sp b n p + 1))) = some M2 ∧ f_Rule_emit U2 (nI (s_enc cc 0)) = some U3 ∧ f_M_emit M2 (nI cc) 0 = some M3 ∧ RES b n p o c (false :: st) T2 U3 w2 M3 := fun g1 g2 cc ht => by
      obtain ⟨T1, w1, a1, a2⟩ := sgn_step (A := A) hX h g1 g2
      have hr1 : ROK b n (k_sp b n p + 1) o c (false :: st) T1 U w1 (u2 M 0 4 (nI (k_sp b n p + 1))) := ⟨a2, by rw [u2_col _ _ (by decide), h7], by omega, E, hE.m0 (by decide) _⟩
      obtain ⟨T2, U2, w2, M2, b1, b2, b3⟩ := hG m1 m2 (by omega) (by omega) _ c _ T1 U w1 _ hr1
      obtain ⟨U3, M3, d1, d2, d3⟩ := emit_step (cc := cc) hn hcp (show p < k_sp b n p + 1 by omega) b3 ht
      exact ⟨T1, w1, T2, U2, w2, M2, U3, M3, by omega, a1, b1, b2, d1, d2, d3⟩
    by_cases c1 : hv b n (k_sp b n p) = nI 43
    · obtain ⟨g1, g2⟩ := q2 c1
      obtain ⟨T1, w1, T2, U2, w2, M2, U3, M3, h150, a1, b1, b2, d1, d2, d3⟩ := step g1 g2 2 rfl
      have d1 : f_Rule_emit U2 206 = some U3 := d1
      have d2 : f_M_emit M2 2 0 = some M3 := d2
      rw [if_neg (show ¬ (150 : Int32) ≤ nI i from nI_ge (b := 150) (by omega) (by omega)), if_pos c1, if_pos (show (1 : Int32) ≠ 0 by decide), obs, se_l, if_neg (show ¬ (1 : Int32) = 0 by decide), obs, a1, obs, b1, obs, d1, obs, if_pos (show hv b n (k_sp b n p) = 43 from c1), obs, se_l, here2, obs, if_neg (show ¬ hv b n (k_sp b n p) ≠ 43 from fun g => g c1), obs]
      dsimp only
      rw [u2_same, u2_u2, ← nI_succ, ← nI_succ, b2, obs, d2, obs]
      exact Or.inr ⟨T2, U3, w2, M3, rfl, rfl, d3⟩
    · rw [if_neg c1, if_neg (show ¬ (0 : Int32) ≠ 0 from fun g => g rfl), if_neg (show ¬ hv b n (k_sp b n p) = 43 from c1), if_pos (show (0 : Int32) = 0 from rfl), obs]
      by_cases c2 : hv b n (k_sp b n p) = nI 45
      · obtain ⟨g1, g2⟩ := q4 c2
        obtain ⟨T1, w1, T2, U2, w2, M2, U3, M3, h150, a1, b1, b2, d1, d2, d3⟩ := step g1 g2 3 rfl
        have d1 : f_Rule_emit U2 207 = some U3 := d1
        have d2 : f_M_emit M2 3 0 = some M3 := d2
        rw [if_neg (show ¬ (150 : Int32) ≤ nI i from nI_ge (b := 150) (by omega) (by omega)), if_pos c2, if_neg (show ¬ (1 : Int32) = 0 by decide), obs, se_l, a1, obs, b1, obs, d1, obs, if_neg (show ¬ hv b n (k_sp b n p) ≠ 45 from fun g => g c2), obs, se_l, here2, obs, if_pos (show hv b n (k_sp b n p) ≠ 43 from c1), obs]
        dsimp only
        rw [u2_same, u2_u2, ← nI_succ, ← nI_succ, b2, obs, d2, obs]
        exact Or.inr ⟨T2, U3, w2, M3, rfl, rfl, d3⟩
      · rw [if_neg c2, if_pos (show (0 : Int32) = 0 from rfl), if_pos (show hv b n (k_sp b n p) ≠ 45 from c2), obs, obs, se_r, se_r, ite_self]
        exact Or.inl ⟨rfl, rfl⟩
  · show f_Rule_readSum_B_l8 (f_grp_cr m1) (nI o) v T U w = _ ∧ f_M_readSum_B_l4 A (f_grp_mr m2) M = _
    unfold f_Rule_readSum_B_l8 f_M_readSum_B_l4
    rw [(h.f (by omega)).1, (h.f (by omega)).2, obs, obs, if_pos (show (1 : Int32) ≠ 0 by decide), if_pos (show (0 : Int32) = 0 from rfl), ite_self]
    exact ⟨rfl, rfl⟩
/-- a word stands, or it does not: both ask -/
theorem wordAt {b : Nat → Nat} {n p w j0 : Nat} {A T M : Nat → Nat → Int32} (hX : TXt b n A) (h : OSt b n p T w M) (hj0 : j0 < 23) (h6 : (tx j0).length ≤ 6) : okW w ∧ okW (2560 + j0) ∧ (w = 2560 + j0) = (WM b (k_sp b n p) (k_lt b n (k_sp b n p)) j0) ∧ f_M_word A M = some (nI (q_cd b (k_sp b n p) (k_lt b n (k_sp b n p))), u2 M 0 4 (nI (k_sp b n p))) ∧ (nI (q_cd b (k_sp b n p) (k_lt b n (k_sp b n p))) = nI (cdT j0)) = (WM b (k_sp b n p) (k_lt b n (k_sp b n p)) j0) := by
  have hp := h.1
  obtain ⟨s1, s2⟩ := sp_le (b := b) hp
  have hl := (tx_ok j0 hj0).2.2.2.2.1
  obtain ⟨_, t2, _⟩ := tx_ok j0 hj0
  refine ⟨?_, Or.inr t2, ?_, M_word hX hp h.2.1 h.2.2.1, cd_word s2 hj0 h6⟩
  · rcases h.2.2.2.2.2.2.2.2.2.2.2.2.2 with ⟨k, hk, hw, _⟩ | ⟨hw, _⟩
    · rw [hw]; exact Or.inr (tx_ok k hk).2.1
    · rw [hw]; exact Or.inl rfl
  · apply propext
    rcases h.2.2.2.2.2.2.2.2.2.2.2.2.2 with ⟨k, hk, hw, hm⟩ | ⟨hw, hno⟩
    · constructor
      · intro g
        have : k = j0 := by omega
        subst this; exact hm
      · intro g
        rw [hw, WM.uniq hk hj0 hm g]
    · exact ⟨fun g => by omega, fun g => absurd g (hno j0 hj0)⟩
theorem all_ok {b : Nat → Nat} {n o : Nat} {A : Nat → Nat → Int32} (hX : TXt b n A) (hn : n ≤ 150) (ho : o ≤ 6) (hG : GD b n A 2 2 (26 - 3 * o) o true) : GD b n A 1 1 (27 - 3 * o) o true := by
  intro n1 n2 hn1 hn2 p c st T U w M h
  obtain ⟨m1, rfl⟩ : ∃ k, n1 = k + 1 := ⟨n1 - 1, by omega⟩
  obtain ⟨m2, rfl⟩ : ∃ k, n2 = k + 1 := ⟨n2 - 1, by omega⟩
  refine op_grp (bc := fun q => f_Rule_readAll_B_l8 (f_grp_cr m1) (nI o) q.1 q.2.1 q.2.2.1 q.2.2.2) (bm := fun q => f_M_readAll_B_l4 A (f_grp_mr m2) q) hn hG (by omega) (by omega) (fun st i p c T U w M hi h => ?_) (fun v T U w M h => ?_) h
  · obtain ⟨h, h7, hcp, E, hE⟩ := h
    have hp := h.1
    obtain ⟨s1, s2⟩ := sp_le (b := b) hp
    obtain ⟨l1, l2⟩ := lt_le (b := b) s2
    have l10 : (tx 11).length = 3 := by decide
    have hof : f_M_of 2658 = some (nI (cdT 11)) := M_ofs.2.2.2.2.2.2.2.2.2.2.2.1
    obtain ⟨k1, k2, k3, k4, k5⟩ := wordAt (j0 := 11) hX h (by omega) (by omega)
    have k2 : okW 2571 := k2
    have k3 : (w = 2571) = _ := k3
    have kk : okW w ∧ okW 2571 := ⟨k1, k2⟩
    unfold STP
    show (f_Rule_readAll_B_l8 (f_grp_cr m1) (nI o) (nI i) T U w = _ ∧ f_M_readAll_B_l4 A (f_grp_mr m2) M = _) ∨ ∃ T' U' w' M', f_Rule_readAll_B_l8 (f_grp_cr m1) (nI o) (nI i) T U w = _ ∧ f_M_readAll_B_l4 A (f_grp_mr m2) M = _ ∧ _
    unfold f_Rule_readAll_B_l8 f_M_readAll_B_l4
    rw [h.f.1, h.f.2, obs, obs, if_neg (show ¬ (0 : Int32) ≠ 0 from fun g => g rfl), if_neg (show ¬ (1 : Int32) = 0 by decide), k4, hof, obs, obs, if_pos kk]
    dsimp only
    by_cases hm : WM b (k_sp b n p) (k_lt b n (k_sp b n p)) 11
    · obtain ⟨T1, w1, a1, a2, a3, a4, a5⟩ := word_step (A := A) hX h (show 11 < 23 by omega) hm
      have hr1 : ROK b n (k_lt b n (k_sp b n p)) o c (true :: st) T1 U w1 (u2 M 0 4 (nI (k_lt b n (k_sp b n p)))) := ⟨a2, by rw [u2_col _ _ (by decide), h7], by omega, E, hE.m0 (by decide) _⟩
      obtain ⟨T2, U2, w2, M2, b1, b2, b3⟩ := hG m1 m2 (by omega) (by omega) _ c _ T1 U w1 _ hr1
      obtain ⟨U3, M3, d1, d2, d3⟩ := emit_step (cc := 9) hn hcp (show p < k_lt b n (k_sp b n p) by omega) b3 (show s_tstep 9 0 (true :: true :: st) = some (true :: st) from rfl)
      have d1 : f_Rule_emit U2 201 = some U3 := d1
      have d2 : f_M_emit M2 9 0 = some M3 := d2
      rw [if_neg (show ¬ (150 : Int32) ≤ nI i from nI_ge (b := 150) (by omega) (by omega)), if_pos (k3.mpr hm), a1, obs, b1, obs, d1, obs, if_neg (show ¬ _ ≠ nI (cdT 11) from fun g => g (k5.mpr hm)), a4, obs, b2, obs, d2, obs, ← nI_succ]
      exact Or.inr ⟨T2, U3, w2, M3, rfl, rfl, d3⟩
    · rw [if_neg (show ¬ w = 2571 from fun g => hm (k3.mp g)), if_pos (show _ ≠ nI (cdT 11) from fun g => hm (k5.mp g)), ite_self]
      exact Or.inl ⟨rfl, rfl⟩
  · show f_Rule_readAll_B_l8 (f_grp_cr m1) (nI o) v T U w = _ ∧ f_M_readAll_B_l4 A (f_grp_mr m2) M = _
    unfold f_Rule_readAll_B_l8 f_M_readAll_B_l4
    rw [(h.f (by omega)).1, (h.f (by omega)).2, obs, obs, if_pos (show (1 : Int32) ≠ 0 by decide), if_pos (show (0 : Int32) = 0 from rfl), ite_self]
    exact ⟨rfl, rfl⟩
theorem any_ok {b : Nat → Nat} {n o : Nat} {A : Nat → Nat → Int32} (hX : TXt b n A) (hn : n ≤ 150) (ho : o ≤ 6) (hG : GD b n A 1 1 (27 - 3 * o) o true) : GD b n A 0 0 (28 - 3 * o) o true := by
  intro n1 n2 hn1 hn2 p c st T U w M h
  obtain ⟨m1, rfl⟩ : ∃ k, n1 = k + 1 := ⟨n1 - 1, by omega⟩
  obtain ⟨m2, rfl⟩ : ∃ k, n2 = k + 1 := ⟨n2 - 1, by omega⟩
  refine op_grp (bc := fun q => f_Rule_readAny_B_l8 (f_grp_cr m1) (nI o) q.1 q.2.1 q.2.2.1 q.2.2.2) (bm := fun q => f_M_readAny_B_l4 A (f_grp_mr m2) q) hn hG (by omega) (by omega) (fun st i p c T U w M hi h => ?_) (fun v T U w M h => ?_) h
  · obtain ⟨h, h7, hcp, E, hE⟩ := h
    have hp := h.1
    obtain ⟨s1, s2⟩ := sp_le (b := b) hp
    obtain ⟨l1, l2⟩ := lt_le (b := b) s2
    have l10 : (tx 10).length = 2 := by decide
    have hof : f_M_of 2657 = some (nI (cdT 10)) := M_ofs.2.2.2.2.2.2.2.2.2.2.1
    obtain ⟨k1, k2, k3, k4, k5⟩ := wordAt (j0 := 10) hX h (by omega) (by omega)
    have k2 : okW 2570 := k2
    have k3 : (w = 2570) = _ := k3
    have kk : okW w ∧ okW 2570 := ⟨k1, k2⟩
    unfold STP
    show (f_Rule_readAny_B_l8 (f_grp_cr m1) (nI o) (nI i) T U w = _ ∧ f_M_readAny_B_l4 A (f_grp_mr m2) M = _) ∨ ∃ T' U' w' M', f_Rule_readAny_B_l8 (f_grp_cr m1) (nI o) (nI i) T U w = _ ∧ f_M_readAny_B_l4 A (f_grp_mr m2) M = _ ∧ _
    unfold f_Rule_readAny_B_l8 f_M_readAny_B_l4
    rw [h.f.1, h.f.2, obs, obs, if_neg (show ¬ (0 : Int32) ≠ 0 from fun g => g rfl), if_neg (show ¬ (1 : Int32) = 0 by decide), k4, hof, obs, obs, if_pos kk]
    dsimp only
    by_cases hm : WM b (k_sp b n p) (k_lt b n (k_sp b n p)) 10
    · obtain ⟨T1, w1, a1, a2, a3, a4, a5⟩ := word_step (A := A) hX h (show 10 < 23 by omega) hm
      have hr1 : ROK b n (k_lt b n (k_sp b n p)) o c (true :: st) T1 U w1 (u2 M 0 4 (nI (k_lt b n (k_sp b n p)))) := ⟨a2, by rw [u2_col _ _ (by decide), h7], by omega, E, hE.m0 (by decide) _⟩
      obtain ⟨T2, U2, w2, M2, b1, b2, b3⟩ := hG m1 m2 (by omega) (by omega) _ c _ T1 U w1 _ hr1
      obtain ⟨U3, M3, d1, d2, d3⟩ := emit_step (cc := 10) hn hcp (show p < k_lt b n (k_sp b n p) by omega) b3 (show s_tstep 10 0 (true :: true :: st) = some (true :: st) from rfl)
      have d1 : f_Rule_emit U2 202 = some U3 := d1
      have d2 : f_M_emit M2 10 0 = some M3 := d2
      rw [if_neg (show ¬ (150 : Int32) ≤ nI i from nI_ge (b := 150) (by omega) (by omega)), if_pos (k3.mpr hm), a1, obs, b1, obs, d1, obs, if_neg (show ¬ _ ≠ nI (cdT 10) from fun g => g (k5.mpr hm)), a4, obs, b2, obs, d2, obs, ← nI_succ]
      exact Or.inr ⟨T2, U3, w2, M3, rfl, rfl, d3⟩
    · rw [if_neg (show ¬ w = 2570 from fun g => hm (k3.mp g)), if_pos (show _ ≠ nI (cdT 10) from fun g => hm (k5.mp g)), ite_self]
      exact Or.inl ⟨rfl, rfl⟩
  · show f_Rule_readAny_B_l8 (f_grp_cr m1) (nI o) v T U w = _ ∧ f_M_readAny_B_l4 A (f_grp_mr m2) M = _
    unfold f_Rule_readAny_B_l8 f_M_readAny_B_l4
    rw [(h.f (by omega)).1, (h.f (by omega)).2, obs, obs, if_pos (show (1 : Int32) ≠ 0 by decide), if_pos (show (0 : Int32) = 0 from rfl), ite_self]
    exact ⟨rfl, rfl⟩
