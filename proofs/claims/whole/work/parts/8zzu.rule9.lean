/-! PURE MATH: a rule is read: one of what and joins -/
theorem RES.le {b : Nat → Nat} {n p p1 o c w : Nat} {st : List Bool} {T U M : Nat → Nat → Int32} (hp : p ≤ p1) (h : RES b n p1 o c st T U w M) : RES b n p o c st T U w M := by
  rcases h with ⟨p2, c2, h1, h2, h3⟩ | h
  · exact Or.inl ⟨p2, c2, by omega, by omega, h3⟩
  · exact Or.inr h
theorem RES.dn {b : Nat → Nat} {n p o c w : Nat} {st : List Bool} {T U M : Nat → Nat → Int32} (h : RES b n p (o + 1) c st T U w M) : RES b n p o c st T U w (u2 M 0 7 (M 0 7 - 1)) := by
  rcases h with ⟨p2, c2, h1, h2, h3, h7, h8, E, hE⟩ | h
  · exact Or.inl ⟨p2, c2, h1, h2, h3.cg (fun x hx => by rw [u2_col _ _ (by omega)]), by rw [u2_same, h7, nI_pred], h8, E, hE.m0 (by decide) _⟩
  · exact Or.inr (h.cg (fun x hx => by rw [u2_col _ _ (by omega)]) h.2.2.2)
/-- past the deepest: both -/
theorem full_both {b : Nat → Nat} {n p c w k : Nat} {st : List Bool} {T U M : Nat → Nat → Int32} (hn : n ≤ 150) (h : ROK b n p 6 c st T U w M) : ∃ T1 M1, f_Rule_opens T w 6 = some (0, T1, w) ∧ f_M_opensOne (u2 M 0 4 (nI (k_sp b n p))) (nI k) = some M1 ∧ RBD n T1 U M1 := by
  obtain ⟨h, h7, hcp, E, hE⟩ := h
  have hs := h.s
  have hp := h.1
  obtain ⟨s1, s2⟩ := sp_le (b := b) hp
  obtain ⟨T1, M1, f1, f2, f3, f4, f5, f6⟩ := fail_bothQ h 3 (by omega) (by omega) (MNr.at M (nI (k_sp b n p))) (by rw [u2_col _ _ (by decide), h.2.2.2.1])
  have f1 : f_Tape_fail T 3 = some T1 := f1
  have f2 : f_M_wrong (u2 M 0 4 (nI (k_sp b n p))) 3 (nI (k_sp b n p)) = some M1 := f2
  exact ⟨T1, _, Y_opens_full f1, M_opens_full (k := k) (by omega) hs.2.2.2.1 (by rw [u2_col _ _ (by decide), h7]) hs.2.2.1 f2 f3, f3.cg (fun x hx => by rw [u2_col _ _ (by omega)]), by rw [u2_col _ _ (by omega), f5 0 3 (by omega), h.2.1], ⟨k_sp b n p, s2, by rw [u2_col _ _ (by omega), f6, u2_same]⟩, hE.u (by omega)⟩
theorem one_ok {b : Nat → Nat} {n o : Nat} {A : Nat → Nat → Int32} (hX : TXt b n A) (hn : n ≤ 150) (ho : o ≤ 6) (hS : GD b n A 3 3 (24 - 3 * o) o false) (hO : o < 6 → GD b n A 2 2 (23 - 3 * o) (o + 1) true) (hA : o < 6 → GD b n A 0 0 (25 - 3 * o) (o + 1) true) : GD b n A 2 2 (26 - 3 * o) o true := by
  intro n1 n2 hn1 hn2 p c st T U w M h0
  obtain ⟨m1, rfl⟩ : ∃ k, n1 = k + 1 := ⟨n1 - 1, by omega⟩
  obtain ⟨m2, rfl⟩ : ∃ k, n2 = k + 1 := ⟨n2 - 1, by omega⟩
  obtain ⟨h, h7, hcp, E, hE⟩ := h0
  have hb := hX.1
  have hp := h.1
  have hs := h.s
  obtain ⟨s1, s2⟩ := sp_le (b := b) hp
  have l12 : (tx 12).length = 3 := by decide
  have t12 : (tx 12).getD 0 0 = 110 := by decide
  have hof : f_M_of 2659 = some (nI (cdT 12)) := M_ofs.2.2.2.2.2.2.2.2.2.2.2.2
  obtain ⟨k1, k2, k3, _, _⟩ := wordAt (j0 := 12) hX h (by omega) (by omega)
  obtain ⟨_, _, _, k4, k5⟩ := wordAt (j0 := 12) hX hs (by omega) (by omega)
  rw [sp_sp hp] at k4 k5
  rw [u2_u2] at k4
  have k3 : (w = 2572) = _ := k3
  have kk : okW w ∧ okW 2572 := ⟨k1, k2⟩
  have h7s : (u2 M 0 4 (nI (k_sp b n p))) 0 7 = nI o := by rw [u2_col _ _ (by decide), h7]
  obtain ⟨q1, q2⟩ := atSign_is (c := 91) hb h (by omega) (by omega) (by omega) (by omega)
  have q1 : f_Tape_atSign T 91 = _ := q1
  show ∃ T' U' w' M', f_Rule_readOne_B (f_grp_cr m1) T U w (nI o) = _ ∧ f_M_readOne_B (f_grp_mr m2) A M = _ ∧ _
  unfold f_Rule_readOne_B f_M_readOne_B
  rw [h.f.1, h.f.2, obs, obs, if_pos (show (0 : Int32) = 0 from rfl), if_pos (show (1 : Int32) ≠ 0 by decide), if_pos kk, M_here hX hp h.2.1 h.2.2.1, obs]
  dsimp only
  by_cases hm : WM b (k_sp b n p) (k_lt b n (k_sp b n p)) 12
  · obtain ⟨T1, w1, a1, a2, a3, a4, a5⟩ := word_step (A := A) hX h (show 12 < 23 by omega) hm
    rw [l12] at a5
    have hb0 : b (k_sp b n p) = 110 := by
      have := hm.2 0 (by omega)
      rw [t12] at this
      exact this
    have hne : hv b n (k_sp b n p) ≠ 91 := hv_ne (c := 91) hb (by omega) (fun _ => by omega) (by omega)
    rw [if_pos (k3.mpr hm), if_pos hne, k4, hof, obs, obs]
    dsimp only
    rw [if_neg (show ¬ _ ≠ nI (cdT 12) from fun g => g (k5.mpr hm))]
    by_cases ho6 : o < 6
    · have em : f_M_opensOne (u2 M 0 4 (nI (k_sp b n p))) 3 = some (u2 (u2 M 0 4 (nI (k_sp b n p + 3))) 0 7 (nI (o + 1))) := by
        have := M_opens (k := 3) hs.2.2.2.1 h7s ho6 hs.2.2.1
        rw [u2_u2] at this
        exact this
      rw [a5] at a2
      have hr1 : ROK b n (k_sp b n p + 3) (o + 1) c st T1 U w1 (u2 (u2 M 0 4 (nI (k_sp b n p + 3))) 0 7 (nI (o + 1))) := ⟨a2.cg (fun x hx => by rw [u2_col _ _ (by omega)]), u2_same _ _ _ _, by omega, E, (hE.m0 (by decide) _).m0 (by decide) _⟩
      obtain ⟨T2, U2, w2, M2, b1, b2, b3⟩ := hO ho6 m1 m2 (by omega) (by omega) _ c st T1 U w1 _ hr1
      obtain ⟨U3, M3, d1, d2, d3⟩ := emit_step (cc := 8) hn hcp (show p < k_sp b n p + 3 by omega) b3.dn (show s_tstep 8 0 (true :: st) = some (true :: st) from rfl)
      have d1 : f_Rule_emit U2 200 = some U3 := d1
      have d2 : f_M_emit (u2 M2 0 7 (M2 0 7 - 1)) 8 0 = some M3 := d2
      rw [Y_opens ho6 a1, obs, if_neg (show ¬ (1 : Int32) = 0 by decide), em, obs, ← nI_succ, b1, b2, obs, obs]
      dsimp only
      rw [d1, d2, obs, obs]
      exact ⟨T2, U3, w2, M3, rfl, rfl, d3⟩
    · have ho' : o = 6 := by omega
      subst ho'
      obtain ⟨T1, M1, y1, y2, y3⟩ := full_both (k := 3) hn ⟨h, h7, hcp, E, hE⟩
      have y1 : f_Rule_opens T w (nI 6) = some (0, T1, w) := y1
      have y2 : f_M_opensOne (u2 M 0 4 (nI (k_sp b n p))) 3 = some M1 := y2
      have hmb : f_grp_mr m2 2 A M1 = some M1 := by
        obtain ⟨k, rfl⟩ : ∃ k, m2 = k + 3 := ⟨m2 - 3, by omega⟩
        exact (mr_bad (y3.f (by omega)).2).2.2.2.1 (k + 2)
      have y4 : RBD n T1 U (u2 M1 0 7 (M1 0 7 - 1)) := y3.cg (fun x hx => by rw [u2_col _ _ (by omega)]) y3.2.2.2
      rw [y1, obs, if_pos (show (0 : Int32) = 0 from rfl), y2, obs, hmb, obs, emitM_bad (y4.f (by omega)).2, obs]
      exact ⟨T1, U, w, _, rfl, rfl, Or.inr y4⟩
  · rw [if_neg (show ¬ w = 2572 from fun g => hm (k3.mp g)), q1, obs]
    by_cases c91 : hv b n (k_sp b n p) = nI 91
    · obtain ⟨g1, g2⟩ := q2 c91
      rw [if_pos c91, if_neg (show ¬ (1 : Int32) = 0 by decide), if_neg (show ¬ hv b n (k_sp b n p) ≠ 91 from fun g => g c91)]
      by_cases ho6 : o < 6
      · obtain ⟨T1, w1, a1, a2⟩ := sgn_step (A := A) hX h g1 g2
        have em : f_M_opensOne (u2 M 0 4 (nI (k_sp b n p))) 1 = some (u2 (u2 M 0 4 (nI (k_sp b n p + 1))) 0 7 (nI (o + 1))) := by
          have := M_opens (k := 1) hs.2.2.2.1 h7s ho6 hs.2.2.1
          rw [u2_u2] at this
          exact this
        rw [Y_opens ho6 a1, obs, if_neg (show ¬ (1 : Int32) = 0 by decide), em, obs]
        have hr1 : ROK b n (k_sp b n p + 1) (o + 1) c st T1 U w1 (u2 (u2 M 0 4 (nI (k_sp b n p + 1))) 0 7 (nI (o + 1))) := ⟨a2.cg (fun x hx => by rw [u2_col _ _ (by omega)]), u2_same _ _ _ _, by omega, E, (hE.m0 (by decide) _).m0 (by decide) _⟩
        obtain ⟨T2, U2, w2, M2, b1, b2, b3⟩ := hA ho6 m1 m2 (by omega) (by omega) _ c st T1 U w1 _ hr1
        rw [← nI_succ, b1, b2, obs, obs]
        rcases b3 with ⟨p2, c2, hp2, hc2, e1, e7, ecp, E2, eE⟩ | hbad
        · rcases sign_bothQ (c := 93) hX e1 (by omega) (by omega) (by omega) (by omega) with ⟨T3, w3, M3, p3, y3, r3, o3, pp3, tt3, mm3⟩ | ⟨T3, M3, y3, r3, fs3, tt3, mm3, q, hq, hq4⟩
          · have y3 : f_Tape_pass T2 w2 93 = some (1, T3, w3) := y3
            have r3 : f_M_sign A M2 93 = some M3 := r3
            rw [y3, r3, obs, obs]
            refine ⟨T3, U2, w3, u2 M3 0 7 (nI o), rfl, ?_, Or.inl ⟨p3, c2, by omega, by omega, o3.cg (fun x hx => by rw [u2_col _ _ (by omega)]), u2_same _ _ _ _, by omega, E2, (eE.mn mm3).m0 (by decide) _⟩⟩
            rw [mm3 0 7 (by omega), e7, nI_pred]
          · have y3 : f_Tape_pass T2 w2 93 = some (0, T3, w2) := y3
            have r3 : f_M_sign A M2 93 = some M3 := r3
            rw [y3, r3, obs, obs]
            have hbd : RBD n T3 U2 M3 := ⟨fs3, by rw [mm3 0 3 (by omega), e1.2.1], ⟨q, hq, hq4⟩, eE.u (by have := e1.1; omega)⟩
            exact ⟨T3, U2, w2, u2 M3 0 7 (M3 0 7 - 1), rfl, rfl, Or.inr (hbd.cg (fun x hx => by rw [u2_col _ _ (by omega)]) hbd.2.2.2)⟩
        · obtain ⟨sf1, sf2⟩ := sign_fail (w := w2) (A := A) (by omega) hbad.1 93
          rw [sf1, sf2, obs, obs]
          exact ⟨T2, U2, w2, u2 M2 0 7 (M2 0 7 - 1), rfl, rfl, Or.inr (hbad.cg (fun x hx => by rw [u2_col _ _ (by omega)]) hbad.2.2.2)⟩
      · have ho' : o = 6 := by omega
        subst ho'
        obtain ⟨T1, M1, y1, y2, y3⟩ := full_both (k := 1) hn ⟨h, h7, hcp, E, hE⟩
        have y1 : f_Rule_opens T w (nI 6) = some (0, T1, w) := y1
        have y2 : f_M_opensOne (u2 M 0 4 (nI (k_sp b n p))) 1 = some M1 := y2
        have hmb : f_grp_mr m2 0 A M1 = some M1 := by
          obtain ⟨k, rfl⟩ : ∃ k, m2 = k + 3 := ⟨m2 - 3, by omega⟩
          exact (mr_bad (y3.f (by omega)).2).2.2.2.2.2 k
        have y4 : RBD n T1 U (u2 M1 0 7 (M1 0 7 - 1)) := y3.cg (fun x hx => by rw [u2_col _ _ (by omega)]) y3.2.2.2
        rw [y1, obs, if_pos (show (0 : Int32) = 0 from rfl), y2, obs, hmb, obs, (sign_fail (w := 0) (A := A) (by omega) y3.1 93).2, obs]
        exact ⟨T1, U, w, _, rfl, rfl, Or.inr y4⟩
    · rw [if_neg c91, if_pos (show (0 : Int32) = 0 from rfl), if_pos (show hv b n (k_sp b n p) ≠ 91 from c91), k4, hof, obs, obs]
      dsimp only
      rw [if_pos (show _ ≠ nI (cdT 12) from fun g => hm (k5.mp g))]
      obtain ⟨r1, rfl⟩ : ∃ k, m1 = k + 1 := ⟨m1 - 1, by omega⟩
      obtain ⟨T2, U2, w2, M2, b1, b2, b3⟩ := cmp_ok (A := A) (k1 := r1) (m2 := m2) hX hn hS (by omega) (by omega) (show ROK b n (k_sp b n p) o c st T U w (u2 M 0 4 (nI (k_sp b n p))) from ⟨hs, h7s, by omega, E, hE.m0 (by decide) _⟩)
      have b1 : f_grp_cr (r1 + 1) 6 T U w (nI o) = some (T2, U2, w2) := b1
      rw [b1, obs]
      exact ⟨T2, U2, w2, M2, rfl, b2, b3.le s1⟩
