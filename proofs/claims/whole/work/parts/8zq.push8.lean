/-! PURE MATH: push -/
theorem T_push {C : CS} {Y H U NS A BO PU MS : Nat → Nat → Int32} {r5 hm : Nat} (h : RL C Y H NS A) (hF : WFU C) (hP : WFP C) (hU : RU C U) (p1 p2 p3 : Int32) : ∃ k v Y' U' NS' B' P' r' v' A' S' C', f_Y_push Y H U NS BO PU hm r5 p1 p2 p3 = some (k, v, Y', U', NS', B', P', r') ∧ f_M_push A MS p1 p2 p3 = some (v', A', S') ∧ A' 0 0 = cd2 k ∧ k < 3 ∧ (k = 0 → v = v') ∧ RU C' U' ∧ ACT C C' ∧ RL C' Y' H NS' A' := by
  have h' := h.thr 0
  obtain ⟨hW, hY, hH, hS, hM, hQ⟩ := h'
  have hA : (u2 A 0 0 0) 0 0 = 0 := thr_0 A 0
  unfold f_Y_push f_M_push
  generalize u2 A 0 0 0 = A at hM hQ hA ⊢
  have h' : RL C Y H NS A := ⟨hW, hY, hH, hS, hM, hQ⟩
  have z1 : ((1 : Int32) ≠ 0) = True := by simp
  have z10 : ((1 : Int32) = 0) = False := by simp
  have z00 : ((0 : Int32) = 0) = True := by simp
  have n10 : ((1 : Nat) = 0) = False := by simp
  have hN := hW.2.2.2.1
  have hH10 := hW.1.2
  have hR3 := hW.2.1
  have h5 := hW.n31 (j := 5) (by omega)
  have h5' : C 0 5 ≤ 30 := hW.2.2.2.2.2.1
  have e43 : A 0 43 = nI (C 0 5) := hM.d0.2.2.2.2.1
  have n3 : A 0 26 = nI (C 0 3) := hM.n (j := 3) (by omega)
  have n30 : (nI (C 0 5) = 30) = (C 0 5 = 30) := nI_eqP (b := 30) h5 (by omega)
  rcases G_place (Y := Y) hW hH hM hA p1 p2 p3 with ⟨m, hh, r, h1, h2, h3, rfl, rfl, rfl, e1, e2⟩ | ⟨k, hk, e1, e2⟩
  · rw [e1, e2]
    simp only [obs, if_true, z1, Y_full hW hS, e43, ne_eq, n30]
    by_cases d1 : C 0 5 < 30
    · have d1' : ¬ C 0 5 = 30 := by omega
      obtain ⟨B', b1, b2⟩ := T_look BO hW hH hS
      obtain ⟨rr, x, U', B2, P', S', k1, k2, k3, k4⟩ := run_both (H := H) (A := A) (U := U) (P := PU) (MS := MS) hW hF hP hH hM hU b2 h1 (show 3 * hh + r < 30 by omega) (show (3 * hh + r) % 3 < C 0 1 by omega) (show (3 * hh + r) / 3 < C 0 0 by omega)
      simp only [d1, d1', not_false_eq_true, if_true, z10, z00, b1, obs, f_Y_placeOf, (pl_of hh r).1, (pl_of hh r).2, k1, k2]
      rcases k4 with ⟨rfl, rfl⟩ | ⟨rfl, pl, n, j1, rfl, j2, j3, j4, j5, j6⟩
      · simp only [if_true, not_true, if_false]
        exact ⟨0, -1, Y, U', NS, B2, P', hm, -1, A, S', C, rfl, rfl, hA, by omega, fun _ => rfl, k3, ACT.refl hP, h'⟩
      · have n1 : (nI n = -1) = False := eq_false (na_ne1 (by omega))
        simp only [n1, z10, not_false_eq_true, if_true, if_false]
        obtain ⟨B4, q1, q2, q3⟩ := Y_countMoved (w := NS 1) (p0 := C 15) hW hH j4 hW.plan j3.1 j3.2.1 (fun x hx => hS 1 x hx)
        obtain ⟨NS', i1, i2⟩ := Y_act (BO := B4) (pl := pl) (tm := fun x => C 16 x + (if pl x = C 15 x then 0 else 1)) hW hS d1 q2 q3
        obtain ⟨A', l1, l2, l3⟩ := M_keepsAct hW hM d1
        rw [q1, obs, i1, obs, l1, obs]
        let S : Nat → Nat → Nat → Int32 := fun i a b => if a = 7 ∧ b < i ∧ ¬ pl b = C 15 b then oI (pl b) else if a = 8 ∧ b < i ∧ ¬ pl b = C 15 b then nI (C 16 b + 1) else A' a b
        have hSd : ∀ i a b, S i a b = if a = 7 ∧ b < i ∧ ¬ pl b = C 15 b then oI (pl b) else if a = 8 ∧ b < i ∧ ¬ pl b = C 15 b then nI (C 16 b + 1) else A' a b := fun _ _ _ => rfl
        have t26 : ∀ i, S i 0 26 = nI (C 0 3) := fun i => by rw [hSd, if_neg (by omega), if_neg (by omega), l3 0 26 (by decide) (by omega), n3]
        have eL := loop_for (body := fun q => f_M_push_l51 S' q.1 q.2) (C 0 3) S (b := S (C 0 3)) 0 (by omega) (by omega)
          (fun i _ hi => by
            have hp := hW.plan i
            have rm : rdx (S' 4) 10 (nI i) = some (oI (pl i)) := by rw [rdx_nI (by omega) (by omega), j6 i hi]
            have s7 : S i 7 i = oI (C 15 i) := by rw [hSd, if_neg (by omega), if_neg (by omega), l3 7 i (by decide) (by omega), hM.here hi]
            have s8 : S i 8 i = nI (C 16 i) := by rw [hSd, if_neg (by omega), if_neg (by omega), l3 8 i (by decide) (by omega), hM.times hi]
            show f_M_push_l51 S' (nI i) (S i) = some (Sum.inl (nI (i + 1), S (i + 1)))
            unfold f_M_push_l51
            rw [t26, if_neg (nI_ge hi (by omega)), rm, obs, rdx_nI (by omega) (by omega), s7, obs]
            simp only [oI_eqP (j4 i) hp]
            by_cases t1 : pl i = C 15 i
            · rw [if_pos t1, ← nI_succ]
              congr 3
              funext a b
              rw [hSd, hSd]
              have x1 : (a = 7 ∧ b < i ∧ ¬ pl b = C 15 b) = (a = 7 ∧ b < i + 1 ∧ ¬ pl b = C 15 b) := propext ⟨fun h => ⟨h.1, by omega, h.2.2⟩, fun h => ⟨h.1, by
                have : b ≠ i := fun e => h.2.2 (e ▸ t1)
                omega, h.2.2⟩⟩
              have x2 : (a = 8 ∧ b < i ∧ ¬ pl b = C 15 b) = (a = 8 ∧ b < i + 1 ∧ ¬ pl b = C 15 b) := propext ⟨fun h => ⟨h.1, by omega, h.2.2⟩, fun h => ⟨h.1, by
                have : b ≠ i := fun e => h.2.2 (e ▸ t1)
                omega, h.2.2⟩⟩
              simp only [x1, x2]
            · rw [if_neg t1, obs]
              unfold f_M_goesTo
              rw [ixx_nI (by omega) (by omega), obs, rdx_nI (by omega) (by omega), obs, obs, obs, u2_row _ _ (show (8 : Nat) ≠ 7 by decide), ← nI_succ]
              rw [s8, ← nI_succ]
              congr 3
              funext a b
              rw [u2_eq, u2_eq, hSd, hSd]
              by_cases h8 : a = 8 ∧ b = i
              · obtain ⟨rfl, rfl⟩ := h8
                rw [if_pos ⟨rfl, rfl⟩, if_neg (by omega), if_pos (show 8 = 8 ∧ b < b + 1 ∧ ¬ pl b = C 15 b from ⟨rfl, by omega, t1⟩)]
              · rw [if_neg h8]
                by_cases h7 : a = 7 ∧ b = i
                · obtain ⟨rfl, rfl⟩ := h7
                  rw [if_pos ⟨rfl, rfl⟩, if_pos (show 7 = 7 ∧ b < b + 1 ∧ ¬ pl b = C 15 b from ⟨rfl, by omega, t1⟩)]
                · rw [if_neg h7]
                  by_cases hb : b < i
                  · have x1 : (a = 7 ∧ b < i ∧ ¬ pl b = C 15 b) = (a = 7 ∧ b < i + 1 ∧ ¬ pl b = C 15 b) := propext ⟨fun h => ⟨h.1, by omega, h.2.2⟩, fun h => ⟨h.1, hb, h.2.2⟩⟩
                    have x2 : (a = 8 ∧ b < i ∧ ¬ pl b = C 15 b) = (a = 8 ∧ b < i + 1 ∧ ¬ pl b = C 15 b) := propext ⟨fun h => ⟨h.1, by omega, h.2.2⟩, fun h => ⟨h.1, hb, h.2.2⟩⟩
                    simp only [x1, x2]
                  · have y1 : ¬ (a = 7 ∧ b < i + 1 ∧ ¬ pl b = C 15 b) := fun h => h7 ⟨h.1, by have := h.2.1; omega⟩
                    have y2 : ¬ (a = 8 ∧ b < i + 1 ∧ ¬ pl b = C 15 b) := fun h => h8 ⟨h.1, by have := h.2.1; omega⟩
                    rw [if_neg (fun h => hb h.2.1), if_neg (fun h => hb h.2.1), if_neg y1, if_neg y2])
          (by
            show f_M_push_l51 S' (nI (C 0 3)) (S (C 0 3)) = _
            unfold f_M_push_l51
            rw [t26, if_pos (nI_le (Nat.le_refl _) (by omega))])
        have eS0 : S 0 = A' := by
          funext a b
          rw [hSd, if_neg (by omega), if_neg (by omega)]
        rw [eS0] at eL
        rw [show ((0 : Int32), A') = (nI 0, A') from rfl, eL, obs, j2]
        have hact : ACT C (setPT (keepC C) pl (fun x => C 16 x + (if pl x = C 15 x then 0 else 1))) := ACT_keepPT hW hP j5 (fun n hn x => by
          have := hn x
          show C 16 x + (if _ then _ else _) ≤ _
          split <;> omega)
        refine ⟨0, nI n, Y, U', NS', B4, P', hm, nI n, S (C 0 3), S', _, rfl, rfl, ?_, by omega, fun _ => rfl, RU_sh hact.1.h k3, hact, RL_act h' j4 d1 i2 l2 (fun b => l3 1 b (by decide) (by omega)) (fun a b ha hb => ?_) (fun x hx => ?_) (fun x hx => ?_)⟩
        · rw [hSd, if_neg (by omega), if_neg (by omega), l3 0 0 (by decide) (by decide), hA]; rfl
        · rw [hSd, if_neg (fun h => ha h.1), if_neg (fun h => hb h.1)]
        · rw [hSd]
          by_cases c : pl x = C 15 x
          · rw [if_neg (fun h => h.2.2 c), if_neg (fun h => h.2.2 c), l3 7 x (by decide) (by omega), hM.here hx, c]
          · rw [if_pos ⟨rfl, hx, c⟩]
        · rw [hSd, if_neg (by omega)]
          by_cases c : pl x = C 15 x
          · rw [if_neg (fun h => h.2.2 c), l3 8 x (by decide) (by omega), hM.times hx, if_pos c, Nat.add_zero]
          · rw [if_pos ⟨rfl, hx, c⟩, if_neg c]
    · have d1' : C 0 5 = 30 := by omega
      simp only [d1, d1', not_true, if_false, z10]
      exact ⟨0, -64, Y, U, NS, BO, PU, r5, -64, A, MS, C, rfl, rfl, hA, by omega, fun _ => rfl, hU, ACT.refl hP, h'⟩
  · rw [e1, e2]
    have k10 : (k + 1 = 0) = False := eq_false (by omega)
    have z2 : ((0 : Int32) ≠ 0) = False := by simp
    simp only [obs, if_false, k10, z2]
    exact ⟨k + 1, 0, yRef Y k, U, NS, BO, PU, r5, 0, mRef A (nI (k + 1)) k, MS, C, rfl, rfl, mRef_0 _ _ _, by omega, fun h => by omega, hU, ACT.refl hP, h'.ref _ hk⟩
