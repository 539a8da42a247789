theorem M_person_n {C : CS} {A : Nat → Nat → Int32} (hW : WFC C) (hM : RMo C A) {p : Nat} (hp : p < 32) : loopN (fun q => f_M_person_l63 A (nI p) q.1 q.2) a_F (0, 0) = some (nI (cnt (fun m => C 15 m ≠ 0 ∧ (C 8 m).testBit p = true) (C 0 3))) := by
  have hN := hW.2.2.2.1
  have n3 : A 0 26 = nI (C 0 3) := hM.n (j := 3) (by omega)
  have e := loop_S (body := fun q => f_M_person_l63 A (nI p) q.1 q.2) (C 0 3) (fun i => (nI (cnt (fun m => C 15 m ≠ 0 ∧ (C 8 m).testBit p = true) i), nI i)) (b := nI (cnt (fun m => C 15 m ≠ 0 ∧ (C 8 m).testBit p = true) (C 0 3))) 0 (by omega) (by omega)
    (fun i _ hi => by
      obtain ⟨x, x1, x2⟩ := M_memb hW hM hi hp
      show f_M_person_l63 A (nI p) (nI (cnt (fun m => C 15 m ≠ 0 ∧ (C 8 m).testBit p = true) i)) (nI i) = _
      unfold f_M_person_l63
      rw [n3, if_neg (nI_ge hi (by omega)), x1, rdx_nI (by omega) (by omega), hM.here hi]
      show _ = some (Sum.inl (nI (cnt (fun m => C 15 m ≠ 0 ∧ (C 8 m).testBit p = true) i + (if C 15 i ≠ 0 ∧ (C 8 i).testBit p = true then 1 else 0)), nI (i + 1)))
      have o1 := oI_ne (hW.plan i)
      by_cases h0 : C 15 i = 0
      · rw [if_neg (fun h => h.1 h0)]
        simp only [Option.bind_some, o1.mpr h0, if_true, sumE]
        rw [← nI_succ, show (0 : Int32) = nI 0 from rfl, na_add]
      · have o2 : ¬ oI (C 15 i) = -1 := fun e => h0 (o1.mp e)
        simp only [Option.bind_some, o2, if_false, x2]
        by_cases hm : (C 8 i).testBit p = true
        · rw [if_pos hm, if_neg (show ¬ ((1 : Int32) ≠ 1) by decide), if_pos ⟨h0, hm⟩]
          simp only [Option.bind_some, sumE]
          rw [← nI_succ, ← nI_succ]
        · rw [if_neg hm, if_pos (show ((0 : Int32) ≠ 1) by decide), if_neg (fun h => hm h.2)]
          simp only [Option.bind_some, sumE]
          rw [← nI_succ, show (0 : Int32) = nI 0 from rfl, na_add])
    (by
      show f_M_person_l63 A (nI p) _ (nI (C 0 3)) = _
      unfold f_M_person_l63
      rw [n3, if_pos (nI_le (Nat.le_refl _) (by omega))])
  exact e
theorem ix3 (j f : Nat) : (3 : Int32) * nI j + nI f = nI (3 * j + f) := by
  rw [show (3 : Int32) = nI 3 from rfl, na_mul, na_add]
theorem RMo.pers {C : CS} {A : Nat → Nat → Int32} (h : RMo C A) {p : Nat} (hp : p < C 0 2) : A 4 (3 * p) = nI (C 2 p) ∧ A 4 (3 * p + 1) = nI (C 3 p) ∧ A 4 (3 * p + 2) = nI (C 4 p) := by
  refine ⟨?_, ?_, ?_⟩
  · rw [h 4 (3 * p) (by show _ < _; omega)]
    show (if (3 * p) % 3 = 0 then nI (C 2 (3 * p / 3)) else _) = _
    rw [if_pos (by omega), show 3 * p / 3 = p from by omega]
  · rw [h 4 (3 * p + 1) (by show _ < _; omega)]
    show (if (3 * p + 1) % 3 = 0 then _ else if (3 * p + 1) % 3 = 1 then nI (C 3 ((3 * p + 1) / 3)) else _) = _
    rw [if_neg (by omega), if_pos (by omega), show (3 * p + 1) / 3 = p from by omega]
  · rw [h 4 (3 * p + 2) (by show _ < _; omega)]
    show (if (3 * p + 2) % 3 = 0 then _ else if (3 * p + 2) % 3 = 1 then _ else nI (C 4 ((3 * p + 2) / 3))) = _
    rw [if_neg (by omega), if_neg (by omega), show (3 * p + 2) / 3 = p from by omega]
theorem T_person {C : CS} {Y H NS A BO : Nat → Nat → Int32} {r5 hm : Nat} (h : RL C Y H NS A) (p1 p2 : Int32) : TD C H NS (f_Y_person Y H NS BO r5 hm p1 p2) (f_M_person A p1 p2) cd2 (fun k => k < 3) := by
  have h' := h.thr 0
  obtain ⟨hW, hY, hH, hS, hM, hQ⟩ := h'
  have hA : (u2 A 0 0 0) 0 0 = 0 := thr_0 A 0
  unfold f_Y_person f_M_person
  generalize u2 A 0 0 0 = A at hM hQ hA ⊢
  have h' : RL C Y H NS A := ⟨hW, hY, hH, hS, hM, hQ⟩
  have hN := hW.2.2.2.1
  have hP := hW.2.2.1
  rcases G_person hW hH hM hA p1 with ⟨p, hp, rfl, e1, e2⟩ | ⟨e1, e2⟩
  · rw [e1, e2 1]
    have z10 : ¬ (1 : Int32) = 0 := by decide
    have z1 : ((1 : Int32) ≠ 0) = True := by simp
    simp only [Option.bind_some, if_pos, z10, if_false]
    rcases G_what (p := p2) 4 (by omega) with ⟨w, hw, rfl, k1, k2, k3⟩ | ⟨k3, k4⟩
    · have k3 : f_M_within (nI w) 0 4 = some 1 := k3
      have k2 : ¬ (4 : Int32) < nI w := k2
      simp only [k1, k2, k3, if_false, Option.bind_some, sumE, Y_ref_in, M_may_in hA, eq_self, if_true, z1]
      obtain ⟨q0, q1, q2⟩ := hM.pers hp
      have y2 : rdx (H 2) 8 (nI p) = some (nI (C 2 p)) := by rw [rdx_nI (by omega) (by omega), hH 2 p hp]; rfl
      have y3 : rdx (H 3) 8 (nI p) = some (nI (C 3 p)) := by rw [rdx_nI (by omega) (by omega), hH 3 p hp]; rfl
      have y4 : rdx (H 4) 8 (nI p) = some (nI (C 4 p)) := by rw [rdx_nI (by omega) (by omega), hH 4 p hp]; rfl
      have mm : ∀ f, f < 3 → rdx (A 4) 24 (3 * nI p + nI f) = some (A 4 (3 * p + f)) := fun f hf => by rw [ix3, rdx_nI (by omega) (by omega)]
      obtain ⟨B', b1, b2⟩ := T_look BO hW hH hS
      have hw5 : w = 0 ∨ w = 1 ∨ w = 2 ∨ w = 3 ∨ w = 4 := by omega
      rcases hw5 with rfl | rfl | rfl | rfl | rfl
      · exact TD.ans (nI (C 2 p)) h' hA rfl (by rw [y2]; rfl) (by rw [if_neg (show ¬ (3 : Int32) ≤ nI 0 by decide), mm 0 (by omega)]; show some (A 4 (3 * p), A) = _; rw [q0])
      · exact TD.ans (nI (C 3 p)) h' hA rfl (by rw [y3]; rfl) (by rw [if_neg (show ¬ (3 : Int32) ≤ nI 1 by decide), mm 1 (by omega), q1]; rfl)
      · exact TD.ans (nI (C 4 p)) h' hA rfl (by rw [y4]; rfl) (by rw [if_neg (show ¬ (3 : Int32) ≤ nI 2 by decide), mm 2 (by omega), q2]; rfl)
      · refine TD.ans (B := B') (r := hm) (nI (cnt (fun m => C 15 m ≠ 0 ∧ (C 8 m).testBit p = true) (C 0 3))) h' hA rfl ?_ ?_
        · rw [if_neg (show ¬ nI 3 = 0 by decide), if_neg (show ¬ nI 3 = 1 by decide), if_neg (show ¬ nI 3 = 2 by decide), if_pos (show nI 3 = 3 by decide), b1]
          simp only [Option.bind_some]
          rw [Y_placed hW hH b2 hW.plan]
          simp only [Option.bind_some]
          rw [Y_meetingsOf hW hH (by omega)]
          simp only [Option.bind_some]
          rw [na_and, bs_and, bc_bs _ hN]
          rfl
        · rw [if_pos (show (3 : Int32) ≤ nI 3 by decide), if_pos (show nI 3 ≠ 4 by decide), M_person_n hW hM (by omega)]
          rfl
      · refine TD.ans (B := B') (r := hm) (nI (s_bears C (C 16) p)) h' hA rfl ?_ ?_
        · rw [if_neg (show ¬ nI 4 = 0 by decide), if_neg (show ¬ nI 4 = 1 by decide), if_neg (show ¬ nI 4 = 2 by decide), if_neg (show ¬ nI 4 = 3 by decide), b1]
          simp only [Option.bind_some]
          rw [Y_bears hW hH b2 (by omega)]
          rfl
        · rw [if_pos (show (3 : Int32) ≤ nI 4 by decide), if_neg (show ¬ nI 4 ≠ 4 by decide), M_bornBy hW hM (by omega)]
          rfl
    · have k3 : f_M_within p2 0 4 = some 0 := k3
      have k4 : ¬ p2 < 0 → (4 : Int32) < p2 := k4
      refine TD.ref (B := BO) (r := r5) 1 (by omega) h' (show _ < 3 from by omega) ?_ ?_
      · by_cases k1 : p2 < 0
        · simp only [k1, if_true, Option.bind_some, sumE, Y_ref_out]; rfl
        · simp only [k1, k4 k1, if_false, if_true, Option.bind_some, sumE, Y_ref_out]; rfl
      · rw [k3]
        show ((f_M_may A 0 (nI 2) (nI 1)).bind _) = _
        rw [M_may_out hA (by decide) (by omega)]; rfl
  · refine TD.ref (B := BO) (r := r5) 0 (by omega) h' (show _ < 3 from by omega) ?_ ?_
    · rw [e1]; rfl
    · rw [e2 1 (by decide)]; rfl
