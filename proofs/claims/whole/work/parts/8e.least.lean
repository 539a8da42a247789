/-! PURE MATH: least -/
def s_least (C : CS) : Nat → Nat
  | 0 => 0
  | k + 1 => if C 14 k = 0 then (if s_least C k = 0 then k + 1 else if C 12 (s_least C k - 1) * C 13 (s_least C k - 1) ≤ C 12 k * C 13 k then s_least C k else k + 1) else s_least C k
theorem s_least_le (C : CS) (k : Nat) : s_least C k ≤ k := by
  induction k with
  | zero => exact Nat.le_refl _
  | succ k ih =>
    unfold s_least
    split
    · split
      · omega
      · split <;> omega
    · omega
theorem WFC.loss {C : CS} (h : WFC C) (k : Nat) : C 12 k * C 13 k ≤ 1584 := by
  obtain ⟨_, _, _, _, _, _, _, _, _, _, _, _, _, _, _, _, _, _, _, _, h1, h2, _⟩ := h
  exact Nat.mul_le_mul (h1 k) (h2 k)
theorem RMo.hold {C : CS} {A : Nat → Nat → Int32} (h : RMo C A) {k : Nat} (hk : k < C 0 4) : A 6 (4 * k) = nI (C 11 k) ∧ A 6 (4 * k + 1) = nI (C 12 k) ∧ A 6 (4 * k + 2) = nI (C 13 k) ∧ A 6 (4 * k + 3) = nI (C 14 k) := by
  refine ⟨?_, ?_, ?_, ?_⟩
  · rw [h 6 (4 * k) (by show _ < _; omega)]
    show (if (4 * k) % 4 = 0 then nI (C 11 (4 * k / 4)) else _) = _
    rw [if_pos (by omega), show 4 * k / 4 = k from by omega]
  · rw [h 6 (4 * k + 1) (by show _ < _; omega)]
    show (if (4 * k + 1) % 4 = 0 then _ else if (4 * k + 1) % 4 = 1 then nI (C 12 ((4 * k + 1) / 4)) else _) = _
    rw [if_neg (by omega), if_pos (by omega), show (4 * k + 1) / 4 = k from by omega]
  · rw [h 6 (4 * k + 2) (by show _ < _; omega)]
    show (if (4 * k + 2) % 4 = 0 then _ else if (4 * k + 2) % 4 = 1 then _ else if (4 * k + 2) % 4 = 2 then nI (C 13 ((4 * k + 2) / 4)) else _) = _
    rw [if_neg (by omega), if_neg (by omega), if_pos (by omega), show (4 * k + 2) / 4 = k from by omega]
  · rw [h 6 (4 * k + 3) (by show _ < _; omega)]
    show (if (4 * k + 3) % 4 = 0 then _ else if (4 * k + 3) % 4 = 1 then _ else if (4 * k + 3) % 4 = 2 then _ else nI (C 14 ((4 * k + 3) / 4))) = _
    rw [if_neg (by omega), if_neg (by omega), if_neg (by omega), show (4 * k + 3) / 4 = k from by omega]
theorem ix4 (j f : Nat) : (4 : Int32) * nI j + nI f = nI (4 * j + f) := by
  rw [show (4 : Int32) = nI 4 from rfl, na_mul, na_add]
theorem T_least {C : CS} {Y H NS A : Nat → Nat → Int32} (h : RL C Y H NS A) : ∃ v, f_Y_least H NS = some v ∧ f_M_least A = some (v, u2 A 0 0 0) := by
  have h' := h.thr 0
  obtain ⟨hW, hY, hH, hS, hM, hQ⟩ := h'
  have hK := hW.2.2.2.2.1
  have g4 : H 0 4 = nI (C 0 4) := hH 0 4 (show 4 < 6 by omega)
  have z10 : ¬ (1 : Int32) = 0 := by decide
  refine ⟨oI (s_least C (C 0 4)), ?_, ?_⟩
  · unfold f_Y_least
    have e := loop_S (body := fun q => f_Y_least_l4 H NS q.1 q.2) (C 0 4) (fun i => (oI (s_least C i), nI i)) (b := oI (s_least C (C 0 4))) 0 (by omega) (by omega)
      (fun i _ hi => by
        have hl := s_least_le C i
        have l1 := hW.loss i
        show f_Y_least_l4 H NS (oI (s_least C i)) (nI i) = some (Sum.inl (oI (if C 14 i = 0 then (if s_least C i = 0 then i + 1 else if C 12 (s_least C i - 1) * C 13 (s_least C i - 1) ≤ C 12 i * C 13 i then s_least C i else i + 1) else s_least C i), nI (i + 1)))
        unfold f_Y_least_l4
        rw [g4, if_neg (nI_ge hi (by omega)), Y_isHeld hW hS hi]
        by_cases h0 : C 14 i = 0
        · simp only [h0, if_true, Option.bind_some, z10, if_false]
          by_cases hs : s_least C i = 0
          · rw [if_pos ((oI_ne (by omega)).mpr hs), if_pos hs, oI_s, ← nI_succ]
          · have l2 := hW.loss (s_least C i - 1)
            obtain ⟨j, hj⟩ : ∃ j, s_least C i = j + 1 := ⟨s_least C i - 1, by omega⟩
            rw [if_neg (fun e => hs ((oI_ne (by omega)).mp e)), if_neg hs, rdx_nI (by omega) (by omega), hH 12 i hi, hj, oI_s, rdx_nI (by omega) (by omega), hH 12 j (show j < C 0 4 by omega)]
            rw [hj, Nat.add_sub_cancel] at l2
            show (if nI (C 12 j * C 13 j) ≤ nI (C 12 i * C 13 i) then _ else _) = _
            rw [Nat.add_sub_cancel]
            by_cases hc : C 12 j * C 13 j ≤ C 12 i * C 13 i
            · rw [if_pos ((na_le (by omega) (by omega)).mpr hc), if_pos hc, oI_s, ← nI_succ]
            · rw [if_neg (fun e => hc ((na_le (by omega) (by omega)).mp e)), if_neg hc, oI_s, ← nI_succ]
        · simp only [h0, if_false, Option.bind_some, if_true]
          rw [← nI_succ])
      (by
        show f_Y_least_l4 H NS _ (nI (C 0 4)) = _
        unfold f_Y_least_l4
        rw [g4, if_pos (nI_le (Nat.le_refl _) (by omega))])
    show (loopN _ a_F (oI (s_least C 0), nI 0)).bind _ = _
    rw [e]; rfl
  · unfold f_M_least
    have n4 : (u2 A 0 0 0) 0 27 = nI (C 0 4) := hM.n (j := 4) (by omega)
    have e := loop_S (body := fun q => f_M_least_l9 A q.1 q.2) (C 0 4) (fun i => (oI (s_least C i), nI i)) (b := oI (s_least C (C 0 4))) 0 (by omega) (by omega)
      (fun i _ hi => by
        have hl := s_least_le C i
        have l1 := hW.loss i
        have hf := hW.let i
        have rr : ∀ k f, k < C 0 4 → f < 4 → rdx ((u2 A 0 0 0) 6) 16 (4 * nI k + nI f) = some ((u2 A 0 0 0) 6 (4 * k + f)) := fun k f hk hf => by rw [ix4, rdx_nI (by omega) (by omega)]
        have r3 : rdx ((u2 A 0 0 0) 6) 16 (4 * nI i + 3) = some (nI (C 14 i)) := by rw [show (3 : Int32) = nI 3 from rfl, rr i 3 hi (by omega), (hM.hold hi).2.2.2]
        have r1 : ∀ k, k < C 0 4 → rdx ((u2 A 0 0 0) 6) 16 (4 * nI k + 1) = some (nI (C 12 k)) := fun k hk => by rw [show (1 : Int32) = nI 1 from rfl, rr k 1 hk (by omega), (hM.hold hk).2.1]
        have r2 : ∀ k, k < C 0 4 → rdx ((u2 A 0 0 0) 6) 16 (4 * nI k + 2) = some (nI (C 13 k)) := fun k hk => by rw [show (2 : Int32) = nI 2 from rfl, rr k 2 hk (by omega), (hM.hold hk).2.2.1]
        show f_M_least_l9 A (oI (s_least C i)) (nI i) = some (Sum.inl (oI (if C 14 i = 0 then (if s_least C i = 0 then i + 1 else if C 12 (s_least C i - 1) * C 13 (s_least C i - 1) ≤ C 12 i * C 13 i then s_least C i else i + 1) else s_least C i), nI (i + 1)))
        unfold f_M_least_l9
        rw [n4, if_neg (nI_ge hi (by omega)), r3]
        by_cases h0 : C 14 i = 0
        · have z0 : ¬ (nI 0 ≠ 0) := by decide
          simp only [h0, if_true, Option.bind_some, z0, if_false]
          by_cases hs : s_least C i = 0
          · rw [if_pos ((oI_ne (by omega)).mpr hs), if_pos hs, oI_s, ← nI_succ]
          · have l2 := hW.loss (s_least C i - 1)
            obtain ⟨j, hj⟩ : ∃ j, s_least C i = j + 1 := ⟨s_least C i - 1, by omega⟩
            rw [if_neg (fun e => hs ((oI_ne (by omega)).mp e)), if_neg hs, r1 i hi, r2 i hi, hj, oI_s, r1 j (by omega), r2 j (by omega)]
            rw [hj, Nat.add_sub_cancel] at l2
            simp only [Option.bind_some, na_mul, Nat.add_sub_cancel]
            by_cases hc : C 12 j * C 13 j ≤ C 12 i * C 13 i
            · rw [if_pos ((na_le (by omega) (by omega)).mpr hc), if_pos hc, oI_s, ← nI_succ]
            · rw [if_neg (fun e => hc ((na_le (by omega) (by omega)).mp e)), if_neg hc, oI_s, ← nI_succ]
        · have h1 : C 14 i = 1 := by omega
          have z1 : nI 1 ≠ 0 := by decide
          have z2 : ¬ (1 : Nat) = 0 := by decide
          simp only [h1, Option.bind_some, z1, z2, if_false]
          rw [if_pos (by decide), ← nI_succ])
      (by
        show f_M_least_l9 A _ (nI (C 0 4)) = _
        unfold f_M_least_l9
        rw [n4, if_pos (nI_le (Nat.le_refl _) (by omega))])
    show (loopN _ a_F (oI (s_least C 0), nI 0)).bind _ = _
    rw [e]; rfl
