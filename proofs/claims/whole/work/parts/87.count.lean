/-! PURE MATH: status, count, fault, line -/
theorem T_status {C : CS} {Y H NS A : Nat → Nat → Int32} (h : RL C Y H NS A) (p : Int32) : ∃ v, f_Y_status Y p = some v ∧ f_M_status A p = some (v, u2 A 0 0 0) := by
  have h' := h.thr 0
  obtain ⟨hW, hY, hH, hS, hM, hQ⟩ := h'
  unfold f_Y_status f_M_status
  generalize u2 A 0 0 0 = A at hM hQ ⊢
  obtain ⟨q0, q1⟩ := hQ
  rcases G_what (p := p) 1 (by omega) with ⟨w, hw, rfl, k1, k2, k3⟩ | ⟨k3, k4⟩
  · have k3 : f_M_within (nI w) 0 1 = some 1 := k3
    rw [k3]
    have : w = 0 ∨ w = 1 := by omega
    rcases this with rfl | rfl
    · exact ⟨A 1 0, by rw [if_pos (by decide), q0], rfl⟩
    · exact ⟨A 1 1, by rw [if_neg (by decide), if_pos (by decide), q1], rfl⟩
  · have k3 : f_M_within p 0 1 = some 0 := k3
    rw [k3]
    refine ⟨-1, ?_, rfl⟩
    rw [if_neg, if_neg]
    · rintro rfl
      exact absurd (k4 (by decide)) (by decide)
    · rintro rfl
      exact absurd (k4 (by decide)) (by decide)
theorem RMo.d0 {C : CS} {A : Nat → Nat → Int32} (h : RMo C A) : A 0 2 = nI (C 0 9) ∧ A 0 8 = oI (C 0 12) ∧ A 0 33 = nI (C 0 7) ∧ A 0 40 = nI (C 0 8) ∧ A 0 43 = nI (C 0 5) ∧ A 0 65 = nI (C 0 6) := by
  refine ⟨h 0 2 ?_, h 0 8 ?_, h 0 33 ?_, h 0 40 ?_, h 0 43 ?_, h 0 65 ?_⟩ <;> (show _ ∨ _ ∨ _ ∨ _; omega)
theorem T_count {C : CS} {Y H NS A T : Nat → Nat → Int32} (h : RL C Y H NS A) (hT : RT C T) (p : Int32) : ∃ v, f_Y_count Y T NS p = some v ∧ f_M_count A p = some (v, u2 A 0 0 0) := by
  have h' := h.thr 0
  obtain ⟨hW, hY, hH, hS, hM, hQ⟩ := h'
  unfold f_Y_count f_M_count
  generalize u2 A 0 0 0 = A at hM hQ ⊢
  obtain ⟨d2, d8, d33, d40, d43, d65⟩ := hM.d0
  have t1 : T 0 1 = nI (C 0 9) := hT 0 1 (Or.inl rfl)
  have s4 : NS 0 4 = nI (C 0 5) := hS 0 4 (Or.inr rfl)
  have y3 : Y 0 3 = nI (C 0 6) := hY
  rw [t1, s4, y3, d2, d43, d65]
  by_cases h0 : p = 0
  · exact ⟨_, by rw [if_pos h0], by rw [if_neg (fun h => h h0)]⟩
  · by_cases h1 : p = 1
    · exact ⟨_, by rw [if_neg h0, if_pos h1], by rw [if_pos h0, if_neg (fun h => h h1)]⟩
    · by_cases h2 : p = 2
      · exact ⟨_, by rw [if_neg h0, if_neg h1, if_pos h2], by rw [if_pos h0, if_pos h1, if_neg (fun h => h h2)]⟩
      · exact ⟨_, by rw [if_neg h0, if_neg h1, if_neg h2], by rw [if_pos h0, if_pos h1, if_pos h2]⟩
theorem T_fault {C : CS} {A T : Nat → Nat → Int32} (hM : RMo C A) (hT : RT C T) : ∃ v, f_Y_fault T = some v ∧ f_M_fault A = some (v, u2 A 0 0 0) := by
  have hM' := RM_thr hM 0
  unfold f_Y_fault f_M_fault
  generalize u2 A 0 0 0 = A at hM' ⊢
  have t9 : T 0 9 = oI (C 0 12) := hT 0 9 (Or.inr rfl)
  exact ⟨_, by rw [t9], by rw [hM'.d0.2.1]⟩
theorem ix2 (j f : Nat) : (2 : Int32) * nI j + nI f = nI (2 * j + f) := by
  rw [show (2 : Int32) = nI 2 from rfl, na_mul, na_add]
theorem nI_hr : ∀ n, n < 30 → nI n / 3 = nI (n / 3) ∧ a_rem (nI n) 3 = nI (n % 3) := by decide
theorem RMo.line {C : CS} {A : Nat → Nat → Int32} (h : RMo C A) {i : Nat} (hi : i < C 0 7) : A 9 (2 * i) = nI (C 17 i) ∧ A 9 (2 * i + 1) = nI (C 18 i) := by
  constructor
  · rw [h 9 (2 * i) (by show _ < _; omega)]
    show (if (2 * i) % 2 = 0 then nI (C 17 (2 * i / 2)) else _) = _
    rw [if_pos (by omega), show 2 * i / 2 = i from by omega]
  · rw [h 9 (2 * i + 1) (by show _ < _; omega)]
    show (if (2 * i + 1) % 2 = 0 then _ else nI (C 18 ((2 * i + 1) / 2))) = _
    rw [if_neg (by omega), show (2 * i + 1) / 2 = i from by omega]
/-- the same for a question that refuses by one kind alone: the reference's code is 1 there -/
def TB (C : CS) (H NS : Nat → Nat → Int32) (y : Option (Nat × Int32 × (Nat → Nat → Int32))) (m : Option (Int32 × (Nat → Nat → Int32))) (q : Nat) : Prop :=
  ∃ k v Y' v' A', y = some (k, v, Y') ∧ m = some (v', A') ∧ A' 0 0 = (if k = 0 then 0 else 1) ∧ (k = 0 ∨ k = q) ∧ (k = 0 → v = v') ∧ RL C Y' H NS A'
theorem TB.ans {C : CS} {Y H NS A : Nat → Nat → Int32} {y : Option (Nat × Int32 × (Nat → Nat → Int32))} {m : Option (Int32 × (Nat → Nat → Int32))} {q : Nat} (v : Int32) (h : RL C Y H NS A) (h0 : A 0 0 = 0) (hy : y = some (0, v, Y)) (hm : m = some (v, A)) : TB C H NS y m q := ⟨0, v, Y, v, A, hy, hm, h0, Or.inl rfl, fun _ => rfl, h⟩
theorem TB.ref {C : CS} {Y H NS A : Nat → Nat → Int32} {y : Option (Nat × Int32 × (Nat → Nat → Int32))} {m : Option (Int32 × (Nat → Nat → Int32))} (k : Nat) (hk : k < 2) (h : RL C Y H NS A) (hy : y = some (k + 1, 0, yRef Y k)) (hm : m = some (0, mRef A 1 k)) : TB C H NS y m (k + 1) := ⟨k + 1, 0, yRef Y k, 0, mRef A 1 k, hy, hm, by rw [mRef_0, if_neg (by omega)], Or.inr rfl, fun h => by omega, h.ref _ hk⟩
theorem T_line {C : CS} {Y H NS A : Nat → Nat → Int32} (h : RL C Y H NS A) (hp : ∀ i, i < C 0 7 → C 18 i < 30) (p1 p2 : Int32) : TB C H NS (f_Y_line Y NS p1 p2) (f_M_line A p1 p2) 2 := by
  have h' := h.thr 0
  obtain ⟨hW, hY, hH, hS, hM, hQ⟩ := h'
  have hA : (u2 A 0 0 0) 0 0 = 0 := thr_0 A 0
  unfold f_Y_line f_M_line
  generalize u2 A 0 0 0 = A at hM hQ hA ⊢
  have h' : RL C Y H NS A := ⟨hW, hY, hH, hS, hM, hQ⟩
  have hL := hW.n31 (j := 7) (by omega)
  have hL10 : C 0 7 ≤ 10 := by obtain ⟨_, _, _, _, _, _, _, h, _⟩ := hW; exact h
  have e3 : NS 3 0 = nI (C 0 7) := hS 3 0 rfl
  have e33 := hM.d0.2.2.1
  have z1 : ((1 : Int32) ≠ 0) = True := by simp
  have z0 : ((0 : Int32) ≠ 0) = False := by simp
  rcases G_what (p := p2) 2 (by omega) with ⟨w, hw, rfl, k1, k2, k3⟩ | ⟨k3, k4⟩
  · have k3 : f_M_within (nI w) 0 2 = some 1 := k3
    have k2 : ¬ (2 : Int32) < nI w := k2
    simp only [k1, k2, k3, if_false, Option.bind_some, sumE, Y_ref_in, M_may_in hA, eq_self, if_true, z1, e33]
    by_cases hi : inN p1 (C 0 7)
    · obtain ⟨i1, i2⟩ := (inN_iff hL).mp hi
      obtain ⟨i, hil, rfl⟩ := hi
      have hi : inN (nI i) (C 0 7) := ⟨i, hil, rfl⟩
      rw [M_within_in hL hi]
      simp only [Option.bind_some, z1, if_true, i1, if_false, e3, i2]
      have r4 : rdx (NS 4) 10 (nI i) = some (nI (C 17 i)) := by rw [rdx_nI (by omega) (by omega), hS 4 i hil]; rfl
      have r5 : rdx (NS 5) 10 (nI i) = some (nI (C 18 i)) := by rw [rdx_nI (by omega) (by omega), hS 5 i hil]; rfl
      have m0 : rdx (A 9) 20 (2 * nI i) = some (nI (C 17 i)) := by rw [show (2 : Int32) * nI i = nI (2 * i) from na_mul 2 i, rdx_nI (by omega) (by omega), (hM.line hil).1]
      have m1 : rdx (A 9) 20 (2 * nI i + 1) = some (nI (C 18 i)) := by rw [show (2 : Int32) * nI i + 1 = nI (2 * i + 1) from ix2 i 1, rdx_nI (by omega) (by omega), (hM.line hil).2]
      obtain ⟨q1, q2⟩ := nI_hr (C 18 i) (hp i hil)
      rw [r4, r5, m0, m1]
      have : w = 0 ∨ w = 1 ∨ w = 2 := by omega
      rcases this with rfl | rfl | rfl
      · exact TB.ans (nI (C 17 i)) h' hA rfl rfl
      · exact TB.ans (nI (C 18 i) / 3) h' hA rfl rfl
      · exact TB.ans (a_rem (nI (C 18 i)) 3) h' hA rfl rfl
    · rw [M_within_out hL hi]
      simp only [Option.bind_some, z0, if_false]
      refine TB.ans (-1) h' hA ?_ rfl
      by_cases i1 : p1 < 0
      · rw [if_pos i1]
      · rw [if_neg i1, e3, if_neg (fun i2 => hi ((inN_iff hL).mpr ⟨i1, i2⟩))]
  · have k3 : f_M_within p2 0 2 = some 0 := k3
    have k4 : ¬ p2 < 0 → (2 : Int32) < p2 := k4
    refine TB.ref 1 (by omega) h' ?_ ?_
    · by_cases k1 : p2 < 0
      · simp only [k1, if_true, Option.bind_some, sumE, Y_ref_out]; rfl
      · simp only [k1, k4 k1, if_false, if_true, Option.bind_some, sumE, Y_ref_out]; rfl
    · rw [k3]
      show ((f_M_may A 0 1 (nI 1)).bind _) = _
      rw [M_may_out hA (by decide) (by omega)]; rfl
