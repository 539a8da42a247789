/-! PURE MATH: an act is kept -/
theorem nI_cl {k : Nat} (h : k < 2 ^ 31) : (nI k).toNatClampNeg = k := by
  show (nI k).toInt.toNat = k
  rw [nI_toInt h]
  rfl
theorem cl_0 : (0 : Int32).toNatClampNeg = 0 := by decide
theorem cl_10 : (10 : Int32).toNatClampNeg = 10 := by decide
theorem u1_60 (A : Nat → Nat → Int32) (f : Nat → Int32) (b : Nat) : u1 A 6 f 0 b = A 0 b := rfl
theorem u1_70 (A : Nat → Nat → Int32) (f : Nat → Int32) (b : Nat) : u1 A 7 f 0 b = A 0 b := rfl
theorem u1_62 (A : Nat → Nat → Int32) (f : Nat → Int32) : u1 A 6 f 2 = A 2 := rfl
theorem u1_67 (A : Nat → Nat → Int32) (f : Nat → Int32) : u1 A 6 f 7 = A 7 := rfl
theorem cpyN (f g : Nat → Int32) {d n k : Nat} (h : d ≤ k ∧ k < d + n) (s : Nat) : a_cpy f g s d n k = f (s + (k - d)) := by
  unfold a_cpy
  rw [if_pos h]
theorem cpyO (f g : Nat → Int32) {d n k : Nat} (h : ¬ (d ≤ k ∧ k < d + n)) (s : Nat) : a_cpy f g s d n k = g k := by
  unfold a_cpy
  rw [if_neg h]
theorem keepC_22 (C : CS) (j : Nat) : keepC C 22 j = if 10 * C 0 5 ≤ j ∧ j < 10 * C 0 5 + 10 then C 15 (j - 10 * C 0 5) else C 22 j := by
  unfold keepC
  rw [if_neg (fun h => by have := h.1; omega)]
  by_cases h : 10 * C 0 5 ≤ j ∧ j < 10 * C 0 5 + 10
  · rw [if_pos ⟨rfl, h⟩, if_pos h]
  · rw [if_neg (fun g => h g.2), if_neg (fun g => by have := g.1; omega), if_neg h]
theorem keepC_23 (C : CS) (j : Nat) : keepC C 23 j = if 10 * C 0 5 ≤ j ∧ j < 10 * C 0 5 + 10 then C 16 (j - 10 * C 0 5) else C 23 j := by
  unfold keepC
  rw [if_neg (fun h => by have := h.1; omega), if_neg (fun h => by have := h.1; omega)]
  by_cases h : 10 * C 0 5 ≤ j ∧ j < 10 * C 0 5 + 10
  · rw [if_pos ⟨rfl, h⟩, if_pos h]
  · rw [if_neg (fun g => h g.2), if_neg h]
theorem Y_act {C : CS} {NS BO : Nat → Nat → Int32} {pl tm : Nat → Nat} (hW : WFC C) (hS : RS C NS) (h5 : C 0 5 < 30) (hb1 : ∀ m, m < C 0 3 → BO 1 m = oI (pl m)) (hb2 : ∀ m, m < C 0 3 → BO 2 m = nI (tm m)) :
    ∃ NS', f_State_act NS BO = some NS' ∧ RS (setPT (keepC C) pl tm) NS' := by
  have hN := hW.2.2.2.1
  have e04 : NS 0 4 = nI (C 0 5) := hS 0 4 (Or.inr rfl)
  have c10 : ∀ k, k < 30 → (nI k * 10).toNatClampNeg = k * 10 := fun k hk => by rw [show (10 : Int32) = nI 10 from rfl, na_mul, nI_cl (by omega)]
  have cn : ∀ k, k < 30 → ¬ (nI k * 10 < 0) := fun k hk => by
    rw [show (10 : Int32) = nI 10 from rfl, na_mul]; exact nI_pos (by omega)
  unfold f_State_act f_State_isFull
  rw [e04, show (30 : Int32) = nI 30 from rfl, if_pos ((na_lt (by omega) (by omega)).mpr h5), obs, if_pos zb_0]
  simp only [u1_60, u1_70, u1_62, u1_67, e04, c10 _ h5, cl_0, cl_10]
  have g1 : ¬ ((0 : Int32) < 0 ∨ nI (C 0 5) * 10 < 0 ∨ (10 : Int32) < 0 ∨ 10 < 0 + 10 ∨ 300 < C 0 5 * 10 + 10) := by
    rintro (h | h | h | h | h)
    · revert h; decide
    · exact cn _ h5 h
    · revert h; decide
    · omega
    · omega
  have g2 : ¬ ((0 : Int32) < 0 ∨ (0 : Int32) < 0 ∨ (10 : Int32) < 0 ∨ 10 < 0 + 10 ∨ 10 < 0 + 10) := by decide
  rw [if_neg g1, if_neg g1, if_neg g2, if_neg g2]
  refine ⟨_, rfl, ?_⟩
  intro a b hd
  have hd : nD (keepC C) a b := hd
  have k0 : ∀ j, j ≠ 5 → keepC C 0 j = C 0 j := fun j hj => by
    unfold keepC
    rw [if_neg (fun h => hj h.2), if_neg (fun h => by have := h.1; omega), if_neg (fun h => by have := h.1; omega)]
  match a, hd with
  | 0, hd =>
    have hb : b = 3 ∨ b = 4 := hd
    rcases hb with rfl | rfl
    · show NS 0 3 = nI (bs (fun h => C 14 h = 1) (C 0 4))
      exact hS 0 3 (Or.inl rfl)
    · show nI (C 0 5) + 1 = nI (C 0 5 + 1)
      rw [nI_succ]
  | 1, hd =>
    have hb : b < C 0 3 := hd
    show a_cpy (BO 1) (NS 1) 0 0 10 b = oI (pl b)
    rw [cpyN _ _ (by omega), Nat.sub_zero, Nat.zero_add, hb1 b hb]
  | 2, hd =>
    have hb : b < C 0 3 := hd
    show a_cpy (BO 2) (NS 2) 0 0 10 b = nI (tm b)
    rw [cpyN _ _ (by omega), Nat.sub_zero, Nat.zero_add, hb2 b hb]
  | 3, hd => exact hS 3 b hd
  | 4, hd => exact hS 4 b hd
  | 5, hd => exact hS 5 b hd
  | 6, hd =>
    have hb : b / 10 < C 0 5 + 1 ∧ b % 10 < C 0 3 := hd
    show a_cpy (NS 1) (NS 6) 0 (C 0 5 * 10) 10 b = oI (keepC C 22 b)
    rw [keepC_22]
    by_cases hc : 10 * C 0 5 ≤ b ∧ b < 10 * C 0 5 + 10
    · rw [if_pos hc, cpyN _ _ (by omega), Nat.zero_add, show b - C 0 5 * 10 = b - 10 * C 0 5 from by omega, hS 1 (b - 10 * C 0 5) (show _ < C 0 3 by omega)]
      rfl
    · rw [if_neg hc, cpyO _ _ (by omega), hS 6 b (show _ ∧ _ by omega)]
      rfl
  | 7, hd =>
    have hb : b / 10 < C 0 5 + 1 ∧ b % 10 < C 0 3 := hd
    show a_cpy (NS 2) (NS 7) 0 (C 0 5 * 10) 10 b = nI (keepC C 23 b)
    rw [keepC_23]
    by_cases hc : 10 * C 0 5 ≤ b ∧ b < 10 * C 0 5 + 10
    · rw [if_pos hc, cpyN _ _ (by omega), Nat.zero_add, show b - C 0 5 * 10 = b - 10 * C 0 5 from by omega, hS 2 (b - 10 * C 0 5) (show _ < C 0 3 by omega)]
      rfl
    · rw [if_neg hc, cpyO _ _ (by omega), hS 7 b (show _ ∧ _ by omega)]
      rfl
/-- the reference's past, the first i of the new act written -/
def kp (A : Nat → Nat → Int32) (n i : Nat) : Nat → Nat → Int32 := fun a b => if a = 12 ∧ b / 20 = n ∧ b % 20 % 10 < i then (if b % 20 < 10 then A 7 (b % 20) else A 8 (b % 20 - 10)) else A a b
theorem M_keepsAct {C : CS} {A : Nat → Nat → Int32} (hW : WFC C) (hM : RMo C A) (h5 : C 0 5 < 30) :
    ∃ A', f_M_keepsAct A = some A' ∧ RMo (keepC C) A' ∧ (∀ a b, a ≠ 12 → ¬ (a = 0 ∧ b = 43) → A' a b = A a b) := by
  have hN := hW.2.2.2.1
  have e43 : A 0 43 = nI (C 0 5) := hM.d0.2.2.2.2.1
  unfold f_M_keepsAct
  have e := loop_for (body := fun q => f_M_keepsAct_l2 q.1 q.2) 10 (fun i => kp A (C 0 5) i) (b := kp A (C 0 5) 10) 0 (by omega) (by omega)
    (fun i _ hi => by
      have r7 : rdx (kp A (C 0 5) i 7) 10 (nI i) = some (A 7 i) := by
        rw [rdx_nI hi (by omega)]; unfold kp; rw [if_neg (by omega)]
      have r43 : kp A (C 0 5) i 0 43 = nI (C 0 5) := by unfold kp; rw [if_neg (by omega), e43]
      have r8 : kp A (C 0 5) i 8 i = A 8 i := by unfold kp; rw [if_neg (by omega)]
      have i1 : (20 : Int32) * nI (C 0 5) + nI i = nI (20 * C 0 5 + i) := by rw [show (20 : Int32) = nI 20 from rfl, na_mul, na_add]
      have i2 : (20 : Int32) * nI (C 0 5) + 10 + nI i = nI (20 * C 0 5 + 10 + i) := by rw [show (20 : Int32) = nI 20 from rfl, show (10 : Int32) = nI 10 from rfl, na_mul, na_add, na_add]
      show f_M_keepsAct_l2 (nI i) (kp A (C 0 5) i) = some (Sum.inl (nI (i + 1), kp A (C 0 5) (i + 1)))
      unfold f_M_keepsAct_l2
      rw [show (10 : Int32) = nI 10 from rfl, if_neg (nI_ge hi (by omega)), r7, obs, r43, i1, ixx_nI (by omega) (by omega), obs, rdx_nI hi (by omega), obs, u2_row _ _ (show (0 : Nat) ≠ 12 by decide), r43, u2_row _ _ (show (8 : Nat) ≠ 12 by decide)]
      rw [show (20 : Int32) * nI (C 0 5) + nI 10 + nI i = nI (20 * C 0 5 + 10 + i) from i2, ixx_nI (by omega) (by omega), obs, ← nI_succ, r8]
      congr 3
      funext a b
      rw [u2_eq, u2_eq]
      unfold kp
      by_cases ha : a = 12
      · subst ha
        by_cases hb : b = 20 * C 0 5 + 10 + i
        · have m1 : b % 20 = 10 + i := by omega
          have m2 : b % 20 % 10 = i := by omega
          have m3 : b / 20 = C 0 5 := by omega
          rw [if_pos ⟨rfl, hb⟩, if_pos (show 12 = 12 ∧ b / 20 = C 0 5 ∧ b % 20 % 10 < i + 1 from ⟨rfl, m3, by omega⟩), if_neg (show ¬ b % 20 < 10 by omega), show b % 20 - 10 = i from by omega]
        · rw [if_neg (fun h => hb h.2)]
          by_cases hb2 : b = 20 * C 0 5 + i
          · have m1 : b % 20 = i := by omega
            have m2 : b % 20 % 10 = i := by omega
            have m3 : b / 20 = C 0 5 := by omega
            rw [if_pos ⟨rfl, hb2⟩, if_pos (show 12 = 12 ∧ b / 20 = C 0 5 ∧ b % 20 % 10 < i + 1 from ⟨rfl, m3, by omega⟩), if_pos (show b % 20 < 10 by omega), m1]
          · rw [if_neg (fun h => hb2 h.2)]
            by_cases hc : b / 20 = C 0 5 ∧ b % 20 % 10 < i
            · rw [if_pos (show 12 = 12 ∧ b / 20 = C 0 5 ∧ b % 20 % 10 < i from ⟨rfl, hc⟩), if_pos (show 12 = 12 ∧ b / 20 = C 0 5 ∧ b % 20 % 10 < i + 1 from ⟨rfl, hc.1, by omega⟩)]
            · rw [if_neg (fun h => hc h.2), if_neg (fun h => hc ⟨h.2.1, by have := h.2; omega⟩)]
      · rw [if_neg (fun h => ha h.1), if_neg (fun h => ha h.1), if_neg (fun h => ha h.1), if_neg (fun h => ha h.1)])
    (by
      show f_M_keepsAct_l2 (nI 10) _ = _
      unfold f_M_keepsAct_l2
      rw [if_pos (by decide)])
  have e0 : kp A (C 0 5) 0 = A := by
    funext a b
    unfold kp
    rw [if_neg (by omega)]
  rw [e0] at e
  rw [show ((0 : Int32), A) = (nI 0, A) from rfl, e, obs]
  have r43 : kp A (C 0 5) 10 0 43 = nI (C 0 5) := by unfold kp; rw [if_neg (by omega), e43]
  rw [r43, ← nI_succ]
  refine ⟨_, rfl, ?_, ?_⟩
  · have hst := (same_keep C).st
    intro a b hd
    rw [u2_eq]
    by_cases h43 : a = 0 ∧ b = 43
    · rw [if_pos h43]
      obtain ⟨rfl, rfl⟩ := h43
      rfl
    · rw [if_neg h43]
      by_cases h12 : a = 12
      · subst h12
        have hb : b / 20 < C 0 5 + 1 ∧ b % 20 % 10 < C 0 3 := hd
        unfold kp
        show _ = if b % 20 < 10 then oI (keepC C 22 (10 * (b / 20) + b % 20)) else nI (keepC C 23 (10 * (b / 20) + (b % 20 - 10)))
        rw [keepC_22, keepC_23]
        by_cases hn : b / 20 = C 0 5
        · rw [if_pos ⟨rfl, hn, by omega⟩]
          by_cases hl : b % 20 < 10
          · rw [if_pos hl, if_pos hl, if_pos ⟨by omega, by omega⟩, hM.here (by omega), show 10 * (b / 20) + b % 20 - 10 * C 0 5 = b % 20 from by omega]
          · rw [if_neg hl, if_neg hl, if_pos ⟨by omega, by omega⟩, hM.times (by omega), show 10 * (b / 20) + (b % 20 - 10) - 10 * C 0 5 = b % 20 - 10 from by omega]
        · rw [if_neg (fun h => hn h.2.1), hM 12 b (show _ ∧ _ by omega)]
          show (if b % 20 < 10 then oI (C 22 (10 * (b / 20) + b % 20)) else nI (C 23 (10 * (b / 20) + (b % 20 - 10)))) = _
          by_cases hl : b % 20 < 10
          · rw [if_pos hl, if_pos hl, if_neg (by omega)]
          · rw [if_neg hl, if_neg hl, if_neg (by omega)]
      · have hk : kp A (C 0 5) 10 a b = A a b := by
          unfold kp
          rw [if_neg (fun h => h12 h.1)]
        rw [hk]
        have k0 : ∀ j, j ≠ 5 → keepC C 0 j = C 0 j := fun j hj => by
          unfold keepC
          rw [if_neg (fun h => hj h.2), if_neg (fun h => by have := h.1; omega), if_neg (fun h => by have := h.1; omega)]
        have hd' : mD C a b := by
          unfold mD at hd ⊢
          simp only [hst] at hd
          split at hd <;> first | exact hd | contradiction
        rw [hM a b hd']
        unfold mV
        simp only [hst]
        split
        · repeat' split
          all_goals first | rfl | (rw [k0 _ (by omega)]) | (exfalso; omega) | skip
        all_goals first | rfl | contradiction
  · intro a b h12 h43
    rw [u2_eq, if_neg h43]
    unfold kp
    rw [if_neg (fun h => h12 h.1)]
