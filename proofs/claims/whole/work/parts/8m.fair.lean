/-! PURE MATH: fair -/
def s_best (b : Nat → Nat) : Nat → Nat
  | 0 => 0
  | n + 1 => if s_best b n = 0 then n + 1 else if b n ≤ b (s_best b n - 1) then s_best b n else n + 1
def s_lst (b : Nat → Nat) : Nat → Nat
  | 0 => 0
  | n + 1 => if n = 0 then b 0 else if s_lst b n ≤ b n then s_lst b n else b n
def s_most (b : Nat → Nat) : Nat → Nat
  | 0 => 0
  | n + 1 => if s_most b n < b n then b n else s_most b n
def s_who (b : Nat → Nat) (M : Nat) : Nat → Nat
  | 0 => 0
  | n + 1 => if s_who b M n ≠ 0 then s_who b M n else if b n ≠ M then 0 else n + 1
def s_min (b : Nat → Nat) (M : Nat) : Nat → Nat
  | 0 => M
  | n + 1 => if b n < s_min b M n then b n else s_min b M n
theorem best_is (b : Nat → Nat) (n : Nat) : (n = 0 ∧ s_best b n = 0) ∨ (∃ k, k < n ∧ s_best b n = k + 1 ∧ b k = s_most b n ∧ ∀ j, j < k → b j < b k) := by
  induction n with
  | zero => exact Or.inl ⟨rfl, rfl⟩
  | succ n ih =>
    refine Or.inr ?_
    unfold s_best s_most
    rcases ih with ⟨h0, h1⟩ | ⟨k, hk, h1, h2, h3⟩
    · subst h0
      refine ⟨0, by omega, by rw [if_pos h1], ?_, fun j hj => by omega⟩
      show b 0 = if 0 < b 0 then b 0 else 0
      split <;> omega
    · rw [if_neg (by omega), h1, Nat.add_sub_cancel, ← h2]
      by_cases hc : b n ≤ b k
      · refine ⟨k, by omega, by rw [if_pos hc], by rw [if_neg (by omega)], h3⟩
      · refine ⟨n, by omega, by rw [if_neg hc], by rw [if_pos (by omega)], fun j hj => ?_⟩
        have hm : ∀ n, ∀ j, j < n → b j ≤ s_most b n := by
          intro n
          induction n with
          | zero => intro j hj; omega
          | succ n ih =>
            intro j hj
            unfold s_most
            by_cases he : j = n
            · subst he; split <;> omega
            · have := ih j (by omega); split <;> omega
        have := hm n j hj
        omega
theorem most_ge (b : Nat → Nat) : ∀ n, ∀ j, j < n → b j ≤ s_most b n := by
  intro n
  induction n with
  | zero => intro j hj; omega
  | succ n ih =>
    intro j hj
    unfold s_most
    by_cases he : j = n
    · subst he; split <;> omega
    · have := ih j (by omega); split <;> omega
theorem who_is (b : Nat → Nat) (M k : Nat) (hk : b k = M) (hb : ∀ j, j < k → b j ≠ M) (n : Nat) : s_who b M n = if k < n then k + 1 else 0 := by
  induction n with
  | zero => rfl
  | succ n ih =>
    unfold s_who
    rw [ih]
    by_cases h1 : k < n
    · rw [if_pos h1, if_pos (by omega), if_pos (by omega)]
    · rw [if_neg h1, if_neg (by omega)]
      by_cases h2 : k = n
      · subst h2
        rw [if_neg (by omega), if_pos (by omega)]
      · rw [if_pos (hb n (by omega)), if_neg (by omega)]
theorem min_is (b : Nat → Nat) (M n : Nat) (h : ∀ j, j < n + 1 → b j ≤ M) : s_min b M (n + 1) = s_lst b (n + 1) := by
  induction n with
  | zero =>
    show (if b 0 < M then b 0 else M) = b 0
    have := h 0 (by omega)
    split <;> omega
  | succ n ih =>
    have ih := ih (fun j hj => h j (by omega))
    show (if b (n + 1) < s_min b M (n + 1) then b (n + 1) else s_min b M (n + 1)) = if n + 1 = 0 then b 0 else if s_lst b (n + 1) ≤ b (n + 1) then s_lst b (n + 1) else b (n + 1)
    rw [if_neg (show ¬ n + 1 = 0 by omega), ih]
    split <;> split <;> omega
theorem s_who_le (b : Nat → Nat) (M n : Nat) : s_who b M n ≤ n := by
  induction n with
  | zero => exact Nat.le_refl _
  | succ n ih => unfold s_who; split <;> (try split) <;> omega
theorem s_min_lt (b : Nat → Nat) (M n U : Nat) (hM : M < U) (hb : ∀ j, j < n → b j < U) : s_min b M n < U := by
  induction n with
  | zero => exact hM
  | succ n ih =>
    unfold s_min
    have := ih (fun j hj => hb j (by omega))
    have := hb n (by omega)
    split <;> omega
theorem s_most_lt (b : Nat → Nat) (n U : Nat) (h0 : 0 < U) (hb : ∀ j, j < n → b j < U) : s_most b n < U := by
  induction n with
  | zero => exact h0
  | succ n ih =>
    unfold s_most
    have := ih (fun j hj => hb j (by omega))
    have := hb n (by omega)
    split <;> omega
theorem s_lst_lt (b : Nat → Nat) (n U : Nat) (h0 : 0 < U) (hb : ∀ j, j < n → b j < U) : s_lst b n < U := by
  induction n with
  | zero => exact h0
  | succ n ih =>
    unfold s_lst
    have := ih (fun j hj => hb j (by omega))
    have h1 := hb n (by omega)
    split
    · rename_i he; subst he; exact h1
    · split <;> omega
theorem tsum_le (f : Nat → Nat) (B n : Nat) (h : ∀ i, f i ≤ B) : tsum f n ≤ n * B := by
  induction n with
  | zero => show 0 ≤ 0 * B; omega
  | succ n ih =>
    show tsum f n + f n ≤ (n + 1) * B
    have := h n
    rw [Nat.add_mul]
    omega
/-- times are no more than ten millions -/
def WFT (tm : Nat → Nat) : Prop := ∀ m, tm m ≤ 10000000
theorem s_bears_lt {C : CS} {tm : Nat → Nat} (hW : WFC C) (hT : WFT tm) (p : Nat) : s_bears C tm p < 2 ^ 31 := by
  have h := tsum_le (fun m => if (C 8 m).testBit p then tm m else 0) 10000000 (C 0 3) (fun i => by
    have := hT i
    show (if _ then _ else _) ≤ _
    split <;> omega)
  have hN := hW.2.2.2.1
  have : C 0 3 * 10000000 ≤ 10 * 10000000 := Nat.mul_le_mul_right _ hN
  unfold s_bears
  omega
theorem Y_mostBorne {C : CS} {H BO : Nat → Nat → Int32} {pl tm : Nat → Nat} (hW : WFC C) (hH : RH C H) (hB : RB C pl tm BO) (hT : WFT tm) : f_Board_mostBorne H BO = some (nI (s_most (s_bears C tm) (C 0 2))) := by
  have hP := hW.2.2.1
  have h02 : H 0 2 = nI (C 0 2) := hH 0 2 (show 2 < 6 by omega)
  unfold f_Board_mostBorne
  have e := loop_S (body := fun q => f_Board_mostBorne_l4 H BO q.1 q.2) (C 0 2) (fun i => (nI (s_most (s_bears C tm) i), nI i)) (b := nI (s_most (s_bears C tm) (C 0 2))) 0 (by omega) (by omega)
    (fun i _ hi => by
      have h1 := s_bears_lt hW hT i
      have h2 := s_most_lt (s_bears C tm) i (2 ^ 31) (by omega) (fun j _ => s_bears_lt hW hT j)
      show f_Board_mostBorne_l4 H BO (nI _) (nI i) = some (Sum.inl (nI (if s_most (s_bears C tm) i < s_bears C tm i then s_bears C tm i else s_most (s_bears C tm) i), nI (i + 1)))
      unfold f_Board_mostBorne_l4
      rw [h02, if_neg (nI_ge hi (by omega)), Y_bears hW hH hB (by omega), obs]
      unfold f_Math_max
      simp only [show (nI (s_most (s_bears C tm) i) < nI (s_bears C tm i)) = (s_most (s_bears C tm) i < s_bears C tm i) from propext (na_lt h2 h1)]
      split <;> rw [obs, nI_succ])
    (by
      show f_Board_mostBorne_l4 H BO _ (nI (C 0 2)) = _
      unfold f_Board_mostBorne_l4
      rw [h02, if_pos (nI_le (Nat.le_refl _) (by omega))])
  show (loopN _ a_F (nI (s_most (s_bears C tm) 0), nI 0)).bind _ = _
  rw [e, obs]
theorem T_fair {C : CS} {Y H NS A BO : Nat → Nat → Int32} {r5 hm : Nat} (h : RL C Y H NS A) (hT : WFT (C 16)) (p1 : Int32) : TD C H NS (f_Y_fair Y H NS BO hm r5 p1) (f_M_fair A p1) cd1 (fun k => k = 2) := by
  have h' := h.thr 0
  obtain ⟨hW, hY, hH, hS, hM, hQ⟩ := h'
  have hA : (u2 A 0 0 0) 0 0 = 0 := thr_0 A 0
  unfold f_Y_fair f_M_fair
  generalize u2 A 0 0 0 = A at hM hQ hA ⊢
  have h' : RL C Y H NS A := ⟨hW, hY, hH, hS, hM, hQ⟩
  have z1 : ((1 : Int32) ≠ 0) = True := by simp
  have hP := hW.2.2.1
  rcases G_what (p := p1) 1 (by omega) with ⟨w, hw, rfl, k1, k2, k3⟩ | ⟨k3, k4⟩
  · have k3 : f_M_within (nI w) 0 1 = some 1 := k3
    have k2 : ¬ (1 : Int32) < nI w := k2
    obtain ⟨B', b1, b2⟩ := T_look BO hW hH hS
    simp only [k1, k2, k3, if_false, obs, se_r, Y_ref_in, M_may_in hA, if_true, z1, b1, Y_mostBorne hW hH b2 hT]
    have bl := fun p => s_bears_lt hW hT p
    generalize hb : s_bears C (C 16) = b at bl
    have hY' : ∀ p, p < 32 → f_Board_bears H B' (nI p) = some (nI (b p)) := fun p hp => by rw [Y_bears hW hH b2 hp, hb]
    have hM' : ∀ p, p < 32 → f_M_bornBy A (nI p) = some (nI (b p)) := fun p hp => by rw [M_bornBy hW hM hp, hb]
    have h02 : H 0 2 = nI (C 0 2) := hH 0 2 (show 2 < 6 by omega)
    have n2 : A 0 25 = nI (C 0 2) := hM.n (j := 2) (by omega)
    have hM1 := s_most_lt b (C 0 2) (2 ^ 31) (by omega) (fun j _ => bl j)
    generalize hM2 : s_most b (C 0 2) = M at hM1
    have eY := loop_S (body := fun q => f_Y_fair_l37 H B' (nI M) q.1 q.2.1 q.2.2) (C 0 2) (fun i => (nI (s_min b M i), oI (s_who b M i), nI i)) (b := (nI (s_min b M (C 0 2)), oI (s_who b M (C 0 2)))) 0 (by omega) (by omega)
      (fun i _ hi => by
        have hl := s_who_le b M i
        have hm := s_min_lt b M i (2 ^ 31) hM1 (fun j _ => bl j)
        show f_Y_fair_l37 H B' (nI M) (nI _) (oI _) (nI i) = some (Sum.inl (nI (if b i < s_min b M i then b i else s_min b M i), oI (if s_who b M i ≠ 0 then s_who b M i else if b i ≠ M then 0 else i + 1), nI (i + 1)))
        unfold f_Y_fair_l37
        rw [h02, if_neg (nI_ge hi (by omega)), hY' i (by omega), obs]
        unfold f_Math_min
        have m1 : (if nI (b i) < nI (s_min b M i) then (some (nI (b i)) : Option Int32) else some (nI (s_min b M i))) = some (nI (if b i < s_min b M i then b i else s_min b M i)) := by
          simp only [show (nI (b i) < nI (s_min b M i)) = (b i < s_min b M i) from propext (na_lt (bl i) hm)]
          split <;> rfl
        rw [m1, obs]
        simp only [ne_eq, oI_z (show s_who b M i ≤ 30 by omega), nI_eqP (bl i) hM1]
        by_cases c1 : s_who b M i = 0 <;> by_cases c2 : b i = M <;> simp only [c1, c2, not_true, not_false_eq_true, if_true, if_false, oI_s, nI_succ])
      (by
        show f_Y_fair_l37 H B' (nI M) _ _ (nI (C 0 2)) = _
        unfold f_Y_fair_l37
        rw [h02, if_pos (nI_le (Nat.le_refl _) (by omega))])
    have eM := loop_S (body := fun q => f_M_fair_l29 A q.1 q.2.1 q.2.2) (C 0 2) (fun i => (oI (s_best b i), nI (s_lst b i), nI i)) (b := (oI (s_best b (C 0 2)), nI (s_lst b (C 0 2)))) 0 (by omega) (by omega)
      (fun i _ hi => by
        have hl := s_lst_lt b i (2 ^ 31) (by omega) (fun j _ => bl j)
        show f_M_fair_l29 A (oI _) (nI _) (nI i) = some (Sum.inl (oI (if s_best b i = 0 then i + 1 else if b i ≤ b (s_best b i - 1) then s_best b i else i + 1), nI (if i = 0 then b 0 else if s_lst b i ≤ b i then s_lst b i else b i), nI (i + 1)))
        unfold f_M_fair_l29
        rw [n2, if_neg (nI_ge hi (by omega)), hM' i (by omega)]
        have m1 : ((((if nI i = 0 then (some (.inl ()) : Option (Unit ⊕ Int32)) else (some (nI (b i))).bind fun x7 => if nI (s_lst b i) ≤ x7 then some (.inr (nI (s_lst b i))) else some (.inl ()))).bind fun b8 => sumE b8 (fun _ => (some (nI (b i))).bind fun x8 => some x8) (fun q => some q)) : Option Int32) = some (nI (if i = 0 then b 0 else if s_lst b i ≤ b i then s_lst b i else b i)) := by
          simp only [obs, show (nI i = 0) = (i = 0) from nI_eqP (b := 0) (by omega) (by omega), show (nI (s_lst b i) ≤ nI (b i)) = (s_lst b i ≤ b i) from propext (na_le hl (bl i))]
          by_cases c0 : i = 0
          · subst c0
            rw [if_pos rfl, if_pos rfl, obs, se_l]
          · rw [if_neg c0, if_neg c0]
            split
            · rw [obs, se_r]
            · rw [obs, se_l]
        rw [m1, obs]
        rcases best_is b i with ⟨h0, h1⟩ | ⟨k, hk, h1, h2, h3⟩
        · subst h0
          rw [h1, if_pos (show oI 0 = -1 from rfl), if_pos (show (0 : Nat) = 0 from rfl), if_pos (show (0 : Nat) = 0 from rfl), oI_s, nI_succ]
        · rw [h1, if_neg (fun e => by
            have := (oI_ne (show k + 1 ≤ 30 by omega)).mp e
            omega), if_neg (show ¬ k + 1 = 0 by omega), oI_s, hM' k (by omega), obs, obs, Nat.add_sub_cancel]
          simp only [show (nI (b i) ≤ nI (b k)) = (b i ≤ b k) from propext (na_le (bl i) (bl k))]
          by_cases c : b i ≤ b k
          · rw [if_pos c, if_pos c, oI_s, nI_succ]
          · rw [if_neg c, if_neg c, oI_s, nI_succ])
      (by
        show f_M_fair_l29 A _ _ (nI (C 0 2)) = _
        unfold f_M_fair_l29
        rw [n2, if_pos (nI_le (Nat.le_refl _) (by omega))])
    have eY' : loopN (fun q => f_Y_fair_l37 H B' (nI M) q.1 q.2.1 q.2.2) a_F (nI M, -1, 0) = some (nI (s_min b M (C 0 2)), oI (s_who b M (C 0 2))) := eY
    have eM' : loopN (fun q => f_M_fair_l29 A q.1 q.2.1 q.2.2) a_F (-1, 0, 0) = some (oI (s_best b (C 0 2)), nI (s_lst b (C 0 2))) := eM
    rw [eY', eM', obs, obs]
    have hcases : (C 0 2 = 0 ∧ s_best b (C 0 2) = 0) ∨ ∃ k, k < C 0 2 ∧ s_best b (C 0 2) = k + 1 ∧ b k = M ∧ s_who b M (C 0 2) = k + 1 ∧ s_min b M (C 0 2) = s_lst b (C 0 2) := by
      rcases best_is b (C 0 2) with h0 | ⟨k, hk, h1, h2, h3⟩
      · exact Or.inl h0
      · refine Or.inr ⟨k, hk, h1, by rw [h2, hM2], ?_, ?_⟩
        · rw [who_is b M k (by rw [h2, hM2]) (fun j hj => by have := h3 j hj; rw [h2, hM2] at this; omega), if_pos hk]
        · obtain ⟨n, hn⟩ : ∃ n, C 0 2 = n + 1 := ⟨C 0 2 - 1, by omega⟩
          have := most_ge b (C 0 2)
          rw [hM2] at this
          rw [hn] at this ⊢
          exact min_is b M n this
    have hw2 : w = 0 ∨ w = 1 := by omega
    rcases hcases with ⟨h0, h1⟩ | ⟨k, hk, h1, h2, h3, h4⟩
    · have hMz : M = 0 := by rw [← hM2, h0]; rfl
      rw [h1, h0]
      rcases hw2 with rfl | rfl
      · refine TD.ans (B := B') (r := hm) 0 h' hA rfl ?_ ?_
        · rw [if_neg (show ¬ (nI 0 ≠ 0) by decide), hMz]
          show some (0, nI 0 - nI 0, Y, B', hm) = _
          rw [show nI 0 - nI 0 = 0 from by decide]
        · rw [if_pos (show nI 0 ≠ 1 by decide), if_neg (show ¬ (oI 0 ≠ -1) by decide)]
      · refine TD.ans (B := B') (r := hm) (-1) h' hA rfl ?_ ?_
        · rw [if_pos (show nI 1 ≠ 0 by decide)]; rfl
        · rw [if_neg (show ¬ (nI 1 ≠ 1) by decide)]; rfl
    · rw [h1, h3, h4]
      rcases hw2 with rfl | rfl
      · refine TD.ans (B := B') (r := hm) (nI M - nI (s_lst b (C 0 2))) h' hA rfl ?_ ?_
        · rw [if_neg (show ¬ (nI 0 ≠ 0) by decide)]
        · rw [if_pos (show nI 0 ≠ 1 by decide), if_pos (fun e => by
            have := (oI_ne (show k + 1 ≤ 30 by omega)).mp e
            omega), oI_s, hM' k (by omega), obs, h2]
      · refine TD.ans (B := B') (r := hm) (oI (k + 1)) h' hA rfl ?_ ?_
        · rw [if_pos (show nI 1 ≠ 0 by decide)]
        · rw [if_neg (show ¬ (nI 1 ≠ 1) by decide)]
  · have k3 : f_M_within p1 0 1 = some 0 := k3
    have k4 : ¬ p1 < 0 → (1 : Int32) < p1 := k4
    refine TD.ref (B := BO) (r := r5) 1 (by omega) h' rfl ?_ ?_
    · by_cases k1 : p1 < 0
      · simp only [k1, if_true, obs, se_l, Y_ref_out]; rfl
      · simp only [k1, k4 k1, if_false, if_true, obs, se_l, Y_ref_out]; rfl
    · rw [k3]
      show ((f_M_may A 0 1 (nI 1)).bind _) = _
      rw [M_may_out hA (by decide) (by omega)]; rfl
