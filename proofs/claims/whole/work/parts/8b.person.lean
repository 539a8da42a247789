/-! PURE MATH: person -/
theorem bs_and (p q : Nat → Prop) [DecidablePred p] [DecidablePred q] (n : Nat) : bs p n &&& bs q n = bs (fun m => p m ∧ q m) n := by
  apply Nat.eq_of_testBit_eq
  intro i
  rw [Nat.testBit_and, bs_bit, bs_bit, bs_bit]
  by_cases h1 : i < n <;> by_cases h2 : p i <;> by_cases h3 : q i <;> simp [h1, h2, h3]
def tsum (f : Nat → Nat) : Nat → Nat
  | 0 => 0
  | n + 1 => tsum f n + f n
/-- what a person bears -/
def s_bears (C : CS) (tm : Nat → Nat) (p : Nat) : Nat := tsum (fun m => if (C 8 m).testBit p then tm m else 0) (C 0 3)
theorem Y_meetingsOf {C : CS} {H : Nat → Nat → Int32} (hW : WFC C) (hH : RH C H) {p : Nat} (hp : p < 32) : f_House_meetingsOf H (nI p) = some (nI (bs (fun m => (C 8 m).testBit p = true) (C 0 3))) := by
  have hN := hW.2.2.2.1
  have h03 : H 0 3 = nI (C 0 3) := hH 0 3 (show 3 < 6 by omega)
  have z10 : ¬ (1 : Int32) = 0 := by decide
  unfold f_House_meetingsOf
  have e := loop_S (body := fun q => f_House_meetingsOf_l4 H (nI p) q.1 q.2) (C 0 3) (fun i => (nI (bs (fun m => (C 8 m).testBit p = true) i), nI i)) (b := nI (bs (fun m => (C 8 m).testBit p = true) (C 0 3))) 0 (by omega) (by omega)
    (fun i _ hi => by
      show f_House_meetingsOf_l4 H (nI p) (nI (bs (fun m => (C 8 m).testBit p = true) i)) (nI i) = _
      unfold f_House_meetingsOf_l4
      rw [h03, if_neg (nI_ge hi (by omega)), Y_isMember hW hH hi hp]
      by_cases hm : (C 8 i).testBit p = true
      · simp only [hm, if_true, Option.bind_some, z10, if_false]
        rw [← nI_succ, shl_1 _ (by omega), na_or, bs_hit (p := fun m => (C 8 m).testBit p = true) hm]
      · simp only [hm, if_false, Option.bind_some, if_true]
        rw [← nI_succ, bs_miss (p := fun m => (C 8 m).testBit p = true) hm]
        rfl)
    (by
      show f_House_meetingsOf_l4 H (nI p) _ (nI (C 0 3)) = _
      unfold f_House_meetingsOf_l4
      rw [h03, if_pos (nI_le (Nat.le_refl _) (by omega))])
  show (loopN _ a_F (nI (bs (fun m => (C 8 m).testBit p = true) 0), nI 0)).bind _ = _
  rw [e]; rfl
theorem Y_bears {C : CS} {H BO : Nat → Nat → Int32} {pl tm : Nat → Nat} (hW : WFC C) (hH : RH C H) (hB : RB C pl tm BO) {p : Nat} (hp : p < 32) : f_Board_bears H BO (nI p) = some (nI (s_bears C tm p)) := by
  have hN := hW.2.2.2.1
  have h03 : H 0 3 = nI (C 0 3) := hH 0 3 (show 3 < 6 by omega)
  have z10 : ¬ (1 : Int32) = 0 := by decide
  unfold f_Board_bears
  have e := loop_S (body := fun q => f_Board_bears_l4 H BO (nI p) q.1 q.2) (C 0 3) (fun i => (nI (tsum (fun m => if (C 8 m).testBit p then tm m else 0) i), nI i)) (b := nI (s_bears C tm p)) 0 (by omega) (by omega)
    (fun i _ hi => by
      show f_Board_bears_l4 H BO (nI p) (nI (tsum (fun m => if (C 8 m).testBit p then tm m else 0) i)) (nI i) = _
      unfold f_Board_bears_l4
      rw [h03, if_neg (nI_ge hi (by omega)), Y_isMember hW hH hi hp, rdx_nI (by omega) (by omega), hB.2.1 i hi]
      show _ = some (Sum.inl (nI (tsum (fun m => if (C 8 m).testBit p then tm m else 0) i + (if (C 8 i).testBit p then tm i else 0)), nI (i + 1)))
      by_cases hm : (C 8 i).testBit p = true
      · simp only [hm, if_true, Option.bind_some, z10, if_false]
        rw [← nI_succ, na_add]
      · simp only [hm, if_false, Option.bind_some, if_true]
        rw [← nI_succ]
        rfl)
    (by
      show f_Board_bears_l4 H BO (nI p) _ (nI (C 0 3)) = _
      unfold f_Board_bears_l4
      rw [h03, if_pos (nI_le (Nat.le_refl _) (by omega))]
      rfl)
  show (loopN _ a_F (nI (tsum (fun m => if (C 8 m).testBit p then tm m else 0) 0), nI 0)).bind _ = _
  rw [e]; rfl
theorem M_bornBy {C : CS} {A : Nat → Nat → Int32} (hW : WFC C) (hM : RMo C A) {p : Nat} (hp : p < 32) : f_M_bornBy A (nI p) = some (nI (s_bears C (C 16) p)) := by
  have hN := hW.2.2.2.1
  have n3 : A 0 26 = nI (C 0 3) := hM.n (j := 3) (by omega)
  unfold f_M_bornBy
  have e := loop_S (body := fun q => f_M_bornBy_l4 A (nI p) q.1 q.2) (C 0 3) (fun i => (nI (tsum (fun m => if (C 8 m).testBit p then C 16 m else 0) i), nI i)) (b := nI (s_bears C (C 16) p)) 0 (by omega) (by omega)
    (fun i _ hi => by
      obtain ⟨x, x1, x2⟩ := M_memb hW hM hi hp
      show f_M_bornBy_l4 A (nI p) (nI (tsum (fun m => if (C 8 m).testBit p then C 16 m else 0) i)) (nI i) = _
      unfold f_M_bornBy_l4
      rw [n3, if_neg (nI_ge hi (by omega)), x1, rdx_nI (by omega) (by omega), hM.times hi]
      show (if (a_shr x (nI p) &&& 1) ≠ 1 then _ else _) = some (Sum.inl (nI (tsum (fun m => if (C 8 m).testBit p then C 16 m else 0) i + (if (C 8 i).testBit p then C 16 i else 0)), nI (i + 1)))
      rw [x2]
      by_cases hm : (C 8 i).testBit p = true
      · rw [if_pos hm, if_neg (by decide), if_pos hm, ← nI_succ]
        simp only [Option.bind_some, na_add]
      · rw [if_neg hm, if_pos (by decide), if_neg hm, ← nI_succ, show (0 : Int32) = nI 0 from rfl, na_add])
    (by
      show f_M_bornBy_l4 A (nI p) _ (nI (C 0 3)) = _
      unfold f_M_bornBy_l4
      rw [n3, if_pos (nI_le (Nat.le_refl _) (by omega))]
      rfl)
  show (loopN _ a_F (nI (tsum (fun m => if (C 8 m).testBit p then C 16 m else 0) 0), nI 0)).bind _ = _
  rw [e]; rfl
