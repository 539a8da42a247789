/-! PURE MATH: the board -/
/-- in which hours a room is held, by the first k holds -/
def s_held (C : CS) (r : Nat) : Nat → Nat
  | 0 => 0
  | k + 1 => s_held C r k ||| (if C 14 k = 0 ∧ C 11 k % 3 = r then 2 ^ (C 11 k / 3) else 0)
/-- the board: a plan, times, the rooms' held hours -/
def RB (C : CS) (pl tm : Nat → Nat) (BO : Nat → Nat → Int32) : Prop := (∀ m, m < C 0 3 → BO 1 m = oI (pl m)) ∧ (∀ m, m < C 0 3 → BO 2 m = nI (tm m)) ∧ ∀ r, r < 3 → BO 3 r = nI (s_held C r (C 0 4))
theorem WFC.hplace {C : CS} (h : WFC C) (k : Nat) : C 11 k < 30 := by
  obtain ⟨_, _, _, _, _, _, _, _, _, _, _, _, _, _, _, _, _, _, _, h, _⟩ := h
  exact h k
theorem WFC.let {C : CS} (h : WFC C) (k : Nat) : C 14 k ≤ 1 := by
  obtain ⟨_, _, _, _, _, _, _, _, _, _, _, _, _, _, _, _, _, _, _, _, _, _, h, _⟩ := h
  exact h k
theorem Y_isHeld {C : CS} {NS : Nat → Nat → Int32} (hW : WFC C) (hS : RS C NS) {k : Nat} (hk : k < C 0 4) : f_State_isHeld NS (nI k) = some (if C 14 k = 0 then 1 else 0) := by
  have hn := hW.2.2.2.2.1
  have e : NS 0 3 = nI (bs (fun m => C 14 m = 1) (C 0 4)) := hS 0 3 (Or.inl rfl)
  have hlt := bs_lt (fun m => C 14 m = 1) (C 0 4)
  have hlt2 : bs (fun m => C 14 m = 1) (C 0 4) < 1024 := Nat.lt_of_lt_of_le hlt (Nat.pow_le_pow_right (by omega) (show C 0 4 ≤ 10 by omega))
  have hb := bs_bit (fun m => C 14 m = 1) (C 0 4) k
  have h1 := bit1 (bs (fun m => C 14 m = 1) (C 0 4)) k
  rw [hb, decide_eq_true_eq] at h1
  have hf := hW.let k
  unfold f_State_isHeld
  rw [e, shr_and1 (by omega) (by omega)]
  by_cases h : C 14 k = 0
  · have : (bs (fun m => C 14 m = 1) (C 0 4) >>> k) % 2 = 0 := by omega
    rw [this, if_neg (by decide), if_pos h, zb_1]
  · have : (bs (fun m => C 14 m = 1) (C 0 4) >>> k) % 2 = 1 := by omega
    rw [this, if_pos (by decide), if_neg h, zb_0]
theorem shl_1 : ∀ k, k < 31 → a_shl 1 (nI k) = nI (2 ^ k) := by decide
theorem s_held_step (C : CS) (k r : Nat) : s_held C r (k + 1) = s_held C r k ||| (if C 14 k = 0 ∧ C 11 k % 3 = r then 2 ^ (C 11 k / 3) else 0) := rfl
theorem s_held_hit {C : CS} {k r : Nat} (h : C 14 k = 0 ∧ C 11 k % 3 = r) : s_held C r (k + 1) = s_held C r k ||| 2 ^ (C 11 k / 3) := by rw [s_held_step, if_pos h]
theorem s_held_miss {C : CS} {k r : Nat} (h : ¬ (C 14 k = 0 ∧ C 11 k % 3 = r)) : s_held C r (k + 1) = s_held C r k := by rw [s_held_step, if_neg h, Nat.or_zero]
theorem T_look {C : CS} {H NS : Nat → Nat → Int32} (BO : Nat → Nat → Int32) (hW : WFC C) (hH : RH C H) (hS : RS C NS) : ∃ BO', f_Y_lookNow H NS BO = some BO' ∧ RB C (C 15) (C 16) BO' := by
  have hN := hW.2.2.2.1
  have hK := hW.2.2.2.2.1
  have h04 : H 0 4 = nI (C 0 4) := hH 0 4 (show 4 < 6 by omega)
  have c1 : (10 : Int32).toNatClampNeg = 10 := by decide
  have c0 : (0 : Int32).toNatClampNeg = 0 := by decide
  unfold f_Y_lookNow f_Board_load
  simp only [c1, c0]
  rw [if_neg (by decide), if_neg (by decide)]
  generalize hB : (u1 (u1 BO 1 _) 2 _) = B
  have hB1 : ∀ m, m < 10 → B 1 m = NS 1 m := fun m hm => by
    rw [← hB, u1_eq, if_neg (by decide), u1_eq, if_pos rfl]
    unfold a_cpy
    rw [if_pos (by omega)]
    congr 1
    omega
  have hB2 : ∀ m, m < 10 → B 2 m = NS 2 m := fun m hm => by
    rw [← hB, u1_eq, if_pos rfl]
    unfold a_cpy
    rw [if_pos (by omega)]
    congr 1
    omega
  have e := loop_for (body := fun q => f_Board_load_l45 H NS q.1 q.2) (C 0 4) (fun i => u1 B 3 (fun r => if r < 3 then nI (s_held C r i) else B 3 r)) (b := u1 B 3 (fun r => if r < 3 then nI (s_held C r (C 0 4)) else B 3 r)) 0 (by omega) (by omega)
    (fun i _ hi => by
      have hp := hW.hplace i
      obtain ⟨q1, q2⟩ := nI_hr (C 11 i) hp
      have r11 : rdx (H 11) 4 (nI i) = some (nI (C 11 i)) := by rw [rdx_nI (by omega) (by omega), hH 11 i hi]; rfl
      show f_Board_load_l45 H NS (nI i) _ = _
      unfold f_Board_load_l45
      rw [h04, if_neg (nI_ge hi (by omega)), Y_isHeld hW hS hi]
      by_cases hl : C 14 i = 0
      · rw [if_pos hl]
        have z10 : ¬ (1 : Int32) = 0 := by decide
        simp only [Option.bind_some, z10, if_false, r11, f_Y_roomOf, f_Y_hourOf, q1, q2]
        have hm3 : C 11 i % 3 < 3 := Nat.mod_lt _ (by omega)
        rw [rdx_nI hm3 (by omega), ixx_nI hm3 (by omega), shl_1 _ (by omega)]
        simp only [Option.bind_some, u2_u1]
        rw [u1_eq, if_pos rfl, if_pos hm3, na_or, ← nI_succ]
        congr 4
        funext r
        by_cases hr : r = C 11 i % 3
        · subst hr
          rw [Nat.beq_refl, if_pos hm3, if_pos hm3, s_held_hit ⟨hl, rfl⟩]
          rfl
        · have hb : Nat.beq r (C 11 i % 3) = false := by
            cases hb : Nat.beq r (C 11 i % 3) with
            | false => rfl
            | true => exact absurd (Nat.eq_of_beq_eq_true hb) hr
          rw [hb, s_held_miss (fun h => hr h.2.symm)]
          rfl
      · rw [if_neg hl]
        simp only [Option.bind_some, if_true]
        rw [← nI_succ]
        congr 4
        funext r
        rw [s_held_miss (fun h => hl h.1)])
    (by
      show f_Board_load_l45 H NS (nI (C 0 4)) _ = _
      unfold f_Board_load_l45
      rw [h04, if_pos (nI_le (Nat.le_refl _) (by omega))])
  have hf : u1 B 3 (filM (B 3) 3 0) = u1 B 3 (fun r => if r < 3 then nI (s_held C r 0) else B 3 r) := rfl
  rw [hf, show ((0 : Int32), u1 B 3 (fun r => if r < 3 then nI (s_held C r 0) else B 3 r)) = (nI 0, u1 B 3 (fun r => if r < 3 then nI (s_held C r 0) else B 3 r)) from rfl, e]
  refine ⟨_, rfl, fun m hm => ?_, fun m hm => ?_, fun r hr => ?_⟩
  · rw [u1_eq, if_neg (by decide), hB1 m (by omega), hS 1 m hm]; rfl
  · rw [u1_eq, if_neg (by decide), hB2 m (by omega), hS 2 m hm]; rfl
  · rw [u1_eq, if_pos rfl, if_pos hr]
