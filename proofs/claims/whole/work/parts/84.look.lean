/-! PURE MATH: reads, and the plain questions -/
theorem zb_1 : zb 1 = 1 := by decide
theorem zb_0 : zb 0 = 0 := by decide
theorem RMo.n {C : CS} {A : Nat → Nat → Int32} (h : RMo C A) {j : Nat} (hj : j < 5) : A 0 (23 + j) = nI (C 0 j) := by
  rw [h 0 (23 + j) (by show _ ∨ _ ∨ _ ∨ _; omega)]
  show (if 23 + j = 2 then _ else if 23 + j = 8 then _ else if 23 + j < 28 then nI (C 0 (23 + j - 23)) else _) = _
  rw [if_neg (by omega), if_neg (by omega), if_pos (by omega), Nat.add_sub_cancel_left]
theorem RMo.here {C : CS} {A : Nat → Nat → Int32} (h : RMo C A) {m : Nat} (hm : m < C 0 3) : A 7 m = oI (C 15 m) := h 7 m hm
theorem RMo.times {C : CS} {A : Nat → Nat → Int32} (h : RMo C A) {m : Nat} (hm : m < C 0 3) : A 8 m = nI (C 16 m) := h 8 m hm
theorem RMo.meet {C : CS} {A : Nat → Nat → Int32} (h : RMo C A) {m : Nat} (hm : m < C 0 3) (f : Nat) (hf : f < 6) : A 5 (6 * m + f) = if f = 0 then nI (C 5 m) else if f = 1 then nI (C 7 m) else if f = 2 then nI (C 8 m) else if f = 3 then nI (C 9 m) else if f = 4 then nI (C 10 m) else nI (C 6 m) := by
  rw [h 5 (6 * m + f) (by show _ < _; omega)]
  show (if (6 * m + f) % 6 = 0 then nI (C 5 ((6 * m + f) / 6)) else if (6 * m + f) % 6 = 1 then nI (C 7 ((6 * m + f) / 6)) else if (6 * m + f) % 6 = 2 then nI (C 8 ((6 * m + f) / 6)) else if (6 * m + f) % 6 = 3 then nI (C 9 ((6 * m + f) / 6)) else if (6 * m + f) % 6 = 4 then nI (C 10 ((6 * m + f) / 6)) else nI (C 6 ((6 * m + f) / 6))) = _
  rw [show (6 * m + f) % 6 = f from by omega, show (6 * m + f) / 6 = m from by omega]
theorem ix6 (j f : Nat) : (6 : Int32) * nI j + nI f = nI (6 * j + f) := by
  rw [show (6 : Int32) = nI 6 from rfl, na_mul, na_add]
theorem oI_ne {n : Nat} (h : n ≤ 30) : (oI n = -1) ↔ n = 0 := by
  have : ∀ n, n < 31 → ((oI n = -1) ↔ n = 0) := by decide
  exact this n (by omega)
/-- a place's hour and room -/
theorem pl_hr : ∀ n, n < 30 → oI (n + 1) / 3 = nI (n / 3) ∧ a_rem (oI (n + 1)) 3 = nI (n % 3) := by decide
theorem WFC.n31 {C : CS} (h : WFC C) {j : Nat} (hj : j < 10) : C 0 j < 2 ^ 31 := by
  obtain ⟨⟨_, h0⟩, h1, h2, h3, h4, h5, h6, h7, h8, h9, _⟩ := h
  have : j = 0 ∨ j = 1 ∨ j = 2 ∨ j = 3 ∨ j = 4 ∨ j = 5 ∨ j = 6 ∨ j = 7 ∨ j = 8 ∨ j = 9 := by omega
  rcases this with rfl | rfl | rfl | rfl | rfl | rfl | rfl | rfl | rfl | rfl <;> omega
/-- the guards of both, for one that is asked for by its number -/
theorem G_meet {C : CS} {Y H A : Nat → Nat → Int32} (hW : WFC C) (hH : RH C H) (hM : RMo C A) (hA : A 0 0 = 0) (p : Int32) :
    (∃ j, j < C 0 3 ∧ p = nI j ∧ f_Y_needMeeting Y H p = some (0, Y) ∧ ∀ c, f_M_isMeeting A p c = some (1, A)) ∨
    (f_Y_needMeeting Y H p = some (1, yRef Y 0) ∧ ∀ c, c ≠ 0 → f_M_isMeeting A p c = some (0, mRef A c 0)) := by
  have hn := hW.n31 (j := 3) (by omega)
  have e1 : H 0 3 = nI (C 0 3) := hH 0 3 (show 3 < 6 by omega)
  have e2 : A 0 26 = nI (C 0 3) := hM.n (j := 3) (by omega)
  by_cases h : inN p (C 0 3)
  · obtain ⟨j, hj, hp⟩ := h
    have h : inN p (C 0 3) := ⟨j, hj, hp⟩
    refine Or.inl ⟨j, hj, hp, ?_, fun c => ?_⟩
    · unfold f_Y_needMeeting
      rw [e1, Y_one_in hn h]
      rfl
    · unfold f_M_isMeeting
      rw [e2, M_within_in hn h]
      show (f_M_may A 1 c 0).bind _ = _
      rw [M_may_in hA]
      show some (zb 1, A) = _
      rw [zb_1]
  · refine Or.inr ⟨?_, fun c hc => ?_⟩
    · unfold f_Y_needMeeting
      rw [e1, Y_one_out hn h]
      rfl
    · unfold f_M_isMeeting
      rw [e2, M_within_out hn h]
      show (f_M_may A 0 c (nI 0)).bind _ = _
      rw [M_may_out hA hc (by omega)]
      show some (zb 0, mRef A c 0) = _
      rw [zb_0]
/-- what is asked must be of 0 to K -/
theorem G_what {p : Int32} (K : Nat) (hK : K + 1 < 2 ^ 31) : (∃ j, j ≤ K ∧ p = nI j ∧ ¬ p < 0 ∧ ¬ nI K < p ∧ f_M_within p 0 (nI K) = some 1) ∨ (f_M_within p 0 (nI K) = some 0 ∧ (¬ p < 0 → nI K < p)) := by
  by_cases h : inN p (K + 1)
  · obtain ⟨j, hj, hp⟩ := h
    have h : inN p (K + 1) := ⟨j, hj, hp⟩
    refine Or.inl ⟨j, by omega, hp, ((inN_iff hK).mp h).1, ?_, M_to_in (nI_pred K).symm hK h⟩
    rw [hp, na_lt (by omega) (by omega)]
    omega
  · refine Or.inr ⟨M_to_out (nI_pred K).symm hK h, fun h1 => ?_⟩
    have h2 : ¬ p < nI (K + 1) := fun h2 => h ((inN_iff hK).mpr ⟨h1, h2⟩)
    have := (pred_lt (p := p) hK).mpr h2
    rwa [nI_pred] at this
theorem WFC.plan {C : CS} (h : WFC C) (k : Nat) : C 15 k ≤ 30 := by
  obtain ⟨_, _, _, _, _, _, _, _, _, _, _, _, _, _, _, _, _, _, _, _, _, _, _, h, _⟩ := h
  exact h k
theorem WFC.fixed {C : CS} (h : WFC C) (k : Nat) : C 10 k ≤ 1 := by
  obtain ⟨_, _, _, _, _, _, _, _, _, _, _, _, _, _, _, _, _, _, h, _⟩ := h
  exact h k
theorem WFC.may {C : CS} (h : WFC C) (k : Nat) : C 9 k < 2 ^ 10 := by
  obtain ⟨_, _, _, _, _, _, _, _, _, _, _, _, _, _, _, _, _, h, _⟩ := h
  exact h k
theorem full_hours : ∀ n, n < 11 → a_shl 1 (nI n) - 1 = nI (2 ^ n - 1) := by decide
theorem M_mayIn {C : CS} {A : Nat → Nat → Int32} (hW : WFC C) (hM : RMo C A) {j : Nat} (hj : j < C 0 3) : f_M_mayIn A (nI j) = some (nI (s_may C j)) := by
  have hj10 : j < 10 := by have := hW.2.2.2.1; omega
  have hm := hW.may j
  have r : rdx (A 5) 60 (6 * nI j + 3) = some (nI (C 9 j)) := by rw [show (3 : Int32) = nI 3 from rfl, ix6, rdx_nI (by omega) (by omega), hM.meet hj 3 (by omega)]; rfl
  unfold f_M_mayIn s_may
  rw [r]
  show (if nI (C 9 j) ≠ 0 then _ else _) = _
  by_cases h : C 9 j = 0
  · rw [if_neg (by rw [h]; decide), if_pos h, hM.n (j := 0) (by omega), full_hours _ (by have := hW.1; omega)]
  · rw [if_pos (nI_ne0 (by omega) (by omega)), if_neg h]; rfl
theorem Y_mayHours {C : CS} {H : Nat → Nat → Int32} (hW : WFC C) (hH : RH C H) {j : Nat} (hj : j < C 0 3) : f_House_mayHours H (nI j) = some (nI (s_may C j)) := by
  have hj10 : j < 10 := by have := hW.2.2.2.1; omega
  have hm := hW.may j
  have r : rdx (H 9) 10 (nI j) = some (nI (C 9 j)) := by rw [rdx_nI hj10 (by omega), hH 9 j hj]; rfl
  unfold f_House_mayHours s_may
  rw [r]
  show (if nI (C 9 j) ≠ 0 then _ else _) = _
  have h00 : H 0 0 = nI (C 0 0) := hH 0 0 (show 0 < 6 by omega)
  by_cases h : C 9 j = 0
  · rw [if_neg (by rw [h]; decide), if_pos h, h00, full_hours _ (by have := hW.1; omega)]
  · rw [if_pos (nI_ne0 (by omega) (by omega)), if_neg h]; rfl
/-- a bit of a set that is known -/
theorem sh_ix : ∀ j, j < 32 → (nI j &&& 31).toBitVec.smod 32 = BitVec.ofNat 32 j := by decide
theorem shr_nI {x j : Nat} (hx : x < 2 ^ 31) (hj : j < 32) : a_shr (nI x) (nI j) = nI (x >>> j) := by
  apply Int32.toBitVec_inj.mp
  show (BitVec.ofNat 32 x).sshiftRight' ((nI j &&& 31).toBitVec.smod 32) = BitVec.ofNat 32 (x >>> j)
  rw [sh_ix j hj]
  show (BitVec.ofNat 32 x).sshiftRight (BitVec.ofNat 32 j).toNat = _
  rw [BitVec.toNat_ofNat, Nat.mod_eq_of_lt (by omega), BitVec.sshiftRight_eq_of_msb_false (by
    rw [BitVec.msb_eq_false_iff_two_mul_lt, BitVec.toNat_ofNat, Nat.mod_eq_of_lt (by omega)]; omega)]
  apply BitVec.eq_of_toNat_eq
  have hle : x >>> j ≤ x := Nat.shiftRight_le _ _
  rw [BitVec.toNat_ushiftRight, BitVec.toNat_ofNat, BitVec.toNat_ofNat, Nat.mod_eq_of_lt (by omega), Nat.mod_eq_of_lt (by omega)]
theorem shr_and1 {x j : Nat} (hx : x < 2 ^ 31) (hj : j < 32) : (a_shr (nI x) (nI j) &&& 1) = nI ((x >>> j) % 2) := by
  rw [shr_nI hx hj, show (1 : Int32) = nI 1 from rfl, na_and, Nat.and_one_is_mod]
theorem Y_isFixed {C : CS} {H : Nat → Nat → Int32} (hW : WFC C) (hH : RH C H) {j : Nat} (hj : j < C 0 3) : f_House_isFixed H (nI j) = some (nI (C 10 j)) := by
  have hn := hW.2.2.2.1
  have hj10 : j < 10 := by omega
  have e : H 0 5 = nI (bs (fun m => C 10 m = 1) (C 0 3)) := hH 0 5 (show 5 < 6 by omega)
  have hlt := bs_lt (fun m => C 10 m = 1) (C 0 3)
  have hlt2 : bs (fun m => C 10 m = 1) (C 0 3) < 1024 := Nat.lt_of_lt_of_le hlt (Nat.pow_le_pow_right (by omega) hn)
  have hb := bs_bit (fun m => C 10 m = 1) (C 0 3) j
  unfold f_House_isFixed
  rw [e, shr_and1 (by omega) (by omega)]
  have hf := hW.fixed j
  have ht : (bs (fun m => C 10 m = 1) (C 0 3) >>> j) % 2 = C 10 j := by
    have h1 : (bs (fun m => C 10 m = 1) (C 0 3) >>> j) % 2 = 1 ↔ (bs (fun m => C 10 m = 1) (C 0 3)).testBit j = true := by
      rw [Nat.testBit_eq_decide_div_mod_eq, ← Nat.shiftRight_eq_div_pow, decide_eq_true_eq]
    rw [hb, decide_eq_true_eq] at h1
    omega
  rw [ht]
  have : C 10 j = 0 ∨ C 10 j = 1 := by omega
  rcases this with e | e <;> rw [e] <;> decide
/-- both memories, what a plain question needs of them -/
def RL (C : CS) (Y H NS A : Nat → Nat → Int32) : Prop := WFC C ∧ RYc C Y ∧ RH C H ∧ RS C NS ∧ RMo C A ∧ RQ Y A
theorem RL.thr {C : CS} {Y H NS A : Nat → Nat → Int32} (h : RL C Y H NS A) (v : Int32) : RL C Y H NS (u2 A 0 0 v) := ⟨h.1, h.2.1, h.2.2.1, h.2.2.2.1, RM_thr h.2.2.2.2.1 v, RQ_thr h.2.2.2.2.2 v⟩
theorem RL.ref {C : CS} {Y H NS A : Nat → Nat → Int32} (h : RL C Y H NS A) (c : Int32) {k : Nat} (hk : k < 2) : RL C (yRef Y k) H NS (mRef A c k) := ⟨h.1, RY_ref h.2.1 k, h.2.2.1, h.2.2.2.1, RM_ref h.2.2.2.2.1 c k, RQ_ref h.2.2.2.2.2 c hk⟩
theorem thr_0 (A : Nat → Nat → Int32) (v : Int32) : (u2 A 0 0 v) 0 0 = v := u2_same _ _ _ _
theorem mRef_0 (A : Nat → Nat → Int32) (c : Int32) (k : Nat) : mRef A c k 0 0 = c := by
  unfold mRef
  rw [u2_row _ _ (by decide), u2_same]
/-- the answers of a plain question: the same, or refused alike -/
def TA (C : CS) (H NS : Nat → Nat → Int32) (y : Option (Nat × Int32 × (Nat → Nat → Int32))) (m : Option (Int32 × (Nat → Nat → Int32))) : Prop :=
  ∃ k v Y' v' A', y = some (k, v, Y') ∧ m = some (v', A') ∧ A' 0 0 = nI k ∧ k < 3 ∧ (k = 0 → v = v') ∧ RL C Y' H NS A'
theorem TA.ans {C : CS} {Y H NS A : Nat → Nat → Int32} {y : Option (Nat × Int32 × (Nat → Nat → Int32))} {m : Option (Int32 × (Nat → Nat → Int32))} (v : Int32) (h : RL C Y H NS A) (h0 : A 0 0 = 0) (hy : y = some (0, v, Y)) (hm : m = some (v, A)) : TA C H NS y m := ⟨0, v, Y, v, A, hy, hm, h0, by omega, fun _ => rfl, h⟩
theorem TA.ref {C : CS} {Y H NS A : Nat → Nat → Int32} {y : Option (Nat × Int32 × (Nat → Nat → Int32))} {m : Option (Int32 × (Nat → Nat → Int32))} (k : Nat) (hk : k < 2) (h : RL C Y H NS A) (hy : y = some (k + 1, 0, yRef Y k)) (hm : m = some (0, mRef A (nI (k + 1)) k)) : TA C H NS y m := ⟨k + 1, 0, yRef Y k, 0, mRef A (nI (k + 1)) k, hy, hm, mRef_0 _ _ _, by omega, fun h => by omega, h.ref _ hk⟩
theorem T_meeting {C : CS} {Y H NS A : Nat → Nat → Int32} (h : RL C Y H NS A) (p1 p2 : Int32) : TA C H NS (f_Y_meeting Y H NS p1 p2) (f_M_meeting A p1 p2) := by
  have h' := h.thr 0
  obtain ⟨hW, hY, hH, hS, hM, hQ⟩ := h'
  have hA : (u2 A 0 0 0) 0 0 = 0 := thr_0 A 0
  unfold f_Y_meeting f_M_meeting
  generalize u2 A 0 0 0 = A at hM hQ hA ⊢
  have h' : RL C Y H NS A := ⟨hW, hY, hH, hS, hM, hQ⟩
  rcases G_meet hW hH hM hA p1 with ⟨j, hj, rfl, e1, e2⟩ | ⟨e1, e2⟩
  · have hj10 : j < 10 := by have := hW.2.2.2.1; omega
    rw [e1, e2 1]
    have z10 : ¬ (1 : Int32) = 0 := by decide
    simp only [Option.bind_some, if_pos, z10, if_false]
    rcases G_what (p := p2) 6 (by omega) with ⟨w, hw, rfl, k1, k2, k3⟩ | ⟨k3, k4⟩
    · have k3 : f_M_within (nI w) 0 6 = some 1 := k3
      have k2 : ¬ (6 : Int32) < nI w := k2
      have z1 : ((1 : Int32) ≠ 0) = True := by simp
      simp only [k1, k2, k3, if_false, Option.bind_some, sumE, Y_ref_in, M_may_in hA, eq_self, if_true, z1]
      have hw7 : w = 0 ∨ w = 1 ∨ w = 2 ∨ w = 3 ∨ w = 4 ∨ w = 5 ∨ w = 6 := by omega
      have i6 : ∀ f : Nat, f < 6 → rdx (A 5) 60 (6 * nI j + nI f) = some (A 5 (6 * j + f)) := fun f hf => by rw [ix6, rdx_nI (by omega) (by omega)]
      have r1 : rdx (NS 1) 10 (nI j) = some (oI (C 15 j)) := by rw [rdx_nI hj10 (by omega), hS 1 j hj]; rfl
      have r2 : rdx (NS 2) 10 (nI j) = some (nI (C 16 j)) := by rw [rdx_nI hj10 (by omega), hS 2 j hj]; rfl
      have r3 : rdx (H 7) 10 (nI j) = some (nI (C 7 j)) := by rw [rdx_nI hj10 (by omega), hH 7 j hj]; rfl
      have r4 : rdx (H 8) 10 (nI j) = some (nI (C 8 j)) := by rw [rdx_nI hj10 (by omega), hH 8 j hj]; rfl
      have m7 : rdx (A 7) 10 (nI j) = some (oI (C 15 j)) := by rw [rdx_nI hj10 (by omega), hM.here hj]
      have m8 : rdx (A 8) 10 (nI j) = some (nI (C 16 j)) := by rw [rdx_nI hj10 (by omega), hM.times hj]
      have m1 : rdx (A 5) 60 (6 * nI j + 1) = some (nI (C 7 j)) := by rw [show (1 : Int32) = nI 1 from rfl, i6 1 (by omega), hM.meet hj 1 (by omega)]; rfl
      have m2 : rdx (A 5) 60 (6 * nI j + 2) = some (nI (C 8 j)) := by rw [show (2 : Int32) = nI 2 from rfl, i6 2 (by omega), hM.meet hj 2 (by omega)]; rfl
      have m4 : rdx (A 5) 60 (6 * nI j + 4) = some (nI (C 10 j)) := by rw [show (4 : Int32) = nI 4 from rfl, i6 4 (by omega), hM.meet hj 4 (by omega)]; rfl
      have c15 : C 15 j ≤ 30 := hW.plan j
      have c10 : C 10 j ≤ 1 := hW.fixed j
      have m0 : f_M_mayIn A (nI j) = some (nI (s_may C j)) := M_mayIn hW hM hj
      have y0 : f_House_mayHours H (nI j) = some (nI (s_may C j)) := Y_mayHours hW hH hj
      have y1 : f_House_isFixed H (nI j) = some (nI (C 10 j)) := Y_isFixed hW hH hj
      rcases hw7 with rfl | rfl | rfl | rfl | rfl | rfl | rfl
      · by_cases hp : C 15 j = 0
        · refine TA.ans (-1) h' hA ?_ ?_
          · rw [r1, hp]; rfl
          · rw [if_neg (show ¬ (2 : Int32) ≤ nI 0 by decide), m7, hp]; rfl
        · obtain ⟨n, hn⟩ : ∃ n, C 15 j = n + 1 := ⟨C 15 j - 1, by omega⟩
          have hne : oI (C 15 j) ≠ -1 := fun e => hp ((oI_ne c15).mp e)
          obtain ⟨q1, q2⟩ := pl_hr n (by omega)
          refine TA.ans (nI (n / 3)) h' hA ?_ ?_
          · rw [r1, ← q1, ← hn]
            show (if oI (C 15 j) ≠ -1 then _ else _) = _
            rw [if_pos hne]; rfl
          · rw [if_neg (show ¬ (2 : Int32) ≤ nI 0 by decide), m7, ← q1, ← hn]
            show (if oI (C 15 j) ≠ -1 then _ else _) = _
            rw [if_pos hne]; rfl
      · by_cases hp : C 15 j = 0
        · refine TA.ans (-1) h' hA ?_ ?_
          · rw [r1, hp]; rfl
          · rw [if_neg (show ¬ (2 : Int32) ≤ nI 1 by decide), m7, hp]; rfl
        · obtain ⟨n, hn⟩ : ∃ n, C 15 j = n + 1 := ⟨C 15 j - 1, by omega⟩
          have hne : oI (C 15 j) ≠ -1 := fun e => hp ((oI_ne c15).mp e)
          obtain ⟨q1, q2⟩ := pl_hr n (by omega)
          refine TA.ans (nI (n % 3)) h' hA ?_ ?_
          · rw [r1, ← q2, ← hn]
            show (if oI (C 15 j) ≠ -1 then _ else _) = _
            rw [if_pos hne]; rfl
          · rw [if_neg (show ¬ (2 : Int32) ≤ nI 1 by decide), m7, ← q2, ← hn]
            show (if oI (C 15 j) ≠ -1 then _ else _) = _
            rw [if_pos hne]; rfl
      · refine TA.ans (nI (C 7 j)) h' hA ?_ ?_
        · rw [r1, r3]; rfl
        · rw [m1]; rfl
      · refine TA.ans (nI (C 10 j)) h' hA ?_ ?_
        · rw [r1, y1]
          have : C 10 j = 0 ∨ C 10 j = 1 := by omega
          rcases this with e | e <;> rw [e] <;> rfl
        · rw [m4]; rfl
      · refine TA.ans (nI (C 16 j)) h' hA ?_ ?_
        · rw [r1, r2]; rfl
        · rw [m8]; rfl
      · refine TA.ans (nI (C 8 j)) h' hA ?_ ?_
        · rw [r1, r4]; rfl
        · rw [m2]; rfl
      · refine TA.ans (nI (s_may C j)) h' hA ?_ ?_
        · rw [r1, y0]; rfl
        · rw [m0]; rfl
    · have k3 : f_M_within p2 0 6 = some 0 := k3
      have k4 : ¬ p2 < 0 → (6 : Int32) < p2 := k4
      refine TA.ref 1 (by omega) h' ?_ ?_
      · by_cases k1 : p2 < 0
        · simp only [k1, if_true, Option.bind_some, sumE, Y_ref_out]; rfl
        · simp only [k1, k4 k1, if_false, if_true, Option.bind_some, sumE, Y_ref_out]; rfl
      · rw [k3]
        show ((f_M_may A 0 (nI 2) (nI 1)).bind _) = _
        rw [M_may_out hA (by decide) (by omega)]; rfl
  · refine TA.ref 0 (by omega) h' ?_ ?_
    · rw [e1]; rfl
    · rw [e2 1 (by decide)]; rfl
