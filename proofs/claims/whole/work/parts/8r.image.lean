/-! PURE MATH: images -/
def kI (A : Nat → Nat → Int32) (r q i : Nat) : Nat → Nat → Int32 := fun a b => if a = 13 ∧ q ≤ b ∧ b < q + i then A r (b - q) else A a b
def gI (A : Nat → Nat → Int32) (r q i : Nat) : Nat → Nat → Int32 := fun a b => if a = r ∧ b < i then A 13 (q + b) else A a b
theorem kI_0 (A : Nat → Nat → Int32) (r q : Nat) : kI A r q 0 = A := by
  funext a b
  unfold kI
  rw [if_neg (by omega)]
theorem gI_0 (A : Nat → Nat → Int32) (r q : Nat) : gI A r q 0 = A := by
  funext a b
  unfold gI
  rw [if_neg (by omega)]
theorem kI_s {A : Nat → Nat → Int32} {r q i : Nat} (hr : r ≠ 13) : u2 (kI A r q i) 13 (q + i) (kI A r q i r i) = kI A r q (i + 1) := by
  have e : kI A r q i r i = A r i := by unfold kI; rw [if_neg (fun h => hr h.1)]
  rw [e]
  funext a b
  rw [u2_eq]
  unfold kI
  by_cases h : a = 13 ∧ b = q + i
  · rw [if_pos h, if_pos ⟨h.1, by omega, by omega⟩, h.2, Nat.add_sub_cancel_left]
  · rw [if_neg h]
    by_cases h2 : a = 13 ∧ q ≤ b ∧ b < q + i
    · rw [if_pos h2, if_pos ⟨h2.1, h2.2.1, by omega⟩]
    · rw [if_neg h2, if_neg (fun g => h2 ⟨g.1, g.2.1, by
        have : b ≠ q + i := fun e => h ⟨g.1, e⟩
        omega⟩)]
theorem gI_s {A : Nat → Nat → Int32} {r q i : Nat} (hr : r ≠ 13) : u2 (gI A r q i) r i (gI A r q i 13 (q + i)) = gI A r q (i + 1) := by
  have e : gI A r q i 13 (q + i) = A 13 (q + i) := by unfold gI; rw [if_neg (fun h => hr h.1.symm)]
  rw [e]
  funext a b
  rw [u2_eq]
  unfold gI
  by_cases h : a = r ∧ b = i
  · rw [if_pos h, if_pos ⟨h.1, by omega⟩, h.2]
  · rw [if_neg h]
    by_cases h2 : a = r ∧ b < i
    · rw [if_pos h2, if_pos ⟨h2.1, by omega⟩]
    · rw [if_neg h2, if_neg (fun g => h2 ⟨g.1, by
        have : b ≠ i := fun e => h ⟨g.1, e⟩
        omega⟩)]
theorem M_keep (A : Nat → Nat → Int32) {q : Nat} (hq : q + 10 ≤ 1974) : f_M_keepsRow A (nI q) 10 1 = some (nI (q + 10), kI A 7 q 10) := by
  have e := loop_for (body := fun z => f_M_keepsRow_l3 10 1 (nI q) z.1 z.2) 10 (fun i => kI A 7 q i) (b := kI A 7 q 10) 0 (by omega) (by omega)
    (fun i _ hi => by
      show f_M_keepsRow_l3 10 1 (nI q) (nI i) (kI A 7 q i) = some (Sum.inl (nI (i + 1), kI A 7 q (i + 1)))
      unfold f_M_keepsRow_l3
      rw [if_neg (show ¬ (10 : Int32) ≤ nI i from nI_ge (b := 10) hi (by omega)), if_neg (by decide), rdx_nI hi (by omega), obs, na_add, ixx_nI (by omega) (by omega), obs, kI_s (by decide), nI_succ])
    (by
      show f_M_keepsRow_l3 10 1 (nI q) (nI 10) _ = _
      unfold f_M_keepsRow_l3
      rw [if_pos (show (10 : Int32) ≤ nI 10 from nI_le (a := 10) (b := 10) (by omega) (by omega))])
  rw [kI_0] at e
  unfold f_M_keepsRow
  rw [show ((0 : Int32), A) = (nI 0, A) from rfl, e, obs, show (10 : Int32) = nI 10 from rfl, na_add]
theorem M_give (A : Nat → Nat → Int32) {q : Nat} (hq : q + 10 ≤ 1974) : f_M_keepsRow A (nI q) 10 0 = some (nI (q + 10), gI A 7 q 10) := by
  have e := loop_for (body := fun z => f_M_keepsRow_l3 10 0 (nI q) z.1 z.2) 10 (fun i => gI A 7 q i) (b := gI A 7 q 10) 0 (by omega) (by omega)
    (fun i _ hi => by
      show f_M_keepsRow_l3 10 0 (nI q) (nI i) (gI A 7 q i) = some (Sum.inl (nI (i + 1), gI A 7 q (i + 1)))
      unfold f_M_keepsRow_l3
      rw [if_neg (show ¬ (10 : Int32) ≤ nI i from nI_ge (b := 10) hi (by omega)), if_pos rfl, na_add, rdx_nI (by omega) (by omega), obs, ixx_nI hi (by omega), obs, gI_s (by decide), nI_succ])
    (by
      show f_M_keepsRow_l3 10 0 (nI q) (nI 10) _ = _
      unfold f_M_keepsRow_l3
      rw [if_pos (show (10 : Int32) ≤ nI 10 from nI_le (a := 10) (b := 10) (by omega) (by omega))])
  rw [gI_0] at e
  unfold f_M_keepsRow
  rw [show ((0 : Int32), A) = (nI 0, A) from rfl, e, obs, show (10 : Int32) = nI 10 from rfl, na_add]
theorem M_keep_2 (A : Nat → Nat → Int32) {q : Nat} (hq : q + 10 ≤ 1974) : f_M_keepsRow_2 A (nI q) 10 1 = some (nI (q + 10), kI A 8 q 10) := by
  have e := loop_for (body := fun z => f_M_keepsRow_2_l3 10 1 (nI q) z.1 z.2) 10 (fun i => kI A 8 q i) (b := kI A 8 q 10) 0 (by omega) (by omega)
    (fun i _ hi => by
      show f_M_keepsRow_2_l3 10 1 (nI q) (nI i) (kI A 8 q i) = some (Sum.inl (nI (i + 1), kI A 8 q (i + 1)))
      unfold f_M_keepsRow_2_l3
      rw [if_neg (show ¬ (10 : Int32) ≤ nI i from nI_ge (b := 10) hi (by omega)), if_neg (by decide), rdx_nI hi (by omega), obs, na_add, ixx_nI (by omega) (by omega), obs, kI_s (by decide), nI_succ])
    (by
      show f_M_keepsRow_2_l3 10 1 (nI q) (nI 10) _ = _
      unfold f_M_keepsRow_2_l3
      rw [if_pos (show (10 : Int32) ≤ nI 10 from nI_le (a := 10) (b := 10) (by omega) (by omega))])
  rw [kI_0] at e
  unfold f_M_keepsRow_2
  rw [show ((0 : Int32), A) = (nI 0, A) from rfl, e, obs, show (10 : Int32) = nI 10 from rfl, na_add]
theorem M_give_2 (A : Nat → Nat → Int32) {q : Nat} (hq : q + 10 ≤ 1974) : f_M_keepsRow_2 A (nI q) 10 0 = some (nI (q + 10), gI A 8 q 10) := by
  have e := loop_for (body := fun z => f_M_keepsRow_2_l3 10 0 (nI q) z.1 z.2) 10 (fun i => gI A 8 q i) (b := gI A 8 q 10) 0 (by omega) (by omega)
    (fun i _ hi => by
      show f_M_keepsRow_2_l3 10 0 (nI q) (nI i) (gI A 8 q i) = some (Sum.inl (nI (i + 1), gI A 8 q (i + 1)))
      unfold f_M_keepsRow_2_l3
      rw [if_neg (show ¬ (10 : Int32) ≤ nI i from nI_ge (b := 10) hi (by omega)), if_pos rfl, na_add, rdx_nI (by omega) (by omega), obs, ixx_nI hi (by omega), obs, gI_s (by decide), nI_succ])
    (by
      show f_M_keepsRow_2_l3 10 0 (nI q) (nI 10) _ = _
      unfold f_M_keepsRow_2_l3
      rw [if_pos (show (10 : Int32) ≤ nI 10 from nI_le (a := 10) (b := 10) (by omega) (by omega))])
  rw [gI_0] at e
  unfold f_M_keepsRow_2
  rw [show ((0 : Int32), A) = (nI 0, A) from rfl, e, obs, show (10 : Int32) = nI 10 from rfl, na_add]
theorem M_keep_3 (A : Nat → Nat → Int32) {q : Nat} (hq : q + 20 ≤ 1974) : f_M_keepsRow_3 A (nI q) 20 1 = some (nI (q + 20), kI A 9 q 20) := by
  have e := loop_for (body := fun z => f_M_keepsRow_3_l3 20 1 (nI q) z.1 z.2) 20 (fun i => kI A 9 q i) (b := kI A 9 q 20) 0 (by omega) (by omega)
    (fun i _ hi => by
      show f_M_keepsRow_3_l3 20 1 (nI q) (nI i) (kI A 9 q i) = some (Sum.inl (nI (i + 1), kI A 9 q (i + 1)))
      unfold f_M_keepsRow_3_l3
      rw [if_neg (show ¬ (20 : Int32) ≤ nI i from nI_ge (b := 20) hi (by omega)), if_neg (by decide), rdx_nI hi (by omega), obs, na_add, ixx_nI (by omega) (by omega), obs, kI_s (by decide), nI_succ])
    (by
      show f_M_keepsRow_3_l3 20 1 (nI q) (nI 20) _ = _
      unfold f_M_keepsRow_3_l3
      rw [if_pos (show (20 : Int32) ≤ nI 20 from nI_le (a := 20) (b := 20) (by omega) (by omega))])
  rw [kI_0] at e
  unfold f_M_keepsRow_3
  rw [show ((0 : Int32), A) = (nI 0, A) from rfl, e, obs, show (20 : Int32) = nI 20 from rfl, na_add]
theorem M_give_3 (A : Nat → Nat → Int32) {q : Nat} (hq : q + 20 ≤ 1974) : f_M_keepsRow_3 A (nI q) 20 0 = some (nI (q + 20), gI A 9 q 20) := by
  have e := loop_for (body := fun z => f_M_keepsRow_3_l3 20 0 (nI q) z.1 z.2) 20 (fun i => gI A 9 q i) (b := gI A 9 q 20) 0 (by omega) (by omega)
    (fun i _ hi => by
      show f_M_keepsRow_3_l3 20 0 (nI q) (nI i) (gI A 9 q i) = some (Sum.inl (nI (i + 1), gI A 9 q (i + 1)))
      unfold f_M_keepsRow_3_l3
      rw [if_neg (show ¬ (20 : Int32) ≤ nI i from nI_ge (b := 20) hi (by omega)), if_pos rfl, na_add, rdx_nI (by omega) (by omega), obs, ixx_nI hi (by omega), obs, gI_s (by decide), nI_succ])
    (by
      show f_M_keepsRow_3_l3 20 0 (nI q) (nI 20) _ = _
      unfold f_M_keepsRow_3_l3
      rw [if_pos (show (20 : Int32) ≤ nI 20 from nI_le (a := 20) (b := 20) (by omega) (by omega))])
  rw [gI_0] at e
  unfold f_M_keepsRow_3
  rw [show ((0 : Int32), A) = (nI 0, A) from rfl, e, obs, show (20 : Int32) = nI 20 from rfl, na_add]
theorem M_keep_4 (A : Nat → Nat → Int32) {q : Nat} (hq : q + 16 ≤ 1974) : f_M_keepsRow_4 A (nI q) 16 1 = some (nI (q + 16), kI A 6 q 16) := by
  have e := loop_for (body := fun z => f_M_keepsRow_4_l3 16 1 (nI q) z.1 z.2) 16 (fun i => kI A 6 q i) (b := kI A 6 q 16) 0 (by omega) (by omega)
    (fun i _ hi => by
      show f_M_keepsRow_4_l3 16 1 (nI q) (nI i) (kI A 6 q i) = some (Sum.inl (nI (i + 1), kI A 6 q (i + 1)))
      unfold f_M_keepsRow_4_l3
      rw [if_neg (show ¬ (16 : Int32) ≤ nI i from nI_ge (b := 16) hi (by omega)), if_neg (by decide), rdx_nI hi (by omega), obs, na_add, ixx_nI (by omega) (by omega), obs, kI_s (by decide), nI_succ])
    (by
      show f_M_keepsRow_4_l3 16 1 (nI q) (nI 16) _ = _
      unfold f_M_keepsRow_4_l3
      rw [if_pos (show (16 : Int32) ≤ nI 16 from nI_le (a := 16) (b := 16) (by omega) (by omega))])
  rw [kI_0] at e
  unfold f_M_keepsRow_4
  rw [show ((0 : Int32), A) = (nI 0, A) from rfl, e, obs, show (16 : Int32) = nI 16 from rfl, na_add]
theorem M_give_4 (A : Nat → Nat → Int32) {q : Nat} (hq : q + 16 ≤ 1974) : f_M_keepsRow_4 A (nI q) 16 0 = some (nI (q + 16), gI A 6 q 16) := by
  have e := loop_for (body := fun z => f_M_keepsRow_4_l3 16 0 (nI q) z.1 z.2) 16 (fun i => gI A 6 q i) (b := gI A 6 q 16) 0 (by omega) (by omega)
    (fun i _ hi => by
      show f_M_keepsRow_4_l3 16 0 (nI q) (nI i) (gI A 6 q i) = some (Sum.inl (nI (i + 1), gI A 6 q (i + 1)))
      unfold f_M_keepsRow_4_l3
      rw [if_neg (show ¬ (16 : Int32) ≤ nI i from nI_ge (b := 16) hi (by omega)), if_pos rfl, na_add, rdx_nI (by omega) (by omega), obs, ixx_nI hi (by omega), obs, gI_s (by decide), nI_succ])
    (by
      show f_M_keepsRow_4_l3 16 0 (nI q) (nI 16) _ = _
      unfold f_M_keepsRow_4_l3
      rw [if_pos (show (16 : Int32) ≤ nI 16 from nI_le (a := 16) (b := 16) (by omega) (by omega))])
  rw [gI_0] at e
  unfold f_M_keepsRow_4
  rw [show ((0 : Int32), A) = (nI 0, A) from rfl, e, obs, show (16 : Int32) = nI 16 from rfl, na_add]
theorem M_keep_5 (A : Nat → Nat → Int32) {q : Nat} (hq : q + 600 ≤ 1974) : f_M_keepsRow_5 A (nI q) 600 1 = some (nI (q + 600), kI A 12 q 600) := by
  have e := loop_for (body := fun z => f_M_keepsRow_5_l3 600 1 (nI q) z.1 z.2) 600 (fun i => kI A 12 q i) (b := kI A 12 q 600) 0 (by omega) (by omega)
    (fun i _ hi => by
      show f_M_keepsRow_5_l3 600 1 (nI q) (nI i) (kI A 12 q i) = some (Sum.inl (nI (i + 1), kI A 12 q (i + 1)))
      unfold f_M_keepsRow_5_l3
      rw [if_neg (show ¬ (600 : Int32) ≤ nI i from nI_ge (b := 600) hi (by omega)), if_neg (by decide), rdx_nI hi (by omega), obs, na_add, ixx_nI (by omega) (by omega), obs, kI_s (by decide), nI_succ])
    (by
      show f_M_keepsRow_5_l3 600 1 (nI q) (nI 600) _ = _
      unfold f_M_keepsRow_5_l3
      rw [if_pos (show (600 : Int32) ≤ nI 600 from nI_le (a := 600) (b := 600) (by omega) (by omega))])
  rw [kI_0] at e
  unfold f_M_keepsRow_5
  rw [show ((0 : Int32), A) = (nI 0, A) from rfl, e, obs, show (600 : Int32) = nI 600 from rfl, na_add]
theorem M_give_5 (A : Nat → Nat → Int32) {q : Nat} (hq : q + 600 ≤ 1974) : f_M_keepsRow_5 A (nI q) 600 0 = some (nI (q + 600), gI A 12 q 600) := by
  have e := loop_for (body := fun z => f_M_keepsRow_5_l3 600 0 (nI q) z.1 z.2) 600 (fun i => gI A 12 q i) (b := gI A 12 q 600) 0 (by omega) (by omega)
    (fun i _ hi => by
      show f_M_keepsRow_5_l3 600 0 (nI q) (nI i) (gI A 12 q i) = some (Sum.inl (nI (i + 1), gI A 12 q (i + 1)))
      unfold f_M_keepsRow_5_l3
      rw [if_neg (show ¬ (600 : Int32) ≤ nI i from nI_ge (b := 600) hi (by omega)), if_pos rfl, na_add, rdx_nI (by omega) (by omega), obs, ixx_nI hi (by omega), obs, gI_s (by decide), nI_succ])
    (by
      show f_M_keepsRow_5_l3 600 0 (nI q) (nI 600) _ = _
      unfold f_M_keepsRow_5_l3
      rw [if_pos (show (600 : Int32) ≤ nI 600 from nI_le (a := 600) (b := 600) (by omega) (by omega))])
  rw [gI_0] at e
  unfold f_M_keepsRow_5
  rw [show ((0 : Int32), A) = (nI 0, A) from rfl, e, obs, show (600 : Int32) = nI 600 from rfl, na_add]
/-- the class: a state is copied -/
theorem Y_copy {C : CS} {SB : Nat → Nat → Int32} (SA : Nat → Nat → Int32) (hW : WFC C) (hS : RS C SB) : ∃ SA', f_State_copy SB SA = some SA' ∧ RS C SA' := by
  have hN := hW.2.2.2.1
  have h5 : C 0 5 ≤ 30 := hW.2.2.2.2.2.1
  have hL : C 0 7 ≤ 10 := by obtain ⟨_, _, _, _, _, _, _, h, _⟩ := hW; exact h
  have e04 : SB 0 4 = nI (C 0 5) := hS 0 4 (Or.inr rfl)
  have c10 : (nI (C 0 5) * 10).toNatClampNeg = C 0 5 * 10 := by rw [show (10 : Int32) = nI 10 from rfl, na_mul, nI_cl (by omega)]
  have cn : ¬ (nI (C 0 5) * 10 < 0) := by rw [show (10 : Int32) = nI 10 from rfl, na_mul]; exact nI_pos (by omega)
  have g1 : ¬ ((0 : Int32) < 0 ∨ (0 : Int32) < 0 ∨ (10 : Int32) < 0 ∨ 10 < 0 + 10 ∨ 10 < 0 + 10) := by decide
  have g2 : ¬ ((0 : Int32) < 0 ∨ (0 : Int32) < 0 ∨ nI (C 0 5) * 10 < 0 ∨ 300 < 0 + C 0 5 * 10 ∨ 300 < 0 + C 0 5 * 10) := by
    rintro (h | h | h | h | h)
    · revert h; decide
    · revert h; decide
    · exact cn h
    · omega
    · omega
  have v6 : ∀ (B : Nat → Nat → Int32) (f : Nat → Int32) (b : Nat), u1 B 6 f 0 b = B 0 b := fun _ _ _ => rfl
  unfold f_State_copy f_Target_copy_2
  simp only [cl_0, cl_10]
  rw [if_neg g1, if_neg g1, if_neg g1, if_neg g1, obs]
  simp only [v6, u2_same, e04, c10]
  rw [if_neg g2, if_neg g2]
  refine ⟨_, rfl, ?_⟩
  intro a b hd
  match a, hd with
  | 0, hd =>
    have hb : b = 3 ∨ b = 4 := hd
    rcases hb with rfl | rfl
    · show SB 0 3 = _
      exact hS 0 3 hd
    · rfl
  | 1, hd =>
    have hb : b < C 0 3 := hd
    show a_cpy (SB 1) _ 0 0 10 b = _
    rw [cpyN _ _ (by omega), Nat.sub_zero, Nat.zero_add]
    exact hS 1 b hd
  | 2, hd =>
    have hb : b < C 0 3 := hd
    show a_cpy (SB 2) _ 0 0 10 b = _
    rw [cpyN _ _ (by omega), Nat.sub_zero, Nat.zero_add]
    exact hS 2 b hd
  | 3, hd =>
    have hb : b = 0 := hd
    subst hb
    show SB 3 0 = _
    exact hS 3 0 hd
  | 4, hd =>
    have hb : b < C 0 7 := hd
    show a_cpy (SB 4) _ 0 0 10 b = _
    rw [cpyN _ _ (by omega), Nat.sub_zero, Nat.zero_add]
    exact hS 4 b hd
  | 5, hd =>
    have hb : b < C 0 7 := hd
    show a_cpy (SB 5) _ 0 0 10 b = _
    rw [cpyN _ _ (by omega), Nat.sub_zero, Nat.zero_add]
    exact hS 5 b hd
  | 6, hd =>
    have hb : b / 10 < C 0 5 ∧ b % 10 < C 0 3 := hd
    show a_cpy (SB 6) _ 0 0 (C 0 5 * 10) b = _
    rw [cpyN _ _ (by omega), Nat.sub_zero, Nat.zero_add]
    exact hS 6 b hd
  | 7, hd =>
    have hb : b / 10 < C 0 5 ∧ b % 10 < C 0 3 := hd
    show a_cpy (SB 7) _ 0 0 (C 0 5 * 10) b = _
    rw [cpyN _ _ (by omega), Nat.sub_zero, Nat.zero_add]
    exact hS 7 b hd
/-- the state now becomes the newest image -/
def imgC (C : CS) : CS := fun a b => if a = 0 ∧ b = 6 then C 0 6 + 1 else if a / 100 = C 0 6 + 1 then C (a % 100) b else C a b
/-- the newest image becomes the state now -/
def resC (C : CS) (j : Nat) : CS := fun a b => if a < 100 then (if a = 0 ∧ b = 6 then j else stC C j a b) else C a b
theorem isSt_lt {a b : Nat} (h : isSt a b = true) : a < 100 := by
  unfold isSt at h
  simp at h
  omega
theorem img_st (C : CS) : stC (imgC C) (C 0 6) = fun a b => if isSt a b = true then C a b else if a = 0 ∧ b = 6 then 0 else if a < 100 then C a b else 0 := by
  funext a b
  unfold stC
  by_cases h : isSt a b = true
  · have hl := isSt_lt h
    rw [if_pos h, if_pos h]
    unfold imgC
    rw [if_neg (by omega), if_pos (by omega), show (100 * (C 0 6 + 1) + a) % 100 = a from by omega]
  · rw [if_neg h, if_neg h]
    by_cases h6 : a = 0 ∧ b = 6
    · rw [if_pos h6, if_pos h6]
    · rw [if_neg h6, if_neg h6]
      by_cases hl : a < 100
      · rw [if_pos hl, if_pos hl]
        unfold imgC
        rw [if_neg h6, if_neg (by omega)]
      · rw [if_neg hl, if_neg hl]
theorem img_st_lt (C : CS) {i : Nat} (hi : i < C 0 6) : stC (imgC C) i = stC C i := by
  funext a b
  unfold stC
  by_cases h : isSt a b = true
  · have hl := isSt_lt h
    rw [if_pos h, if_pos h]
    unfold imgC
    rw [if_neg (by omega), if_neg (by omega)]
  · rw [if_neg h, if_neg h]
    by_cases h6 : a = 0 ∧ b = 6
    · rw [if_pos h6, if_pos h6]
    · rw [if_neg h6, if_neg h6]
      by_cases hl : a < 100
      · rw [if_pos hl, if_pos hl]
        unfold imgC
        rw [if_neg h6, if_neg (by omega)]
      · rw [if_neg hl, if_neg hl]
theorem res_st (C : CS) (j i : Nat) : stC (resC C j) i = stC C i := by
  funext a b
  unfold stC
  by_cases h : isSt a b = true
  · rw [if_pos h, if_pos h]
    unfold resC
    rw [if_neg (by omega)]
  · rw [if_neg h, if_neg h]
    by_cases h6 : a = 0 ∧ b = 6
    · rw [if_pos h6, if_pos h6]
    · rw [if_neg h6, if_neg h6]
      by_cases hl : a < 100
      · rw [if_pos hl, if_pos hl]
        unfold resC stC
        rw [if_pos hl, if_neg h6, if_neg h, if_neg h6, if_pos hl]
      · rw [if_neg hl, if_neg hl]
theorem img_h (C : CS) : SAMEH C (imgC C) := fun a b h1 _ h3 => by
  unfold imgC
  rw [if_neg h3, if_neg (by omega)]
theorem res_h (C : CS) (j : Nat) : SAMEH C (resC C j) := fun a b h1 h2 h3 => by
  unfold resC stC
  rw [if_pos h1, if_neg h3, if_neg (fun g => by rw [h2] at g; cases g), if_neg h3, if_pos h1]
