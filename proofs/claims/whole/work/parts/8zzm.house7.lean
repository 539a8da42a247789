/-! PURE MATH: house: the new house -/
def hsC (D : CS) : CS := fun a b => if a = 0 then (if b < 5 then D 0 b else 0) else if a < 14 then D a b else if a = 15 then (if b < D 0 3 then D 5 b + 1 else 0) else if a = 16 then D 6 b else 0
theorem bs_ext (p : Nat → Prop) [DecidablePred p] {n k : Nat} (hn : n ≤ k) (h : ∀ m, p m → m < n) : bs p k = bs p n := by
  apply Nat.eq_of_testBit_eq
  intro i
  rw [bs_bit, bs_bit]
  by_cases hp : p i
  · have := h i hp
    have h1 : i < k := by omega
    simp only [h1, this, hp]
  · simp only [hp, and_false]
theorem bs_self {x k : Nat} (h : x < 2 ^ k) : bs (fun i => x.testBit i = true) k = x := by
  apply Nat.eq_of_testBit_eq
  intro i
  rw [bs_bit]
  by_cases hb : x.testBit i = true
  · have := bit_lt h hb
    simp only [this, hb, and_self, decide_true]
  · simp only [hb, and_false, decide_false, Bool.false_eq_true, Bool.not_eq_true] at *
theorem WFC_hs {D : CS} (hW : WD D) : WFC (hsC D) := by
  obtain ⟨⟨b1, b2⟩, b3, b4, b5, b6, b7, b8, b9, b10, b11, b12, b13, b14, b15, b16, b17, b18, b19, b20, b21, b22⟩ := hW
  have h10 : 2 ^ D 0 0 ≤ 2 ^ 10 := Nat.pow_le_pow_right (by omega) b2
  have h8 : 2 ^ D 0 2 ≤ 2 ^ 8 := Nat.pow_le_pow_right (by omega) b4
  refine ⟨⟨b1, b2⟩, b3, b4, b5, b6, Nat.zero_le _, Nat.zero_le _, Nat.zero_le _, Nat.zero_le _, Nat.zero_le _, Nat.zero_le _, b7, b8, b9, fun k => Nat.lt_of_lt_of_le (b10 k) h10, b11, fun k => Nat.lt_of_lt_of_le (b12 k) h8, fun k => Nat.lt_of_lt_of_le (b13 k) h10, b14, b15, b16, b17, fun k => Nat.zero_le _, fun k => ?_, fun k => by show 0 < 256; omega⟩
  show (if k < D 0 3 then D 5 k + 1 else 0) ≤ 30
  by_cases hk : k < D 0 3
  · rw [if_pos hk]; exact (b19 k hk).1
  · rw [if_neg hk]; omega
theorem WFP_hs {D : CS} (hW : WD D) : WFP (hsC D) := by
  obtain ⟨⟨b1, b2⟩, b3, b4, b5, b6, b7, b8, b9, b10, b11, b12, b13, b14, b15, b16, b17, b18, b19, b20, b21, b22⟩ := hW
  refine ⟨fun m hm => ?_, fun k hk => b20 k hk, fun i hi => ?_, fun a m ha => ?_, fun m => b13 m⟩
  · show okP (hsC D) (if m < D 0 3 then D 5 m + 1 else 0)
    rw [if_pos (show m < D 0 3 from hm)]
    exact b19 m hm
  · have hi : i < 0 := hi
    omega
  · have ha : a < 0 := ha
    omega
/-- what a new house is -/
def NEWC (C : CS) : Prop := WFP C ∧ WFM C ∧ WFU C ∧ BND 99 C ∧ C 0 6 = 0
theorem NEW_hs {D : CS} (hW : WD D) : NEWC (hsC D) := by
  refine ⟨WFP_hs hW, fun m p hp => ?_, Or.inl rfl, fun a b hab => ?_, rfl⟩
  · have h8 : (hsC D) 8 m < 2 ^ D 0 2 := hW.2.2.2.2.2.2.2.2.2.2.1 m
    exact bit_lt h8 hp
  · have h6 := hW.2.2.2.2.2.2.2.2.2.2.2.2.2.2.2.2.1
    unfold hsC
    by_cases h0 : a = 0
    · omega
    · rw [if_neg h0]
      by_cases h14 : a < 14
      · omega
      · rw [if_neg h14, if_neg (by omega)]
        by_cases h16 : a = 16
        · rw [if_pos h16]; exact h6 b
        · rw [if_neg h16]; omega
theorem mh10 (H : Nat → Nat → Int32) (f : Nat → Int32) (v : Int32) : f_House_mayHours (u1 H 10 f) v = f_House_mayHours H v := rfl
theorem bh10 (H : Nat → Nat → Int32) (f : Nat → Int32) (v : Int32) : f_House_busyHoursOf (u1 H 10 f) v = f_House_busyHoursOf H v := rfl
theorem Y_settle {D : CS} {H M : Nat → Nat → Int32} (hD : NH D H M) (hW : WD D) : ∃ H', f_House_settle H = some H' ∧ RH (hsC D) H' ∧ ∀ a b, a ≠ 10 → H' a b = H a b := by
  have hC := WFC_hs hW
  obtain ⟨a1, a2, a3, a4, a5, a6, a7, a8⟩ := hD
  obtain ⟨⟨b1, b2⟩, b3, b4, b5, b6, b7, b8, b9, b10, b11, b12, b13, b14, b15, b16, b17, b18, b19, b20, b21, b22⟩ := hW
  have hall : RH (hsC D) (u1 H 10 (fun m => nI (bs (fun h => (s_may (hsC D) m).testBit h ∧ ¬ (s_busy (hsC D) ((hsC D) 8 m) ((hsC D) 0 2)).testBit h) 10))) := by
    intro a b hd
    match a, hd with
    | 0, hd =>
      have hb : b < 6 := hd
      show H 0 b = if b < 5 then nI (hsC D 0 b) else nI (bs (fun m => D 10 m = 1) (D 0 3))
      by_cases h5 : b < 5
      · rw [if_pos h5, (a1 b h5).1]
        show _ = nI (if b < 5 then D 0 b else 0)
        rw [if_pos h5]
      · rw [if_neg h5, show b = 5 from by omega, ← bs_ext (fun m => D 10 m = 1) b5 b21]
        exact a2
    | 1, hd => exact (a3 b hd).1
    | 2, hd => exact (a4 b hd).1
    | 3, hd => exact (a4 b hd).2.1
    | 4, hd =>
      have hb : b < D 0 2 := hd
      exact a5 b (by omega)
    | 7, hd => exact (a6 b hd).2.1
    | 8, hd =>
      have hb : b < D 0 3 := hd
      exact (a7 b (by omega)).2.1
    | 9, hd =>
      have hb : b < D 0 3 := hd
      exact (a7 b (by omega)).2.2.1
    | 10, hd =>
      rw [u1_eq, if_pos rfl]
      rfl
    | 11, hd => exact (a8 b hd).1
    | 12, hd => exact (a8 b hd).2.1
  have h03 : H 0 3 = nI (D 0 3) := (a1 3 (by omega)).1
  unfold f_House_settle
  have e := loop_for (body := fun q : Int32 × (Nat → Nat → Int32) => f_House_settle_l2 q.1 q.2) (D 0 3) (fun i => u1 H 10 (fun m => if m < i then nI (bs (fun h => (s_may (hsC D) m).testBit h ∧ ¬ (s_busy (hsC D) ((hsC D) 8 m) ((hsC D) 0 2)).testBit h) 10) else H 10 m)) (b := u1 H 10 (fun m => if m < D 0 3 then nI (bs (fun h => (s_may (hsC D) m).testBit h ∧ ¬ (s_busy (hsC D) ((hsC D) 8 m) ((hsC D) 0 2)).testBit h) 10) else H 10 m)) 0 (by omega) (by omega)
    (fun i _ hi => by
      have hm := Y_mayHours hC hall (j := i) hi
      have hb8 : (hsC D) 8 i < 2 ^ 8 := hC.mem i
      have hbu := Y_busyHoursOf hC hall (w := (hsC D) 8 i) (by omega)
      rw [mh10] at hm
      rw [bh10] at hbu
      show f_House_settle_l2 (nI i) (u1 H 10 _) = _
      unfold f_House_settle_l2
      have r8 : rdx ((u1 H 10 (fun m => if m < i then nI (bs (fun h => (s_may (hsC D) m).testBit h ∧ ¬ (s_busy (hsC D) ((hsC D) 8 m) ((hsC D) 0 2)).testBit h) 10) else H 10 m)) 8) 10 (nI i) = some (nI ((hsC D) 8 i)) := by
        rw [rdx_nI (by omega) (by omega), u1_eq, if_neg (by decide)]
        exact congrArg some (a7 i (by omega)).2.1
      have h03' : (u1 H 10 (fun m => if m < i then nI (bs (fun h => (s_may (hsC D) m).testBit h ∧ ¬ (s_busy (hsC D) ((hsC D) 8 m) ((hsC D) 0 2)).testBit h) 10) else H 10 m)) 0 3 = nI (D 0 3) := by rw [u1_eq, if_neg (by decide), h03]
      rw [h03', if_neg (nI_ge hi (by omega)), mh10, hm, obs, r8, obs, bh10, hbu, obs, ixx_nI (by omega) (by omega), obs, na_not, na_and, u2_u1, ← nI_succ]
      have hmb := s_may_lt hC i
      have ex : nI (s_may (hsC D) i &&& (s_busy (hsC D) ((hsC D) 8 i) ((hsC D) 0 2) ^^^ 4294967295)) = nI (bs (fun h => (s_may (hsC D) i).testBit h ∧ ¬ (s_busy (hsC D) ((hsC D) 8 i) ((hsC D) 0 2)).testBit h) 10) := by
        conv => lhs; rw [← bs_self hmb]
        rw [bs_diff _ (by omega)]
      rw [ex]
      congr 4
      funext m
      by_cases hmi : m = i
      · subst hmi
        rw [Nat.beq_refl, if_pos (show m < m + 1 from Nat.lt_succ_self m)]
        rfl
      · have hbq : Nat.beq m i = false := by
          cases hb : Nat.beq m i with
          | false => rfl
          | true => exact absurd (Nat.eq_of_beq_eq_true hb) hmi
        rw [hbq]
        show (if m < i then _ else _) = _
        by_cases h1 : m < i
        · rw [if_pos h1, if_pos (by omega)]
        · rw [if_neg h1, if_neg (by omega)])
    (by
      show f_House_settle_l2 (nI (D 0 3)) (u1 H 10 _) = _
      unfold f_House_settle_l2
      have h03' : (u1 H 10 (fun m => if m < D 0 3 then nI (bs (fun h => (s_may (hsC D) m).testBit h ∧ ¬ (s_busy (hsC D) ((hsC D) 8 m) ((hsC D) 0 2)).testBit h) 10) else H 10 m)) 0 3 = nI (D 0 3) := by rw [u1_eq, if_neg (by decide), h03]
      rw [h03', if_pos (nI_le (Nat.le_refl _) (by omega))])
  have e0 : u1 H 10 (fun m => if m < 0 then nI (bs (fun h => (s_may (hsC D) m).testBit h ∧ ¬ (s_busy (hsC D) ((hsC D) 8 m) ((hsC D) 0 2)).testBit h) 10) else H 10 m) = H := by
    have : (fun m => if m < 0 then nI (bs (fun h => (s_may (hsC D) m).testBit h ∧ ¬ (s_busy (hsC D) ((hsC D) 8 m) ((hsC D) 0 2)).testBit h) 10) else H 10 m) = H 10 := by
      funext m
      rw [if_neg (by omega)]
    rw [this, u1_self]
  have e : loopN (fun q : Int32 × (Nat → Nat → Int32) => f_House_settle_l2 q.1 q.2) a_F (nI 0, u1 H 10 (fun m => if m < 0 then nI (bs (fun h => (s_may (hsC D) m).testBit h ∧ ¬ (s_busy (hsC D) ((hsC D) 8 m) ((hsC D) 0 2)).testBit h) 10) else H 10 m)) = _ := e
  rw [e0] at e
  have e : loopN (fun q : Int32 × (Nat → Nat → Int32) => f_House_settle_l2 q.1 q.2) a_F (0, H) = _ := e
  rw [e, obs]
  refine ⟨_, rfl, fun a b hd => ?_, fun a b h => by rw [u1_eq, if_neg h]⟩
  have hh := hall a b hd
  rw [← hh]
  rw [u1_eq, u1_eq]
  by_cases h10 : a = 10
  · subst h10
    have hb : b < D 0 3 := hd
    rw [if_pos rfl, if_pos rfl, if_pos hb]
  · rw [if_neg h10, if_neg h10]
/-- the reference's new house -/
theorem M_sets (A M : Nat → Nat → Int32) {N : Nat} (hN : N ≤ 10) (h21 : M 0 21 = nI N) : ∃ A', f_M_sets A M = some A' ∧ (∀ j, j < 5 → A' 0 (23 + j) = M 0 (18 + j)) ∧ A' 0 33 = 0 ∧ A' 0 40 = 0 ∧ A' 0 43 = 0 ∧ A' 0 65 = 0 ∧ (∀ k, k < 3 → A' 3 k = M 1 k) ∧ (∀ k, k < 24 → A' 4 k = M 2 k) ∧ (∀ k, k < 60 → A' 5 k = M 3 k) ∧ (∀ k, k < 16 → A' 6 k = M 4 k) ∧ (∀ m, m < N → A' 7 m = M 3 (6 * m) ∧ A' 8 m = M 3 (6 * m + 5)) ∧ A' 0 0 = A 0 0 ∧ A' 0 2 = A 0 2 ∧ A' 0 8 = A 0 8 ∧ ∀ b, A' 1 b = A 1 b := by
  have cp : ∀ (f : Nat → Int32) (g : Nat → Int32) (k : Nat), k < 100 → cpM f k g k (nI k) = some (fun j => if j < k then f j else g j) := fun f g k hk => by
    unfold cpM
    rw [nI_cl (by omega), if_pos ⟨Nat.le_refl _, Nat.le_refl _⟩]
  unfold f_M_sets
  generalize hB : (u2 (u2 (u2 (u2 (u2 A 0 23 (M 0 18)) 0 24 (M 0 19)) 0 25 (M 0 20)) 0 26 (M 0 21)) 0 27 (M 0 22)) = B
  have hb0 : ∀ a b, B a b = if a = 0 ∧ b = 27 then M 0 22 else if a = 0 ∧ b = 26 then M 0 21 else if a = 0 ∧ b = 25 then M 0 20 else if a = 0 ∧ b = 24 then M 0 19 else if a = 0 ∧ b = 23 then M 0 18 else A a b := fun a b => by
    rw [← hB, u2_eq, u2_eq, u2_eq, u2_eq, u2_eq]
  have c3 := cp (M 1) (B 3) 3 (by omega)
  have c3 : cpM (M 1) 3 (B 3) 3 3 = _ := c3
  rw [c3, obs]
  generalize hB3 : u1 B 3 (fun j => if j < 3 then M 1 j else B 3 j) = B3
  have c4 := cp (M 2) (B3 4) 24 (by omega)
  have c4 : cpM (M 2) 24 (B3 4) 24 24 = _ := c4
  rw [c4, obs]
  generalize hB4 : u1 B3 4 (fun j => if j < 24 then M 2 j else B3 4 j) = B4
  have c5 := cp (M 3) (B4 5) 60 (by omega)
  have c5 : cpM (M 3) 60 (B4 5) 60 60 = _ := c5
  rw [c5, obs]
  generalize hB5 : u1 B4 5 (fun j => if j < 60 then M 3 j else B4 5 j) = B5
  have c6 := cp (M 4) (B5 6) 16 (by omega)
  have c6 : cpM (M 4) 16 (B5 6) 16 16 = _ := c6
  rw [c6, obs]
  generalize hB6 : u1 B5 6 (fun j => if j < 16 then M 4 j else B5 6 j) = B6
  have g0 : ∀ b, B6 0 b = B 0 b := fun b => by rw [← hB6, u1_eq, if_neg (by decide), ← hB5, u1_eq, if_neg (by decide), ← hB4, u1_eq, if_neg (by decide), ← hB3, u1_eq, if_neg (by decide)]
  have g1 : ∀ b, B6 1 b = A 1 b := fun b => by rw [← hB6, u1_eq, if_neg (by decide), ← hB5, u1_eq, if_neg (by decide), ← hB4, u1_eq, if_neg (by decide), ← hB3, u1_eq, if_neg (by decide), hb0, if_neg (by omega), if_neg (by omega), if_neg (by omega), if_neg (by omega), if_neg (by omega)]
  have g3 : ∀ k, k < 3 → B6 3 k = M 1 k := fun k hk => by rw [← hB6, u1_eq, if_neg (by decide), ← hB5, u1_eq, if_neg (by decide), ← hB4, u1_eq, if_neg (by decide), ← hB3, u1_eq, if_pos rfl, if_pos hk]
  have g4 : ∀ k, k < 24 → B6 4 k = M 2 k := fun k hk => by rw [← hB6, u1_eq, if_neg (by decide), ← hB5, u1_eq, if_neg (by decide), ← hB4, u1_eq, if_pos rfl, if_pos hk]
  have g5 : ∀ k, k < 60 → B6 5 k = M 3 k := fun k hk => by rw [← hB6, u1_eq, if_neg (by decide), ← hB5, u1_eq, if_pos rfl, if_pos hk]
  have g6 : ∀ k, k < 16 → B6 6 k = M 4 k := fun k hk => by rw [← hB6, u1_eq, if_pos rfl, if_pos hk]
  have g26 : B6 0 26 = nI N := by rw [g0, hb0, if_neg (by omega), if_pos ⟨rfl, rfl⟩, h21]
  have e := loop_rel (body := fun q : Int32 × (Nat → Nat → Int32) => f_M_sets_l97 q.1 q.2) 10 (fun i s => s.1 = nI i ∧ (∀ m, m < i → m < N → s.2 7 m = M 3 (6 * m) ∧ s.2 8 m = M 3 (6 * m + 5)) ∧ ∀ a b, a ≠ 7 → a ≠ 8 → s.2 a b = B6 a b) (fun A' => (∀ m, m < N → A' 7 m = M 3 (6 * m) ∧ A' 8 m = M 3 (6 * m + 5)) ∧ ∀ a b, a ≠ 7 → a ≠ 8 → A' a b = B6 a b) (by omega)
    (fun i s hi hs => by
      obtain ⟨v, X⟩ := s
      obtain ⟨s1, s2, s3⟩ := hs
      have s1 : v = nI i := s1
      subst s1
      have s2' : ∀ m, m < i → m < N → X 7 m = M 3 (6 * m) ∧ X 8 m = M 3 (6 * m + 5) := s2
      have s3' : ∀ a b, a ≠ 7 → a ≠ 8 → X a b = B6 a b := s3
      have x26 : X 0 26 = nI N := by rw [s3' 0 26 (by decide) (by decide), g26]
      have eN : (nI N ≤ nI i) = (N ≤ i) := propext (na_le (by omega) (by omega))
      show ∃ s', f_M_sets_l97 (nI i) X = _ ∧ _
      unfold f_M_sets_l97
      rw [if_neg (show ¬ (10 : Int32) ≤ nI i from nI_ge (b := 10) hi (by omega)), x26]
      by_cases c : N ≤ i
      · simp only [eN]
        rw [if_pos c, obs, ixx_nI (by omega) (by omega), obs]
        rw [u2_row _ _ (by decide), x26, if_pos (eN.mpr c), obs, obs, ← nI_succ]
        refine ⟨_, rfl, rfl, fun m hm hmN => ?_, fun a b h7 h8 => ?_⟩
        · show u2 (u2 X 7 i (-1)) 8 i 0 7 m = _ ∧ u2 (u2 X 7 i (-1)) 8 i 0 8 m = _
          rw [u2_row _ _ (by decide), u2_col _ _ (by omega), u2_col _ _ (by omega), u2_row _ _ (by decide)]
          exact s2' m (by omega) hmN
        · show u2 (u2 X 7 i (-1)) 8 i 0 a b = _
          rw [u2_row _ _ h8, u2_row _ _ h7]; exact s3' a b h7 h8
      · have r0 : rdx (X 5) 60 (6 * nI i) = some (M 3 (6 * i)) := by rw [show (6 : Int32) * nI i = nI (6 * i) from na_mul 6 i, rdx_nI (by omega) (by omega), s3' 5 _ (by decide) (by decide), g5 _ (by omega)]
        have r5 : ∀ v, rdx ((u2 X 7 i v) 5) 60 (6 * nI i + 5) = some (M 3 (6 * i + 5)) := fun v => by rw [show (6 : Int32) * nI i + 5 = nI (6 * i + 5) from ix6 i 5, rdx_nI (by omega) (by omega), u2_row _ _ (by decide), s3' 5 _ (by decide) (by decide), g5 _ (by omega)]
        simp only [eN]
        rw [if_neg c, r0, obs, obs, ixx_nI (by omega) (by omega), obs]
        rw [u2_row _ _ (by decide), x26, if_neg (fun h => c (eN.mp h)), r5, obs, obs, obs, ← nI_succ]
        refine ⟨_, rfl, rfl, fun m hm hmN => ?_, fun a b h7 h8 => ?_⟩
        · show u2 (u2 X 7 i (M 3 (6 * i))) 8 i (M 3 (6 * i + 5)) 7 m = _ ∧ u2 (u2 X 7 i (M 3 (6 * i))) 8 i (M 3 (6 * i + 5)) 8 m = _
          by_cases hmi : m = i
          · subst hmi
            rw [u2_row _ _ (by decide), u2_same, u2_same]
            exact ⟨rfl, rfl⟩
          · rw [u2_row _ _ (by decide), u2_col _ _ hmi, u2_col _ _ hmi, u2_row _ _ (by decide)]
            exact s2' m (by omega) hmN
        · show u2 (u2 X 7 i (M 3 (6 * i))) 8 i (M 3 (6 * i + 5)) a b = _
          rw [u2_row _ _ h8, u2_row _ _ h7]; exact s3' a b h7 h8)
    (fun s hs => by
      obtain ⟨v, X⟩ := s
      obtain ⟨s1, s2, s3⟩ := hs
      have s1 : v = nI 10 := s1
      subst s1
      show ∃ b, f_M_sets_l97 (nI 10) X = _ ∧ _
      unfold f_M_sets_l97
      rw [if_pos (by decide)]
      exact ⟨_, rfl, fun m hm => s2 m (by omega) hm, s3⟩)
    (0, B6) ⟨rfl, fun m hm => by omega, fun _ _ _ _ => rfl⟩
  obtain ⟨X, e1, e2, e3⟩ := e
  rw [e1, obs]
  have hx : ∀ a b, a ≠ 0 → u2 (u2 (u2 (u2 X 0 33 0) 0 40 0) 0 43 0) 0 65 0 a b = X a b := fun a b h => by rw [u2_row _ _ h, u2_row _ _ h, u2_row _ _ h, u2_row _ _ h]
  have hx0 : ∀ b, b ≠ 33 → b ≠ 40 → b ≠ 43 → b ≠ 65 → u2 (u2 (u2 (u2 X 0 33 0) 0 40 0) 0 43 0) 0 65 0 0 b = B 0 b := fun b h1 h2 h3 h4 => by rw [u2_col _ _ h4, u2_col _ _ h3, u2_col _ _ h2, u2_col _ _ h1, e3 0 b (by decide) (by decide), g0]
  refine ⟨_, rfl, fun j hj => ?_, ?_, ?_, ?_, ?_, fun k hk => ?_, fun k hk => ?_, fun k hk => ?_, fun k hk => ?_, fun m hm => ?_, ?_, ?_, ?_, fun b => ?_⟩
  · rw [hx0 _ (by omega) (by omega) (by omega) (by omega), hb0]
    have : j = 0 ∨ j = 1 ∨ j = 2 ∨ j = 3 ∨ j = 4 := by omega
    rcases this with rfl | rfl | rfl | rfl | rfl <;> rfl
  · rw [u2_col _ _ (by decide), u2_col _ _ (by decide), u2_col _ _ (by decide), u2_same]
  · rw [u2_col _ _ (by decide), u2_col _ _ (by decide), u2_same]
  · rw [u2_col _ _ (by decide), u2_same]
  · rw [u2_same]
  · rw [hx _ _ (by decide), e3 _ _ (by decide) (by decide), g3 k hk]
  · rw [hx _ _ (by decide), e3 _ _ (by decide) (by decide), g4 k hk]
  · rw [hx _ _ (by decide), e3 _ _ (by decide) (by decide), g5 k hk]
  · rw [hx _ _ (by decide), e3 _ _ (by decide) (by decide), g6 k hk]
  · rw [hx _ _ (by decide), hx _ _ (by decide)]; exact e2 m hm
  · rw [hx0 _ (by omega) (by omega) (by omega) (by omega), hb0, if_neg (by omega), if_neg (by omega), if_neg (by omega), if_neg (by omega), if_neg (by omega)]
  · rw [hx0 _ (by omega) (by omega) (by omega) (by omega), hb0, if_neg (by omega), if_neg (by omega), if_neg (by omega), if_neg (by omega), if_neg (by omega)]
  · rw [hx0 _ (by omega) (by omega) (by omega) (by omega), hb0, if_neg (by omega), if_neg (by omega), if_neg (by omega), if_neg (by omega), if_neg (by omega)]
  · rw [hx _ _ (by decide), e3 _ _ (by decide) (by decide), g1]
