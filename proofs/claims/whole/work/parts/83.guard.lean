/-! PURE MATH: what refuses -/
/-- a number of those below N -/
def inN (p : Int32) (N : Nat) : Prop := ∃ j, j < N ∧ p = nI j
theorem inN_iff {p : Int32} {N : Nat} (hN : N < 2 ^ 31) : inN p N ↔ (¬ p < 0 ∧ p < nI N) := by
  constructor
  · rintro ⟨j, hj, rfl⟩
    exact ⟨nI_pos (by omega), nI_lt hj hN⟩
  · rintro ⟨h1, h2⟩
    obtain ⟨j, hj, rfl⟩ := nI_of_nn h1
    exact ⟨j, (na_lt hj hN).mp h2, rfl⟩
theorem Y_one_in {Y : Nat → Nat → Int32} {p : Int32} {N : Nat} (hN : N < 2 ^ 31) (h : inN p N) : f_Y_needOneOf Y p (nI N) = some (0, Y) := by
  obtain ⟨h1, h2⟩ := (inN_iff hN).mp h
  unfold f_Y_needOneOf
  rw [if_neg h1, if_pos h2]
  rfl
theorem Y_one_out {Y : Nat → Nat → Int32} {p : Int32} {N : Nat} (hN : N < 2 ^ 31) (h : ¬ inN p N) : f_Y_needOneOf Y p (nI N) = some (1, u2 Y 0 14 (Y 0 14 + 1)) := by
  unfold f_Y_needOneOf
  by_cases h1 : p < 0
  · rw [if_pos h1]; rfl
  · rw [if_neg h1, if_neg (fun h2 => h ((inN_iff hN).mpr ⟨h1, h2⟩))]; rfl
theorem pred_lt {p : Int32} {N : Nat} (hN : N < 2 ^ 31) : nI N - 1 < p ↔ ¬ p < nI N := by
  rw [Int32.lt_iff_toInt_lt, Int32.lt_iff_toInt_lt, nI_toInt hN]
  cases N with
  | zero =>
    have : (nI 0 - 1).toInt = -1 := by decide
    rw [this]; omega
  | succ n =>
    rw [nI_pred, nI_toInt (by omega)]
    omega
theorem M_within_in {p : Int32} {N : Nat} (hN : N < 2 ^ 31) (h : inN p N) : f_M_within p 0 (nI N - 1) = some 1 := by
  obtain ⟨h1, h2⟩ := (inN_iff hN).mp h
  unfold f_M_within
  rw [if_neg h1, if_neg (fun h3 => (pred_lt hN).mp h3 h2)]
  rfl
theorem M_within_out {p : Int32} {N : Nat} (hN : N < 2 ^ 31) (h : ¬ inN p N) : f_M_within p 0 (nI N - 1) = some 0 := by
  unfold f_M_within
  by_cases h1 : p < 0
  · rw [if_pos h1]; rfl
  · rw [if_neg h1, if_pos ((pred_lt hN).mpr (fun h2 => h ((inN_iff hN).mpr ⟨h1, h2⟩)))]; rfl
/-- the same with its last one given -/
theorem M_to_in {p : Int32} {N : Nat} {q : Int32} (hq : q = nI N - 1) (hN : N < 2 ^ 31) (h : inN p N) : f_M_within p 0 q = some 1 := by rw [hq]; exact M_within_in hN h
theorem M_to_out {p : Int32} {N : Nat} {q : Int32} (hq : q = nI N - 1) (hN : N < 2 ^ 31) (h : ¬ inN p N) : f_M_within p 0 q = some 0 := by rw [hq]; exact M_within_out hN h
theorem M_may_in {A : Nat → Nat → Int32} {c k : Int32} (h0 : A 0 0 = 0) : f_M_may A 1 c k = some (1, A) := by
  unfold f_M_may
  rw [if_pos (by decide)]
  show (if A 0 0 ≠ 0 then _ else _) = _
  rw [if_neg (fun h => h h0)]
  rfl
/-- refused: the code stands in thrown, one refusal more -/
def mRef (A : Nat → Nat → Int32) (c : Int32) (k : Nat) : Nat → Nat → Int32 := u2 (u2 A 0 0 c) 1 k (A 1 k + 1)
theorem M_may_out {A : Nat → Nat → Int32} {c : Int32} {k : Nat} (h0 : A 0 0 = 0) (hc : c ≠ 0) (hk : k < 2) : f_M_may A 0 c (nI k) = some (0, mRef A c k) := by
  unfold f_M_may
  rw [if_neg (by decide), if_neg (fun h => h h0), rdx_nI hk (by omega), ixx_nI hk (by omega)]
  show (if (u2 (u2 A 0 0 c) 1 k ((u2 A 0 0 c) 1 k + 1)) 0 0 ≠ 0 then _ else _) = _
  rw [u2_row _ _ (by decide), u2_same, if_pos hc, u2_row _ _ (by decide)]
  rfl
theorem Y_ref_in {Y : Nat → Nat → Int32} : f_Y_refuseUnless Y 1 = some (0, Y) := by
  unfold f_Y_refuseUnless
  rw [if_pos (by decide)]
theorem Y_ref_out {Y : Nat → Nat → Int32} : f_Y_refuseUnless Y 0 = some (2, u2 Y 0 15 (Y 0 15 + 1)) := by
  unfold f_Y_refuseUnless
  rw [if_neg (by decide)]
theorem RM_thr {C : CS} {A : Nat → Nat → Int32} (h : RMo C A) (v : Int32) : RMo C (u2 A 0 0 v) := Rel.u2 h (fun hd => by
  have hd : (0 = 2 ∨ 0 = 8 ∨ (23 ≤ 0 ∧ 0 ≤ 27) ∨ 0 = 33 ∨ 0 = 40 ∨ 0 = 43 ∨ 0 = 65) := hd
  omega)
theorem bs_congr {p q : Nat → Prop} [DecidablePred p] [DecidablePred q] {n : Nat} (h : ∀ i, i < n → (p i ↔ q i)) : bs p n = bs q n := by
  induction n with
  | zero => rfl
  | succ n ih =>
    unfold bs
    rw [ih (fun i hi => h i (by omega))]
    have := h n (by omega)
    by_cases hp : p n
    · rw [if_pos hp, if_pos (this.mp hp)]
    · rw [if_neg hp, if_neg (fun hq => hp (this.mpr hq))]
theorem RM_ref {C : CS} {A : Nat → Nat → Int32} (h : RMo C A) (c : Int32) (k : Nat) : RMo C (mRef A c k) := Rel.u2 (RM_thr h c) (fun hd => by
  have hd : False := hd
  exact hd.elim)
/-- the class's count of what is missing (14), of what is wrong (15) -/
def yRef (Y : Nat → Nat → Int32) (k : Nat) : Nat → Nat → Int32 := u2 Y 0 (14 + k) (Y 0 (14 + k) + 1)
theorem RY_ref {C : CS} {Y : Nat → Nat → Int32} (h : RYc C Y) (k : Nat) : RYc C (yRef Y k) := by
  unfold RYc yRef
  rw [u2_col _ _ (by omega)]
  exact h
theorem RQ_thr {Y A : Nat → Nat → Int32} (h : RQ Y A) (v : Int32) : RQ Y (u2 A 0 0 v) := by
  unfold RQ
  rw [u2_row _ _ (by decide), u2_row _ _ (by decide)]
  exact h
theorem RQ_ref {Y A : Nat → Nat → Int32} (h : RQ Y A) (c : Int32) {k : Nat} (hk : k < 2) : RQ (yRef Y k) (mRef A c k) := by
  obtain ⟨h0, h1⟩ := h
  unfold RQ yRef mRef
  have hk : k = 0 ∨ k = 1 := by omega
  rcases hk with rfl | rfl
  · refine ⟨?_, ?_⟩
    · rw [u2_same, u2_same, h0]
    · rw [u2_col _ _ (by decide), u2_row _ _ (by decide), u2_col _ _ (by decide), h1]
  · refine ⟨?_, ?_⟩
    · rw [u2_col _ _ (by decide), u2_row _ _ (by decide), u2_col _ _ (by decide), h0]
    · rw [u2_same, u2_same, h1]
