/-! ===== printed by program (gen/steps.py): the law's loop, its relation ===== -/
def WQ (n : Nat) (S : Nat → Int32) (Is : List (Nat → Nat → Int32)) (Rs : List Nat) : Prop := ∃ C Y T H H2 U V ST NS I0 I1 I2 BO FI RG GU PU MA MN MS OT SC w r5, RL C Y H NS MA ∧ QLC n C T U I0 I1 I2 ∧ SC 0 = S ∧ ((Is = [Y, T, H, H2, U, V, ST, NS, I0, I1, I2, BO, FI, RG, GU, PU, MA, MN, MS, OT, SC] ∧ Rs = [192, 256, 320, 384, w, r5, 576, 640, 704]) ∨ (Is = [Y, T, H, H2, V, U, ST, NS, I0, I1, I2, BO, FI, RG, GU, PU, MA, MN, MS, OT, SC] ∧ Rs = [192, 256, 384, 320, w, r5, 576, 640, 704]) ∨ (Is = [Y, T, H2, H, U, V, ST, NS, I0, I1, I2, BO, FI, RG, GU, PU, MA, MN, MS, OT, SC] ∧ Rs = [256, 192, 320, 384, w, r5, 576, 640, 704]) ∨ (Is = [Y, T, H2, H, V, U, ST, NS, I0, I1, I2, BO, FI, RG, GU, PU, MA, MN, MS, OT, SC] ∧ Rs = [256, 192, 384, 320, w, r5, 576, 640, 704]))
theorem QLC.le {n n' : Nat} {C : CS} {T U I0 I1 I2 : Nat → Nat → Int32} (h : QLC n C T U I0 I1 I2) (hn : n ≤ n') : QLC n' C T U I0 I1 I2 := by
  obtain ⟨h1, h2, h3, h4, h5, h6, h7, h8, h9⟩ := h
  exact ⟨h1, h2, h3, h4, h5, h6, h7, h8.le hn, by omega⟩
theorem cd1_0 {k : Nat} (h : cd1 k = 0) : k = 0 := by
  unfold cd1 at h
  by_cases c : k = 0
  · exact c
  · rw [if_neg c] at h; cases h
theorem cd2_0 {k : Nat} (hk : k < 3) (h : cd2 k = 0) : k = 0 := (na_eq (b := 0) (by omega) (by omega)).mp h
theorem hr_i1 {k j : Nat} {v : Int32} {Lg : Int64} (hj : j ≠ 0) (h : k = 0 ∨ k = j) : (k = 0 ∧ ∃ a : Int32, a_ov k (.int v) = some (.int a) ∧ cd1 k = 0 ∧ (if k = 0 then v.toInt64 else Lg : Int64) = a.toInt64) ∨ (k = j ∧ cd1 k = 1 ∧ Lg = (if k = 0 then v.toInt64 else Lg : Int64)) := by
  rcases h with rfl | rfl
  · exact Or.inl ⟨rfl, v, rfl, rfl, rfl⟩
  · refine Or.inr ⟨rfl, ?_, ?_⟩
    · unfold cd1; rw [if_neg hj]
    · rw [if_neg hj]
theorem hr_i2 {k : Nat} {v : Int32} {Lg : Int64} (h : k < 3) : (k = 0 ∧ ∃ a : Int32, a_ov k (.int v) = some (.int a) ∧ cd2 k = 0 ∧ (if k = 0 then v.toInt64 else Lg : Int64) = a.toInt64) ∨ (k = 1 ∧ cd2 k = 1 ∧ Lg = (if k = 0 then v.toInt64 else Lg : Int64)) ∨ (k = 2 ∧ cd2 k = 2 ∧ Lg = (if k = 0 then v.toInt64 else Lg : Int64)) := by
  have h3 : k = 0 ∨ k = 1 ∨ k = 2 := by omega
  rcases h3 with rfl | rfl | rfl
  · exact Or.inl ⟨rfl, v, rfl, rfl, rfl⟩
  · exact Or.inr (Or.inl ⟨rfl, rfl, rfl⟩)
  · exact Or.inr (Or.inr ⟨rfl, rfl, rfl⟩)
theorem hc_i {k : Nat} {v v' : Int32} {Lg : Int64} {c : Int32} (h0 : c = 0 → k = 0) (h : k = 0 → v = v') : c = 0 → (if k = 0 then v.toInt64 else Lg : Int64) = v'.toInt64 := by
  intro hc
  rw [if_pos (h0 hc), h (h0 hc)]
theorem hr_b1 {k j : Nat} {v : Int32} {Lg : Int64} (hj : j ≠ 0) (h : k = 0 ∨ k = j) : (k = 0 ∧ ∃ a : Int32, a_ov k (.int v) = some (.int a) ∧ cd1 k = 0 ∧ (if k = 0 then (if v = 0 then 0 else 1) else Lg : Int64) = (if a = 0 then 0 else 1)) ∨ (k = j ∧ cd1 k = 1 ∧ Lg = (if k = 0 then (if v = 0 then 0 else 1) else Lg : Int64)) := by
  rcases h with rfl | rfl
  · exact Or.inl ⟨rfl, v, rfl, rfl, rfl⟩
  · refine Or.inr ⟨rfl, ?_, ?_⟩
    · unfold cd1; rw [if_neg hj]
    · rw [if_neg hj]
theorem hr_b2 {k : Nat} {v : Int32} {Lg : Int64} (h : k < 3) : (k = 0 ∧ ∃ a : Int32, a_ov k (.int v) = some (.int a) ∧ cd2 k = 0 ∧ (if k = 0 then (if v = 0 then 0 else 1) else Lg : Int64) = (if a = 0 then 0 else 1)) ∨ (k = 1 ∧ cd2 k = 1 ∧ Lg = (if k = 0 then (if v = 0 then 0 else 1) else Lg : Int64)) ∨ (k = 2 ∧ cd2 k = 2 ∧ Lg = (if k = 0 then (if v = 0 then 0 else 1) else Lg : Int64)) := by
  have h3 : k = 0 ∨ k = 1 ∨ k = 2 := by omega
  rcases h3 with rfl | rfl | rfl
  · exact Or.inl ⟨rfl, v, rfl, rfl, rfl⟩
  · exact Or.inr (Or.inl ⟨rfl, rfl, rfl⟩)
  · exact Or.inr (Or.inr ⟨rfl, rfl, rfl⟩)
theorem hc_b {k : Nat} {v v' : Int32} {Lg : Int64} {c : Int32} (h0 : c = 0 → k = 0) (h : k = 0 → v = v') : c = 0 → (if k = 0 then (if v = 0 then 0 else 1) else Lg : Int64) = (if v' = 0 then 0 else 1) := by
  intro hc
  rw [if_pos (h0 hc), h (h0 hc)]
theorem hr_l1 {k j : Nat} {v : Int64} {Lg : Int64} (hj : j ≠ 0) (h : k = 0 ∨ k = j) : (k = 0 ∧ ∃ a : Int64, a_ov k (.long v) = some (.long a) ∧ cd1 k = 0 ∧ a = (if k = 0 then v else Lg : Int64)) ∨ (k = j ∧ cd1 k = 1 ∧ Lg = (if k = 0 then v else Lg : Int64)) := by
  rcases h with rfl | rfl
  · exact Or.inl ⟨rfl, v, rfl, rfl, rfl⟩
  · refine Or.inr ⟨rfl, ?_, ?_⟩
    · unfold cd1; rw [if_neg hj]
    · rw [if_neg hj]
theorem hr_l2 {k : Nat} {v : Int64} {Lg : Int64} (h : k < 3) : (k = 0 ∧ ∃ a : Int64, a_ov k (.long v) = some (.long a) ∧ cd2 k = 0 ∧ a = (if k = 0 then v else Lg : Int64)) ∨ (k = 1 ∧ cd2 k = 1 ∧ Lg = (if k = 0 then v else Lg : Int64)) ∨ (k = 2 ∧ cd2 k = 2 ∧ Lg = (if k = 0 then v else Lg : Int64)) := by
  have h3 : k = 0 ∨ k = 1 ∨ k = 2 := by omega
  rcases h3 with rfl | rfl | rfl
  · exact Or.inl ⟨rfl, v, rfl, rfl, rfl⟩
  · exact Or.inr (Or.inl ⟨rfl, rfl, rfl⟩)
  · exact Or.inr (Or.inr ⟨rfl, rfl, rfl⟩)
theorem hc_l {k : Nat} {v v' : Int64} {Lg : Int64} {c : Int32} (h0 : c = 0 → k = 0) (h : k = 0 → v = v') : c = 0 → (if k = 0 then v else Lg : Int64) = v' := by
  intro hc
  rw [if_pos (h0 hc), h (h0 hc)]
