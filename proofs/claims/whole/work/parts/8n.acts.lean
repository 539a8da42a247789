/-! PURE MATH: what acts leave as it is -/
/-- all but the state now -/
def SAME (C C' : CS) : Prop := ∀ a b, isSt a b = false → C' a b = C a b
theorem SAME.row {C C' : CS} (h : SAME C C') (a : Nat) (ha : ∀ b, isSt a b = false) : C' a = C a := funext (fun b => h a b (ha b))
theorem SAME.c0 {C C' : CS} (h : SAME C C') {b : Nat} (h5 : b ≠ 5) (h7 : b ≠ 7) : C' 0 b = C 0 b := h 0 b (by
  unfold isSt
  simp [h5, h7])
theorem isSt_hi (i a b : Nat) : isSt (100 * (i + 1) + a) b = false := by
  have h : ∀ n, n < 100 → ((100 * (i + 1) + a == n) = false) := fun n hn => by
    rw [beq_eq_false_iff_ne]; omega
  unfold isSt
  rw [h 0 (by omega), h 14 (by omega), h 15 (by omega), h 16 (by omega), h 17 (by omega), h 18 (by omega), h 22 (by omega), h 23 (by omega)]
  rfl
theorem SAME.st {C C' : CS} (h : SAME C C') (i : Nat) : stC C' i = stC C i := by
  funext a b
  unfold stC
  by_cases h1 : isSt a b = true
  · rw [if_pos h1, if_pos h1, h _ _ (isSt_hi i a b)]
  · rw [if_neg h1, if_neg h1]
    split
    · rfl
    · rw [h a b (Bool.not_eq_true _ ▸ h1)]
/-- the house, the tape and the rule are the same -/
def SAMEH (C C' : CS) : Prop := ∀ a b, a < 100 → isSt a b = false → ¬ (a = 0 ∧ b = 6) → C' a b = C a b
theorem SAME.h {C C' : CS} (h : SAME C C') : SAMEH C C' := fun a b _ h2 _ => h a b h2
theorem SAMEH.row {C C' : CS} (h : SAMEH C C') (a : Nat) (h1 : a < 100) (h0 : a ≠ 0) (ha : ∀ b, isSt a b = false) : C' a = C a := funext (fun b => h a b h1 (ha b) (fun g => h0 g.1))
theorem SAMEH.c0 {C C' : CS} (h : SAMEH C C') {b : Nat} (h5 : b ≠ 5) (h6 : b ≠ 6) (h7 : b ≠ 7) : C' 0 b = C 0 b := h 0 b (by omega) (by
  unfold isSt
  simp [h5, h7]) (fun g => h6 g.2)
theorem SAMEH.busy {C C' : CS} (h : SAMEH C C') (w n : Nat) : s_busy C' w n = s_busy C w n := by
  have r4 : C' 4 = C 4 := h.row 4 (by omega) (by omega) (fun _ => rfl)
  induction n with
  | zero => rfl
  | succ n ih => unfold s_busy; rw [ih, r4]
theorem SAMEH.may {C C' : CS} (h : SAMEH C C') (m : Nat) : s_may C' m = s_may C m := by
  unfold s_may
  rw [h.row 9 (by omega) (by omega) (fun _ => rfl), h.c0 (b := 0) (by omega) (by omega) (by omega)]
theorem RH_sameh {C C' : CS} {H : Nat → Nat → Int32} (h : SAMEH C C') (hH : RH C H) : RH C' H := by
  have hc : ∀ b, b < 5 → C' 0 b = C 0 b := fun b hb => h.c0 (by omega) (by omega) (by omega)
  have c0 := hc 0 (by omega)
  have c1 := hc 1 (by omega)
  have c2 := hc 2 (by omega)
  have c3 := hc 3 (by omega)
  have c4 := hc 4 (by omega)
  have r1 := h.row 1 (by omega) (by omega) (fun _ => rfl)
  have r2 := h.row 2 (by omega) (by omega) (fun _ => rfl)
  have r3 := h.row 3 (by omega) (by omega) (fun _ => rfl)
  have r4 := h.row 4 (by omega) (by omega) (fun _ => rfl)
  have r7 := h.row 7 (by omega) (by omega) (fun _ => rfl)
  have r8 := h.row 8 (by omega) (by omega) (fun _ => rfl)
  have r9 := h.row 9 (by omega) (by omega) (fun _ => rfl)
  have r10 := h.row 10 (by omega) (by omega) (fun _ => rfl)
  have r11 := h.row 11 (by omega) (by omega) (fun _ => rfl)
  have r12 := h.row 12 (by omega) (by omega) (fun _ => rfl)
  have r13 := h.row 13 (by omega) (by omega) (fun _ => rfl)
  have eD : hD C' = hD C := by
    funext a b
    unfold hD
    rw [c1, c2, c3, c4]
  have eV : ∀ a b, hD C a b → hV C' a b = hV C a b := by
    intro a b
    unfold hV hD
    rw [r1, r2, r3, r4, r7, r8, r9, r10, r11, r12, r13, c2, c3]
    simp only [h.may, h.busy]
    split
    · intro hb
      split
      · rw [hc b (by omega)]
      · rfl
    all_goals (intro; rfl)
  intro a b hd
  rw [eD] at hd
  rw [eV a b hd]
  exact hH a b hd
theorem RT_sameh {C C' : CS} {T : Nat → Nat → Int32} (h : SAMEH C C') (hT : RT C T) : RT C' T := by
  have c9 := h.c0 (b := 9) (by omega) (by omega) (by omega)
  have c12 := h.c0 (b := 12) (by omega) (by omega) (by omega)
  have r19 := h.row 19 (by omega) (by omega) (fun _ => rfl)
  intro a b hd
  have hd' : tD C a b := by
    unfold tD at hd ⊢
    rw [c9] at hd
    exact hd
  rw [hT a b hd']
  unfold tV
  rw [c9, c12, r19]
theorem RH_same {C C' : CS} {H : Nat → Nat → Int32} (h : SAME C C') (hH : RH C H) : RH C' H := RH_sameh h.h hH
theorem RT_same {C C' : CS} {T : Nat → Nat → Int32} (h : SAME C C') (hT : RT C T) : RT C' T := RT_sameh h.h hT
theorem RY_same {C C' : CS} {Y : Nat → Nat → Int32} (h : SAME C C') (hY : RYc C Y) : RYc C' Y := by
  unfold RYc
  rw [h.c0 (b := 6) (by omega) (by omega)]
  exact hY
/-- a number becomes another -/
def updC (C : CS) (a b v : Nat) : CS := fun x y => if x = a ∧ y = b then v else C x y
/-- another plan, other times -/
def setPT (C : CS) (pl tm : Nat → Nat) : CS := fun a b => if a = 15 then pl b else if a = 16 then tm b else C a b
/-- one act more is kept -/
def keepC (C : CS) : CS := fun a b => if a = 0 ∧ b = 5 then C 0 5 + 1 else if a = 22 ∧ 10 * C 0 5 ≤ b ∧ b < 10 * C 0 5 + 10 then C 15 (b - 10 * C 0 5) else if a = 23 ∧ 10 * C 0 5 ≤ b ∧ b < 10 * C 0 5 + 10 then C 16 (b - 10 * C 0 5) else C a b
theorem same_upd {C : CS} {a b v : Nat} (h : isSt a b = true) : SAME C (updC C a b v) := fun x y hxy => by
  unfold updC
  rw [if_neg]
  rintro ⟨rfl, rfl⟩
  rw [h] at hxy
  cases hxy
theorem same_setPT (C : CS) (pl tm : Nat → Nat) : SAME C (setPT C pl tm) := fun x y hxy => by
  unfold setPT
  rw [if_neg, if_neg]
  · rintro rfl; cases hxy
  · rintro rfl; cases hxy
theorem same_keep (C : CS) : SAME C (keepC C) := fun x y hxy => by
  unfold keepC
  rw [if_neg, if_neg, if_neg]
  · rintro ⟨rfl, _⟩; cases hxy
  · rintro ⟨rfl, _⟩; cases hxy
  · rintro ⟨rfl, rfl⟩; cases hxy
theorem SAME.trans {C C' C'' : CS} (h : SAME C C') (h' : SAME C' C'') : SAME C C'' := fun a b hab => (h' a b hab).trans (h a b hab)
theorem SAME.refl (C : CS) : SAME C C := fun _ _ _ => rfl
/-- the reference's rows 7 and 8 become another plan and other times -/
theorem RM_PT {C : CS} {A A' : Nat → Nat → Int32} (h : RMo C A) (pl tm : Nat → Nat) (ho : ∀ a b, a ≠ 7 → a ≠ 8 → A' a b = A a b) (h7 : ∀ m, m < C 0 3 → A' 7 m = oI (pl m)) (h8 : ∀ m, m < C 0 3 → A' 8 m = nI (tm m)) : RMo (setPT C pl tm) A' := by
  have hst := (same_setPT C pl tm).st
  intro a b hd
  by_cases e7 : a = 7
  · subst e7
    exact h7 b hd
  by_cases e8 : a = 8
  · subst e8
    exact h8 b hd
  rw [ho a b e7 e8]
  have hd' : mD C a b := by
    unfold mD at hd ⊢
    simp only [hst] at hd
    exact hd
  rw [h a b hd']
  unfold mV
  simp only [hst]
  split <;> first | rfl | contradiction
/-- the same of the class's state -/
theorem RS_PT {C : CS} {S S' : Nat → Nat → Int32} (h : RS C S) (pl tm : Nat → Nat) (ho : ∀ a b, a ≠ 1 → a ≠ 2 → S' a b = S a b) (h7 : ∀ m, m < C 0 3 → S' 1 m = oI (pl m)) (h8 : ∀ m, m < C 0 3 → S' 2 m = nI (tm m)) : RS (setPT C pl tm) S' := by
  intro a b hd
  by_cases e7 : a = 1
  · subst e7
    exact h7 b hd
  by_cases e8 : a = 2
  · subst e8
    exact h8 b hd
  rw [ho a b e7 e8]
  have hd' : nD C a b := hd
  rw [h a b hd']
  unfold nV
  split <;> first | rfl | contradiction
theorem WFC_PT {C : CS} (h : WFC C) {pl tm : Nat → Nat} (hpl : ∀ m, pl m ≤ 30) : WFC (setPT C pl tm) := by
  obtain ⟨h1, h2, h3, h4, h5, h6, h7, h8, h9, h10, h11, h12, h13, h14, h15, h16, h17, h18, h19, h20, h21, h22, h23, h24, h25⟩ := h
  exact ⟨h1, h2, h3, h4, h5, h6, h7, h8, h9, h10, h11, h12, h13, h14, h15, h16, h17, h18, h19, h20, h21, h22, h23, hpl, h25⟩
theorem WFP_PT {C : CS} (h : WFP C) {pl tm : Nat → Nat} (hpl : ∀ m, m < C 0 3 → okP C (pl m)) : WFP (setPT C pl tm) := ⟨hpl, h.2⟩
