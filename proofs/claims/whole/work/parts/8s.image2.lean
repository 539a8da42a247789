/-! PURE MATH: image, restore -/
/-- alike below row 100, but for the number of images -/
def EQS (C C' : CS) : Prop := ∀ a b, a < 100 → ¬ (a = 0 ∧ b = 6) → C' a b = C a b
theorem EQS.r {C C' : CS} (h : EQS C C') {a : Nat} (h1 : a < 100) (h0 : a ≠ 0) : C' a = C a := funext (fun b => h a b h1 (fun g => h0 g.1))
theorem EQS.c {C C' : CS} (h : EQS C C') {b : Nat} (h0 : b ≠ 6) : C' 0 b = C 0 b := h 0 b (by omega) (fun g => h0 g.2)
theorem EQS.h {C C' : CS} (h : EQS C C') : SAMEH C C' := fun a b h1 _ h3 => h a b h1 h3
theorem RS_eq {C C' : CS} {S : Nat → Nat → Int32} (h : EQS C C') (hS : RS C S) : RS C' S := by
  have c3 := h.c (b := 3) (by omega)
  have c4 := h.c (b := 4) (by omega)
  have c5 := h.c (b := 5) (by omega)
  have c7 := h.c (b := 7) (by omega)
  intro a b hd
  have hd' : nD C a b := by
    unfold nD at hd ⊢
    rw [c3, c5, c7] at hd
    exact hd
  rw [hS a b hd']
  unfold nV
  rw [c4, c5, c7, h.r (a := 14) (by omega) (by omega), h.r (a := 15) (by omega) (by omega), h.r (a := 16) (by omega) (by omega), h.r (a := 17) (by omega) (by omega), h.r (a := 18) (by omega) (by omega), h.r (a := 22) (by omega) (by omega), h.r (a := 23) (by omega) (by omega)]
theorem WFC_eq {C C' : CS} (h : EQS C C') (hW : WFC C) (h6' : C' 0 6 ≤ 3) : WFC C' := by
  have r : ∀ {a : Nat}, a < 100 → a ≠ 0 → C' a = C a := fun h1 h0 => h.r h1 h0
  obtain ⟨h1, h2, h3, h4, g5, h6, h7, h8, h9, h10, h11, h12, h13, h14, h15, h16, h17, h18, h19, h20, h21, h22, h23, h24, h25⟩ := hW
  unfold WFC
  rw [h.c (b := 0) (by omega), h.c (b := 1) (by omega), h.c (b := 2) (by omega), h.c (b := 3) (by omega), h.c (b := 4) (by omega), h.c (b := 5) (by omega), h.c (b := 7) (by omega), h.c (b := 8) (by omega), h.c (b := 9) (by omega), h.c (b := 12) (by omega), h.r (a := 1) (by omega) (by omega), h.r (a := 2) (by omega) (by omega), h.r (a := 3) (by omega) (by omega), h.r (a := 4) (by omega) (by omega), h.r (a := 7) (by omega) (by omega), h.r (a := 8) (by omega) (by omega), h.r (a := 9) (by omega) (by omega), h.r (a := 10) (by omega) (by omega), h.r (a := 11) (by omega) (by omega), h.r (a := 12) (by omega) (by omega), h.r (a := 13) (by omega) (by omega), h.r (a := 14) (by omega) (by omega), h.r (a := 15) (by omega) (by omega), h.r (a := 19) (by omega) (by omega)]
  exact ⟨h1, h2, h3, h4, g5, h6, h6', h8, h9, h10, h11, h12, h13, h14, h15, h16, h17, h18, h19, h20, h21, h22, h23, h24, h25⟩
theorem WFP_eq {C C' : CS} (h : EQS C C') (hP : WFP C) : WFP C' := by
  unfold WFP okP at hP ⊢
  rw [h.c (b := 0) (by omega), h.c (b := 1) (by omega), h.c (b := 3) (by omega), h.c (b := 4) (by omega), h.c (b := 5) (by omega), h.c (b := 7) (by omega), h.r (a := 9) (by omega) (by omega), h.r (a := 11) (by omega) (by omega), h.r (a := 15) (by omega) (by omega), h.r (a := 17) (by omega) (by omega), h.r (a := 18) (by omega) (by omega), h.r (a := 22) (by omega) (by omega)]
  exact hP
theorem iV_eq {C C' : CS} (h : EQS C C') : iV C' = iV C ∧ iD C' = iD C := by
  constructor
  · funext o
    unfold iV
    rw [h.c (b := 5) (by omega), h.c (b := 7) (by omega), h.r (a := 11) (by omega) (by omega), h.r (a := 12) (by omega) (by omega), h.r (a := 13) (by omega) (by omega), h.r (a := 14) (by omega) (by omega), h.r (a := 15) (by omega) (by omega), h.r (a := 16) (by omega) (by omega), h.r (a := 17) (by omega) (by omega), h.r (a := 18) (by omega) (by omega), h.r (a := 22) (by omega) (by omega), h.r (a := 23) (by omega) (by omega)]
  · funext o
    unfold iD
    rw [h.c (b := 3) (by omega), h.c (b := 4) (by omega), h.c (b := 5) (by omega), h.c (b := 7) (by omega)]
/-- the reference's memory but for its images -/
theorem mV_eq {C C' : CS} (h : EQS C C') {a b : Nat} (ha : a ≠ 13) (h65 : ¬ (a = 0 ∧ b = 65)) (hd : mD C' a b) : mD C a b ∧ mV C a b = mV C' a b := by
  have hd' : mD C a b := by
    unfold mD at hd ⊢
    rw [h.c (b := 1) (by omega), h.c (b := 2) (by omega), h.c (b := 3) (by omega), h.c (b := 4) (by omega), h.c (b := 5) (by omega), h.c (b := 7) (by omega), h.c (b := 8) (by omega), h.c (b := 9) (by omega)] at hd
    split at hd <;> first | exact hd | contradiction
  refine ⟨hd', ?_⟩
  unfold mV
  rw [h.c (b := 5) (by omega), h.c (b := 7) (by omega), h.c (b := 8) (by omega), h.c (b := 9) (by omega), h.c (b := 12) (by omega), h.r (a := 1) (by omega) (by omega), h.r (a := 2) (by omega) (by omega), h.r (a := 3) (by omega) (by omega), h.r (a := 4) (by omega) (by omega), h.r (a := 5) (by omega) (by omega), h.r (a := 6) (by omega) (by omega), h.r (a := 7) (by omega) (by omega), h.r (a := 8) (by omega) (by omega), h.r (a := 9) (by omega) (by omega), h.r (a := 10) (by omega) (by omega), h.r (a := 11) (by omega) (by omega), h.r (a := 12) (by omega) (by omega), h.r (a := 13) (by omega) (by omega), h.r (a := 14) (by omega) (by omega), h.r (a := 15) (by omega) (by omega), h.r (a := 16) (by omega) (by omega), h.r (a := 17) (by omega) (by omega), h.r (a := 18) (by omega) (by omega), h.r (a := 19) (by omega) (by omega), h.r (a := 20) (by omega) (by omega), h.r (a := 21) (by omega) (by omega), h.r (a := 22) (by omega) (by omega), h.r (a := 23) (by omega) (by omega)]
  split
  · have hb : b = 2 ∨ b = 8 ∨ (23 ≤ b ∧ b ≤ 27) ∨ b = 33 ∨ b = 40 ∨ b = 43 ∨ b = 65 := hd'
    have hb65 : b ≠ 65 := fun e => h65 ⟨rfl, e⟩
    repeat' split
    all_goals first | rfl | (rw [h.c (b := b - 23) (by omega)]) | (exfalso; omega)
  all_goals first | rfl | contradiction
def selI (i : Nat) (I0 I1 I2 : Nat → Nat → Int32) : Nat → Nat → Int32 := if i = 0 then I0 else if i = 1 then I1 else I2
/-- the class's images -/
def RI (C : CS) (I0 I1 I2 : Nat → Nat → Int32) : Prop := ∀ i, i < C 0 6 → RS (stC C i) (selI i I0 I1 I2)
def IMG (C : CS) : Prop := ∀ i, i < C 0 6 → WFC (stC C i) ∧ WFP (stC C i)
theorem img_eqs (C : CS) : EQS C (imgC C) := fun a b h1 h2 => by
  unfold imgC
  rw [if_neg h2, if_neg (by omega)]
theorem img_eqs2 (C : CS) : EQS C (stC (imgC C) (C 0 6)) := fun a b h1 h2 => by
  rw [img_st]
  show (if isSt a b = true then C a b else if a = 0 ∧ b = 6 then 0 else if a < 100 then C a b else 0) = _
  split <;> first | rfl | (rw [if_neg h2, if_pos h1])
theorem img_6 (C : CS) : imgC C 0 6 = C 0 6 + 1 := by
  unfold imgC
  rw [if_pos ⟨rfl, rfl⟩]
theorem kI_o {A : Nat → Nat → Int32} {r q i a b : Nat} (h : a ≠ 13) : kI A r q i a b = A a b := by
  unfold kI
  rw [if_neg (fun g => h g.1)]
theorem kI_out {A : Nat → Nat → Int32} {r q i b : Nat} (h : ¬ (q ≤ b ∧ b < q + i)) : kI A r q i 13 b = A 13 b := by
  unfold kI
  rw [if_neg (fun g => h g.2)]
theorem kI_in {A : Nat → Nat → Int32} {r q i b : Nat} (h : q ≤ b ∧ b < q + i) : kI A r q i 13 b = A r (b - q) := by
  unfold kI
  rw [if_pos ⟨rfl, h⟩]
theorem T_image {C : CS} {Y H NS A I0 I1 I2 : Nat → Nat → Int32} (h : RL C Y H NS A) (hP : WFP C) (hG : IMG C) (hI : RI C I0 I1 I2) :
    ∃ v Y' J0 J1 J2 A' C', f_Y_image Y NS I0 I1 I2 = some (v, Y', J0, J1, J2) ∧ f_M_image A = some (v, A') ∧ A' 0 0 = 0 ∧ SAMEH C C' ∧ WFP C' ∧ IMG C' ∧ (∀ n, BND n C → BND (n + 60) C') ∧ RI C' J0 J1 J2 ∧ RL C' Y' H NS A' := by
  have h' := h.thr 0
  have hA : (u2 A 0 0 0) 0 0 = 0 := thr_0 A 0
  unfold f_Y_image f_M_image
  generalize u2 A 0 0 0 = A at h' hA ⊢
  have h'' := h'
  obtain ⟨hW, hY, hH, hS, hM, hQ⟩ := h'
  have h6 : C 0 6 ≤ 3 := by obtain ⟨_, _, _, _, _, _, h, _⟩ := hW; exact h
  have e65 : A 0 65 = nI (C 0 6) := hM.d0.2.2.2.2.2
  have y3 : Y 0 3 = nI (C 0 6) := hY
  rw [e65, y3]
  by_cases h3 : C 0 6 = 3
  · refine ⟨-1, Y, I0, I1, I2, A, C, ?_, ?_, hA, fun _ _ _ _ _ => rfl, hP, hG, fun n hn a b hab => Nat.le_trans (hn a b hab) (by omega), hI, h''⟩
    · rw [h3, if_neg (by decide)]
    · rw [h3, if_neg (by decide)]
  · have hj : C 0 6 < 3 := by omega
    -- the class
    have hWn : WFC (imgC C) := WFC_eq (img_eqs C) hW (by rw [img_6]; omega)
    have y3' : u2 Y 0 3 (nI (C 0 6) + 1) 0 3 = nI (C 0 6 + 1) := by rw [u2_same, nI_succ]
    have hIj : ∀ SA, ∃ SA', f_State_copy NS SA = some SA' ∧ RS C SA' := fun SA => Y_copy SA hW hS
    have ey : ∃ J0 J1 J2, (ixx 3 (nI (C 0 6))).bind (fun j1 => if j1 = 0 then (f_State_copy NS I0).bind fun I0_2 => some (u2 Y 0 3 (nI (C 0 6) + 1) 0 3, u2 Y 0 3 (nI (C 0 6) + 1), I0_2, I1, I2) else if j1 = 1 then (f_State_copy NS I1).bind fun I1_3 => some (u2 Y 0 3 (nI (C 0 6) + 1) 0 3, u2 Y 0 3 (nI (C 0 6) + 1), I0, I1_3, I2) else if j1 = 2 then (f_State_copy NS I2).bind fun I2_4 => some (u2 Y 0 3 (nI (C 0 6) + 1) 0 3, u2 Y 0 3 (nI (C 0 6) + 1), I0, I1, I2_4) else none) = some (nI (C 0 6 + 1), u2 Y 0 3 (nI (C 0 6 + 1)), J0, J1, J2) ∧ RI (imgC C) J0 J1 J2 := by
      have key : ∀ J0 J1 J2, RS C (selI (C 0 6) J0 J1 J2) → (∀ i, i < C 0 6 → selI i J0 J1 J2 = selI i I0 I1 I2) → RI (imgC C) J0 J1 J2 := fun J0 J1 J2 k1 k2 i hi => by
        rw [img_6] at hi
        by_cases he : i = C 0 6
        · subst he
          exact RS_eq (img_eqs2 C) k1
        · rw [img_st_lt C (by omega), k2 i (by omega)]
          exact hI i (by omega)
      rw [ixx_nI (by omega) (by omega), obs, y3', ← nI_succ]
      have hc : C 0 6 = 0 ∨ C 0 6 = 1 ∨ C 0 6 = 2 := by omega
      rcases hc with hc | hc | hc
      · obtain ⟨SA', s1, s2⟩ := hIj I0
        refine ⟨SA', I1, I2, ?_, key _ _ _ ?_ ?_⟩
        · rw [if_pos hc, s1, obs]
        · rw [hc]; exact s2
        · intro i hi; omega
      · obtain ⟨SA', s1, s2⟩ := hIj I1
        refine ⟨I0, SA', I2, ?_, key _ _ _ ?_ ?_⟩
        · rw [if_neg (by omega), if_pos hc, s1, obs]
        · rw [hc]; exact s2
        · intro i hi
          have : i = 0 := by omega
          subst this; rfl
      · obtain ⟨SA', s1, s2⟩ := hIj I2
        refine ⟨I0, I1, SA', ?_, key _ _ _ ?_ ?_⟩
        · rw [if_neg (by omega), if_neg (by omega), if_pos hc, s1, obs]
        · rw [hc]; exact s2
        · intro i hi
          have : i = 0 ∨ i = 1 := by omega
          rcases this with rfl | rfl <;> rfl
    obtain ⟨J0, J1, J2, ey, hJ⟩ := ey
    -- the reference
    have q1 : (658 : Int32) * nI (C 0 6) = nI (658 * C 0 6) := by rw [show (658 : Int32) = nI 658 from rfl, na_mul]
    generalize hq : 658 * C 0 6 = q at q1
    have hq2 : q + 658 ≤ 1974 := by omega
    let K := kI (kI (kI (kI (kI A 7 q 10) 8 (q + 10) 10) 9 (q + 10 + 10) 20) 6 (q + 10 + 10 + 20) 16) 12 (q + 10 + 10 + 20 + 16) 600
    have Ko : ∀ a b, a ≠ 13 → K a b = A a b := fun a b ha => by
      show kI _ _ _ _ _ _ = _
      rw [kI_o ha, kI_o ha, kI_o ha, kI_o ha, kI_o ha]
    have em : f_M_keepsAll A (nI (C 0 6)) 1 = some (u2 (u2 K 13 (q + 656) (A 0 33)) 13 (q + 657) (A 0 43)) := by
      unfold f_M_keepsAll
      rw [q1, M_keep _ (by omega), obs, M_keep_2 _ (by omega), obs, M_keep_3 _ (by omega), obs, M_keep_4 _ (by omega), obs, M_keep_5 _ (by omega), obs, if_neg (by decide)]
      show (ixx 1974 (nI (q + 10 + 10 + 20 + 16 + 600))).bind _ = _
      rw [ixx_nI (by omega) (by omega), obs, show nI (q + 10 + 10 + 20 + 16 + 600) + 1 = nI (q + 657) from by rw [← nI_succ], ixx_nI (by omega) (by omega), obs]
      show some (u2 (u2 K 13 (q + 10 + 10 + 20 + 16 + 600) (K 0 33)) 13 (q + 657) ((u2 K 13 (q + 10 + 10 + 20 + 16 + 600) (K 0 33)) 0 43)) = _
      rw [u2_row _ _ (show (0 : Nat) ≠ 13 by decide), Ko 0 33 (by decide), Ko 0 43 (by decide), show q + 10 + 10 + 20 + 16 + 600 = q + 656 from by omega]
    have hv33 := hM.d0.2.2.1
    have hv43 := hM.d0.2.2.2.2.1
    have hL : C 0 7 ≤ 10 := by obtain ⟨_, _, _, _, _, _, _, h, _⟩ := hW; exact h
    have hN := hW.2.2.2.1
    have hK4 := hW.2.2.2.2.1
    have hA5 : C 0 5 ≤ 30 := hW.2.2.2.2.2.1
    have hMn : RMo (imgC C) (u2 (u2 (u2 K 13 (q + 656) (A 0 33)) 13 (q + 657) (A 0 43)) 0 65 (nI (C 0 6 + 1))) := by
      intro a b hd
      by_cases h65 : a = 0 ∧ b = 65
      · obtain ⟨rfl, rfl⟩ := h65
        rw [u2_same]
        show _ = nI (imgC C 0 6)
        rw [img_6]
      · rw [u2_eq, if_neg h65]
        by_cases h13 : a = 13
        · subst h13
          have hd : b / 658 < imgC C 0 6 ∧ iD (stC (imgC C) (b / 658)) (b % 658) := hd
          rw [img_6] at hd
          obtain ⟨hd1, hd2⟩ := hd
          show _ = iV (stC (imgC C) (b / 658)) (b % 658)
          by_cases hi : b / 658 = C 0 6
          · obtain ⟨iv, id⟩ := iV_eq (img_eqs2 C)
            rw [hi] at hd2 ⊢
            rw [id] at hd2
            rw [iv]
            have hbq : b = q + b % 658 := by omega
            generalize b % 658 = o at hd2 hbq
            have hd2 : (o < 10 ∧ o < C 0 3) ∨ (10 ≤ o ∧ o < 20 ∧ o - 10 < C 0 3) ∨ (20 ≤ o ∧ o < 40 ∧ o - 20 < 2 * C 0 7) ∨ (40 ≤ o ∧ o < 56 ∧ o - 40 < 4 * C 0 4) ∨ (56 ≤ o ∧ o < 656 ∧ (o - 56) / 20 < C 0 5 ∧ (o - 56) % 20 % 10 < C 0 3) ∨ o = 656 ∨ o = 657 := hd2
            rw [u2_eq]
            by_cases e657 : o = 657
            · rw [if_pos ⟨rfl, by omega⟩, e657, hv43]; rfl
            · rw [if_neg (by omega), u2_eq]
              by_cases e656 : o = 656
              · rw [if_pos ⟨rfl, by omega⟩, e656, hv33]; rfl
              · rw [if_neg (by omega)]
                show kI (kI (kI (kI (kI A 7 q 10) 8 (q + 10) 10) 9 (q + 10 + 10) 20) 6 (q + 10 + 10 + 20) 16) 12 (q + 10 + 10 + 20 + 16) 600 13 b = _
                unfold iV
                rcases hd2 with g | g | g | g | g | g | g
                · rw [kI_out (by omega), kI_out (by omega), kI_out (by omega), kI_out (by omega), kI_in (by omega), if_pos g.1, show b - q = o from by omega]
                  exact hM 7 o g.2
                · rw [kI_out (by omega), kI_out (by omega), kI_out (by omega), kI_in (by omega), kI_o (by decide), if_neg (by omega), if_pos (by omega), show b - (q + 10) = o - 10 from by omega]
                  exact hM 8 (o - 10) g.2.2
                · rw [kI_out (by omega), kI_out (by omega), kI_in (by omega), kI_o (by decide), kI_o (by decide), if_neg (by omega), if_neg (by omega), if_pos (by omega), show b - (q + 10 + 10) = o - 20 from by omega]
                  exact hM 9 (o - 20) g.2.2
                · rw [kI_out (by omega), kI_in (by omega), kI_o (by decide), kI_o (by decide), kI_o (by decide), if_neg (by omega), if_neg (by omega), if_neg (by omega), if_pos (by omega), show b - (q + 10 + 10 + 20) = o - 40 from by omega]
                  exact hM 6 (o - 40) g.2.2
                · rw [kI_in (by omega), kI_o (by decide), kI_o (by decide), kI_o (by decide), kI_o (by decide), if_neg (by omega), if_neg (by omega), if_neg (by omega), if_neg (by omega), if_pos (by omega), show b - (q + 10 + 10 + 20 + 16) = o - 56 from by omega]
                  exact hM 12 (o - 56) g.2.2
                · omega
                · omega
          · have hb : b < q := by omega
            rw [img_st_lt C (by omega)] at hd2 ⊢
            rw [u2_eq, if_neg (by omega), u2_eq, if_neg (by omega)]
            show kI (kI (kI (kI (kI A 7 q 10) 8 (q + 10) 10) 9 (q + 10 + 10) 20) 6 (q + 10 + 10 + 20) 16) 12 (q + 10 + 10 + 20 + 16) 600 13 b = _
            rw [kI_out (by omega), kI_out (by omega), kI_out (by omega), kI_out (by omega), kI_out (by omega)]
            exact hM 13 b (show _ ∧ _ from ⟨by omega, hd2⟩)
        · obtain ⟨d1, d2⟩ := mV_eq (img_eqs C) h13 h65 hd
          rw [u2_row _ _ h13, u2_row _ _ h13, Ko a b h13, ← d2]
          exact hM a b d1
    refine ⟨nI (C 0 6 + 1), u2 Y 0 3 (nI (C 0 6 + 1)), J0, J1, J2, u2 (u2 (u2 K 13 (q + 656) (A 0 33)) 13 (q + 657) (A 0 43)) 0 65 (nI (C 0 6 + 1)), imgC C, ?_, ?_, ?_, img_h C, WFP_eq (img_eqs C) hP, ?_, ?_, hJ, hWn, ?_, RH_sameh (img_h C) hH, RS_eq (img_eqs C) hS, hMn, ?_⟩
    · rw [if_pos (show nI (C 0 6) < 3 from (na_lt (b := 3) (by omega) (by omega)).mpr hj)]
      exact ey
    · have r65 : u2 (u2 K 13 (q + 656) (A 0 33)) 13 (q + 657) (A 0 43) 0 65 = nI (C 0 6) := by rw [u2_row _ _ (by decide), u2_row _ _ (by decide), Ko 0 65 (by decide), e65]
      rw [if_pos (show nI (C 0 6) ≠ 3 from fun e => h3 ((na_eq (b := 3) (by omega) (by omega)).mp e)), em, obs, r65, u2_same, ← nI_succ]
    · rw [u2_col _ _ (by decide), u2_row _ _ (by decide), u2_row _ _ (by decide), Ko 0 0 (by decide), hA]
    · intro i hi
      rw [img_6] at hi
      by_cases he : i = C 0 6
      · subst he
        refine ⟨WFC_eq (img_eqs2 C) hW ?_, WFP_eq (img_eqs2 C) hP⟩
        rw [img_st]
        exact Nat.zero_le _
      · rw [img_st_lt C (by omega)]
        exact hG i (by omega)
    · intro n hn a b hab
      have h := hn (a % 100) b (by omega)
      have h2 := hn a b hab
      unfold imgC
      rw [if_neg (fun g => by have := g.1; omega)]
      split <;> omega
    · unfold RYc
      rw [u2_same, img_6]
    · unfold RQ
      have rr : ∀ b, u2 (u2 (u2 K 13 (q + 656) (A 0 33)) 13 (q + 657) (A 0 43)) 0 65 (nI (C 0 6 + 1)) 1 b = A 1 b := fun b => by
        rw [u2_row _ _ (show (1 : Nat) ≠ 0 by decide), u2_row _ _ (show (1 : Nat) ≠ 13 by decide), u2_row _ _ (show (1 : Nat) ≠ 13 by decide), Ko 1 b (by decide)]
      rw [rr, rr, u2_col _ _ (by decide), u2_col _ _ (by decide)]
      exact hQ
theorem gI_o {A : Nat → Nat → Int32} {r q i a b : Nat} (h : a ≠ r) : gI A r q i a b = A a b := by
  unfold gI
  rw [if_neg (fun g => h g.1)]
theorem gI_in {A : Nat → Nat → Int32} {r q i b : Nat} (h : b < i) : gI A r q i r b = A 13 (q + b) := by
  unfold gI
  rw [if_pos ⟨rfl, h⟩]
theorem res_eqs (C : CS) (j : Nat) : EQS (stC C j) (resC C j) := fun a b h1 h2 => by
  unfold resC
  rw [if_pos h1, if_neg h2]
theorem res_6 (C : CS) (j : Nat) : resC C j 0 6 = j := by
  unfold resC
  rw [if_pos (by omega), if_pos ⟨rfl, rfl⟩]
theorem T_restore {C : CS} {Y H NS A I0 I1 I2 : Nat → Nat → Int32} (h : RL C Y H NS A) (hP : WFP C) (hG : IMG C) (hI : RI C I0 I1 I2) :
    ∃ v Y' NS' A' C', f_Y_restore Y NS I0 I1 I2 = some (v, Y', NS') ∧ f_M_restore A = some (v, A') ∧ A' 0 0 = 0 ∧ SAMEH C C' ∧ WFP C' ∧ IMG C' ∧ (∀ n, BND n C → BND (n + 60) C') ∧ RI C' I0 I1 I2 ∧ RL C' Y' H NS' A' := by
  have h' := h.thr 0
  have hA : (u2 A 0 0 0) 0 0 = 0 := thr_0 A 0
  unfold f_Y_restore f_M_restore
  generalize u2 A 0 0 0 = A at h' hA ⊢
  have h'' := h'
  obtain ⟨hW, hY, hH, hS, hM, hQ⟩ := h'
  have h6 : C 0 6 ≤ 3 := by obtain ⟨_, _, _, _, _, _, h, _⟩ := hW; exact h
  have e65 : A 0 65 = nI (C 0 6) := hM.d0.2.2.2.2.2
  have y3 : Y 0 3 = nI (C 0 6) := hY
  rw [e65, y3]
  by_cases h0 : C 0 6 = 0
  · refine ⟨-1, Y, NS, A, C, ?_, ?_, hA, fun _ _ _ _ _ => rfl, hP, hG, fun n hn a b hab => Nat.le_trans (hn a b hab) (by omega), hI, h''⟩
    · rw [h0, if_neg (by decide)]
    · rw [h0, if_neg (by decide)]
  · obtain ⟨j, hj⟩ : ∃ j, C 0 6 = j + 1 := ⟨C 0 6 - 1, by omega⟩
    obtain ⟨hWj, hPj⟩ := hG j (by omega)
    have hIj := hI j (by omega)
    have q1 : (658 : Int32) * nI j = nI (658 * j) := by rw [show (658 : Int32) = nI 658 from rfl, na_mul]
    generalize hq : 658 * j = q at q1
    have hq2 : q + 658 ≤ 1974 := by omega
    have n1 : nI (C 0 6) - 1 = nI j := by rw [hj, nI_pred]
    rw [n1]
    let A1 := u2 A 0 65 (nI j)
    let K := gI (gI (gI (gI (gI A1 7 q 10) 8 (q + 10) 10) 9 (q + 10 + 10) 20) 6 (q + 10 + 10 + 20) 16) 12 (q + 10 + 10 + 20 + 16) 600
    have Ko : ∀ a b, a ≠ 7 → a ≠ 8 → a ≠ 9 → a ≠ 6 → a ≠ 12 → K a b = A1 a b := fun a b g1 g2 g3 g4 g5 => by
      show gI _ _ _ _ _ _ = _
      rw [gI_o g5, gI_o g4, gI_o g3, gI_o g2, gI_o g1]
    have K13 : ∀ b, K 13 b = A 13 b := fun b => by
      rw [Ko 13 b (by decide) (by decide) (by decide) (by decide) (by decide)]
      exact u2_row _ _ (by decide)
    -- what stands in the image
    have im : ∀ o, o < 658 → iD (stC C j) o → A 13 (q + o) = iV (stC C j) o := fun o ho hd => by
      have := hM 13 (q + o) (show _ ∧ _ from ⟨by omega, by rw [show (q + o) / 658 = j from by omega, show (q + o) % 658 = o from by omega]; exact hd⟩)
      rw [this]
      show iV (stC C ((q + o) / 658)) ((q + o) % 658) = _
      rw [show (q + o) / 658 = j from by omega, show (q + o) % 658 = o from by omega]
    have i656 : A 13 (q + 656) = nI (stC C j 0 7) := im 656 (by omega) (Or.inr (Or.inr (Or.inr (Or.inr (Or.inr (Or.inl rfl))))))
    have i657 : A 13 (q + 657) = nI (stC C j 0 5) := im 657 (by omega) (Or.inr (Or.inr (Or.inr (Or.inr (Or.inr (Or.inr rfl))))))
    have em : f_M_keepsAll A1 (nI j) 0 = some (u2 (u2 K 0 33 (nI (stC C j 0 7))) 0 43 (nI (stC C j 0 5))) := by
      unfold f_M_keepsAll
      rw [q1, M_give _ (by omega), obs, M_give_2 _ (by omega), obs, M_give_3 _ (by omega), obs, M_give_4 _ (by omega), obs, M_give_5 _ (by omega), obs, if_pos rfl]
      show (rdx (K 13) 1974 (nI (q + 10 + 10 + 20 + 16 + 600))).bind _ = _
      rw [rdx_nI (by omega) (by omega), obs, show q + 10 + 10 + 20 + 16 + 600 = q + 656 from by omega, K13, i656]
      show (rdx (u2 K 0 33 (nI (stC C j 0 7)) 13) 1974 (nI (q + 656) + 1)).bind _ = _
      rw [← nI_succ, rdx_nI (by omega) (by omega), obs, u2_row _ _ (show (13 : Nat) ≠ 0 by decide), K13, i657]
    have hEj := res_eqs C j
    have hst0 : ∀ b, b ≠ 5 → b ≠ 6 → b ≠ 7 → stC C j 0 b = C 0 b := fun b g5 g6 g7 => by
      unfold stC
      rw [if_neg (by unfold isSt; simp [g5, g7]), if_neg (fun g => g6 g.2), if_pos (by omega)]
    have hN := hWj.2.2.2.1
    have hK4 := hWj.2.2.2.2.1
    have hA5 : stC C j 0 5 ≤ 30 := hWj.2.2.2.2.2.1
    have hL : stC C j 0 7 ≤ 10 := by obtain ⟨_, _, _, _, _, _, _, h, _⟩ := hWj; exact h
    have hMn : RMo (resC C j) (u2 (u2 K 0 33 (nI (stC C j 0 7))) 0 43 (nI (stC C j 0 5))) := by
      intro a b hd
      by_cases h65 : a = 0 ∧ b = 65
      · obtain ⟨rfl, rfl⟩ := h65
        rw [u2_col _ _ (by decide), u2_col _ _ (by decide), Ko 0 65 (by decide) (by decide) (by decide) (by decide) (by decide)]
        show u2 A 0 65 (nI j) 0 65 = nI (resC C j 0 6)
        rw [u2_same, res_6]
      · by_cases h13 : a = 13
        · subst h13
          have hd : b / 658 < resC C j 0 6 ∧ iD (stC (resC C j) (b / 658)) (b % 658) := hd
          rw [res_6, res_st] at hd
          rw [u2_row _ _ (by decide), u2_row _ _ (by decide), K13]
          show _ = iV (stC (resC C j) (b / 658)) (b % 658)
          rw [res_st]
          exact hM 13 b (show _ ∧ _ from ⟨by omega, hd.2⟩)
        · obtain ⟨d1, d2⟩ := mV_eq hEj h13 h65 hd
          rw [← d2]
          by_cases h33 : a = 0 ∧ b = 33
          · obtain ⟨rfl, rfl⟩ := h33
            rw [u2_col _ _ (by decide), u2_same]; rfl
          · by_cases h43 : a = 0 ∧ b = 43
            · obtain ⟨rfl, rfl⟩ := h43
              rw [u2_same]; rfl
            · rw [u2_eq, if_neg h43, u2_eq, if_neg h33]
              by_cases g7 : a = 7
              · subst g7
                have g : b < stC C j 0 3 := d1
                show gI (gI (gI (gI (gI A1 7 q 10) 8 (q + 10) 10) 9 (q + 10 + 10) 20) 6 (q + 10 + 10 + 20) 16) 12 (q + 10 + 10 + 20 + 16) 600 7 b = _
                rw [gI_o (by decide), gI_o (by decide), gI_o (by decide), gI_o (by decide), gI_in (by omega)]
                show u2 A 0 65 (nI j) 13 (q + b) = _
                rw [u2_row _ _ (by decide), im b (by omega) (Or.inl ⟨by omega, g⟩)]
                unfold iV
                rw [if_pos (by omega)]; rfl
              by_cases g8 : a = 8
              · subst g8
                have g : b < stC C j 0 3 := d1
                show gI (gI (gI (gI (gI A1 7 q 10) 8 (q + 10) 10) 9 (q + 10 + 10) 20) 6 (q + 10 + 10 + 20) 16) 12 (q + 10 + 10 + 20 + 16) 600 8 b = _
                rw [gI_o (by decide), gI_o (by decide), gI_o (by decide), gI_in (by omega), gI_o (by decide)]
                show u2 A 0 65 (nI j) 13 (q + 10 + b) = _
                rw [u2_row _ _ (by decide), show q + 10 + b = q + (10 + b) from by omega, im (10 + b) (by omega) (Or.inr (Or.inl ⟨by omega, by omega, by omega⟩))]
                unfold iV
                rw [if_neg (by omega), if_pos (by omega), show 10 + b - 10 = b from by omega]; rfl
              by_cases g9 : a = 9
              · subst g9
                have g : b < 2 * stC C j 0 7 := d1
                show gI (gI (gI (gI (gI A1 7 q 10) 8 (q + 10) 10) 9 (q + 10 + 10) 20) 6 (q + 10 + 10 + 20) 16) 12 (q + 10 + 10 + 20 + 16) 600 9 b = _
                rw [gI_o (by decide), gI_o (by decide), gI_in (by omega), gI_o (by decide), gI_o (by decide)]
                show u2 A 0 65 (nI j) 13 (q + 10 + 10 + b) = _
                rw [u2_row _ _ (by decide), show q + 10 + 10 + b = q + (20 + b) from by omega, im (20 + b) (by omega) (Or.inr (Or.inr (Or.inl ⟨by omega, by omega, by omega⟩)))]
                unfold iV
                rw [if_neg (by omega), if_neg (by omega), if_pos (by omega), show 20 + b - 20 = b from by omega]; rfl
              by_cases g6 : a = 6
              · subst g6
                have g : b < 4 * stC C j 0 4 := d1
                show gI (gI (gI (gI (gI A1 7 q 10) 8 (q + 10) 10) 9 (q + 10 + 10) 20) 6 (q + 10 + 10 + 20) 16) 12 (q + 10 + 10 + 20 + 16) 600 6 b = _
                rw [gI_o (by decide), gI_in (by omega), gI_o (by decide), gI_o (by decide), gI_o (by decide)]
                show u2 A 0 65 (nI j) 13 (q + 10 + 10 + 20 + b) = _
                rw [u2_row _ _ (by decide), show q + 10 + 10 + 20 + b = q + (40 + b) from by omega, im (40 + b) (by omega) (Or.inr (Or.inr (Or.inr (Or.inl ⟨by omega, by omega, by omega⟩))))]
                unfold iV
                rw [if_neg (by omega), if_neg (by omega), if_neg (by omega), if_pos (by omega), show 40 + b - 40 = b from by omega]; rfl
              by_cases g12 : a = 12
              · subst g12
                have g : b / 20 < stC C j 0 5 ∧ b % 20 % 10 < stC C j 0 3 := d1
                show gI (gI (gI (gI (gI A1 7 q 10) 8 (q + 10) 10) 9 (q + 10 + 10) 20) 6 (q + 10 + 10 + 20) 16) 12 (q + 10 + 10 + 20 + 16) 600 12 b = _
                rw [gI_in (by omega), gI_o (by decide), gI_o (by decide), gI_o (by decide), gI_o (by decide)]
                show u2 A 0 65 (nI j) 13 (q + 10 + 10 + 20 + 16 + b) = _
                rw [u2_row _ _ (by decide), show q + 10 + 10 + 20 + 16 + b = q + (56 + b) from by omega, im (56 + b) (by omega) (Or.inr (Or.inr (Or.inr (Or.inr (Or.inl ⟨by omega, by omega, by rw [Nat.add_sub_cancel_left]; exact g⟩)))))]
                unfold iV
                rw [if_neg (by omega), if_neg (by omega), if_neg (by omega), if_neg (by omega), if_pos (by omega), show 56 + b - 56 = b from by omega]; rfl
              rw [Ko a b g7 g8 g9 g6 g12]
              show u2 A 0 65 (nI j) a b = _
              rw [u2_eq, if_neg h65]
              -- the rest is of the house
              have hst : ∀ a b, a < 100 → isSt a b = false → ¬ (a = 0 ∧ b = 6) → stC C j a b = C a b := fun a b h1 h2 h3 => by
                unfold stC
                rw [if_neg (fun g => by rw [h2] at g; cases g), if_neg h3, if_pos h1]
              have hrow : ∀ a, a < 100 → a ≠ 0 → (∀ b, isSt a b = false) → stC C j a = C a := fun a h1 h0 h2 => funext (fun b => hst a b h1 (h2 b) (fun g => h0 g.1))
              have d3 : mD C a b := by
                unfold mD at d1 ⊢
                rw [hst0 1 (by omega) (by omega) (by omega), hst0 2 (by omega) (by omega) (by omega), hst0 3 (by omega) (by omega) (by omega), hst0 4 (by omega) (by omega) (by omega), hst0 8 (by omega) (by omega) (by omega), hst0 9 (by omega) (by omega) (by omega)] at d1
                split at d1 <;> first | exact d1 | contradiction
              rw [hM a b d3]
              unfold mV
              rw [hrow 1 (by omega) (by omega) (fun _ => rfl), hrow 2 (by omega) (by omega) (fun _ => rfl), hrow 3 (by omega) (by omega) (fun _ => rfl), hrow 4 (by omega) (by omega) (fun _ => rfl), hrow 5 (by omega) (by omega) (fun _ => rfl), hrow 6 (by omega) (by omega) (fun _ => rfl), hrow 7 (by omega) (by omega) (fun _ => rfl), hrow 8 (by omega) (by omega) (fun _ => rfl), hrow 9 (by omega) (by omega) (fun _ => rfl), hrow 10 (by omega) (by omega) (fun _ => rfl), hrow 19 (by omega) (by omega) (fun _ => rfl), hrow 20 (by omega) (by omega) (fun _ => rfl), hrow 21 (by omega) (by omega) (fun _ => rfl), hst0 8 (by omega) (by omega) (by omega), hst0 9 (by omega) (by omega) (by omega), hst0 12 (by omega) (by omega) (by omega)]
              split
              · have hb : b = 2 ∨ b = 8 ∨ (23 ≤ b ∧ b ≤ 27) ∨ b = 33 ∨ b = 40 ∨ b = 43 ∨ b = 65 := d3
                have n33 : b ≠ 33 := fun e => h33 ⟨rfl, e⟩
                have n43 : b ≠ 43 := fun e => h43 ⟨rfl, e⟩
                have n65 : b ≠ 65 := fun e => h65 ⟨rfl, e⟩
                repeat' split
                all_goals first | rfl | (rw [hst0 (b - 23) (by omega) (by omega) (by omega)]) | (exfalso; omega)
              all_goals first | rfl | contradiction
    have hcp : ∃ NS', f_State_copy (selI j I0 I1 I2) NS = some NS' ∧ RS (stC C j) NS' := Y_copy NS hWj hIj
    obtain ⟨NS', c1, c2⟩ := hcp
    have hWn : WFC (resC C j) := WFC_eq hEj hWj (by rw [res_6]; omega)
    refine ⟨nI j, u2 Y 0 3 (nI j), NS', u2 (u2 K 0 33 (nI (stC C j 0 7))) 0 43 (nI (stC C j 0 5)), resC C j, ?_, ?_, ?_, res_h C j, WFP_eq hEj hPj, ?_, ?_, ?_, hWn, ?_, RH_sameh (res_h C j) hH, RS_eq hEj c2, hMn, ?_⟩
    · rw [if_pos (show (0 : Int32) < nI (C 0 6) from (na_lt (a := 0) (by omega) (by omega)).mpr (by omega)), u2_same, ixx_nI (by omega) (by omega), obs]
      have hc : j = 0 ∨ j = 1 ∨ j = 2 := by omega
      rcases hc with hc | hc | hc
      · subst hc
        rw [if_pos rfl, show I0 = selI 0 I0 I1 I2 from rfl, c1, obs]
      · subst hc
        rw [if_neg (by omega), if_pos rfl, show I1 = selI 1 I0 I1 I2 from rfl, c1, obs]
      · subst hc
        rw [if_neg (by omega), if_neg (by omega), if_pos rfl, show I2 = selI 2 I0 I1 I2 from rfl, c1, obs]
    · rw [if_pos (nI_ne0 (by omega) (by omega)), u2_same]
      show (f_M_keepsAll A1 (nI j) 0).bind _ = _
      rw [em, obs, u2_col _ _ (show (65 : Nat) ≠ 43 by decide), u2_col _ _ (show (65 : Nat) ≠ 33 by decide), Ko 0 65 (by decide) (by decide) (by decide) (by decide) (by decide)]
      show some (u2 A 0 65 (nI j) 0 65, _) = _
      rw [u2_same]
    · rw [u2_col _ _ (show (0 : Nat) ≠ 43 by decide), u2_col _ _ (show (0 : Nat) ≠ 33 by decide), Ko 0 0 (by decide) (by decide) (by decide) (by decide) (by decide)]
      show u2 A 0 65 (nI j) 0 0 = _
      rw [u2_col _ _ (by decide), hA]
    · intro i hi
      rw [res_6] at hi
      rw [res_st]
      exact hG i (by omega)
    · intro n hn a b hab
      have h2 := hn a b hab
      have h3 := hn (100 * (j + 1) + a) b (by omega)
      unfold resC stC
      by_cases hl : a < 100
      · rw [if_pos hl, if_neg (fun g => by have := g.1; omega)]
        split
        · omega
        · split <;> omega
      · rw [if_neg hl]; omega
    · intro i hi
      rw [res_6] at hi
      rw [res_st]
      exact hI i (by omega)
    · unfold RYc
      rw [u2_same, res_6]
    · unfold RQ
      have rr : ∀ b, u2 (u2 K 0 33 (nI (stC C j 0 7))) 0 43 (nI (stC C j 0 5)) 1 b = A 1 b := fun b => by
        rw [u2_row _ _ (show (1 : Nat) ≠ 0 by decide), u2_row _ _ (show (1 : Nat) ≠ 0 by decide), Ko 1 b (by decide) (by decide) (by decide) (by decide) (by decide)]
        exact u2_row _ _ (by decide)
      rw [rr, rr, u2_col _ _ (by decide), u2_col _ _ (by decide)]
      exact hQ
