/-! PURE MATH: house: which clause, whether it may stand there; the loop -/
def swv (j : Nat) : Int32 := [1, 2, 3, 6, 4, 7, 8, 9, 10, 5].getD j 0
theorem W_sw : ∀ j, j < 23 → rdx (a_ca 2753) 23 (w_ord (2560 + j)) = some (swv j) := by decide +kernel
/-- the fault of a clause's word, where so many clauses stand ahead; 0 of none -/
def flt (D : CS) (i j : Nat) : Nat := if 10 ≤ j then 1 else if i = 60 ∨ (j = 1 ∧ D 0 1 = 3) ∨ (j = 2 ∧ D 0 2 = 8) ∨ (j = 4 ∧ D 0 3 = 10) ∨ (j = 9 ∧ D 0 4 = 4) then 3 else if j = 0 ∧ 0 < i then 4 else 0
theorem flt_le (D : CS) (i j : Nat) : flt D i j ≤ 4 := by
  unfold flt
  split
  · omega
  · split
    · omega
    · split <;> omega
/-- the word as a number: 0 to 22, 23 of none -/
def WN (w j : Nat) : Prop := (j < 23 ∧ w = 2560 + j) ∨ (23 ≤ j ∧ w = 0)
theorem WS.num {b : Nat → Nat} {n s w : Nat} (hs : s ≤ n) (h : WS b s (k_lt b n s) w) : ∃ j, WN w j ∧ (j < 23 → WM b s (k_lt b n s) j) ∧ ∀ k, k < 23 → (tx k).length ≤ 6 → ((nI (q_cd b s (k_lt b n s)) = nI (cdT k)) = (j = k)) := by
  rcases h with ⟨j, hj, hw, hm⟩ | ⟨hw, hn⟩
  · refine ⟨j, Or.inl ⟨hj, hw⟩, fun _ => hm, fun k hk h6 => ?_⟩
    rw [cd_word hs hk h6]
    apply propext
    exact ⟨fun h => WM.uniq hj hk hm h, fun h => h ▸ hm⟩
  · refine ⟨23, Or.inr ⟨Nat.le_refl _, hw⟩, fun h => absurd h (by omega), fun k hk h6 => ?_⟩
    rw [cd_word hs hk h6]
    apply propext
    exact ⟨fun h => absurd h (hn k hk), fun h => by omega⟩
theorem tx6 : ∀ k, k < 13 → (tx k).length ≤ 6 := by decide +kernel
theorem Y_wordFault {D : CS} {H M : Nat → Nat → Int32} {w j i : Nat} (hD : NH D H M) (hW : WD D) (hw : WN w j) (hi : i ≤ 60) : f_House_wordFault H w (nI i) = some (nI (flt D i j)) := by
  have h01 : H 0 1 = nI (D 0 1) := (hD.1 1 (by omega)).1
  have h02 : H 0 2 = nI (D 0 2) := (hD.1 2 (by omega)).1
  have h03 : H 0 3 = nI (D 0 3) := (hD.1 3 (by omega)).1
  have h04 : H 0 4 = nI (D 0 4) := (hD.1 4 (by omega)).1
  obtain ⟨⟨b1, b2⟩, b3, b4, b5, b6, _⟩ := hW
  have e60 : (nI i < 60) = (i < 60) := propext (na_lt (b := 60) (by omega) (by omega))
  have e0 : (nI i ≤ 0) = (i ≤ 0) := propext (na_le (b := 0) (by omega) (by omega))
  have l1 : (nI (D 0 1) < 3) = (D 0 1 < 3) := propext (na_lt (b := 3) (by omega) (by omega))
  have l2 : (nI (D 0 2) < 8) = (D 0 2 < 8) := propext (na_lt (b := 8) (by omega) (by omega))
  have l3 : (nI (D 0 3) < 10) = (D 0 3 < 10) := propext (na_lt (b := 10) (by omega) (by omega))
  have l4 : (nI (D 0 4) < 4) = (D 0 4 < 4) := propext (na_lt (b := 4) (by omega) (by omega))
  unfold f_House_wordFault
  rcases hw with ⟨hj, rfl⟩ | ⟨hj, rfl⟩
  · obtain ⟨_, t2, _⟩ := tx_ok j hj
    have hne : ¬ 2560 + j = 0 := by omega
    rw [if_pos (Or.inr t2), if_neg hne, h01, h02, h03, h04]
    simp only [e60, e0, l1, l2, l3, l4]
    have hv1 : ∃ v1 : Int32, (if i < 60 then some 0 else some 1 : Option Int32) = some v1 ∧ (i < 60 → v1 = 0) ∧ (¬ i < 60 → v1 = 1) := by
      by_cases c : i < 60
      · exact ⟨0, if_pos c, fun _ => rfl, fun h => absurd c h⟩
      · exact ⟨1, if_neg c, fun h => absurd h c, fun _ => rfl⟩
    obtain ⟨v1, g1, g2, g3⟩ := hv1
    rw [g1, obs, if_pos t2, W_sw j hj, obs]
    have hv : (v1 = 0) = (i < 60) := propext ⟨fun h => Decidable.byContradiction (fun c => by rw [g3 c] at h; exact absurd h (by decide)), g2⟩
    simp only [hv, ne_eq]
    have k10 : ∀ (a b : Option Int32), (if (0 : Int32) = 1 then a else b) = b := fun a b => if_neg (by decide)
    by_cases h10 : 10 ≤ j
    · have hsw : swv j = 0 := by
        have : ∀ j, j < 23 → 10 ≤ j → swv j = 0 := by decide
        exact this j hj h10
      rw [hsw, if_neg (by decide), if_neg (by decide), if_neg (by decide), if_neg (by decide), if_neg (by decide), if_neg (by decide), if_neg (by decide), if_neg (by decide), if_neg (by decide), if_neg (by decide)]
      unfold flt
      rw [if_pos h10]; rfl
    · unfold flt
      rw [if_neg h10]
      have hj10 : j = 0 ∨ j = 1 ∨ j = 2 ∨ j = 3 ∨ j = 4 ∨ j = 5 ∨ j = 6 ∨ j = 7 ∨ j = 8 ∨ j = 9 := by omega
      by_cases c : i < 60
      · rcases hj10 with rfl | rfl | rfl | rfl | rfl | rfl | rfl | rfl | rfl | rfl
        · show (if i < 60 then _ else _) = _
          rw [if_pos c]
          by_cases ci : i ≤ 0
          · rw [if_pos ci, if_neg (by omega), if_neg (by omega)]; rfl
          · rw [if_neg ci, if_neg (by omega), if_pos (by omega)]; rfl
        · show (if ¬ i < 60 then _ else _) = _
          rw [if_neg (fun h => h c)]
          by_cases cd : D 0 1 < 3
          · rw [if_pos cd, if_neg (by omega), if_neg (by omega)]; rfl
          · rw [if_neg cd, if_pos (by omega)]; rfl
        · show (if ¬ i < 60 then _ else _) = _
          rw [if_neg (fun h => h c)]
          by_cases cd : D 0 2 < 8
          · rw [if_pos cd, if_neg (by omega), if_neg (by omega)]; rfl
          · rw [if_neg cd, if_pos (by omega)]; rfl
        · show (if i < 60 then _ else _) = _
          rw [if_pos c, if_neg (by omega), if_neg (by omega)]; rfl
        · show (if ¬ i < 60 then _ else _) = _
          rw [if_neg (fun h => h c)]
          by_cases cd : D 0 3 < 10
          · rw [if_pos cd, if_neg (by omega), if_neg (by omega)]; rfl
          · rw [if_neg cd, if_pos (by omega)]; rfl
        · show (if i < 60 then _ else _) = _
          rw [if_pos c, if_neg (by omega), if_neg (by omega)]; rfl
        · show (if i < 60 then _ else _) = _
          rw [if_pos c, if_neg (by omega), if_neg (by omega)]; rfl
        · show (if i < 60 then _ else _) = _
          rw [if_pos c, if_neg (by omega), if_neg (by omega)]; rfl
        · show (if i < 60 then _ else _) = _
          rw [if_pos c, if_neg (by omega), if_neg (by omega)]; rfl
        · show (if ¬ i < 60 then _ else _) = _
          rw [if_neg (fun h => h c)]
          by_cases cd : D 0 4 < 4
          · rw [if_pos cd, if_neg (by omega), if_neg (by omega)]; rfl
          · rw [if_neg cd, if_pos (by omega)]; rfl
      · rw [if_pos (show i = 60 ∨ (j = 1 ∧ D 0 1 = 3) ∨ (j = 2 ∧ D 0 2 = 8) ∨ (j = 4 ∧ D 0 3 = 10) ∨ (j = 9 ∧ D 0 4 = 4) from Or.inl (by omega))]
        rcases hj10 with rfl | rfl | rfl | rfl | rfl | rfl | rfl | rfl | rfl | rfl
        all_goals first
          | (show (if i < 60 then _ else _) = _; rw [if_neg c]; rfl)
          | (show (if ¬ i < 60 then _ else _) = _; rw [if_pos c]; rfl)
  · rw [if_pos (Or.inl rfl), if_pos rfl]
    unfold flt
    rw [if_pos (by omega)]; rfl
theorem M_isClause {c : Int32} {j : Nat} (hc : ∀ k, k < 13 → ((c = nI (cdT k)) = (j = k))) : f_M_isClause c = some (if j < 10 then 1 else 0) := by
  obtain ⟨f3, f6, f4, f0, f1, f2, f5, f7, f8, f9, _⟩ := M_ofs
  unfold f_M_isClause
  simp only [f0, f1, f2, f3, f4, f5, f6, f7, f8, f9, obs, hc 0 (by omega), hc 1 (by omega), hc 2 (by omega), hc 3 (by omega), hc 4 (by omega), hc 5 (by omega), hc 6 (by omega), hc 7 (by omega), hc 8 (by omega), hc 9 (by omega), ne_eq, zb_0, zb_1]
  by_cases h : j < 10
  · rw [if_pos h]
    have hj10 : j = 0 ∨ j = 1 ∨ j = 2 ∨ j = 3 ∨ j = 4 ∨ j = 5 ∨ j = 6 ∨ j = 7 ∨ j = 8 ∨ j = 9 := by omega
    rcases hj10 with rfl | rfl | rfl | rfl | rfl | rfl | rfl | rfl | rfl | rfl <;> rfl
  · rw [if_neg h, if_neg (by omega), if_neg (by omega), if_neg (by omega), if_neg (by omega), if_neg (by omega), if_neg (by omega), if_neg (by omega), if_neg (by omega), if_neg (by omega), if_pos (by omega)]
section
variable {b : Nat → Nat} {n p w : Nat} {A T M H : Nat → Nat → Int32} {D : CS}
/-- the clause of word j, both -/
theorem clause_both (hX : TXt b n A) (h : OSt b n p T w M) (hD : NH D H M) (hW : WD D) {c : Int32} {i j : Nat} (hc : ∀ k, k < 13 → ((c = nI (cdT k)) = (j = k))) (hi : i ≤ 60) (hf : flt D i j = 0) (hini : i = 0 → D 0 3 = 0 ∧ D 0 4 = 0 ∧ (∀ k, D 4 k = 0) ∧ ∀ k, D 9 k = 0) :
    CLend b n p H (f_House_readClause T H w (2560 + j)) ((f_M_readClause A M c).bind fun M1 => f_M_sign A M1 59) := by
  have hj : j < 10 := by
    unfold flt at hf
    by_cases c1 : 10 ≤ j
    · rw [if_pos c1] at hf; omega
    · omega
  unfold flt at hf
  rw [if_neg (by omega)] at hf
  obtain ⟨_, t2, _⟩ := tx_ok j (by omega)
  obtain ⟨f3, f6, f4, f0, f1, f2, f5, f7, f8, f9, _⟩ := M_ofs
  have hW0 := hW
  obtain ⟨⟨b1, b2⟩, b3, b4, b5, b6, _⟩ := hW0
  have hne : ¬ 2560 + j = 0 := by omega
  have he : ∀ y : Option ((Nat → Nat → Int32) × (Nat → Nat → Int32) × Nat), (y.bind fun c1 => some (c1.1, c1.2.1, c1.2.2)) = y := fun y => by cases y <;> rfl
  have he2 : ∀ y : Option (Nat → Nat → Int32), (y.bind fun c1 => some c1) = y := fun y => by cases y <;> rfl
  unfold f_House_readClause f_M_readClause
  rw [if_pos (Or.inr t2), if_neg hne, if_pos t2, W_sw j (by omega), obs]
  simp only [he, f0, f1, f2, f5, f7, f8, obs, hc 0 (by omega), hc 1 (by omega), hc 2 (by omega), hc 5 (by omega), hc 7 (by omega), hc 8 (by omega), ne_eq]
  by_cases h3 : i = 60 ∨ (j = 1 ∧ D 0 1 = 3) ∨ (j = 2 ∧ D 0 2 = 8) ∨ (j = 4 ∧ D 0 3 = 10) ∨ (j = 9 ∧ D 0 4 = 4)
  · rw [if_pos h3] at hf; omega
  · rw [if_neg h3] at hf
    have h0 : ¬ (j = 0 ∧ 0 < i) := fun g => by rw [if_pos g] at hf; omega
    have hj10 : j = 0 ∨ j = 1 ∨ j = 2 ∨ j = 3 ∨ j = 4 ∨ j = 5 ∨ j = 6 ∨ j = 7 ∨ j = 8 ∨ j = 9 := by omega
    have rpl : ∀ P, f_M_readPlaces A M P = (f_M_of 2647).bind fun x1 => if P ≠ x1 then (f_M_of 2648).bind fun x2 => if P ≠ x2 then rp_mh A P M else (f_M_readMeeting A M).bind fun c9 => (f_M_readHour A c9.2).bind fun c10 => (f_M_readNumber A c10.2 c10.1 ((c10.2 0 18) - 1)).bind fun c11 => (f_M_fine c11.2).bind fun x26 => if x26 = 0 then some c11.2 else (rdx (c11.2 3) 60 ((6 * c9.1) + 3)).bind fun x27 => (f_M_range c10.1 c11.1).bind fun x28 => (ixx 60 ((6 * c9.1) + 3)).bind fun j29 => some (u2 c11.2 3 j29 (x27 ||| x28))
      else (f_M_readNumber A M 0 ((M 0 20) - 1)).bind fun c14 => (f_M_readHour A c14.2).bind fun c15 => (f_M_readNumber A c15.2 c15.1 ((c15.2 0 18) - 1)).bind fun c16 => (f_M_fine c16.2).bind fun x36 => if x36 = 0 then some c16.2 else (rdx (c16.2 2) 24 ((3 * c14.1) + 2)).bind fun x37 => (f_M_range c15.1 c16.1).bind fun x38 => (ixx 24 ((3 * c14.1) + 2)).bind fun j39 => some (u2 c16.2 2 j39 (x37 ||| x38)) := fun P => rfl
    rcases hj10 with rfl | rfl | rfl | rfl | rfl | rfl | rfl | rfl | rfl | rfl
    · exact cl_hours hX h hD hW (hini (by omega))
    · exact cl_room hX h hD hW (by omega)
    · exact cl_person hX h hD hW (by omega)
    · show CLend b n p H (f_House_readBusy T H w) (((f_M_readPlaces A M c).bind fun c1 => some c1).bind fun M1 => f_M_sign A M1 59)
      rw [he2, rpl, f3, obs, if_neg (fun g => g ((hc 3 (by omega)).mpr rfl))]
      exact cl_busy hX h hD hW
    · show CLend b n p H (f_House_readMeet T H w) (((f_M_readPlaces A M c).bind fun c1 => some c1).bind fun M1 => f_M_sign A M1 59)
      have hc4 : c = nI (cdT 4) := (hc 4 (by omega)).mpr rfl
      rw [he2, rpl, f3, obs, if_pos (fun g => by have := (hc 3 (by omega)).mp g; omega), f6, obs, if_pos (fun g => by have := (hc 6 (by omega)).mp g; omega), hc4]
      exact cl_meet hX h hD hW (by omega)
    · exact cl_who hX h hD hW
    · show CLend b n p H (f_House_readMay T H w) (((f_M_readPlaces A M c).bind fun c1 => some c1).bind fun M1 => f_M_sign A M1 59)
      rw [he2, rpl, f3, obs, if_pos (fun g => by have := (hc 3 (by omega)).mp g; omega), f6, obs, if_neg (fun g => g ((hc 6 (by omega)).mpr rfl))]
      exact cl_may hX h hD hW
    · exact cl_fixed hX h hD hW
    · exact cl_moved hX h hD hW
    · show CLend b n p H (f_House_readHold T H w) (((f_M_readPlaces A M c).bind fun c1 => some c1).bind fun M1 => f_M_sign A M1 59)
      rw [he2, rpl, f3, obs, if_pos (fun g => by have := (hc 3 (by omega)).mp g; omega), f6, obs, if_pos (fun g => by have := (hc 6 (by omega)).mp g; omega)]
      exact cl_hold hX h hD hW (by omega) (fun g => by have := (hc 4 (by omega)).mp g; omega)
end
