/-! the first state: a new pair of objects -/
theorem RH_0 {H : Nat → Nat → Int32} (h0 : H 0 0 = 8) (h1 : ∀ j, 1 ≤ j → j ≤ 5 → H 0 j = 0) : RH (hsC d0C) H := by
  intro a b hd
  match a, hd with
  | 0, hd =>
    have hb : b ≤ 5 := by
      have hd : b < 6 := hd
      omega
    by_cases hb0 : b = 0
    · subst hb0; exact h0
    · show H 0 b = if b < 5 then nI (if b < 5 then d0C 0 b else 0) else nI (bs (fun m => hsC d0C 10 m = 1) 0)
      rw [h1 b (by omega) hb]
      by_cases h5 : b < 5
      · rw [if_pos h5, if_pos h5]
        show (0 : Int32) = nI (if 0 = 0 ∧ b = 0 then 8 else 0)
        rw [if_neg (fun g => hb0 g.2)]; rfl
      · rw [if_neg h5]; rfl
  | 1, hd => exact absurd (show b < 0 from hd) (by omega)
  | 2, hd => exact absurd (show b < 0 from hd) (by omega)
  | 3, hd => exact absurd (show b < 0 from hd) (by omega)
  | 4, hd => exact absurd (show b < 0 from hd) (by omega)
  | 7, hd => exact absurd (show b < 0 from hd) (by omega)
  | 8, hd => exact absurd (show b < 0 from hd) (by omega)
  | 9, hd => exact absurd (show b < 0 from hd) (by omega)
  | 10, hd => exact absurd (show b < 0 from hd) (by omega)
  | 11, hd => exact absurd (show b < 0 from hd) (by omega)
  | 12, hd => exact absurd (show b < 0 from hd) (by omega)
theorem RS_0 {S : Nat → Nat → Int32} (h0 : S 0 3 = 0) (h1 : S 0 4 = 0) (h3 : S 3 0 = 0) : RS (hsC d0C) S := by
  intro a b hd
  match a, hd with
  | 0, hd =>
    have hb : b = 3 ∨ b = 4 := hd
    rcases hb with rfl | rfl
    · exact h0
    · exact h1
  | 1, hd => exact absurd (show b < 0 from hd) (by omega)
  | 2, hd => exact absurd (show b < 0 from hd) (by omega)
  | 3, hd =>
    have hb : b = 0 := hd
    subst hb
    exact h3
  | 4, hd => exact absurd (show b < 0 from hd) (by omega)
  | 5, hd => exact absurd (show b < 0 from hd) (by omega)
  | 6, hd => exact absurd (show b / 10 < 0 from hd.1) (by omega)
  | 7, hd => exact absurd (show b / 10 < 0 from hd.1) (by omega)
theorem INIT (Y T HA HB RA RB ST NS I0 I1 I2 MA MN : Nat → Nat → Int32) : ∃ MN1 MA1, f_M_clears (u1 (u1 (u1 (u1 (u1 (u1 (u1 MN 1 a_zz) 2 a_zz) 3 a_zz) 4 a_zz) 5 a_zz) 6 a_zz) 7 a_zz) = some MN1 ∧ f_M_sets (u1 (u1 (u1 (u1 (u1 (u1 (u1 (u1 (u1 (u1 (u1 (u1 (u2 (u1 (u1 MA 0 a_zz) 1 a_zz) 0 8 (-1)) 2 a_zz) 3 a_zz) 4 a_zz) 5 a_zz) 6 a_zz) 7 a_zz) 8 a_zz) 9 a_zz) 10 a_zz) 11 a_zz) 12 a_zz) 13 a_zz) MN1 = some MA1 ∧
    RL (hsC d0C) (u1 Y 0 a_zz) (kx_64_HA HA) (kx_64_NS NS) MA1 ∧ QLC 99 (hsC d0C) (kx_64_T T) (kx_64_RA RA) I0 I1 I2 := by
  obtain ⟨n1, n2, n3, n4, n5⟩ := NEW_hs WD_0
  obtain ⟨MN1, m1, m2, m3, m4, m5⟩ := M_clears (u1 (u1 (u1 (u1 (u1 (u1 (u1 MN 1 a_zz) 2 a_zz) 3 a_zz) 4 a_zz) 5 a_zz) 6 a_zz) 7 a_zz)
  obtain ⟨MA1, z1, z2, z33, z40, z43, z65, z3, z4, z5, z6, z7, z00, z02, z08, zz1⟩ := M_sets (u1 (u1 (u1 (u1 (u1 (u1 (u1 (u1 (u1 (u1 (u1 (u1 (u2 (u1 (u1 MA 0 a_zz) 1 a_zz) 0 8 (-1)) 2 a_zz) 3 a_zz) 4 a_zz) 5 a_zz) 6 a_zz) 7 a_zz) 8 a_zz) 9 a_zz) 10 a_zz) 11 a_zz) 12 a_zz) 13 a_zz) MN1 (N := 0) (by omega) (by rw [m3 21 (by omega) (by omega)]; rfl)
  have hj : ∀ j, 1 ≤ j → j ≤ 5 → (kx_64_HA HA) 0 j = 0 := fun j h1 h5 => by
    have : j = 1 ∨ j = 2 ∨ j = 3 ∨ j = 4 ∨ j = 5 := by omega
    rcases this with rfl | rfl | rfl | rfl | rfl <;> rfl
  have hNH : NH d0C (kx_64_HA HA) MN1 := NH_0 rfl hj (fun k _ => rfl) (fun k _ => ⟨rfl, rfl, rfl⟩) m2 m3 m4
  refine ⟨MN1, MA1, m1, z1, ⟨WFC_hs WD_0, rfl, RH_0 rfl hj, RS_0 rfl rfl rfl, RM_new hNH WD_0 z2 z33 z40 z43 z65 z3 z4 z5 z6 z7 ?_ ?_, ?_⟩, RT_new rfl rfl, ⟨rfl, fun k hk => absurd (show k < 0 from hk) (by omega)⟩, fun i hi => absurd (show i < 0 from hi) (by omega), fun i hi => absurd (show i < 0 from hi) (by omega), n1, n2, n3, n4, Nat.le_refl _⟩
  · rw [z02]; rfl
  · rw [z08]; rfl
  · unfold RQ
    rw [zz1, zz1]
    exact ⟨rfl, rfl⟩
