/-! printed by program (gen/emitm.py): the reference's methods run as their functions say -/
set_option maxRecDepth 1000000 in
set_option maxHeartbeats 4000000 in
theorem K_grp_cr_1 (n : Nat) : (∀ (d : Nat) (Y T HA HB RU RV ST NS I0 I1 I2 BO FI RG GU PU MA MN MS OT SC : Nat → Nat → Int32) (r0 r1 r2 r3 w r5 r6 r7 r8 : Nat) (L : Nat) (Lg : Int64) (p2 : Int32) (r : (Nat → Nat → Int32) × (Nat → Nat → Int32) × Nat), f_grp_cr n 0 T RU w p2 = some r → Ev (d + (6 + n), 0, 0, 243, 0, [.val (.ref 320), .val (.ref 128), .val (.int p2), .val a_unk], [], (126, 120, L, [Y, T, HA, HB, RU, RV, ST, NS, I0, I1, I2, BO, FI, RG, GU, PU, MA, MN, MS, OT, SC], [r0, r1, r2, r3, w, r5, r6, r7, r8], Lg)) ((0, none, (126, 120, L, [Y, r.1, HA, HB, RU, r.2.1, ST, NS, I0, I1, I2, BO, FI, RG, GU, PU, MA, MN, MS, OT, SC], [r0, r1, r2, r3, r.2.2, r5, r6, r7, r8], Lg)) : AOut)) ∧ (∀ (d : Nat) (Y T HA HB RU RV ST NS I0 I1 I2 BO FI RG GU PU MA MN MS OT SC : Nat → Nat → Int32) (r0 r1 r2 r3 w r5 r6 r7 r8 : Nat) (L : Nat) (Lg : Int64) (p2 : Int32) (r : (Nat → Nat → Int32) × (Nat → Nat → Int32) × Nat), f_grp_cr n 1 T RU w p2 = some r → Ev (d + (6 + n), 0, 0, 244, 0, [.val (.ref 320), .val (.ref 128), .val (.int p2), .val a_unk], [], (126, 120, L, [Y, T, HA, HB, RU, RV, ST, NS, I0, I1, I2, BO, FI, RG, GU, PU, MA, MN, MS, OT, SC], [r0, r1, r2, r3, w, r5, r6, r7, r8], Lg)) ((0, none, (126, 120, L, [Y, r.1, HA, HB, RU, r.2.1, ST, NS, I0, I1, I2, BO, FI, RG, GU, PU, MA, MN, MS, OT, SC], [r0, r1, r2, r3, r.2.2, r5, r6, r7, r8], Lg)) : AOut)) ∧ (∀ (d : Nat) (Y T HA HB RU RV ST NS I0 I1 I2 BO FI RG GU PU MA MN MS OT SC : Nat → Nat → Int32) (r0 r1 r2 r3 w r5 r6 r7 r8 : Nat) (L : Nat) (Lg : Int64) (p2 : Int32) (r : (Nat → Nat → Int32) × (Nat → Nat → Int32) × Nat), f_grp_cr n 2 T RU w p2 = some r → Ev (d + (6 + n), 0, 0, 245, 0, [.val (.ref 320), .val (.ref 128), .val (.int p2)], [], (126, 120, L, [Y, T, HA, HB, RU, RV, ST, NS, I0, I1, I2, BO, FI, RG, GU, PU, MA, MN, MS, OT, SC], [r0, r1, r2, r3, w, r5, r6, r7, r8], Lg)) ((0, none, (126, 120, L, [Y, r.1, HA, HB, RU, r.2.1, ST, NS, I0, I1, I2, BO, FI, RG, GU, PU, MA, MN, MS, OT, SC], [r0, r1, r2, r3, r.2.2, r5, r6, r7, r8], Lg)) : AOut)) ∧ (∀ (d : Nat) (Y T HA HB RU RV ST NS I0 I1 I2 BO FI RG GU PU MA MN MS OT SC : Nat → Nat → Int32) (r0 r1 r2 r3 w r5 r6 r7 r8 : Nat) (L : Nat) (Lg : Int64) (p2 : Int32) (r : (Nat → Nat → Int32) × (Nat → Nat → Int32) × Nat), f_grp_cr n 3 T RU w p2 = some r → Ev (d + (6 + n), 0, 0, 248, 0, [.val (.ref 320), .val (.ref 128), .val (.int p2), .val a_unk, .val a_unk], [], (126, 120, L, [Y, T, HA, HB, RU, RV, ST, NS, I0, I1, I2, BO, FI, RG, GU, PU, MA, MN, MS, OT, SC], [r0, r1, r2, r3, w, r5, r6, r7, r8], Lg)) ((0, none, (126, 120, L, [Y, r.1, HA, HB, RU, r.2.1, ST, NS, I0, I1, I2, BO, FI, RG, GU, PU, MA, MN, MS, OT, SC], [r0, r1, r2, r3, r.2.2, r5, r6, r7, r8], Lg)) : AOut)) ∧ (∀ (d : Nat) (Y T HA HB RU RV ST NS I0 I1 I2 BO FI RG GU PU MA MN MS OT SC : Nat → Nat → Int32) (r0 r1 r2 r3 w r5 r6 r7 r8 : Nat) (L : Nat) (Lg : Int64) (p2 : Int32) (r : (Nat → Nat → Int32) × (Nat → Nat → Int32) × Nat), f_grp_cr n 4 T RU w p2 = some r → Ev (d + (6 + n), 0, 0, 249, 0, [.val (.ref 320), .val (.ref 128), .val (.int p2), .val a_unk], [], (126, 120, L, [Y, T, HA, HB, RU, RV, ST, NS, I0, I1, I2, BO, FI, RG, GU, PU, MA, MN, MS, OT, SC], [r0, r1, r2, r3, w, r5, r6, r7, r8], Lg)) ((0, none, (126, 120, L, [Y, r.1, HA, HB, RU, r.2.1, ST, NS, I0, I1, I2, BO, FI, RG, GU, PU, MA, MN, MS, OT, SC], [r0, r1, r2, r3, r.2.2, r5, r6, r7, r8], Lg)) : AOut)) ∧ (∀ (d : Nat) (Y T HA HB RU RV ST NS I0 I1 I2 BO FI RG GU PU MA MN MS OT SC : Nat → Nat → Int32) (r0 r1 r2 r3 w r5 r6 r7 r8 : Nat) (L : Nat) (Lg : Int64) (p2 : Int32) (r : (Nat → Nat → Int32) × (Nat → Nat → Int32) × Nat), f_grp_cr n 5 T RU w p2 = some r → Ev (d + (6 + n), 0, 0, 250, 0, [.val (.ref 320), .val (.ref 128), .val (.int p2), .val a_unk], [], (126, 120, L, [Y, T, HA, HB, RU, RV, ST, NS, I0, I1, I2, BO, FI, RG, GU, PU, MA, MN, MS, OT, SC], [r0, r1, r2, r3, w, r5, r6, r7, r8], Lg)) ((0, none, (126, 120, L, [Y, r.1, HA, HB, RU, r.2.1, ST, NS, I0, I1, I2, BO, FI, RG, GU, PU, MA, MN, MS, OT, SC], [r0, r1, r2, r3, r.2.2, r5, r6, r7, r8], Lg)) : AOut)) ∧ (∀ (d : Nat) (Y T HA HB RU RV ST NS I0 I1 I2 BO FI RG GU PU MA MN MS OT SC : Nat → Nat → Int32) (r0 r1 r2 r3 w r5 r6 r7 r8 : Nat) (L : Nat) (Lg : Int64) (p2 : Int32) (r : (Nat → Nat → Int32) × (Nat → Nat → Int32) × Nat), f_grp_cr n 6 T RU w p2 = some r → Ev (d + (6 + n), 0, 0, 247, 0, [.val (.ref 320), .val (.ref 128), .val (.int p2), .val a_unk], [], (126, 120, L, [Y, T, HA, HB, RU, RV, ST, NS, I0, I1, I2, BO, FI, RG, GU, PU, MA, MN, MS, OT, SC], [r0, r1, r2, r3, w, r5, r6, r7, r8], Lg)) ((0, none, (126, 120, L, [Y, r.1, HA, HB, RU, r.2.1, ST, NS, I0, I1, I2, BO, FI, RG, GU, PU, MA, MN, MS, OT, SC], [r0, r1, r2, r3, r.2.2, r5, r6, r7, r8], Lg)) : AOut)) := by
  induction n with
  | zero => exact ⟨by intros; contradiction, by intros; contradiction, by intros; contradiction, by intros; contradiction, by intros; contradiction, by intros; contradiction, by intros; contradiction⟩
  | succ n ih =>
    obtain ⟨i0, i1, i2, i3, i4, i5, i6⟩ := ih
    refine ⟨?_, ?_, ?_, ?_, ?_, ?_, ?_⟩
    · intro d Y T HA HB RU RV ST NS I0 I1 I2 BO FI RG GU PU MA MN MS OT SC r0 r1 r2 r3 w r5 r6 r7 r8 L Lg p2 r h
      rw [show d + (6 + (n + 1)) = d + n + 7 by omega]
      have j0 : ∀ (Y T HA HB RU RV ST NS I0 I1 I2 BO FI RG GU PU MA MN MS OT SC : Nat → Nat → Int32) (r0 r1 r2 r3 w r5 r6 r7 r8 : Nat) (L : Nat) (Lg : Int64) (p2 : Int32) (r : (Nat → Nat → Int32) × (Nat → Nat → Int32) × Nat), f_grp_cr n 0 T RU w p2 = some r → Ev (d + n + 6, 0, 0, 243, 0, [.val (.ref 320), .val (.ref 128), .val (.int p2), .val a_unk], [], (126, 120, L, [Y, T, HA, HB, RU, RV, ST, NS, I0, I1, I2, BO, FI, RG, GU, PU, MA, MN, MS, OT, SC], [r0, r1, r2, r3, w, r5, r6, r7, r8], Lg)) ((0, none, (126, 120, L, [Y, r.1, HA, HB, RU, r.2.1, ST, NS, I0, I1, I2, BO, FI, RG, GU, PU, MA, MN, MS, OT, SC], [r0, r1, r2, r3, r.2.2, r5, r6, r7, r8], Lg)) : AOut) := by
        intro Y T HA HB RU RV ST NS I0 I1 I2 BO FI RG GU PU MA MN MS OT SC r0 r1 r2 r3 w r5 r6 r7 r8 L Lg p2 r h
        have e := i0 d Y T HA HB RU RV ST NS I0 I1 I2 BO FI RG GU PU MA MN MS OT SC r0 r1 r2 r3 w r5 r6 r7 r8 L Lg p2 r h
        rw [show d + (6 + n) = d + n + 6 by omega] at e
        exact e
      have j1 : ∀ (Y T HA HB RU RV ST NS I0 I1 I2 BO FI RG GU PU MA MN MS OT SC : Nat → Nat → Int32) (r0 r1 r2 r3 w r5 r6 r7 r8 : Nat) (L : Nat) (Lg : Int64) (p2 : Int32) (r : (Nat → Nat → Int32) × (Nat → Nat → Int32) × Nat), f_grp_cr n 1 T RU w p2 = some r → Ev (d + n + 6, 0, 0, 244, 0, [.val (.ref 320), .val (.ref 128), .val (.int p2), .val a_unk], [], (126, 120, L, [Y, T, HA, HB, RU, RV, ST, NS, I0, I1, I2, BO, FI, RG, GU, PU, MA, MN, MS, OT, SC], [r0, r1, r2, r3, w, r5, r6, r7, r8], Lg)) ((0, none, (126, 120, L, [Y, r.1, HA, HB, RU, r.2.1, ST, NS, I0, I1, I2, BO, FI, RG, GU, PU, MA, MN, MS, OT, SC], [r0, r1, r2, r3, r.2.2, r5, r6, r7, r8], Lg)) : AOut) := by
        intro Y T HA HB RU RV ST NS I0 I1 I2 BO FI RG GU PU MA MN MS OT SC r0 r1 r2 r3 w r5 r6 r7 r8 L Lg p2 r h
        have e := i1 d Y T HA HB RU RV ST NS I0 I1 I2 BO FI RG GU PU MA MN MS OT SC r0 r1 r2 r3 w r5 r6 r7 r8 L Lg p2 r h
        rw [show d + (6 + n) = d + n + 6 by omega] at e
        exact e
      have j2 : ∀ (Y T HA HB RU RV ST NS I0 I1 I2 BO FI RG GU PU MA MN MS OT SC : Nat → Nat → Int32) (r0 r1 r2 r3 w r5 r6 r7 r8 : Nat) (L : Nat) (Lg : Int64) (p2 : Int32) (r : (Nat → Nat → Int32) × (Nat → Nat → Int32) × Nat), f_grp_cr n 2 T RU w p2 = some r → Ev (d + n + 6, 0, 0, 245, 0, [.val (.ref 320), .val (.ref 128), .val (.int p2)], [], (126, 120, L, [Y, T, HA, HB, RU, RV, ST, NS, I0, I1, I2, BO, FI, RG, GU, PU, MA, MN, MS, OT, SC], [r0, r1, r2, r3, w, r5, r6, r7, r8], Lg)) ((0, none, (126, 120, L, [Y, r.1, HA, HB, RU, r.2.1, ST, NS, I0, I1, I2, BO, FI, RG, GU, PU, MA, MN, MS, OT, SC], [r0, r1, r2, r3, r.2.2, r5, r6, r7, r8], Lg)) : AOut) := by
        intro Y T HA HB RU RV ST NS I0 I1 I2 BO FI RG GU PU MA MN MS OT SC r0 r1 r2 r3 w r5 r6 r7 r8 L Lg p2 r h
        have e := i2 d Y T HA HB RU RV ST NS I0 I1 I2 BO FI RG GU PU MA MN MS OT SC r0 r1 r2 r3 w r5 r6 r7 r8 L Lg p2 r h
        rw [show d + (6 + n) = d + n + 6 by omega] at e
        exact e
      have j3 : ∀ (Y T HA HB RU RV ST NS I0 I1 I2 BO FI RG GU PU MA MN MS OT SC : Nat → Nat → Int32) (r0 r1 r2 r3 w r5 r6 r7 r8 : Nat) (L : Nat) (Lg : Int64) (p2 : Int32) (r : (Nat → Nat → Int32) × (Nat → Nat → Int32) × Nat), f_grp_cr n 3 T RU w p2 = some r → Ev (d + n + 6, 0, 0, 248, 0, [.val (.ref 320), .val (.ref 128), .val (.int p2), .val a_unk, .val a_unk], [], (126, 120, L, [Y, T, HA, HB, RU, RV, ST, NS, I0, I1, I2, BO, FI, RG, GU, PU, MA, MN, MS, OT, SC], [r0, r1, r2, r3, w, r5, r6, r7, r8], Lg)) ((0, none, (126, 120, L, [Y, r.1, HA, HB, RU, r.2.1, ST, NS, I0, I1, I2, BO, FI, RG, GU, PU, MA, MN, MS, OT, SC], [r0, r1, r2, r3, r.2.2, r5, r6, r7, r8], Lg)) : AOut) := by
        intro Y T HA HB RU RV ST NS I0 I1 I2 BO FI RG GU PU MA MN MS OT SC r0 r1 r2 r3 w r5 r6 r7 r8 L Lg p2 r h
        have e := i3 d Y T HA HB RU RV ST NS I0 I1 I2 BO FI RG GU PU MA MN MS OT SC r0 r1 r2 r3 w r5 r6 r7 r8 L Lg p2 r h
        rw [show d + (6 + n) = d + n + 6 by omega] at e
        exact e
      have j4 : ∀ (Y T HA HB RU RV ST NS I0 I1 I2 BO FI RG GU PU MA MN MS OT SC : Nat → Nat → Int32) (r0 r1 r2 r3 w r5 r6 r7 r8 : Nat) (L : Nat) (Lg : Int64) (p2 : Int32) (r : (Nat → Nat → Int32) × (Nat → Nat → Int32) × Nat), f_grp_cr n 4 T RU w p2 = some r → Ev (d + n + 6, 0, 0, 249, 0, [.val (.ref 320), .val (.ref 128), .val (.int p2), .val a_unk], [], (126, 120, L, [Y, T, HA, HB, RU, RV, ST, NS, I0, I1, I2, BO, FI, RG, GU, PU, MA, MN, MS, OT, SC], [r0, r1, r2, r3, w, r5, r6, r7, r8], Lg)) ((0, none, (126, 120, L, [Y, r.1, HA, HB, RU, r.2.1, ST, NS, I0, I1, I2, BO, FI, RG, GU, PU, MA, MN, MS, OT, SC], [r0, r1, r2, r3, r.2.2, r5, r6, r7, r8], Lg)) : AOut) := by
        intro Y T HA HB RU RV ST NS I0 I1 I2 BO FI RG GU PU MA MN MS OT SC r0 r1 r2 r3 w r5 r6 r7 r8 L Lg p2 r h
        have e := i4 d Y T HA HB RU RV ST NS I0 I1 I2 BO FI RG GU PU MA MN MS OT SC r0 r1 r2 r3 w r5 r6 r7 r8 L Lg p2 r h
        rw [show d + (6 + n) = d + n + 6 by omega] at e
        exact e
      have j5 : ∀ (Y T HA HB RU RV ST NS I0 I1 I2 BO FI RG GU PU MA MN MS OT SC : Nat → Nat → Int32) (r0 r1 r2 r3 w r5 r6 r7 r8 : Nat) (L : Nat) (Lg : Int64) (p2 : Int32) (r : (Nat → Nat → Int32) × (Nat → Nat → Int32) × Nat), f_grp_cr n 5 T RU w p2 = some r → Ev (d + n + 6, 0, 0, 250, 0, [.val (.ref 320), .val (.ref 128), .val (.int p2), .val a_unk], [], (126, 120, L, [Y, T, HA, HB, RU, RV, ST, NS, I0, I1, I2, BO, FI, RG, GU, PU, MA, MN, MS, OT, SC], [r0, r1, r2, r3, w, r5, r6, r7, r8], Lg)) ((0, none, (126, 120, L, [Y, r.1, HA, HB, RU, r.2.1, ST, NS, I0, I1, I2, BO, FI, RG, GU, PU, MA, MN, MS, OT, SC], [r0, r1, r2, r3, r.2.2, r5, r6, r7, r8], Lg)) : AOut) := by
        intro Y T HA HB RU RV ST NS I0 I1 I2 BO FI RG GU PU MA MN MS OT SC r0 r1 r2 r3 w r5 r6 r7 r8 L Lg p2 r h
        have e := i5 d Y T HA HB RU RV ST NS I0 I1 I2 BO FI RG GU PU MA MN MS OT SC r0 r1 r2 r3 w r5 r6 r7 r8 L Lg p2 r h
        rw [show d + (6 + n) = d + n + 6 by omega] at e
        exact e
      have j6 : ∀ (Y T HA HB RU RV ST NS I0 I1 I2 BO FI RG GU PU MA MN MS OT SC : Nat → Nat → Int32) (r0 r1 r2 r3 w r5 r6 r7 r8 : Nat) (L : Nat) (Lg : Int64) (p2 : Int32) (r : (Nat → Nat → Int32) × (Nat → Nat → Int32) × Nat), f_grp_cr n 6 T RU w p2 = some r → Ev (d + n + 6, 0, 0, 247, 0, [.val (.ref 320), .val (.ref 128), .val (.int p2), .val a_unk], [], (126, 120, L, [Y, T, HA, HB, RU, RV, ST, NS, I0, I1, I2, BO, FI, RG, GU, PU, MA, MN, MS, OT, SC], [r0, r1, r2, r3, w, r5, r6, r7, r8], Lg)) ((0, none, (126, 120, L, [Y, r.1, HA, HB, RU, r.2.1, ST, NS, I0, I1, I2, BO, FI, RG, GU, PU, MA, MN, MS, OT, SC], [r0, r1, r2, r3, r.2.2, r5, r6, r7, r8], Lg)) : AOut) := by
        intro Y T HA HB RU RV ST NS I0 I1 I2 BO FI RG GU PU MA MN MS OT SC r0 r1 r2 r3 w r5 r6 r7 r8 L Lg p2 r h
        have e := i6 d Y T HA HB RU RV ST NS I0 I1 I2 BO FI RG GU PU MA MN MS OT SC r0 r1 r2 r3 w r5 r6 r7 r8 L Lg p2 r h
        rw [show d + (6 + n) = d + n + 6 by omega] at e
        exact e
      exact R_f_Rule_readAny_B_1 (d + n) (f_grp_cr n) j0 j1 j2 j3 j4 j5 j6 Y T HA HB RU RV ST NS I0 I1 I2 BO FI RG GU PU MA MN MS OT SC r0 r1 r2 r3 w r5 r6 r7 r8 L Lg p2 h
    · intro d Y T HA HB RU RV ST NS I0 I1 I2 BO FI RG GU PU MA MN MS OT SC r0 r1 r2 r3 w r5 r6 r7 r8 L Lg p2 r h
      rw [show d + (6 + (n + 1)) = d + n + 7 by omega]
      have j0 : ∀ (Y T HA HB RU RV ST NS I0 I1 I2 BO FI RG GU PU MA MN MS OT SC : Nat → Nat → Int32) (r0 r1 r2 r3 w r5 r6 r7 r8 : Nat) (L : Nat) (Lg : Int64) (p2 : Int32) (r : (Nat → Nat → Int32) × (Nat → Nat → Int32) × Nat), f_grp_cr n 0 T RU w p2 = some r → Ev (d + n + 6, 0, 0, 243, 0, [.val (.ref 320), .val (.ref 128), .val (.int p2), .val a_unk], [], (126, 120, L, [Y, T, HA, HB, RU, RV, ST, NS, I0, I1, I2, BO, FI, RG, GU, PU, MA, MN, MS, OT, SC], [r0, r1, r2, r3, w, r5, r6, r7, r8], Lg)) ((0, none, (126, 120, L, [Y, r.1, HA, HB, RU, r.2.1, ST, NS, I0, I1, I2, BO, FI, RG, GU, PU, MA, MN, MS, OT, SC], [r0, r1, r2, r3, r.2.2, r5, r6, r7, r8], Lg)) : AOut) := by
        intro Y T HA HB RU RV ST NS I0 I1 I2 BO FI RG GU PU MA MN MS OT SC r0 r1 r2 r3 w r5 r6 r7 r8 L Lg p2 r h
        have e := i0 d Y T HA HB RU RV ST NS I0 I1 I2 BO FI RG GU PU MA MN MS OT SC r0 r1 r2 r3 w r5 r6 r7 r8 L Lg p2 r h
        rw [show d + (6 + n) = d + n + 6 by omega] at e
        exact e
      have j1 : ∀ (Y T HA HB RU RV ST NS I0 I1 I2 BO FI RG GU PU MA MN MS OT SC : Nat → Nat → Int32) (r0 r1 r2 r3 w r5 r6 r7 r8 : Nat) (L : Nat) (Lg : Int64) (p2 : Int32) (r : (Nat → Nat → Int32) × (Nat → Nat → Int32) × Nat), f_grp_cr n 1 T RU w p2 = some r → Ev (d + n + 6, 0, 0, 244, 0, [.val (.ref 320), .val (.ref 128), .val (.int p2), .val a_unk], [], (126, 120, L, [Y, T, HA, HB, RU, RV, ST, NS, I0, I1, I2, BO, FI, RG, GU, PU, MA, MN, MS, OT, SC], [r0, r1, r2, r3, w, r5, r6, r7, r8], Lg)) ((0, none, (126, 120, L, [Y, r.1, HA, HB, RU, r.2.1, ST, NS, I0, I1, I2, BO, FI, RG, GU, PU, MA, MN, MS, OT, SC], [r0, r1, r2, r3, r.2.2, r5, r6, r7, r8], Lg)) : AOut) := by
        intro Y T HA HB RU RV ST NS I0 I1 I2 BO FI RG GU PU MA MN MS OT SC r0 r1 r2 r3 w r5 r6 r7 r8 L Lg p2 r h
        have e := i1 d Y T HA HB RU RV ST NS I0 I1 I2 BO FI RG GU PU MA MN MS OT SC r0 r1 r2 r3 w r5 r6 r7 r8 L Lg p2 r h
        rw [show d + (6 + n) = d + n + 6 by omega] at e
        exact e
      have j2 : ∀ (Y T HA HB RU RV ST NS I0 I1 I2 BO FI RG GU PU MA MN MS OT SC : Nat → Nat → Int32) (r0 r1 r2 r3 w r5 r6 r7 r8 : Nat) (L : Nat) (Lg : Int64) (p2 : Int32) (r : (Nat → Nat → Int32) × (Nat → Nat → Int32) × Nat), f_grp_cr n 2 T RU w p2 = some r → Ev (d + n + 6, 0, 0, 245, 0, [.val (.ref 320), .val (.ref 128), .val (.int p2)], [], (126, 120, L, [Y, T, HA, HB, RU, RV, ST, NS, I0, I1, I2, BO, FI, RG, GU, PU, MA, MN, MS, OT, SC], [r0, r1, r2, r3, w, r5, r6, r7, r8], Lg)) ((0, none, (126, 120, L, [Y, r.1, HA, HB, RU, r.2.1, ST, NS, I0, I1, I2, BO, FI, RG, GU, PU, MA, MN, MS, OT, SC], [r0, r1, r2, r3, r.2.2, r5, r6, r7, r8], Lg)) : AOut) := by
        intro Y T HA HB RU RV ST NS I0 I1 I2 BO FI RG GU PU MA MN MS OT SC r0 r1 r2 r3 w r5 r6 r7 r8 L Lg p2 r h
        have e := i2 d Y T HA HB RU RV ST NS I0 I1 I2 BO FI RG GU PU MA MN MS OT SC r0 r1 r2 r3 w r5 r6 r7 r8 L Lg p2 r h
        rw [show d + (6 + n) = d + n + 6 by omega] at e
        exact e
      have j3 : ∀ (Y T HA HB RU RV ST NS I0 I1 I2 BO FI RG GU PU MA MN MS OT SC : Nat → Nat → Int32) (r0 r1 r2 r3 w r5 r6 r7 r8 : Nat) (L : Nat) (Lg : Int64) (p2 : Int32) (r : (Nat → Nat → Int32) × (Nat → Nat → Int32) × Nat), f_grp_cr n 3 T RU w p2 = some r → Ev (d + n + 6, 0, 0, 248, 0, [.val (.ref 320), .val (.ref 128), .val (.int p2), .val a_unk, .val a_unk], [], (126, 120, L, [Y, T, HA, HB, RU, RV, ST, NS, I0, I1, I2, BO, FI, RG, GU, PU, MA, MN, MS, OT, SC], [r0, r1, r2, r3, w, r5, r6, r7, r8], Lg)) ((0, none, (126, 120, L, [Y, r.1, HA, HB, RU, r.2.1, ST, NS, I0, I1, I2, BO, FI, RG, GU, PU, MA, MN, MS, OT, SC], [r0, r1, r2, r3, r.2.2, r5, r6, r7, r8], Lg)) : AOut) := by
        intro Y T HA HB RU RV ST NS I0 I1 I2 BO FI RG GU PU MA MN MS OT SC r0 r1 r2 r3 w r5 r6 r7 r8 L Lg p2 r h
        have e := i3 d Y T HA HB RU RV ST NS I0 I1 I2 BO FI RG GU PU MA MN MS OT SC r0 r1 r2 r3 w r5 r6 r7 r8 L Lg p2 r h
        rw [show d + (6 + n) = d + n + 6 by omega] at e
        exact e
      have j4 : ∀ (Y T HA HB RU RV ST NS I0 I1 I2 BO FI RG GU PU MA MN MS OT SC : Nat → Nat → Int32) (r0 r1 r2 r3 w r5 r6 r7 r8 : Nat) (L : Nat) (Lg : Int64) (p2 : Int32) (r : (Nat → Nat → Int32) × (Nat → Nat → Int32) × Nat), f_grp_cr n 4 T RU w p2 = some r → Ev (d + n + 6, 0, 0, 249, 0, [.val (.ref 320), .val (.ref 128), .val (.int p2), .val a_unk], [], (126, 120, L, [Y, T, HA, HB, RU, RV, ST, NS, I0, I1, I2, BO, FI, RG, GU, PU, MA, MN, MS, OT, SC], [r0, r1, r2, r3, w, r5, r6, r7, r8], Lg)) ((0, none, (126, 120, L, [Y, r.1, HA, HB, RU, r.2.1, ST, NS, I0, I1, I2, BO, FI, RG, GU, PU, MA, MN, MS, OT, SC], [r0, r1, r2, r3, r.2.2, r5, r6, r7, r8], Lg)) : AOut) := by
        intro Y T HA HB RU RV ST NS I0 I1 I2 BO FI RG GU PU MA MN MS OT SC r0 r1 r2 r3 w r5 r6 r7 r8 L Lg p2 r h
        have e := i4 d Y T HA HB RU RV ST NS I0 I1 I2 BO FI RG GU PU MA MN MS OT SC r0 r1 r2 r3 w r5 r6 r7 r8 L Lg p2 r h
        rw [show d + (6 + n) = d + n + 6 by omega] at e
        exact e
      have j5 : ∀ (Y T HA HB RU RV ST NS I0 I1 I2 BO FI RG GU PU MA MN MS OT SC : Nat → Nat → Int32) (r0 r1 r2 r3 w r5 r6 r7 r8 : Nat) (L : Nat) (Lg : Int64) (p2 : Int32) (r : (Nat → Nat → Int32) × (Nat → Nat → Int32) × Nat), f_grp_cr n 5 T RU w p2 = some r → Ev (d + n + 6, 0, 0, 250, 0, [.val (.ref 320), .val (.ref 128), .val (.int p2), .val a_unk], [], (126, 120, L, [Y, T, HA, HB, RU, RV, ST, NS, I0, I1, I2, BO, FI, RG, GU, PU, MA, MN, MS, OT, SC], [r0, r1, r2, r3, w, r5, r6, r7, r8], Lg)) ((0, none, (126, 120, L, [Y, r.1, HA, HB, RU, r.2.1, ST, NS, I0, I1, I2, BO, FI, RG, GU, PU, MA, MN, MS, OT, SC], [r0, r1, r2, r3, r.2.2, r5, r6, r7, r8], Lg)) : AOut) := by
        intro Y T HA HB RU RV ST NS I0 I1 I2 BO FI RG GU PU MA MN MS OT SC r0 r1 r2 r3 w r5 r6 r7 r8 L Lg p2 r h
        have e := i5 d Y T HA HB RU RV ST NS I0 I1 I2 BO FI RG GU PU MA MN MS OT SC r0 r1 r2 r3 w r5 r6 r7 r8 L Lg p2 r h
        rw [show d + (6 + n) = d + n + 6 by omega] at e
        exact e
      have j6 : ∀ (Y T HA HB RU RV ST NS I0 I1 I2 BO FI RG GU PU MA MN MS OT SC : Nat → Nat → Int32) (r0 r1 r2 r3 w r5 r6 r7 r8 : Nat) (L : Nat) (Lg : Int64) (p2 : Int32) (r : (Nat → Nat → Int32) × (Nat → Nat → Int32) × Nat), f_grp_cr n 6 T RU w p2 = some r → Ev (d + n + 6, 0, 0, 247, 0, [.val (.ref 320), .val (.ref 128), .val (.int p2), .val a_unk], [], (126, 120, L, [Y, T, HA, HB, RU, RV, ST, NS, I0, I1, I2, BO, FI, RG, GU, PU, MA, MN, MS, OT, SC], [r0, r1, r2, r3, w, r5, r6, r7, r8], Lg)) ((0, none, (126, 120, L, [Y, r.1, HA, HB, RU, r.2.1, ST, NS, I0, I1, I2, BO, FI, RG, GU, PU, MA, MN, MS, OT, SC], [r0, r1, r2, r3, r.2.2, r5, r6, r7, r8], Lg)) : AOut) := by
        intro Y T HA HB RU RV ST NS I0 I1 I2 BO FI RG GU PU MA MN MS OT SC r0 r1 r2 r3 w r5 r6 r7 r8 L Lg p2 r h
        have e := i6 d Y T HA HB RU RV ST NS I0 I1 I2 BO FI RG GU PU MA MN MS OT SC r0 r1 r2 r3 w r5 r6 r7 r8 L Lg p2 r h
        rw [show d + (6 + n) = d + n + 6 by omega] at e
        exact e
      exact R_f_Rule_readAll_B_1 (d + n) (f_grp_cr n) j0 j1 j2 j3 j4 j5 j6 Y T HA HB RU RV ST NS I0 I1 I2 BO FI RG GU PU MA MN MS OT SC r0 r1 r2 r3 w r5 r6 r7 r8 L Lg p2 h
    · intro d Y T HA HB RU RV ST NS I0 I1 I2 BO FI RG GU PU MA MN MS OT SC r0 r1 r2 r3 w r5 r6 r7 r8 L Lg p2 r h
      rw [show d + (6 + (n + 1)) = d + n + 7 by omega]
      have j0 : ∀ (Y T HA HB RU RV ST NS I0 I1 I2 BO FI RG GU PU MA MN MS OT SC : Nat → Nat → Int32) (r0 r1 r2 r3 w r5 r6 r7 r8 : Nat) (L : Nat) (Lg : Int64) (p2 : Int32) (r : (Nat → Nat → Int32) × (Nat → Nat → Int32) × Nat), f_grp_cr n 0 T RU w p2 = some r → Ev (d + n + 6, 0, 0, 243, 0, [.val (.ref 320), .val (.ref 128), .val (.int p2), .val a_unk], [], (126, 120, L, [Y, T, HA, HB, RU, RV, ST, NS, I0, I1, I2, BO, FI, RG, GU, PU, MA, MN, MS, OT, SC], [r0, r1, r2, r3, w, r5, r6, r7, r8], Lg)) ((0, none, (126, 120, L, [Y, r.1, HA, HB, RU, r.2.1, ST, NS, I0, I1, I2, BO, FI, RG, GU, PU, MA, MN, MS, OT, SC], [r0, r1, r2, r3, r.2.2, r5, r6, r7, r8], Lg)) : AOut) := by
        intro Y T HA HB RU RV ST NS I0 I1 I2 BO FI RG GU PU MA MN MS OT SC r0 r1 r2 r3 w r5 r6 r7 r8 L Lg p2 r h
        have e := i0 d Y T HA HB RU RV ST NS I0 I1 I2 BO FI RG GU PU MA MN MS OT SC r0 r1 r2 r3 w r5 r6 r7 r8 L Lg p2 r h
        rw [show d + (6 + n) = d + n + 6 by omega] at e
        exact e
      have j1 : ∀ (Y T HA HB RU RV ST NS I0 I1 I2 BO FI RG GU PU MA MN MS OT SC : Nat → Nat → Int32) (r0 r1 r2 r3 w r5 r6 r7 r8 : Nat) (L : Nat) (Lg : Int64) (p2 : Int32) (r : (Nat → Nat → Int32) × (Nat → Nat → Int32) × Nat), f_grp_cr n 1 T RU w p2 = some r → Ev (d + n + 6, 0, 0, 244, 0, [.val (.ref 320), .val (.ref 128), .val (.int p2), .val a_unk], [], (126, 120, L, [Y, T, HA, HB, RU, RV, ST, NS, I0, I1, I2, BO, FI, RG, GU, PU, MA, MN, MS, OT, SC], [r0, r1, r2, r3, w, r5, r6, r7, r8], Lg)) ((0, none, (126, 120, L, [Y, r.1, HA, HB, RU, r.2.1, ST, NS, I0, I1, I2, BO, FI, RG, GU, PU, MA, MN, MS, OT, SC], [r0, r1, r2, r3, r.2.2, r5, r6, r7, r8], Lg)) : AOut) := by
        intro Y T HA HB RU RV ST NS I0 I1 I2 BO FI RG GU PU MA MN MS OT SC r0 r1 r2 r3 w r5 r6 r7 r8 L Lg p2 r h
        have e := i1 d Y T HA HB RU RV ST NS I0 I1 I2 BO FI RG GU PU MA MN MS OT SC r0 r1 r2 r3 w r5 r6 r7 r8 L Lg p2 r h
        rw [show d + (6 + n) = d + n + 6 by omega] at e
        exact e
      have j2 : ∀ (Y T HA HB RU RV ST NS I0 I1 I2 BO FI RG GU PU MA MN MS OT SC : Nat → Nat → Int32) (r0 r1 r2 r3 w r5 r6 r7 r8 : Nat) (L : Nat) (Lg : Int64) (p2 : Int32) (r : (Nat → Nat → Int32) × (Nat → Nat → Int32) × Nat), f_grp_cr n 2 T RU w p2 = some r → Ev (d + n + 6, 0, 0, 245, 0, [.val (.ref 320), .val (.ref 128), .val (.int p2)], [], (126, 120, L, [Y, T, HA, HB, RU, RV, ST, NS, I0, I1, I2, BO, FI, RG, GU, PU, MA, MN, MS, OT, SC], [r0, r1, r2, r3, w, r5, r6, r7, r8], Lg)) ((0, none, (126, 120, L, [Y, r.1, HA, HB, RU, r.2.1, ST, NS, I0, I1, I2, BO, FI, RG, GU, PU, MA, MN, MS, OT, SC], [r0, r1, r2, r3, r.2.2, r5, r6, r7, r8], Lg)) : AOut) := by
        intro Y T HA HB RU RV ST NS I0 I1 I2 BO FI RG GU PU MA MN MS OT SC r0 r1 r2 r3 w r5 r6 r7 r8 L Lg p2 r h
        have e := i2 d Y T HA HB RU RV ST NS I0 I1 I2 BO FI RG GU PU MA MN MS OT SC r0 r1 r2 r3 w r5 r6 r7 r8 L Lg p2 r h
        rw [show d + (6 + n) = d + n + 6 by omega] at e
        exact e
      have j3 : ∀ (Y T HA HB RU RV ST NS I0 I1 I2 BO FI RG GU PU MA MN MS OT SC : Nat → Nat → Int32) (r0 r1 r2 r3 w r5 r6 r7 r8 : Nat) (L : Nat) (Lg : Int64) (p2 : Int32) (r : (Nat → Nat → Int32) × (Nat → Nat → Int32) × Nat), f_grp_cr n 3 T RU w p2 = some r → Ev (d + n + 6, 0, 0, 248, 0, [.val (.ref 320), .val (.ref 128), .val (.int p2), .val a_unk, .val a_unk], [], (126, 120, L, [Y, T, HA, HB, RU, RV, ST, NS, I0, I1, I2, BO, FI, RG, GU, PU, MA, MN, MS, OT, SC], [r0, r1, r2, r3, w, r5, r6, r7, r8], Lg)) ((0, none, (126, 120, L, [Y, r.1, HA, HB, RU, r.2.1, ST, NS, I0, I1, I2, BO, FI, RG, GU, PU, MA, MN, MS, OT, SC], [r0, r1, r2, r3, r.2.2, r5, r6, r7, r8], Lg)) : AOut) := by
        intro Y T HA HB RU RV ST NS I0 I1 I2 BO FI RG GU PU MA MN MS OT SC r0 r1 r2 r3 w r5 r6 r7 r8 L Lg p2 r h
        have e := i3 d Y T HA HB RU RV ST NS I0 I1 I2 BO FI RG GU PU MA MN MS OT SC r0 r1 r2 r3 w r5 r6 r7 r8 L Lg p2 r h
        rw [show d + (6 + n) = d + n + 6 by omega] at e
        exact e
      have j4 : ∀ (Y T HA HB RU RV ST NS I0 I1 I2 BO FI RG GU PU MA MN MS OT SC : Nat → Nat → Int32) (r0 r1 r2 r3 w r5 r6 r7 r8 : Nat) (L : Nat) (Lg : Int64) (p2 : Int32) (r : (Nat → Nat → Int32) × (Nat → Nat → Int32) × Nat), f_grp_cr n 4 T RU w p2 = some r → Ev (d + n + 6, 0, 0, 249, 0, [.val (.ref 320), .val (.ref 128), .val (.int p2), .val a_unk], [], (126, 120, L, [Y, T, HA, HB, RU, RV, ST, NS, I0, I1, I2, BO, FI, RG, GU, PU, MA, MN, MS, OT, SC], [r0, r1, r2, r3, w, r5, r6, r7, r8], Lg)) ((0, none, (126, 120, L, [Y, r.1, HA, HB, RU, r.2.1, ST, NS, I0, I1, I2, BO, FI, RG, GU, PU, MA, MN, MS, OT, SC], [r0, r1, r2, r3, r.2.2, r5, r6, r7, r8], Lg)) : AOut) := by
        intro Y T HA HB RU RV ST NS I0 I1 I2 BO FI RG GU PU MA MN MS OT SC r0 r1 r2 r3 w r5 r6 r7 r8 L Lg p2 r h
        have e := i4 d Y T HA HB RU RV ST NS I0 I1 I2 BO FI RG GU PU MA MN MS OT SC r0 r1 r2 r3 w r5 r6 r7 r8 L Lg p2 r h
        rw [show d + (6 + n) = d + n + 6 by omega] at e
        exact e
      have j5 : ∀ (Y T HA HB RU RV ST NS I0 I1 I2 BO FI RG GU PU MA MN MS OT SC : Nat → Nat → Int32) (r0 r1 r2 r3 w r5 r6 r7 r8 : Nat) (L : Nat) (Lg : Int64) (p2 : Int32) (r : (Nat → Nat → Int32) × (Nat → Nat → Int32) × Nat), f_grp_cr n 5 T RU w p2 = some r → Ev (d + n + 6, 0, 0, 250, 0, [.val (.ref 320), .val (.ref 128), .val (.int p2), .val a_unk], [], (126, 120, L, [Y, T, HA, HB, RU, RV, ST, NS, I0, I1, I2, BO, FI, RG, GU, PU, MA, MN, MS, OT, SC], [r0, r1, r2, r3, w, r5, r6, r7, r8], Lg)) ((0, none, (126, 120, L, [Y, r.1, HA, HB, RU, r.2.1, ST, NS, I0, I1, I2, BO, FI, RG, GU, PU, MA, MN, MS, OT, SC], [r0, r1, r2, r3, r.2.2, r5, r6, r7, r8], Lg)) : AOut) := by
        intro Y T HA HB RU RV ST NS I0 I1 I2 BO FI RG GU PU MA MN MS OT SC r0 r1 r2 r3 w r5 r6 r7 r8 L Lg p2 r h
        have e := i5 d Y T HA HB RU RV ST NS I0 I1 I2 BO FI RG GU PU MA MN MS OT SC r0 r1 r2 r3 w r5 r6 r7 r8 L Lg p2 r h
        rw [show d + (6 + n) = d + n + 6 by omega] at e
        exact e
      have j6 : ∀ (Y T HA HB RU RV ST NS I0 I1 I2 BO FI RG GU PU MA MN MS OT SC : Nat → Nat → Int32) (r0 r1 r2 r3 w r5 r6 r7 r8 : Nat) (L : Nat) (Lg : Int64) (p2 : Int32) (r : (Nat → Nat → Int32) × (Nat → Nat → Int32) × Nat), f_grp_cr n 6 T RU w p2 = some r → Ev (d + n + 6, 0, 0, 247, 0, [.val (.ref 320), .val (.ref 128), .val (.int p2), .val a_unk], [], (126, 120, L, [Y, T, HA, HB, RU, RV, ST, NS, I0, I1, I2, BO, FI, RG, GU, PU, MA, MN, MS, OT, SC], [r0, r1, r2, r3, w, r5, r6, r7, r8], Lg)) ((0, none, (126, 120, L, [Y, r.1, HA, HB, RU, r.2.1, ST, NS, I0, I1, I2, BO, FI, RG, GU, PU, MA, MN, MS, OT, SC], [r0, r1, r2, r3, r.2.2, r5, r6, r7, r8], Lg)) : AOut) := by
        intro Y T HA HB RU RV ST NS I0 I1 I2 BO FI RG GU PU MA MN MS OT SC r0 r1 r2 r3 w r5 r6 r7 r8 L Lg p2 r h
        have e := i6 d Y T HA HB RU RV ST NS I0 I1 I2 BO FI RG GU PU MA MN MS OT SC r0 r1 r2 r3 w r5 r6 r7 r8 L Lg p2 r h
        rw [show d + (6 + n) = d + n + 6 by omega] at e
        exact e
      exact R_f_Rule_readOne_B_1 (d + n) (f_grp_cr n) j0 j1 j2 j3 j4 j5 j6 Y T HA HB RU RV ST NS I0 I1 I2 BO FI RG GU PU MA MN MS OT SC r0 r1 r2 r3 w r5 r6 r7 r8 L Lg p2 h
    · intro d Y T HA HB RU RV ST NS I0 I1 I2 BO FI RG GU PU MA MN MS OT SC r0 r1 r2 r3 w r5 r6 r7 r8 L Lg p2 r h
      rw [show d + (6 + (n + 1)) = d + n + 7 by omega]
      have j0 : ∀ (Y T HA HB RU RV ST NS I0 I1 I2 BO FI RG GU PU MA MN MS OT SC : Nat → Nat → Int32) (r0 r1 r2 r3 w r5 r6 r7 r8 : Nat) (L : Nat) (Lg : Int64) (p2 : Int32) (r : (Nat → Nat → Int32) × (Nat → Nat → Int32) × Nat), f_grp_cr n 0 T RU w p2 = some r → Ev (d + n + 6, 0, 0, 243, 0, [.val (.ref 320), .val (.ref 128), .val (.int p2), .val a_unk], [], (126, 120, L, [Y, T, HA, HB, RU, RV, ST, NS, I0, I1, I2, BO, FI, RG, GU, PU, MA, MN, MS, OT, SC], [r0, r1, r2, r3, w, r5, r6, r7, r8], Lg)) ((0, none, (126, 120, L, [Y, r.1, HA, HB, RU, r.2.1, ST, NS, I0, I1, I2, BO, FI, RG, GU, PU, MA, MN, MS, OT, SC], [r0, r1, r2, r3, r.2.2, r5, r6, r7, r8], Lg)) : AOut) := by
        intro Y T HA HB RU RV ST NS I0 I1 I2 BO FI RG GU PU MA MN MS OT SC r0 r1 r2 r3 w r5 r6 r7 r8 L Lg p2 r h
        have e := i0 d Y T HA HB RU RV ST NS I0 I1 I2 BO FI RG GU PU MA MN MS OT SC r0 r1 r2 r3 w r5 r6 r7 r8 L Lg p2 r h
        rw [show d + (6 + n) = d + n + 6 by omega] at e
        exact e
      have j1 : ∀ (Y T HA HB RU RV ST NS I0 I1 I2 BO FI RG GU PU MA MN MS OT SC : Nat → Nat → Int32) (r0 r1 r2 r3 w r5 r6 r7 r8 : Nat) (L : Nat) (Lg : Int64) (p2 : Int32) (r : (Nat → Nat → Int32) × (Nat → Nat → Int32) × Nat), f_grp_cr n 1 T RU w p2 = some r → Ev (d + n + 6, 0, 0, 244, 0, [.val (.ref 320), .val (.ref 128), .val (.int p2), .val a_unk], [], (126, 120, L, [Y, T, HA, HB, RU, RV, ST, NS, I0, I1, I2, BO, FI, RG, GU, PU, MA, MN, MS, OT, SC], [r0, r1, r2, r3, w, r5, r6, r7, r8], Lg)) ((0, none, (126, 120, L, [Y, r.1, HA, HB, RU, r.2.1, ST, NS, I0, I1, I2, BO, FI, RG, GU, PU, MA, MN, MS, OT, SC], [r0, r1, r2, r3, r.2.2, r5, r6, r7, r8], Lg)) : AOut) := by
        intro Y T HA HB RU RV ST NS I0 I1 I2 BO FI RG GU PU MA MN MS OT SC r0 r1 r2 r3 w r5 r6 r7 r8 L Lg p2 r h
        have e := i1 d Y T HA HB RU RV ST NS I0 I1 I2 BO FI RG GU PU MA MN MS OT SC r0 r1 r2 r3 w r5 r6 r7 r8 L Lg p2 r h
        rw [show d + (6 + n) = d + n + 6 by omega] at e
        exact e
      have j2 : ∀ (Y T HA HB RU RV ST NS I0 I1 I2 BO FI RG GU PU MA MN MS OT SC : Nat → Nat → Int32) (r0 r1 r2 r3 w r5 r6 r7 r8 : Nat) (L : Nat) (Lg : Int64) (p2 : Int32) (r : (Nat → Nat → Int32) × (Nat → Nat → Int32) × Nat), f_grp_cr n 2 T RU w p2 = some r → Ev (d + n + 6, 0, 0, 245, 0, [.val (.ref 320), .val (.ref 128), .val (.int p2)], [], (126, 120, L, [Y, T, HA, HB, RU, RV, ST, NS, I0, I1, I2, BO, FI, RG, GU, PU, MA, MN, MS, OT, SC], [r0, r1, r2, r3, w, r5, r6, r7, r8], Lg)) ((0, none, (126, 120, L, [Y, r.1, HA, HB, RU, r.2.1, ST, NS, I0, I1, I2, BO, FI, RG, GU, PU, MA, MN, MS, OT, SC], [r0, r1, r2, r3, r.2.2, r5, r6, r7, r8], Lg)) : AOut) := by
        intro Y T HA HB RU RV ST NS I0 I1 I2 BO FI RG GU PU MA MN MS OT SC r0 r1 r2 r3 w r5 r6 r7 r8 L Lg p2 r h
        have e := i2 d Y T HA HB RU RV ST NS I0 I1 I2 BO FI RG GU PU MA MN MS OT SC r0 r1 r2 r3 w r5 r6 r7 r8 L Lg p2 r h
        rw [show d + (6 + n) = d + n + 6 by omega] at e
        exact e
      have j3 : ∀ (Y T HA HB RU RV ST NS I0 I1 I2 BO FI RG GU PU MA MN MS OT SC : Nat → Nat → Int32) (r0 r1 r2 r3 w r5 r6 r7 r8 : Nat) (L : Nat) (Lg : Int64) (p2 : Int32) (r : (Nat → Nat → Int32) × (Nat → Nat → Int32) × Nat), f_grp_cr n 3 T RU w p2 = some r → Ev (d + n + 6, 0, 0, 248, 0, [.val (.ref 320), .val (.ref 128), .val (.int p2), .val a_unk, .val a_unk], [], (126, 120, L, [Y, T, HA, HB, RU, RV, ST, NS, I0, I1, I2, BO, FI, RG, GU, PU, MA, MN, MS, OT, SC], [r0, r1, r2, r3, w, r5, r6, r7, r8], Lg)) ((0, none, (126, 120, L, [Y, r.1, HA, HB, RU, r.2.1, ST, NS, I0, I1, I2, BO, FI, RG, GU, PU, MA, MN, MS, OT, SC], [r0, r1, r2, r3, r.2.2, r5, r6, r7, r8], Lg)) : AOut) := by
        intro Y T HA HB RU RV ST NS I0 I1 I2 BO FI RG GU PU MA MN MS OT SC r0 r1 r2 r3 w r5 r6 r7 r8 L Lg p2 r h
        have e := i3 d Y T HA HB RU RV ST NS I0 I1 I2 BO FI RG GU PU MA MN MS OT SC r0 r1 r2 r3 w r5 r6 r7 r8 L Lg p2 r h
        rw [show d + (6 + n) = d + n + 6 by omega] at e
        exact e
      have j4 : ∀ (Y T HA HB RU RV ST NS I0 I1 I2 BO FI RG GU PU MA MN MS OT SC : Nat → Nat → Int32) (r0 r1 r2 r3 w r5 r6 r7 r8 : Nat) (L : Nat) (Lg : Int64) (p2 : Int32) (r : (Nat → Nat → Int32) × (Nat → Nat → Int32) × Nat), f_grp_cr n 4 T RU w p2 = some r → Ev (d + n + 6, 0, 0, 249, 0, [.val (.ref 320), .val (.ref 128), .val (.int p2), .val a_unk], [], (126, 120, L, [Y, T, HA, HB, RU, RV, ST, NS, I0, I1, I2, BO, FI, RG, GU, PU, MA, MN, MS, OT, SC], [r0, r1, r2, r3, w, r5, r6, r7, r8], Lg)) ((0, none, (126, 120, L, [Y, r.1, HA, HB, RU, r.2.1, ST, NS, I0, I1, I2, BO, FI, RG, GU, PU, MA, MN, MS, OT, SC], [r0, r1, r2, r3, r.2.2, r5, r6, r7, r8], Lg)) : AOut) := by
        intro Y T HA HB RU RV ST NS I0 I1 I2 BO FI RG GU PU MA MN MS OT SC r0 r1 r2 r3 w r5 r6 r7 r8 L Lg p2 r h
        have e := i4 d Y T HA HB RU RV ST NS I0 I1 I2 BO FI RG GU PU MA MN MS OT SC r0 r1 r2 r3 w r5 r6 r7 r8 L Lg p2 r h
        rw [show d + (6 + n) = d + n + 6 by omega] at e
        exact e
      have j5 : ∀ (Y T HA HB RU RV ST NS I0 I1 I2 BO FI RG GU PU MA MN MS OT SC : Nat → Nat → Int32) (r0 r1 r2 r3 w r5 r6 r7 r8 : Nat) (L : Nat) (Lg : Int64) (p2 : Int32) (r : (Nat → Nat → Int32) × (Nat → Nat → Int32) × Nat), f_grp_cr n 5 T RU w p2 = some r → Ev (d + n + 6, 0, 0, 250, 0, [.val (.ref 320), .val (.ref 128), .val (.int p2), .val a_unk], [], (126, 120, L, [Y, T, HA, HB, RU, RV, ST, NS, I0, I1, I2, BO, FI, RG, GU, PU, MA, MN, MS, OT, SC], [r0, r1, r2, r3, w, r5, r6, r7, r8], Lg)) ((0, none, (126, 120, L, [Y, r.1, HA, HB, RU, r.2.1, ST, NS, I0, I1, I2, BO, FI, RG, GU, PU, MA, MN, MS, OT, SC], [r0, r1, r2, r3, r.2.2, r5, r6, r7, r8], Lg)) : AOut) := by
        intro Y T HA HB RU RV ST NS I0 I1 I2 BO FI RG GU PU MA MN MS OT SC r0 r1 r2 r3 w r5 r6 r7 r8 L Lg p2 r h
        have e := i5 d Y T HA HB RU RV ST NS I0 I1 I2 BO FI RG GU PU MA MN MS OT SC r0 r1 r2 r3 w r5 r6 r7 r8 L Lg p2 r h
        rw [show d + (6 + n) = d + n + 6 by omega] at e
        exact e
      have j6 : ∀ (Y T HA HB RU RV ST NS I0 I1 I2 BO FI RG GU PU MA MN MS OT SC : Nat → Nat → Int32) (r0 r1 r2 r3 w r5 r6 r7 r8 : Nat) (L : Nat) (Lg : Int64) (p2 : Int32) (r : (Nat → Nat → Int32) × (Nat → Nat → Int32) × Nat), f_grp_cr n 6 T RU w p2 = some r → Ev (d + n + 6, 0, 0, 247, 0, [.val (.ref 320), .val (.ref 128), .val (.int p2), .val a_unk], [], (126, 120, L, [Y, T, HA, HB, RU, RV, ST, NS, I0, I1, I2, BO, FI, RG, GU, PU, MA, MN, MS, OT, SC], [r0, r1, r2, r3, w, r5, r6, r7, r8], Lg)) ((0, none, (126, 120, L, [Y, r.1, HA, HB, RU, r.2.1, ST, NS, I0, I1, I2, BO, FI, RG, GU, PU, MA, MN, MS, OT, SC], [r0, r1, r2, r3, r.2.2, r5, r6, r7, r8], Lg)) : AOut) := by
        intro Y T HA HB RU RV ST NS I0 I1 I2 BO FI RG GU PU MA MN MS OT SC r0 r1 r2 r3 w r5 r6 r7 r8 L Lg p2 r h
        have e := i6 d Y T HA HB RU RV ST NS I0 I1 I2 BO FI RG GU PU MA MN MS OT SC r0 r1 r2 r3 w r5 r6 r7 r8 L Lg p2 r h
        rw [show d + (6 + n) = d + n + 6 by omega] at e
        exact e
      exact R_f_Rule_readSum_B_1 (d + n) (f_grp_cr n) j0 j1 j2 j3 j4 j5 j6 Y T HA HB RU RV ST NS I0 I1 I2 BO FI RG GU PU MA MN MS OT SC r0 r1 r2 r3 w r5 r6 r7 r8 L Lg p2 h
    · intro d Y T HA HB RU RV ST NS I0 I1 I2 BO FI RG GU PU MA MN MS OT SC r0 r1 r2 r3 w r5 r6 r7 r8 L Lg p2 r h
      rw [show d + (6 + (n + 1)) = d + n + 7 by omega]
      have j0 : ∀ (Y T HA HB RU RV ST NS I0 I1 I2 BO FI RG GU PU MA MN MS OT SC : Nat → Nat → Int32) (r0 r1 r2 r3 w r5 r6 r7 r8 : Nat) (L : Nat) (Lg : Int64) (p2 : Int32) (r : (Nat → Nat → Int32) × (Nat → Nat → Int32) × Nat), f_grp_cr n 0 T RU w p2 = some r → Ev (d + n + 6, 0, 0, 243, 0, [.val (.ref 320), .val (.ref 128), .val (.int p2), .val a_unk], [], (126, 120, L, [Y, T, HA, HB, RU, RV, ST, NS, I0, I1, I2, BO, FI, RG, GU, PU, MA, MN, MS, OT, SC], [r0, r1, r2, r3, w, r5, r6, r7, r8], Lg)) ((0, none, (126, 120, L, [Y, r.1, HA, HB, RU, r.2.1, ST, NS, I0, I1, I2, BO, FI, RG, GU, PU, MA, MN, MS, OT, SC], [r0, r1, r2, r3, r.2.2, r5, r6, r7, r8], Lg)) : AOut) := by
        intro Y T HA HB RU RV ST NS I0 I1 I2 BO FI RG GU PU MA MN MS OT SC r0 r1 r2 r3 w r5 r6 r7 r8 L Lg p2 r h
        have e := i0 d Y T HA HB RU RV ST NS I0 I1 I2 BO FI RG GU PU MA MN MS OT SC r0 r1 r2 r3 w r5 r6 r7 r8 L Lg p2 r h
        rw [show d + (6 + n) = d + n + 6 by omega] at e
        exact e
      have j1 : ∀ (Y T HA HB RU RV ST NS I0 I1 I2 BO FI RG GU PU MA MN MS OT SC : Nat → Nat → Int32) (r0 r1 r2 r3 w r5 r6 r7 r8 : Nat) (L : Nat) (Lg : Int64) (p2 : Int32) (r : (Nat → Nat → Int32) × (Nat → Nat → Int32) × Nat), f_grp_cr n 1 T RU w p2 = some r → Ev (d + n + 6, 0, 0, 244, 0, [.val (.ref 320), .val (.ref 128), .val (.int p2), .val a_unk], [], (126, 120, L, [Y, T, HA, HB, RU, RV, ST, NS, I0, I1, I2, BO, FI, RG, GU, PU, MA, MN, MS, OT, SC], [r0, r1, r2, r3, w, r5, r6, r7, r8], Lg)) ((0, none, (126, 120, L, [Y, r.1, HA, HB, RU, r.2.1, ST, NS, I0, I1, I2, BO, FI, RG, GU, PU, MA, MN, MS, OT, SC], [r0, r1, r2, r3, r.2.2, r5, r6, r7, r8], Lg)) : AOut) := by
        intro Y T HA HB RU RV ST NS I0 I1 I2 BO FI RG GU PU MA MN MS OT SC r0 r1 r2 r3 w r5 r6 r7 r8 L Lg p2 r h
        have e := i1 d Y T HA HB RU RV ST NS I0 I1 I2 BO FI RG GU PU MA MN MS OT SC r0 r1 r2 r3 w r5 r6 r7 r8 L Lg p2 r h
        rw [show d + (6 + n) = d + n + 6 by omega] at e
        exact e
      have j2 : ∀ (Y T HA HB RU RV ST NS I0 I1 I2 BO FI RG GU PU MA MN MS OT SC : Nat → Nat → Int32) (r0 r1 r2 r3 w r5 r6 r7 r8 : Nat) (L : Nat) (Lg : Int64) (p2 : Int32) (r : (Nat → Nat → Int32) × (Nat → Nat → Int32) × Nat), f_grp_cr n 2 T RU w p2 = some r → Ev (d + n + 6, 0, 0, 245, 0, [.val (.ref 320), .val (.ref 128), .val (.int p2)], [], (126, 120, L, [Y, T, HA, HB, RU, RV, ST, NS, I0, I1, I2, BO, FI, RG, GU, PU, MA, MN, MS, OT, SC], [r0, r1, r2, r3, w, r5, r6, r7, r8], Lg)) ((0, none, (126, 120, L, [Y, r.1, HA, HB, RU, r.2.1, ST, NS, I0, I1, I2, BO, FI, RG, GU, PU, MA, MN, MS, OT, SC], [r0, r1, r2, r3, r.2.2, r5, r6, r7, r8], Lg)) : AOut) := by
        intro Y T HA HB RU RV ST NS I0 I1 I2 BO FI RG GU PU MA MN MS OT SC r0 r1 r2 r3 w r5 r6 r7 r8 L Lg p2 r h
        have e := i2 d Y T HA HB RU RV ST NS I0 I1 I2 BO FI RG GU PU MA MN MS OT SC r0 r1 r2 r3 w r5 r6 r7 r8 L Lg p2 r h
        rw [show d + (6 + n) = d + n + 6 by omega] at e
        exact e
      have j3 : ∀ (Y T HA HB RU RV ST NS I0 I1 I2 BO FI RG GU PU MA MN MS OT SC : Nat → Nat → Int32) (r0 r1 r2 r3 w r5 r6 r7 r8 : Nat) (L : Nat) (Lg : Int64) (p2 : Int32) (r : (Nat → Nat → Int32) × (Nat → Nat → Int32) × Nat), f_grp_cr n 3 T RU w p2 = some r → Ev (d + n + 6, 0, 0, 248, 0, [.val (.ref 320), .val (.ref 128), .val (.int p2), .val a_unk, .val a_unk], [], (126, 120, L, [Y, T, HA, HB, RU, RV, ST, NS, I0, I1, I2, BO, FI, RG, GU, PU, MA, MN, MS, OT, SC], [r0, r1, r2, r3, w, r5, r6, r7, r8], Lg)) ((0, none, (126, 120, L, [Y, r.1, HA, HB, RU, r.2.1, ST, NS, I0, I1, I2, BO, FI, RG, GU, PU, MA, MN, MS, OT, SC], [r0, r1, r2, r3, r.2.2, r5, r6, r7, r8], Lg)) : AOut) := by
        intro Y T HA HB RU RV ST NS I0 I1 I2 BO FI RG GU PU MA MN MS OT SC r0 r1 r2 r3 w r5 r6 r7 r8 L Lg p2 r h
        have e := i3 d Y T HA HB RU RV ST NS I0 I1 I2 BO FI RG GU PU MA MN MS OT SC r0 r1 r2 r3 w r5 r6 r7 r8 L Lg p2 r h
        rw [show d + (6 + n) = d + n + 6 by omega] at e
        exact e
      have j4 : ∀ (Y T HA HB RU RV ST NS I0 I1 I2 BO FI RG GU PU MA MN MS OT SC : Nat → Nat → Int32) (r0 r1 r2 r3 w r5 r6 r7 r8 : Nat) (L : Nat) (Lg : Int64) (p2 : Int32) (r : (Nat → Nat → Int32) × (Nat → Nat → Int32) × Nat), f_grp_cr n 4 T RU w p2 = some r → Ev (d + n + 6, 0, 0, 249, 0, [.val (.ref 320), .val (.ref 128), .val (.int p2), .val a_unk], [], (126, 120, L, [Y, T, HA, HB, RU, RV, ST, NS, I0, I1, I2, BO, FI, RG, GU, PU, MA, MN, MS, OT, SC], [r0, r1, r2, r3, w, r5, r6, r7, r8], Lg)) ((0, none, (126, 120, L, [Y, r.1, HA, HB, RU, r.2.1, ST, NS, I0, I1, I2, BO, FI, RG, GU, PU, MA, MN, MS, OT, SC], [r0, r1, r2, r3, r.2.2, r5, r6, r7, r8], Lg)) : AOut) := by
        intro Y T HA HB RU RV ST NS I0 I1 I2 BO FI RG GU PU MA MN MS OT SC r0 r1 r2 r3 w r5 r6 r7 r8 L Lg p2 r h
        have e := i4 d Y T HA HB RU RV ST NS I0 I1 I2 BO FI RG GU PU MA MN MS OT SC r0 r1 r2 r3 w r5 r6 r7 r8 L Lg p2 r h
        rw [show d + (6 + n) = d + n + 6 by omega] at e
        exact e
      have j5 : ∀ (Y T HA HB RU RV ST NS I0 I1 I2 BO FI RG GU PU MA MN MS OT SC : Nat → Nat → Int32) (r0 r1 r2 r3 w r5 r6 r7 r8 : Nat) (L : Nat) (Lg : Int64) (p2 : Int32) (r : (Nat → Nat → Int32) × (Nat → Nat → Int32) × Nat), f_grp_cr n 5 T RU w p2 = some r → Ev (d + n + 6, 0, 0, 250, 0, [.val (.ref 320), .val (.ref 128), .val (.int p2), .val a_unk], [], (126, 120, L, [Y, T, HA, HB, RU, RV, ST, NS, I0, I1, I2, BO, FI, RG, GU, PU, MA, MN, MS, OT, SC], [r0, r1, r2, r3, w, r5, r6, r7, r8], Lg)) ((0, none, (126, 120, L, [Y, r.1, HA, HB, RU, r.2.1, ST, NS, I0, I1, I2, BO, FI, RG, GU, PU, MA, MN, MS, OT, SC], [r0, r1, r2, r3, r.2.2, r5, r6, r7, r8], Lg)) : AOut) := by
        intro Y T HA HB RU RV ST NS I0 I1 I2 BO FI RG GU PU MA MN MS OT SC r0 r1 r2 r3 w r5 r6 r7 r8 L Lg p2 r h
        have e := i5 d Y T HA HB RU RV ST NS I0 I1 I2 BO FI RG GU PU MA MN MS OT SC r0 r1 r2 r3 w r5 r6 r7 r8 L Lg p2 r h
        rw [show d + (6 + n) = d + n + 6 by omega] at e
        exact e
      have j6 : ∀ (Y T HA HB RU RV ST NS I0 I1 I2 BO FI RG GU PU MA MN MS OT SC : Nat → Nat → Int32) (r0 r1 r2 r3 w r5 r6 r7 r8 : Nat) (L : Nat) (Lg : Int64) (p2 : Int32) (r : (Nat → Nat → Int32) × (Nat → Nat → Int32) × Nat), f_grp_cr n 6 T RU w p2 = some r → Ev (d + n + 6, 0, 0, 247, 0, [.val (.ref 320), .val (.ref 128), .val (.int p2), .val a_unk], [], (126, 120, L, [Y, T, HA, HB, RU, RV, ST, NS, I0, I1, I2, BO, FI, RG, GU, PU, MA, MN, MS, OT, SC], [r0, r1, r2, r3, w, r5, r6, r7, r8], Lg)) ((0, none, (126, 120, L, [Y, r.1, HA, HB, RU, r.2.1, ST, NS, I0, I1, I2, BO, FI, RG, GU, PU, MA, MN, MS, OT, SC], [r0, r1, r2, r3, r.2.2, r5, r6, r7, r8], Lg)) : AOut) := by
        intro Y T HA HB RU RV ST NS I0 I1 I2 BO FI RG GU PU MA MN MS OT SC r0 r1 r2 r3 w r5 r6 r7 r8 L Lg p2 r h
        have e := i6 d Y T HA HB RU RV ST NS I0 I1 I2 BO FI RG GU PU MA MN MS OT SC r0 r1 r2 r3 w r5 r6 r7 r8 L Lg p2 r h
        rw [show d + (6 + n) = d + n + 6 by omega] at e
        exact e
      exact R_f_Rule_readProduct_B_1 (d + n) (f_grp_cr n) j0 j1 j2 j3 j4 j5 j6 Y T HA HB RU RV ST NS I0 I1 I2 BO FI RG GU PU MA MN MS OT SC r0 r1 r2 r3 w r5 r6 r7 r8 L Lg p2 h
    · intro d Y T HA HB RU RV ST NS I0 I1 I2 BO FI RG GU PU MA MN MS OT SC r0 r1 r2 r3 w r5 r6 r7 r8 L Lg p2 r h
      rw [show d + (6 + (n + 1)) = d + n + 7 by omega]
      have j0 : ∀ (Y T HA HB RU RV ST NS I0 I1 I2 BO FI RG GU PU MA MN MS OT SC : Nat → Nat → Int32) (r0 r1 r2 r3 w r5 r6 r7 r8 : Nat) (L : Nat) (Lg : Int64) (p2 : Int32) (r : (Nat → Nat → Int32) × (Nat → Nat → Int32) × Nat), f_grp_cr n 0 T RU w p2 = some r → Ev (d + n + 6, 0, 0, 243, 0, [.val (.ref 320), .val (.ref 128), .val (.int p2), .val a_unk], [], (126, 120, L, [Y, T, HA, HB, RU, RV, ST, NS, I0, I1, I2, BO, FI, RG, GU, PU, MA, MN, MS, OT, SC], [r0, r1, r2, r3, w, r5, r6, r7, r8], Lg)) ((0, none, (126, 120, L, [Y, r.1, HA, HB, RU, r.2.1, ST, NS, I0, I1, I2, BO, FI, RG, GU, PU, MA, MN, MS, OT, SC], [r0, r1, r2, r3, r.2.2, r5, r6, r7, r8], Lg)) : AOut) := by
        intro Y T HA HB RU RV ST NS I0 I1 I2 BO FI RG GU PU MA MN MS OT SC r0 r1 r2 r3 w r5 r6 r7 r8 L Lg p2 r h
        have e := i0 d Y T HA HB RU RV ST NS I0 I1 I2 BO FI RG GU PU MA MN MS OT SC r0 r1 r2 r3 w r5 r6 r7 r8 L Lg p2 r h
        rw [show d + (6 + n) = d + n + 6 by omega] at e
        exact e
      have j1 : ∀ (Y T HA HB RU RV ST NS I0 I1 I2 BO FI RG GU PU MA MN MS OT SC : Nat → Nat → Int32) (r0 r1 r2 r3 w r5 r6 r7 r8 : Nat) (L : Nat) (Lg : Int64) (p2 : Int32) (r : (Nat → Nat → Int32) × (Nat → Nat → Int32) × Nat), f_grp_cr n 1 T RU w p2 = some r → Ev (d + n + 6, 0, 0, 244, 0, [.val (.ref 320), .val (.ref 128), .val (.int p2), .val a_unk], [], (126, 120, L, [Y, T, HA, HB, RU, RV, ST, NS, I0, I1, I2, BO, FI, RG, GU, PU, MA, MN, MS, OT, SC], [r0, r1, r2, r3, w, r5, r6, r7, r8], Lg)) ((0, none, (126, 120, L, [Y, r.1, HA, HB, RU, r.2.1, ST, NS, I0, I1, I2, BO, FI, RG, GU, PU, MA, MN, MS, OT, SC], [r0, r1, r2, r3, r.2.2, r5, r6, r7, r8], Lg)) : AOut) := by
        intro Y T HA HB RU RV ST NS I0 I1 I2 BO FI RG GU PU MA MN MS OT SC r0 r1 r2 r3 w r5 r6 r7 r8 L Lg p2 r h
        have e := i1 d Y T HA HB RU RV ST NS I0 I1 I2 BO FI RG GU PU MA MN MS OT SC r0 r1 r2 r3 w r5 r6 r7 r8 L Lg p2 r h
        rw [show d + (6 + n) = d + n + 6 by omega] at e
        exact e
      have j2 : ∀ (Y T HA HB RU RV ST NS I0 I1 I2 BO FI RG GU PU MA MN MS OT SC : Nat → Nat → Int32) (r0 r1 r2 r3 w r5 r6 r7 r8 : Nat) (L : Nat) (Lg : Int64) (p2 : Int32) (r : (Nat → Nat → Int32) × (Nat → Nat → Int32) × Nat), f_grp_cr n 2 T RU w p2 = some r → Ev (d + n + 6, 0, 0, 245, 0, [.val (.ref 320), .val (.ref 128), .val (.int p2)], [], (126, 120, L, [Y, T, HA, HB, RU, RV, ST, NS, I0, I1, I2, BO, FI, RG, GU, PU, MA, MN, MS, OT, SC], [r0, r1, r2, r3, w, r5, r6, r7, r8], Lg)) ((0, none, (126, 120, L, [Y, r.1, HA, HB, RU, r.2.1, ST, NS, I0, I1, I2, BO, FI, RG, GU, PU, MA, MN, MS, OT, SC], [r0, r1, r2, r3, r.2.2, r5, r6, r7, r8], Lg)) : AOut) := by
        intro Y T HA HB RU RV ST NS I0 I1 I2 BO FI RG GU PU MA MN MS OT SC r0 r1 r2 r3 w r5 r6 r7 r8 L Lg p2 r h
        have e := i2 d Y T HA HB RU RV ST NS I0 I1 I2 BO FI RG GU PU MA MN MS OT SC r0 r1 r2 r3 w r5 r6 r7 r8 L Lg p2 r h
        rw [show d + (6 + n) = d + n + 6 by omega] at e
        exact e
      have j3 : ∀ (Y T HA HB RU RV ST NS I0 I1 I2 BO FI RG GU PU MA MN MS OT SC : Nat → Nat → Int32) (r0 r1 r2 r3 w r5 r6 r7 r8 : Nat) (L : Nat) (Lg : Int64) (p2 : Int32) (r : (Nat → Nat → Int32) × (Nat → Nat → Int32) × Nat), f_grp_cr n 3 T RU w p2 = some r → Ev (d + n + 6, 0, 0, 248, 0, [.val (.ref 320), .val (.ref 128), .val (.int p2), .val a_unk, .val a_unk], [], (126, 120, L, [Y, T, HA, HB, RU, RV, ST, NS, I0, I1, I2, BO, FI, RG, GU, PU, MA, MN, MS, OT, SC], [r0, r1, r2, r3, w, r5, r6, r7, r8], Lg)) ((0, none, (126, 120, L, [Y, r.1, HA, HB, RU, r.2.1, ST, NS, I0, I1, I2, BO, FI, RG, GU, PU, MA, MN, MS, OT, SC], [r0, r1, r2, r3, r.2.2, r5, r6, r7, r8], Lg)) : AOut) := by
        intro Y T HA HB RU RV ST NS I0 I1 I2 BO FI RG GU PU MA MN MS OT SC r0 r1 r2 r3 w r5 r6 r7 r8 L Lg p2 r h
        have e := i3 d Y T HA HB RU RV ST NS I0 I1 I2 BO FI RG GU PU MA MN MS OT SC r0 r1 r2 r3 w r5 r6 r7 r8 L Lg p2 r h
        rw [show d + (6 + n) = d + n + 6 by omega] at e
        exact e
      have j4 : ∀ (Y T HA HB RU RV ST NS I0 I1 I2 BO FI RG GU PU MA MN MS OT SC : Nat → Nat → Int32) (r0 r1 r2 r3 w r5 r6 r7 r8 : Nat) (L : Nat) (Lg : Int64) (p2 : Int32) (r : (Nat → Nat → Int32) × (Nat → Nat → Int32) × Nat), f_grp_cr n 4 T RU w p2 = some r → Ev (d + n + 6, 0, 0, 249, 0, [.val (.ref 320), .val (.ref 128), .val (.int p2), .val a_unk], [], (126, 120, L, [Y, T, HA, HB, RU, RV, ST, NS, I0, I1, I2, BO, FI, RG, GU, PU, MA, MN, MS, OT, SC], [r0, r1, r2, r3, w, r5, r6, r7, r8], Lg)) ((0, none, (126, 120, L, [Y, r.1, HA, HB, RU, r.2.1, ST, NS, I0, I1, I2, BO, FI, RG, GU, PU, MA, MN, MS, OT, SC], [r0, r1, r2, r3, r.2.2, r5, r6, r7, r8], Lg)) : AOut) := by
        intro Y T HA HB RU RV ST NS I0 I1 I2 BO FI RG GU PU MA MN MS OT SC r0 r1 r2 r3 w r5 r6 r7 r8 L Lg p2 r h
        have e := i4 d Y T HA HB RU RV ST NS I0 I1 I2 BO FI RG GU PU MA MN MS OT SC r0 r1 r2 r3 w r5 r6 r7 r8 L Lg p2 r h
        rw [show d + (6 + n) = d + n + 6 by omega] at e
        exact e
      have j5 : ∀ (Y T HA HB RU RV ST NS I0 I1 I2 BO FI RG GU PU MA MN MS OT SC : Nat → Nat → Int32) (r0 r1 r2 r3 w r5 r6 r7 r8 : Nat) (L : Nat) (Lg : Int64) (p2 : Int32) (r : (Nat → Nat → Int32) × (Nat → Nat → Int32) × Nat), f_grp_cr n 5 T RU w p2 = some r → Ev (d + n + 6, 0, 0, 250, 0, [.val (.ref 320), .val (.ref 128), .val (.int p2), .val a_unk], [], (126, 120, L, [Y, T, HA, HB, RU, RV, ST, NS, I0, I1, I2, BO, FI, RG, GU, PU, MA, MN, MS, OT, SC], [r0, r1, r2, r3, w, r5, r6, r7, r8], Lg)) ((0, none, (126, 120, L, [Y, r.1, HA, HB, RU, r.2.1, ST, NS, I0, I1, I2, BO, FI, RG, GU, PU, MA, MN, MS, OT, SC], [r0, r1, r2, r3, r.2.2, r5, r6, r7, r8], Lg)) : AOut) := by
        intro Y T HA HB RU RV ST NS I0 I1 I2 BO FI RG GU PU MA MN MS OT SC r0 r1 r2 r3 w r5 r6 r7 r8 L Lg p2 r h
        have e := i5 d Y T HA HB RU RV ST NS I0 I1 I2 BO FI RG GU PU MA MN MS OT SC r0 r1 r2 r3 w r5 r6 r7 r8 L Lg p2 r h
        rw [show d + (6 + n) = d + n + 6 by omega] at e
        exact e
      have j6 : ∀ (Y T HA HB RU RV ST NS I0 I1 I2 BO FI RG GU PU MA MN MS OT SC : Nat → Nat → Int32) (r0 r1 r2 r3 w r5 r6 r7 r8 : Nat) (L : Nat) (Lg : Int64) (p2 : Int32) (r : (Nat → Nat → Int32) × (Nat → Nat → Int32) × Nat), f_grp_cr n 6 T RU w p2 = some r → Ev (d + n + 6, 0, 0, 247, 0, [.val (.ref 320), .val (.ref 128), .val (.int p2), .val a_unk], [], (126, 120, L, [Y, T, HA, HB, RU, RV, ST, NS, I0, I1, I2, BO, FI, RG, GU, PU, MA, MN, MS, OT, SC], [r0, r1, r2, r3, w, r5, r6, r7, r8], Lg)) ((0, none, (126, 120, L, [Y, r.1, HA, HB, RU, r.2.1, ST, NS, I0, I1, I2, BO, FI, RG, GU, PU, MA, MN, MS, OT, SC], [r0, r1, r2, r3, r.2.2, r5, r6, r7, r8], Lg)) : AOut) := by
        intro Y T HA HB RU RV ST NS I0 I1 I2 BO FI RG GU PU MA MN MS OT SC r0 r1 r2 r3 w r5 r6 r7 r8 L Lg p2 r h
        have e := i6 d Y T HA HB RU RV ST NS I0 I1 I2 BO FI RG GU PU MA MN MS OT SC r0 r1 r2 r3 w r5 r6 r7 r8 L Lg p2 r h
        rw [show d + (6 + n) = d + n + 6 by omega] at e
        exact e
      exact R_f_Rule_readUnit_B_1 (d + n) (f_grp_cr n) j0 j1 j2 j3 j4 j5 j6 Y T HA HB RU RV ST NS I0 I1 I2 BO FI RG GU PU MA MN MS OT SC r0 r1 r2 r3 w r5 r6 r7 r8 L Lg p2 h
    · intro d Y T HA HB RU RV ST NS I0 I1 I2 BO FI RG GU PU MA MN MS OT SC r0 r1 r2 r3 w r5 r6 r7 r8 L Lg p2 r h
      rw [show d + (6 + (n + 1)) = d + n + 7 by omega]
      have j0 : ∀ (Y T HA HB RU RV ST NS I0 I1 I2 BO FI RG GU PU MA MN MS OT SC : Nat → Nat → Int32) (r0 r1 r2 r3 w r5 r6 r7 r8 : Nat) (L : Nat) (Lg : Int64) (p2 : Int32) (r : (Nat → Nat → Int32) × (Nat → Nat → Int32) × Nat), f_grp_cr n 0 T RU w p2 = some r → Ev (d + n + 6, 0, 0, 243, 0, [.val (.ref 320), .val (.ref 128), .val (.int p2), .val a_unk], [], (126, 120, L, [Y, T, HA, HB, RU, RV, ST, NS, I0, I1, I2, BO, FI, RG, GU, PU, MA, MN, MS, OT, SC], [r0, r1, r2, r3, w, r5, r6, r7, r8], Lg)) ((0, none, (126, 120, L, [Y, r.1, HA, HB, RU, r.2.1, ST, NS, I0, I1, I2, BO, FI, RG, GU, PU, MA, MN, MS, OT, SC], [r0, r1, r2, r3, r.2.2, r5, r6, r7, r8], Lg)) : AOut) := by
        intro Y T HA HB RU RV ST NS I0 I1 I2 BO FI RG GU PU MA MN MS OT SC r0 r1 r2 r3 w r5 r6 r7 r8 L Lg p2 r h
        have e := i0 d Y T HA HB RU RV ST NS I0 I1 I2 BO FI RG GU PU MA MN MS OT SC r0 r1 r2 r3 w r5 r6 r7 r8 L Lg p2 r h
        rw [show d + (6 + n) = d + n + 6 by omega] at e
        exact e
      have j1 : ∀ (Y T HA HB RU RV ST NS I0 I1 I2 BO FI RG GU PU MA MN MS OT SC : Nat → Nat → Int32) (r0 r1 r2 r3 w r5 r6 r7 r8 : Nat) (L : Nat) (Lg : Int64) (p2 : Int32) (r : (Nat → Nat → Int32) × (Nat → Nat → Int32) × Nat), f_grp_cr n 1 T RU w p2 = some r → Ev (d + n + 6, 0, 0, 244, 0, [.val (.ref 320), .val (.ref 128), .val (.int p2), .val a_unk], [], (126, 120, L, [Y, T, HA, HB, RU, RV, ST, NS, I0, I1, I2, BO, FI, RG, GU, PU, MA, MN, MS, OT, SC], [r0, r1, r2, r3, w, r5, r6, r7, r8], Lg)) ((0, none, (126, 120, L, [Y, r.1, HA, HB, RU, r.2.1, ST, NS, I0, I1, I2, BO, FI, RG, GU, PU, MA, MN, MS, OT, SC], [r0, r1, r2, r3, r.2.2, r5, r6, r7, r8], Lg)) : AOut) := by
        intro Y T HA HB RU RV ST NS I0 I1 I2 BO FI RG GU PU MA MN MS OT SC r0 r1 r2 r3 w r5 r6 r7 r8 L Lg p2 r h
        have e := i1 d Y T HA HB RU RV ST NS I0 I1 I2 BO FI RG GU PU MA MN MS OT SC r0 r1 r2 r3 w r5 r6 r7 r8 L Lg p2 r h
        rw [show d + (6 + n) = d + n + 6 by omega] at e
        exact e
      have j2 : ∀ (Y T HA HB RU RV ST NS I0 I1 I2 BO FI RG GU PU MA MN MS OT SC : Nat → Nat → Int32) (r0 r1 r2 r3 w r5 r6 r7 r8 : Nat) (L : Nat) (Lg : Int64) (p2 : Int32) (r : (Nat → Nat → Int32) × (Nat → Nat → Int32) × Nat), f_grp_cr n 2 T RU w p2 = some r → Ev (d + n + 6, 0, 0, 245, 0, [.val (.ref 320), .val (.ref 128), .val (.int p2)], [], (126, 120, L, [Y, T, HA, HB, RU, RV, ST, NS, I0, I1, I2, BO, FI, RG, GU, PU, MA, MN, MS, OT, SC], [r0, r1, r2, r3, w, r5, r6, r7, r8], Lg)) ((0, none, (126, 120, L, [Y, r.1, HA, HB, RU, r.2.1, ST, NS, I0, I1, I2, BO, FI, RG, GU, PU, MA, MN, MS, OT, SC], [r0, r1, r2, r3, r.2.2, r5, r6, r7, r8], Lg)) : AOut) := by
        intro Y T HA HB RU RV ST NS I0 I1 I2 BO FI RG GU PU MA MN MS OT SC r0 r1 r2 r3 w r5 r6 r7 r8 L Lg p2 r h
        have e := i2 d Y T HA HB RU RV ST NS I0 I1 I2 BO FI RG GU PU MA MN MS OT SC r0 r1 r2 r3 w r5 r6 r7 r8 L Lg p2 r h
        rw [show d + (6 + n) = d + n + 6 by omega] at e
        exact e
      have j3 : ∀ (Y T HA HB RU RV ST NS I0 I1 I2 BO FI RG GU PU MA MN MS OT SC : Nat → Nat → Int32) (r0 r1 r2 r3 w r5 r6 r7 r8 : Nat) (L : Nat) (Lg : Int64) (p2 : Int32) (r : (Nat → Nat → Int32) × (Nat → Nat → Int32) × Nat), f_grp_cr n 3 T RU w p2 = some r → Ev (d + n + 6, 0, 0, 248, 0, [.val (.ref 320), .val (.ref 128), .val (.int p2), .val a_unk, .val a_unk], [], (126, 120, L, [Y, T, HA, HB, RU, RV, ST, NS, I0, I1, I2, BO, FI, RG, GU, PU, MA, MN, MS, OT, SC], [r0, r1, r2, r3, w, r5, r6, r7, r8], Lg)) ((0, none, (126, 120, L, [Y, r.1, HA, HB, RU, r.2.1, ST, NS, I0, I1, I2, BO, FI, RG, GU, PU, MA, MN, MS, OT, SC], [r0, r1, r2, r3, r.2.2, r5, r6, r7, r8], Lg)) : AOut) := by
        intro Y T HA HB RU RV ST NS I0 I1 I2 BO FI RG GU PU MA MN MS OT SC r0 r1 r2 r3 w r5 r6 r7 r8 L Lg p2 r h
        have e := i3 d Y T HA HB RU RV ST NS I0 I1 I2 BO FI RG GU PU MA MN MS OT SC r0 r1 r2 r3 w r5 r6 r7 r8 L Lg p2 r h
        rw [show d + (6 + n) = d + n + 6 by omega] at e
        exact e
      have j4 : ∀ (Y T HA HB RU RV ST NS I0 I1 I2 BO FI RG GU PU MA MN MS OT SC : Nat → Nat → Int32) (r0 r1 r2 r3 w r5 r6 r7 r8 : Nat) (L : Nat) (Lg : Int64) (p2 : Int32) (r : (Nat → Nat → Int32) × (Nat → Nat → Int32) × Nat), f_grp_cr n 4 T RU w p2 = some r → Ev (d + n + 6, 0, 0, 249, 0, [.val (.ref 320), .val (.ref 128), .val (.int p2), .val a_unk], [], (126, 120, L, [Y, T, HA, HB, RU, RV, ST, NS, I0, I1, I2, BO, FI, RG, GU, PU, MA, MN, MS, OT, SC], [r0, r1, r2, r3, w, r5, r6, r7, r8], Lg)) ((0, none, (126, 120, L, [Y, r.1, HA, HB, RU, r.2.1, ST, NS, I0, I1, I2, BO, FI, RG, GU, PU, MA, MN, MS, OT, SC], [r0, r1, r2, r3, r.2.2, r5, r6, r7, r8], Lg)) : AOut) := by
        intro Y T HA HB RU RV ST NS I0 I1 I2 BO FI RG GU PU MA MN MS OT SC r0 r1 r2 r3 w r5 r6 r7 r8 L Lg p2 r h
        have e := i4 d Y T HA HB RU RV ST NS I0 I1 I2 BO FI RG GU PU MA MN MS OT SC r0 r1 r2 r3 w r5 r6 r7 r8 L Lg p2 r h
        rw [show d + (6 + n) = d + n + 6 by omega] at e
        exact e
      have j5 : ∀ (Y T HA HB RU RV ST NS I0 I1 I2 BO FI RG GU PU MA MN MS OT SC : Nat → Nat → Int32) (r0 r1 r2 r3 w r5 r6 r7 r8 : Nat) (L : Nat) (Lg : Int64) (p2 : Int32) (r : (Nat → Nat → Int32) × (Nat → Nat → Int32) × Nat), f_grp_cr n 5 T RU w p2 = some r → Ev (d + n + 6, 0, 0, 250, 0, [.val (.ref 320), .val (.ref 128), .val (.int p2), .val a_unk], [], (126, 120, L, [Y, T, HA, HB, RU, RV, ST, NS, I0, I1, I2, BO, FI, RG, GU, PU, MA, MN, MS, OT, SC], [r0, r1, r2, r3, w, r5, r6, r7, r8], Lg)) ((0, none, (126, 120, L, [Y, r.1, HA, HB, RU, r.2.1, ST, NS, I0, I1, I2, BO, FI, RG, GU, PU, MA, MN, MS, OT, SC], [r0, r1, r2, r3, r.2.2, r5, r6, r7, r8], Lg)) : AOut) := by
        intro Y T HA HB RU RV ST NS I0 I1 I2 BO FI RG GU PU MA MN MS OT SC r0 r1 r2 r3 w r5 r6 r7 r8 L Lg p2 r h
        have e := i5 d Y T HA HB RU RV ST NS I0 I1 I2 BO FI RG GU PU MA MN MS OT SC r0 r1 r2 r3 w r5 r6 r7 r8 L Lg p2 r h
        rw [show d + (6 + n) = d + n + 6 by omega] at e
        exact e
      have j6 : ∀ (Y T HA HB RU RV ST NS I0 I1 I2 BO FI RG GU PU MA MN MS OT SC : Nat → Nat → Int32) (r0 r1 r2 r3 w r5 r6 r7 r8 : Nat) (L : Nat) (Lg : Int64) (p2 : Int32) (r : (Nat → Nat → Int32) × (Nat → Nat → Int32) × Nat), f_grp_cr n 6 T RU w p2 = some r → Ev (d + n + 6, 0, 0, 247, 0, [.val (.ref 320), .val (.ref 128), .val (.int p2), .val a_unk], [], (126, 120, L, [Y, T, HA, HB, RU, RV, ST, NS, I0, I1, I2, BO, FI, RG, GU, PU, MA, MN, MS, OT, SC], [r0, r1, r2, r3, w, r5, r6, r7, r8], Lg)) ((0, none, (126, 120, L, [Y, r.1, HA, HB, RU, r.2.1, ST, NS, I0, I1, I2, BO, FI, RG, GU, PU, MA, MN, MS, OT, SC], [r0, r1, r2, r3, r.2.2, r5, r6, r7, r8], Lg)) : AOut) := by
        intro Y T HA HB RU RV ST NS I0 I1 I2 BO FI RG GU PU MA MN MS OT SC r0 r1 r2 r3 w r5 r6 r7 r8 L Lg p2 r h
        have e := i6 d Y T HA HB RU RV ST NS I0 I1 I2 BO FI RG GU PU MA MN MS OT SC r0 r1 r2 r3 w r5 r6 r7 r8 L Lg p2 r h
        rw [show d + (6 + n) = d + n + 6 by omega] at e
        exact e
      exact R_f_Rule_readComparison_B_1 (d + n) (f_grp_cr n) j0 j1 j2 j3 j4 j5 j6 Y T HA HB RU RV ST NS I0 I1 I2 BO FI RG GU PU MA MN MS OT SC r0 r1 r2 r3 w r5 r6 r7 r8 L Lg p2 h

set_option maxRecDepth 1000000 in
set_option maxHeartbeats 4000000 in
theorem R_f_Rule_read_1 (d : Nat) (Y T HA HB RU RV ST NS I0 I1 I2 BO FI RG GU PU MA MN MS OT SC : Nat → Nat → Int32) (r0 r1 r2 r3 w r5 r6 r7 r8 : Nat) (L : Nat) (Lg : Int64) {r : (Nat → Nat → Int32) × (Nat → Nat → Int32) × Nat} (h : f_Rule_read T RU w = some r) : Ev (d + 47, 0, 0, 241, 0, [.val (.ref 320), .val (.ref 128)], [], (126, 120, L, [Y, T, HA, HB, RU, RV, ST, NS, I0, I1, I2, BO, FI, RG, GU, PU, MA, MN, MS, OT, SC], [r0, r1, r2, r3, w, r5, r6, r7, r8], Lg)) ((0, none, (126, 120, L, [Y, r.1, HA, HB, r.2.1, RV, ST, NS, I0, I1, I2, BO, FI, RG, GU, PU, MA, MN, MS, OT, SC], [r0, r1, r2, r3, r.2.2, r5, r6, r7, r8], Lg)) : AOut) := by
  suffices key : ∀ o : AOut, ((0, none, (126, 120, L, [Y, r.1, HA, HB, r.2.1, RV, ST, NS, I0, I1, I2, BO, FI, RG, GU, PU, MA, MN, MS, OT, SC], [r0, r1, r2, r3, r.2.2, r5, r6, r7, r8], Lg)) : AOut) = o → Ev (d + 47, 0, 0, 241, 0, [.val (.ref 320), .val (.ref 128)], [], (126, 120, L, [Y, T, HA, HB, RU, RV, ST, NS, I0, I1, I2, BO, FI, RG, GU, PU, MA, MN, MS, OT, SC], [r0, r1, r2, r3, w, r5, r6, r7, r8], Lg)) o from key _ rfl
  intro o ho
  obtain ⟨RU_1, zh1, h⟩ := bnd h
  have zh1 : f_Rule_forget RU = some RU_1 := zh1
  have ze2 := R_f_Rule_forget_0 (d + 46) Y T HA HB RU RV ST NS I0 I1 I2 BO FI RG GU PU MA MN MS OT SC r0 r1 r2 r3 w r5 r6 r7 r8 L Lg zh1
  suffices e : Ev (d + 47, 0, 0, 241, 4, [.val (.ref 320), .val (.ref 128)], [], (126, 120, L, [Y, T, HA, HB, RU_1, RV, ST, NS, I0, I1, I2, BO, FI, RG, GU, PU, MA, MN, MS, OT, SC], [r0, r1, r2, r3, w, r5, r6, r7, r8], Lg)) o from ev_call (fun v μ => (d + 47, 0, 0, 241, 4, [.val (.ref 320), .val (.ref 128)], v.toList ++ [], μ)) 2 ze2 e (fun n => Eq.refl _)
  obtain ⟨⟨T_2, RU_3, w4⟩, zh3, h⟩ := bnd h
  have zh3 : f_grp_cr 40 0 T RU_1 w 0 = some (T_2, RU_3, w4) := zh3
  have ze4 := (K_grp_cr_1 40).1 (d + 0) Y T HA HB RU_1 RV ST NS I0 I1 I2 BO FI RG GU PU MA MN MS OT SC r0 r1 r2 r3 w r5 r6 r7 r8 L Lg 0 _ zh3
  suffices e : Ev (d + 47, 0, 0, 241, 10, [.val (.ref 320), .val (.ref 128)], [], (126, 120, L, [Y, T_2, HA, HB, RU_3, RV, ST, NS, I0, I1, I2, BO, FI, RG, GU, PU, MA, MN, MS, OT, SC], [r0, r1, r2, r3, w4, r5, r6, r7, r8], Lg)) o from ev_call (fun v μ => (d + 47, 0, 0, 241, 10, [.val (.ref 320), .val (.ref 128)], v.toList ++ [], μ)) 4 ze4 e (fun n => Eq.refl _)
  obtain ⟨x5, zh5, h⟩ := bnd h
  have zh5 : f_Tape_atEnd T_2 = some x5 := zh5
  have ze6 := R_f_Tape_atEnd_0 (d + 46) Y T_2 HA HB RU_3 RV ST NS I0 I1 I2 BO FI RG GU PU MA MN MS OT SC r0 r1 r2 r3 w4 r5 r6 r7 r8 L Lg zh5
  suffices e : Ev (d + 47, 0, 0, 241, 14, [.val (.ref 320), .val (.ref 128)], [.int x5], (126, 120, L, [Y, T_2, HA, HB, RU_3, RV, ST, NS, I0, I1, I2, BO, FI, RG, GU, PU, MA, MN, MS, OT, SC], [r0, r1, r2, r3, w4, r5, r6, r7, r8], Lg)) o from ev_call (fun v μ => (d + 47, 0, 0, 241, 14, [.val (.ref 320), .val (.ref 128)], v.toList ++ [], μ)) 2 ze6 e (fun n => Eq.refl _)
  by_cases zc7 : x5 ≠ 0
  · have h := itp h zc7
    suffices e : Ev (d + 47, 0, 0, 241, 22, [.val (.ref 320), .val (.ref 128)], [], (126, 120, L, [Y, T_2, HA, HB, RU_3, RV, ST, NS, I0, I1, I2, BO, FI, RG, GU, PU, MA, MN, MS, OT, SC], [r0, r1, r2, r3, w4, r5, r6, r7, r8], Lg)) o from ev_t (c := x5 ≠ 0) _ _ 1 zc7 e (fun n => Eq.refl _)
    have ze8 := Option.some.inj h
    subst ze8
    exact ev_rete 1 ho (fun n => Eq.refl _)
  · have h := itn h zc7
    suffices e : Ev (d + 47, 0, 0, 241, 17, [.val (.ref 320), .val (.ref 128)], [], (126, 120, L, [Y, T_2, HA, HB, RU_3, RV, ST, NS, I0, I1, I2, BO, FI, RG, GU, PU, MA, MN, MS, OT, SC], [r0, r1, r2, r3, w4, r5, r6, r7, r8], Lg)) o from ev_f (c := x5 ≠ 0) _ _ 1 zc7 e (fun n => Eq.refl _)
    obtain ⟨T_6, zh9, h⟩ := bnd h
    have zh9 : f_Tape_fail T_2 1 = some T_6 := zh9
    have ze10 := R_f_Tape_fail_0 (d + 46) Y T_2 HA HB RU_3 RV ST NS I0 I1 I2 BO FI RG GU PU MA MN MS OT SC r0 r1 r2 r3 w4 r5 r6 r7 r8 L Lg 1 zh9
    suffices e : Ev (d + 47, 0, 0, 241, 22, [.val (.ref 320), .val (.ref 128)], [], (126, 120, L, [Y, T_6, HA, HB, RU_3, RV, ST, NS, I0, I1, I2, BO, FI, RG, GU, PU, MA, MN, MS, OT, SC], [r0, r1, r2, r3, w4, r5, r6, r7, r8], Lg)) o from ev_call (fun v μ => (d + 47, 0, 0, 241, 22, [.val (.ref 320), .val (.ref 128)], v.toList ++ [], μ)) 3 ze10 e (fun n => Eq.refl _)
    have ze11 := Option.some.inj h
    subst ze11
    exact ev_rete 1 ho (fun n => Eq.refl _)
set_option maxRecDepth 1000000 in
set_option maxHeartbeats 4000000 in
theorem R_f_Y_rule_1 (d : Nat) (Y T H H2 RV RU ST NS I0 I1 I2 BO FI RG GU PU MA MN MS OT SC : Nat → Nat → Int32) (w r5 : Nat) (L : Nat) (Lg : Int64) (p1 : Int32) {r : Nat × Int32 × (Nat → Nat → Int32) × (Nat → Nat → Int32) × (Nat → Nat → Int32) × Nat × Nat × Nat} (h : f_Y_rule Y T RV 320 384 w p1 = some r) : Ev (d + 48, 1, 8, 286, 0, [.val (.ref 64), .val (.int p1), .val a_unk], [], (126, 120, L, [Y, T, H, H2, RV, RU, ST, NS, I0, I1, I2, BO, FI, RG, GU, PU, MA, MN, MS, OT, SC], [192, 256, 384, 320, w, r5, 576, 640, 704], Lg)) ((r.1, a_ov r.1 (.int r.2.1), (126, 120, L, [r.2.2.1, r.2.2.2.1, H, H2, r.2.2.2.2.1, RU, ST, NS, I0, I1, I2, BO, FI, RG, GU, PU, MA, MN, MS, OT, SC], [192, 256, r.2.2.2.2.2.1, r.2.2.2.2.2.2.1, r.2.2.2.2.2.2.2, r5, 576, 640, 704], Lg)) : AOut) := by
  suffices key : ∀ o : AOut, ((r.1, a_ov r.1 (.int r.2.1), (126, 120, L, [r.2.2.1, r.2.2.2.1, H, H2, r.2.2.2.2.1, RU, ST, NS, I0, I1, I2, BO, FI, RG, GU, PU, MA, MN, MS, OT, SC], [192, 256, r.2.2.2.2.2.1, r.2.2.2.2.2.2.1, r.2.2.2.2.2.2.2, r5, 576, 640, 704], Lg)) : AOut) = o → Ev (d + 48, 1, 8, 286, 0, [.val (.ref 64), .val (.int p1), .val a_unk], [], (126, 120, L, [Y, T, H, H2, RV, RU, ST, NS, I0, I1, I2, BO, FI, RG, GU, PU, MA, MN, MS, OT, SC], [192, 256, 384, 320, w, r5, 576, 640, 704], Lg)) o from key _ rfl
  intro o ho
  obtain ⟨zt1, zh2, h⟩ := bnd h
  have zj3 : ∀ (v1 : Int32), v1 = zt1 → Ev (d + 48, 1, 8, 286, 28, [.val (.ref 64), .val (.int p1), .val a_unk], [.int v1, .ref 64], (126, 120, L, [Y, T, H, H2, RV, RU, ST, NS, I0, I1, I2, BO, FI, RG, GU, PU, MA, MN, MS, OT, SC], [192, 256, 384, 320, w, r5, 576, 640, 704], Lg)) o := by
    intro v1 ze4
    subst ze4
    obtain ⟨⟨q2, Y_3⟩, zh5, h⟩ := bnd h
    have zh5 : f_Y_refuseUnless Y v1 = some (q2, Y_3) := zh5
    have ze6 := R_f_Y_refuseUnless_1 (d + 47) Y T H H2 RV RU ST NS I0 I1 I2 BO FI RG GU PU MA MN MS OT SC w r5 L Lg v1 zh5
    cases q2 with
    | zero =>
      have h := itp h rfl
      suffices e : Ev (d + 48, 0, 0, 286, 31, [.val (.ref 64), .val (.int p1), .val a_unk], [], (126, 120, L, [Y_3, T, H, H2, RV, RU, ST, NS, I0, I1, I2, BO, FI, RG, GU, PU, MA, MN, MS, OT, SC], [192, 256, 384, 320, w, r5, 576, 640, 704], Lg)) o from ev_call (fun v μ => (d + 48, 0, 0, 286, 31, [.val (.ref 64), .val (.int p1), .val a_unk], v.toList ++ [], μ)) 1 ze6 e (fun n => Eq.refl _)
      obtain ⟨⟨T_4, w5⟩, zh7, h⟩ := bnd h
      have zh7 : f_Tape_open T p1 = some (T_4, w5) := zh7
      have ze8 := R_f_Tape_open_0 (d + 41) Y_3 T H H2 RV RU ST NS I0 I1 I2 BO FI RG GU PU MA MN MS OT SC 192 256 384 320 w r5 576 640 704 L Lg p1 zh7
      suffices e : Ev (d + 48, 0, 0, 286, 39, [.val (.ref 64), .val (.int p1), .val a_unk], [], (126, 120, L, [Y_3, T_4, H, H2, RV, RU, ST, NS, I0, I1, I2, BO, FI, RG, GU, PU, MA, MN, MS, OT, SC], [192, 256, 384, 320, w5, r5, 576, 640, 704], Lg)) o from ev_call (fun v μ => (d + 48, 0, 0, 286, 39, [.val (.ref 64), .val (.int p1), .val a_unk], v.toList ++ [], μ)) 4 ze8 e (fun n => Eq.refl _)
      obtain ⟨⟨T_6, RV_7, w8⟩, zh9, h⟩ := bnd h
      have zh9 : f_Rule_read T_4 RV w5 = some (T_6, RV_7, w8) := zh9
      have ze10 := R_f_Rule_read_1 (d + 0) Y_3 T_4 H H2 RV RU ST NS I0 I1 I2 BO FI RG GU PU MA MN MS OT SC 192 256 384 320 w5 r5 576 640 704 L Lg zh9
      suffices e : Ev (d + 48, 0, 0, 286, 50, [.val (.ref 64), .val (.int p1), .val a_unk], [], (126, 120, L, [Y_3, T_6, H, H2, RV_7, RU, ST, NS, I0, I1, I2, BO, FI, RG, GU, PU, MA, MN, MS, OT, SC], [192, 256, 384, 320, w8, r5, 576, 640, 704], Lg)) o from ev_call (fun v μ => (d + 48, 0, 0, 286, 50, [.val (.ref 64), .val (.int p1), .val a_unk], v.toList ++ [], μ)) 5 ze10 e (fun n => Eq.refl _)
      obtain ⟨T_9, zh11, h⟩ := bnd h
      have zh11 : f_Tape_empty T_6 = some T_9 := zh11
      have ze12 := R_f_Tape_empty_0 (d + 47) Y_3 T_6 H H2 RV_7 RU ST NS I0 I1 I2 BO FI RG GU PU MA MN MS OT SC 192 256 384 320 w8 r5 576 640 704 L Lg zh11
      suffices e : Ev (d + 48, 0, 0, 286, 57, [.val (.ref 64), .val (.int p1), .val a_unk], [], (126, 120, L, [Y_3, T_9, H, H2, RV_7, RU, ST, NS, I0, I1, I2, BO, FI, RG, GU, PU, MA, MN, MS, OT, SC], [192, 256, 384, 320, w8, r5, 576, 640, 704], Lg)) o from ev_call (fun v μ => (d + 48, 0, 0, 286, 57, [.val (.ref 64), .val (.int p1), .val a_unk], v.toList ++ [], μ)) 3 ze12 e (fun n => Eq.refl _)
      obtain ⟨x10, zh13, h⟩ := bnd h
      have zh13 : f_Tape_failed T_9 = some x10 := zh13
      have ze14 := R_f_Tape_failed_0 (d + 47) Y_3 T_9 H H2 RV_7 RU ST NS I0 I1 I2 BO FI RG GU PU MA MN MS OT SC 192 256 384 320 w8 r5 576 640 704 L Lg zh13
      suffices e : Ev (d + 48, 0, 0, 286, 64, [.val (.ref 64), .val (.int p1), .val a_unk], [.int x10], (126, 120, L, [Y_3, T_9, H, H2, RV_7, RU, ST, NS, I0, I1, I2, BO, FI, RG, GU, PU, MA, MN, MS, OT, SC], [192, 256, 384, 320, w8, r5, 576, 640, 704], Lg)) o from ev_call (fun v μ => (d + 48, 0, 0, 286, 64, [.val (.ref 64), .val (.int p1), .val a_unk], v.toList ++ [], μ)) 3 ze14 e (fun n => Eq.refl _)
      by_cases zc15 : x10 = 0
      · have h := itp h zc15
        suffices e : Ev (d + 48, 0, 0, 286, 78, [.val (.ref 64), .val (.int p1), .val a_unk], [], (126, 120, L, [Y_3, T_9, H, H2, RV_7, RU, ST, NS, I0, I1, I2, BO, FI, RG, GU, PU, MA, MN, MS, OT, SC], [192, 256, 384, 320, w8, r5, 576, 640, 704], Lg)) o from ev_t (c := x10 = 0) _ _ 1 zc15 e (fun n => Eq.refl _)
        have ze16 := Option.some.inj h
        subst ze16
        exact ev_rete 12 ho (fun n => Eq.refl _)
      · have h := itn h zc15
        suffices e : Ev (d + 48, 0, 0, 286, 67, [.val (.ref 64), .val (.int p1), .val a_unk], [], (126, 120, L, [Y_3, T_9, H, H2, RV_7, RU, ST, NS, I0, I1, I2, BO, FI, RG, GU, PU, MA, MN, MS, OT, SC], [192, 256, 384, 320, w8, r5, 576, 640, 704], Lg)) o from ev_f (c := x10 = 0) _ _ 1 zc15 e (fun n => Eq.refl _)
        have ze17 := Option.some.inj h
        subst ze17
        exact ev_rete 6 ho (fun n => Eq.refl _)
    | succ q2 =>
      have h := itn h (Nat.succ_ne_zero q2)
      have ze18 := Option.some.inj h
      subst ze18
      subst ho
      exact ev_thr (fun v μ => (d + 48, 0, 0, 286, 31, [.val (.ref 64), .val (.int p1), .val a_unk], v.toList ++ [], μ)) 1 ze6 (fun n => Eq.refl _) (fun n => rfl)
  obtain ⟨zt19, zh20, zh2⟩ := bnd zh2
  have zj21 : zt19 = .inl () → Ev (d + 48, 1, 8, 286, 27, [.val (.ref 64), .val (.int p1), .val a_unk], [.ref 64], (126, 120, L, [Y, T, H, H2, RV, RU, ST, NS, I0, I1, I2, BO, FI, RG, GU, PU, MA, MN, MS, OT, SC], [192, 256, 384, 320, w, r5, 576, 640, 704], Lg)) o := by
    intro ze22
    have zh2 := sum_l zh2 ze22
    exact ev_b 1 (zj3 0 (Option.some.inj zh2) ) (fun n => Eq.refl _)
  by_cases zc23 : p1 < 0
  · have zh20 := itp zh20 zc23
    suffices e : Ev (d + 48, 1, 8, 286, 27, [.val (.ref 64), .val (.int p1), .val a_unk], [.ref 64], (126, 120, L, [Y, T, H, H2, RV, RU, ST, NS, I0, I1, I2, BO, FI, RG, GU, PU, MA, MN, MS, OT, SC], [192, 256, 384, 320, w, r5, 576, 640, 704], Lg)) o from ev_t (c := p1 < 0) _ _ 3 zc23 e (fun n => Eq.refl _)
    exact ev_b 0 (zj21  (Option.some.inj zh20).symm ) (fun n => Eq.refl _)
  · have zh20 := itn zh20 zc23
    suffices e : Ev (d + 48, 1, 8, 286, 5, [.val (.ref 64), .val (.int p1), .val a_unk], [.ref 64], (126, 120, L, [Y, T, H, H2, RV, RU, ST, NS, I0, I1, I2, BO, FI, RG, GU, PU, MA, MN, MS, OT, SC], [192, 256, 384, 320, w, r5, 576, 640, 704], Lg)) o from ev_f (c := p1 < 0) _ _ 3 zc23 e (fun n => Eq.refl _)
    by_cases zc24 : (T 0 1) < p1
    · have zh20 := itp zh20 zc24
      suffices e : Ev (d + 48, 1, 8, 286, 27, [.val (.ref 64), .val (.int p1), .val a_unk], [.ref 64], (126, 120, L, [Y, T, H, H2, RV, RU, ST, NS, I0, I1, I2, BO, FI, RG, GU, PU, MA, MN, MS, OT, SC], [192, 256, 384, 320, w, r5, 576, 640, 704], Lg)) o from ev_t (c := (T 0 1) < p1) _ _ 5 zc24 e (fun n => Eq.refl _)
      exact ev_b 0 (zj21  (Option.some.inj zh20).symm ) (fun n => Eq.refl _)
    · have zh20 := itn zh20 zc24
      suffices e : Ev (d + 48, 1, 8, 286, 16, [.val (.ref 64), .val (.int p1), .val a_unk], [.ref 64], (126, 120, L, [Y, T, H, H2, RV, RU, ST, NS, I0, I1, I2, BO, FI, RG, GU, PU, MA, MN, MS, OT, SC], [192, 256, 384, 320, w, r5, 576, 640, 704], Lg)) o from ev_f (c := (T 0 1) < p1) _ _ 5 zc24 e (fun n => Eq.refl _)
      by_cases zc25 : 150 < p1
      · have zh20 := itp zh20 zc25
        suffices e : Ev (d + 48, 1, 8, 286, 27, [.val (.ref 64), .val (.int p1), .val a_unk], [.ref 64], (126, 120, L, [Y, T, H, H2, RV, RU, ST, NS, I0, I1, I2, BO, FI, RG, GU, PU, MA, MN, MS, OT, SC], [192, 256, 384, 320, w, r5, 576, 640, 704], Lg)) o from ev_t (c := 150 < p1) _ _ 3 zc25 e (fun n => Eq.refl _)
        exact ev_b 0 (zj21  (Option.some.inj zh20).symm ) (fun n => Eq.refl _)
      · have zh20 := itn zh20 zc25
        suffices e : Ev (d + 48, 1, 8, 286, 23, [.val (.ref 64), .val (.int p1), .val a_unk], [.ref 64], (126, 120, L, [Y, T, H, H2, RV, RU, ST, NS, I0, I1, I2, BO, FI, RG, GU, PU, MA, MN, MS, OT, SC], [192, 256, 384, 320, w, r5, 576, 640, 704], Lg)) o from ev_f (c := 150 < p1) _ _ 3 zc25 e (fun n => Eq.refl _)
        have zh26 := sum_r zh2 (Option.some.inj zh20).symm
        exact ev_b 2 (zj3 1 (Option.some.inj zh26) ) (fun n => Eq.refl _)
set_option maxRecDepth 1000000 in
set_option maxHeartbeats 4000000 in
theorem R_f_Y_rule_2 (d : Nat) (Y T H2 H RU RV ST NS I0 I1 I2 BO FI RG GU PU MA MN MS OT SC : Nat → Nat → Int32) (w r5 : Nat) (L : Nat) (Lg : Int64) (p1 : Int32) {r : Nat × Int32 × (Nat → Nat → Int32) × (Nat → Nat → Int32) × (Nat → Nat → Int32) × Nat × Nat × Nat} (h : f_Y_rule Y T RV 384 320 w p1 = some r) : Ev (d + 48, 1, 8, 286, 0, [.val (.ref 64), .val (.int p1), .val a_unk], [], (126, 120, L, [Y, T, H2, H, RU, RV, ST, NS, I0, I1, I2, BO, FI, RG, GU, PU, MA, MN, MS, OT, SC], [256, 192, 320, 384, w, r5, 576, 640, 704], Lg)) ((r.1, a_ov r.1 (.int r.2.1), (126, 120, L, [r.2.2.1, r.2.2.2.1, H2, H, RU, r.2.2.2.2.1, ST, NS, I0, I1, I2, BO, FI, RG, GU, PU, MA, MN, MS, OT, SC], [256, 192, r.2.2.2.2.2.1, r.2.2.2.2.2.2.1, r.2.2.2.2.2.2.2, r5, 576, 640, 704], Lg)) : AOut) := by
  suffices key : ∀ o : AOut, ((r.1, a_ov r.1 (.int r.2.1), (126, 120, L, [r.2.2.1, r.2.2.2.1, H2, H, RU, r.2.2.2.2.1, ST, NS, I0, I1, I2, BO, FI, RG, GU, PU, MA, MN, MS, OT, SC], [256, 192, r.2.2.2.2.2.1, r.2.2.2.2.2.2.1, r.2.2.2.2.2.2.2, r5, 576, 640, 704], Lg)) : AOut) = o → Ev (d + 48, 1, 8, 286, 0, [.val (.ref 64), .val (.int p1), .val a_unk], [], (126, 120, L, [Y, T, H2, H, RU, RV, ST, NS, I0, I1, I2, BO, FI, RG, GU, PU, MA, MN, MS, OT, SC], [256, 192, 320, 384, w, r5, 576, 640, 704], Lg)) o from key _ rfl
  intro o ho
  obtain ⟨zt1, zh2, h⟩ := bnd h
  have zj3 : ∀ (v1 : Int32), v1 = zt1 → Ev (d + 48, 1, 8, 286, 28, [.val (.ref 64), .val (.int p1), .val a_unk], [.int v1, .ref 64], (126, 120, L, [Y, T, H2, H, RU, RV, ST, NS, I0, I1, I2, BO, FI, RG, GU, PU, MA, MN, MS, OT, SC], [256, 192, 320, 384, w, r5, 576, 640, 704], Lg)) o := by
    intro v1 ze4
    subst ze4
    obtain ⟨⟨q2, Y_3⟩, zh5, h⟩ := bnd h
    have zh5 : f_Y_refuseUnless Y v1 = some (q2, Y_3) := zh5
    have ze6 := R_f_Y_refuseUnless_2 (d + 47) Y T H2 H RU RV ST NS I0 I1 I2 BO FI RG GU PU MA MN MS OT SC w r5 L Lg v1 zh5
    cases q2 with
    | zero =>
      have h := itp h rfl
      suffices e : Ev (d + 48, 0, 0, 286, 31, [.val (.ref 64), .val (.int p1), .val a_unk], [], (126, 120, L, [Y_3, T, H2, H, RU, RV, ST, NS, I0, I1, I2, BO, FI, RG, GU, PU, MA, MN, MS, OT, SC], [256, 192, 320, 384, w, r5, 576, 640, 704], Lg)) o from ev_call (fun v μ => (d + 48, 0, 0, 286, 31, [.val (.ref 64), .val (.int p1), .val a_unk], v.toList ++ [], μ)) 1 ze6 e (fun n => Eq.refl _)
      obtain ⟨⟨T_4, w5⟩, zh7, h⟩ := bnd h
      have zh7 : f_Tape_open T p1 = some (T_4, w5) := zh7
      have ze8 := R_f_Tape_open_0 (d + 41) Y_3 T H2 H RU RV ST NS I0 I1 I2 BO FI RG GU PU MA MN MS OT SC 256 192 320 384 w r5 576 640 704 L Lg p1 zh7
      suffices e : Ev (d + 48, 0, 0, 286, 39, [.val (.ref 64), .val (.int p1), .val a_unk], [], (126, 120, L, [Y_3, T_4, H2, H, RU, RV, ST, NS, I0, I1, I2, BO, FI, RG, GU, PU, MA, MN, MS, OT, SC], [256, 192, 320, 384, w5, r5, 576, 640, 704], Lg)) o from ev_call (fun v μ => (d + 48, 0, 0, 286, 39, [.val (.ref 64), .val (.int p1), .val a_unk], v.toList ++ [], μ)) 4 ze8 e (fun n => Eq.refl _)
      obtain ⟨⟨T_6, RV_7, w8⟩, zh9, h⟩ := bnd h
      have zh9 : f_Rule_read T_4 RV w5 = some (T_6, RV_7, w8) := zh9
      have ze10 := R_f_Rule_read_0 (d + 0) Y_3 T_4 H2 H RU RV ST NS I0 I1 I2 BO FI RG GU PU MA MN MS OT SC 256 192 320 384 w5 r5 576 640 704 L Lg zh9
      suffices e : Ev (d + 48, 0, 0, 286, 50, [.val (.ref 64), .val (.int p1), .val a_unk], [], (126, 120, L, [Y_3, T_6, H2, H, RU, RV_7, ST, NS, I0, I1, I2, BO, FI, RG, GU, PU, MA, MN, MS, OT, SC], [256, 192, 320, 384, w8, r5, 576, 640, 704], Lg)) o from ev_call (fun v μ => (d + 48, 0, 0, 286, 50, [.val (.ref 64), .val (.int p1), .val a_unk], v.toList ++ [], μ)) 5 ze10 e (fun n => Eq.refl _)
      obtain ⟨T_9, zh11, h⟩ := bnd h
      have zh11 : f_Tape_empty T_6 = some T_9 := zh11
      have ze12 := R_f_Tape_empty_0 (d + 47) Y_3 T_6 H2 H RU RV_7 ST NS I0 I1 I2 BO FI RG GU PU MA MN MS OT SC 256 192 320 384 w8 r5 576 640 704 L Lg zh11
      suffices e : Ev (d + 48, 0, 0, 286, 57, [.val (.ref 64), .val (.int p1), .val a_unk], [], (126, 120, L, [Y_3, T_9, H2, H, RU, RV_7, ST, NS, I0, I1, I2, BO, FI, RG, GU, PU, MA, MN, MS, OT, SC], [256, 192, 320, 384, w8, r5, 576, 640, 704], Lg)) o from ev_call (fun v μ => (d + 48, 0, 0, 286, 57, [.val (.ref 64), .val (.int p1), .val a_unk], v.toList ++ [], μ)) 3 ze12 e (fun n => Eq.refl _)
      obtain ⟨x10, zh13, h⟩ := bnd h
      have zh13 : f_Tape_failed T_9 = some x10 := zh13
      have ze14 := R_f_Tape_failed_0 (d + 47) Y_3 T_9 H2 H RU RV_7 ST NS I0 I1 I2 BO FI RG GU PU MA MN MS OT SC 256 192 320 384 w8 r5 576 640 704 L Lg zh13
      suffices e : Ev (d + 48, 0, 0, 286, 64, [.val (.ref 64), .val (.int p1), .val a_unk], [.int x10], (126, 120, L, [Y_3, T_9, H2, H, RU, RV_7, ST, NS, I0, I1, I2, BO, FI, RG, GU, PU, MA, MN, MS, OT, SC], [256, 192, 320, 384, w8, r5, 576, 640, 704], Lg)) o from ev_call (fun v μ => (d + 48, 0, 0, 286, 64, [.val (.ref 64), .val (.int p1), .val a_unk], v.toList ++ [], μ)) 3 ze14 e (fun n => Eq.refl _)
      by_cases zc15 : x10 = 0
      · have h := itp h zc15
        suffices e : Ev (d + 48, 0, 0, 286, 78, [.val (.ref 64), .val (.int p1), .val a_unk], [], (126, 120, L, [Y_3, T_9, H2, H, RU, RV_7, ST, NS, I0, I1, I2, BO, FI, RG, GU, PU, MA, MN, MS, OT, SC], [256, 192, 320, 384, w8, r5, 576, 640, 704], Lg)) o from ev_t (c := x10 = 0) _ _ 1 zc15 e (fun n => Eq.refl _)
        have ze16 := Option.some.inj h
        subst ze16
        exact ev_rete 12 ho (fun n => Eq.refl _)
      · have h := itn h zc15
        suffices e : Ev (d + 48, 0, 0, 286, 67, [.val (.ref 64), .val (.int p1), .val a_unk], [], (126, 120, L, [Y_3, T_9, H2, H, RU, RV_7, ST, NS, I0, I1, I2, BO, FI, RG, GU, PU, MA, MN, MS, OT, SC], [256, 192, 320, 384, w8, r5, 576, 640, 704], Lg)) o from ev_f (c := x10 = 0) _ _ 1 zc15 e (fun n => Eq.refl _)
        have ze17 := Option.some.inj h
        subst ze17
        exact ev_rete 6 ho (fun n => Eq.refl _)
    | succ q2 =>
      have h := itn h (Nat.succ_ne_zero q2)
      have ze18 := Option.some.inj h
      subst ze18
      subst ho
      exact ev_thr (fun v μ => (d + 48, 0, 0, 286, 31, [.val (.ref 64), .val (.int p1), .val a_unk], v.toList ++ [], μ)) 1 ze6 (fun n => Eq.refl _) (fun n => rfl)
  obtain ⟨zt19, zh20, zh2⟩ := bnd zh2
  have zj21 : zt19 = .inl () → Ev (d + 48, 1, 8, 286, 27, [.val (.ref 64), .val (.int p1), .val a_unk], [.ref 64], (126, 120, L, [Y, T, H2, H, RU, RV, ST, NS, I0, I1, I2, BO, FI, RG, GU, PU, MA, MN, MS, OT, SC], [256, 192, 320, 384, w, r5, 576, 640, 704], Lg)) o := by
    intro ze22
    have zh2 := sum_l zh2 ze22
    exact ev_b 1 (zj3 0 (Option.some.inj zh2) ) (fun n => Eq.refl _)
  by_cases zc23 : p1 < 0
  · have zh20 := itp zh20 zc23
    suffices e : Ev (d + 48, 1, 8, 286, 27, [.val (.ref 64), .val (.int p1), .val a_unk], [.ref 64], (126, 120, L, [Y, T, H2, H, RU, RV, ST, NS, I0, I1, I2, BO, FI, RG, GU, PU, MA, MN, MS, OT, SC], [256, 192, 320, 384, w, r5, 576, 640, 704], Lg)) o from ev_t (c := p1 < 0) _ _ 3 zc23 e (fun n => Eq.refl _)
    exact ev_b 0 (zj21  (Option.some.inj zh20).symm ) (fun n => Eq.refl _)
  · have zh20 := itn zh20 zc23
    suffices e : Ev (d + 48, 1, 8, 286, 5, [.val (.ref 64), .val (.int p1), .val a_unk], [.ref 64], (126, 120, L, [Y, T, H2, H, RU, RV, ST, NS, I0, I1, I2, BO, FI, RG, GU, PU, MA, MN, MS, OT, SC], [256, 192, 320, 384, w, r5, 576, 640, 704], Lg)) o from ev_f (c := p1 < 0) _ _ 3 zc23 e (fun n => Eq.refl _)
    by_cases zc24 : (T 0 1) < p1
    · have zh20 := itp zh20 zc24
      suffices e : Ev (d + 48, 1, 8, 286, 27, [.val (.ref 64), .val (.int p1), .val a_unk], [.ref 64], (126, 120, L, [Y, T, H2, H, RU, RV, ST, NS, I0, I1, I2, BO, FI, RG, GU, PU, MA, MN, MS, OT, SC], [256, 192, 320, 384, w, r5, 576, 640, 704], Lg)) o from ev_t (c := (T 0 1) < p1) _ _ 5 zc24 e (fun n => Eq.refl _)
      exact ev_b 0 (zj21  (Option.some.inj zh20).symm ) (fun n => Eq.refl _)
    · have zh20 := itn zh20 zc24
      suffices e : Ev (d + 48, 1, 8, 286, 16, [.val (.ref 64), .val (.int p1), .val a_unk], [.ref 64], (126, 120, L, [Y, T, H2, H, RU, RV, ST, NS, I0, I1, I2, BO, FI, RG, GU, PU, MA, MN, MS, OT, SC], [256, 192, 320, 384, w, r5, 576, 640, 704], Lg)) o from ev_f (c := (T 0 1) < p1) _ _ 5 zc24 e (fun n => Eq.refl _)
      by_cases zc25 : 150 < p1
      · have zh20 := itp zh20 zc25
        suffices e : Ev (d + 48, 1, 8, 286, 27, [.val (.ref 64), .val (.int p1), .val a_unk], [.ref 64], (126, 120, L, [Y, T, H2, H, RU, RV, ST, NS, I0, I1, I2, BO, FI, RG, GU, PU, MA, MN, MS, OT, SC], [256, 192, 320, 384, w, r5, 576, 640, 704], Lg)) o from ev_t (c := 150 < p1) _ _ 3 zc25 e (fun n => Eq.refl _)
        exact ev_b 0 (zj21  (Option.some.inj zh20).symm ) (fun n => Eq.refl _)
      · have zh20 := itn zh20 zc25
        suffices e : Ev (d + 48, 1, 8, 286, 23, [.val (.ref 64), .val (.int p1), .val a_unk], [.ref 64], (126, 120, L, [Y, T, H2, H, RU, RV, ST, NS, I0, I1, I2, BO, FI, RG, GU, PU, MA, MN, MS, OT, SC], [256, 192, 320, 384, w, r5, 576, 640, 704], Lg)) o from ev_f (c := 150 < p1) _ _ 3 zc25 e (fun n => Eq.refl _)
        have zh26 := sum_r zh2 (Option.some.inj zh20).symm
        exact ev_b 2 (zj3 1 (Option.some.inj zh26) ) (fun n => Eq.refl _)
set_option maxRecDepth 1000000 in
set_option maxHeartbeats 4000000 in
theorem R_f_Y_rule_3 (d : Nat) (Y T H2 H RV RU ST NS I0 I1 I2 BO FI RG GU PU MA MN MS OT SC : Nat → Nat → Int32) (w r5 : Nat) (L : Nat) (Lg : Int64) (p1 : Int32) {r : Nat × Int32 × (Nat → Nat → Int32) × (Nat → Nat → Int32) × (Nat → Nat → Int32) × Nat × Nat × Nat} (h : f_Y_rule Y T RV 320 384 w p1 = some r) : Ev (d + 48, 1, 8, 286, 0, [.val (.ref 64), .val (.int p1), .val a_unk], [], (126, 120, L, [Y, T, H2, H, RV, RU, ST, NS, I0, I1, I2, BO, FI, RG, GU, PU, MA, MN, MS, OT, SC], [256, 192, 384, 320, w, r5, 576, 640, 704], Lg)) ((r.1, a_ov r.1 (.int r.2.1), (126, 120, L, [r.2.2.1, r.2.2.2.1, H2, H, r.2.2.2.2.1, RU, ST, NS, I0, I1, I2, BO, FI, RG, GU, PU, MA, MN, MS, OT, SC], [256, 192, r.2.2.2.2.2.1, r.2.2.2.2.2.2.1, r.2.2.2.2.2.2.2, r5, 576, 640, 704], Lg)) : AOut) := by
  suffices key : ∀ o : AOut, ((r.1, a_ov r.1 (.int r.2.1), (126, 120, L, [r.2.2.1, r.2.2.2.1, H2, H, r.2.2.2.2.1, RU, ST, NS, I0, I1, I2, BO, FI, RG, GU, PU, MA, MN, MS, OT, SC], [256, 192, r.2.2.2.2.2.1, r.2.2.2.2.2.2.1, r.2.2.2.2.2.2.2, r5, 576, 640, 704], Lg)) : AOut) = o → Ev (d + 48, 1, 8, 286, 0, [.val (.ref 64), .val (.int p1), .val a_unk], [], (126, 120, L, [Y, T, H2, H, RV, RU, ST, NS, I0, I1, I2, BO, FI, RG, GU, PU, MA, MN, MS, OT, SC], [256, 192, 384, 320, w, r5, 576, 640, 704], Lg)) o from key _ rfl
  intro o ho
  obtain ⟨zt1, zh2, h⟩ := bnd h
  have zj3 : ∀ (v1 : Int32), v1 = zt1 → Ev (d + 48, 1, 8, 286, 28, [.val (.ref 64), .val (.int p1), .val a_unk], [.int v1, .ref 64], (126, 120, L, [Y, T, H2, H, RV, RU, ST, NS, I0, I1, I2, BO, FI, RG, GU, PU, MA, MN, MS, OT, SC], [256, 192, 384, 320, w, r5, 576, 640, 704], Lg)) o := by
    intro v1 ze4
    subst ze4
    obtain ⟨⟨q2, Y_3⟩, zh5, h⟩ := bnd h
    have zh5 : f_Y_refuseUnless Y v1 = some (q2, Y_3) := zh5
    have ze6 := R_f_Y_refuseUnless_3 (d + 47) Y T H2 H RV RU ST NS I0 I1 I2 BO FI RG GU PU MA MN MS OT SC w r5 L Lg v1 zh5
    cases q2 with
    | zero =>
      have h := itp h rfl
      suffices e : Ev (d + 48, 0, 0, 286, 31, [.val (.ref 64), .val (.int p1), .val a_unk], [], (126, 120, L, [Y_3, T, H2, H, RV, RU, ST, NS, I0, I1, I2, BO, FI, RG, GU, PU, MA, MN, MS, OT, SC], [256, 192, 384, 320, w, r5, 576, 640, 704], Lg)) o from ev_call (fun v μ => (d + 48, 0, 0, 286, 31, [.val (.ref 64), .val (.int p1), .val a_unk], v.toList ++ [], μ)) 1 ze6 e (fun n => Eq.refl _)
      obtain ⟨⟨T_4, w5⟩, zh7, h⟩ := bnd h
      have zh7 : f_Tape_open T p1 = some (T_4, w5) := zh7
      have ze8 := R_f_Tape_open_0 (d + 41) Y_3 T H2 H RV RU ST NS I0 I1 I2 BO FI RG GU PU MA MN MS OT SC 256 192 384 320 w r5 576 640 704 L Lg p1 zh7
      suffices e : Ev (d + 48, 0, 0, 286, 39, [.val (.ref 64), .val (.int p1), .val a_unk], [], (126, 120, L, [Y_3, T_4, H2, H, RV, RU, ST, NS, I0, I1, I2, BO, FI, RG, GU, PU, MA, MN, MS, OT, SC], [256, 192, 384, 320, w5, r5, 576, 640, 704], Lg)) o from ev_call (fun v μ => (d + 48, 0, 0, 286, 39, [.val (.ref 64), .val (.int p1), .val a_unk], v.toList ++ [], μ)) 4 ze8 e (fun n => Eq.refl _)
      obtain ⟨⟨T_6, RV_7, w8⟩, zh9, h⟩ := bnd h
      have zh9 : f_Rule_read T_4 RV w5 = some (T_6, RV_7, w8) := zh9
      have ze10 := R_f_Rule_read_1 (d + 0) Y_3 T_4 H2 H RV RU ST NS I0 I1 I2 BO FI RG GU PU MA MN MS OT SC 256 192 384 320 w5 r5 576 640 704 L Lg zh9
      suffices e : Ev (d + 48, 0, 0, 286, 50, [.val (.ref 64), .val (.int p1), .val a_unk], [], (126, 120, L, [Y_3, T_6, H2, H, RV_7, RU, ST, NS, I0, I1, I2, BO, FI, RG, GU, PU, MA, MN, MS, OT, SC], [256, 192, 384, 320, w8, r5, 576, 640, 704], Lg)) o from ev_call (fun v μ => (d + 48, 0, 0, 286, 50, [.val (.ref 64), .val (.int p1), .val a_unk], v.toList ++ [], μ)) 5 ze10 e (fun n => Eq.refl _)
      obtain ⟨T_9, zh11, h⟩ := bnd h
      have zh11 : f_Tape_empty T_6 = some T_9 := zh11
      have ze12 := R_f_Tape_empty_0 (d + 47) Y_3 T_6 H2 H RV_7 RU ST NS I0 I1 I2 BO FI RG GU PU MA MN MS OT SC 256 192 384 320 w8 r5 576 640 704 L Lg zh11
      suffices e : Ev (d + 48, 0, 0, 286, 57, [.val (.ref 64), .val (.int p1), .val a_unk], [], (126, 120, L, [Y_3, T_9, H2, H, RV_7, RU, ST, NS, I0, I1, I2, BO, FI, RG, GU, PU, MA, MN, MS, OT, SC], [256, 192, 384, 320, w8, r5, 576, 640, 704], Lg)) o from ev_call (fun v μ => (d + 48, 0, 0, 286, 57, [.val (.ref 64), .val (.int p1), .val a_unk], v.toList ++ [], μ)) 3 ze12 e (fun n => Eq.refl _)
      obtain ⟨x10, zh13, h⟩ := bnd h
      have zh13 : f_Tape_failed T_9 = some x10 := zh13
      have ze14 := R_f_Tape_failed_0 (d + 47) Y_3 T_9 H2 H RV_7 RU ST NS I0 I1 I2 BO FI RG GU PU MA MN MS OT SC 256 192 384 320 w8 r5 576 640 704 L Lg zh13
      suffices e : Ev (d + 48, 0, 0, 286, 64, [.val (.ref 64), .val (.int p1), .val a_unk], [.int x10], (126, 120, L, [Y_3, T_9, H2, H, RV_7, RU, ST, NS, I0, I1, I2, BO, FI, RG, GU, PU, MA, MN, MS, OT, SC], [256, 192, 384, 320, w8, r5, 576, 640, 704], Lg)) o from ev_call (fun v μ => (d + 48, 0, 0, 286, 64, [.val (.ref 64), .val (.int p1), .val a_unk], v.toList ++ [], μ)) 3 ze14 e (fun n => Eq.refl _)
      by_cases zc15 : x10 = 0
      · have h := itp h zc15
        suffices e : Ev (d + 48, 0, 0, 286, 78, [.val (.ref 64), .val (.int p1), .val a_unk], [], (126, 120, L, [Y_3, T_9, H2, H, RV_7, RU, ST, NS, I0, I1, I2, BO, FI, RG, GU, PU, MA, MN, MS, OT, SC], [256, 192, 384, 320, w8, r5, 576, 640, 704], Lg)) o from ev_t (c := x10 = 0) _ _ 1 zc15 e (fun n => Eq.refl _)
        have ze16 := Option.some.inj h
        subst ze16
        exact ev_rete 12 ho (fun n => Eq.refl _)
      · have h := itn h zc15
        suffices e : Ev (d + 48, 0, 0, 286, 67, [.val (.ref 64), .val (.int p1), .val a_unk], [], (126, 120, L, [Y_3, T_9, H2, H, RV_7, RU, ST, NS, I0, I1, I2, BO, FI, RG, GU, PU, MA, MN, MS, OT, SC], [256, 192, 384, 320, w8, r5, 576, 640, 704], Lg)) o from ev_f (c := x10 = 0) _ _ 1 zc15 e (fun n => Eq.refl _)
        have ze17 := Option.some.inj h
        subst ze17
        exact ev_rete 6 ho (fun n => Eq.refl _)
    | succ q2 =>
      have h := itn h (Nat.succ_ne_zero q2)
      have ze18 := Option.some.inj h
      subst ze18
      subst ho
      exact ev_thr (fun v μ => (d + 48, 0, 0, 286, 31, [.val (.ref 64), .val (.int p1), .val a_unk], v.toList ++ [], μ)) 1 ze6 (fun n => Eq.refl _) (fun n => rfl)
  obtain ⟨zt19, zh20, zh2⟩ := bnd zh2
  have zj21 : zt19 = .inl () → Ev (d + 48, 1, 8, 286, 27, [.val (.ref 64), .val (.int p1), .val a_unk], [.ref 64], (126, 120, L, [Y, T, H2, H, RV, RU, ST, NS, I0, I1, I2, BO, FI, RG, GU, PU, MA, MN, MS, OT, SC], [256, 192, 384, 320, w, r5, 576, 640, 704], Lg)) o := by
    intro ze22
    have zh2 := sum_l zh2 ze22
    exact ev_b 1 (zj3 0 (Option.some.inj zh2) ) (fun n => Eq.refl _)
  by_cases zc23 : p1 < 0
  · have zh20 := itp zh20 zc23
    suffices e : Ev (d + 48, 1, 8, 286, 27, [.val (.ref 64), .val (.int p1), .val a_unk], [.ref 64], (126, 120, L, [Y, T, H2, H, RV, RU, ST, NS, I0, I1, I2, BO, FI, RG, GU, PU, MA, MN, MS, OT, SC], [256, 192, 384, 320, w, r5, 576, 640, 704], Lg)) o from ev_t (c := p1 < 0) _ _ 3 zc23 e (fun n => Eq.refl _)
    exact ev_b 0 (zj21  (Option.some.inj zh20).symm ) (fun n => Eq.refl _)
  · have zh20 := itn zh20 zc23
    suffices e : Ev (d + 48, 1, 8, 286, 5, [.val (.ref 64), .val (.int p1), .val a_unk], [.ref 64], (126, 120, L, [Y, T, H2, H, RV, RU, ST, NS, I0, I1, I2, BO, FI, RG, GU, PU, MA, MN, MS, OT, SC], [256, 192, 384, 320, w, r5, 576, 640, 704], Lg)) o from ev_f (c := p1 < 0) _ _ 3 zc23 e (fun n => Eq.refl _)
    by_cases zc24 : (T 0 1) < p1
    · have zh20 := itp zh20 zc24
      suffices e : Ev (d + 48, 1, 8, 286, 27, [.val (.ref 64), .val (.int p1), .val a_unk], [.ref 64], (126, 120, L, [Y, T, H2, H, RV, RU, ST, NS, I0, I1, I2, BO, FI, RG, GU, PU, MA, MN, MS, OT, SC], [256, 192, 384, 320, w, r5, 576, 640, 704], Lg)) o from ev_t (c := (T 0 1) < p1) _ _ 5 zc24 e (fun n => Eq.refl _)
      exact ev_b 0 (zj21  (Option.some.inj zh20).symm ) (fun n => Eq.refl _)
    · have zh20 := itn zh20 zc24
      suffices e : Ev (d + 48, 1, 8, 286, 16, [.val (.ref 64), .val (.int p1), .val a_unk], [.ref 64], (126, 120, L, [Y, T, H2, H, RV, RU, ST, NS, I0, I1, I2, BO, FI, RG, GU, PU, MA, MN, MS, OT, SC], [256, 192, 384, 320, w, r5, 576, 640, 704], Lg)) o from ev_f (c := (T 0 1) < p1) _ _ 5 zc24 e (fun n => Eq.refl _)
      by_cases zc25 : 150 < p1
      · have zh20 := itp zh20 zc25
        suffices e : Ev (d + 48, 1, 8, 286, 27, [.val (.ref 64), .val (.int p1), .val a_unk], [.ref 64], (126, 120, L, [Y, T, H2, H, RV, RU, ST, NS, I0, I1, I2, BO, FI, RG, GU, PU, MA, MN, MS, OT, SC], [256, 192, 384, 320, w, r5, 576, 640, 704], Lg)) o from ev_t (c := 150 < p1) _ _ 3 zc25 e (fun n => Eq.refl _)
        exact ev_b 0 (zj21  (Option.some.inj zh20).symm ) (fun n => Eq.refl _)
      · have zh20 := itn zh20 zc25
        suffices e : Ev (d + 48, 1, 8, 286, 23, [.val (.ref 64), .val (.int p1), .val a_unk], [.ref 64], (126, 120, L, [Y, T, H2, H, RV, RU, ST, NS, I0, I1, I2, BO, FI, RG, GU, PU, MA, MN, MS, OT, SC], [256, 192, 384, 320, w, r5, 576, 640, 704], Lg)) o from ev_f (c := 150 < p1) _ _ 3 zc25 e (fun n => Eq.refl _)
        have zh26 := sum_r zh2 (Option.some.inj zh20).symm
        exact ev_b 2 (zj3 1 (Option.some.inj zh26) ) (fun n => Eq.refl _)
set_option maxRecDepth 1000000 in
set_option maxHeartbeats 4000000 in
theorem R_f_Y_fault_0 (d : Nat) (Y T H H2 RU RV ST NS I0 I1 I2 BO FI RG GU PU MA MN MS OT SC : Nat → Nat → Int32) (w r5 : Nat) (L : Nat) (Lg : Int64) {r : Int32} (h : f_Y_fault T = some r) : Ev (d + 0, 0, 0, 287, 0, [.val (.ref 64)], [], (126, 120, L, [Y, T, H, H2, RU, RV, ST, NS, I0, I1, I2, BO, FI, RG, GU, PU, MA, MN, MS, OT, SC], [192, 256, 320, 384, w, r5, 576, 640, 704], Lg)) ((0, some (.int r), (126, 120, L, [Y, T, H, H2, RU, RV, ST, NS, I0, I1, I2, BO, FI, RG, GU, PU, MA, MN, MS, OT, SC], [192, 256, 320, 384, w, r5, 576, 640, 704], Lg)) : AOut) := by
  suffices key : ∀ o : AOut, ((0, some (.int r), (126, 120, L, [Y, T, H, H2, RU, RV, ST, NS, I0, I1, I2, BO, FI, RG, GU, PU, MA, MN, MS, OT, SC], [192, 256, 320, 384, w, r5, 576, 640, 704], Lg)) : AOut) = o → Ev (d + 0, 0, 0, 287, 0, [.val (.ref 64)], [], (126, 120, L, [Y, T, H, H2, RU, RV, ST, NS, I0, I1, I2, BO, FI, RG, GU, PU, MA, MN, MS, OT, SC], [192, 256, 320, 384, w, r5, 576, 640, 704], Lg)) o from key _ rfl
  intro o ho
  have ze1 := Option.some.inj h
  subst ze1
  exact ev_rete 4 ho (fun n => Eq.refl _)
set_option maxRecDepth 1000000 in
set_option maxHeartbeats 4000000 in
theorem R_f_Y_fault_1 (d : Nat) (Y T H H2 RV RU ST NS I0 I1 I2 BO FI RG GU PU MA MN MS OT SC : Nat → Nat → Int32) (w r5 : Nat) (L : Nat) (Lg : Int64) {r : Int32} (h : f_Y_fault T = some r) : Ev (d + 0, 0, 0, 287, 0, [.val (.ref 64)], [], (126, 120, L, [Y, T, H, H2, RV, RU, ST, NS, I0, I1, I2, BO, FI, RG, GU, PU, MA, MN, MS, OT, SC], [192, 256, 384, 320, w, r5, 576, 640, 704], Lg)) ((0, some (.int r), (126, 120, L, [Y, T, H, H2, RV, RU, ST, NS, I0, I1, I2, BO, FI, RG, GU, PU, MA, MN, MS, OT, SC], [192, 256, 384, 320, w, r5, 576, 640, 704], Lg)) : AOut) := by
  suffices key : ∀ o : AOut, ((0, some (.int r), (126, 120, L, [Y, T, H, H2, RV, RU, ST, NS, I0, I1, I2, BO, FI, RG, GU, PU, MA, MN, MS, OT, SC], [192, 256, 384, 320, w, r5, 576, 640, 704], Lg)) : AOut) = o → Ev (d + 0, 0, 0, 287, 0, [.val (.ref 64)], [], (126, 120, L, [Y, T, H, H2, RV, RU, ST, NS, I0, I1, I2, BO, FI, RG, GU, PU, MA, MN, MS, OT, SC], [192, 256, 384, 320, w, r5, 576, 640, 704], Lg)) o from key _ rfl
  intro o ho
  have ze1 := Option.some.inj h
  subst ze1
  exact ev_rete 4 ho (fun n => Eq.refl _)
set_option maxRecDepth 1000000 in
set_option maxHeartbeats 4000000 in
theorem R_f_Y_fault_2 (d : Nat) (Y T H2 H RU RV ST NS I0 I1 I2 BO FI RG GU PU MA MN MS OT SC : Nat → Nat → Int32) (w r5 : Nat) (L : Nat) (Lg : Int64) {r : Int32} (h : f_Y_fault T = some r) : Ev (d + 0, 0, 0, 287, 0, [.val (.ref 64)], [], (126, 120, L, [Y, T, H2, H, RU, RV, ST, NS, I0, I1, I2, BO, FI, RG, GU, PU, MA, MN, MS, OT, SC], [256, 192, 320, 384, w, r5, 576, 640, 704], Lg)) ((0, some (.int r), (126, 120, L, [Y, T, H2, H, RU, RV, ST, NS, I0, I1, I2, BO, FI, RG, GU, PU, MA, MN, MS, OT, SC], [256, 192, 320, 384, w, r5, 576, 640, 704], Lg)) : AOut) := by
  suffices key : ∀ o : AOut, ((0, some (.int r), (126, 120, L, [Y, T, H2, H, RU, RV, ST, NS, I0, I1, I2, BO, FI, RG, GU, PU, MA, MN, MS, OT, SC], [256, 192, 320, 384, w, r5, 576, 640, 704], Lg)) : AOut) = o → Ev (d + 0, 0, 0, 287, 0, [.val (.ref 64)], [], (126, 120, L, [Y, T, H2, H, RU, RV, ST, NS, I0, I1, I2, BO, FI, RG, GU, PU, MA, MN, MS, OT, SC], [256, 192, 320, 384, w, r5, 576, 640, 704], Lg)) o from key _ rfl
  intro o ho
  have ze1 := Option.some.inj h
  subst ze1
  exact ev_rete 4 ho (fun n => Eq.refl _)
set_option maxRecDepth 1000000 in
set_option maxHeartbeats 4000000 in
theorem R_f_Y_fault_3 (d : Nat) (Y T H2 H RV RU ST NS I0 I1 I2 BO FI RG GU PU MA MN MS OT SC : Nat → Nat → Int32) (w r5 : Nat) (L : Nat) (Lg : Int64) {r : Int32} (h : f_Y_fault T = some r) : Ev (d + 0, 0, 0, 287, 0, [.val (.ref 64)], [], (126, 120, L, [Y, T, H2, H, RV, RU, ST, NS, I0, I1, I2, BO, FI, RG, GU, PU, MA, MN, MS, OT, SC], [256, 192, 384, 320, w, r5, 576, 640, 704], Lg)) ((0, some (.int r), (126, 120, L, [Y, T, H2, H, RV, RU, ST, NS, I0, I1, I2, BO, FI, RG, GU, PU, MA, MN, MS, OT, SC], [256, 192, 384, 320, w, r5, 576, 640, 704], Lg)) : AOut) := by
  suffices key : ∀ o : AOut, ((0, some (.int r), (126, 120, L, [Y, T, H2, H, RV, RU, ST, NS, I0, I1, I2, BO, FI, RG, GU, PU, MA, MN, MS, OT, SC], [256, 192, 384, 320, w, r5, 576, 640, 704], Lg)) : AOut) = o → Ev (d + 0, 0, 0, 287, 0, [.val (.ref 64)], [], (126, 120, L, [Y, T, H2, H, RV, RU, ST, NS, I0, I1, I2, BO, FI, RG, GU, PU, MA, MN, MS, OT, SC], [256, 192, 384, 320, w, r5, 576, 640, 704], Lg)) o from key _ rfl
  intro o ho
  have ze1 := Option.some.inj h
  subst ze1
  exact ev_rete 4 ho (fun n => Eq.refl _)
set_option maxRecDepth 1000000 in
set_option maxHeartbeats 4000000 in
theorem R_f_State_isHeld_0 (d : Nat) (Y T HA HB RA RB ST NS I0 I1 I2 BO FI RG GU PU MA MN MS OT SC : Nat → Nat → Int32) (r0 r1 r2 r3 w r5 r6 r7 r8 : Nat) (L : Nat) (Lg : Int64) (p1 : Int32) {r : Int32} (h : f_State_isHeld NS p1 = some r) : Ev (d + 0, 0, 0, 259, 0, [.val (.ref 512), .val (.int p1)], [], (126, 120, L, [Y, T, HA, HB, RA, RB, ST, NS, I0, I1, I2, BO, FI, RG, GU, PU, MA, MN, MS, OT, SC], [r0, r1, r2, r3, w, r5, r6, r7, r8], Lg)) ((0, some (.int r), (126, 120, L, [Y, T, HA, HB, RA, RB, ST, NS, I0, I1, I2, BO, FI, RG, GU, PU, MA, MN, MS, OT, SC], [r0, r1, r2, r3, w, r5, r6, r7, r8], Lg)) : AOut) := by
  suffices key : ∀ o : AOut, ((0, some (.int r), (126, 120, L, [Y, T, HA, HB, RA, RB, ST, NS, I0, I1, I2, BO, FI, RG, GU, PU, MA, MN, MS, OT, SC], [r0, r1, r2, r3, w, r5, r6, r7, r8], Lg)) : AOut) = o → Ev (d + 0, 0, 0, 259, 0, [.val (.ref 512), .val (.int p1)], [], (126, 120, L, [Y, T, HA, HB, RA, RB, ST, NS, I0, I1, I2, BO, FI, RG, GU, PU, MA, MN, MS, OT, SC], [r0, r1, r2, r3, w, r5, r6, r7, r8], Lg)) o from key _ rfl
  intro o ho
  by_cases zc1 : ((a_shr (NS 0 3) p1) &&& 1) ≠ 0
  · have h := itp h zc1
    suffices e : Ev (d + 0, 0, 0, 259, 15, [.val (.ref 512), .val (.int p1)], [], (126, 120, L, [Y, T, HA, HB, RA, RB, ST, NS, I0, I1, I2, BO, FI, RG, GU, PU, MA, MN, MS, OT, SC], [r0, r1, r2, r3, w, r5, r6, r7, r8], Lg)) o from ev_t (c := ((a_shr (NS 0 3) p1) &&& 1) ≠ 0) _ _ 7 zc1 e (fun n => Eq.refl _)
    have ze2 := Option.some.inj h
    subst ze2
    exact ev_rete 2 ho (fun n => Eq.refl _)
  · have h := itn h zc1
    suffices e : Ev (d + 0, 0, 0, 259, 11, [.val (.ref 512), .val (.int p1)], [], (126, 120, L, [Y, T, HA, HB, RA, RB, ST, NS, I0, I1, I2, BO, FI, RG, GU, PU, MA, MN, MS, OT, SC], [r0, r1, r2, r3, w, r5, r6, r7, r8], Lg)) o from ev_f (c := ((a_shr (NS 0 3) p1) &&& 1) ≠ 0) _ _ 7 zc1 e (fun n => Eq.refl _)
    have ze3 := Option.some.inj h
    subst ze3
    exact ev_rete 3 ho (fun n => Eq.refl _)
set_option maxRecDepth 1000000 in
set_option maxHeartbeats 4000000 in
theorem R_f_Y_roomOf_0 (d : Nat) (Y T HA HB RA RB ST NS I0 I1 I2 BO FI RG GU PU MA MN MS OT SC : Nat → Nat → Int32) (r0 r1 r2 r3 w r5 r6 r7 r8 : Nat) (L : Nat) (Lg : Int64) (p0 : Int32) {r : Int32} (h : f_Y_roomOf p0 = some r) : Ev (d + 0, 0, 0, 347, 0, [.val (.int p0)], [], (126, 120, L, [Y, T, HA, HB, RA, RB, ST, NS, I0, I1, I2, BO, FI, RG, GU, PU, MA, MN, MS, OT, SC], [r0, r1, r2, r3, w, r5, r6, r7, r8], Lg)) ((0, some (.int r), (126, 120, L, [Y, T, HA, HB, RA, RB, ST, NS, I0, I1, I2, BO, FI, RG, GU, PU, MA, MN, MS, OT, SC], [r0, r1, r2, r3, w, r5, r6, r7, r8], Lg)) : AOut) := by
  suffices key : ∀ o : AOut, ((0, some (.int r), (126, 120, L, [Y, T, HA, HB, RA, RB, ST, NS, I0, I1, I2, BO, FI, RG, GU, PU, MA, MN, MS, OT, SC], [r0, r1, r2, r3, w, r5, r6, r7, r8], Lg)) : AOut) = o → Ev (d + 0, 0, 0, 347, 0, [.val (.int p0)], [], (126, 120, L, [Y, T, HA, HB, RA, RB, ST, NS, I0, I1, I2, BO, FI, RG, GU, PU, MA, MN, MS, OT, SC], [r0, r1, r2, r3, w, r5, r6, r7, r8], Lg)) o from key _ rfl
  intro o ho
  suffices e : Ev (d + 0, 0, 0, 347, 3, [.val (.int p0)], [.int (a_rem p0 3)], (126, 120, L, [Y, T, HA, HB, RA, RB, ST, NS, I0, I1, I2, BO, FI, RG, GU, PU, MA, MN, MS, OT, SC], [r0, r1, r2, r3, w, r5, r6, r7, r8], Lg)) o from ev_b 3 e (fun n => Eq.refl _)
  have ze1 := Option.some.inj h
  subst ze1
  exact ev_rete 1 ho (fun n => Eq.refl _)
set_option maxRecDepth 1000000 in
set_option maxHeartbeats 4000000 in
theorem R_f_Y_hourOf_0 (d : Nat) (Y T HA HB RA RB ST NS I0 I1 I2 BO FI RG GU PU MA MN MS OT SC : Nat → Nat → Int32) (r0 r1 r2 r3 w r5 r6 r7 r8 : Nat) (L : Nat) (Lg : Int64) (p0 : Int32) {r : Int32} (h : f_Y_hourOf p0 = some r) : Ev (d + 0, 0, 0, 346, 0, [.val (.int p0)], [], (126, 120, L, [Y, T, HA, HB, RA, RB, ST, NS, I0, I1, I2, BO, FI, RG, GU, PU, MA, MN, MS, OT, SC], [r0, r1, r2, r3, w, r5, r6, r7, r8], Lg)) ((0, some (.int r), (126, 120, L, [Y, T, HA, HB, RA, RB, ST, NS, I0, I1, I2, BO, FI, RG, GU, PU, MA, MN, MS, OT, SC], [r0, r1, r2, r3, w, r5, r6, r7, r8], Lg)) : AOut) := by
  suffices key : ∀ o : AOut, ((0, some (.int r), (126, 120, L, [Y, T, HA, HB, RA, RB, ST, NS, I0, I1, I2, BO, FI, RG, GU, PU, MA, MN, MS, OT, SC], [r0, r1, r2, r3, w, r5, r6, r7, r8], Lg)) : AOut) = o → Ev (d + 0, 0, 0, 346, 0, [.val (.int p0)], [], (126, 120, L, [Y, T, HA, HB, RA, RB, ST, NS, I0, I1, I2, BO, FI, RG, GU, PU, MA, MN, MS, OT, SC], [r0, r1, r2, r3, w, r5, r6, r7, r8], Lg)) o from key _ rfl
  intro o ho
  suffices e : Ev (d + 0, 0, 0, 346, 3, [.val (.int p0)], [.int (p0 / 3)], (126, 120, L, [Y, T, HA, HB, RA, RB, ST, NS, I0, I1, I2, BO, FI, RG, GU, PU, MA, MN, MS, OT, SC], [r0, r1, r2, r3, w, r5, r6, r7, r8], Lg)) o from ev_b 3 e (fun n => Eq.refl _)
  have ze1 := Option.some.inj h
  subst ze1
  exact ev_rete 1 ho (fun n => Eq.refl _)
set_option maxRecDepth 1000000 in
set_option maxHeartbeats 4000000 in
theorem R_f_Board_load_0 (d : Nat) (Y T H H2 RA RB ST NS I0 I1 I2 BO FI RG GU PU MA MN MS OT SC : Nat → Nat → Int32) (r0 r1 r2 r3 w r5 r6 r7 r8 : Nat) (L : Nat) (Lg : Int64) {r : (Nat → Nat → Int32)} (h : f_Board_load H NS BO = some r) : Ev (d + 1, 0, 0, 155, 0, [.val (.ref 768), .val (.ref 192), .val (.ref 512), .val a_unk], [], (126, 120, L, [Y, T, H, H2, RA, RB, ST, NS, I0, I1, I2, BO, FI, RG, GU, PU, MA, MN, MS, OT, SC], [r0, r1, r2, r3, w, r5, r6, r7, r8], Lg)) ((0, none, (126, 120, L, [Y, T, H, H2, RA, RB, ST, NS, I0, I1, I2, r, FI, RG, GU, PU, MA, MN, MS, OT, SC], [r0, r1, r2, r3, w, 192, r6, r7, r8], Lg)) : AOut) := by
  suffices key : ∀ o : AOut, ((0, none, (126, 120, L, [Y, T, H, H2, RA, RB, ST, NS, I0, I1, I2, r, FI, RG, GU, PU, MA, MN, MS, OT, SC], [r0, r1, r2, r3, w, 192, r6, r7, r8], Lg)) : AOut) = o → Ev (d + 1, 0, 0, 155, 0, [.val (.ref 768), .val (.ref 192), .val (.ref 512), .val a_unk], [], (126, 120, L, [Y, T, H, H2, RA, RB, ST, NS, I0, I1, I2, BO, FI, RG, GU, PU, MA, MN, MS, OT, SC], [r0, r1, r2, r3, w, r5, r6, r7, r8], Lg)) o from key _ rfl
  intro o ho
  by_cases zc1 : (0 < 0 ∨ 0 < 0 ∨ 10 < 0 ∨ 10 < (0 : Int32).toNatClampNeg + (10 : Int32).toNatClampNeg ∨ 10 < (0 : Int32).toNatClampNeg + (10 : Int32).toNatClampNeg)
  · exact nos (itp h zc1)
  have h := itn h zc1
  suffices e : Ev (d + 1, 0, 0, 155, 20, [.val (.ref 768), .val (.ref 192), .val (.ref 512), .val a_unk], [], (126, 120, L, [Y, T, H, H2, RA, RB, ST, NS, I0, I1, I2, (u1 BO 1 (a_cpy (NS 1) (BO 1) (0 : Int32).toNatClampNeg (0 : Int32).toNatClampNeg (10 : Int32).toNatClampNeg)), FI, RG, GU, PU, MA, MN, MS, OT, SC], [r0, r1, r2, r3, w, 192, r6, r7, r8], Lg)) o from ev_d (c := (0 < 0 ∨ 0 < 0 ∨ 10 < 0 ∨ 10 < (0 : Int32).toNatClampNeg + (10 : Int32).toNatClampNeg ∨ 10 < (0 : Int32).toNatClampNeg + (10 : Int32).toNatClampNeg)) _ 11 zc1 e (fun n => Eq.refl _)
  by_cases zc2 : (0 < 0 ∨ 0 < 0 ∨ 10 < 0 ∨ 10 < (0 : Int32).toNatClampNeg + (10 : Int32).toNatClampNeg ∨ 10 < (0 : Int32).toNatClampNeg + (10 : Int32).toNatClampNeg)
  · exact nos (itp h zc2)
  have h := itn h zc2
  suffices e : Ev (d + 1, 0, 0, 155, 35, [.val (.ref 768), .val (.ref 192), .val (.ref 512), .val a_unk], [], (126, 120, L, [Y, T, H, H2, RA, RB, ST, NS, I0, I1, I2, (u1 (u1 BO 1 (a_cpy (NS 1) (BO 1) (0 : Int32).toNatClampNeg (0 : Int32).toNatClampNeg (10 : Int32).toNatClampNeg)) 2 (a_cpy (NS 2) ((u1 BO 1 (a_cpy (NS 1) (BO 1) (0 : Int32).toNatClampNeg (0 : Int32).toNatClampNeg (10 : Int32).toNatClampNeg)) 2) (0 : Int32).toNatClampNeg (0 : Int32).toNatClampNeg (10 : Int32).toNatClampNeg)), FI, RG, GU, PU, MA, MN, MS, OT, SC], [r0, r1, r2, r3, w, 192, r6, r7, r8], Lg)) o from ev_d (c := (0 < 0 ∨ 0 < 0 ∨ 10 < 0 ∨ 10 < (0 : Int32).toNatClampNeg + (10 : Int32).toNatClampNeg ∨ 10 < (0 : Int32).toNatClampNeg + (10 : Int32).toNatClampNeg)) _ 8 zc2 e (fun n => Eq.refl _)
  have ze3 := R_fill (d + 0) 771 0 [Y, T, H, H2, RA, RB, ST, NS, I0, I1, I2, (u1 (u1 BO 1 (a_cpy (NS 1) (BO 1) (0 : Int32).toNatClampNeg (0 : Int32).toNatClampNeg (10 : Int32).toNatClampNeg)) 2 (a_cpy (NS 2) ((u1 BO 1 (a_cpy (NS 1) (BO 1) (0 : Int32).toNatClampNeg (0 : Int32).toNatClampNeg (10 : Int32).toNatClampNeg)) 2) (0 : Int32).toNatClampNeg (0 : Int32).toNatClampNeg (10 : Int32).toNatClampNeg)), FI, RG, GU, PU, MA, MN, MS, OT, SC] [r0, r1, r2, r3, w, 192, r6, r7, r8] L Lg 126 120 rfl rfl (Nat.le_of_ble_eq_true rfl) (Nat.le_of_ble_eq_true rfl)
  suffices e : Ev (d + 1, 0, 0, 155, 43, [.val (.ref 768), .val (.ref 192), .val (.ref 512), .val a_unk], [], (126, 120, L, [Y, T, H, H2, RA, RB, ST, NS, I0, I1, I2, (u1 (u1 (u1 BO 1 (a_cpy (NS 1) (BO 1) (0 : Int32).toNatClampNeg (0 : Int32).toNatClampNeg (10 : Int32).toNatClampNeg)) 2 (a_cpy (NS 2) ((u1 BO 1 (a_cpy (NS 1) (BO 1) (0 : Int32).toNatClampNeg (0 : Int32).toNatClampNeg (10 : Int32).toNatClampNeg)) 2) (0 : Int32).toNatClampNeg (0 : Int32).toNatClampNeg (10 : Int32).toNatClampNeg)) 3 (filM ((u1 (u1 BO 1 (a_cpy (NS 1) (BO 1) (0 : Int32).toNatClampNeg (0 : Int32).toNatClampNeg (10 : Int32).toNatClampNeg)) 2 (a_cpy (NS 2) ((u1 BO 1 (a_cpy (NS 1) (BO 1) (0 : Int32).toNatClampNeg (0 : Int32).toNatClampNeg (10 : Int32).toNatClampNeg)) 2) (0 : Int32).toNatClampNeg (0 : Int32).toNatClampNeg (10 : Int32).toNatClampNeg)) 3) 3 0)), FI, RG, GU, PU, MA, MN, MS, OT, SC], [r0, r1, r2, r3, w, 192, r6, r7, r8], Lg)) o from ev_call (fun v μ => (d + 1, 0, 0, 155, 43, [.val (.ref 768), .val (.ref 192), .val (.ref 512), .val a_unk], v.toList ++ [], μ)) 4 ze3 e (fun n => Eq.refl _)
  obtain ⟨BO_11, zh5, h⟩ := bnd h
  suffices e : Ev (d + 1, 0, 0, 155, 45, [.val (.ref 768), .val (.ref 192), .val (.ref 512), .val (.int 0)], [], (126, 120, L, [Y, T, H, H2, RA, RB, ST, NS, I0, I1, I2, (u1 (u1 (u1 BO 1 (a_cpy (NS 1) (BO 1) (0 : Int32).toNatClampNeg (0 : Int32).toNatClampNeg (10 : Int32).toNatClampNeg)) 2 (a_cpy (NS 2) ((u1 BO 1 (a_cpy (NS 1) (BO 1) (0 : Int32).toNatClampNeg (0 : Int32).toNatClampNeg (10 : Int32).toNatClampNeg)) 2) (0 : Int32).toNatClampNeg (0 : Int32).toNatClampNeg (10 : Int32).toNatClampNeg)) 3 (filM ((u1 (u1 BO 1 (a_cpy (NS 1) (BO 1) (0 : Int32).toNatClampNeg (0 : Int32).toNatClampNeg (10 : Int32).toNatClampNeg)) 2 (a_cpy (NS 2) ((u1 BO 1 (a_cpy (NS 1) (BO 1) (0 : Int32).toNatClampNeg (0 : Int32).toNatClampNeg (10 : Int32).toNatClampNeg)) 2) (0 : Int32).toNatClampNeg (0 : Int32).toNatClampNeg (10 : Int32).toNatClampNeg)) 3) 3 0)), FI, RG, GU, PU, MA, MN, MS, OT, SC], [r0, r1, r2, r3, w, 192, r6, r7, r8], Lg)) o from ev_b 2 e (fun n => Eq.refl _)
  refine ev_loop (δ := Unit) (fun a j => (d + 1, 0, 0, 155, 45, [.val (.ref 768), .val (.ref 192), .val (.ref 512), .val (.int a.1)], [], (126, 120, L, [Y, T, H, H2, RA, RB, ST, NS, I0, I1, I2, a.2, FI, RG, GU, PU, MA, MN, MS, OT, SC], [r0, r1, r2, r3, w, 192, r6, r7, r8], Lg))) (fun b => ∀ s10 : Value, Ev (d + 1, 0, 0, 155, 95, [.val (.ref 768), .val (.ref 192), .val (.ref 512), .val s10], [], (126, 120, L, [Y, T, H, H2, RA, RB, ST, NS, I0, I1, I2, b, FI, RG, GU, PU, MA, MN, MS, OT, SC], [r0, r1, r2, r3, w, 192, r6, r7, r8], Lg)) o) ?_ a_F (0, (u1 (u1 (u1 BO 1 (a_cpy (NS 1) (BO 1) (0 : Int32).toNatClampNeg (0 : Int32).toNatClampNeg (10 : Int32).toNatClampNeg)) 2 (a_cpy (NS 2) ((u1 BO 1 (a_cpy (NS 1) (BO 1) (0 : Int32).toNatClampNeg (0 : Int32).toNatClampNeg (10 : Int32).toNatClampNeg)) 2) (0 : Int32).toNatClampNeg (0 : Int32).toNatClampNeg (10 : Int32).toNatClampNeg)) 3 (filM ((u1 (u1 BO 1 (a_cpy (NS 1) (BO 1) (0 : Int32).toNatClampNeg (0 : Int32).toNatClampNeg (10 : Int32).toNatClampNeg)) 2 (a_cpy (NS 2) ((u1 BO 1 (a_cpy (NS 1) (BO 1) (0 : Int32).toNatClampNeg (0 : Int32).toNatClampNeg (10 : Int32).toNatClampNeg)) 2) (0 : Int32).toNatClampNeg (0 : Int32).toNatClampNeg (10 : Int32).toNatClampNeg)) 3) 3 0))) BO_11 zh5 ?_ ()
  · rintro ⟨v1, BO_2⟩ zr9 zh8 zi6 zx7 ⟨⟩
    have zh8 : f_Board_load_l45 H NS v1 BO_2 = some zr9 := zh8
    by_cases zc10 : (H 0 4) ≤ v1
    · have zh8 := itp zh8 zc10
      suffices e : Ev (d + 1, 0, 0, 155, 95, [.val (.ref 768), .val (.ref 192), .val (.ref 512), .val (.int v1)], [], (126, 120, L, [Y, T, H, H2, RA, RB, ST, NS, I0, I1, I2, BO_2, FI, RG, GU, PU, MA, MN, MS, OT, SC], [r0, r1, r2, r3, w, 192, r6, r7, r8], Lg)) o from ev_t (c := (H 0 4) ≤ v1) _ _ 4 zc10 e (fun n => Eq.refl _)
      exact ev_b 0 (zx7 _ (Option.some.inj zh8).symm (.int v1)) (fun n => Eq.refl _)
    · have zh8 := itn zh8 zc10
      suffices e : Ev (d + 1, 0, 0, 155, 53, [.val (.ref 768), .val (.ref 192), .val (.ref 512), .val (.int v1)], [], (126, 120, L, [Y, T, H, H2, RA, RB, ST, NS, I0, I1, I2, BO_2, FI, RG, GU, PU, MA, MN, MS, OT, SC], [r0, r1, r2, r3, w, 192, r6, r7, r8], Lg)) o from ev_f (c := (H 0 4) ≤ v1) _ _ 4 zc10 e (fun n => Eq.refl _)
      obtain ⟨x3, zh11, zh8⟩ := bnd zh8
      have zh11 : f_State_isHeld NS v1 = some x3 := zh11
      have ze12 := R_f_State_isHeld_0 (d + 0) Y T H H2 RA RB ST NS I0 I1 I2 BO_2 FI RG GU PU MA MN MS OT SC r0 r1 r2 r3 w 192 r6 r7 r8 L Lg v1 zh11
      suffices e : Ev (d + 1, 0, 0, 155, 58, [.val (.ref 768), .val (.ref 192), .val (.ref 512), .val (.int v1)], [.int x3], (126, 120, L, [Y, T, H, H2, RA, RB, ST, NS, I0, I1, I2, BO_2, FI, RG, GU, PU, MA, MN, MS, OT, SC], [r0, r1, r2, r3, w, 192, r6, r7, r8], Lg)) o from ev_call (fun v μ => (d + 1, 0, 0, 155, 58, [.val (.ref 768), .val (.ref 192), .val (.ref 512), .val (.int v1)], v.toList ++ [], μ)) 3 ze12 e (fun n => Eq.refl _)
      by_cases zc13 : x3 = 0
      · have zh8 := itp zh8 zc13
        suffices e : Ev (d + 1, 0, 0, 155, 89, [.val (.ref 768), .val (.ref 192), .val (.ref 512), .val (.int v1)], [], (126, 120, L, [Y, T, H, H2, RA, RB, ST, NS, I0, I1, I2, BO_2, FI, RG, GU, PU, MA, MN, MS, OT, SC], [r0, r1, r2, r3, w, 192, r6, r7, r8], Lg)) o from ev_t (c := x3 = 0) _ _ 1 zc13 e (fun n => Eq.refl _)
        exact ev_b 2 (zi6 _ (Option.some.inj zh8).symm ()) (fun n => Eq.refl _)
      · have zh8 := itn zh8 zc13
        suffices e : Ev (d + 1, 0, 0, 155, 61, [.val (.ref 768), .val (.ref 192), .val (.ref 512), .val (.int v1)], [], (126, 120, L, [Y, T, H, H2, RA, RB, ST, NS, I0, I1, I2, BO_2, FI, RG, GU, PU, MA, MN, MS, OT, SC], [r0, r1, r2, r3, w, 192, r6, r7, r8], Lg)) o from ev_f (c := x3 = 0) _ _ 1 zc13 e (fun n => Eq.refl _)
        obtain ⟨x4, zh14, zh8⟩ := bnd zh8
        have zh14 : rdx (H 11) 4 v1 = some x4 := zh14
        suffices e : Ev (d + 1, 0, 0, 155, 71, [.val (.ref 768), .val (.ref 192), .val (.ref 512), .val (.int v1)], [.int x4, .ref 771], (126, 120, L, [Y, T, H, H2, RA, RB, ST, NS, I0, I1, I2, BO_2, FI, RG, GU, PU, MA, MN, MS, OT, SC], [r0, r1, r2, r3, w, 192, r6, r7, r8], Lg)) o from ev_opt (fun x4 => (d + 1, 0, 0, 155, 71, [.val (.ref 768), .val (.ref 192), .val (.ref 512), .val (.int v1)], [.int x4, .ref 771], (126, 120, L, [Y, T, H, H2, RA, RB, ST, NS, I0, I1, I2, BO_2, FI, RG, GU, PU, MA, MN, MS, OT, SC], [r0, r1, r2, r3, w, 192, r6, r7, r8], Lg))) 6 zh14 e (fun n => Eq.refl _)
        obtain ⟨x5, zh15, zh8⟩ := bnd zh8
        have zh15 : f_Y_roomOf x4 = some x5 := zh15
        have ze16 := R_f_Y_roomOf_0 (d + 0) Y T H H2 RA RB ST NS I0 I1 I2 BO_2 FI RG GU PU MA MN MS OT SC r0 r1 r2 r3 w 192 r6 r7 r8 L Lg x4 zh15
        suffices e : Ev (d + 1, 0, 0, 155, 74, [.val (.ref 768), .val (.ref 192), .val (.ref 512), .val (.int v1)], [.int x5, .ref 771], (126, 120, L, [Y, T, H, H2, RA, RB, ST, NS, I0, I1, I2, BO_2, FI, RG, GU, PU, MA, MN, MS, OT, SC], [r0, r1, r2, r3, w, 192, r6, r7, r8], Lg)) o from ev_call (fun v μ => (d + 1, 0, 0, 155, 74, [.val (.ref 768), .val (.ref 192), .val (.ref 512), .val (.int v1)], v.toList ++ [.ref 771], μ)) 1 ze16 e (fun n => Eq.refl _)
        obtain ⟨x6, zh17, zh8⟩ := bnd zh8
        have zh17 : rdx (BO_2 3) 3 x5 = some x6 := zh17
        suffices e : Ev (d + 1, 0, 0, 155, 76, [.val (.ref 768), .val (.ref 192), .val (.ref 512), .val (.int v1)], [.int x6, .int x5, .ref 771], (126, 120, L, [Y, T, H, H2, RA, RB, ST, NS, I0, I1, I2, BO_2, FI, RG, GU, PU, MA, MN, MS, OT, SC], [r0, r1, r2, r3, w, 192, r6, r7, r8], Lg)) o from ev_opt (fun x6 => (d + 1, 0, 0, 155, 76, [.val (.ref 768), .val (.ref 192), .val (.ref 512), .val (.int v1)], [.int x6, .int x5, .ref 771], (126, 120, L, [Y, T, H, H2, RA, RB, ST, NS, I0, I1, I2, BO_2, FI, RG, GU, PU, MA, MN, MS, OT, SC], [r0, r1, r2, r3, w, 192, r6, r7, r8], Lg))) 2 zh17 e (fun n => Eq.refl _)
        obtain ⟨x7, zh18, zh8⟩ := bnd zh8
        have zh18 : rdx (H 11) 4 v1 = some x7 := zh18
        suffices e : Ev (d + 1, 0, 0, 155, 83, [.val (.ref 768), .val (.ref 192), .val (.ref 512), .val (.int v1)], [.int x7, .int 1, .int x6, .int x5, .ref 771], (126, 120, L, [Y, T, H, H2, RA, RB, ST, NS, I0, I1, I2, BO_2, FI, RG, GU, PU, MA, MN, MS, OT, SC], [r0, r1, r2, r3, w, 192, r6, r7, r8], Lg)) o from ev_opt (fun x7 => (d + 1, 0, 0, 155, 83, [.val (.ref 768), .val (.ref 192), .val (.ref 512), .val (.int v1)], [.int x7, .int 1, .int x6, .int x5, .ref 771], (126, 120, L, [Y, T, H, H2, RA, RB, ST, NS, I0, I1, I2, BO_2, FI, RG, GU, PU, MA, MN, MS, OT, SC], [r0, r1, r2, r3, w, 192, r6, r7, r8], Lg))) 5 zh18 e (fun n => Eq.refl _)
        obtain ⟨x8, zh19, zh8⟩ := bnd zh8
        have zh19 : f_Y_hourOf x7 = some x8 := zh19
        have ze20 := R_f_Y_hourOf_0 (d + 0) Y T H H2 RA RB ST NS I0 I1 I2 BO_2 FI RG GU PU MA MN MS OT SC r0 r1 r2 r3 w 192 r6 r7 r8 L Lg x7 zh19
        suffices e : Ev (d + 1, 0, 0, 155, 86, [.val (.ref 768), .val (.ref 192), .val (.ref 512), .val (.int v1)], [.int x8, .int 1, .int x6, .int x5, .ref 771], (126, 120, L, [Y, T, H, H2, RA, RB, ST, NS, I0, I1, I2, BO_2, FI, RG, GU, PU, MA, MN, MS, OT, SC], [r0, r1, r2, r3, w, 192, r6, r7, r8], Lg)) o from ev_call (fun v μ => (d + 1, 0, 0, 155, 86, [.val (.ref 768), .val (.ref 192), .val (.ref 512), .val (.int v1)], v.toList ++ [.int 1, .int x6, .int x5, .ref 771], μ)) 1 ze20 e (fun n => Eq.refl _)
        obtain ⟨j9, zh21, zh8⟩ := bnd zh8
        have zh21 : ixx 3 x5 = some j9 := zh21
        suffices e : Ev (d + 1, 0, 0, 155, 89, [.val (.ref 768), .val (.ref 192), .val (.ref 512), .val (.int v1)], [], (126, 120, L, [Y, T, H, H2, RA, RB, ST, NS, I0, I1, I2, (u2 BO_2 3 j9 (x6 ||| (a_shl 1 x8))), FI, RG, GU, PU, MA, MN, MS, OT, SC], [r0, r1, r2, r3, w, 192, r6, r7, r8], Lg)) o from ev_opt (fun j9 => (d + 1, 0, 0, 155, 89, [.val (.ref 768), .val (.ref 192), .val (.ref 512), .val (.int v1)], [], (126, 120, L, [Y, T, H, H2, RA, RB, ST, NS, I0, I1, I2, (u2 BO_2 3 j9 (x6 ||| (a_shl 1 x8))), FI, RG, GU, PU, MA, MN, MS, OT, SC], [r0, r1, r2, r3, w, 192, r6, r7, r8], Lg))) 3 zh21 e (fun n => Eq.refl _)
        exact ev_b 2 (zi6 _ (Option.some.inj zh8).symm ()) (fun n => Eq.refl _)
  · skip
    intro s10
    have ze22 := Option.some.inj h
    subst ze22
    exact ev_rete 1 ho (fun n => Eq.refl _)
