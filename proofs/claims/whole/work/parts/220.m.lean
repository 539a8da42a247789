/-! printed by program (gen/emitm.py): the reference's methods run as their functions say -/
set_option maxRecDepth 1000000 in
set_option maxHeartbeats 4000000 in
theorem R_f_Rule_readComparison_B_1 (d : Nat) (rc : (Nat → (Nat → Nat → Int32) → (Nat → Nat → Int32) → Nat → Int32 → Option ((Nat → Nat → Int32) × (Nat → Nat → Int32) × Nat)))
    (zrc0 : ∀ (Y T HA HB RU RV ST NS I0 I1 I2 BO FI RG GU PU MA MN MS OT SC : Nat → Nat → Int32) (r0 r1 r2 r3 w r5 r6 r7 r8 : Nat) (L : Nat) (Lg : Int64) (p2 : Int32) (r : (Nat → Nat → Int32) × (Nat → Nat → Int32) × Nat), rc 0 T RU w p2 = some r → Ev (d + 6, 0, 0, 243, 0, [.val (.ref 320), .val (.ref 128), .val (.int p2), .val a_unk], [], (126, 120, L, [Y, T, HA, HB, RU, RV, ST, NS, I0, I1, I2, BO, FI, RG, GU, PU, MA, MN, MS, OT, SC], [r0, r1, r2, r3, w, r5, r6, r7, r8], Lg)) ((0, none, (126, 120, L, [Y, r.1, HA, HB, r.2.1, RV, ST, NS, I0, I1, I2, BO, FI, RG, GU, PU, MA, MN, MS, OT, SC], [r0, r1, r2, r3, r.2.2, r5, r6, r7, r8], Lg)) : AOut))
    (zrc1 : ∀ (Y T HA HB RU RV ST NS I0 I1 I2 BO FI RG GU PU MA MN MS OT SC : Nat → Nat → Int32) (r0 r1 r2 r3 w r5 r6 r7 r8 : Nat) (L : Nat) (Lg : Int64) (p2 : Int32) (r : (Nat → Nat → Int32) × (Nat → Nat → Int32) × Nat), rc 1 T RU w p2 = some r → Ev (d + 6, 0, 0, 244, 0, [.val (.ref 320), .val (.ref 128), .val (.int p2), .val a_unk], [], (126, 120, L, [Y, T, HA, HB, RU, RV, ST, NS, I0, I1, I2, BO, FI, RG, GU, PU, MA, MN, MS, OT, SC], [r0, r1, r2, r3, w, r5, r6, r7, r8], Lg)) ((0, none, (126, 120, L, [Y, r.1, HA, HB, r.2.1, RV, ST, NS, I0, I1, I2, BO, FI, RG, GU, PU, MA, MN, MS, OT, SC], [r0, r1, r2, r3, r.2.2, r5, r6, r7, r8], Lg)) : AOut))
    (zrc2 : ∀ (Y T HA HB RU RV ST NS I0 I1 I2 BO FI RG GU PU MA MN MS OT SC : Nat → Nat → Int32) (r0 r1 r2 r3 w r5 r6 r7 r8 : Nat) (L : Nat) (Lg : Int64) (p2 : Int32) (r : (Nat → Nat → Int32) × (Nat → Nat → Int32) × Nat), rc 2 T RU w p2 = some r → Ev (d + 6, 0, 0, 245, 0, [.val (.ref 320), .val (.ref 128), .val (.int p2)], [], (126, 120, L, [Y, T, HA, HB, RU, RV, ST, NS, I0, I1, I2, BO, FI, RG, GU, PU, MA, MN, MS, OT, SC], [r0, r1, r2, r3, w, r5, r6, r7, r8], Lg)) ((0, none, (126, 120, L, [Y, r.1, HA, HB, r.2.1, RV, ST, NS, I0, I1, I2, BO, FI, RG, GU, PU, MA, MN, MS, OT, SC], [r0, r1, r2, r3, r.2.2, r5, r6, r7, r8], Lg)) : AOut))
    (zrc3 : ∀ (Y T HA HB RU RV ST NS I0 I1 I2 BO FI RG GU PU MA MN MS OT SC : Nat → Nat → Int32) (r0 r1 r2 r3 w r5 r6 r7 r8 : Nat) (L : Nat) (Lg : Int64) (p2 : Int32) (r : (Nat → Nat → Int32) × (Nat → Nat → Int32) × Nat), rc 3 T RU w p2 = some r → Ev (d + 6, 0, 0, 248, 0, [.val (.ref 320), .val (.ref 128), .val (.int p2), .val a_unk, .val a_unk], [], (126, 120, L, [Y, T, HA, HB, RU, RV, ST, NS, I0, I1, I2, BO, FI, RG, GU, PU, MA, MN, MS, OT, SC], [r0, r1, r2, r3, w, r5, r6, r7, r8], Lg)) ((0, none, (126, 120, L, [Y, r.1, HA, HB, r.2.1, RV, ST, NS, I0, I1, I2, BO, FI, RG, GU, PU, MA, MN, MS, OT, SC], [r0, r1, r2, r3, r.2.2, r5, r6, r7, r8], Lg)) : AOut))
    (zrc4 : ∀ (Y T HA HB RU RV ST NS I0 I1 I2 BO FI RG GU PU MA MN MS OT SC : Nat → Nat → Int32) (r0 r1 r2 r3 w r5 r6 r7 r8 : Nat) (L : Nat) (Lg : Int64) (p2 : Int32) (r : (Nat → Nat → Int32) × (Nat → Nat → Int32) × Nat), rc 4 T RU w p2 = some r → Ev (d + 6, 0, 0, 249, 0, [.val (.ref 320), .val (.ref 128), .val (.int p2), .val a_unk], [], (126, 120, L, [Y, T, HA, HB, RU, RV, ST, NS, I0, I1, I2, BO, FI, RG, GU, PU, MA, MN, MS, OT, SC], [r0, r1, r2, r3, w, r5, r6, r7, r8], Lg)) ((0, none, (126, 120, L, [Y, r.1, HA, HB, r.2.1, RV, ST, NS, I0, I1, I2, BO, FI, RG, GU, PU, MA, MN, MS, OT, SC], [r0, r1, r2, r3, r.2.2, r5, r6, r7, r8], Lg)) : AOut))
    (zrc5 : ∀ (Y T HA HB RU RV ST NS I0 I1 I2 BO FI RG GU PU MA MN MS OT SC : Nat → Nat → Int32) (r0 r1 r2 r3 w r5 r6 r7 r8 : Nat) (L : Nat) (Lg : Int64) (p2 : Int32) (r : (Nat → Nat → Int32) × (Nat → Nat → Int32) × Nat), rc 5 T RU w p2 = some r → Ev (d + 6, 0, 0, 250, 0, [.val (.ref 320), .val (.ref 128), .val (.int p2), .val a_unk], [], (126, 120, L, [Y, T, HA, HB, RU, RV, ST, NS, I0, I1, I2, BO, FI, RG, GU, PU, MA, MN, MS, OT, SC], [r0, r1, r2, r3, w, r5, r6, r7, r8], Lg)) ((0, none, (126, 120, L, [Y, r.1, HA, HB, r.2.1, RV, ST, NS, I0, I1, I2, BO, FI, RG, GU, PU, MA, MN, MS, OT, SC], [r0, r1, r2, r3, r.2.2, r5, r6, r7, r8], Lg)) : AOut))
    (zrc6 : ∀ (Y T HA HB RU RV ST NS I0 I1 I2 BO FI RG GU PU MA MN MS OT SC : Nat → Nat → Int32) (r0 r1 r2 r3 w r5 r6 r7 r8 : Nat) (L : Nat) (Lg : Int64) (p2 : Int32) (r : (Nat → Nat → Int32) × (Nat → Nat → Int32) × Nat), rc 6 T RU w p2 = some r → Ev (d + 6, 0, 0, 247, 0, [.val (.ref 320), .val (.ref 128), .val (.int p2), .val a_unk], [], (126, 120, L, [Y, T, HA, HB, RU, RV, ST, NS, I0, I1, I2, BO, FI, RG, GU, PU, MA, MN, MS, OT, SC], [r0, r1, r2, r3, w, r5, r6, r7, r8], Lg)) ((0, none, (126, 120, L, [Y, r.1, HA, HB, r.2.1, RV, ST, NS, I0, I1, I2, BO, FI, RG, GU, PU, MA, MN, MS, OT, SC], [r0, r1, r2, r3, r.2.2, r5, r6, r7, r8], Lg)) : AOut))
    (Y T HA HB RU RV ST NS I0 I1 I2 BO FI RG GU PU MA MN MS OT SC : Nat → Nat → Int32) (r0 r1 r2 r3 w r5 r6 r7 r8 : Nat) (L : Nat) (Lg : Int64) (p2 : Int32) {r : (Nat → Nat → Int32) × (Nat → Nat → Int32) × Nat} (h : f_Rule_readComparison_B rc T RU w p2 = some r) : Ev (d + 7, 0, 0, 247, 0, [.val (.ref 320), .val (.ref 128), .val (.int p2), .val a_unk], [], (126, 120, L, [Y, T, HA, HB, RU, RV, ST, NS, I0, I1, I2, BO, FI, RG, GU, PU, MA, MN, MS, OT, SC], [r0, r1, r2, r3, w, r5, r6, r7, r8], Lg)) ((0, none, (126, 120, L, [Y, r.1, HA, HB, r.2.1, RV, ST, NS, I0, I1, I2, BO, FI, RG, GU, PU, MA, MN, MS, OT, SC], [r0, r1, r2, r3, r.2.2, r5, r6, r7, r8], Lg)) : AOut) := by
  suffices key : ∀ o : AOut, ((0, none, (126, 120, L, [Y, r.1, HA, HB, r.2.1, RV, ST, NS, I0, I1, I2, BO, FI, RG, GU, PU, MA, MN, MS, OT, SC], [r0, r1, r2, r3, r.2.2, r5, r6, r7, r8], Lg)) : AOut) = o → Ev (d + 7, 0, 0, 247, 0, [.val (.ref 320), .val (.ref 128), .val (.int p2), .val a_unk], [], (126, 120, L, [Y, T, HA, HB, RU, RV, ST, NS, I0, I1, I2, BO, FI, RG, GU, PU, MA, MN, MS, OT, SC], [r0, r1, r2, r3, w, r5, r6, r7, r8], Lg)) o from key _ rfl
  intro o ho
  obtain ⟨⟨T_1, RU_2, w3⟩, zh1, h⟩ := bnd h
  have zh1 : rc 3 T RU w p2 = some (T_1, RU_2, w3) := zh1
  have ze2 := zrc3 Y T HA HB RU RV ST NS I0 I1 I2 BO FI RG GU PU MA MN MS OT SC r0 r1 r2 r3 w r5 r6 r7 r8 L Lg p2 _ zh1
  suffices e : Ev (d + 7, 0, 0, 247, 6, [.val (.ref 320), .val (.ref 128), .val (.int p2), .val a_unk], [], (126, 120, L, [Y, T_1, HA, HB, RU_2, RV, ST, NS, I0, I1, I2, BO, FI, RG, GU, PU, MA, MN, MS, OT, SC], [r0, r1, r2, r3, w3, r5, r6, r7, r8], Lg)) o from ev_call (fun v μ => (d + 7, 0, 0, 247, 6, [.val (.ref 320), .val (.ref 128), .val (.int p2), .val a_unk], v.toList ++ [], μ)) 4 ze2 e (fun n => Eq.refl _)
  obtain ⟨x4, zh3, h⟩ := bnd h
  have zh3 : f_Tape_failed T_1 = some x4 := zh3
  have ze4 := R_f_Tape_failed_0 (d + 6) Y T_1 HA HB RU_2 RV ST NS I0 I1 I2 BO FI RG GU PU MA MN MS OT SC r0 r1 r2 r3 w3 r5 r6 r7 r8 L Lg zh3
  suffices e : Ev (d + 7, 0, 0, 247, 10, [.val (.ref 320), .val (.ref 128), .val (.int p2), .val a_unk], [.int x4], (126, 120, L, [Y, T_1, HA, HB, RU_2, RV, ST, NS, I0, I1, I2, BO, FI, RG, GU, PU, MA, MN, MS, OT, SC], [r0, r1, r2, r3, w3, r5, r6, r7, r8], Lg)) o from ev_call (fun v μ => (d + 7, 0, 0, 247, 10, [.val (.ref 320), .val (.ref 128), .val (.int p2), .val a_unk], v.toList ++ [], μ)) 2 ze4 e (fun n => Eq.refl _)
  by_cases zc5 : x4 = 0
  · have h := itp h zc5
    suffices e : Ev (d + 7, 0, 0, 247, 14, [.val (.ref 320), .val (.ref 128), .val (.int p2), .val a_unk], [], (126, 120, L, [Y, T_1, HA, HB, RU_2, RV, ST, NS, I0, I1, I2, BO, FI, RG, GU, PU, MA, MN, MS, OT, SC], [r0, r1, r2, r3, w3, r5, r6, r7, r8], Lg)) o from ev_t (c := x4 = 0) _ _ 1  zc5 e (fun n => Eq.refl _)
    obtain ⟨x5, zh6, h⟩ := bnd h
    have zh6 : f_Tape_atSign T_1 60 = some x5 := zh6
    have ze7 := R_f_Tape_atSign_0 (d + 6) Y T_1 HA HB RU_2 RV ST NS I0 I1 I2 BO FI RG GU PU MA MN MS OT SC r0 r1 r2 r3 w3 r5 r6 r7 r8 L Lg 60 zh6
    suffices e : Ev (d + 7, 0, 0, 247, 20, [.val (.ref 320), .val (.ref 128), .val (.int p2), .val a_unk], [.int x5], (126, 120, L, [Y, T_1, HA, HB, RU_2, RV, ST, NS, I0, I1, I2, BO, FI, RG, GU, PU, MA, MN, MS, OT, SC], [r0, r1, r2, r3, w3, r5, r6, r7, r8], Lg)) o from ev_call (fun v μ => (d + 7, 0, 0, 247, 20, [.val (.ref 320), .val (.ref 128), .val (.int p2), .val a_unk], v.toList ++ [], μ)) 3 ze7 e (fun n => Eq.refl _)
    obtain ⟨zt8, zh9, h⟩ := bnd h
    have zj10 : ∀ (v7 : Int32), v7 = zt8 → Ev (d + 7, 0, 0, 247, 47, [.val (.ref 320), .val (.ref 128), .val (.int p2), .val a_unk], [.int v7], (126, 120, L, [Y, T_1, HA, HB, RU_2, RV, ST, NS, I0, I1, I2, BO, FI, RG, GU, PU, MA, MN, MS, OT, SC], [r0, r1, r2, r3, w3, r5, r6, r7, r8], Lg)) o := by
      intro v7 ze11
      subst ze11
      obtain ⟨zt12, zh13, h⟩ := bnd h
      have zj14 : zt12 = .inl () → Ev (d + 7, 0, 0, 247, 70, [.val (.ref 320), .val (.ref 128), .val (.int p2), .val (.int v7)], [], (126, 120, L, [Y, T_1, HA, HB, RU_2, RV, ST, NS, I0, I1, I2, BO, FI, RG, GU, PU, MA, MN, MS, OT, SC], [r0, r1, r2, r3, w3, r5, r6, r7, r8], Lg)) o := by
        intro ze15
        have h := sum_l h ze15
        obtain ⟨⟨T_10, w11⟩, zh16, h⟩ := bnd h
        have zh16 : f_Tape_advance T_1 = some (T_10, w11) := zh16
        have ze17 := R_f_Tape_advance_0 (d + 1) Y T_1 HA HB RU_2 RV ST NS I0 I1 I2 BO FI RG GU PU MA MN MS OT SC r0 r1 r2 r3 w3 r5 r6 r7 r8 L Lg zh16
        suffices e : Ev (d + 7, 0, 0, 247, 74, [.val (.ref 320), .val (.ref 128), .val (.int p2), .val (.int v7)], [], (126, 120, L, [Y, T_10, HA, HB, RU_2, RV, ST, NS, I0, I1, I2, BO, FI, RG, GU, PU, MA, MN, MS, OT, SC], [r0, r1, r2, r3, w11, r5, r6, r7, r8], Lg)) o from ev_call (fun v μ => (d + 7, 0, 0, 247, 74, [.val (.ref 320), .val (.ref 128), .val (.int p2), .val (.int v7)], v.toList ++ [], μ)) 2 ze17 e (fun n => Eq.refl _)
        obtain ⟨⟨T_12, RU_13, w14⟩, zh18, h⟩ := bnd h
        have zh18 : rc 3 T_10 RU_2 w11 p2 = some (T_12, RU_13, w14) := zh18
        have ze19 := zrc3 Y T_10 HA HB RU_2 RV ST NS I0 I1 I2 BO FI RG GU PU MA MN MS OT SC r0 r1 r2 r3 w11 r5 r6 r7 r8 L Lg p2 _ zh18
        suffices e : Ev (d + 7, 0, 0, 247, 80, [.val (.ref 320), .val (.ref 128), .val (.int p2), .val (.int v7)], [], (126, 120, L, [Y, T_12, HA, HB, RU_13, RV, ST, NS, I0, I1, I2, BO, FI, RG, GU, PU, MA, MN, MS, OT, SC], [r0, r1, r2, r3, w14, r5, r6, r7, r8], Lg)) o from ev_call (fun v μ => (d + 7, 0, 0, 247, 80, [.val (.ref 320), .val (.ref 128), .val (.int p2), .val (.int v7)], v.toList ++ [], μ)) 4 ze19 e (fun n => Eq.refl _)
        obtain ⟨RU_15, zh20, h⟩ := bnd h
        have zh20 : f_Rule_emit RU_13 v7 = some RU_15 := zh20
        have ze21 := R_f_Rule_emit_1 (d + 6) Y T_12 HA HB RU_13 RV ST NS I0 I1 I2 BO FI RG GU PU MA MN MS OT SC r0 r1 r2 r3 w14 r5 r6 r7 r8 L Lg v7 zh20
        suffices e : Ev (d + 7, 0, 0, 247, 85, [.val (.ref 320), .val (.ref 128), .val (.int p2), .val (.int v7)], [], (126, 120, L, [Y, T_12, HA, HB, RU_15, RV, ST, NS, I0, I1, I2, BO, FI, RG, GU, PU, MA, MN, MS, OT, SC], [r0, r1, r2, r3, w14, r5, r6, r7, r8], Lg)) o from ev_call (fun v μ => (d + 7, 0, 0, 247, 85, [.val (.ref 320), .val (.ref 128), .val (.int p2), .val (.int v7)], v.toList ++ [], μ)) 3 ze21 e (fun n => Eq.refl _)
        have ze22 := Option.some.inj h
        subst ze22
        exact ev_rete 1 ho (fun n => Eq.refl _)
      by_cases zc23 : v7 ≠ 205
      · have zh13 := itp zh13 zc23
        suffices e : Ev (d + 7, 0, 0, 247, 70, [.val (.ref 320), .val (.ref 128), .val (.int p2), .val (.int v7)], [], (126, 120, L, [Y, T_1, HA, HB, RU_2, RV, ST, NS, I0, I1, I2, BO, FI, RG, GU, PU, MA, MN, MS, OT, SC], [r0, r1, r2, r3, w3, r5, r6, r7, r8], Lg)) o from ev_t (c := v7 ≠ 205) _ _ 4  zc23 e (fun n => Eq.refl _)
        exact ev_b 0 (zj14  (Option.some.inj zh13).symm ) (fun n => Eq.refl _)
      · have zh13 := itn zh13 zc23
        suffices e : Ev (d + 7, 0, 0, 247, 55, [.val (.ref 320), .val (.ref 128), .val (.int p2), .val (.int v7)], [], (126, 120, L, [Y, T_1, HA, HB, RU_2, RV, ST, NS, I0, I1, I2, BO, FI, RG, GU, PU, MA, MN, MS, OT, SC], [r0, r1, r2, r3, w3, r5, r6, r7, r8], Lg)) o from ev_f (c := v7 ≠ 205) _ _ 4  zc23 e (fun n => Eq.refl _)
        obtain ⟨x8, zh24, zh13⟩ := bnd zh13
        have zh24 : f_Tape_atSign T_1 61 = some x8 := zh24
        have ze25 := R_f_Tape_atSign_0 (d + 6) Y T_1 HA HB RU_2 RV ST NS I0 I1 I2 BO FI RG GU PU MA MN MS OT SC r0 r1 r2 r3 w3 r5 r6 r7 r8 L Lg 61 zh24
        suffices e : Ev (d + 7, 0, 0, 247, 61, [.val (.ref 320), .val (.ref 128), .val (.int p2), .val (.int v7)], [.int x8], (126, 120, L, [Y, T_1, HA, HB, RU_2, RV, ST, NS, I0, I1, I2, BO, FI, RG, GU, PU, MA, MN, MS, OT, SC], [r0, r1, r2, r3, w3, r5, r6, r7, r8], Lg)) o from ev_call (fun v μ => (d + 7, 0, 0, 247, 61, [.val (.ref 320), .val (.ref 128), .val (.int p2), .val (.int v7)], v.toList ++ [], μ)) 3 ze25 e (fun n => Eq.refl _)
        by_cases zc26 : x8 ≠ 0
        · have zh13 := itp zh13 zc26
          suffices e : Ev (d + 7, 0, 0, 247, 70, [.val (.ref 320), .val (.ref 128), .val (.int p2), .val (.int v7)], [], (126, 120, L, [Y, T_1, HA, HB, RU_2, RV, ST, NS, I0, I1, I2, BO, FI, RG, GU, PU, MA, MN, MS, OT, SC], [r0, r1, r2, r3, w3, r5, r6, r7, r8], Lg)) o from ev_t (c := x8 ≠ 0) _ _ 1  zc26 e (fun n => Eq.refl _)
          exact ev_b 0 (zj14  (Option.some.inj zh13).symm ) (fun n => Eq.refl _)
        · have zh13 := itn zh13 zc26
          suffices e : Ev (d + 7, 0, 0, 247, 64, [.val (.ref 320), .val (.ref 128), .val (.int p2), .val (.int v7)], [], (126, 120, L, [Y, T_1, HA, HB, RU_2, RV, ST, NS, I0, I1, I2, BO, FI, RG, GU, PU, MA, MN, MS, OT, SC], [r0, r1, r2, r3, w3, r5, r6, r7, r8], Lg)) o from ev_f (c := x8 ≠ 0) _ _ 1  zc26 e (fun n => Eq.refl _)
          obtain ⟨T_9, zh27, zh13⟩ := bnd zh13
          have zh27 : f_Tape_fail T_1 1 = some T_9 := zh27
          have ze28 := R_f_Tape_fail_0 (d + 6) Y T_1 HA HB RU_2 RV ST NS I0 I1 I2 BO FI RG GU PU MA MN MS OT SC r0 r1 r2 r3 w3 r5 r6 r7 r8 L Lg 1 zh27
          suffices e : Ev (d + 7, 0, 0, 247, 69, [.val (.ref 320), .val (.ref 128), .val (.int p2), .val (.int v7)], [], (126, 120, L, [Y, T_9, HA, HB, RU_2, RV, ST, NS, I0, I1, I2, BO, FI, RG, GU, PU, MA, MN, MS, OT, SC], [r0, r1, r2, r3, w3, r5, r6, r7, r8], Lg)) o from ev_call (fun v μ => (d + 7, 0, 0, 247, 69, [.val (.ref 320), .val (.ref 128), .val (.int p2), .val (.int v7)], v.toList ++ [], μ)) 3 ze28 e (fun n => Eq.refl _)
          have zh29 := sum_r h (Option.some.inj zh13).symm
          have ze30 := Option.some.inj zh29
          subst ze30
          exact ev_rete 1 ho (fun n => Eq.refl _)
    by_cases zc31 : x5 = 0
    · have zh9 := itp zh9 zc31
      suffices e : Ev (d + 7, 0, 0, 247, 29, [.val (.ref 320), .val (.ref 128), .val (.int p2), .val a_unk], [], (126, 120, L, [Y, T_1, HA, HB, RU_2, RV, ST, NS, I0, I1, I2, BO, FI, RG, GU, PU, MA, MN, MS, OT, SC], [r0, r1, r2, r3, w3, r5, r6, r7, r8], Lg)) o from ev_t (c := x5 = 0) _ _ 1  zc31 e (fun n => Eq.refl _)
      obtain ⟨x6, zh32, zh9⟩ := bnd zh9
      have zh32 : f_Tape_atSign T_1 62 = some x6 := zh32
      have ze33 := R_f_Tape_atSign_0 (d + 6) Y T_1 HA HB RU_2 RV ST NS I0 I1 I2 BO FI RG GU PU MA MN MS OT SC r0 r1 r2 r3 w3 r5 r6 r7 r8 L Lg 62 zh32
      suffices e : Ev (d + 7, 0, 0, 247, 35, [.val (.ref 320), .val (.ref 128), .val (.int p2), .val a_unk], [.int x6], (126, 120, L, [Y, T_1, HA, HB, RU_2, RV, ST, NS, I0, I1, I2, BO, FI, RG, GU, PU, MA, MN, MS, OT, SC], [r0, r1, r2, r3, w3, r5, r6, r7, r8], Lg)) o from ev_call (fun v μ => (d + 7, 0, 0, 247, 35, [.val (.ref 320), .val (.ref 128), .val (.int p2), .val a_unk], v.toList ++ [], μ)) 3 ze33 e (fun n => Eq.refl _)
      by_cases zc34 : x6 = 0
      · have zh9 := itp zh9 zc34
        suffices e : Ev (d + 7, 0, 0, 247, 44, [.val (.ref 320), .val (.ref 128), .val (.int p2), .val a_unk], [], (126, 120, L, [Y, T_1, HA, HB, RU_2, RV, ST, NS, I0, I1, I2, BO, FI, RG, GU, PU, MA, MN, MS, OT, SC], [r0, r1, r2, r3, w3, r5, r6, r7, r8], Lg)) o from ev_t (c := x6 = 0) _ _ 1  zc34 e (fun n => Eq.refl _)
        exact ev_b 1 (zj10 205 (Option.some.inj zh9) ) (fun n => Eq.refl _)
      · have zh9 := itn zh9 zc34
        suffices e : Ev (d + 7, 0, 0, 247, 38, [.val (.ref 320), .val (.ref 128), .val (.int p2), .val a_unk], [], (126, 120, L, [Y, T_1, HA, HB, RU_2, RV, ST, NS, I0, I1, I2, BO, FI, RG, GU, PU, MA, MN, MS, OT, SC], [r0, r1, r2, r3, w3, r5, r6, r7, r8], Lg)) o from ev_f (c := x6 = 0) _ _ 1  zc34 e (fun n => Eq.refl _)
        exact ev_b 2 (zj10 204 (Option.some.inj zh9) ) (fun n => Eq.refl _)
    · have zh9 := itn zh9 zc31
      suffices e : Ev (d + 7, 0, 0, 247, 23, [.val (.ref 320), .val (.ref 128), .val (.int p2), .val a_unk], [], (126, 120, L, [Y, T_1, HA, HB, RU_2, RV, ST, NS, I0, I1, I2, BO, FI, RG, GU, PU, MA, MN, MS, OT, SC], [r0, r1, r2, r3, w3, r5, r6, r7, r8], Lg)) o from ev_f (c := x5 = 0) _ _ 1  zc31 e (fun n => Eq.refl _)
      exact ev_b 2 (zj10 203 (Option.some.inj zh9) ) (fun n => Eq.refl _)
  · have h := itn h zc5
    suffices e : Ev (d + 7, 0, 0, 247, 13, [.val (.ref 320), .val (.ref 128), .val (.int p2), .val a_unk], [], (126, 120, L, [Y, T_1, HA, HB, RU_2, RV, ST, NS, I0, I1, I2, BO, FI, RG, GU, PU, MA, MN, MS, OT, SC], [r0, r1, r2, r3, w3, r5, r6, r7, r8], Lg)) o from ev_f (c := x4 = 0) _ _ 1  zc5 e (fun n => Eq.refl _)
    have ze35 := Option.some.inj h
    subst ze35
    exact ev_rete 1 ho (fun n => Eq.refl _)
set_option maxRecDepth 1000000 in
set_option maxHeartbeats 4000000 in
theorem K_grp_cr_1 (n : Nat) : (∀ (d : Nat) (Y T HA HB RU RV ST NS I0 I1 I2 BO FI RG GU PU MA MN MS OT SC : Nat → Nat → Int32) (r0 r1 r2 r3 w r5 r6 r7 r8 : Nat) (L : Nat) (Lg : Int64) (p2 : Int32) (r : (Nat → Nat → Int32) × (Nat → Nat → Int32) × Nat), f_grp_cr n 0 T RU w p2 = some r → Ev (d + (6 + n), 0, 0, 243, 0, [.val (.ref 320), .val (.ref 128), .val (.int p2), .val a_unk], [], (126, 120, L, [Y, T, HA, HB, RU, RV, ST, NS, I0, I1, I2, BO, FI, RG, GU, PU, MA, MN, MS, OT, SC], [r0, r1, r2, r3, w, r5, r6, r7, r8], Lg)) ((0, none, (126, 120, L, [Y, r.1, HA, HB, r.2.1, RV, ST, NS, I0, I1, I2, BO, FI, RG, GU, PU, MA, MN, MS, OT, SC], [r0, r1, r2, r3, r.2.2, r5, r6, r7, r8], Lg)) : AOut)) ∧ (∀ (d : Nat) (Y T HA HB RU RV ST NS I0 I1 I2 BO FI RG GU PU MA MN MS OT SC : Nat → Nat → Int32) (r0 r1 r2 r3 w r5 r6 r7 r8 : Nat) (L : Nat) (Lg : Int64) (p2 : Int32) (r : (Nat → Nat → Int32) × (Nat → Nat → Int32) × Nat), f_grp_cr n 1 T RU w p2 = some r → Ev (d + (6 + n), 0, 0, 244, 0, [.val (.ref 320), .val (.ref 128), .val (.int p2), .val a_unk], [], (126, 120, L, [Y, T, HA, HB, RU, RV, ST, NS, I0, I1, I2, BO, FI, RG, GU, PU, MA, MN, MS, OT, SC], [r0, r1, r2, r3, w, r5, r6, r7, r8], Lg)) ((0, none, (126, 120, L, [Y, r.1, HA, HB, r.2.1, RV, ST, NS, I0, I1, I2, BO, FI, RG, GU, PU, MA, MN, MS, OT, SC], [r0, r1, r2, r3, r.2.2, r5, r6, r7, r8], Lg)) : AOut)) ∧ (∀ (d : Nat) (Y T HA HB RU RV ST NS I0 I1 I2 BO FI RG GU PU MA MN MS OT SC : Nat → Nat → Int32) (r0 r1 r2 r3 w r5 r6 r7 r8 : Nat) (L : Nat) (Lg : Int64) (p2 : Int32) (r : (Nat → Nat → Int32) × (Nat → Nat → Int32) × Nat), f_grp_cr n 2 T RU w p2 = some r → Ev (d + (6 + n), 0, 0, 245, 0, [.val (.ref 320), .val (.ref 128), .val (.int p2)], [], (126, 120, L, [Y, T, HA, HB, RU, RV, ST, NS, I0, I1, I2, BO, FI, RG, GU, PU, MA, MN, MS, OT, SC], [r0, r1, r2, r3, w, r5, r6, r7, r8], Lg)) ((0, none, (126, 120, L, [Y, r.1, HA, HB, r.2.1, RV, ST, NS, I0, I1, I2, BO, FI, RG, GU, PU, MA, MN, MS, OT, SC], [r0, r1, r2, r3, r.2.2, r5, r6, r7, r8], Lg)) : AOut)) ∧ (∀ (d : Nat) (Y T HA HB RU RV ST NS I0 I1 I2 BO FI RG GU PU MA MN MS OT SC : Nat → Nat → Int32) (r0 r1 r2 r3 w r5 r6 r7 r8 : Nat) (L : Nat) (Lg : Int64) (p2 : Int32) (r : (Nat → Nat → Int32) × (Nat → Nat → Int32) × Nat), f_grp_cr n 3 T RU w p2 = some r → Ev (d + (6 + n), 0, 0, 248, 0, [.val (.ref 320), .val (.ref 128), .val (.int p2), .val a_unk, .val a_unk], [], (126, 120, L, [Y, T, HA, HB, RU, RV, ST, NS, I0, I1, I2, BO, FI, RG, GU, PU, MA, MN, MS, OT, SC], [r0, r1, r2, r3, w, r5, r6, r7, r8], Lg)) ((0, none, (126, 120, L, [Y, r.1, HA, HB, r.2.1, RV, ST, NS, I0, I1, I2, BO, FI, RG, GU, PU, MA, MN, MS, OT, SC], [r0, r1, r2, r3, r.2.2, r5, r6, r7, r8], Lg)) : AOut)) ∧ (∀ (d : Nat) (Y T HA HB RU RV ST NS I0 I1 I2 BO FI RG GU PU MA MN MS OT SC : Nat → Nat → Int32) (r0 r1 r2 r3 w r5 r6 r7 r8 : Nat) (L : Nat) (Lg : Int64) (p2 : Int32) (r : (Nat → Nat → Int32) × (Nat → Nat → Int32) × Nat), f_grp_cr n 4 T RU w p2 = some r → Ev (d + (6 + n), 0, 0, 249, 0, [.val (.ref 320), .val (.ref 128), .val (.int p2), .val a_unk], [], (126, 120, L, [Y, T, HA, HB, RU, RV, ST, NS, I0, I1, I2, BO, FI, RG, GU, PU, MA, MN, MS, OT, SC], [r0, r1, r2, r3, w, r5, r6, r7, r8], Lg)) ((0, none, (126, 120, L, [Y, r.1, HA, HB, r.2.1, RV, ST, NS, I0, I1, I2, BO, FI, RG, GU, PU, MA, MN, MS, OT, SC], [r0, r1, r2, r3, r.2.2, r5, r6, r7, r8], Lg)) : AOut)) ∧ (∀ (d : Nat) (Y T HA HB RU RV ST NS I0 I1 I2 BO FI RG GU PU MA MN MS OT SC : Nat → Nat → Int32) (r0 r1 r2 r3 w r5 r6 r7 r8 : Nat) (L : Nat) (Lg : Int64) (p2 : Int32) (r : (Nat → Nat → Int32) × (Nat → Nat → Int32) × Nat), f_grp_cr n 5 T RU w p2 = some r → Ev (d + (6 + n), 0, 0, 250, 0, [.val (.ref 320), .val (.ref 128), .val (.int p2), .val a_unk], [], (126, 120, L, [Y, T, HA, HB, RU, RV, ST, NS, I0, I1, I2, BO, FI, RG, GU, PU, MA, MN, MS, OT, SC], [r0, r1, r2, r3, w, r5, r6, r7, r8], Lg)) ((0, none, (126, 120, L, [Y, r.1, HA, HB, r.2.1, RV, ST, NS, I0, I1, I2, BO, FI, RG, GU, PU, MA, MN, MS, OT, SC], [r0, r1, r2, r3, r.2.2, r5, r6, r7, r8], Lg)) : AOut)) ∧ (∀ (d : Nat) (Y T HA HB RU RV ST NS I0 I1 I2 BO FI RG GU PU MA MN MS OT SC : Nat → Nat → Int32) (r0 r1 r2 r3 w r5 r6 r7 r8 : Nat) (L : Nat) (Lg : Int64) (p2 : Int32) (r : (Nat → Nat → Int32) × (Nat → Nat → Int32) × Nat), f_grp_cr n 6 T RU w p2 = some r → Ev (d + (6 + n), 0, 0, 247, 0, [.val (.ref 320), .val (.ref 128), .val (.int p2), .val a_unk], [], (126, 120, L, [Y, T, HA, HB, RU, RV, ST, NS, I0, I1, I2, BO, FI, RG, GU, PU, MA, MN, MS, OT, SC], [r0, r1, r2, r3, w, r5, r6, r7, r8], Lg)) ((0, none, (126, 120, L, [Y, r.1, HA, HB, r.2.1, RV, ST, NS, I0, I1, I2, BO, FI, RG, GU, PU, MA, MN, MS, OT, SC], [r0, r1, r2, r3, r.2.2, r5, r6, r7, r8], Lg)) : AOut)) := by
  induction n with
  | zero => exact ⟨by intros; contradiction, by intros; contradiction, by intros; contradiction, by intros; contradiction, by intros; contradiction, by intros; contradiction, by intros; contradiction⟩
  | succ n ih =>
    obtain ⟨i0, i1, i2, i3, i4, i5, i6⟩ := ih
    refine ⟨?_, ?_, ?_, ?_, ?_, ?_, ?_⟩
    · intro d Y T HA HB RU RV ST NS I0 I1 I2 BO FI RG GU PU MA MN MS OT SC r0 r1 r2 r3 w r5 r6 r7 r8 L Lg p2 r h
      rw [show d + (6 + (n + 1)) = d + n + 7 by omega]
      have j0 : ∀ (Y T HA HB RU RV ST NS I0 I1 I2 BO FI RG GU PU MA MN MS OT SC : Nat → Nat → Int32) (r0 r1 r2 r3 w r5 r6 r7 r8 : Nat) (L : Nat) (Lg : Int64) (p2 : Int32) (r : (Nat → Nat → Int32) × (Nat → Nat → Int32) × Nat), f_grp_cr n 0 T RU w p2 = some r → Ev (d + n + 6, 0, 0, 243, 0, [.val (.ref 320), .val (.ref 128), .val (.int p2), .val a_unk], [], (126, 120, L, [Y, T, HA, HB, RU, RV, ST, NS, I0, I1, I2, BO, FI, RG, GU, PU, MA, MN, MS, OT, SC], [r0, r1, r2, r3, w, r5, r6, r7, r8], Lg)) ((0, none, (126, 120, L, [Y, r.1, HA, HB, r.2.1, RV, ST, NS, I0, I1, I2, BO, FI, RG, GU, PU, MA, MN, MS, OT, SC], [r0, r1, r2, r3, r.2.2, r5, r6, r7, r8], Lg)) : AOut) := by
        intro Y T HA HB RU RV ST NS I0 I1 I2 BO FI RG GU PU MA MN MS OT SC r0 r1 r2 r3 w r5 r6 r7 r8 L Lg p2 r h
        have e := i0 d Y T HA HB RU RV ST NS I0 I1 I2 BO FI RG GU PU MA MN MS OT SC r0 r1 r2 r3 w r5 r6 r7 r8 L Lg p2 r h
        rw [show d + (6 + n) = d + n + 6 by omega] at e
        exact e
      have j1 : ∀ (Y T HA HB RU RV ST NS I0 I1 I2 BO FI RG GU PU MA MN MS OT SC : Nat → Nat → Int32) (r0 r1 r2 r3 w r5 r6 r7 r8 : Nat) (L : Nat) (Lg : Int64) (p2 : Int32) (r : (Nat → Nat → Int32) × (Nat → Nat → Int32) × Nat), f_grp_cr n 1 T RU w p2 = some r → Ev (d + n + 6, 0, 0, 244, 0, [.val (.ref 320), .val (.ref 128), .val (.int p2), .val a_unk], [], (126, 120, L, [Y, T, HA, HB, RU, RV, ST, NS, I0, I1, I2, BO, FI, RG, GU, PU, MA, MN, MS, OT, SC], [r0, r1, r2, r3, w, r5, r6, r7, r8], Lg)) ((0, none, (126, 120, L, [Y, r.1, HA, HB, r.2.1, RV, ST, NS, I0, I1, I2, BO, FI, RG, GU, PU, MA, MN, MS, OT, SC], [r0, r1, r2, r3, r.2.2, r5, r6, r7, r8], Lg)) : AOut) := by
        intro Y T HA HB RU RV ST NS I0 I1 I2 BO FI RG GU PU MA MN MS OT SC r0 r1 r2 r3 w r5 r6 r7 r8 L Lg p2 r h
        have e := i1 d Y T HA HB RU RV ST NS I0 I1 I2 BO FI RG GU PU MA MN MS OT SC r0 r1 r2 r3 w r5 r6 r7 r8 L Lg p2 r h
        rw [show d + (6 + n) = d + n + 6 by omega] at e
        exact e
      have j2 : ∀ (Y T HA HB RU RV ST NS I0 I1 I2 BO FI RG GU PU MA MN MS OT SC : Nat → Nat → Int32) (r0 r1 r2 r3 w r5 r6 r7 r8 : Nat) (L : Nat) (Lg : Int64) (p2 : Int32) (r : (Nat → Nat → Int32) × (Nat → Nat → Int32) × Nat), f_grp_cr n 2 T RU w p2 = some r → Ev (d + n + 6, 0, 0, 245, 0, [.val (.ref 320), .val (.ref 128), .val (.int p2)], [], (126, 120, L, [Y, T, HA, HB, RU, RV, ST, NS, I0, I1, I2, BO, FI, RG, GU, PU, MA, MN, MS, OT, SC], [r0, r1, r2, r3, w, r5, r6, r7, r8], Lg)) ((0, none, (126, 120, L, [Y, r.1, HA, HB, r.2.1, RV, ST, NS, I0, I1, I2, BO, FI, RG, GU, PU, MA, MN, MS, OT, SC], [r0, r1, r2, r3, r.2.2, r5, r6, r7, r8], Lg)) : AOut) := by
        intro Y T HA HB RU RV ST NS I0 I1 I2 BO FI RG GU PU MA MN MS OT SC r0 r1 r2 r3 w r5 r6 r7 r8 L Lg p2 r h
        have e := i2 d Y T HA HB RU RV ST NS I0 I1 I2 BO FI RG GU PU MA MN MS OT SC r0 r1 r2 r3 w r5 r6 r7 r8 L Lg p2 r h
        rw [show d + (6 + n) = d + n + 6 by omega] at e
        exact e
      have j3 : ∀ (Y T HA HB RU RV ST NS I0 I1 I2 BO FI RG GU PU MA MN MS OT SC : Nat → Nat → Int32) (r0 r1 r2 r3 w r5 r6 r7 r8 : Nat) (L : Nat) (Lg : Int64) (p2 : Int32) (r : (Nat → Nat → Int32) × (Nat → Nat → Int32) × Nat), f_grp_cr n 3 T RU w p2 = some r → Ev (d + n + 6, 0, 0, 248, 0, [.val (.ref 320), .val (.ref 128), .val (.int p2), .val a_unk, .val a_unk], [], (126, 120, L, [Y, T, HA, HB, RU, RV, ST, NS, I0, I1, I2, BO, FI, RG, GU, PU, MA, MN, MS, OT, SC], [r0, r1, r2, r3, w, r5, r6, r7, r8], Lg)) ((0, none, (126, 120, L, [Y, r.1, HA, HB, r.2.1, RV, ST, NS, I0, I1, I2, BO, FI, RG, GU, PU, MA, MN, MS, OT, SC], [r0, r1, r2, r3, r.2.2, r5, r6, r7, r8], Lg)) : AOut) := by
        intro Y T HA HB RU RV ST NS I0 I1 I2 BO FI RG GU PU MA MN MS OT SC r0 r1 r2 r3 w r5 r6 r7 r8 L Lg p2 r h
        have e := i3 d Y T HA HB RU RV ST NS I0 I1 I2 BO FI RG GU PU MA MN MS OT SC r0 r1 r2 r3 w r5 r6 r7 r8 L Lg p2 r h
        rw [show d + (6 + n) = d + n + 6 by omega] at e
        exact e
      have j4 : ∀ (Y T HA HB RU RV ST NS I0 I1 I2 BO FI RG GU PU MA MN MS OT SC : Nat → Nat → Int32) (r0 r1 r2 r3 w r5 r6 r7 r8 : Nat) (L : Nat) (Lg : Int64) (p2 : Int32) (r : (Nat → Nat → Int32) × (Nat → Nat → Int32) × Nat), f_grp_cr n 4 T RU w p2 = some r → Ev (d + n + 6, 0, 0, 249, 0, [.val (.ref 320), .val (.ref 128), .val (.int p2), .val a_unk], [], (126, 120, L, [Y, T, HA, HB, RU, RV, ST, NS, I0, I1, I2, BO, FI, RG, GU, PU, MA, MN, MS, OT, SC], [r0, r1, r2, r3, w, r5, r6, r7, r8], Lg)) ((0, none, (126, 120, L, [Y, r.1, HA, HB, r.2.1, RV, ST, NS, I0, I1, I2, BO, FI, RG, GU, PU, MA, MN, MS, OT, SC], [r0, r1, r2, r3, r.2.2, r5, r6, r7, r8], Lg)) : AOut) := by
        intro Y T HA HB RU RV ST NS I0 I1 I2 BO FI RG GU PU MA MN MS OT SC r0 r1 r2 r3 w r5 r6 r7 r8 L Lg p2 r h
        have e := i4 d Y T HA HB RU RV ST NS I0 I1 I2 BO FI RG GU PU MA MN MS OT SC r0 r1 r2 r3 w r5 r6 r7 r8 L Lg p2 r h
        rw [show d + (6 + n) = d + n + 6 by omega] at e
        exact e
      have j5 : ∀ (Y T HA HB RU RV ST NS I0 I1 I2 BO FI RG GU PU MA MN MS OT SC : Nat → Nat → Int32) (r0 r1 r2 r3 w r5 r6 r7 r8 : Nat) (L : Nat) (Lg : Int64) (p2 : Int32) (r : (Nat → Nat → Int32) × (Nat → Nat → Int32) × Nat), f_grp_cr n 5 T RU w p2 = some r → Ev (d + n + 6, 0, 0, 250, 0, [.val (.ref 320), .val (.ref 128), .val (.int p2), .val a_unk], [], (126, 120, L, [Y, T, HA, HB, RU, RV, ST, NS, I0, I1, I2, BO, FI, RG, GU, PU, MA, MN, MS, OT, SC], [r0, r1, r2, r3, w, r5, r6, r7, r8], Lg)) ((0, none, (126, 120, L, [Y, r.1, HA, HB, r.2.1, RV, ST, NS, I0, I1, I2, BO, FI, RG, GU, PU, MA, MN, MS, OT, SC], [r0, r1, r2, r3, r.2.2, r5, r6, r7, r8], Lg)) : AOut) := by
        intro Y T HA HB RU RV ST NS I0 I1 I2 BO FI RG GU PU MA MN MS OT SC r0 r1 r2 r3 w r5 r6 r7 r8 L Lg p2 r h
        have e := i5 d Y T HA HB RU RV ST NS I0 I1 I2 BO FI RG GU PU MA MN MS OT SC r0 r1 r2 r3 w r5 r6 r7 r8 L Lg p2 r h
        rw [show d + (6 + n) = d + n + 6 by omega] at e
        exact e
      have j6 : ∀ (Y T HA HB RU RV ST NS I0 I1 I2 BO FI RG GU PU MA MN MS OT SC : Nat → Nat → Int32) (r0 r1 r2 r3 w r5 r6 r7 r8 : Nat) (L : Nat) (Lg : Int64) (p2 : Int32) (r : (Nat → Nat → Int32) × (Nat → Nat → Int32) × Nat), f_grp_cr n 6 T RU w p2 = some r → Ev (d + n + 6, 0, 0, 247, 0, [.val (.ref 320), .val (.ref 128), .val (.int p2), .val a_unk], [], (126, 120, L, [Y, T, HA, HB, RU, RV, ST, NS, I0, I1, I2, BO, FI, RG, GU, PU, MA, MN, MS, OT, SC], [r0, r1, r2, r3, w, r5, r6, r7, r8], Lg)) ((0, none, (126, 120, L, [Y, r.1, HA, HB, r.2.1, RV, ST, NS, I0, I1, I2, BO, FI, RG, GU, PU, MA, MN, MS, OT, SC], [r0, r1, r2, r3, r.2.2, r5, r6, r7, r8], Lg)) : AOut) := by
        intro Y T HA HB RU RV ST NS I0 I1 I2 BO FI RG GU PU MA MN MS OT SC r0 r1 r2 r3 w r5 r6 r7 r8 L Lg p2 r h
        have e := i6 d Y T HA HB RU RV ST NS I0 I1 I2 BO FI RG GU PU MA MN MS OT SC r0 r1 r2 r3 w r5 r6 r7 r8 L Lg p2 r h
        rw [show d + (6 + n) = d + n + 6 by omega] at e
        exact e
      exact R_f_Rule_readAny_B_1 (d + n) (f_grp_cr n) j0 j1 j2 j3 j4 j5 j6 Y T HA HB RU RV ST NS I0 I1 I2 BO FI RG GU PU MA MN MS OT SC r0 r1 r2 r3 w r5 r6 r7 r8 L Lg p2 h
    · intro d Y T HA HB RU RV ST NS I0 I1 I2 BO FI RG GU PU MA MN MS OT SC r0 r1 r2 r3 w r5 r6 r7 r8 L Lg p2 r h
      rw [show d + (6 + (n + 1)) = d + n + 7 by omega]
      have j0 : ∀ (Y T HA HB RU RV ST NS I0 I1 I2 BO FI RG GU PU MA MN MS OT SC : Nat → Nat → Int32) (r0 r1 r2 r3 w r5 r6 r7 r8 : Nat) (L : Nat) (Lg : Int64) (p2 : Int32) (r : (Nat → Nat → Int32) × (Nat → Nat → Int32) × Nat), f_grp_cr n 0 T RU w p2 = some r → Ev (d + n + 6, 0, 0, 243, 0, [.val (.ref 320), .val (.ref 128), .val (.int p2), .val a_unk], [], (126, 120, L, [Y, T, HA, HB, RU, RV, ST, NS, I0, I1, I2, BO, FI, RG, GU, PU, MA, MN, MS, OT, SC], [r0, r1, r2, r3, w, r5, r6, r7, r8], Lg)) ((0, none, (126, 120, L, [Y, r.1, HA, HB, r.2.1, RV, ST, NS, I0, I1, I2, BO, FI, RG, GU, PU, MA, MN, MS, OT, SC], [r0, r1, r2, r3, r.2.2, r5, r6, r7, r8], Lg)) : AOut) := by
        intro Y T HA HB RU RV ST NS I0 I1 I2 BO FI RG GU PU MA MN MS OT SC r0 r1 r2 r3 w r5 r6 r7 r8 L Lg p2 r h
        have e := i0 d Y T HA HB RU RV ST NS I0 I1 I2 BO FI RG GU PU MA MN MS OT SC r0 r1 r2 r3 w r5 r6 r7 r8 L Lg p2 r h
        rw [show d + (6 + n) = d + n + 6 by omega] at e
        exact e
      have j1 : ∀ (Y T HA HB RU RV ST NS I0 I1 I2 BO FI RG GU PU MA MN MS OT SC : Nat → Nat → Int32) (r0 r1 r2 r3 w r5 r6 r7 r8 : Nat) (L : Nat) (Lg : Int64) (p2 : Int32) (r : (Nat → Nat → Int32) × (Nat → Nat → Int32) × Nat), f_grp_cr n 1 T RU w p2 = some r → Ev (d + n + 6, 0, 0, 244, 0, [.val (.ref 320), .val (.ref 128), .val (.int p2), .val a_unk], [], (126, 120, L, [Y, T, HA, HB, RU, RV, ST, NS, I0, I1, I2, BO, FI, RG, GU, PU, MA, MN, MS, OT, SC], [r0, r1, r2, r3, w, r5, r6, r7, r8], Lg)) ((0, none, (126, 120, L, [Y, r.1, HA, HB, r.2.1, RV, ST, NS, I0, I1, I2, BO, FI, RG, GU, PU, MA, MN, MS, OT, SC], [r0, r1, r2, r3, r.2.2, r5, r6, r7, r8], Lg)) : AOut) := by
        intro Y T HA HB RU RV ST NS I0 I1 I2 BO FI RG GU PU MA MN MS OT SC r0 r1 r2 r3 w r5 r6 r7 r8 L Lg p2 r h
        have e := i1 d Y T HA HB RU RV ST NS I0 I1 I2 BO FI RG GU PU MA MN MS OT SC r0 r1 r2 r3 w r5 r6 r7 r8 L Lg p2 r h
        rw [show d + (6 + n) = d + n + 6 by omega] at e
        exact e
      have j2 : ∀ (Y T HA HB RU RV ST NS I0 I1 I2 BO FI RG GU PU MA MN MS OT SC : Nat → Nat → Int32) (r0 r1 r2 r3 w r5 r6 r7 r8 : Nat) (L : Nat) (Lg : Int64) (p2 : Int32) (r : (Nat → Nat → Int32) × (Nat → Nat → Int32) × Nat), f_grp_cr n 2 T RU w p2 = some r → Ev (d + n + 6, 0, 0, 245, 0, [.val (.ref 320), .val (.ref 128), .val (.int p2)], [], (126, 120, L, [Y, T, HA, HB, RU, RV, ST, NS, I0, I1, I2, BO, FI, RG, GU, PU, MA, MN, MS, OT, SC], [r0, r1, r2, r3, w, r5, r6, r7, r8], Lg)) ((0, none, (126, 120, L, [Y, r.1, HA, HB, r.2.1, RV, ST, NS, I0, I1, I2, BO, FI, RG, GU, PU, MA, MN, MS, OT, SC], [r0, r1, r2, r3, r.2.2, r5, r6, r7, r8], Lg)) : AOut) := by
        intro Y T HA HB RU RV ST NS I0 I1 I2 BO FI RG GU PU MA MN MS OT SC r0 r1 r2 r3 w r5 r6 r7 r8 L Lg p2 r h
        have e := i2 d Y T HA HB RU RV ST NS I0 I1 I2 BO FI RG GU PU MA MN MS OT SC r0 r1 r2 r3 w r5 r6 r7 r8 L Lg p2 r h
        rw [show d + (6 + n) = d + n + 6 by omega] at e
        exact e
      have j3 : ∀ (Y T HA HB RU RV ST NS I0 I1 I2 BO FI RG GU PU MA MN MS OT SC : Nat → Nat → Int32) (r0 r1 r2 r3 w r5 r6 r7 r8 : Nat) (L : Nat) (Lg : Int64) (p2 : Int32) (r : (Nat → Nat → Int32) × (Nat → Nat → Int32) × Nat), f_grp_cr n 3 T RU w p2 = some r → Ev (d + n + 6, 0, 0, 248, 0, [.val (.ref 320), .val (.ref 128), .val (.int p2), .val a_unk, .val a_unk], [], (126, 120, L, [Y, T, HA, HB, RU, RV, ST, NS, I0, I1, I2, BO, FI, RG, GU, PU, MA, MN, MS, OT, SC], [r0, r1, r2, r3, w, r5, r6, r7, r8], Lg)) ((0, none, (126, 120, L, [Y, r.1, HA, HB, r.2.1, RV, ST, NS, I0, I1, I2, BO, FI, RG, GU, PU, MA, MN, MS, OT, SC], [r0, r1, r2, r3, r.2.2, r5, r6, r7, r8], Lg)) : AOut) := by
        intro Y T HA HB RU RV ST NS I0 I1 I2 BO FI RG GU PU MA MN MS OT SC r0 r1 r2 r3 w r5 r6 r7 r8 L Lg p2 r h
        have e := i3 d Y T HA HB RU RV ST NS I0 I1 I2 BO FI RG GU PU MA MN MS OT SC r0 r1 r2 r3 w r5 r6 r7 r8 L Lg p2 r h
        rw [show d + (6 + n) = d + n + 6 by omega] at e
        exact e
      have j4 : ∀ (Y T HA HB RU RV ST NS I0 I1 I2 BO FI RG GU PU MA MN MS OT SC : Nat → Nat → Int32) (r0 r1 r2 r3 w r5 r6 r7 r8 : Nat) (L : Nat) (Lg : Int64) (p2 : Int32) (r : (Nat → Nat → Int32) × (Nat → Nat → Int32) × Nat), f_grp_cr n 4 T RU w p2 = some r → Ev (d + n + 6, 0, 0, 249, 0, [.val (.ref 320), .val (.ref 128), .val (.int p2), .val a_unk], [], (126, 120, L, [Y, T, HA, HB, RU, RV, ST, NS, I0, I1, I2, BO, FI, RG, GU, PU, MA, MN, MS, OT, SC], [r0, r1, r2, r3, w, r5, r6, r7, r8], Lg)) ((0, none, (126, 120, L, [Y, r.1, HA, HB, r.2.1, RV, ST, NS, I0, I1, I2, BO, FI, RG, GU, PU, MA, MN, MS, OT, SC], [r0, r1, r2, r3, r.2.2, r5, r6, r7, r8], Lg)) : AOut) := by
        intro Y T HA HB RU RV ST NS I0 I1 I2 BO FI RG GU PU MA MN MS OT SC r0 r1 r2 r3 w r5 r6 r7 r8 L Lg p2 r h
        have e := i4 d Y T HA HB RU RV ST NS I0 I1 I2 BO FI RG GU PU MA MN MS OT SC r0 r1 r2 r3 w r5 r6 r7 r8 L Lg p2 r h
        rw [show d + (6 + n) = d + n + 6 by omega] at e
        exact e
      have j5 : ∀ (Y T HA HB RU RV ST NS I0 I1 I2 BO FI RG GU PU MA MN MS OT SC : Nat → Nat → Int32) (r0 r1 r2 r3 w r5 r6 r7 r8 : Nat) (L : Nat) (Lg : Int64) (p2 : Int32) (r : (Nat → Nat → Int32) × (Nat → Nat → Int32) × Nat), f_grp_cr n 5 T RU w p2 = some r → Ev (d + n + 6, 0, 0, 250, 0, [.val (.ref 320), .val (.ref 128), .val (.int p2), .val a_unk], [], (126, 120, L, [Y, T, HA, HB, RU, RV, ST, NS, I0, I1, I2, BO, FI, RG, GU, PU, MA, MN, MS, OT, SC], [r0, r1, r2, r3, w, r5, r6, r7, r8], Lg)) ((0, none, (126, 120, L, [Y, r.1, HA, HB, r.2.1, RV, ST, NS, I0, I1, I2, BO, FI, RG, GU, PU, MA, MN, MS, OT, SC], [r0, r1, r2, r3, r.2.2, r5, r6, r7, r8], Lg)) : AOut) := by
        intro Y T HA HB RU RV ST NS I0 I1 I2 BO FI RG GU PU MA MN MS OT SC r0 r1 r2 r3 w r5 r6 r7 r8 L Lg p2 r h
        have e := i5 d Y T HA HB RU RV ST NS I0 I1 I2 BO FI RG GU PU MA MN MS OT SC r0 r1 r2 r3 w r5 r6 r7 r8 L Lg p2 r h
        rw [show d + (6 + n) = d + n + 6 by omega] at e
        exact e
      have j6 : ∀ (Y T HA HB RU RV ST NS I0 I1 I2 BO FI RG GU PU MA MN MS OT SC : Nat → Nat → Int32) (r0 r1 r2 r3 w r5 r6 r7 r8 : Nat) (L : Nat) (Lg : Int64) (p2 : Int32) (r : (Nat → Nat → Int32) × (Nat → Nat → Int32) × Nat), f_grp_cr n 6 T RU w p2 = some r → Ev (d + n + 6, 0, 0, 247, 0, [.val (.ref 320), .val (.ref 128), .val (.int p2), .val a_unk], [], (126, 120, L, [Y, T, HA, HB, RU, RV, ST, NS, I0, I1, I2, BO, FI, RG, GU, PU, MA, MN, MS, OT, SC], [r0, r1, r2, r3, w, r5, r6, r7, r8], Lg)) ((0, none, (126, 120, L, [Y, r.1, HA, HB, r.2.1, RV, ST, NS, I0, I1, I2, BO, FI, RG, GU, PU, MA, MN, MS, OT, SC], [r0, r1, r2, r3, r.2.2, r5, r6, r7, r8], Lg)) : AOut) := by
        intro Y T HA HB RU RV ST NS I0 I1 I2 BO FI RG GU PU MA MN MS OT SC r0 r1 r2 r3 w r5 r6 r7 r8 L Lg p2 r h
        have e := i6 d Y T HA HB RU RV ST NS I0 I1 I2 BO FI RG GU PU MA MN MS OT SC r0 r1 r2 r3 w r5 r6 r7 r8 L Lg p2 r h
        rw [show d + (6 + n) = d + n + 6 by omega] at e
        exact e
      exact R_f_Rule_readAll_B_1 (d + n) (f_grp_cr n) j0 j1 j2 j3 j4 j5 j6 Y T HA HB RU RV ST NS I0 I1 I2 BO FI RG GU PU MA MN MS OT SC r0 r1 r2 r3 w r5 r6 r7 r8 L Lg p2 h
    · intro d Y T HA HB RU RV ST NS I0 I1 I2 BO FI RG GU PU MA MN MS OT SC r0 r1 r2 r3 w r5 r6 r7 r8 L Lg p2 r h
      rw [show d + (6 + (n + 1)) = d + n + 7 by omega]
      have j0 : ∀ (Y T HA HB RU RV ST NS I0 I1 I2 BO FI RG GU PU MA MN MS OT SC : Nat → Nat → Int32) (r0 r1 r2 r3 w r5 r6 r7 r8 : Nat) (L : Nat) (Lg : Int64) (p2 : Int32) (r : (Nat → Nat → Int32) × (Nat → Nat → Int32) × Nat), f_grp_cr n 0 T RU w p2 = some r → Ev (d + n + 6, 0, 0, 243, 0, [.val (.ref 320), .val (.ref 128), .val (.int p2), .val a_unk], [], (126, 120, L, [Y, T, HA, HB, RU, RV, ST, NS, I0, I1, I2, BO, FI, RG, GU, PU, MA, MN, MS, OT, SC], [r0, r1, r2, r3, w, r5, r6, r7, r8], Lg)) ((0, none, (126, 120, L, [Y, r.1, HA, HB, r.2.1, RV, ST, NS, I0, I1, I2, BO, FI, RG, GU, PU, MA, MN, MS, OT, SC], [r0, r1, r2, r3, r.2.2, r5, r6, r7, r8], Lg)) : AOut) := by
        intro Y T HA HB RU RV ST NS I0 I1 I2 BO FI RG GU PU MA MN MS OT SC r0 r1 r2 r3 w r5 r6 r7 r8 L Lg p2 r h
        have e := i0 d Y T HA HB RU RV ST NS I0 I1 I2 BO FI RG GU PU MA MN MS OT SC r0 r1 r2 r3 w r5 r6 r7 r8 L Lg p2 r h
        rw [show d + (6 + n) = d + n + 6 by omega] at e
        exact e
      have j1 : ∀ (Y T HA HB RU RV ST NS I0 I1 I2 BO FI RG GU PU MA MN MS OT SC : Nat → Nat → Int32) (r0 r1 r2 r3 w r5 r6 r7 r8 : Nat) (L : Nat) (Lg : Int64) (p2 : Int32) (r : (Nat → Nat → Int32) × (Nat → Nat → Int32) × Nat), f_grp_cr n 1 T RU w p2 = some r → Ev (d + n + 6, 0, 0, 244, 0, [.val (.ref 320), .val (.ref 128), .val (.int p2), .val a_unk], [], (126, 120, L, [Y, T, HA, HB, RU, RV, ST, NS, I0, I1, I2, BO, FI, RG, GU, PU, MA, MN, MS, OT, SC], [r0, r1, r2, r3, w, r5, r6, r7, r8], Lg)) ((0, none, (126, 120, L, [Y, r.1, HA, HB, r.2.1, RV, ST, NS, I0, I1, I2, BO, FI, RG, GU, PU, MA, MN, MS, OT, SC], [r0, r1, r2, r3, r.2.2, r5, r6, r7, r8], Lg)) : AOut) := by
        intro Y T HA HB RU RV ST NS I0 I1 I2 BO FI RG GU PU MA MN MS OT SC r0 r1 r2 r3 w r5 r6 r7 r8 L Lg p2 r h
        have e := i1 d Y T HA HB RU RV ST NS I0 I1 I2 BO FI RG GU PU MA MN MS OT SC r0 r1 r2 r3 w r5 r6 r7 r8 L Lg p2 r h
        rw [show d + (6 + n) = d + n + 6 by omega] at e
        exact e
      have j2 : ∀ (Y T HA HB RU RV ST NS I0 I1 I2 BO FI RG GU PU MA MN MS OT SC : Nat → Nat → Int32) (r0 r1 r2 r3 w r5 r6 r7 r8 : Nat) (L : Nat) (Lg : Int64) (p2 : Int32) (r : (Nat → Nat → Int32) × (Nat → Nat → Int32) × Nat), f_grp_cr n 2 T RU w p2 = some r → Ev (d + n + 6, 0, 0, 245, 0, [.val (.ref 320), .val (.ref 128), .val (.int p2)], [], (126, 120, L, [Y, T, HA, HB, RU, RV, ST, NS, I0, I1, I2, BO, FI, RG, GU, PU, MA, MN, MS, OT, SC], [r0, r1, r2, r3, w, r5, r6, r7, r8], Lg)) ((0, none, (126, 120, L, [Y, r.1, HA, HB, r.2.1, RV, ST, NS, I0, I1, I2, BO, FI, RG, GU, PU, MA, MN, MS, OT, SC], [r0, r1, r2, r3, r.2.2, r5, r6, r7, r8], Lg)) : AOut) := by
        intro Y T HA HB RU RV ST NS I0 I1 I2 BO FI RG GU PU MA MN MS OT SC r0 r1 r2 r3 w r5 r6 r7 r8 L Lg p2 r h
        have e := i2 d Y T HA HB RU RV ST NS I0 I1 I2 BO FI RG GU PU MA MN MS OT SC r0 r1 r2 r3 w r5 r6 r7 r8 L Lg p2 r h
        rw [show d + (6 + n) = d + n + 6 by omega] at e
        exact e
      have j3 : ∀ (Y T HA HB RU RV ST NS I0 I1 I2 BO FI RG GU PU MA MN MS OT SC : Nat → Nat → Int32) (r0 r1 r2 r3 w r5 r6 r7 r8 : Nat) (L : Nat) (Lg : Int64) (p2 : Int32) (r : (Nat → Nat → Int32) × (Nat → Nat → Int32) × Nat), f_grp_cr n 3 T RU w p2 = some r → Ev (d + n + 6, 0, 0, 248, 0, [.val (.ref 320), .val (.ref 128), .val (.int p2), .val a_unk, .val a_unk], [], (126, 120, L, [Y, T, HA, HB, RU, RV, ST, NS, I0, I1, I2, BO, FI, RG, GU, PU, MA, MN, MS, OT, SC], [r0, r1, r2, r3, w, r5, r6, r7, r8], Lg)) ((0, none, (126, 120, L, [Y, r.1, HA, HB, r.2.1, RV, ST, NS, I0, I1, I2, BO, FI, RG, GU, PU, MA, MN, MS, OT, SC], [r0, r1, r2, r3, r.2.2, r5, r6, r7, r8], Lg)) : AOut) := by
        intro Y T HA HB RU RV ST NS I0 I1 I2 BO FI RG GU PU MA MN MS OT SC r0 r1 r2 r3 w r5 r6 r7 r8 L Lg p2 r h
        have e := i3 d Y T HA HB RU RV ST NS I0 I1 I2 BO FI RG GU PU MA MN MS OT SC r0 r1 r2 r3 w r5 r6 r7 r8 L Lg p2 r h
        rw [show d + (6 + n) = d + n + 6 by omega] at e
        exact e
      have j4 : ∀ (Y T HA HB RU RV ST NS I0 I1 I2 BO FI RG GU PU MA MN MS OT SC : Nat → Nat → Int32) (r0 r1 r2 r3 w r5 r6 r7 r8 : Nat) (L : Nat) (Lg : Int64) (p2 : Int32) (r : (Nat → Nat → Int32) × (Nat → Nat → Int32) × Nat), f_grp_cr n 4 T RU w p2 = some r → Ev (d + n + 6, 0, 0, 249, 0, [.val (.ref 320), .val (.ref 128), .val (.int p2), .val a_unk], [], (126, 120, L, [Y, T, HA, HB, RU, RV, ST, NS, I0, I1, I2, BO, FI, RG, GU, PU, MA, MN, MS, OT, SC], [r0, r1, r2, r3, w, r5, r6, r7, r8], Lg)) ((0, none, (126, 120, L, [Y, r.1, HA, HB, r.2.1, RV, ST, NS, I0, I1, I2, BO, FI, RG, GU, PU, MA, MN, MS, OT, SC], [r0, r1, r2, r3, r.2.2, r5, r6, r7, r8], Lg)) : AOut) := by
        intro Y T HA HB RU RV ST NS I0 I1 I2 BO FI RG GU PU MA MN MS OT SC r0 r1 r2 r3 w r5 r6 r7 r8 L Lg p2 r h
        have e := i4 d Y T HA HB RU RV ST NS I0 I1 I2 BO FI RG GU PU MA MN MS OT SC r0 r1 r2 r3 w r5 r6 r7 r8 L Lg p2 r h
        rw [show d + (6 + n) = d + n + 6 by omega] at e
        exact e
      have j5 : ∀ (Y T HA HB RU RV ST NS I0 I1 I2 BO FI RG GU PU MA MN MS OT SC : Nat → Nat → Int32) (r0 r1 r2 r3 w r5 r6 r7 r8 : Nat) (L : Nat) (Lg : Int64) (p2 : Int32) (r : (Nat → Nat → Int32) × (Nat → Nat → Int32) × Nat), f_grp_cr n 5 T RU w p2 = some r → Ev (d + n + 6, 0, 0, 250, 0, [.val (.ref 320), .val (.ref 128), .val (.int p2), .val a_unk], [], (126, 120, L, [Y, T, HA, HB, RU, RV, ST, NS, I0, I1, I2, BO, FI, RG, GU, PU, MA, MN, MS, OT, SC], [r0, r1, r2, r3, w, r5, r6, r7, r8], Lg)) ((0, none, (126, 120, L, [Y, r.1, HA, HB, r.2.1, RV, ST, NS, I0, I1, I2, BO, FI, RG, GU, PU, MA, MN, MS, OT, SC], [r0, r1, r2, r3, r.2.2, r5, r6, r7, r8], Lg)) : AOut) := by
        intro Y T HA HB RU RV ST NS I0 I1 I2 BO FI RG GU PU MA MN MS OT SC r0 r1 r2 r3 w r5 r6 r7 r8 L Lg p2 r h
        have e := i5 d Y T HA HB RU RV ST NS I0 I1 I2 BO FI RG GU PU MA MN MS OT SC r0 r1 r2 r3 w r5 r6 r7 r8 L Lg p2 r h
        rw [show d + (6 + n) = d + n + 6 by omega] at e
        exact e
      have j6 : ∀ (Y T HA HB RU RV ST NS I0 I1 I2 BO FI RG GU PU MA MN MS OT SC : Nat → Nat → Int32) (r0 r1 r2 r3 w r5 r6 r7 r8 : Nat) (L : Nat) (Lg : Int64) (p2 : Int32) (r : (Nat → Nat → Int32) × (Nat → Nat → Int32) × Nat), f_grp_cr n 6 T RU w p2 = some r → Ev (d + n + 6, 0, 0, 247, 0, [.val (.ref 320), .val (.ref 128), .val (.int p2), .val a_unk], [], (126, 120, L, [Y, T, HA, HB, RU, RV, ST, NS, I0, I1, I2, BO, FI, RG, GU, PU, MA, MN, MS, OT, SC], [r0, r1, r2, r3, w, r5, r6, r7, r8], Lg)) ((0, none, (126, 120, L, [Y, r.1, HA, HB, r.2.1, RV, ST, NS, I0, I1, I2, BO, FI, RG, GU, PU, MA, MN, MS, OT, SC], [r0, r1, r2, r3, r.2.2, r5, r6, r7, r8], Lg)) : AOut) := by
        intro Y T HA HB RU RV ST NS I0 I1 I2 BO FI RG GU PU MA MN MS OT SC r0 r1 r2 r3 w r5 r6 r7 r8 L Lg p2 r h
        have e := i6 d Y T HA HB RU RV ST NS I0 I1 I2 BO FI RG GU PU MA MN MS OT SC r0 r1 r2 r3 w r5 r6 r7 r8 L Lg p2 r h
        rw [show d + (6 + n) = d + n + 6 by omega] at e
        exact e
      exact R_f_Rule_readOne_B_1 (d + n) (f_grp_cr n) j0 j1 j2 j3 j4 j5 j6 Y T HA HB RU RV ST NS I0 I1 I2 BO FI RG GU PU MA MN MS OT SC r0 r1 r2 r3 w r5 r6 r7 r8 L Lg p2 h
    · intro d Y T HA HB RU RV ST NS I0 I1 I2 BO FI RG GU PU MA MN MS OT SC r0 r1 r2 r3 w r5 r6 r7 r8 L Lg p2 r h
      rw [show d + (6 + (n + 1)) = d + n + 7 by omega]
      have j0 : ∀ (Y T HA HB RU RV ST NS I0 I1 I2 BO FI RG GU PU MA MN MS OT SC : Nat → Nat → Int32) (r0 r1 r2 r3 w r5 r6 r7 r8 : Nat) (L : Nat) (Lg : Int64) (p2 : Int32) (r : (Nat → Nat → Int32) × (Nat → Nat → Int32) × Nat), f_grp_cr n 0 T RU w p2 = some r → Ev (d + n + 6, 0, 0, 243, 0, [.val (.ref 320), .val (.ref 128), .val (.int p2), .val a_unk], [], (126, 120, L, [Y, T, HA, HB, RU, RV, ST, NS, I0, I1, I2, BO, FI, RG, GU, PU, MA, MN, MS, OT, SC], [r0, r1, r2, r3, w, r5, r6, r7, r8], Lg)) ((0, none, (126, 120, L, [Y, r.1, HA, HB, r.2.1, RV, ST, NS, I0, I1, I2, BO, FI, RG, GU, PU, MA, MN, MS, OT, SC], [r0, r1, r2, r3, r.2.2, r5, r6, r7, r8], Lg)) : AOut) := by
        intro Y T HA HB RU RV ST NS I0 I1 I2 BO FI RG GU PU MA MN MS OT SC r0 r1 r2 r3 w r5 r6 r7 r8 L Lg p2 r h
        have e := i0 d Y T HA HB RU RV ST NS I0 I1 I2 BO FI RG GU PU MA MN MS OT SC r0 r1 r2 r3 w r5 r6 r7 r8 L Lg p2 r h
        rw [show d + (6 + n) = d + n + 6 by omega] at e
        exact e
      have j1 : ∀ (Y T HA HB RU RV ST NS I0 I1 I2 BO FI RG GU PU MA MN MS OT SC : Nat → Nat → Int32) (r0 r1 r2 r3 w r5 r6 r7 r8 : Nat) (L : Nat) (Lg : Int64) (p2 : Int32) (r : (Nat → Nat → Int32) × (Nat → Nat → Int32) × Nat), f_grp_cr n 1 T RU w p2 = some r → Ev (d + n + 6, 0, 0, 244, 0, [.val (.ref 320), .val (.ref 128), .val (.int p2), .val a_unk], [], (126, 120, L, [Y, T, HA, HB, RU, RV, ST, NS, I0, I1, I2, BO, FI, RG, GU, PU, MA, MN, MS, OT, SC], [r0, r1, r2, r3, w, r5, r6, r7, r8], Lg)) ((0, none, (126, 120, L, [Y, r.1, HA, HB, r.2.1, RV, ST, NS, I0, I1, I2, BO, FI, RG, GU, PU, MA, MN, MS, OT, SC], [r0, r1, r2, r3, r.2.2, r5, r6, r7, r8], Lg)) : AOut) := by
        intro Y T HA HB RU RV ST NS I0 I1 I2 BO FI RG GU PU MA MN MS OT SC r0 r1 r2 r3 w r5 r6 r7 r8 L Lg p2 r h
        have e := i1 d Y T HA HB RU RV ST NS I0 I1 I2 BO FI RG GU PU MA MN MS OT SC r0 r1 r2 r3 w r5 r6 r7 r8 L Lg p2 r h
        rw [show d + (6 + n) = d + n + 6 by omega] at e
        exact e
      have j2 : ∀ (Y T HA HB RU RV ST NS I0 I1 I2 BO FI RG GU PU MA MN MS OT SC : Nat → Nat → Int32) (r0 r1 r2 r3 w r5 r6 r7 r8 : Nat) (L : Nat) (Lg : Int64) (p2 : Int32) (r : (Nat → Nat → Int32) × (Nat → Nat → Int32) × Nat), f_grp_cr n 2 T RU w p2 = some r → Ev (d + n + 6, 0, 0, 245, 0, [.val (.ref 320), .val (.ref 128), .val (.int p2)], [], (126, 120, L, [Y, T, HA, HB, RU, RV, ST, NS, I0, I1, I2, BO, FI, RG, GU, PU, MA, MN, MS, OT, SC], [r0, r1, r2, r3, w, r5, r6, r7, r8], Lg)) ((0, none, (126, 120, L, [Y, r.1, HA, HB, r.2.1, RV, ST, NS, I0, I1, I2, BO, FI, RG, GU, PU, MA, MN, MS, OT, SC], [r0, r1, r2, r3, r.2.2, r5, r6, r7, r8], Lg)) : AOut) := by
        intro Y T HA HB RU RV ST NS I0 I1 I2 BO FI RG GU PU MA MN MS OT SC r0 r1 r2 r3 w r5 r6 r7 r8 L Lg p2 r h
        have e := i2 d Y T HA HB RU RV ST NS I0 I1 I2 BO FI RG GU PU MA MN MS OT SC r0 r1 r2 r3 w r5 r6 r7 r8 L Lg p2 r h
        rw [show d + (6 + n) = d + n + 6 by omega] at e
        exact e
      have j3 : ∀ (Y T HA HB RU RV ST NS I0 I1 I2 BO FI RG GU PU MA MN MS OT SC : Nat → Nat → Int32) (r0 r1 r2 r3 w r5 r6 r7 r8 : Nat) (L : Nat) (Lg : Int64) (p2 : Int32) (r : (Nat → Nat → Int32) × (Nat → Nat → Int32) × Nat), f_grp_cr n 3 T RU w p2 = some r → Ev (d + n + 6, 0, 0, 248, 0, [.val (.ref 320), .val (.ref 128), .val (.int p2), .val a_unk, .val a_unk], [], (126, 120, L, [Y, T, HA, HB, RU, RV, ST, NS, I0, I1, I2, BO, FI, RG, GU, PU, MA, MN, MS, OT, SC], [r0, r1, r2, r3, w, r5, r6, r7, r8], Lg)) ((0, none, (126, 120, L, [Y, r.1, HA, HB, r.2.1, RV, ST, NS, I0, I1, I2, BO, FI, RG, GU, PU, MA, MN, MS, OT, SC], [r0, r1, r2, r3, r.2.2, r5, r6, r7, r8], Lg)) : AOut) := by
        intro Y T HA HB RU RV ST NS I0 I1 I2 BO FI RG GU PU MA MN MS OT SC r0 r1 r2 r3 w r5 r6 r7 r8 L Lg p2 r h
        have e := i3 d Y T HA HB RU RV ST NS I0 I1 I2 BO FI RG GU PU MA MN MS OT SC r0 r1 r2 r3 w r5 r6 r7 r8 L Lg p2 r h
        rw [show d + (6 + n) = d + n + 6 by omega] at e
        exact e
      have j4 : ∀ (Y T HA HB RU RV ST NS I0 I1 I2 BO FI RG GU PU MA MN MS OT SC : Nat → Nat → Int32) (r0 r1 r2 r3 w r5 r6 r7 r8 : Nat) (L : Nat) (Lg : Int64) (p2 : Int32) (r : (Nat → Nat → Int32) × (Nat → Nat → Int32) × Nat), f_grp_cr n 4 T RU w p2 = some r → Ev (d + n + 6, 0, 0, 249, 0, [.val (.ref 320), .val (.ref 128), .val (.int p2), .val a_unk], [], (126, 120, L, [Y, T, HA, HB, RU, RV, ST, NS, I0, I1, I2, BO, FI, RG, GU, PU, MA, MN, MS, OT, SC], [r0, r1, r2, r3, w, r5, r6, r7, r8], Lg)) ((0, none, (126, 120, L, [Y, r.1, HA, HB, r.2.1, RV, ST, NS, I0, I1, I2, BO, FI, RG, GU, PU, MA, MN, MS, OT, SC], [r0, r1, r2, r3, r.2.2, r5, r6, r7, r8], Lg)) : AOut) := by
        intro Y T HA HB RU RV ST NS I0 I1 I2 BO FI RG GU PU MA MN MS OT SC r0 r1 r2 r3 w r5 r6 r7 r8 L Lg p2 r h
        have e := i4 d Y T HA HB RU RV ST NS I0 I1 I2 BO FI RG GU PU MA MN MS OT SC r0 r1 r2 r3 w r5 r6 r7 r8 L Lg p2 r h
        rw [show d + (6 + n) = d + n + 6 by omega] at e
        exact e
      have j5 : ∀ (Y T HA HB RU RV ST NS I0 I1 I2 BO FI RG GU PU MA MN MS OT SC : Nat → Nat → Int32) (r0 r1 r2 r3 w r5 r6 r7 r8 : Nat) (L : Nat) (Lg : Int64) (p2 : Int32) (r : (Nat → Nat → Int32) × (Nat → Nat → Int32) × Nat), f_grp_cr n 5 T RU w p2 = some r → Ev (d + n + 6, 0, 0, 250, 0, [.val (.ref 320), .val (.ref 128), .val (.int p2), .val a_unk], [], (126, 120, L, [Y, T, HA, HB, RU, RV, ST, NS, I0, I1, I2, BO, FI, RG, GU, PU, MA, MN, MS, OT, SC], [r0, r1, r2, r3, w, r5, r6, r7, r8], Lg)) ((0, none, (126, 120, L, [Y, r.1, HA, HB, r.2.1, RV, ST, NS, I0, I1, I2, BO, FI, RG, GU, PU, MA, MN, MS, OT, SC], [r0, r1, r2, r3, r.2.2, r5, r6, r7, r8], Lg)) : AOut) := by
        intro Y T HA HB RU RV ST NS I0 I1 I2 BO FI RG GU PU MA MN MS OT SC r0 r1 r2 r3 w r5 r6 r7 r8 L Lg p2 r h
        have e := i5 d Y T HA HB RU RV ST NS I0 I1 I2 BO FI RG GU PU MA MN MS OT SC r0 r1 r2 r3 w r5 r6 r7 r8 L Lg p2 r h
        rw [show d + (6 + n) = d + n + 6 by omega] at e
        exact e
      have j6 : ∀ (Y T HA HB RU RV ST NS I0 I1 I2 BO FI RG GU PU MA MN MS OT SC : Nat → Nat → Int32) (r0 r1 r2 r3 w r5 r6 r7 r8 : Nat) (L : Nat) (Lg : Int64) (p2 : Int32) (r : (Nat → Nat → Int32) × (Nat → Nat → Int32) × Nat), f_grp_cr n 6 T RU w p2 = some r → Ev (d + n + 6, 0, 0, 247, 0, [.val (.ref 320), .val (.ref 128), .val (.int p2), .val a_unk], [], (126, 120, L, [Y, T, HA, HB, RU, RV, ST, NS, I0, I1, I2, BO, FI, RG, GU, PU, MA, MN, MS, OT, SC], [r0, r1, r2, r3, w, r5, r6, r7, r8], Lg)) ((0, none, (126, 120, L, [Y, r.1, HA, HB, r.2.1, RV, ST, NS, I0, I1, I2, BO, FI, RG, GU, PU, MA, MN, MS, OT, SC], [r0, r1, r2, r3, r.2.2, r5, r6, r7, r8], Lg)) : AOut) := by
        intro Y T HA HB RU RV ST NS I0 I1 I2 BO FI RG GU PU MA MN MS OT SC r0 r1 r2 r3 w r5 r6 r7 r8 L Lg p2 r h
        have e := i6 d Y T HA HB RU RV ST NS I0 I1 I2 BO FI RG GU PU MA MN MS OT SC r0 r1 r2 r3 w r5 r6 r7 r8 L Lg p2 r h
        rw [show d + (6 + n) = d + n + 6 by omega] at e
        exact e
      exact R_f_Rule_readSum_B_1 (d + n) (f_grp_cr n) j0 j1 j2 j3 j4 j5 j6 Y T HA HB RU RV ST NS I0 I1 I2 BO FI RG GU PU MA MN MS OT SC r0 r1 r2 r3 w r5 r6 r7 r8 L Lg p2 h
    · intro d Y T HA HB RU RV ST NS I0 I1 I2 BO FI RG GU PU MA MN MS OT SC r0 r1 r2 r3 w r5 r6 r7 r8 L Lg p2 r h
      rw [show d + (6 + (n + 1)) = d + n + 7 by omega]
      have j0 : ∀ (Y T HA HB RU RV ST NS I0 I1 I2 BO FI RG GU PU MA MN MS OT SC : Nat → Nat → Int32) (r0 r1 r2 r3 w r5 r6 r7 r8 : Nat) (L : Nat) (Lg : Int64) (p2 : Int32) (r : (Nat → Nat → Int32) × (Nat → Nat → Int32) × Nat), f_grp_cr n 0 T RU w p2 = some r → Ev (d + n + 6, 0, 0, 243, 0, [.val (.ref 320), .val (.ref 128), .val (.int p2), .val a_unk], [], (126, 120, L, [Y, T, HA, HB, RU, RV, ST, NS, I0, I1, I2, BO, FI, RG, GU, PU, MA, MN, MS, OT, SC], [r0, r1, r2, r3, w, r5, r6, r7, r8], Lg)) ((0, none, (126, 120, L, [Y, r.1, HA, HB, r.2.1, RV, ST, NS, I0, I1, I2, BO, FI, RG, GU, PU, MA, MN, MS, OT, SC], [r0, r1, r2, r3, r.2.2, r5, r6, r7, r8], Lg)) : AOut) := by
        intro Y T HA HB RU RV ST NS I0 I1 I2 BO FI RG GU PU MA MN MS OT SC r0 r1 r2 r3 w r5 r6 r7 r8 L Lg p2 r h
        have e := i0 d Y T HA HB RU RV ST NS I0 I1 I2 BO FI RG GU PU MA MN MS OT SC r0 r1 r2 r3 w r5 r6 r7 r8 L Lg p2 r h
        rw [show d + (6 + n) = d + n + 6 by omega] at e
        exact e
      have j1 : ∀ (Y T HA HB RU RV ST NS I0 I1 I2 BO FI RG GU PU MA MN MS OT SC : Nat → Nat → Int32) (r0 r1 r2 r3 w r5 r6 r7 r8 : Nat) (L : Nat) (Lg : Int64) (p2 : Int32) (r : (Nat → Nat → Int32) × (Nat → Nat → Int32) × Nat), f_grp_cr n 1 T RU w p2 = some r → Ev (d + n + 6, 0, 0, 244, 0, [.val (.ref 320), .val (.ref 128), .val (.int p2), .val a_unk], [], (126, 120, L, [Y, T, HA, HB, RU, RV, ST, NS, I0, I1, I2, BO, FI, RG, GU, PU, MA, MN, MS, OT, SC], [r0, r1, r2, r3, w, r5, r6, r7, r8], Lg)) ((0, none, (126, 120, L, [Y, r.1, HA, HB, r.2.1, RV, ST, NS, I0, I1, I2, BO, FI, RG, GU, PU, MA, MN, MS, OT, SC], [r0, r1, r2, r3, r.2.2, r5, r6, r7, r8], Lg)) : AOut) := by
        intro Y T HA HB RU RV ST NS I0 I1 I2 BO FI RG GU PU MA MN MS OT SC r0 r1 r2 r3 w r5 r6 r7 r8 L Lg p2 r h
        have e := i1 d Y T HA HB RU RV ST NS I0 I1 I2 BO FI RG GU PU MA MN MS OT SC r0 r1 r2 r3 w r5 r6 r7 r8 L Lg p2 r h
        rw [show d + (6 + n) = d + n + 6 by omega] at e
        exact e
      have j2 : ∀ (Y T HA HB RU RV ST NS I0 I1 I2 BO FI RG GU PU MA MN MS OT SC : Nat → Nat → Int32) (r0 r1 r2 r3 w r5 r6 r7 r8 : Nat) (L : Nat) (Lg : Int64) (p2 : Int32) (r : (Nat → Nat → Int32) × (Nat → Nat → Int32) × Nat), f_grp_cr n 2 T RU w p2 = some r → Ev (d + n + 6, 0, 0, 245, 0, [.val (.ref 320), .val (.ref 128), .val (.int p2)], [], (126, 120, L, [Y, T, HA, HB, RU, RV, ST, NS, I0, I1, I2, BO, FI, RG, GU, PU, MA, MN, MS, OT, SC], [r0, r1, r2, r3, w, r5, r6, r7, r8], Lg)) ((0, none, (126, 120, L, [Y, r.1, HA, HB, r.2.1, RV, ST, NS, I0, I1, I2, BO, FI, RG, GU, PU, MA, MN, MS, OT, SC], [r0, r1, r2, r3, r.2.2, r5, r6, r7, r8], Lg)) : AOut) := by
        intro Y T HA HB RU RV ST NS I0 I1 I2 BO FI RG GU PU MA MN MS OT SC r0 r1 r2 r3 w r5 r6 r7 r8 L Lg p2 r h
        have e := i2 d Y T HA HB RU RV ST NS I0 I1 I2 BO FI RG GU PU MA MN MS OT SC r0 r1 r2 r3 w r5 r6 r7 r8 L Lg p2 r h
        rw [show d + (6 + n) = d + n + 6 by omega] at e
        exact e
      have j3 : ∀ (Y T HA HB RU RV ST NS I0 I1 I2 BO FI RG GU PU MA MN MS OT SC : Nat → Nat → Int32) (r0 r1 r2 r3 w r5 r6 r7 r8 : Nat) (L : Nat) (Lg : Int64) (p2 : Int32) (r : (Nat → Nat → Int32) × (Nat → Nat → Int32) × Nat), f_grp_cr n 3 T RU w p2 = some r → Ev (d + n + 6, 0, 0, 248, 0, [.val (.ref 320), .val (.ref 128), .val (.int p2), .val a_unk, .val a_unk], [], (126, 120, L, [Y, T, HA, HB, RU, RV, ST, NS, I0, I1, I2, BO, FI, RG, GU, PU, MA, MN, MS, OT, SC], [r0, r1, r2, r3, w, r5, r6, r7, r8], Lg)) ((0, none, (126, 120, L, [Y, r.1, HA, HB, r.2.1, RV, ST, NS, I0, I1, I2, BO, FI, RG, GU, PU, MA, MN, MS, OT, SC], [r0, r1, r2, r3, r.2.2, r5, r6, r7, r8], Lg)) : AOut) := by
        intro Y T HA HB RU RV ST NS I0 I1 I2 BO FI RG GU PU MA MN MS OT SC r0 r1 r2 r3 w r5 r6 r7 r8 L Lg p2 r h
        have e := i3 d Y T HA HB RU RV ST NS I0 I1 I2 BO FI RG GU PU MA MN MS OT SC r0 r1 r2 r3 w r5 r6 r7 r8 L Lg p2 r h
        rw [show d + (6 + n) = d + n + 6 by omega] at e
        exact e
      have j4 : ∀ (Y T HA HB RU RV ST NS I0 I1 I2 BO FI RG GU PU MA MN MS OT SC : Nat → Nat → Int32) (r0 r1 r2 r3 w r5 r6 r7 r8 : Nat) (L : Nat) (Lg : Int64) (p2 : Int32) (r : (Nat → Nat → Int32) × (Nat → Nat → Int32) × Nat), f_grp_cr n 4 T RU w p2 = some r → Ev (d + n + 6, 0, 0, 249, 0, [.val (.ref 320), .val (.ref 128), .val (.int p2), .val a_unk], [], (126, 120, L, [Y, T, HA, HB, RU, RV, ST, NS, I0, I1, I2, BO, FI, RG, GU, PU, MA, MN, MS, OT, SC], [r0, r1, r2, r3, w, r5, r6, r7, r8], Lg)) ((0, none, (126, 120, L, [Y, r.1, HA, HB, r.2.1, RV, ST, NS, I0, I1, I2, BO, FI, RG, GU, PU, MA, MN, MS, OT, SC], [r0, r1, r2, r3, r.2.2, r5, r6, r7, r8], Lg)) : AOut) := by
        intro Y T HA HB RU RV ST NS I0 I1 I2 BO FI RG GU PU MA MN MS OT SC r0 r1 r2 r3 w r5 r6 r7 r8 L Lg p2 r h
        have e := i4 d Y T HA HB RU RV ST NS I0 I1 I2 BO FI RG GU PU MA MN MS OT SC r0 r1 r2 r3 w r5 r6 r7 r8 L Lg p2 r h
        rw [show d + (6 + n) = d + n + 6 by omega] at e
        exact e
      have j5 : ∀ (Y T HA HB RU RV ST NS I0 I1 I2 BO FI RG GU PU MA MN MS OT SC : Nat → Nat → Int32) (r0 r1 r2 r3 w r5 r6 r7 r8 : Nat) (L : Nat) (Lg : Int64) (p2 : Int32) (r : (Nat → Nat → Int32) × (Nat → Nat → Int32) × Nat), f_grp_cr n 5 T RU w p2 = some r → Ev (d + n + 6, 0, 0, 250, 0, [.val (.ref 320), .val (.ref 128), .val (.int p2), .val a_unk], [], (126, 120, L, [Y, T, HA, HB, RU, RV, ST, NS, I0, I1, I2, BO, FI, RG, GU, PU, MA, MN, MS, OT, SC], [r0, r1, r2, r3, w, r5, r6, r7, r8], Lg)) ((0, none, (126, 120, L, [Y, r.1, HA, HB, r.2.1, RV, ST, NS, I0, I1, I2, BO, FI, RG, GU, PU, MA, MN, MS, OT, SC], [r0, r1, r2, r3, r.2.2, r5, r6, r7, r8], Lg)) : AOut) := by
        intro Y T HA HB RU RV ST NS I0 I1 I2 BO FI RG GU PU MA MN MS OT SC r0 r1 r2 r3 w r5 r6 r7 r8 L Lg p2 r h
        have e := i5 d Y T HA HB RU RV ST NS I0 I1 I2 BO FI RG GU PU MA MN MS OT SC r0 r1 r2 r3 w r5 r6 r7 r8 L Lg p2 r h
        rw [show d + (6 + n) = d + n + 6 by omega] at e
        exact e
      have j6 : ∀ (Y T HA HB RU RV ST NS I0 I1 I2 BO FI RG GU PU MA MN MS OT SC : Nat → Nat → Int32) (r0 r1 r2 r3 w r5 r6 r7 r8 : Nat) (L : Nat) (Lg : Int64) (p2 : Int32) (r : (Nat → Nat → Int32) × (Nat → Nat → Int32) × Nat), f_grp_cr n 6 T RU w p2 = some r → Ev (d + n + 6, 0, 0, 247, 0, [.val (.ref 320), .val (.ref 128), .val (.int p2), .val a_unk], [], (126, 120, L, [Y, T, HA, HB, RU, RV, ST, NS, I0, I1, I2, BO, FI, RG, GU, PU, MA, MN, MS, OT, SC], [r0, r1, r2, r3, w, r5, r6, r7, r8], Lg)) ((0, none, (126, 120, L, [Y, r.1, HA, HB, r.2.1, RV, ST, NS, I0, I1, I2, BO, FI, RG, GU, PU, MA, MN, MS, OT, SC], [r0, r1, r2, r3, r.2.2, r5, r6, r7, r8], Lg)) : AOut) := by
        intro Y T HA HB RU RV ST NS I0 I1 I2 BO FI RG GU PU MA MN MS OT SC r0 r1 r2 r3 w r5 r6 r7 r8 L Lg p2 r h
        have e := i6 d Y T HA HB RU RV ST NS I0 I1 I2 BO FI RG GU PU MA MN MS OT SC r0 r1 r2 r3 w r5 r6 r7 r8 L Lg p2 r h
        rw [show d + (6 + n) = d + n + 6 by omega] at e
        exact e
      exact R_f_Rule_readProduct_B_1 (d + n) (f_grp_cr n) j0 j1 j2 j3 j4 j5 j6 Y T HA HB RU RV ST NS I0 I1 I2 BO FI RG GU PU MA MN MS OT SC r0 r1 r2 r3 w r5 r6 r7 r8 L Lg p2 h
    · intro d Y T HA HB RU RV ST NS I0 I1 I2 BO FI RG GU PU MA MN MS OT SC r0 r1 r2 r3 w r5 r6 r7 r8 L Lg p2 r h
      rw [show d + (6 + (n + 1)) = d + n + 7 by omega]
      have j0 : ∀ (Y T HA HB RU RV ST NS I0 I1 I2 BO FI RG GU PU MA MN MS OT SC : Nat → Nat → Int32) (r0 r1 r2 r3 w r5 r6 r7 r8 : Nat) (L : Nat) (Lg : Int64) (p2 : Int32) (r : (Nat → Nat → Int32) × (Nat → Nat → Int32) × Nat), f_grp_cr n 0 T RU w p2 = some r → Ev (d + n + 6, 0, 0, 243, 0, [.val (.ref 320), .val (.ref 128), .val (.int p2), .val a_unk], [], (126, 120, L, [Y, T, HA, HB, RU, RV, ST, NS, I0, I1, I2, BO, FI, RG, GU, PU, MA, MN, MS, OT, SC], [r0, r1, r2, r3, w, r5, r6, r7, r8], Lg)) ((0, none, (126, 120, L, [Y, r.1, HA, HB, r.2.1, RV, ST, NS, I0, I1, I2, BO, FI, RG, GU, PU, MA, MN, MS, OT, SC], [r0, r1, r2, r3, r.2.2, r5, r6, r7, r8], Lg)) : AOut) := by
        intro Y T HA HB RU RV ST NS I0 I1 I2 BO FI RG GU PU MA MN MS OT SC r0 r1 r2 r3 w r5 r6 r7 r8 L Lg p2 r h
        have e := i0 d Y T HA HB RU RV ST NS I0 I1 I2 BO FI RG GU PU MA MN MS OT SC r0 r1 r2 r3 w r5 r6 r7 r8 L Lg p2 r h
        rw [show d + (6 + n) = d + n + 6 by omega] at e
        exact e
      have j1 : ∀ (Y T HA HB RU RV ST NS I0 I1 I2 BO FI RG GU PU MA MN MS OT SC : Nat → Nat → Int32) (r0 r1 r2 r3 w r5 r6 r7 r8 : Nat) (L : Nat) (Lg : Int64) (p2 : Int32) (r : (Nat → Nat → Int32) × (Nat → Nat → Int32) × Nat), f_grp_cr n 1 T RU w p2 = some r → Ev (d + n + 6, 0, 0, 244, 0, [.val (.ref 320), .val (.ref 128), .val (.int p2), .val a_unk], [], (126, 120, L, [Y, T, HA, HB, RU, RV, ST, NS, I0, I1, I2, BO, FI, RG, GU, PU, MA, MN, MS, OT, SC], [r0, r1, r2, r3, w, r5, r6, r7, r8], Lg)) ((0, none, (126, 120, L, [Y, r.1, HA, HB, r.2.1, RV, ST, NS, I0, I1, I2, BO, FI, RG, GU, PU, MA, MN, MS, OT, SC], [r0, r1, r2, r3, r.2.2, r5, r6, r7, r8], Lg)) : AOut) := by
        intro Y T HA HB RU RV ST NS I0 I1 I2 BO FI RG GU PU MA MN MS OT SC r0 r1 r2 r3 w r5 r6 r7 r8 L Lg p2 r h
        have e := i1 d Y T HA HB RU RV ST NS I0 I1 I2 BO FI RG GU PU MA MN MS OT SC r0 r1 r2 r3 w r5 r6 r7 r8 L Lg p2 r h
        rw [show d + (6 + n) = d + n + 6 by omega] at e
        exact e
      have j2 : ∀ (Y T HA HB RU RV ST NS I0 I1 I2 BO FI RG GU PU MA MN MS OT SC : Nat → Nat → Int32) (r0 r1 r2 r3 w r5 r6 r7 r8 : Nat) (L : Nat) (Lg : Int64) (p2 : Int32) (r : (Nat → Nat → Int32) × (Nat → Nat → Int32) × Nat), f_grp_cr n 2 T RU w p2 = some r → Ev (d + n + 6, 0, 0, 245, 0, [.val (.ref 320), .val (.ref 128), .val (.int p2)], [], (126, 120, L, [Y, T, HA, HB, RU, RV, ST, NS, I0, I1, I2, BO, FI, RG, GU, PU, MA, MN, MS, OT, SC], [r0, r1, r2, r3, w, r5, r6, r7, r8], Lg)) ((0, none, (126, 120, L, [Y, r.1, HA, HB, r.2.1, RV, ST, NS, I0, I1, I2, BO, FI, RG, GU, PU, MA, MN, MS, OT, SC], [r0, r1, r2, r3, r.2.2, r5, r6, r7, r8], Lg)) : AOut) := by
        intro Y T HA HB RU RV ST NS I0 I1 I2 BO FI RG GU PU MA MN MS OT SC r0 r1 r2 r3 w r5 r6 r7 r8 L Lg p2 r h
        have e := i2 d Y T HA HB RU RV ST NS I0 I1 I2 BO FI RG GU PU MA MN MS OT SC r0 r1 r2 r3 w r5 r6 r7 r8 L Lg p2 r h
        rw [show d + (6 + n) = d + n + 6 by omega] at e
        exact e
      have j3 : ∀ (Y T HA HB RU RV ST NS I0 I1 I2 BO FI RG GU PU MA MN MS OT SC : Nat → Nat → Int32) (r0 r1 r2 r3 w r5 r6 r7 r8 : Nat) (L : Nat) (Lg : Int64) (p2 : Int32) (r : (Nat → Nat → Int32) × (Nat → Nat → Int32) × Nat), f_grp_cr n 3 T RU w p2 = some r → Ev (d + n + 6, 0, 0, 248, 0, [.val (.ref 320), .val (.ref 128), .val (.int p2), .val a_unk, .val a_unk], [], (126, 120, L, [Y, T, HA, HB, RU, RV, ST, NS, I0, I1, I2, BO, FI, RG, GU, PU, MA, MN, MS, OT, SC], [r0, r1, r2, r3, w, r5, r6, r7, r8], Lg)) ((0, none, (126, 120, L, [Y, r.1, HA, HB, r.2.1, RV, ST, NS, I0, I1, I2, BO, FI, RG, GU, PU, MA, MN, MS, OT, SC], [r0, r1, r2, r3, r.2.2, r5, r6, r7, r8], Lg)) : AOut) := by
        intro Y T HA HB RU RV ST NS I0 I1 I2 BO FI RG GU PU MA MN MS OT SC r0 r1 r2 r3 w r5 r6 r7 r8 L Lg p2 r h
        have e := i3 d Y T HA HB RU RV ST NS I0 I1 I2 BO FI RG GU PU MA MN MS OT SC r0 r1 r2 r3 w r5 r6 r7 r8 L Lg p2 r h
        rw [show d + (6 + n) = d + n + 6 by omega] at e
        exact e
      have j4 : ∀ (Y T HA HB RU RV ST NS I0 I1 I2 BO FI RG GU PU MA MN MS OT SC : Nat → Nat → Int32) (r0 r1 r2 r3 w r5 r6 r7 r8 : Nat) (L : Nat) (Lg : Int64) (p2 : Int32) (r : (Nat → Nat → Int32) × (Nat → Nat → Int32) × Nat), f_grp_cr n 4 T RU w p2 = some r → Ev (d + n + 6, 0, 0, 249, 0, [.val (.ref 320), .val (.ref 128), .val (.int p2), .val a_unk], [], (126, 120, L, [Y, T, HA, HB, RU, RV, ST, NS, I0, I1, I2, BO, FI, RG, GU, PU, MA, MN, MS, OT, SC], [r0, r1, r2, r3, w, r5, r6, r7, r8], Lg)) ((0, none, (126, 120, L, [Y, r.1, HA, HB, r.2.1, RV, ST, NS, I0, I1, I2, BO, FI, RG, GU, PU, MA, MN, MS, OT, SC], [r0, r1, r2, r3, r.2.2, r5, r6, r7, r8], Lg)) : AOut) := by
        intro Y T HA HB RU RV ST NS I0 I1 I2 BO FI RG GU PU MA MN MS OT SC r0 r1 r2 r3 w r5 r6 r7 r8 L Lg p2 r h
        have e := i4 d Y T HA HB RU RV ST NS I0 I1 I2 BO FI RG GU PU MA MN MS OT SC r0 r1 r2 r3 w r5 r6 r7 r8 L Lg p2 r h
        rw [show d + (6 + n) = d + n + 6 by omega] at e
        exact e
      have j5 : ∀ (Y T HA HB RU RV ST NS I0 I1 I2 BO FI RG GU PU MA MN MS OT SC : Nat → Nat → Int32) (r0 r1 r2 r3 w r5 r6 r7 r8 : Nat) (L : Nat) (Lg : Int64) (p2 : Int32) (r : (Nat → Nat → Int32) × (Nat → Nat → Int32) × Nat), f_grp_cr n 5 T RU w p2 = some r → Ev (d + n + 6, 0, 0, 250, 0, [.val (.ref 320), .val (.ref 128), .val (.int p2), .val a_unk], [], (126, 120, L, [Y, T, HA, HB, RU, RV, ST, NS, I0, I1, I2, BO, FI, RG, GU, PU, MA, MN, MS, OT, SC], [r0, r1, r2, r3, w, r5, r6, r7, r8], Lg)) ((0, none, (126, 120, L, [Y, r.1, HA, HB, r.2.1, RV, ST, NS, I0, I1, I2, BO, FI, RG, GU, PU, MA, MN, MS, OT, SC], [r0, r1, r2, r3, r.2.2, r5, r6, r7, r8], Lg)) : AOut) := by
        intro Y T HA HB RU RV ST NS I0 I1 I2 BO FI RG GU PU MA MN MS OT SC r0 r1 r2 r3 w r5 r6 r7 r8 L Lg p2 r h
        have e := i5 d Y T HA HB RU RV ST NS I0 I1 I2 BO FI RG GU PU MA MN MS OT SC r0 r1 r2 r3 w r5 r6 r7 r8 L Lg p2 r h
        rw [show d + (6 + n) = d + n + 6 by omega] at e
        exact e
      have j6 : ∀ (Y T HA HB RU RV ST NS I0 I1 I2 BO FI RG GU PU MA MN MS OT SC : Nat → Nat → Int32) (r0 r1 r2 r3 w r5 r6 r7 r8 : Nat) (L : Nat) (Lg : Int64) (p2 : Int32) (r : (Nat → Nat → Int32) × (Nat → Nat → Int32) × Nat), f_grp_cr n 6 T RU w p2 = some r → Ev (d + n + 6, 0, 0, 247, 0, [.val (.ref 320), .val (.ref 128), .val (.int p2), .val a_unk], [], (126, 120, L, [Y, T, HA, HB, RU, RV, ST, NS, I0, I1, I2, BO, FI, RG, GU, PU, MA, MN, MS, OT, SC], [r0, r1, r2, r3, w, r5, r6, r7, r8], Lg)) ((0, none, (126, 120, L, [Y, r.1, HA, HB, r.2.1, RV, ST, NS, I0, I1, I2, BO, FI, RG, GU, PU, MA, MN, MS, OT, SC], [r0, r1, r2, r3, r.2.2, r5, r6, r7, r8], Lg)) : AOut) := by
        intro Y T HA HB RU RV ST NS I0 I1 I2 BO FI RG GU PU MA MN MS OT SC r0 r1 r2 r3 w r5 r6 r7 r8 L Lg p2 r h
        have e := i6 d Y T HA HB RU RV ST NS I0 I1 I2 BO FI RG GU PU MA MN MS OT SC r0 r1 r2 r3 w r5 r6 r7 r8 L Lg p2 r h
        rw [show d + (6 + n) = d + n + 6 by omega] at e
        exact e
      exact R_f_Rule_readUnit_B_1 (d + n) (f_grp_cr n) j0 j1 j2 j3 j4 j5 j6 Y T HA HB RU RV ST NS I0 I1 I2 BO FI RG GU PU MA MN MS OT SC r0 r1 r2 r3 w r5 r6 r7 r8 L Lg p2 h
    · intro d Y T HA HB RU RV ST NS I0 I1 I2 BO FI RG GU PU MA MN MS OT SC r0 r1 r2 r3 w r5 r6 r7 r8 L Lg p2 r h
      rw [show d + (6 + (n + 1)) = d + n + 7 by omega]
      have j0 : ∀ (Y T HA HB RU RV ST NS I0 I1 I2 BO FI RG GU PU MA MN MS OT SC : Nat → Nat → Int32) (r0 r1 r2 r3 w r5 r6 r7 r8 : Nat) (L : Nat) (Lg : Int64) (p2 : Int32) (r : (Nat → Nat → Int32) × (Nat → Nat → Int32) × Nat), f_grp_cr n 0 T RU w p2 = some r → Ev (d + n + 6, 0, 0, 243, 0, [.val (.ref 320), .val (.ref 128), .val (.int p2), .val a_unk], [], (126, 120, L, [Y, T, HA, HB, RU, RV, ST, NS, I0, I1, I2, BO, FI, RG, GU, PU, MA, MN, MS, OT, SC], [r0, r1, r2, r3, w, r5, r6, r7, r8], Lg)) ((0, none, (126, 120, L, [Y, r.1, HA, HB, r.2.1, RV, ST, NS, I0, I1, I2, BO, FI, RG, GU, PU, MA, MN, MS, OT, SC], [r0, r1, r2, r3, r.2.2, r5, r6, r7, r8], Lg)) : AOut) := by
        intro Y T HA HB RU RV ST NS I0 I1 I2 BO FI RG GU PU MA MN MS OT SC r0 r1 r2 r3 w r5 r6 r7 r8 L Lg p2 r h
        have e := i0 d Y T HA HB RU RV ST NS I0 I1 I2 BO FI RG GU PU MA MN MS OT SC r0 r1 r2 r3 w r5 r6 r7 r8 L Lg p2 r h
        rw [show d + (6 + n) = d + n + 6 by omega] at e
        exact e
      have j1 : ∀ (Y T HA HB RU RV ST NS I0 I1 I2 BO FI RG GU PU MA MN MS OT SC : Nat → Nat → Int32) (r0 r1 r2 r3 w r5 r6 r7 r8 : Nat) (L : Nat) (Lg : Int64) (p2 : Int32) (r : (Nat → Nat → Int32) × (Nat → Nat → Int32) × Nat), f_grp_cr n 1 T RU w p2 = some r → Ev (d + n + 6, 0, 0, 244, 0, [.val (.ref 320), .val (.ref 128), .val (.int p2), .val a_unk], [], (126, 120, L, [Y, T, HA, HB, RU, RV, ST, NS, I0, I1, I2, BO, FI, RG, GU, PU, MA, MN, MS, OT, SC], [r0, r1, r2, r3, w, r5, r6, r7, r8], Lg)) ((0, none, (126, 120, L, [Y, r.1, HA, HB, r.2.1, RV, ST, NS, I0, I1, I2, BO, FI, RG, GU, PU, MA, MN, MS, OT, SC], [r0, r1, r2, r3, r.2.2, r5, r6, r7, r8], Lg)) : AOut) := by
        intro Y T HA HB RU RV ST NS I0 I1 I2 BO FI RG GU PU MA MN MS OT SC r0 r1 r2 r3 w r5 r6 r7 r8 L Lg p2 r h
        have e := i1 d Y T HA HB RU RV ST NS I0 I1 I2 BO FI RG GU PU MA MN MS OT SC r0 r1 r2 r3 w r5 r6 r7 r8 L Lg p2 r h
        rw [show d + (6 + n) = d + n + 6 by omega] at e
        exact e
      have j2 : ∀ (Y T HA HB RU RV ST NS I0 I1 I2 BO FI RG GU PU MA MN MS OT SC : Nat → Nat → Int32) (r0 r1 r2 r3 w r5 r6 r7 r8 : Nat) (L : Nat) (Lg : Int64) (p2 : Int32) (r : (Nat → Nat → Int32) × (Nat → Nat → Int32) × Nat), f_grp_cr n 2 T RU w p2 = some r → Ev (d + n + 6, 0, 0, 245, 0, [.val (.ref 320), .val (.ref 128), .val (.int p2)], [], (126, 120, L, [Y, T, HA, HB, RU, RV, ST, NS, I0, I1, I2, BO, FI, RG, GU, PU, MA, MN, MS, OT, SC], [r0, r1, r2, r3, w, r5, r6, r7, r8], Lg)) ((0, none, (126, 120, L, [Y, r.1, HA, HB, r.2.1, RV, ST, NS, I0, I1, I2, BO, FI, RG, GU, PU, MA, MN, MS, OT, SC], [r0, r1, r2, r3, r.2.2, r5, r6, r7, r8], Lg)) : AOut) := by
        intro Y T HA HB RU RV ST NS I0 I1 I2 BO FI RG GU PU MA MN MS OT SC r0 r1 r2 r3 w r5 r6 r7 r8 L Lg p2 r h
        have e := i2 d Y T HA HB RU RV ST NS I0 I1 I2 BO FI RG GU PU MA MN MS OT SC r0 r1 r2 r3 w r5 r6 r7 r8 L Lg p2 r h
        rw [show d + (6 + n) = d + n + 6 by omega] at e
        exact e
      have j3 : ∀ (Y T HA HB RU RV ST NS I0 I1 I2 BO FI RG GU PU MA MN MS OT SC : Nat → Nat → Int32) (r0 r1 r2 r3 w r5 r6 r7 r8 : Nat) (L : Nat) (Lg : Int64) (p2 : Int32) (r : (Nat → Nat → Int32) × (Nat → Nat → Int32) × Nat), f_grp_cr n 3 T RU w p2 = some r → Ev (d + n + 6, 0, 0, 248, 0, [.val (.ref 320), .val (.ref 128), .val (.int p2), .val a_unk, .val a_unk], [], (126, 120, L, [Y, T, HA, HB, RU, RV, ST, NS, I0, I1, I2, BO, FI, RG, GU, PU, MA, MN, MS, OT, SC], [r0, r1, r2, r3, w, r5, r6, r7, r8], Lg)) ((0, none, (126, 120, L, [Y, r.1, HA, HB, r.2.1, RV, ST, NS, I0, I1, I2, BO, FI, RG, GU, PU, MA, MN, MS, OT, SC], [r0, r1, r2, r3, r.2.2, r5, r6, r7, r8], Lg)) : AOut) := by
        intro Y T HA HB RU RV ST NS I0 I1 I2 BO FI RG GU PU MA MN MS OT SC r0 r1 r2 r3 w r5 r6 r7 r8 L Lg p2 r h
        have e := i3 d Y T HA HB RU RV ST NS I0 I1 I2 BO FI RG GU PU MA MN MS OT SC r0 r1 r2 r3 w r5 r6 r7 r8 L Lg p2 r h
        rw [show d + (6 + n) = d + n + 6 by omega] at e
        exact e
      have j4 : ∀ (Y T HA HB RU RV ST NS I0 I1 I2 BO FI RG GU PU MA MN MS OT SC : Nat → Nat → Int32) (r0 r1 r2 r3 w r5 r6 r7 r8 : Nat) (L : Nat) (Lg : Int64) (p2 : Int32) (r : (Nat → Nat → Int32) × (Nat → Nat → Int32) × Nat), f_grp_cr n 4 T RU w p2 = some r → Ev (d + n + 6, 0, 0, 249, 0, [.val (.ref 320), .val (.ref 128), .val (.int p2), .val a_unk], [], (126, 120, L, [Y, T, HA, HB, RU, RV, ST, NS, I0, I1, I2, BO, FI, RG, GU, PU, MA, MN, MS, OT, SC], [r0, r1, r2, r3, w, r5, r6, r7, r8], Lg)) ((0, none, (126, 120, L, [Y, r.1, HA, HB, r.2.1, RV, ST, NS, I0, I1, I2, BO, FI, RG, GU, PU, MA, MN, MS, OT, SC], [r0, r1, r2, r3, r.2.2, r5, r6, r7, r8], Lg)) : AOut) := by
        intro Y T HA HB RU RV ST NS I0 I1 I2 BO FI RG GU PU MA MN MS OT SC r0 r1 r2 r3 w r5 r6 r7 r8 L Lg p2 r h
        have e := i4 d Y T HA HB RU RV ST NS I0 I1 I2 BO FI RG GU PU MA MN MS OT SC r0 r1 r2 r3 w r5 r6 r7 r8 L Lg p2 r h
        rw [show d + (6 + n) = d + n + 6 by omega] at e
        exact e
      have j5 : ∀ (Y T HA HB RU RV ST NS I0 I1 I2 BO FI RG GU PU MA MN MS OT SC : Nat → Nat → Int32) (r0 r1 r2 r3 w r5 r6 r7 r8 : Nat) (L : Nat) (Lg : Int64) (p2 : Int32) (r : (Nat → Nat → Int32) × (Nat → Nat → Int32) × Nat), f_grp_cr n 5 T RU w p2 = some r → Ev (d + n + 6, 0, 0, 250, 0, [.val (.ref 320), .val (.ref 128), .val (.int p2), .val a_unk], [], (126, 120, L, [Y, T, HA, HB, RU, RV, ST, NS, I0, I1, I2, BO, FI, RG, GU, PU, MA, MN, MS, OT, SC], [r0, r1, r2, r3, w, r5, r6, r7, r8], Lg)) ((0, none, (126, 120, L, [Y, r.1, HA, HB, r.2.1, RV, ST, NS, I0, I1, I2, BO, FI, RG, GU, PU, MA, MN, MS, OT, SC], [r0, r1, r2, r3, r.2.2, r5, r6, r7, r8], Lg)) : AOut) := by
        intro Y T HA HB RU RV ST NS I0 I1 I2 BO FI RG GU PU MA MN MS OT SC r0 r1 r2 r3 w r5 r6 r7 r8 L Lg p2 r h
        have e := i5 d Y T HA HB RU RV ST NS I0 I1 I2 BO FI RG GU PU MA MN MS OT SC r0 r1 r2 r3 w r5 r6 r7 r8 L Lg p2 r h
        rw [show d + (6 + n) = d + n + 6 by omega] at e
        exact e
      have j6 : ∀ (Y T HA HB RU RV ST NS I0 I1 I2 BO FI RG GU PU MA MN MS OT SC : Nat → Nat → Int32) (r0 r1 r2 r3 w r5 r6 r7 r8 : Nat) (L : Nat) (Lg : Int64) (p2 : Int32) (r : (Nat → Nat → Int32) × (Nat → Nat → Int32) × Nat), f_grp_cr n 6 T RU w p2 = some r → Ev (d + n + 6, 0, 0, 247, 0, [.val (.ref 320), .val (.ref 128), .val (.int p2), .val a_unk], [], (126, 120, L, [Y, T, HA, HB, RU, RV, ST, NS, I0, I1, I2, BO, FI, RG, GU, PU, MA, MN, MS, OT, SC], [r0, r1, r2, r3, w, r5, r6, r7, r8], Lg)) ((0, none, (126, 120, L, [Y, r.1, HA, HB, r.2.1, RV, ST, NS, I0, I1, I2, BO, FI, RG, GU, PU, MA, MN, MS, OT, SC], [r0, r1, r2, r3, r.2.2, r5, r6, r7, r8], Lg)) : AOut) := by
        intro Y T HA HB RU RV ST NS I0 I1 I2 BO FI RG GU PU MA MN MS OT SC r0 r1 r2 r3 w r5 r6 r7 r8 L Lg p2 r h
        have e := i6 d Y T HA HB RU RV ST NS I0 I1 I2 BO FI RG GU PU MA MN MS OT SC r0 r1 r2 r3 w r5 r6 r7 r8 L Lg p2 r h
        rw [show d + (6 + n) = d + n + 6 by omega] at e
        exact e
      exact R_f_Rule_readComparison_B_1 (d + n) (f_grp_cr n) j0 j1 j2 j3 j4 j5 j6 Y T HA HB RU RV ST NS I0 I1 I2 BO FI RG GU PU MA MN MS OT SC r0 r1 r2 r3 w r5 r6 r7 r8 L Lg p2 h

set_option maxRecDepth 1000000 in
set_option maxHeartbeats 4000000 in
theorem R_f_Rule_read_1 (d : Nat) (Y T HA HB RU RV ST NS I0 I1 I2 BO FI RG GU PU MA MN MS OT SC : Nat → Nat → Int32) (r0 r1 r2 r3 w r5 r6 r7 r8 : Nat) (L : Nat) (Lg : Int64) {r : (Nat → Nat → Int32) × (Nat → Nat → Int32) × Nat} (h : f_Rule_read T RU w = some r) : Ev (d + 47, 0, 0, 241, 0, [.val (.ref 320), .val (.ref 128)], [], (126, 120, L, [Y, T, HA, HB, RU, RV, ST, NS, I0, I1, I2, BO, FI, RG, GU, PU, MA, MN, MS, OT, SC], [r0, r1, r2, r3, w, r5, r6, r7, r8], Lg)) ((0, none, (126, 120, L, [Y, r.1, HA, HB, r.2.1, RV, ST, NS, I0, I1, I2, BO, FI, RG, GU, PU, MA, MN, MS, OT, SC], [r0, r1, r2, r3, r.2.2, r5, r6, r7, r8], Lg)) : AOut) := by
  suffices key : ∀ o : AOut, ((0, none, (126, 120, L, [Y, r.1, HA, HB, r.2.1, RV, ST, NS, I0, I1, I2, BO, FI, RG, GU, PU, MA, MN, MS, OT, SC], [r0, r1, r2, r3, r.2.2, r5, r6, r7, r8], Lg)) : AOut) = o → Ev (d + 47, 0, 0, 241, 0, [.val (.ref 320), .val (.ref 128)], [], (126, 120, L, [Y, T, HA, HB, RU, RV, ST, NS, I0, I1, I2, BO, FI, RG, GU, PU, MA, MN, MS, OT, SC], [r0, r1, r2, r3, w, r5, r6, r7, r8], Lg)) o from key _ rfl
  intro o ho
  obtain ⟨RU_1, zh1, h⟩ := bnd h
  have zh1 : f_Rule_forget RU = some RU_1 := zh1
  have ze2 := R_f_Rule_forget_0 (d + 46) Y T HA HB RU RV ST NS I0 I1 I2 BO FI RG GU PU MA MN MS OT SC r0 r1 r2 r3 w r5 r6 r7 r8 L Lg zh1
  suffices e : Ev (d + 47, 0, 0, 241, 4, [.val (.ref 320), .val (.ref 128)], [], (126, 120, L, [Y, T, HA, HB, RU_1, RV, ST, NS, I0, I1, I2, BO, FI, RG, GU, PU, MA, MN, MS, OT, SC], [r0, r1, r2, r3, w, r5, r6, r7, r8], Lg)) o from ev_call (fun v μ => (d + 47, 0, 0, 241, 4, [.val (.ref 320), .val (.ref 128)], v.toList ++ [], μ)) 2 ze2 e (fun n => Eq.refl _)
  obtain ⟨⟨T_2, RU_3, w4⟩, zh3, h⟩ := bnd h
  have zh3 : f_grp_cr 40 0 T RU_1 w 0 = some (T_2, RU_3, w4) := zh3
  have ze4 := (K_grp_cr_1 40).1 (d + 0) Y T HA HB RU_1 RV ST NS I0 I1 I2 BO FI RG GU PU MA MN MS OT SC r0 r1 r2 r3 w r5 r6 r7 r8 L Lg 0 _ zh3
  suffices e : Ev (d + 47, 0, 0, 241, 10, [.val (.ref 320), .val (.ref 128)], [], (126, 120, L, [Y, T_2, HA, HB, RU_3, RV, ST, NS, I0, I1, I2, BO, FI, RG, GU, PU, MA, MN, MS, OT, SC], [r0, r1, r2, r3, w4, r5, r6, r7, r8], Lg)) o from ev_call (fun v μ => (d + 47, 0, 0, 241, 10, [.val (.ref 320), .val (.ref 128)], v.toList ++ [], μ)) 4 ze4 e (fun n => Eq.refl _)
  obtain ⟨x5, zh5, h⟩ := bnd h
  have zh5 : f_Tape_atEnd T_2 = some x5 := zh5
  have ze6 := R_f_Tape_atEnd_0 (d + 46) Y T_2 HA HB RU_3 RV ST NS I0 I1 I2 BO FI RG GU PU MA MN MS OT SC r0 r1 r2 r3 w4 r5 r6 r7 r8 L Lg zh5
  suffices e : Ev (d + 47, 0, 0, 241, 14, [.val (.ref 320), .val (.ref 128)], [.int x5], (126, 120, L, [Y, T_2, HA, HB, RU_3, RV, ST, NS, I0, I1, I2, BO, FI, RG, GU, PU, MA, MN, MS, OT, SC], [r0, r1, r2, r3, w4, r5, r6, r7, r8], Lg)) o from ev_call (fun v μ => (d + 47, 0, 0, 241, 14, [.val (.ref 320), .val (.ref 128)], v.toList ++ [], μ)) 2 ze6 e (fun n => Eq.refl _)
  by_cases zc7 : x5 ≠ 0
  · have h := itp h zc7
    suffices e : Ev (d + 47, 0, 0, 241, 22, [.val (.ref 320), .val (.ref 128)], [], (126, 120, L, [Y, T_2, HA, HB, RU_3, RV, ST, NS, I0, I1, I2, BO, FI, RG, GU, PU, MA, MN, MS, OT, SC], [r0, r1, r2, r3, w4, r5, r6, r7, r8], Lg)) o from ev_t (c := x5 ≠ 0) _ _ 1  zc7 e (fun n => Eq.refl _)
    have ze8 := Option.some.inj h
    subst ze8
    exact ev_rete 1 ho (fun n => Eq.refl _)
  · have h := itn h zc7
    suffices e : Ev (d + 47, 0, 0, 241, 17, [.val (.ref 320), .val (.ref 128)], [], (126, 120, L, [Y, T_2, HA, HB, RU_3, RV, ST, NS, I0, I1, I2, BO, FI, RG, GU, PU, MA, MN, MS, OT, SC], [r0, r1, r2, r3, w4, r5, r6, r7, r8], Lg)) o from ev_f (c := x5 ≠ 0) _ _ 1  zc7 e (fun n => Eq.refl _)
    obtain ⟨T_6, zh9, h⟩ := bnd h
    have zh9 : f_Tape_fail T_2 1 = some T_6 := zh9
    have ze10 := R_f_Tape_fail_0 (d + 46) Y T_2 HA HB RU_3 RV ST NS I0 I1 I2 BO FI RG GU PU MA MN MS OT SC r0 r1 r2 r3 w4 r5 r6 r7 r8 L Lg 1 zh9
    suffices e : Ev (d + 47, 0, 0, 241, 22, [.val (.ref 320), .val (.ref 128)], [], (126, 120, L, [Y, T_6, HA, HB, RU_3, RV, ST, NS, I0, I1, I2, BO, FI, RG, GU, PU, MA, MN, MS, OT, SC], [r0, r1, r2, r3, w4, r5, r6, r7, r8], Lg)) o from ev_call (fun v μ => (d + 47, 0, 0, 241, 22, [.val (.ref 320), .val (.ref 128)], v.toList ++ [], μ)) 3 ze10 e (fun n => Eq.refl _)
    have ze11 := Option.some.inj h
    subst ze11
    exact ev_rete 1 ho (fun n => Eq.refl _)
set_option maxRecDepth 1000000 in
set_option maxHeartbeats 4000000 in
theorem R_f_Y_rule_1 (d : Nat) (Y T H H2 RV RU ST NS I0 I1 I2 BO FI RG GU PU MA MN MS OT SC : Nat → Nat → Int32) (w r5 : Nat) (L : Nat) (Lg : Int64) (p1 : Int32) {r : Nat × Int32 × (Nat → Nat → Int32) × (Nat → Nat → Int32) × (Nat → Nat → Int32) × Nat × Nat × Nat} (h : f_Y_rule Y T RV 320 384 w p1 = some r) : Ev (d + 48, 1, 8, 286, 0, [.val (.ref 64), .val (.int p1), .val a_unk], [], (126, 120, L, [Y, T, H, H2, RV, RU, ST, NS, I0, I1, I2, BO, FI, RG, GU, PU, MA, MN, MS, OT, SC], [192, 256, 384, 320, w, r5, 576, 640, 704], Lg)) ((r.1, a_ov r.1 (.int r.2.1), (126, 120, L, [r.2.2.1, r.2.2.2.1, H, H2, r.2.2.2.2.1, RU, ST, NS, I0, I1, I2, BO, FI, RG, GU, PU, MA, MN, MS, OT, SC], [192, 256, r.2.2.2.2.2.1, r.2.2.2.2.2.2.1, r.2.2.2.2.2.2.2, r5, 576, 640, 704], Lg)) : AOut) := by
  suffices key : ∀ o : AOut, ((r.1, a_ov r.1 (.int r.2.1), (126, 120, L, [r.2.2.1, r.2.2.2.1, H, H2, r.2.2.2.2.1, RU, ST, NS, I0, I1, I2, BO, FI, RG, GU, PU, MA, MN, MS, OT, SC], [192, 256, r.2.2.2.2.2.1, r.2.2.2.2.2.2.1, r.2.2.2.2.2.2.2, r5, 576, 640, 704], Lg)) : AOut) = o → Ev (d + 48, 1, 8, 286, 0, [.val (.ref 64), .val (.int p1), .val a_unk], [], (126, 120, L, [Y, T, H, H2, RV, RU, ST, NS, I0, I1, I2, BO, FI, RG, GU, PU, MA, MN, MS, OT, SC], [192, 256, 384, 320, w, r5, 576, 640, 704], Lg)) o from key _ rfl
  intro o ho
  obtain ⟨zt1, zh2, h⟩ := bnd h
  have zj3 : ∀ (v1 : Int32), v1 = zt1 → Ev (d + 48, 1, 8, 286, 28, [.val (.ref 64), .val (.int p1), .val a_unk], [.int v1, .ref 64], (126, 120, L, [Y, T, H, H2, RV, RU, ST, NS, I0, I1, I2, BO, FI, RG, GU, PU, MA, MN, MS, OT, SC], [192, 256, 384, 320, w, r5, 576, 640, 704], Lg)) o := by
    intro v1 ze4
    subst ze4
    obtain ⟨⟨q2, Y_3⟩, zh5, h⟩ := bnd h
    have zh5 : f_Y_refuseUnless Y v1 = some (q2, Y_3) := zh5
    have ze6 := R_f_Y_refuseUnless_1 (d + 47) Y T H H2 RV RU ST NS I0 I1 I2 BO FI RG GU PU MA MN MS OT SC w r5 L Lg v1 zh5
    cases q2 with
    | zero =>
      have h := itp h rfl
      suffices e : Ev (d + 48, 0, 0, 286, 31, [.val (.ref 64), .val (.int p1), .val a_unk], [], (126, 120, L, [Y_3, T, H, H2, RV, RU, ST, NS, I0, I1, I2, BO, FI, RG, GU, PU, MA, MN, MS, OT, SC], [192, 256, 384, 320, w, r5, 576, 640, 704], Lg)) o from ev_call (fun v μ => (d + 48, 0, 0, 286, 31, [.val (.ref 64), .val (.int p1), .val a_unk], v.toList ++ [], μ)) 1 ze6 e (fun n => Eq.refl _)
      obtain ⟨⟨T_4, w5⟩, zh7, h⟩ := bnd h
      have zh7 : f_Tape_open T p1 = some (T_4, w5) := zh7
      have ze8 := R_f_Tape_open_0 (d + 41) Y_3 T H H2 RV RU ST NS I0 I1 I2 BO FI RG GU PU MA MN MS OT SC 192 256 384 320 w r5 576 640 704 L Lg p1 zh7
      suffices e : Ev (d + 48, 0, 0, 286, 39, [.val (.ref 64), .val (.int p1), .val a_unk], [], (126, 120, L, [Y_3, T_4, H, H2, RV, RU, ST, NS, I0, I1, I2, BO, FI, RG, GU, PU, MA, MN, MS, OT, SC], [192, 256, 384, 320, w5, r5, 576, 640, 704], Lg)) o from ev_call (fun v μ => (d + 48, 0, 0, 286, 39, [.val (.ref 64), .val (.int p1), .val a_unk], v.toList ++ [], μ)) 4 ze8 e (fun n => Eq.refl _)
      suffices e : Ev (d + 48, 0, 0, 286, 43, [.val (.ref 64), .val (.int p1), .val a_unk], [.ref 320], (126, 120, L, [Y_3, T_4, H, H2, RV, RU, ST, NS, I0, I1, I2, BO, FI, RG, GU, PU, MA, MN, MS, OT, SC], [192, 256, 384, 320, w5, r5, 576, 640, 704], Lg)) o from ev_b 2 e (fun n => Eq.refl _)
      obtain ⟨⟨T_6, RV_7, w8⟩, zh9, h⟩ := bnd h
      have zh9 : f_Rule_read T_4 RV w5 = some (T_6, RV_7, w8) := zh9
      have ze10 := R_f_Rule_read_1 (d + 0) Y_3 T_4 H H2 RV RU ST NS I0 I1 I2 BO FI RG GU PU MA MN MS OT SC 192 256 384 320 w5 r5 576 640 704 L Lg zh9
      suffices e : Ev (d + 48, 0, 0, 286, 50, [.val (.ref 64), .val (.int p1), .val a_unk], [], (126, 120, L, [Y_3, T_6, H, H2, RV_7, RU, ST, NS, I0, I1, I2, BO, FI, RG, GU, PU, MA, MN, MS, OT, SC], [192, 256, 384, 320, w8, r5, 576, 640, 704], Lg)) o from ev_call (fun v μ => (d + 48, 0, 0, 286, 50, [.val (.ref 64), .val (.int p1), .val a_unk], v.toList ++ [], μ)) 3 ze10 e (fun n => Eq.refl _)
      obtain ⟨T_9, zh11, h⟩ := bnd h
      have zh11 : f_Tape_empty T_6 = some T_9 := zh11
      have ze12 := R_f_Tape_empty_0 (d + 47) Y_3 T_6 H H2 RV_7 RU ST NS I0 I1 I2 BO FI RG GU PU MA MN MS OT SC 192 256 384 320 w8 r5 576 640 704 L Lg zh11
      suffices e : Ev (d + 48, 0, 0, 286, 57, [.val (.ref 64), .val (.int p1), .val a_unk], [], (126, 120, L, [Y_3, T_9, H, H2, RV_7, RU, ST, NS, I0, I1, I2, BO, FI, RG, GU, PU, MA, MN, MS, OT, SC], [192, 256, 384, 320, w8, r5, 576, 640, 704], Lg)) o from ev_call (fun v μ => (d + 48, 0, 0, 286, 57, [.val (.ref 64), .val (.int p1), .val a_unk], v.toList ++ [], μ)) 3 ze12 e (fun n => Eq.refl _)
      obtain ⟨x10, zh13, h⟩ := bnd h
      have zh13 : f_Tape_failed T_9 = some x10 := zh13
      have ze14 := R_f_Tape_failed_0 (d + 47) Y_3 T_9 H H2 RV_7 RU ST NS I0 I1 I2 BO FI RG GU PU MA MN MS OT SC 192 256 384 320 w8 r5 576 640 704 L Lg zh13
      suffices e : Ev (d + 48, 0, 0, 286, 64, [.val (.ref 64), .val (.int p1), .val a_unk], [.int x10], (126, 120, L, [Y_3, T_9, H, H2, RV_7, RU, ST, NS, I0, I1, I2, BO, FI, RG, GU, PU, MA, MN, MS, OT, SC], [192, 256, 384, 320, w8, r5, 576, 640, 704], Lg)) o from ev_call (fun v μ => (d + 48, 0, 0, 286, 64, [.val (.ref 64), .val (.int p1), .val a_unk], v.toList ++ [], μ)) 3 ze14 e (fun n => Eq.refl _)
      by_cases zc15 : x10 = 0
      · have h := itp h zc15
        suffices e : Ev (d + 48, 0, 0, 286, 78, [.val (.ref 64), .val (.int p1), .val a_unk], [], (126, 120, L, [Y_3, T_9, H, H2, RV_7, RU, ST, NS, I0, I1, I2, BO, FI, RG, GU, PU, MA, MN, MS, OT, SC], [192, 256, 384, 320, w8, r5, 576, 640, 704], Lg)) o from ev_t (c := x10 = 0) _ _ 1  zc15 e (fun n => Eq.refl _)
        suffices e : Ev (d + 48, 0, 0, 286, 82, [.val (.ref 64), .val (.int p1), .val a_unk], [.ref 384], (126, 120, L, [Y_3, T_9, H, H2, RV_7, RU, ST, NS, I0, I1, I2, BO, FI, RG, GU, PU, MA, MN, MS, OT, SC], [192, 256, 384, 320, w8, r5, 576, 640, 704], Lg)) o from ev_b 2 e (fun n => Eq.refl _)
        suffices e : Ev (d + 48, 0, 0, 286, 88, [.val (.ref 64), .val (.int p1), .val (.ref 384)], [.ref 320, .ref 64], (126, 120, L, [Y_3, T_9, H, H2, RV_7, RU, ST, NS, I0, I1, I2, BO, FI, RG, GU, PU, MA, MN, MS, OT, SC], [192, 256, 384, 320, w8, r5, 576, 640, 704], Lg)) o from ev_b 4 e (fun n => Eq.refl _)
        have ze16 := Option.some.inj h
        subst ze16
        exact ev_rete 6 ho (fun n => Eq.refl _)
      · have h := itn h zc15
        suffices e : Ev (d + 48, 0, 0, 286, 67, [.val (.ref 64), .val (.int p1), .val a_unk], [], (126, 120, L, [Y_3, T_9, H, H2, RV_7, RU, ST, NS, I0, I1, I2, BO, FI, RG, GU, PU, MA, MN, MS, OT, SC], [192, 256, 384, 320, w8, r5, 576, 640, 704], Lg)) o from ev_f (c := x10 = 0) _ _ 1  zc15 e (fun n => Eq.refl _)
        have ze17 := Option.some.inj h
        subst ze17
        exact ev_rete 6 ho (fun n => Eq.refl _)
    | succ q2 =>
      have h := itn h (Nat.succ_ne_zero q2)
      have ze18 := Option.some.inj h
      subst ze18
      subst ho
      exact ev_thr (fun v μ => (d + 48, 0, 0, 286, 31, [.val (.ref 64), .val (.int p1), .val a_unk], v.toList ++ [], μ)) 1 ze6 (fun n => Eq.refl _) (fun n => rfl)
  obtain ⟨zt19, zh20, zh2⟩ := bnd zh2
  have zj21 : zt19 = .inl () → Ev (d + 48, 1, 8, 286, 27, [.val (.ref 64), .val (.int p1), .val a_unk], [.ref 64], (126, 120, L, [Y, T, H, H2, RV, RU, ST, NS, I0, I1, I2, BO, FI, RG, GU, PU, MA, MN, MS, OT, SC], [192, 256, 384, 320, w, r5, 576, 640, 704], Lg)) o := by
    intro ze22
    have zh2 := sum_l zh2 ze22
    exact ev_b 1 (zj3 0 (Option.some.inj zh2) ) (fun n => Eq.refl _)
  by_cases zc23 : p1 < 0
  · have zh20 := itp zh20 zc23
    suffices e : Ev (d + 48, 1, 8, 286, 27, [.val (.ref 64), .val (.int p1), .val a_unk], [.ref 64], (126, 120, L, [Y, T, H, H2, RV, RU, ST, NS, I0, I1, I2, BO, FI, RG, GU, PU, MA, MN, MS, OT, SC], [192, 256, 384, 320, w, r5, 576, 640, 704], Lg)) o from ev_t (c := p1 < 0) _ _ 3  zc23 e (fun n => Eq.refl _)
    exact ev_b 0 (zj21  (Option.some.inj zh20).symm ) (fun n => Eq.refl _)
  · have zh20 := itn zh20 zc23
    suffices e : Ev (d + 48, 1, 8, 286, 5, [.val (.ref 64), .val (.int p1), .val a_unk], [.ref 64], (126, 120, L, [Y, T, H, H2, RV, RU, ST, NS, I0, I1, I2, BO, FI, RG, GU, PU, MA, MN, MS, OT, SC], [192, 256, 384, 320, w, r5, 576, 640, 704], Lg)) o from ev_f (c := p1 < 0) _ _ 3  zc23 e (fun n => Eq.refl _)
    by_cases zc24 : (T 0 1) < p1
    · have zh20 := itp zh20 zc24
      suffices e : Ev (d + 48, 1, 8, 286, 27, [.val (.ref 64), .val (.int p1), .val a_unk], [.ref 64], (126, 120, L, [Y, T, H, H2, RV, RU, ST, NS, I0, I1, I2, BO, FI, RG, GU, PU, MA, MN, MS, OT, SC], [192, 256, 384, 320, w, r5, 576, 640, 704], Lg)) o from ev_t (c := (T 0 1) < p1) _ _ 5  zc24 e (fun n => Eq.refl _)
      exact ev_b 0 (zj21  (Option.some.inj zh20).symm ) (fun n => Eq.refl _)
    · have zh20 := itn zh20 zc24
      suffices e : Ev (d + 48, 1, 8, 286, 16, [.val (.ref 64), .val (.int p1), .val a_unk], [.ref 64], (126, 120, L, [Y, T, H, H2, RV, RU, ST, NS, I0, I1, I2, BO, FI, RG, GU, PU, MA, MN, MS, OT, SC], [192, 256, 384, 320, w, r5, 576, 640, 704], Lg)) o from ev_f (c := (T 0 1) < p1) _ _ 5  zc24 e (fun n => Eq.refl _)
      by_cases zc25 : 150 < p1
      · have zh20 := itp zh20 zc25
        suffices e : Ev (d + 48, 1, 8, 286, 27, [.val (.ref 64), .val (.int p1), .val a_unk], [.ref 64], (126, 120, L, [Y, T, H, H2, RV, RU, ST, NS, I0, I1, I2, BO, FI, RG, GU, PU, MA, MN, MS, OT, SC], [192, 256, 384, 320, w, r5, 576, 640, 704], Lg)) o from ev_t (c := 150 < p1) _ _ 3  zc25 e (fun n => Eq.refl _)
        exact ev_b 0 (zj21  (Option.some.inj zh20).symm ) (fun n => Eq.refl _)
      · have zh20 := itn zh20 zc25
        suffices e : Ev (d + 48, 1, 8, 286, 23, [.val (.ref 64), .val (.int p1), .val a_unk], [.ref 64], (126, 120, L, [Y, T, H, H2, RV, RU, ST, NS, I0, I1, I2, BO, FI, RG, GU, PU, MA, MN, MS, OT, SC], [192, 256, 384, 320, w, r5, 576, 640, 704], Lg)) o from ev_f (c := 150 < p1) _ _ 3  zc25 e (fun n => Eq.refl _)
        have zh26 := sum_r zh2 (Option.some.inj zh20).symm
        exact ev_b 2 (zj3 1 (Option.some.inj zh26) ) (fun n => Eq.refl _)
set_option maxRecDepth 1000000 in
set_option maxHeartbeats 4000000 in
theorem R_f_Y_rule_2 (d : Nat) (Y T H2 H RU RV ST NS I0 I1 I2 BO FI RG GU PU MA MN MS OT SC : Nat → Nat → Int32) (w r5 : Nat) (L : Nat) (Lg : Int64) (p1 : Int32) {r : Nat × Int32 × (Nat → Nat → Int32) × (Nat → Nat → Int32) × (Nat → Nat → Int32) × Nat × Nat × Nat} (h : f_Y_rule Y T RV 384 320 w p1 = some r) : Ev (d + 48, 1, 8, 286, 0, [.val (.ref 64), .val (.int p1), .val a_unk], [], (126, 120, L, [Y, T, H2, H, RU, RV, ST, NS, I0, I1, I2, BO, FI, RG, GU, PU, MA, MN, MS, OT, SC], [256, 192, 320, 384, w, r5, 576, 640, 704], Lg)) ((r.1, a_ov r.1 (.int r.2.1), (126, 120, L, [r.2.2.1, r.2.2.2.1, H2, H, RU, r.2.2.2.2.1, ST, NS, I0, I1, I2, BO, FI, RG, GU, PU, MA, MN, MS, OT, SC], [256, 192, r.2.2.2.2.2.1, r.2.2.2.2.2.2.1, r.2.2.2.2.2.2.2, r5, 576, 640, 704], Lg)) : AOut) := by
  suffices key : ∀ o : AOut, ((r.1, a_ov r.1 (.int r.2.1), (126, 120, L, [r.2.2.1, r.2.2.2.1, H2, H, RU, r.2.2.2.2.1, ST, NS, I0, I1, I2, BO, FI, RG, GU, PU, MA, MN, MS, OT, SC], [256, 192, r.2.2.2.2.2.1, r.2.2.2.2.2.2.1, r.2.2.2.2.2.2.2, r5, 576, 640, 704], Lg)) : AOut) = o → Ev (d + 48, 1, 8, 286, 0, [.val (.ref 64), .val (.int p1), .val a_unk], [], (126, 120, L, [Y, T, H2, H, RU, RV, ST, NS, I0, I1, I2, BO, FI, RG, GU, PU, MA, MN, MS, OT, SC], [256, 192, 320, 384, w, r5, 576, 640, 704], Lg)) o from key _ rfl
  intro o ho
  obtain ⟨zt1, zh2, h⟩ := bnd h
  have zj3 : ∀ (v1 : Int32), v1 = zt1 → Ev (d + 48, 1, 8, 286, 28, [.val (.ref 64), .val (.int p1), .val a_unk], [.int v1, .ref 64], (126, 120, L, [Y, T, H2, H, RU, RV, ST, NS, I0, I1, I2, BO, FI, RG, GU, PU, MA, MN, MS, OT, SC], [256, 192, 320, 384, w, r5, 576, 640, 704], Lg)) o := by
    intro v1 ze4
    subst ze4
    obtain ⟨⟨q2, Y_3⟩, zh5, h⟩ := bnd h
    have zh5 : f_Y_refuseUnless Y v1 = some (q2, Y_3) := zh5
    have ze6 := R_f_Y_refuseUnless_2 (d + 47) Y T H2 H RU RV ST NS I0 I1 I2 BO FI RG GU PU MA MN MS OT SC w r5 L Lg v1 zh5
    cases q2 with
    | zero =>
      have h := itp h rfl
      suffices e : Ev (d + 48, 0, 0, 286, 31, [.val (.ref 64), .val (.int p1), .val a_unk], [], (126, 120, L, [Y_3, T, H2, H, RU, RV, ST, NS, I0, I1, I2, BO, FI, RG, GU, PU, MA, MN, MS, OT, SC], [256, 192, 320, 384, w, r5, 576, 640, 704], Lg)) o from ev_call (fun v μ => (d + 48, 0, 0, 286, 31, [.val (.ref 64), .val (.int p1), .val a_unk], v.toList ++ [], μ)) 1 ze6 e (fun n => Eq.refl _)
      obtain ⟨⟨T_4, w5⟩, zh7, h⟩ := bnd h
      have zh7 : f_Tape_open T p1 = some (T_4, w5) := zh7
      have ze8 := R_f_Tape_open_0 (d + 41) Y_3 T H2 H RU RV ST NS I0 I1 I2 BO FI RG GU PU MA MN MS OT SC 256 192 320 384 w r5 576 640 704 L Lg p1 zh7
      suffices e : Ev (d + 48, 0, 0, 286, 39, [.val (.ref 64), .val (.int p1), .val a_unk], [], (126, 120, L, [Y_3, T_4, H2, H, RU, RV, ST, NS, I0, I1, I2, BO, FI, RG, GU, PU, MA, MN, MS, OT, SC], [256, 192, 320, 384, w5, r5, 576, 640, 704], Lg)) o from ev_call (fun v μ => (d + 48, 0, 0, 286, 39, [.val (.ref 64), .val (.int p1), .val a_unk], v.toList ++ [], μ)) 4 ze8 e (fun n => Eq.refl _)
      suffices e : Ev (d + 48, 0, 0, 286, 43, [.val (.ref 64), .val (.int p1), .val a_unk], [.ref 384], (126, 120, L, [Y_3, T_4, H2, H, RU, RV, ST, NS, I0, I1, I2, BO, FI, RG, GU, PU, MA, MN, MS, OT, SC], [256, 192, 320, 384, w5, r5, 576, 640, 704], Lg)) o from ev_b 2 e (fun n => Eq.refl _)
      obtain ⟨⟨T_6, RV_7, w8⟩, zh9, h⟩ := bnd h
      have zh9 : f_Rule_read T_4 RV w5 = some (T_6, RV_7, w8) := zh9
      have ze10 := R_f_Rule_read_0 (d + 0) Y_3 T_4 H2 H RU RV ST NS I0 I1 I2 BO FI RG GU PU MA MN MS OT SC 256 192 320 384 w5 r5 576 640 704 L Lg zh9
      suffices e : Ev (d + 48, 0, 0, 286, 50, [.val (.ref 64), .val (.int p1), .val a_unk], [], (126, 120, L, [Y_3, T_6, H2, H, RU, RV_7, ST, NS, I0, I1, I2, BO, FI, RG, GU, PU, MA, MN, MS, OT, SC], [256, 192, 320, 384, w8, r5, 576, 640, 704], Lg)) o from ev_call (fun v μ => (d + 48, 0, 0, 286, 50, [.val (.ref 64), .val (.int p1), .val a_unk], v.toList ++ [], μ)) 3 ze10 e (fun n => Eq.refl _)
      obtain ⟨T_9, zh11, h⟩ := bnd h
      have zh11 : f_Tape_empty T_6 = some T_9 := zh11
      have ze12 := R_f_Tape_empty_0 (d + 47) Y_3 T_6 H2 H RU RV_7 ST NS I0 I1 I2 BO FI RG GU PU MA MN MS OT SC 256 192 320 384 w8 r5 576 640 704 L Lg zh11
      suffices e : Ev (d + 48, 0, 0, 286, 57, [.val (.ref 64), .val (.int p1), .val a_unk], [], (126, 120, L, [Y_3, T_9, H2, H, RU, RV_7, ST, NS, I0, I1, I2, BO, FI, RG, GU, PU, MA, MN, MS, OT, SC], [256, 192, 320, 384, w8, r5, 576, 640, 704], Lg)) o from ev_call (fun v μ => (d + 48, 0, 0, 286, 57, [.val (.ref 64), .val (.int p1), .val a_unk], v.toList ++ [], μ)) 3 ze12 e (fun n => Eq.refl _)
      obtain ⟨x10, zh13, h⟩ := bnd h
      have zh13 : f_Tape_failed T_9 = some x10 := zh13
      have ze14 := R_f_Tape_failed_0 (d + 47) Y_3 T_9 H2 H RU RV_7 ST NS I0 I1 I2 BO FI RG GU PU MA MN MS OT SC 256 192 320 384 w8 r5 576 640 704 L Lg zh13
      suffices e : Ev (d + 48, 0, 0, 286, 64, [.val (.ref 64), .val (.int p1), .val a_unk], [.int x10], (126, 120, L, [Y_3, T_9, H2, H, RU, RV_7, ST, NS, I0, I1, I2, BO, FI, RG, GU, PU, MA, MN, MS, OT, SC], [256, 192, 320, 384, w8, r5, 576, 640, 704], Lg)) o from ev_call (fun v μ => (d + 48, 0, 0, 286, 64, [.val (.ref 64), .val (.int p1), .val a_unk], v.toList ++ [], μ)) 3 ze14 e (fun n => Eq.refl _)
      by_cases zc15 : x10 = 0
      · have h := itp h zc15
        suffices e : Ev (d + 48, 0, 0, 286, 78, [.val (.ref 64), .val (.int p1), .val a_unk], [], (126, 120, L, [Y_3, T_9, H2, H, RU, RV_7, ST, NS, I0, I1, I2, BO, FI, RG, GU, PU, MA, MN, MS, OT, SC], [256, 192, 320, 384, w8, r5, 576, 640, 704], Lg)) o from ev_t (c := x10 = 0) _ _ 1  zc15 e (fun n => Eq.refl _)
        suffices e : Ev (d + 48, 0, 0, 286, 82, [.val (.ref 64), .val (.int p1), .val a_unk], [.ref 320], (126, 120, L, [Y_3, T_9, H2, H, RU, RV_7, ST, NS, I0, I1, I2, BO, FI, RG, GU, PU, MA, MN, MS, OT, SC], [256, 192, 320, 384, w8, r5, 576, 640, 704], Lg)) o from ev_b 2 e (fun n => Eq.refl _)
        suffices e : Ev (d + 48, 0, 0, 286, 88, [.val (.ref 64), .val (.int p1), .val (.ref 320)], [.ref 384, .ref 64], (126, 120, L, [Y_3, T_9, H2, H, RU, RV_7, ST, NS, I0, I1, I2, BO, FI, RG, GU, PU, MA, MN, MS, OT, SC], [256, 192, 320, 384, w8, r5, 576, 640, 704], Lg)) o from ev_b 4 e (fun n => Eq.refl _)
        have ze16 := Option.some.inj h
        subst ze16
        exact ev_rete 6 ho (fun n => Eq.refl _)
      · have h := itn h zc15
        suffices e : Ev (d + 48, 0, 0, 286, 67, [.val (.ref 64), .val (.int p1), .val a_unk], [], (126, 120, L, [Y_3, T_9, H2, H, RU, RV_7, ST, NS, I0, I1, I2, BO, FI, RG, GU, PU, MA, MN, MS, OT, SC], [256, 192, 320, 384, w8, r5, 576, 640, 704], Lg)) o from ev_f (c := x10 = 0) _ _ 1  zc15 e (fun n => Eq.refl _)
        have ze17 := Option.some.inj h
        subst ze17
        exact ev_rete 6 ho (fun n => Eq.refl _)
    | succ q2 =>
      have h := itn h (Nat.succ_ne_zero q2)
      have ze18 := Option.some.inj h
      subst ze18
      subst ho
      exact ev_thr (fun v μ => (d + 48, 0, 0, 286, 31, [.val (.ref 64), .val (.int p1), .val a_unk], v.toList ++ [], μ)) 1 ze6 (fun n => Eq.refl _) (fun n => rfl)
  obtain ⟨zt19, zh20, zh2⟩ := bnd zh2
  have zj21 : zt19 = .inl () → Ev (d + 48, 1, 8, 286, 27, [.val (.ref 64), .val (.int p1), .val a_unk], [.ref 64], (126, 120, L, [Y, T, H2, H, RU, RV, ST, NS, I0, I1, I2, BO, FI, RG, GU, PU, MA, MN, MS, OT, SC], [256, 192, 320, 384, w, r5, 576, 640, 704], Lg)) o := by
    intro ze22
    have zh2 := sum_l zh2 ze22
    exact ev_b 1 (zj3 0 (Option.some.inj zh2) ) (fun n => Eq.refl _)
  by_cases zc23 : p1 < 0
  · have zh20 := itp zh20 zc23
    suffices e : Ev (d + 48, 1, 8, 286, 27, [.val (.ref 64), .val (.int p1), .val a_unk], [.ref 64], (126, 120, L, [Y, T, H2, H, RU, RV, ST, NS, I0, I1, I2, BO, FI, RG, GU, PU, MA, MN, MS, OT, SC], [256, 192, 320, 384, w, r5, 576, 640, 704], Lg)) o from ev_t (c := p1 < 0) _ _ 3  zc23 e (fun n => Eq.refl _)
    exact ev_b 0 (zj21  (Option.some.inj zh20).symm ) (fun n => Eq.refl _)
  · have zh20 := itn zh20 zc23
    suffices e : Ev (d + 48, 1, 8, 286, 5, [.val (.ref 64), .val (.int p1), .val a_unk], [.ref 64], (126, 120, L, [Y, T, H2, H, RU, RV, ST, NS, I0, I1, I2, BO, FI, RG, GU, PU, MA, MN, MS, OT, SC], [256, 192, 320, 384, w, r5, 576, 640, 704], Lg)) o from ev_f (c := p1 < 0) _ _ 3  zc23 e (fun n => Eq.refl _)
    by_cases zc24 : (T 0 1) < p1
    · have zh20 := itp zh20 zc24
      suffices e : Ev (d + 48, 1, 8, 286, 27, [.val (.ref 64), .val (.int p1), .val a_unk], [.ref 64], (126, 120, L, [Y, T, H2, H, RU, RV, ST, NS, I0, I1, I2, BO, FI, RG, GU, PU, MA, MN, MS, OT, SC], [256, 192, 320, 384, w, r5, 576, 640, 704], Lg)) o from ev_t (c := (T 0 1) < p1) _ _ 5  zc24 e (fun n => Eq.refl _)
      exact ev_b 0 (zj21  (Option.some.inj zh20).symm ) (fun n => Eq.refl _)
    · have zh20 := itn zh20 zc24
      suffices e : Ev (d + 48, 1, 8, 286, 16, [.val (.ref 64), .val (.int p1), .val a_unk], [.ref 64], (126, 120, L, [Y, T, H2, H, RU, RV, ST, NS, I0, I1, I2, BO, FI, RG, GU, PU, MA, MN, MS, OT, SC], [256, 192, 320, 384, w, r5, 576, 640, 704], Lg)) o from ev_f (c := (T 0 1) < p1) _ _ 5  zc24 e (fun n => Eq.refl _)
      by_cases zc25 : 150 < p1
      · have zh20 := itp zh20 zc25
        suffices e : Ev (d + 48, 1, 8, 286, 27, [.val (.ref 64), .val (.int p1), .val a_unk], [.ref 64], (126, 120, L, [Y, T, H2, H, RU, RV, ST, NS, I0, I1, I2, BO, FI, RG, GU, PU, MA, MN, MS, OT, SC], [256, 192, 320, 384, w, r5, 576, 640, 704], Lg)) o from ev_t (c := 150 < p1) _ _ 3  zc25 e (fun n => Eq.refl _)
        exact ev_b 0 (zj21  (Option.some.inj zh20).symm ) (fun n => Eq.refl _)
      · have zh20 := itn zh20 zc25
        suffices e : Ev (d + 48, 1, 8, 286, 23, [.val (.ref 64), .val (.int p1), .val a_unk], [.ref 64], (126, 120, L, [Y, T, H2, H, RU, RV, ST, NS, I0, I1, I2, BO, FI, RG, GU, PU, MA, MN, MS, OT, SC], [256, 192, 320, 384, w, r5, 576, 640, 704], Lg)) o from ev_f (c := 150 < p1) _ _ 3  zc25 e (fun n => Eq.refl _)
        have zh26 := sum_r zh2 (Option.some.inj zh20).symm
        exact ev_b 2 (zj3 1 (Option.some.inj zh26) ) (fun n => Eq.refl _)
set_option maxRecDepth 1000000 in
set_option maxHeartbeats 4000000 in
theorem R_f_Y_rule_3 (d : Nat) (Y T H2 H RV RU ST NS I0 I1 I2 BO FI RG GU PU MA MN MS OT SC : Nat → Nat → Int32) (w r5 : Nat) (L : Nat) (Lg : Int64) (p1 : Int32) {r : Nat × Int32 × (Nat → Nat → Int32) × (Nat → Nat → Int32) × (Nat → Nat → Int32) × Nat × Nat × Nat} (h : f_Y_rule Y T RV 320 384 w p1 = some r) : Ev (d + 48, 1, 8, 286, 0, [.val (.ref 64), .val (.int p1), .val a_unk], [], (126, 120, L, [Y, T, H2, H, RV, RU, ST, NS, I0, I1, I2, BO, FI, RG, GU, PU, MA, MN, MS, OT, SC], [256, 192, 384, 320, w, r5, 576, 640, 704], Lg)) ((r.1, a_ov r.1 (.int r.2.1), (126, 120, L, [r.2.2.1, r.2.2.2.1, H2, H, r.2.2.2.2.1, RU, ST, NS, I0, I1, I2, BO, FI, RG, GU, PU, MA, MN, MS, OT, SC], [256, 192, r.2.2.2.2.2.1, r.2.2.2.2.2.2.1, r.2.2.2.2.2.2.2, r5, 576, 640, 704], Lg)) : AOut) := by
  suffices key : ∀ o : AOut, ((r.1, a_ov r.1 (.int r.2.1), (126, 120, L, [r.2.2.1, r.2.2.2.1, H2, H, r.2.2.2.2.1, RU, ST, NS, I0, I1, I2, BO, FI, RG, GU, PU, MA, MN, MS, OT, SC], [256, 192, r.2.2.2.2.2.1, r.2.2.2.2.2.2.1, r.2.2.2.2.2.2.2, r5, 576, 640, 704], Lg)) : AOut) = o → Ev (d + 48, 1, 8, 286, 0, [.val (.ref 64), .val (.int p1), .val a_unk], [], (126, 120, L, [Y, T, H2, H, RV, RU, ST, NS, I0, I1, I2, BO, FI, RG, GU, PU, MA, MN, MS, OT, SC], [256, 192, 384, 320, w, r5, 576, 640, 704], Lg)) o from key _ rfl
  intro o ho
  obtain ⟨zt1, zh2, h⟩ := bnd h
  have zj3 : ∀ (v1 : Int32), v1 = zt1 → Ev (d + 48, 1, 8, 286, 28, [.val (.ref 64), .val (.int p1), .val a_unk], [.int v1, .ref 64], (126, 120, L, [Y, T, H2, H, RV, RU, ST, NS, I0, I1, I2, BO, FI, RG, GU, PU, MA, MN, MS, OT, SC], [256, 192, 384, 320, w, r5, 576, 640, 704], Lg)) o := by
    intro v1 ze4
    subst ze4
    obtain ⟨⟨q2, Y_3⟩, zh5, h⟩ := bnd h
    have zh5 : f_Y_refuseUnless Y v1 = some (q2, Y_3) := zh5
    have ze6 := R_f_Y_refuseUnless_3 (d + 47) Y T H2 H RV RU ST NS I0 I1 I2 BO FI RG GU PU MA MN MS OT SC w r5 L Lg v1 zh5
    cases q2 with
    | zero =>
      have h := itp h rfl
      suffices e : Ev (d + 48, 0, 0, 286, 31, [.val (.ref 64), .val (.int p1), .val a_unk], [], (126, 120, L, [Y_3, T, H2, H, RV, RU, ST, NS, I0, I1, I2, BO, FI, RG, GU, PU, MA, MN, MS, OT, SC], [256, 192, 384, 320, w, r5, 576, 640, 704], Lg)) o from ev_call (fun v μ => (d + 48, 0, 0, 286, 31, [.val (.ref 64), .val (.int p1), .val a_unk], v.toList ++ [], μ)) 1 ze6 e (fun n => Eq.refl _)
      obtain ⟨⟨T_4, w5⟩, zh7, h⟩ := bnd h
      have zh7 : f_Tape_open T p1 = some (T_4, w5) := zh7
      have ze8 := R_f_Tape_open_0 (d + 41) Y_3 T H2 H RV RU ST NS I0 I1 I2 BO FI RG GU PU MA MN MS OT SC 256 192 384 320 w r5 576 640 704 L Lg p1 zh7
      suffices e : Ev (d + 48, 0, 0, 286, 39, [.val (.ref 64), .val (.int p1), .val a_unk], [], (126, 120, L, [Y_3, T_4, H2, H, RV, RU, ST, NS, I0, I1, I2, BO, FI, RG, GU, PU, MA, MN, MS, OT, SC], [256, 192, 384, 320, w5, r5, 576, 640, 704], Lg)) o from ev_call (fun v μ => (d + 48, 0, 0, 286, 39, [.val (.ref 64), .val (.int p1), .val a_unk], v.toList ++ [], μ)) 4 ze8 e (fun n => Eq.refl _)
      suffices e : Ev (d + 48, 0, 0, 286, 43, [.val (.ref 64), .val (.int p1), .val a_unk], [.ref 320], (126, 120, L, [Y_3, T_4, H2, H, RV, RU, ST, NS, I0, I1, I2, BO, FI, RG, GU, PU, MA, MN, MS, OT, SC], [256, 192, 384, 320, w5, r5, 576, 640, 704], Lg)) o from ev_b 2 e (fun n => Eq.refl _)
      obtain ⟨⟨T_6, RV_7, w8⟩, zh9, h⟩ := bnd h
      have zh9 : f_Rule_read T_4 RV w5 = some (T_6, RV_7, w8) := zh9
      have ze10 := R_f_Rule_read_1 (d + 0) Y_3 T_4 H2 H RV RU ST NS I0 I1 I2 BO FI RG GU PU MA MN MS OT SC 256 192 384 320 w5 r5 576 640 704 L Lg zh9
      suffices e : Ev (d + 48, 0, 0, 286, 50, [.val (.ref 64), .val (.int p1), .val a_unk], [], (126, 120, L, [Y_3, T_6, H2, H, RV_7, RU, ST, NS, I0, I1, I2, BO, FI, RG, GU, PU, MA, MN, MS, OT, SC], [256, 192, 384, 320, w8, r5, 576, 640, 704], Lg)) o from ev_call (fun v μ => (d + 48, 0, 0, 286, 50, [.val (.ref 64), .val (.int p1), .val a_unk], v.toList ++ [], μ)) 3 ze10 e (fun n => Eq.refl _)
      obtain ⟨T_9, zh11, h⟩ := bnd h
      have zh11 : f_Tape_empty T_6 = some T_9 := zh11
      have ze12 := R_f_Tape_empty_0 (d + 47) Y_3 T_6 H2 H RV_7 RU ST NS I0 I1 I2 BO FI RG GU PU MA MN MS OT SC 256 192 384 320 w8 r5 576 640 704 L Lg zh11
      suffices e : Ev (d + 48, 0, 0, 286, 57, [.val (.ref 64), .val (.int p1), .val a_unk], [], (126, 120, L, [Y_3, T_9, H2, H, RV_7, RU, ST, NS, I0, I1, I2, BO, FI, RG, GU, PU, MA, MN, MS, OT, SC], [256, 192, 384, 320, w8, r5, 576, 640, 704], Lg)) o from ev_call (fun v μ => (d + 48, 0, 0, 286, 57, [.val (.ref 64), .val (.int p1), .val a_unk], v.toList ++ [], μ)) 3 ze12 e (fun n => Eq.refl _)
      obtain ⟨x10, zh13, h⟩ := bnd h
      have zh13 : f_Tape_failed T_9 = some x10 := zh13
      have ze14 := R_f_Tape_failed_0 (d + 47) Y_3 T_9 H2 H RV_7 RU ST NS I0 I1 I2 BO FI RG GU PU MA MN MS OT SC 256 192 384 320 w8 r5 576 640 704 L Lg zh13
      suffices e : Ev (d + 48, 0, 0, 286, 64, [.val (.ref 64), .val (.int p1), .val a_unk], [.int x10], (126, 120, L, [Y_3, T_9, H2, H, RV_7, RU, ST, NS, I0, I1, I2, BO, FI, RG, GU, PU, MA, MN, MS, OT, SC], [256, 192, 384, 320, w8, r5, 576, 640, 704], Lg)) o from ev_call (fun v μ => (d + 48, 0, 0, 286, 64, [.val (.ref 64), .val (.int p1), .val a_unk], v.toList ++ [], μ)) 3 ze14 e (fun n => Eq.refl _)
      by_cases zc15 : x10 = 0
      · have h := itp h zc15
        suffices e : Ev (d + 48, 0, 0, 286, 78, [.val (.ref 64), .val (.int p1), .val a_unk], [], (126, 120, L, [Y_3, T_9, H2, H, RV_7, RU, ST, NS, I0, I1, I2, BO, FI, RG, GU, PU, MA, MN, MS, OT, SC], [256, 192, 384, 320, w8, r5, 576, 640, 704], Lg)) o from ev_t (c := x10 = 0) _ _ 1  zc15 e (fun n => Eq.refl _)
        suffices e : Ev (d + 48, 0, 0, 286, 82, [.val (.ref 64), .val (.int p1), .val a_unk], [.ref 384], (126, 120, L, [Y_3, T_9, H2, H, RV_7, RU, ST, NS, I0, I1, I2, BO, FI, RG, GU, PU, MA, MN, MS, OT, SC], [256, 192, 384, 320, w8, r5, 576, 640, 704], Lg)) o from ev_b 2 e (fun n => Eq.refl _)
        suffices e : Ev (d + 48, 0, 0, 286, 88, [.val (.ref 64), .val (.int p1), .val (.ref 384)], [.ref 320, .ref 64], (126, 120, L, [Y_3, T_9, H2, H, RV_7, RU, ST, NS, I0, I1, I2, BO, FI, RG, GU, PU, MA, MN, MS, OT, SC], [256, 192, 384, 320, w8, r5, 576, 640, 704], Lg)) o from ev_b 4 e (fun n => Eq.refl _)
        have ze16 := Option.some.inj h
        subst ze16
        exact ev_rete 6 ho (fun n => Eq.refl _)
      · have h := itn h zc15
        suffices e : Ev (d + 48, 0, 0, 286, 67, [.val (.ref 64), .val (.int p1), .val a_unk], [], (126, 120, L, [Y_3, T_9, H2, H, RV_7, RU, ST, NS, I0, I1, I2, BO, FI, RG, GU, PU, MA, MN, MS, OT, SC], [256, 192, 384, 320, w8, r5, 576, 640, 704], Lg)) o from ev_f (c := x10 = 0) _ _ 1  zc15 e (fun n => Eq.refl _)
        have ze17 := Option.some.inj h
        subst ze17
        exact ev_rete 6 ho (fun n => Eq.refl _)
    | succ q2 =>
      have h := itn h (Nat.succ_ne_zero q2)
      have ze18 := Option.some.inj h
      subst ze18
      subst ho
      exact ev_thr (fun v μ => (d + 48, 0, 0, 286, 31, [.val (.ref 64), .val (.int p1), .val a_unk], v.toList ++ [], μ)) 1 ze6 (fun n => Eq.refl _) (fun n => rfl)
  obtain ⟨zt19, zh20, zh2⟩ := bnd zh2
  have zj21 : zt19 = .inl () → Ev (d + 48, 1, 8, 286, 27, [.val (.ref 64), .val (.int p1), .val a_unk], [.ref 64], (126, 120, L, [Y, T, H2, H, RV, RU, ST, NS, I0, I1, I2, BO, FI, RG, GU, PU, MA, MN, MS, OT, SC], [256, 192, 384, 320, w, r5, 576, 640, 704], Lg)) o := by
    intro ze22
    have zh2 := sum_l zh2 ze22
    exact ev_b 1 (zj3 0 (Option.some.inj zh2) ) (fun n => Eq.refl _)
  by_cases zc23 : p1 < 0
  · have zh20 := itp zh20 zc23
    suffices e : Ev (d + 48, 1, 8, 286, 27, [.val (.ref 64), .val (.int p1), .val a_unk], [.ref 64], (126, 120, L, [Y, T, H2, H, RV, RU, ST, NS, I0, I1, I2, BO, FI, RG, GU, PU, MA, MN, MS, OT, SC], [256, 192, 384, 320, w, r5, 576, 640, 704], Lg)) o from ev_t (c := p1 < 0) _ _ 3  zc23 e (fun n => Eq.refl _)
    exact ev_b 0 (zj21  (Option.some.inj zh20).symm ) (fun n => Eq.refl _)
  · have zh20 := itn zh20 zc23
    suffices e : Ev (d + 48, 1, 8, 286, 5, [.val (.ref 64), .val (.int p1), .val a_unk], [.ref 64], (126, 120, L, [Y, T, H2, H, RV, RU, ST, NS, I0, I1, I2, BO, FI, RG, GU, PU, MA, MN, MS, OT, SC], [256, 192, 384, 320, w, r5, 576, 640, 704], Lg)) o from ev_f (c := p1 < 0) _ _ 3  zc23 e (fun n => Eq.refl _)
    by_cases zc24 : (T 0 1) < p1
    · have zh20 := itp zh20 zc24
      suffices e : Ev (d + 48, 1, 8, 286, 27, [.val (.ref 64), .val (.int p1), .val a_unk], [.ref 64], (126, 120, L, [Y, T, H2, H, RV, RU, ST, NS, I0, I1, I2, BO, FI, RG, GU, PU, MA, MN, MS, OT, SC], [256, 192, 384, 320, w, r5, 576, 640, 704], Lg)) o from ev_t (c := (T 0 1) < p1) _ _ 5  zc24 e (fun n => Eq.refl _)
      exact ev_b 0 (zj21  (Option.some.inj zh20).symm ) (fun n => Eq.refl _)
    · have zh20 := itn zh20 zc24
      suffices e : Ev (d + 48, 1, 8, 286, 16, [.val (.ref 64), .val (.int p1), .val a_unk], [.ref 64], (126, 120, L, [Y, T, H2, H, RV, RU, ST, NS, I0, I1, I2, BO, FI, RG, GU, PU, MA, MN, MS, OT, SC], [256, 192, 384, 320, w, r5, 576, 640, 704], Lg)) o from ev_f (c := (T 0 1) < p1) _ _ 5  zc24 e (fun n => Eq.refl _)
      by_cases zc25 : 150 < p1
      · have zh20 := itp zh20 zc25
        suffices e : Ev (d + 48, 1, 8, 286, 27, [.val (.ref 64), .val (.int p1), .val a_unk], [.ref 64], (126, 120, L, [Y, T, H2, H, RV, RU, ST, NS, I0, I1, I2, BO, FI, RG, GU, PU, MA, MN, MS, OT, SC], [256, 192, 384, 320, w, r5, 576, 640, 704], Lg)) o from ev_t (c := 150 < p1) _ _ 3  zc25 e (fun n => Eq.refl _)
        exact ev_b 0 (zj21  (Option.some.inj zh20).symm ) (fun n => Eq.refl _)
      · have zh20 := itn zh20 zc25
        suffices e : Ev (d + 48, 1, 8, 286, 23, [.val (.ref 64), .val (.int p1), .val a_unk], [.ref 64], (126, 120, L, [Y, T, H2, H, RV, RU, ST, NS, I0, I1, I2, BO, FI, RG, GU, PU, MA, MN, MS, OT, SC], [256, 192, 384, 320, w, r5, 576, 640, 704], Lg)) o from ev_f (c := 150 < p1) _ _ 3  zc25 e (fun n => Eq.refl _)
        have zh26 := sum_r zh2 (Option.some.inj zh20).symm
        exact ev_b 2 (zj3 1 (Option.some.inj zh26) ) (fun n => Eq.refl _)
set_option maxRecDepth 1000000 in
set_option maxHeartbeats 4000000 in
theorem R_f_Y_fault_0 (d : Nat) (Y T H H2 RU RV ST NS I0 I1 I2 BO FI RG GU PU MA MN MS OT SC : Nat → Nat → Int32) (w r5 : Nat) (L : Nat) (Lg : Int64) {r : Int32} (h : f_Y_fault T = some r) : Ev (d + 0, 0, 0, 287, 0, [.val (.ref 64)], [], (126, 120, L, [Y, T, H, H2, RU, RV, ST, NS, I0, I1, I2, BO, FI, RG, GU, PU, MA, MN, MS, OT, SC], [192, 256, 320, 384, w, r5, 576, 640, 704], Lg)) ((0, some (.int r), (126, 120, L, [Y, T, H, H2, RU, RV, ST, NS, I0, I1, I2, BO, FI, RG, GU, PU, MA, MN, MS, OT, SC], [192, 256, 320, 384, w, r5, 576, 640, 704], Lg)) : AOut) := by
  suffices key : ∀ o : AOut, ((0, some (.int r), (126, 120, L, [Y, T, H, H2, RU, RV, ST, NS, I0, I1, I2, BO, FI, RG, GU, PU, MA, MN, MS, OT, SC], [192, 256, 320, 384, w, r5, 576, 640, 704], Lg)) : AOut) = o → Ev (d + 0, 0, 0, 287, 0, [.val (.ref 64)], [], (126, 120, L, [Y, T, H, H2, RU, RV, ST, NS, I0, I1, I2, BO, FI, RG, GU, PU, MA, MN, MS, OT, SC], [192, 256, 320, 384, w, r5, 576, 640, 704], Lg)) o from key _ rfl
  intro o ho
  have ze1 := Option.some.inj h
  subst ze1
  exact ev_rete 4 ho (fun n => Eq.refl _)
set_option maxRecDepth 1000000 in
set_option maxHeartbeats 4000000 in
theorem R_f_Y_fault_1 (d : Nat) (Y T H H2 RV RU ST NS I0 I1 I2 BO FI RG GU PU MA MN MS OT SC : Nat → Nat → Int32) (w r5 : Nat) (L : Nat) (Lg : Int64) {r : Int32} (h : f_Y_fault T = some r) : Ev (d + 0, 0, 0, 287, 0, [.val (.ref 64)], [], (126, 120, L, [Y, T, H, H2, RV, RU, ST, NS, I0, I1, I2, BO, FI, RG, GU, PU, MA, MN, MS, OT, SC], [192, 256, 384, 320, w, r5, 576, 640, 704], Lg)) ((0, some (.int r), (126, 120, L, [Y, T, H, H2, RV, RU, ST, NS, I0, I1, I2, BO, FI, RG, GU, PU, MA, MN, MS, OT, SC], [192, 256, 384, 320, w, r5, 576, 640, 704], Lg)) : AOut) := by
  suffices key : ∀ o : AOut, ((0, some (.int r), (126, 120, L, [Y, T, H, H2, RV, RU, ST, NS, I0, I1, I2, BO, FI, RG, GU, PU, MA, MN, MS, OT, SC], [192, 256, 384, 320, w, r5, 576, 640, 704], Lg)) : AOut) = o → Ev (d + 0, 0, 0, 287, 0, [.val (.ref 64)], [], (126, 120, L, [Y, T, H, H2, RV, RU, ST, NS, I0, I1, I2, BO, FI, RG, GU, PU, MA, MN, MS, OT, SC], [192, 256, 384, 320, w, r5, 576, 640, 704], Lg)) o from key _ rfl
  intro o ho
  have ze1 := Option.some.inj h
  subst ze1
  exact ev_rete 4 ho (fun n => Eq.refl _)
set_option maxRecDepth 1000000 in
set_option maxHeartbeats 4000000 in
theorem R_f_Y_fault_2 (d : Nat) (Y T H2 H RU RV ST NS I0 I1 I2 BO FI RG GU PU MA MN MS OT SC : Nat → Nat → Int32) (w r5 : Nat) (L : Nat) (Lg : Int64) {r : Int32} (h : f_Y_fault T = some r) : Ev (d + 0, 0, 0, 287, 0, [.val (.ref 64)], [], (126, 120, L, [Y, T, H2, H, RU, RV, ST, NS, I0, I1, I2, BO, FI, RG, GU, PU, MA, MN, MS, OT, SC], [256, 192, 320, 384, w, r5, 576, 640, 704], Lg)) ((0, some (.int r), (126, 120, L, [Y, T, H2, H, RU, RV, ST, NS, I0, I1, I2, BO, FI, RG, GU, PU, MA, MN, MS, OT, SC], [256, 192, 320, 384, w, r5, 576, 640, 704], Lg)) : AOut) := by
  suffices key : ∀ o : AOut, ((0, some (.int r), (126, 120, L, [Y, T, H2, H, RU, RV, ST, NS, I0, I1, I2, BO, FI, RG, GU, PU, MA, MN, MS, OT, SC], [256, 192, 320, 384, w, r5, 576, 640, 704], Lg)) : AOut) = o → Ev (d + 0, 0, 0, 287, 0, [.val (.ref 64)], [], (126, 120, L, [Y, T, H2, H, RU, RV, ST, NS, I0, I1, I2, BO, FI, RG, GU, PU, MA, MN, MS, OT, SC], [256, 192, 320, 384, w, r5, 576, 640, 704], Lg)) o from key _ rfl
  intro o ho
  have ze1 := Option.some.inj h
  subst ze1
  exact ev_rete 4 ho (fun n => Eq.refl _)
