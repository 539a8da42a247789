/-! printed by program (gen/emitm.py): the reference's methods run as their functions say -/
set_option maxRecDepth 1000000 in
set_option maxHeartbeats 4000000 in
theorem R_f_Rule_readSum_B_0 (d : Nat) (rc : (Nat → (Nat → Nat → Int32) → (Nat → Nat → Int32) → Nat → Int32 → Option ((Nat → Nat → Int32) × (Nat → Nat → Int32) × Nat)))
    (zrc0 : ∀ (Y T HA HB RV RU ST NS I0 I1 I2 BO FI RG GU PU MA MN MS OT SC : Nat → Nat → Int32) (r0 r1 r2 r3 w r5 r6 r7 r8 : Nat) (L : Nat) (Lg : Int64) (p2 : Int32) (r : (Nat → Nat → Int32) × (Nat → Nat → Int32) × Nat), rc 0 T RU w p2 = some r → Ev (d + 6, 0, 0, 243, 0, [.val (.ref 384), .val (.ref 128), .val (.int p2), .val a_unk], [], (126, 120, L, [Y, T, HA, HB, RV, RU, ST, NS, I0, I1, I2, BO, FI, RG, GU, PU, MA, MN, MS, OT, SC], [r0, r1, r2, r3, w, r5, r6, r7, r8], Lg)) ((0, none, (126, 120, L, [Y, r.1, HA, HB, RV, r.2.1, ST, NS, I0, I1, I2, BO, FI, RG, GU, PU, MA, MN, MS, OT, SC], [r0, r1, r2, r3, r.2.2, r5, r6, r7, r8], Lg)) : AOut))
    (zrc1 : ∀ (Y T HA HB RV RU ST NS I0 I1 I2 BO FI RG GU PU MA MN MS OT SC : Nat → Nat → Int32) (r0 r1 r2 r3 w r5 r6 r7 r8 : Nat) (L : Nat) (Lg : Int64) (p2 : Int32) (r : (Nat → Nat → Int32) × (Nat → Nat → Int32) × Nat), rc 1 T RU w p2 = some r → Ev (d + 6, 0, 0, 244, 0, [.val (.ref 384), .val (.ref 128), .val (.int p2), .val a_unk], [], (126, 120, L, [Y, T, HA, HB, RV, RU, ST, NS, I0, I1, I2, BO, FI, RG, GU, PU, MA, MN, MS, OT, SC], [r0, r1, r2, r3, w, r5, r6, r7, r8], Lg)) ((0, none, (126, 120, L, [Y, r.1, HA, HB, RV, r.2.1, ST, NS, I0, I1, I2, BO, FI, RG, GU, PU, MA, MN, MS, OT, SC], [r0, r1, r2, r3, r.2.2, r5, r6, r7, r8], Lg)) : AOut))
    (zrc2 : ∀ (Y T HA HB RV RU ST NS I0 I1 I2 BO FI RG GU PU MA MN MS OT SC : Nat → Nat → Int32) (r0 r1 r2 r3 w r5 r6 r7 r8 : Nat) (L : Nat) (Lg : Int64) (p2 : Int32) (r : (Nat → Nat → Int32) × (Nat → Nat → Int32) × Nat), rc 2 T RU w p2 = some r → Ev (d + 6, 0, 0, 245, 0, [.val (.ref 384), .val (.ref 128), .val (.int p2)], [], (126, 120, L, [Y, T, HA, HB, RV, RU, ST, NS, I0, I1, I2, BO, FI, RG, GU, PU, MA, MN, MS, OT, SC], [r0, r1, r2, r3, w, r5, r6, r7, r8], Lg)) ((0, none, (126, 120, L, [Y, r.1, HA, HB, RV, r.2.1, ST, NS, I0, I1, I2, BO, FI, RG, GU, PU, MA, MN, MS, OT, SC], [r0, r1, r2, r3, r.2.2, r5, r6, r7, r8], Lg)) : AOut))
    (zrc3 : ∀ (Y T HA HB RV RU ST NS I0 I1 I2 BO FI RG GU PU MA MN MS OT SC : Nat → Nat → Int32) (r0 r1 r2 r3 w r5 r6 r7 r8 : Nat) (L : Nat) (Lg : Int64) (p2 : Int32) (r : (Nat → Nat → Int32) × (Nat → Nat → Int32) × Nat), rc 3 T RU w p2 = some r → Ev (d + 6, 0, 0, 248, 0, [.val (.ref 384), .val (.ref 128), .val (.int p2), .val a_unk, .val a_unk], [], (126, 120, L, [Y, T, HA, HB, RV, RU, ST, NS, I0, I1, I2, BO, FI, RG, GU, PU, MA, MN, MS, OT, SC], [r0, r1, r2, r3, w, r5, r6, r7, r8], Lg)) ((0, none, (126, 120, L, [Y, r.1, HA, HB, RV, r.2.1, ST, NS, I0, I1, I2, BO, FI, RG, GU, PU, MA, MN, MS, OT, SC], [r0, r1, r2, r3, r.2.2, r5, r6, r7, r8], Lg)) : AOut))
    (zrc4 : ∀ (Y T HA HB RV RU ST NS I0 I1 I2 BO FI RG GU PU MA MN MS OT SC : Nat → Nat → Int32) (r0 r1 r2 r3 w r5 r6 r7 r8 : Nat) (L : Nat) (Lg : Int64) (p2 : Int32) (r : (Nat → Nat → Int32) × (Nat → Nat → Int32) × Nat), rc 4 T RU w p2 = some r → Ev (d + 6, 0, 0, 249, 0, [.val (.ref 384), .val (.ref 128), .val (.int p2), .val a_unk], [], (126, 120, L, [Y, T, HA, HB, RV, RU, ST, NS, I0, I1, I2, BO, FI, RG, GU, PU, MA, MN, MS, OT, SC], [r0, r1, r2, r3, w, r5, r6, r7, r8], Lg)) ((0, none, (126, 120, L, [Y, r.1, HA, HB, RV, r.2.1, ST, NS, I0, I1, I2, BO, FI, RG, GU, PU, MA, MN, MS, OT, SC], [r0, r1, r2, r3, r.2.2, r5, r6, r7, r8], Lg)) : AOut))
    (zrc5 : ∀ (Y T HA HB RV RU ST NS I0 I1 I2 BO FI RG GU PU MA MN MS OT SC : Nat → Nat → Int32) (r0 r1 r2 r3 w r5 r6 r7 r8 : Nat) (L : Nat) (Lg : Int64) (p2 : Int32) (r : (Nat → Nat → Int32) × (Nat → Nat → Int32) × Nat), rc 5 T RU w p2 = some r → Ev (d + 6, 0, 0, 250, 0, [.val (.ref 384), .val (.ref 128), .val (.int p2), .val a_unk], [], (126, 120, L, [Y, T, HA, HB, RV, RU, ST, NS, I0, I1, I2, BO, FI, RG, GU, PU, MA, MN, MS, OT, SC], [r0, r1, r2, r3, w, r5, r6, r7, r8], Lg)) ((0, none, (126, 120, L, [Y, r.1, HA, HB, RV, r.2.1, ST, NS, I0, I1, I2, BO, FI, RG, GU, PU, MA, MN, MS, OT, SC], [r0, r1, r2, r3, r.2.2, r5, r6, r7, r8], Lg)) : AOut))
    (zrc6 : ∀ (Y T HA HB RV RU ST NS I0 I1 I2 BO FI RG GU PU MA MN MS OT SC : Nat → Nat → Int32) (r0 r1 r2 r3 w r5 r6 r7 r8 : Nat) (L : Nat) (Lg : Int64) (p2 : Int32) (r : (Nat → Nat → Int32) × (Nat → Nat → Int32) × Nat), rc 6 T RU w p2 = some r → Ev (d + 6, 0, 0, 247, 0, [.val (.ref 384), .val (.ref 128), .val (.int p2), .val a_unk], [], (126, 120, L, [Y, T, HA, HB, RV, RU, ST, NS, I0, I1, I2, BO, FI, RG, GU, PU, MA, MN, MS, OT, SC], [r0, r1, r2, r3, w, r5, r6, r7, r8], Lg)) ((0, none, (126, 120, L, [Y, r.1, HA, HB, RV, r.2.1, ST, NS, I0, I1, I2, BO, FI, RG, GU, PU, MA, MN, MS, OT, SC], [r0, r1, r2, r3, r.2.2, r5, r6, r7, r8], Lg)) : AOut))
    (Y T HA HB RV RU ST NS I0 I1 I2 BO FI RG GU PU MA MN MS OT SC : Nat → Nat → Int32) (r0 r1 r2 r3 w r5 r6 r7 r8 : Nat) (L : Nat) (Lg : Int64) (p2 : Int32) {r : (Nat → Nat → Int32) × (Nat → Nat → Int32) × Nat} (h : f_Rule_readSum_B rc T RU w p2 = some r) : Ev (d + 7, 0, 0, 248, 0, [.val (.ref 384), .val (.ref 128), .val (.int p2), .val a_unk, .val a_unk], [], (126, 120, L, [Y, T, HA, HB, RV, RU, ST, NS, I0, I1, I2, BO, FI, RG, GU, PU, MA, MN, MS, OT, SC], [r0, r1, r2, r3, w, r5, r6, r7, r8], Lg)) ((0, none, (126, 120, L, [Y, r.1, HA, HB, RV, r.2.1, ST, NS, I0, I1, I2, BO, FI, RG, GU, PU, MA, MN, MS, OT, SC], [r0, r1, r2, r3, r.2.2, r5, r6, r7, r8], Lg)) : AOut) := by
  suffices key : ∀ o : AOut, ((0, none, (126, 120, L, [Y, r.1, HA, HB, RV, r.2.1, ST, NS, I0, I1, I2, BO, FI, RG, GU, PU, MA, MN, MS, OT, SC], [r0, r1, r2, r3, r.2.2, r5, r6, r7, r8], Lg)) : AOut) = o → Ev (d + 7, 0, 0, 248, 0, [.val (.ref 384), .val (.ref 128), .val (.int p2), .val a_unk, .val a_unk], [], (126, 120, L, [Y, T, HA, HB, RV, RU, ST, NS, I0, I1, I2, BO, FI, RG, GU, PU, MA, MN, MS, OT, SC], [r0, r1, r2, r3, w, r5, r6, r7, r8], Lg)) o from key _ rfl
  intro o ho
  obtain ⟨⟨T_1, RU_2, w3⟩, zh1, h⟩ := bnd h
  have zh1 : rc 4 T RU w p2 = some (T_1, RU_2, w3) := zh1
  have ze2 := zrc4 Y T HA HB RV RU ST NS I0 I1 I2 BO FI RG GU PU MA MN MS OT SC r0 r1 r2 r3 w r5 r6 r7 r8 L Lg p2 _ zh1
  suffices e : Ev (d + 7, 0, 0, 248, 6, [.val (.ref 384), .val (.ref 128), .val (.int p2), .val a_unk, .val a_unk], [], (126, 120, L, [Y, T_1, HA, HB, RV, RU_2, ST, NS, I0, I1, I2, BO, FI, RG, GU, PU, MA, MN, MS, OT, SC], [r0, r1, r2, r3, w3, r5, r6, r7, r8], Lg)) o from ev_call (fun v μ => (d + 7, 0, 0, 248, 6, [.val (.ref 384), .val (.ref 128), .val (.int p2), .val a_unk, .val a_unk], v.toList ++ [], μ)) 4 ze2 e (fun n => Eq.refl _)
  obtain ⟨zb3, zh4, h⟩ := bnd h
  suffices e : Ev (d + 7, 0, 0, 248, 8, [.val (.ref 384), .val (.ref 128), .val (.int p2), .val (.int 0), .val a_unk], [], (126, 120, L, [Y, T_1, HA, HB, RV, RU_2, ST, NS, I0, I1, I2, BO, FI, RG, GU, PU, MA, MN, MS, OT, SC], [r0, r1, r2, r3, w3, r5, r6, r7, r8], Lg)) o from ev_b 2 e (fun n => Eq.refl _)
  refine ev_loop (δ := Value) (fun a j => (d + 7, 0, 0, 248, 8, [.val (.ref 384), .val (.ref 128), .val (.int p2), .val (.int a.1), .val j], [], (126, 120, L, [Y, a.2.1, HA, HB, RV, a.2.2.1, ST, NS, I0, I1, I2, BO, FI, RG, GU, PU, MA, MN, MS, OT, SC], [r0, r1, r2, r3, a.2.2.2, r5, r6, r7, r8], Lg))) (fun b => ∀ s20 : Value, ∀ s21 : Value, Ev (d + 7, 0, 0, 248, 82, [.val (.ref 384), .val (.ref 128), .val (.int p2), .val s20, .val s21], [], (126, 120, L, [Y, b.1, HA, HB, RV, b.2.1, ST, NS, I0, I1, I2, BO, FI, RG, GU, PU, MA, MN, MS, OT, SC], [r0, r1, r2, r3, b.2.2, r5, r6, r7, r8], Lg)) o) ?_ a_F (0, T_1, RU_2, w3) zb3 zh4 ?_ a_unk
  · rintro ⟨v4, T_6, RU_7, w8⟩ zr8 zh7 zi5 zx6 s5
    have zh7 : f_Rule_readSum_B_l8 rc p2 v4 T_6 RU_7 w8 = some zr8 := zh7
    by_cases zc9 : 150 ≤ v4
    · have zh7 := itp zh7 zc9
      suffices e : Ev (d + 7, 0, 0, 248, 82, [.val (.ref 384), .val (.ref 128), .val (.int p2), .val (.int v4), .val s5], [], (126, 120, L, [Y, T_6, HA, HB, RV, RU_7, ST, NS, I0, I1, I2, BO, FI, RG, GU, PU, MA, MN, MS, OT, SC], [r0, r1, r2, r3, w8, r5, r6, r7, r8], Lg)) o from ev_t (c := 150 ≤ v4) _ _ 3  zc9 e (fun n => Eq.refl _)
      exact ev_b 0 (zx6 _ (Option.some.inj zh7).symm (.int v4) s5) (fun n => Eq.refl _)
    · have zh7 := itn zh7 zc9
      suffices e : Ev (d + 7, 0, 0, 248, 15, [.val (.ref 384), .val (.ref 128), .val (.int p2), .val (.int v4), .val s5], [], (126, 120, L, [Y, T_6, HA, HB, RV, RU_7, ST, NS, I0, I1, I2, BO, FI, RG, GU, PU, MA, MN, MS, OT, SC], [r0, r1, r2, r3, w8, r5, r6, r7, r8], Lg)) o from ev_f (c := 150 ≤ v4) _ _ 3  zc9 e (fun n => Eq.refl _)
      obtain ⟨x9, zh10, zh7⟩ := bnd zh7
      have zh10 : f_Tape_failed T_6 = some x9 := zh10
      have ze11 := R_f_Tape_failed_0 (d + 6) Y T_6 HA HB RV RU_7 ST NS I0 I1 I2 BO FI RG GU PU MA MN MS OT SC r0 r1 r2 r3 w8 r5 r6 r7 r8 L Lg zh10
      suffices e : Ev (d + 7, 0, 0, 248, 19, [.val (.ref 384), .val (.ref 128), .val (.int p2), .val (.int v4), .val s5], [.int x9], (126, 120, L, [Y, T_6, HA, HB, RV, RU_7, ST, NS, I0, I1, I2, BO, FI, RG, GU, PU, MA, MN, MS, OT, SC], [r0, r1, r2, r3, w8, r5, r6, r7, r8], Lg)) o from ev_call (fun v μ => (d + 7, 0, 0, 248, 19, [.val (.ref 384), .val (.ref 128), .val (.int p2), .val (.int v4), .val s5], v.toList ++ [], μ)) 2 ze11 e (fun n => Eq.refl _)
      by_cases zc12 : x9 ≠ 0
      · have zh7 := itp zh7 zc12
        suffices e : Ev (d + 7, 0, 0, 248, 82, [.val (.ref 384), .val (.ref 128), .val (.int p2), .val (.int v4), .val s5], [], (126, 120, L, [Y, T_6, HA, HB, RV, RU_7, ST, NS, I0, I1, I2, BO, FI, RG, GU, PU, MA, MN, MS, OT, SC], [r0, r1, r2, r3, w8, r5, r6, r7, r8], Lg)) o from ev_t (c := x9 ≠ 0) _ _ 1  zc12 e (fun n => Eq.refl _)
        exact ev_b 0 (zx6 _ (Option.some.inj zh7).symm (.int v4) s5) (fun n => Eq.refl _)
      · have zh7 := itn zh7 zc12
        suffices e : Ev (d + 7, 0, 0, 248, 22, [.val (.ref 384), .val (.ref 128), .val (.int p2), .val (.int v4), .val s5], [], (126, 120, L, [Y, T_6, HA, HB, RV, RU_7, ST, NS, I0, I1, I2, BO, FI, RG, GU, PU, MA, MN, MS, OT, SC], [r0, r1, r2, r3, w8, r5, r6, r7, r8], Lg)) o from ev_f (c := x9 ≠ 0) _ _ 1  zc12 e (fun n => Eq.refl _)
        obtain ⟨x10, zh13, zh7⟩ := bnd zh7
        have zh13 : f_Tape_atSign T_6 43 = some x10 := zh13
        have ze14 := R_f_Tape_atSign_0 (d + 6) Y T_6 HA HB RV RU_7 ST NS I0 I1 I2 BO FI RG GU PU MA MN MS OT SC r0 r1 r2 r3 w8 r5 r6 r7 r8 L Lg 43 zh13
        suffices e : Ev (d + 7, 0, 0, 248, 28, [.val (.ref 384), .val (.ref 128), .val (.int p2), .val (.int v4), .val s5], [.int x10], (126, 120, L, [Y, T_6, HA, HB, RV, RU_7, ST, NS, I0, I1, I2, BO, FI, RG, GU, PU, MA, MN, MS, OT, SC], [r0, r1, r2, r3, w8, r5, r6, r7, r8], Lg)) o from ev_call (fun v μ => (d + 7, 0, 0, 248, 28, [.val (.ref 384), .val (.ref 128), .val (.int p2), .val (.int v4), .val s5], v.toList ++ [], μ)) 3 ze14 e (fun n => Eq.refl _)
        obtain ⟨zt15, zh16, zh7⟩ := bnd zh7
        have zj17 : zt15 = .inl () → Ev (d + 7, 0, 0, 248, 40, [.val (.ref 384), .val (.ref 128), .val (.int p2), .val (.int v4), .val s5], [], (126, 120, L, [Y, T_6, HA, HB, RV, RU_7, ST, NS, I0, I1, I2, BO, FI, RG, GU, PU, MA, MN, MS, OT, SC], [r0, r1, r2, r3, w8, r5, r6, r7, r8], Lg)) o := by
          intro ze18
          have zh7 := sum_l zh7 ze18
          obtain ⟨x12, zh19, zh7⟩ := bnd zh7
          have zh19 : f_Tape_atSign T_6 43 = some x12 := zh19
          have ze20 := R_f_Tape_atSign_0 (d + 6) Y T_6 HA HB RV RU_7 ST NS I0 I1 I2 BO FI RG GU PU MA MN MS OT SC r0 r1 r2 r3 w8 r5 r6 r7 r8 L Lg 43 zh19
          suffices e : Ev (d + 7, 0, 0, 248, 46, [.val (.ref 384), .val (.ref 128), .val (.int p2), .val (.int v4), .val s5], [.int x12], (126, 120, L, [Y, T_6, HA, HB, RV, RU_7, ST, NS, I0, I1, I2, BO, FI, RG, GU, PU, MA, MN, MS, OT, SC], [r0, r1, r2, r3, w8, r5, r6, r7, r8], Lg)) o from ev_call (fun v μ => (d + 7, 0, 0, 248, 46, [.val (.ref 384), .val (.ref 128), .val (.int p2), .val (.int v4), .val s5], v.toList ++ [], μ)) 3 ze20 e (fun n => Eq.refl _)
          obtain ⟨zt21, zh22, zh7⟩ := bnd zh7
          have zj23 : ∀ (v13 : Int32), v13 = zt21 → Ev (d + 7, 0, 0, 248, 58, [.val (.ref 384), .val (.ref 128), .val (.int p2), .val (.int v4), .val s5], [.int v13], (126, 120, L, [Y, T_6, HA, HB, RV, RU_7, ST, NS, I0, I1, I2, BO, FI, RG, GU, PU, MA, MN, MS, OT, SC], [r0, r1, r2, r3, w8, r5, r6, r7, r8], Lg)) o := by
            intro v13 ze24
            subst ze24
            obtain ⟨⟨T_14, w15⟩, zh25, zh7⟩ := bnd zh7
            have zh25 : f_Tape_advance T_6 = some (T_14, w15) := zh25
            have ze26 := R_f_Tape_advance_0 (d + 1) Y T_6 HA HB RV RU_7 ST NS I0 I1 I2 BO FI RG GU PU MA MN MS OT SC r0 r1 r2 r3 w8 r5 r6 r7 r8 L Lg zh25
            suffices e : Ev (d + 7, 0, 0, 248, 64, [.val (.ref 384), .val (.ref 128), .val (.int p2), .val (.int v4), .val (.int v13)], [], (126, 120, L, [Y, T_14, HA, HB, RV, RU_7, ST, NS, I0, I1, I2, BO, FI, RG, GU, PU, MA, MN, MS, OT, SC], [r0, r1, r2, r3, w15, r5, r6, r7, r8], Lg)) o from ev_call (fun v μ => (d + 7, 0, 0, 248, 64, [.val (.ref 384), .val (.ref 128), .val (.int p2), .val (.int v4), .val (.int v13)], v.toList ++ [], μ)) 3 ze26 e (fun n => Eq.refl _)
            obtain ⟨⟨T_16, RU_17, w18⟩, zh27, zh7⟩ := bnd zh7
            have zh27 : rc 4 T_14 RU_7 w15 p2 = some (T_16, RU_17, w18) := zh27
            have ze28 := zrc4 Y T_14 HA HB RV RU_7 ST NS I0 I1 I2 BO FI RG GU PU MA MN MS OT SC r0 r1 r2 r3 w15 r5 r6 r7 r8 L Lg p2 _ zh27
            suffices e : Ev (d + 7, 0, 0, 248, 70, [.val (.ref 384), .val (.ref 128), .val (.int p2), .val (.int v4), .val (.int v13)], [], (126, 120, L, [Y, T_16, HA, HB, RV, RU_17, ST, NS, I0, I1, I2, BO, FI, RG, GU, PU, MA, MN, MS, OT, SC], [r0, r1, r2, r3, w18, r5, r6, r7, r8], Lg)) o from ev_call (fun v μ => (d + 7, 0, 0, 248, 70, [.val (.ref 384), .val (.ref 128), .val (.int p2), .val (.int v4), .val (.int v13)], v.toList ++ [], μ)) 4 ze28 e (fun n => Eq.refl _)
            obtain ⟨RU_19, zh29, zh7⟩ := bnd zh7
            have zh29 : f_Rule_emit RU_17 v13 = some RU_19 := zh29
            have ze30 := R_f_Rule_emit_0 (d + 6) Y T_16 HA HB RV RU_17 ST NS I0 I1 I2 BO FI RG GU PU MA MN MS OT SC r0 r1 r2 r3 w18 r5 r6 r7 r8 L Lg v13 zh29
            suffices e : Ev (d + 7, 0, 0, 248, 76, [.val (.ref 384), .val (.ref 128), .val (.int p2), .val (.int v4), .val (.int v13)], [], (126, 120, L, [Y, T_16, HA, HB, RV, RU_19, ST, NS, I0, I1, I2, BO, FI, RG, GU, PU, MA, MN, MS, OT, SC], [r0, r1, r2, r3, w18, r5, r6, r7, r8], Lg)) o from ev_call (fun v μ => (d + 7, 0, 0, 248, 76, [.val (.ref 384), .val (.ref 128), .val (.int p2), .val (.int v4), .val (.int v13)], v.toList ++ [], μ)) 3 ze30 e (fun n => Eq.refl _)
            exact ev_b 2 (zi5 _ (Option.some.inj zh7).symm (.int v13)) (fun n => Eq.refl _)
          by_cases zc31 : x12 = 0
          · have zh22 := itp zh22 zc31
            suffices e : Ev (d + 7, 0, 0, 248, 55, [.val (.ref 384), .val (.ref 128), .val (.int p2), .val (.int v4), .val s5], [], (126, 120, L, [Y, T_6, HA, HB, RV, RU_7, ST, NS, I0, I1, I2, BO, FI, RG, GU, PU, MA, MN, MS, OT, SC], [r0, r1, r2, r3, w8, r5, r6, r7, r8], Lg)) o from ev_t (c := x12 = 0) _ _ 1  zc31 e (fun n => Eq.refl _)
            exact ev_b 1 (zj23 207 (Option.some.inj zh22) ) (fun n => Eq.refl _)
          · have zh22 := itn zh22 zc31
            suffices e : Ev (d + 7, 0, 0, 248, 49, [.val (.ref 384), .val (.ref 128), .val (.int p2), .val (.int v4), .val s5], [], (126, 120, L, [Y, T_6, HA, HB, RV, RU_7, ST, NS, I0, I1, I2, BO, FI, RG, GU, PU, MA, MN, MS, OT, SC], [r0, r1, r2, r3, w8, r5, r6, r7, r8], Lg)) o from ev_f (c := x12 = 0) _ _ 1  zc31 e (fun n => Eq.refl _)
            exact ev_b 2 (zj23 206 (Option.some.inj zh22) ) (fun n => Eq.refl _)
        by_cases zc32 : x10 ≠ 0
        · have zh16 := itp zh16 zc32
          suffices e : Ev (d + 7, 0, 0, 248, 40, [.val (.ref 384), .val (.ref 128), .val (.int p2), .val (.int v4), .val s5], [], (126, 120, L, [Y, T_6, HA, HB, RV, RU_7, ST, NS, I0, I1, I2, BO, FI, RG, GU, PU, MA, MN, MS, OT, SC], [r0, r1, r2, r3, w8, r5, r6, r7, r8], Lg)) o from ev_t (c := x10 ≠ 0) _ _ 1  zc32 e (fun n => Eq.refl _)
          exact ev_b 0 (zj17  (Option.some.inj zh16).symm ) (fun n => Eq.refl _)
        · have zh16 := itn zh16 zc32
          suffices e : Ev (d + 7, 0, 0, 248, 31, [.val (.ref 384), .val (.ref 128), .val (.int p2), .val (.int v4), .val s5], [], (126, 120, L, [Y, T_6, HA, HB, RV, RU_7, ST, NS, I0, I1, I2, BO, FI, RG, GU, PU, MA, MN, MS, OT, SC], [r0, r1, r2, r3, w8, r5, r6, r7, r8], Lg)) o from ev_f (c := x10 ≠ 0) _ _ 1  zc32 e (fun n => Eq.refl _)
          obtain ⟨x11, zh33, zh16⟩ := bnd zh16
          have zh33 : f_Tape_atSign T_6 45 = some x11 := zh33
          have ze34 := R_f_Tape_atSign_0 (d + 6) Y T_6 HA HB RV RU_7 ST NS I0 I1 I2 BO FI RG GU PU MA MN MS OT SC r0 r1 r2 r3 w8 r5 r6 r7 r8 L Lg 45 zh33
          suffices e : Ev (d + 7, 0, 0, 248, 37, [.val (.ref 384), .val (.ref 128), .val (.int p2), .val (.int v4), .val s5], [.int x11], (126, 120, L, [Y, T_6, HA, HB, RV, RU_7, ST, NS, I0, I1, I2, BO, FI, RG, GU, PU, MA, MN, MS, OT, SC], [r0, r1, r2, r3, w8, r5, r6, r7, r8], Lg)) o from ev_call (fun v μ => (d + 7, 0, 0, 248, 37, [.val (.ref 384), .val (.ref 128), .val (.int p2), .val (.int v4), .val s5], v.toList ++ [], μ)) 3 ze34 e (fun n => Eq.refl _)
          by_cases zc35 : x11 = 0
          · have zh16 := itp zh16 zc35
            suffices e : Ev (d + 7, 0, 0, 248, 82, [.val (.ref 384), .val (.ref 128), .val (.int p2), .val (.int v4), .val s5], [], (126, 120, L, [Y, T_6, HA, HB, RV, RU_7, ST, NS, I0, I1, I2, BO, FI, RG, GU, PU, MA, MN, MS, OT, SC], [r0, r1, r2, r3, w8, r5, r6, r7, r8], Lg)) o from ev_t (c := x11 = 0) _ _ 1  zc35 e (fun n => Eq.refl _)
            have zh36 := sum_r zh7 (Option.some.inj zh16).symm
            exact ev_b 0 (zx6 _ (Option.some.inj zh36).symm (.int v4) s5) (fun n => Eq.refl _)
          · have zh16 := itn zh16 zc35
            suffices e : Ev (d + 7, 0, 0, 248, 40, [.val (.ref 384), .val (.ref 128), .val (.int p2), .val (.int v4), .val s5], [], (126, 120, L, [Y, T_6, HA, HB, RV, RU_7, ST, NS, I0, I1, I2, BO, FI, RG, GU, PU, MA, MN, MS, OT, SC], [r0, r1, r2, r3, w8, r5, r6, r7, r8], Lg)) o from ev_f (c := x11 = 0) _ _ 1  zc35 e (fun n => Eq.refl _)
            exact ev_b 0 (zj17  (Option.some.inj zh16).symm ) (fun n => Eq.refl _)
  · obtain ⟨T_22, RU_23, w24⟩ := zb3
    intro s20 s21
    have ze37 := Option.some.inj h
    subst ze37
    exact ev_rete 1 ho (fun n => Eq.refl _)
set_option maxRecDepth 1000000 in
set_option maxHeartbeats 4000000 in
theorem R_f_Rule_readProduct_B_0 (d : Nat) (rc : (Nat → (Nat → Nat → Int32) → (Nat → Nat → Int32) → Nat → Int32 → Option ((Nat → Nat → Int32) × (Nat → Nat → Int32) × Nat)))
    (zrc0 : ∀ (Y T HA HB RV RU ST NS I0 I1 I2 BO FI RG GU PU MA MN MS OT SC : Nat → Nat → Int32) (r0 r1 r2 r3 w r5 r6 r7 r8 : Nat) (L : Nat) (Lg : Int64) (p2 : Int32) (r : (Nat → Nat → Int32) × (Nat → Nat → Int32) × Nat), rc 0 T RU w p2 = some r → Ev (d + 6, 0, 0, 243, 0, [.val (.ref 384), .val (.ref 128), .val (.int p2), .val a_unk], [], (126, 120, L, [Y, T, HA, HB, RV, RU, ST, NS, I0, I1, I2, BO, FI, RG, GU, PU, MA, MN, MS, OT, SC], [r0, r1, r2, r3, w, r5, r6, r7, r8], Lg)) ((0, none, (126, 120, L, [Y, r.1, HA, HB, RV, r.2.1, ST, NS, I0, I1, I2, BO, FI, RG, GU, PU, MA, MN, MS, OT, SC], [r0, r1, r2, r3, r.2.2, r5, r6, r7, r8], Lg)) : AOut))
    (zrc1 : ∀ (Y T HA HB RV RU ST NS I0 I1 I2 BO FI RG GU PU MA MN MS OT SC : Nat → Nat → Int32) (r0 r1 r2 r3 w r5 r6 r7 r8 : Nat) (L : Nat) (Lg : Int64) (p2 : Int32) (r : (Nat → Nat → Int32) × (Nat → Nat → Int32) × Nat), rc 1 T RU w p2 = some r → Ev (d + 6, 0, 0, 244, 0, [.val (.ref 384), .val (.ref 128), .val (.int p2), .val a_unk], [], (126, 120, L, [Y, T, HA, HB, RV, RU, ST, NS, I0, I1, I2, BO, FI, RG, GU, PU, MA, MN, MS, OT, SC], [r0, r1, r2, r3, w, r5, r6, r7, r8], Lg)) ((0, none, (126, 120, L, [Y, r.1, HA, HB, RV, r.2.1, ST, NS, I0, I1, I2, BO, FI, RG, GU, PU, MA, MN, MS, OT, SC], [r0, r1, r2, r3, r.2.2, r5, r6, r7, r8], Lg)) : AOut))
    (zrc2 : ∀ (Y T HA HB RV RU ST NS I0 I1 I2 BO FI RG GU PU MA MN MS OT SC : Nat → Nat → Int32) (r0 r1 r2 r3 w r5 r6 r7 r8 : Nat) (L : Nat) (Lg : Int64) (p2 : Int32) (r : (Nat → Nat → Int32) × (Nat → Nat → Int32) × Nat), rc 2 T RU w p2 = some r → Ev (d + 6, 0, 0, 245, 0, [.val (.ref 384), .val (.ref 128), .val (.int p2)], [], (126, 120, L, [Y, T, HA, HB, RV, RU, ST, NS, I0, I1, I2, BO, FI, RG, GU, PU, MA, MN, MS, OT, SC], [r0, r1, r2, r3, w, r5, r6, r7, r8], Lg)) ((0, none, (126, 120, L, [Y, r.1, HA, HB, RV, r.2.1, ST, NS, I0, I1, I2, BO, FI, RG, GU, PU, MA, MN, MS, OT, SC], [r0, r1, r2, r3, r.2.2, r5, r6, r7, r8], Lg)) : AOut))
    (zrc3 : ∀ (Y T HA HB RV RU ST NS I0 I1 I2 BO FI RG GU PU MA MN MS OT SC : Nat → Nat → Int32) (r0 r1 r2 r3 w r5 r6 r7 r8 : Nat) (L : Nat) (Lg : Int64) (p2 : Int32) (r : (Nat → Nat → Int32) × (Nat → Nat → Int32) × Nat), rc 3 T RU w p2 = some r → Ev (d + 6, 0, 0, 248, 0, [.val (.ref 384), .val (.ref 128), .val (.int p2), .val a_unk, .val a_unk], [], (126, 120, L, [Y, T, HA, HB, RV, RU, ST, NS, I0, I1, I2, BO, FI, RG, GU, PU, MA, MN, MS, OT, SC], [r0, r1, r2, r3, w, r5, r6, r7, r8], Lg)) ((0, none, (126, 120, L, [Y, r.1, HA, HB, RV, r.2.1, ST, NS, I0, I1, I2, BO, FI, RG, GU, PU, MA, MN, MS, OT, SC], [r0, r1, r2, r3, r.2.2, r5, r6, r7, r8], Lg)) : AOut))
    (zrc4 : ∀ (Y T HA HB RV RU ST NS I0 I1 I2 BO FI RG GU PU MA MN MS OT SC : Nat → Nat → Int32) (r0 r1 r2 r3 w r5 r6 r7 r8 : Nat) (L : Nat) (Lg : Int64) (p2 : Int32) (r : (Nat → Nat → Int32) × (Nat → Nat → Int32) × Nat), rc 4 T RU w p2 = some r → Ev (d + 6, 0, 0, 249, 0, [.val (.ref 384), .val (.ref 128), .val (.int p2), .val a_unk], [], (126, 120, L, [Y, T, HA, HB, RV, RU, ST, NS, I0, I1, I2, BO, FI, RG, GU, PU, MA, MN, MS, OT, SC], [r0, r1, r2, r3, w, r5, r6, r7, r8], Lg)) ((0, none, (126, 120, L, [Y, r.1, HA, HB, RV, r.2.1, ST, NS, I0, I1, I2, BO, FI, RG, GU, PU, MA, MN, MS, OT, SC], [r0, r1, r2, r3, r.2.2, r5, r6, r7, r8], Lg)) : AOut))
    (zrc5 : ∀ (Y T HA HB RV RU ST NS I0 I1 I2 BO FI RG GU PU MA MN MS OT SC : Nat → Nat → Int32) (r0 r1 r2 r3 w r5 r6 r7 r8 : Nat) (L : Nat) (Lg : Int64) (p2 : Int32) (r : (Nat → Nat → Int32) × (Nat → Nat → Int32) × Nat), rc 5 T RU w p2 = some r → Ev (d + 6, 0, 0, 250, 0, [.val (.ref 384), .val (.ref 128), .val (.int p2), .val a_unk], [], (126, 120, L, [Y, T, HA, HB, RV, RU, ST, NS, I0, I1, I2, BO, FI, RG, GU, PU, MA, MN, MS, OT, SC], [r0, r1, r2, r3, w, r5, r6, r7, r8], Lg)) ((0, none, (126, 120, L, [Y, r.1, HA, HB, RV, r.2.1, ST, NS, I0, I1, I2, BO, FI, RG, GU, PU, MA, MN, MS, OT, SC], [r0, r1, r2, r3, r.2.2, r5, r6, r7, r8], Lg)) : AOut))
    (zrc6 : ∀ (Y T HA HB RV RU ST NS I0 I1 I2 BO FI RG GU PU MA MN MS OT SC : Nat → Nat → Int32) (r0 r1 r2 r3 w r5 r6 r7 r8 : Nat) (L : Nat) (Lg : Int64) (p2 : Int32) (r : (Nat → Nat → Int32) × (Nat → Nat → Int32) × Nat), rc 6 T RU w p2 = some r → Ev (d + 6, 0, 0, 247, 0, [.val (.ref 384), .val (.ref 128), .val (.int p2), .val a_unk], [], (126, 120, L, [Y, T, HA, HB, RV, RU, ST, NS, I0, I1, I2, BO, FI, RG, GU, PU, MA, MN, MS, OT, SC], [r0, r1, r2, r3, w, r5, r6, r7, r8], Lg)) ((0, none, (126, 120, L, [Y, r.1, HA, HB, RV, r.2.1, ST, NS, I0, I1, I2, BO, FI, RG, GU, PU, MA, MN, MS, OT, SC], [r0, r1, r2, r3, r.2.2, r5, r6, r7, r8], Lg)) : AOut))
    (Y T HA HB RV RU ST NS I0 I1 I2 BO FI RG GU PU MA MN MS OT SC : Nat → Nat → Int32) (r0 r1 r2 r3 w r5 r6 r7 r8 : Nat) (L : Nat) (Lg : Int64) (p2 : Int32) {r : (Nat → Nat → Int32) × (Nat → Nat → Int32) × Nat} (h : f_Rule_readProduct_B rc T RU w p2 = some r) : Ev (d + 7, 0, 0, 249, 0, [.val (.ref 384), .val (.ref 128), .val (.int p2), .val a_unk], [], (126, 120, L, [Y, T, HA, HB, RV, RU, ST, NS, I0, I1, I2, BO, FI, RG, GU, PU, MA, MN, MS, OT, SC], [r0, r1, r2, r3, w, r5, r6, r7, r8], Lg)) ((0, none, (126, 120, L, [Y, r.1, HA, HB, RV, r.2.1, ST, NS, I0, I1, I2, BO, FI, RG, GU, PU, MA, MN, MS, OT, SC], [r0, r1, r2, r3, r.2.2, r5, r6, r7, r8], Lg)) : AOut) := by
  suffices key : ∀ o : AOut, ((0, none, (126, 120, L, [Y, r.1, HA, HB, RV, r.2.1, ST, NS, I0, I1, I2, BO, FI, RG, GU, PU, MA, MN, MS, OT, SC], [r0, r1, r2, r3, r.2.2, r5, r6, r7, r8], Lg)) : AOut) = o → Ev (d + 7, 0, 0, 249, 0, [.val (.ref 384), .val (.ref 128), .val (.int p2), .val a_unk], [], (126, 120, L, [Y, T, HA, HB, RV, RU, ST, NS, I0, I1, I2, BO, FI, RG, GU, PU, MA, MN, MS, OT, SC], [r0, r1, r2, r3, w, r5, r6, r7, r8], Lg)) o from key _ rfl
  intro o ho
  obtain ⟨⟨T_1, RU_2, w3⟩, zh1, h⟩ := bnd h
  have zh1 : rc 5 T RU w p2 = some (T_1, RU_2, w3) := zh1
  have ze2 := zrc5 Y T HA HB RV RU ST NS I0 I1 I2 BO FI RG GU PU MA MN MS OT SC r0 r1 r2 r3 w r5 r6 r7 r8 L Lg p2 _ zh1
  suffices e : Ev (d + 7, 0, 0, 249, 6, [.val (.ref 384), .val (.ref 128), .val (.int p2), .val a_unk], [], (126, 120, L, [Y, T_1, HA, HB, RV, RU_2, ST, NS, I0, I1, I2, BO, FI, RG, GU, PU, MA, MN, MS, OT, SC], [r0, r1, r2, r3, w3, r5, r6, r7, r8], Lg)) o from ev_call (fun v μ => (d + 7, 0, 0, 249, 6, [.val (.ref 384), .val (.ref 128), .val (.int p2), .val a_unk], v.toList ++ [], μ)) 4 ze2 e (fun n => Eq.refl _)
  obtain ⟨zb3, zh4, h⟩ := bnd h
  suffices e : Ev (d + 7, 0, 0, 249, 8, [.val (.ref 384), .val (.ref 128), .val (.int p2), .val (.int 0)], [], (126, 120, L, [Y, T_1, HA, HB, RV, RU_2, ST, NS, I0, I1, I2, BO, FI, RG, GU, PU, MA, MN, MS, OT, SC], [r0, r1, r2, r3, w3, r5, r6, r7, r8], Lg)) o from ev_b 2 e (fun n => Eq.refl _)
  refine ev_loop (δ := Unit) (fun a j => (d + 7, 0, 0, 249, 8, [.val (.ref 384), .val (.ref 128), .val (.int p2), .val (.int a.1)], [], (126, 120, L, [Y, a.2.1, HA, HB, RV, a.2.2.1, ST, NS, I0, I1, I2, BO, FI, RG, GU, PU, MA, MN, MS, OT, SC], [r0, r1, r2, r3, a.2.2.2, r5, r6, r7, r8], Lg))) (fun b => ∀ s16 : Value, Ev (d + 7, 0, 0, 249, 54, [.val (.ref 384), .val (.ref 128), .val (.int p2), .val s16], [], (126, 120, L, [Y, b.1, HA, HB, RV, b.2.1, ST, NS, I0, I1, I2, BO, FI, RG, GU, PU, MA, MN, MS, OT, SC], [r0, r1, r2, r3, b.2.2, r5, r6, r7, r8], Lg)) o) ?_ a_F (0, T_1, RU_2, w3) zb3 zh4 ?_ ()
  · rintro ⟨v4, T_5, RU_6, w7⟩ zr8 zh7 zi5 zx6 ⟨⟩
    have zh7 : f_Rule_readProduct_B_l8 rc p2 v4 T_5 RU_6 w7 = some zr8 := zh7
    by_cases zc9 : 150 ≤ v4
    · have zh7 := itp zh7 zc9
      suffices e : Ev (d + 7, 0, 0, 249, 54, [.val (.ref 384), .val (.ref 128), .val (.int p2), .val (.int v4)], [], (126, 120, L, [Y, T_5, HA, HB, RV, RU_6, ST, NS, I0, I1, I2, BO, FI, RG, GU, PU, MA, MN, MS, OT, SC], [r0, r1, r2, r3, w7, r5, r6, r7, r8], Lg)) o from ev_t (c := 150 ≤ v4) _ _ 3  zc9 e (fun n => Eq.refl _)
      exact ev_b 0 (zx6 _ (Option.some.inj zh7).symm (.int v4)) (fun n => Eq.refl _)
    · have zh7 := itn zh7 zc9
      suffices e : Ev (d + 7, 0, 0, 249, 15, [.val (.ref 384), .val (.ref 128), .val (.int p2), .val (.int v4)], [], (126, 120, L, [Y, T_5, HA, HB, RV, RU_6, ST, NS, I0, I1, I2, BO, FI, RG, GU, PU, MA, MN, MS, OT, SC], [r0, r1, r2, r3, w7, r5, r6, r7, r8], Lg)) o from ev_f (c := 150 ≤ v4) _ _ 3  zc9 e (fun n => Eq.refl _)
      obtain ⟨x8, zh10, zh7⟩ := bnd zh7
      have zh10 : f_Tape_failed T_5 = some x8 := zh10
      have ze11 := R_f_Tape_failed_0 (d + 6) Y T_5 HA HB RV RU_6 ST NS I0 I1 I2 BO FI RG GU PU MA MN MS OT SC r0 r1 r2 r3 w7 r5 r6 r7 r8 L Lg zh10
      suffices e : Ev (d + 7, 0, 0, 249, 19, [.val (.ref 384), .val (.ref 128), .val (.int p2), .val (.int v4)], [.int x8], (126, 120, L, [Y, T_5, HA, HB, RV, RU_6, ST, NS, I0, I1, I2, BO, FI, RG, GU, PU, MA, MN, MS, OT, SC], [r0, r1, r2, r3, w7, r5, r6, r7, r8], Lg)) o from ev_call (fun v μ => (d + 7, 0, 0, 249, 19, [.val (.ref 384), .val (.ref 128), .val (.int p2), .val (.int v4)], v.toList ++ [], μ)) 2 ze11 e (fun n => Eq.refl _)
      by_cases zc12 : x8 ≠ 0
      · have zh7 := itp zh7 zc12
        suffices e : Ev (d + 7, 0, 0, 249, 54, [.val (.ref 384), .val (.ref 128), .val (.int p2), .val (.int v4)], [], (126, 120, L, [Y, T_5, HA, HB, RV, RU_6, ST, NS, I0, I1, I2, BO, FI, RG, GU, PU, MA, MN, MS, OT, SC], [r0, r1, r2, r3, w7, r5, r6, r7, r8], Lg)) o from ev_t (c := x8 ≠ 0) _ _ 1  zc12 e (fun n => Eq.refl _)
        exact ev_b 0 (zx6 _ (Option.some.inj zh7).symm (.int v4)) (fun n => Eq.refl _)
      · have zh7 := itn zh7 zc12
        suffices e : Ev (d + 7, 0, 0, 249, 22, [.val (.ref 384), .val (.ref 128), .val (.int p2), .val (.int v4)], [], (126, 120, L, [Y, T_5, HA, HB, RV, RU_6, ST, NS, I0, I1, I2, BO, FI, RG, GU, PU, MA, MN, MS, OT, SC], [r0, r1, r2, r3, w7, r5, r6, r7, r8], Lg)) o from ev_f (c := x8 ≠ 0) _ _ 1  zc12 e (fun n => Eq.refl _)
        obtain ⟨x9, zh13, zh7⟩ := bnd zh7
        have zh13 : f_Tape_atSign T_5 42 = some x9 := zh13
        have ze14 := R_f_Tape_atSign_0 (d + 6) Y T_5 HA HB RV RU_6 ST NS I0 I1 I2 BO FI RG GU PU MA MN MS OT SC r0 r1 r2 r3 w7 r5 r6 r7 r8 L Lg 42 zh13
        suffices e : Ev (d + 7, 0, 0, 249, 28, [.val (.ref 384), .val (.ref 128), .val (.int p2), .val (.int v4)], [.int x9], (126, 120, L, [Y, T_5, HA, HB, RV, RU_6, ST, NS, I0, I1, I2, BO, FI, RG, GU, PU, MA, MN, MS, OT, SC], [r0, r1, r2, r3, w7, r5, r6, r7, r8], Lg)) o from ev_call (fun v μ => (d + 7, 0, 0, 249, 28, [.val (.ref 384), .val (.ref 128), .val (.int p2), .val (.int v4)], v.toList ++ [], μ)) 3 ze14 e (fun n => Eq.refl _)
        by_cases zc15 : x9 = 0
        · have zh7 := itp zh7 zc15
          suffices e : Ev (d + 7, 0, 0, 249, 54, [.val (.ref 384), .val (.ref 128), .val (.int p2), .val (.int v4)], [], (126, 120, L, [Y, T_5, HA, HB, RV, RU_6, ST, NS, I0, I1, I2, BO, FI, RG, GU, PU, MA, MN, MS, OT, SC], [r0, r1, r2, r3, w7, r5, r6, r7, r8], Lg)) o from ev_t (c := x9 = 0) _ _ 1  zc15 e (fun n => Eq.refl _)
          exact ev_b 0 (zx6 _ (Option.some.inj zh7).symm (.int v4)) (fun n => Eq.refl _)
        · have zh7 := itn zh7 zc15
          suffices e : Ev (d + 7, 0, 0, 249, 31, [.val (.ref 384), .val (.ref 128), .val (.int p2), .val (.int v4)], [], (126, 120, L, [Y, T_5, HA, HB, RV, RU_6, ST, NS, I0, I1, I2, BO, FI, RG, GU, PU, MA, MN, MS, OT, SC], [r0, r1, r2, r3, w7, r5, r6, r7, r8], Lg)) o from ev_f (c := x9 = 0) _ _ 1  zc15 e (fun n => Eq.refl _)
          obtain ⟨⟨T_10, w11⟩, zh16, zh7⟩ := bnd zh7
          have zh16 : f_Tape_advance T_5 = some (T_10, w11) := zh16
          have ze17 := R_f_Tape_advance_0 (d + 1) Y T_5 HA HB RV RU_6 ST NS I0 I1 I2 BO FI RG GU PU MA MN MS OT SC r0 r1 r2 r3 w7 r5 r6 r7 r8 L Lg zh16
          suffices e : Ev (d + 7, 0, 0, 249, 35, [.val (.ref 384), .val (.ref 128), .val (.int p2), .val (.int v4)], [], (126, 120, L, [Y, T_10, HA, HB, RV, RU_6, ST, NS, I0, I1, I2, BO, FI, RG, GU, PU, MA, MN, MS, OT, SC], [r0, r1, r2, r3, w11, r5, r6, r7, r8], Lg)) o from ev_call (fun v μ => (d + 7, 0, 0, 249, 35, [.val (.ref 384), .val (.ref 128), .val (.int p2), .val (.int v4)], v.toList ++ [], μ)) 2 ze17 e (fun n => Eq.refl _)
          obtain ⟨⟨T_12, RU_13, w14⟩, zh18, zh7⟩ := bnd zh7
          have zh18 : rc 5 T_10 RU_6 w11 p2 = some (T_12, RU_13, w14) := zh18
          have ze19 := zrc5 Y T_10 HA HB RV RU_6 ST NS I0 I1 I2 BO FI RG GU PU MA MN MS OT SC r0 r1 r2 r3 w11 r5 r6 r7 r8 L Lg p2 _ zh18
          suffices e : Ev (d + 7, 0, 0, 249, 41, [.val (.ref 384), .val (.ref 128), .val (.int p2), .val (.int v4)], [], (126, 120, L, [Y, T_12, HA, HB, RV, RU_13, ST, NS, I0, I1, I2, BO, FI, RG, GU, PU, MA, MN, MS, OT, SC], [r0, r1, r2, r3, w14, r5, r6, r7, r8], Lg)) o from ev_call (fun v μ => (d + 7, 0, 0, 249, 41, [.val (.ref 384), .val (.ref 128), .val (.int p2), .val (.int v4)], v.toList ++ [], μ)) 4 ze19 e (fun n => Eq.refl _)
          obtain ⟨RU_15, zh20, zh7⟩ := bnd zh7
          have zh20 : f_Rule_emit RU_13 208 = some RU_15 := zh20
          have ze21 := R_f_Rule_emit_0 (d + 6) Y T_12 HA HB RV RU_13 ST NS I0 I1 I2 BO FI RG GU PU MA MN MS OT SC r0 r1 r2 r3 w14 r5 r6 r7 r8 L Lg 208 zh20
          suffices e : Ev (d + 7, 0, 0, 249, 48, [.val (.ref 384), .val (.ref 128), .val (.int p2), .val (.int v4)], [], (126, 120, L, [Y, T_12, HA, HB, RV, RU_15, ST, NS, I0, I1, I2, BO, FI, RG, GU, PU, MA, MN, MS, OT, SC], [r0, r1, r2, r3, w14, r5, r6, r7, r8], Lg)) o from ev_call (fun v μ => (d + 7, 0, 0, 249, 48, [.val (.ref 384), .val (.ref 128), .val (.int p2), .val (.int v4)], v.toList ++ [], μ)) 3 ze21 e (fun n => Eq.refl _)
          exact ev_b 2 (zi5 _ (Option.some.inj zh7).symm ()) (fun n => Eq.refl _)
  · obtain ⟨T_17, RU_18, w19⟩ := zb3
    intro s16
    have ze22 := Option.some.inj h
    subst ze22
    exact ev_rete 1 ho (fun n => Eq.refl _)
set_option maxRecDepth 1000000 in
set_option maxHeartbeats 4000000 in
theorem R_f_Rule_readUnit_B_0 (d : Nat) (rc : (Nat → (Nat → Nat → Int32) → (Nat → Nat → Int32) → Nat → Int32 → Option ((Nat → Nat → Int32) × (Nat → Nat → Int32) × Nat)))
    (zrc0 : ∀ (Y T HA HB RV RU ST NS I0 I1 I2 BO FI RG GU PU MA MN MS OT SC : Nat → Nat → Int32) (r0 r1 r2 r3 w r5 r6 r7 r8 : Nat) (L : Nat) (Lg : Int64) (p2 : Int32) (r : (Nat → Nat → Int32) × (Nat → Nat → Int32) × Nat), rc 0 T RU w p2 = some r → Ev (d + 6, 0, 0, 243, 0, [.val (.ref 384), .val (.ref 128), .val (.int p2), .val a_unk], [], (126, 120, L, [Y, T, HA, HB, RV, RU, ST, NS, I0, I1, I2, BO, FI, RG, GU, PU, MA, MN, MS, OT, SC], [r0, r1, r2, r3, w, r5, r6, r7, r8], Lg)) ((0, none, (126, 120, L, [Y, r.1, HA, HB, RV, r.2.1, ST, NS, I0, I1, I2, BO, FI, RG, GU, PU, MA, MN, MS, OT, SC], [r0, r1, r2, r3, r.2.2, r5, r6, r7, r8], Lg)) : AOut))
    (zrc1 : ∀ (Y T HA HB RV RU ST NS I0 I1 I2 BO FI RG GU PU MA MN MS OT SC : Nat → Nat → Int32) (r0 r1 r2 r3 w r5 r6 r7 r8 : Nat) (L : Nat) (Lg : Int64) (p2 : Int32) (r : (Nat → Nat → Int32) × (Nat → Nat → Int32) × Nat), rc 1 T RU w p2 = some r → Ev (d + 6, 0, 0, 244, 0, [.val (.ref 384), .val (.ref 128), .val (.int p2), .val a_unk], [], (126, 120, L, [Y, T, HA, HB, RV, RU, ST, NS, I0, I1, I2, BO, FI, RG, GU, PU, MA, MN, MS, OT, SC], [r0, r1, r2, r3, w, r5, r6, r7, r8], Lg)) ((0, none, (126, 120, L, [Y, r.1, HA, HB, RV, r.2.1, ST, NS, I0, I1, I2, BO, FI, RG, GU, PU, MA, MN, MS, OT, SC], [r0, r1, r2, r3, r.2.2, r5, r6, r7, r8], Lg)) : AOut))
    (zrc2 : ∀ (Y T HA HB RV RU ST NS I0 I1 I2 BO FI RG GU PU MA MN MS OT SC : Nat → Nat → Int32) (r0 r1 r2 r3 w r5 r6 r7 r8 : Nat) (L : Nat) (Lg : Int64) (p2 : Int32) (r : (Nat → Nat → Int32) × (Nat → Nat → Int32) × Nat), rc 2 T RU w p2 = some r → Ev (d + 6, 0, 0, 245, 0, [.val (.ref 384), .val (.ref 128), .val (.int p2)], [], (126, 120, L, [Y, T, HA, HB, RV, RU, ST, NS, I0, I1, I2, BO, FI, RG, GU, PU, MA, MN, MS, OT, SC], [r0, r1, r2, r3, w, r5, r6, r7, r8], Lg)) ((0, none, (126, 120, L, [Y, r.1, HA, HB, RV, r.2.1, ST, NS, I0, I1, I2, BO, FI, RG, GU, PU, MA, MN, MS, OT, SC], [r0, r1, r2, r3, r.2.2, r5, r6, r7, r8], Lg)) : AOut))
    (zrc3 : ∀ (Y T HA HB RV RU ST NS I0 I1 I2 BO FI RG GU PU MA MN MS OT SC : Nat → Nat → Int32) (r0 r1 r2 r3 w r5 r6 r7 r8 : Nat) (L : Nat) (Lg : Int64) (p2 : Int32) (r : (Nat → Nat → Int32) × (Nat → Nat → Int32) × Nat), rc 3 T RU w p2 = some r → Ev (d + 6, 0, 0, 248, 0, [.val (.ref 384), .val (.ref 128), .val (.int p2), .val a_unk, .val a_unk], [], (126, 120, L, [Y, T, HA, HB, RV, RU, ST, NS, I0, I1, I2, BO, FI, RG, GU, PU, MA, MN, MS, OT, SC], [r0, r1, r2, r3, w, r5, r6, r7, r8], Lg)) ((0, none, (126, 120, L, [Y, r.1, HA, HB, RV, r.2.1, ST, NS, I0, I1, I2, BO, FI, RG, GU, PU, MA, MN, MS, OT, SC], [r0, r1, r2, r3, r.2.2, r5, r6, r7, r8], Lg)) : AOut))
    (zrc4 : ∀ (Y T HA HB RV RU ST NS I0 I1 I2 BO FI RG GU PU MA MN MS OT SC : Nat → Nat → Int32) (r0 r1 r2 r3 w r5 r6 r7 r8 : Nat) (L : Nat) (Lg : Int64) (p2 : Int32) (r : (Nat → Nat → Int32) × (Nat → Nat → Int32) × Nat), rc 4 T RU w p2 = some r → Ev (d + 6, 0, 0, 249, 0, [.val (.ref 384), .val (.ref 128), .val (.int p2), .val a_unk], [], (126, 120, L, [Y, T, HA, HB, RV, RU, ST, NS, I0, I1, I2, BO, FI, RG, GU, PU, MA, MN, MS, OT, SC], [r0, r1, r2, r3, w, r5, r6, r7, r8], Lg)) ((0, none, (126, 120, L, [Y, r.1, HA, HB, RV, r.2.1, ST, NS, I0, I1, I2, BO, FI, RG, GU, PU, MA, MN, MS, OT, SC], [r0, r1, r2, r3, r.2.2, r5, r6, r7, r8], Lg)) : AOut))
    (zrc5 : ∀ (Y T HA HB RV RU ST NS I0 I1 I2 BO FI RG GU PU MA MN MS OT SC : Nat → Nat → Int32) (r0 r1 r2 r3 w r5 r6 r7 r8 : Nat) (L : Nat) (Lg : Int64) (p2 : Int32) (r : (Nat → Nat → Int32) × (Nat → Nat → Int32) × Nat), rc 5 T RU w p2 = some r → Ev (d + 6, 0, 0, 250, 0, [.val (.ref 384), .val (.ref 128), .val (.int p2), .val a_unk], [], (126, 120, L, [Y, T, HA, HB, RV, RU, ST, NS, I0, I1, I2, BO, FI, RG, GU, PU, MA, MN, MS, OT, SC], [r0, r1, r2, r3, w, r5, r6, r7, r8], Lg)) ((0, none, (126, 120, L, [Y, r.1, HA, HB, RV, r.2.1, ST, NS, I0, I1, I2, BO, FI, RG, GU, PU, MA, MN, MS, OT, SC], [r0, r1, r2, r3, r.2.2, r5, r6, r7, r8], Lg)) : AOut))
    (zrc6 : ∀ (Y T HA HB RV RU ST NS I0 I1 I2 BO FI RG GU PU MA MN MS OT SC : Nat → Nat → Int32) (r0 r1 r2 r3 w r5 r6 r7 r8 : Nat) (L : Nat) (Lg : Int64) (p2 : Int32) (r : (Nat → Nat → Int32) × (Nat → Nat → Int32) × Nat), rc 6 T RU w p2 = some r → Ev (d + 6, 0, 0, 247, 0, [.val (.ref 384), .val (.ref 128), .val (.int p2), .val a_unk], [], (126, 120, L, [Y, T, HA, HB, RV, RU, ST, NS, I0, I1, I2, BO, FI, RG, GU, PU, MA, MN, MS, OT, SC], [r0, r1, r2, r3, w, r5, r6, r7, r8], Lg)) ((0, none, (126, 120, L, [Y, r.1, HA, HB, RV, r.2.1, ST, NS, I0, I1, I2, BO, FI, RG, GU, PU, MA, MN, MS, OT, SC], [r0, r1, r2, r3, r.2.2, r5, r6, r7, r8], Lg)) : AOut))
    (Y T HA HB RV RU ST NS I0 I1 I2 BO FI RG GU PU MA MN MS OT SC : Nat → Nat → Int32) (r0 r1 r2 r3 w r5 r6 r7 r8 : Nat) (L : Nat) (Lg : Int64) (p2 : Int32) {r : (Nat → Nat → Int32) × (Nat → Nat → Int32) × Nat} (h : f_Rule_readUnit_B rc T RU w p2 = some r) : Ev (d + 7, 0, 0, 250, 0, [.val (.ref 384), .val (.ref 128), .val (.int p2), .val a_unk], [], (126, 120, L, [Y, T, HA, HB, RV, RU, ST, NS, I0, I1, I2, BO, FI, RG, GU, PU, MA, MN, MS, OT, SC], [r0, r1, r2, r3, w, r5, r6, r7, r8], Lg)) ((0, none, (126, 120, L, [Y, r.1, HA, HB, RV, r.2.1, ST, NS, I0, I1, I2, BO, FI, RG, GU, PU, MA, MN, MS, OT, SC], [r0, r1, r2, r3, r.2.2, r5, r6, r7, r8], Lg)) : AOut) := by
  suffices key : ∀ o : AOut, ((0, none, (126, 120, L, [Y, r.1, HA, HB, RV, r.2.1, ST, NS, I0, I1, I2, BO, FI, RG, GU, PU, MA, MN, MS, OT, SC], [r0, r1, r2, r3, r.2.2, r5, r6, r7, r8], Lg)) : AOut) = o → Ev (d + 7, 0, 0, 250, 0, [.val (.ref 384), .val (.ref 128), .val (.int p2), .val a_unk], [], (126, 120, L, [Y, T, HA, HB, RV, RU, ST, NS, I0, I1, I2, BO, FI, RG, GU, PU, MA, MN, MS, OT, SC], [r0, r1, r2, r3, w, r5, r6, r7, r8], Lg)) o from key _ rfl
  intro o ho
  obtain ⟨x1, zh1, h⟩ := bnd h
  have zh1 : f_Tape_failed T = some x1 := zh1
  have ze2 := R_f_Tape_failed_0 (d + 6) Y T HA HB RV RU ST NS I0 I1 I2 BO FI RG GU PU MA MN MS OT SC r0 r1 r2 r3 w r5 r6 r7 r8 L Lg zh1
  suffices e : Ev (d + 7, 0, 0, 250, 4, [.val (.ref 384), .val (.ref 128), .val (.int p2), .val a_unk], [.int x1], (126, 120, L, [Y, T, HA, HB, RV, RU, ST, NS, I0, I1, I2, BO, FI, RG, GU, PU, MA, MN, MS, OT, SC], [r0, r1, r2, r3, w, r5, r6, r7, r8], Lg)) o from ev_call (fun v μ => (d + 7, 0, 0, 250, 4, [.val (.ref 384), .val (.ref 128), .val (.int p2), .val a_unk], v.toList ++ [], μ)) 2 ze2 e (fun n => Eq.refl _)
  by_cases zc3 : x1 = 0
  · have h := itp h zc3
    suffices e : Ev (d + 7, 0, 0, 250, 8, [.val (.ref 384), .val (.ref 128), .val (.int p2), .val a_unk], [], (126, 120, L, [Y, T, HA, HB, RV, RU, ST, NS, I0, I1, I2, BO, FI, RG, GU, PU, MA, MN, MS, OT, SC], [r0, r1, r2, r3, w, r5, r6, r7, r8], Lg)) o from ev_t (c := x1 = 0) _ _ 1  zc3 e (fun n => Eq.refl _)
    obtain ⟨zt4, zh5, h⟩ := bnd h
    have zj6 : zt4 = .inl () → Ev (d + 7, 0, 0, 250, 43, [.val (.ref 384), .val (.ref 128), .val (.int p2), .val (.ref w)], [], (126, 120, L, [Y, T, HA, HB, RV, RU, ST, NS, I0, I1, I2, BO, FI, RG, GU, PU, MA, MN, MS, OT, SC], [r0, r1, r2, r3, w, r5, r6, r7, r8], Lg)) o := by
      intro ze7
      have h := sum_l h ze7
      obtain ⟨x5, zh8, h⟩ := bnd h
      have zh8 : f_Tape_atSign T 40 = some x5 := zh8
      have ze9 := R_f_Tape_atSign_0 (d + 6) Y T HA HB RV RU ST NS I0 I1 I2 BO FI RG GU PU MA MN MS OT SC r0 r1 r2 r3 w r5 r6 r7 r8 L Lg 40 zh8
      suffices e : Ev (d + 7, 0, 0, 250, 49, [.val (.ref 384), .val (.ref 128), .val (.int p2), .val (.ref w)], [.int x5], (126, 120, L, [Y, T, HA, HB, RV, RU, ST, NS, I0, I1, I2, BO, FI, RG, GU, PU, MA, MN, MS, OT, SC], [r0, r1, r2, r3, w, r5, r6, r7, r8], Lg)) o from ev_call (fun v μ => (d + 7, 0, 0, 250, 49, [.val (.ref 384), .val (.ref 128), .val (.int p2), .val (.ref w)], v.toList ++ [], μ)) 3 ze9 e (fun n => Eq.refl _)
      by_cases zc10 : x5 = 0
      · have h := itp h zc10
        suffices e : Ev (d + 7, 0, 0, 250, 79, [.val (.ref 384), .val (.ref 128), .val (.int p2), .val (.ref w)], [], (126, 120, L, [Y, T, HA, HB, RV, RU, ST, NS, I0, I1, I2, BO, FI, RG, GU, PU, MA, MN, MS, OT, SC], [r0, r1, r2, r3, w, r5, r6, r7, r8], Lg)) o from ev_t (c := x5 = 0) _ _ 1  zc10 e (fun n => Eq.refl _)
        obtain ⟨⟨x6, T_7, w8⟩, zh11, h⟩ := bnd h
        have zh11 : f_Tape_number T w 0 99 = some (x6, T_7, w8) := zh11
        have ze12 := R_f_Tape_number_0 (d + 0) Y T HA HB RV RU ST NS I0 I1 I2 BO FI RG GU PU MA MN MS OT SC r0 r1 r2 r3 w r5 r6 r7 r8 L Lg 0 99 zh11
        suffices e : Ev (d + 7, 0, 0, 250, 87, [.val (.ref 384), .val (.ref 128), .val (.int p2), .val (.ref w)], [.int x6, .ref 384], (126, 120, L, [Y, T_7, HA, HB, RV, RU, ST, NS, I0, I1, I2, BO, FI, RG, GU, PU, MA, MN, MS, OT, SC], [r0, r1, r2, r3, w8, r5, r6, r7, r8], Lg)) o from ev_call (fun v μ => (d + 7, 0, 0, 250, 87, [.val (.ref 384), .val (.ref 128), .val (.int p2), .val (.ref w)], v.toList ++ [.ref 384], μ)) 5 ze12 e (fun n => Eq.refl _)
        obtain ⟨RU_9, zh13, h⟩ := bnd h
        have zh13 : f_Rule_emit RU x6 = some RU_9 := zh13
        have ze14 := R_f_Rule_emit_0 (d + 6) Y T_7 HA HB RV RU ST NS I0 I1 I2 BO FI RG GU PU MA MN MS OT SC r0 r1 r2 r3 w8 r5 r6 r7 r8 L Lg x6 zh13
        suffices e : Ev (d + 7, 0, 0, 250, 90, [.val (.ref 384), .val (.ref 128), .val (.int p2), .val (.ref w)], [], (126, 120, L, [Y, T_7, HA, HB, RV, RU_9, ST, NS, I0, I1, I2, BO, FI, RG, GU, PU, MA, MN, MS, OT, SC], [r0, r1, r2, r3, w8, r5, r6, r7, r8], Lg)) o from ev_call (fun v μ => (d + 7, 0, 0, 250, 90, [.val (.ref 384), .val (.ref 128), .val (.int p2), .val (.ref w)], v.toList ++ [], μ)) 1 ze14 e (fun n => Eq.refl _)
        have ze15 := Option.some.inj h
        subst ze15
        exact ev_rete 1 ho (fun n => Eq.refl _)
      · have h := itn h zc10
        suffices e : Ev (d + 7, 0, 0, 250, 52, [.val (.ref 384), .val (.ref 128), .val (.int p2), .val (.ref w)], [], (126, 120, L, [Y, T, HA, HB, RV, RU, ST, NS, I0, I1, I2, BO, FI, RG, GU, PU, MA, MN, MS, OT, SC], [r0, r1, r2, r3, w, r5, r6, r7, r8], Lg)) o from ev_f (c := x5 = 0) _ _ 1  zc10 e (fun n => Eq.refl _)
        obtain ⟨⟨x10, T_11, w12⟩, zh16, h⟩ := bnd h
        have zh16 : f_Rule_opens T w p2 = some (x10, T_11, w12) := zh16
        have ze17 := R_f_Rule_opens_0 (d + 0) Y T HA HB RV RU ST NS I0 I1 I2 BO FI RG GU PU MA MN MS OT SC r0 r1 r2 r3 w r5 r6 r7 r8 L Lg p2 zh16
        suffices e : Ev (d + 7, 0, 0, 250, 58, [.val (.ref 384), .val (.ref 128), .val (.int p2), .val (.ref w)], [.int x10], (126, 120, L, [Y, T_11, HA, HB, RV, RU, ST, NS, I0, I1, I2, BO, FI, RG, GU, PU, MA, MN, MS, OT, SC], [r0, r1, r2, r3, w12, r5, r6, r7, r8], Lg)) o from ev_call (fun v μ => (d + 7, 0, 0, 250, 58, [.val (.ref 384), .val (.ref 128), .val (.int p2), .val (.ref w)], v.toList ++ [], μ)) 4 ze17 e (fun n => Eq.refl _)
        by_cases zc18 : x10 = 0
        · have h := itp h zc18
          suffices e : Ev (d + 7, 0, 0, 250, 90, [.val (.ref 384), .val (.ref 128), .val (.int p2), .val (.ref w)], [], (126, 120, L, [Y, T_11, HA, HB, RV, RU, ST, NS, I0, I1, I2, BO, FI, RG, GU, PU, MA, MN, MS, OT, SC], [r0, r1, r2, r3, w12, r5, r6, r7, r8], Lg)) o from ev_t (c := x10 = 0) _ _ 1  zc18 e (fun n => Eq.refl _)
          have ze19 := Option.some.inj h
          subst ze19
          exact ev_rete 1 ho (fun n => Eq.refl _)
        · have h := itn h zc18
          suffices e : Ev (d + 7, 0, 0, 250, 61, [.val (.ref 384), .val (.ref 128), .val (.int p2), .val (.ref w)], [], (126, 120, L, [Y, T_11, HA, HB, RV, RU, ST, NS, I0, I1, I2, BO, FI, RG, GU, PU, MA, MN, MS, OT, SC], [r0, r1, r2, r3, w12, r5, r6, r7, r8], Lg)) o from ev_f (c := x10 = 0) _ _ 1  zc18 e (fun n => Eq.refl _)
          obtain ⟨⟨T_13, RU_14, w15⟩, zh20, h⟩ := bnd h
          have zh20 : rc 3 T_11 RU w12 (p2 + 1) = some (T_13, RU_14, w15) := zh20
          have ze21 := zrc3 Y T_11 HA HB RV RU ST NS I0 I1 I2 BO FI RG GU PU MA MN MS OT SC r0 r1 r2 r3 w12 r5 r6 r7 r8 L Lg (p2 + 1) _ zh20
          suffices e : Ev (d + 7, 0, 0, 250, 69, [.val (.ref 384), .val (.ref 128), .val (.int p2), .val (.ref w)], [], (126, 120, L, [Y, T_13, HA, HB, RV, RU_14, ST, NS, I0, I1, I2, BO, FI, RG, GU, PU, MA, MN, MS, OT, SC], [r0, r1, r2, r3, w15, r5, r6, r7, r8], Lg)) o from ev_call (fun v μ => (d + 7, 0, 0, 250, 69, [.val (.ref 384), .val (.ref 128), .val (.int p2), .val (.ref w)], v.toList ++ [], μ)) 6 ze21 e (fun n => Eq.refl _)
          obtain ⟨⟨x16, T_17, w18⟩, zh22, h⟩ := bnd h
          have zh22 : f_Tape_pass T_13 w15 41 = some (x16, T_17, w18) := zh22
          have ze23 := R_f_Tape_pass_0 (d + 0) Y T_13 HA HB RV RU_14 ST NS I0 I1 I2 BO FI RG GU PU MA MN MS OT SC r0 r1 r2 r3 w15 r5 r6 r7 r8 L Lg 41 zh22
          suffices e : Ev (d + 7, 0, 0, 250, 75, [.val (.ref 384), .val (.ref 128), .val (.int p2), .val (.ref w)], [.int x16], (126, 120, L, [Y, T_17, HA, HB, RV, RU_14, ST, NS, I0, I1, I2, BO, FI, RG, GU, PU, MA, MN, MS, OT, SC], [r0, r1, r2, r3, w18, r5, r6, r7, r8], Lg)) o from ev_call (fun v μ => (d + 7, 0, 0, 250, 75, [.val (.ref 384), .val (.ref 128), .val (.int p2), .val (.ref w)], v.toList ++ [], μ)) 3 ze23 e (fun n => Eq.refl _)
          have ze24 := Option.some.inj h
          subst ze24
          exact ev_rete 3 ho (fun n => Eq.refl _)
    by_cases zg26 : ¬ (okW w)
    · exact nos (itn zh5 zg26)
    have zg26 := Decidable.not_not.mp zg26
    have zh5 := itp zh5 zg26
    by_cases zc25 : w = 0
    · have zh5 := itp zh5 zc25
      suffices e : Ev (d + 7, 0, 0, 250, 43, [.val (.ref 384), .val (.ref 128), .val (.int p2), .val (.ref w)], [], (126, 120, L, [Y, T, HA, HB, RV, RU, ST, NS, I0, I1, I2, BO, FI, RG, GU, PU, MA, MN, MS, OT, SC], [r0, r1, r2, r3, w, r5, r6, r7, r8], Lg)) o from ev_gt (c := w = 0) _ _ 5 zg26 zc25 e (fun n => Eq.refl _)
      exact ev_b 0 (zj6  (Option.some.inj zh5).symm ) (fun n => Eq.refl _)
    · have zh5 := itn zh5 zc25
      suffices e : Ev (d + 7, 0, 0, 250, 17, [.val (.ref 384), .val (.ref 128), .val (.int p2), .val (.ref w)], [], (126, 120, L, [Y, T, HA, HB, RV, RU, ST, NS, I0, I1, I2, BO, FI, RG, GU, PU, MA, MN, MS, OT, SC], [r0, r1, r2, r3, w, r5, r6, r7, r8], Lg)) o from ev_gf (c := w = 0) _ _ 5 zg26 zc25 e (fun n => Eq.refl _)
      by_cases zg27 : ¬ (isW w)
      · exact nos (itn zh5 zg27)
      have zg27 := Decidable.not_not.mp zg27
      have zh5 := itp zh5 zg27
      suffices e : Ev (d + 7, 0, 0, 250, 18, [.val (.ref 384), .val (.ref 128), .val (.int p2), .val (.ref w)], [.ref w], (126, 120, L, [Y, T, HA, HB, RV, RU, ST, NS, I0, I1, I2, BO, FI, RG, GU, PU, MA, MN, MS, OT, SC], [r0, r1, r2, r3, w, r5, r6, r7, r8], Lg)) o from ev_b 1 e (fun n => Eq.refl _)
      refine r_cgetf (q := 0) rfl (cW zg27).1 (cW zg27).2.1 rfl (cW zg27).2.2.2.1 ?_
      by_cases zc28 : (w_slot w) = (-1)
      · have zh5 := itp zh5 zc28
        suffices e : Ev (d + 7, 0, 0, 250, 43, [.val (.ref 384), .val (.ref 128), .val (.int p2), .val (.ref w)], [], (126, 120, L, [Y, T, HA, HB, RV, RU, ST, NS, I0, I1, I2, BO, FI, RG, GU, PU, MA, MN, MS, OT, SC], [r0, r1, r2, r3, w, r5, r6, r7, r8], Lg)) o from ev_t (c := (w_slot w) = (-1)) _ _ 2  zc28 e (fun n => Eq.refl _)
        exact ev_b 0 (zj6  (Option.some.inj zh5).symm ) (fun n => Eq.refl _)
      · have zh5 := itn zh5 zc28
        suffices e : Ev (d + 7, 0, 0, 250, 25, [.val (.ref 384), .val (.ref 128), .val (.int p2), .val (.ref w)], [], (126, 120, L, [Y, T, HA, HB, RV, RU, ST, NS, I0, I1, I2, BO, FI, RG, GU, PU, MA, MN, MS, OT, SC], [r0, r1, r2, r3, w, r5, r6, r7, r8], Lg)) o from ev_f (c := (w_slot w) = (-1)) _ _ 2  zc28 e (fun n => Eq.refl _)
        by_cases zg29 : ¬ (isW w)
        · exact nos (itn zh5 zg29)
        have zg29 := Decidable.not_not.mp zg29
        have zh5 := itp zh5 zg29
        suffices e : Ev (d + 7, 0, 0, 250, 29, [.val (.ref 384), .val (.ref 128), .val (.int p2), .val (.ref w)], [.ref w, .int 100, .ref 384], (126, 120, L, [Y, T, HA, HB, RV, RU, ST, NS, I0, I1, I2, BO, FI, RG, GU, PU, MA, MN, MS, OT, SC], [r0, r1, r2, r3, w, r5, r6, r7, r8], Lg)) o from ev_b 3 e (fun n => Eq.refl _)
        refine r_cgetf (q := 0) rfl (cW zg29).1 (cW zg29).2.1 rfl (cW zg29).2.2.2.1 ?_
        obtain ⟨RU_2, zh30, zh5⟩ := bnd zh5
        have zh30 : f_Rule_emit RU (100 + (w_slot w)) = some RU_2 := zh30
        have ze31 := R_f_Rule_emit_0 (d + 6) Y T HA HB RV RU ST NS I0 I1 I2 BO FI RG GU PU MA MN MS OT SC r0 r1 r2 r3 w r5 r6 r7 r8 L Lg (100 + (w_slot w)) zh30
        suffices e : Ev (d + 7, 0, 0, 250, 36, [.val (.ref 384), .val (.ref 128), .val (.int p2), .val (.ref w)], [], (126, 120, L, [Y, T, HA, HB, RV, RU_2, ST, NS, I0, I1, I2, BO, FI, RG, GU, PU, MA, MN, MS, OT, SC], [r0, r1, r2, r3, w, r5, r6, r7, r8], Lg)) o from ev_call (fun v μ => (d + 7, 0, 0, 250, 36, [.val (.ref 384), .val (.ref 128), .val (.int p2), .val (.ref w)], v.toList ++ [], μ)) 2 ze31 e (fun n => Eq.refl _)
        obtain ⟨⟨T_3, w4⟩, zh32, zh5⟩ := bnd zh5
        have zh32 : f_Tape_advance T = some (T_3, w4) := zh32
        have ze33 := R_f_Tape_advance_0 (d + 1) Y T HA HB RV RU_2 ST NS I0 I1 I2 BO FI RG GU PU MA MN MS OT SC r0 r1 r2 r3 w r5 r6 r7 r8 L Lg zh32
        suffices e : Ev (d + 7, 0, 0, 250, 40, [.val (.ref 384), .val (.ref 128), .val (.int p2), .val (.ref w)], [], (126, 120, L, [Y, T_3, HA, HB, RV, RU_2, ST, NS, I0, I1, I2, BO, FI, RG, GU, PU, MA, MN, MS, OT, SC], [r0, r1, r2, r3, w4, r5, r6, r7, r8], Lg)) o from ev_call (fun v μ => (d + 7, 0, 0, 250, 40, [.val (.ref 384), .val (.ref 128), .val (.int p2), .val (.ref w)], v.toList ++ [], μ)) 2 ze33 e (fun n => Eq.refl _)
        have zh34 := sum_r h (Option.some.inj zh5).symm
        have ze35 := Option.some.inj zh34
        subst ze35
        exact ev_rete 2 ho (fun n => Eq.refl _)
  · have h := itn h zc3
    suffices e : Ev (d + 7, 0, 0, 250, 7, [.val (.ref 384), .val (.ref 128), .val (.int p2), .val a_unk], [], (126, 120, L, [Y, T, HA, HB, RV, RU, ST, NS, I0, I1, I2, BO, FI, RG, GU, PU, MA, MN, MS, OT, SC], [r0, r1, r2, r3, w, r5, r6, r7, r8], Lg)) o from ev_f (c := x1 = 0) _ _ 1  zc3 e (fun n => Eq.refl _)
    have ze36 := Option.some.inj h
    subst ze36
    exact ev_rete 1 ho (fun n => Eq.refl _)
set_option maxRecDepth 1000000 in
set_option maxHeartbeats 4000000 in
theorem R_f_Rule_readComparison_B_0 (d : Nat) (rc : (Nat → (Nat → Nat → Int32) → (Nat → Nat → Int32) → Nat → Int32 → Option ((Nat → Nat → Int32) × (Nat → Nat → Int32) × Nat)))
    (zrc0 : ∀ (Y T HA HB RV RU ST NS I0 I1 I2 BO FI RG GU PU MA MN MS OT SC : Nat → Nat → Int32) (r0 r1 r2 r3 w r5 r6 r7 r8 : Nat) (L : Nat) (Lg : Int64) (p2 : Int32) (r : (Nat → Nat → Int32) × (Nat → Nat → Int32) × Nat), rc 0 T RU w p2 = some r → Ev (d + 6, 0, 0, 243, 0, [.val (.ref 384), .val (.ref 128), .val (.int p2), .val a_unk], [], (126, 120, L, [Y, T, HA, HB, RV, RU, ST, NS, I0, I1, I2, BO, FI, RG, GU, PU, MA, MN, MS, OT, SC], [r0, r1, r2, r3, w, r5, r6, r7, r8], Lg)) ((0, none, (126, 120, L, [Y, r.1, HA, HB, RV, r.2.1, ST, NS, I0, I1, I2, BO, FI, RG, GU, PU, MA, MN, MS, OT, SC], [r0, r1, r2, r3, r.2.2, r5, r6, r7, r8], Lg)) : AOut))
    (zrc1 : ∀ (Y T HA HB RV RU ST NS I0 I1 I2 BO FI RG GU PU MA MN MS OT SC : Nat → Nat → Int32) (r0 r1 r2 r3 w r5 r6 r7 r8 : Nat) (L : Nat) (Lg : Int64) (p2 : Int32) (r : (Nat → Nat → Int32) × (Nat → Nat → Int32) × Nat), rc 1 T RU w p2 = some r → Ev (d + 6, 0, 0, 244, 0, [.val (.ref 384), .val (.ref 128), .val (.int p2), .val a_unk], [], (126, 120, L, [Y, T, HA, HB, RV, RU, ST, NS, I0, I1, I2, BO, FI, RG, GU, PU, MA, MN, MS, OT, SC], [r0, r1, r2, r3, w, r5, r6, r7, r8], Lg)) ((0, none, (126, 120, L, [Y, r.1, HA, HB, RV, r.2.1, ST, NS, I0, I1, I2, BO, FI, RG, GU, PU, MA, MN, MS, OT, SC], [r0, r1, r2, r3, r.2.2, r5, r6, r7, r8], Lg)) : AOut))
    (zrc2 : ∀ (Y T HA HB RV RU ST NS I0 I1 I2 BO FI RG GU PU MA MN MS OT SC : Nat → Nat → Int32) (r0 r1 r2 r3 w r5 r6 r7 r8 : Nat) (L : Nat) (Lg : Int64) (p2 : Int32) (r : (Nat → Nat → Int32) × (Nat → Nat → Int32) × Nat), rc 2 T RU w p2 = some r → Ev (d + 6, 0, 0, 245, 0, [.val (.ref 384), .val (.ref 128), .val (.int p2)], [], (126, 120, L, [Y, T, HA, HB, RV, RU, ST, NS, I0, I1, I2, BO, FI, RG, GU, PU, MA, MN, MS, OT, SC], [r0, r1, r2, r3, w, r5, r6, r7, r8], Lg)) ((0, none, (126, 120, L, [Y, r.1, HA, HB, RV, r.2.1, ST, NS, I0, I1, I2, BO, FI, RG, GU, PU, MA, MN, MS, OT, SC], [r0, r1, r2, r3, r.2.2, r5, r6, r7, r8], Lg)) : AOut))
    (zrc3 : ∀ (Y T HA HB RV RU ST NS I0 I1 I2 BO FI RG GU PU MA MN MS OT SC : Nat → Nat → Int32) (r0 r1 r2 r3 w r5 r6 r7 r8 : Nat) (L : Nat) (Lg : Int64) (p2 : Int32) (r : (Nat → Nat → Int32) × (Nat → Nat → Int32) × Nat), rc 3 T RU w p2 = some r → Ev (d + 6, 0, 0, 248, 0, [.val (.ref 384), .val (.ref 128), .val (.int p2), .val a_unk, .val a_unk], [], (126, 120, L, [Y, T, HA, HB, RV, RU, ST, NS, I0, I1, I2, BO, FI, RG, GU, PU, MA, MN, MS, OT, SC], [r0, r1, r2, r3, w, r5, r6, r7, r8], Lg)) ((0, none, (126, 120, L, [Y, r.1, HA, HB, RV, r.2.1, ST, NS, I0, I1, I2, BO, FI, RG, GU, PU, MA, MN, MS, OT, SC], [r0, r1, r2, r3, r.2.2, r5, r6, r7, r8], Lg)) : AOut))
    (zrc4 : ∀ (Y T HA HB RV RU ST NS I0 I1 I2 BO FI RG GU PU MA MN MS OT SC : Nat → Nat → Int32) (r0 r1 r2 r3 w r5 r6 r7 r8 : Nat) (L : Nat) (Lg : Int64) (p2 : Int32) (r : (Nat → Nat → Int32) × (Nat → Nat → Int32) × Nat), rc 4 T RU w p2 = some r → Ev (d + 6, 0, 0, 249, 0, [.val (.ref 384), .val (.ref 128), .val (.int p2), .val a_unk], [], (126, 120, L, [Y, T, HA, HB, RV, RU, ST, NS, I0, I1, I2, BO, FI, RG, GU, PU, MA, MN, MS, OT, SC], [r0, r1, r2, r3, w, r5, r6, r7, r8], Lg)) ((0, none, (126, 120, L, [Y, r.1, HA, HB, RV, r.2.1, ST, NS, I0, I1, I2, BO, FI, RG, GU, PU, MA, MN, MS, OT, SC], [r0, r1, r2, r3, r.2.2, r5, r6, r7, r8], Lg)) : AOut))
    (zrc5 : ∀ (Y T HA HB RV RU ST NS I0 I1 I2 BO FI RG GU PU MA MN MS OT SC : Nat → Nat → Int32) (r0 r1 r2 r3 w r5 r6 r7 r8 : Nat) (L : Nat) (Lg : Int64) (p2 : Int32) (r : (Nat → Nat → Int32) × (Nat → Nat → Int32) × Nat), rc 5 T RU w p2 = some r → Ev (d + 6, 0, 0, 250, 0, [.val (.ref 384), .val (.ref 128), .val (.int p2), .val a_unk], [], (126, 120, L, [Y, T, HA, HB, RV, RU, ST, NS, I0, I1, I2, BO, FI, RG, GU, PU, MA, MN, MS, OT, SC], [r0, r1, r2, r3, w, r5, r6, r7, r8], Lg)) ((0, none, (126, 120, L, [Y, r.1, HA, HB, RV, r.2.1, ST, NS, I0, I1, I2, BO, FI, RG, GU, PU, MA, MN, MS, OT, SC], [r0, r1, r2, r3, r.2.2, r5, r6, r7, r8], Lg)) : AOut))
    (zrc6 : ∀ (Y T HA HB RV RU ST NS I0 I1 I2 BO FI RG GU PU MA MN MS OT SC : Nat → Nat → Int32) (r0 r1 r2 r3 w r5 r6 r7 r8 : Nat) (L : Nat) (Lg : Int64) (p2 : Int32) (r : (Nat → Nat → Int32) × (Nat → Nat → Int32) × Nat), rc 6 T RU w p2 = some r → Ev (d + 6, 0, 0, 247, 0, [.val (.ref 384), .val (.ref 128), .val (.int p2), .val a_unk], [], (126, 120, L, [Y, T, HA, HB, RV, RU, ST, NS, I0, I1, I2, BO, FI, RG, GU, PU, MA, MN, MS, OT, SC], [r0, r1, r2, r3, w, r5, r6, r7, r8], Lg)) ((0, none, (126, 120, L, [Y, r.1, HA, HB, RV, r.2.1, ST, NS, I0, I1, I2, BO, FI, RG, GU, PU, MA, MN, MS, OT, SC], [r0, r1, r2, r3, r.2.2, r5, r6, r7, r8], Lg)) : AOut))
    (Y T HA HB RV RU ST NS I0 I1 I2 BO FI RG GU PU MA MN MS OT SC : Nat → Nat → Int32) (r0 r1 r2 r3 w r5 r6 r7 r8 : Nat) (L : Nat) (Lg : Int64) (p2 : Int32) {r : (Nat → Nat → Int32) × (Nat → Nat → Int32) × Nat} (h : f_Rule_readComparison_B rc T RU w p2 = some r) : Ev (d + 7, 0, 0, 247, 0, [.val (.ref 384), .val (.ref 128), .val (.int p2), .val a_unk], [], (126, 120, L, [Y, T, HA, HB, RV, RU, ST, NS, I0, I1, I2, BO, FI, RG, GU, PU, MA, MN, MS, OT, SC], [r0, r1, r2, r3, w, r5, r6, r7, r8], Lg)) ((0, none, (126, 120, L, [Y, r.1, HA, HB, RV, r.2.1, ST, NS, I0, I1, I2, BO, FI, RG, GU, PU, MA, MN, MS, OT, SC], [r0, r1, r2, r3, r.2.2, r5, r6, r7, r8], Lg)) : AOut) := by
  suffices key : ∀ o : AOut, ((0, none, (126, 120, L, [Y, r.1, HA, HB, RV, r.2.1, ST, NS, I0, I1, I2, BO, FI, RG, GU, PU, MA, MN, MS, OT, SC], [r0, r1, r2, r3, r.2.2, r5, r6, r7, r8], Lg)) : AOut) = o → Ev (d + 7, 0, 0, 247, 0, [.val (.ref 384), .val (.ref 128), .val (.int p2), .val a_unk], [], (126, 120, L, [Y, T, HA, HB, RV, RU, ST, NS, I0, I1, I2, BO, FI, RG, GU, PU, MA, MN, MS, OT, SC], [r0, r1, r2, r3, w, r5, r6, r7, r8], Lg)) o from key _ rfl
  intro o ho
  obtain ⟨⟨T_1, RU_2, w3⟩, zh1, h⟩ := bnd h
  have zh1 : rc 3 T RU w p2 = some (T_1, RU_2, w3) := zh1
  have ze2 := zrc3 Y T HA HB RV RU ST NS I0 I1 I2 BO FI RG GU PU MA MN MS OT SC r0 r1 r2 r3 w r5 r6 r7 r8 L Lg p2 _ zh1
  suffices e : Ev (d + 7, 0, 0, 247, 6, [.val (.ref 384), .val (.ref 128), .val (.int p2), .val a_unk], [], (126, 120, L, [Y, T_1, HA, HB, RV, RU_2, ST, NS, I0, I1, I2, BO, FI, RG, GU, PU, MA, MN, MS, OT, SC], [r0, r1, r2, r3, w3, r5, r6, r7, r8], Lg)) o from ev_call (fun v μ => (d + 7, 0, 0, 247, 6, [.val (.ref 384), .val (.ref 128), .val (.int p2), .val a_unk], v.toList ++ [], μ)) 4 ze2 e (fun n => Eq.refl _)
  obtain ⟨x4, zh3, h⟩ := bnd h
  have zh3 : f_Tape_failed T_1 = some x4 := zh3
  have ze4 := R_f_Tape_failed_0 (d + 6) Y T_1 HA HB RV RU_2 ST NS I0 I1 I2 BO FI RG GU PU MA MN MS OT SC r0 r1 r2 r3 w3 r5 r6 r7 r8 L Lg zh3
  suffices e : Ev (d + 7, 0, 0, 247, 10, [.val (.ref 384), .val (.ref 128), .val (.int p2), .val a_unk], [.int x4], (126, 120, L, [Y, T_1, HA, HB, RV, RU_2, ST, NS, I0, I1, I2, BO, FI, RG, GU, PU, MA, MN, MS, OT, SC], [r0, r1, r2, r3, w3, r5, r6, r7, r8], Lg)) o from ev_call (fun v μ => (d + 7, 0, 0, 247, 10, [.val (.ref 384), .val (.ref 128), .val (.int p2), .val a_unk], v.toList ++ [], μ)) 2 ze4 e (fun n => Eq.refl _)
  by_cases zc5 : x4 = 0
  · have h := itp h zc5
    suffices e : Ev (d + 7, 0, 0, 247, 14, [.val (.ref 384), .val (.ref 128), .val (.int p2), .val a_unk], [], (126, 120, L, [Y, T_1, HA, HB, RV, RU_2, ST, NS, I0, I1, I2, BO, FI, RG, GU, PU, MA, MN, MS, OT, SC], [r0, r1, r2, r3, w3, r5, r6, r7, r8], Lg)) o from ev_t (c := x4 = 0) _ _ 1  zc5 e (fun n => Eq.refl _)
    obtain ⟨x5, zh6, h⟩ := bnd h
    have zh6 : f_Tape_atSign T_1 60 = some x5 := zh6
    have ze7 := R_f_Tape_atSign_0 (d + 6) Y T_1 HA HB RV RU_2 ST NS I0 I1 I2 BO FI RG GU PU MA MN MS OT SC r0 r1 r2 r3 w3 r5 r6 r7 r8 L Lg 60 zh6
    suffices e : Ev (d + 7, 0, 0, 247, 20, [.val (.ref 384), .val (.ref 128), .val (.int p2), .val a_unk], [.int x5], (126, 120, L, [Y, T_1, HA, HB, RV, RU_2, ST, NS, I0, I1, I2, BO, FI, RG, GU, PU, MA, MN, MS, OT, SC], [r0, r1, r2, r3, w3, r5, r6, r7, r8], Lg)) o from ev_call (fun v μ => (d + 7, 0, 0, 247, 20, [.val (.ref 384), .val (.ref 128), .val (.int p2), .val a_unk], v.toList ++ [], μ)) 3 ze7 e (fun n => Eq.refl _)
    obtain ⟨zt8, zh9, h⟩ := bnd h
    have zj10 : ∀ (v7 : Int32), v7 = zt8 → Ev (d + 7, 0, 0, 247, 47, [.val (.ref 384), .val (.ref 128), .val (.int p2), .val a_unk], [.int v7], (126, 120, L, [Y, T_1, HA, HB, RV, RU_2, ST, NS, I0, I1, I2, BO, FI, RG, GU, PU, MA, MN, MS, OT, SC], [r0, r1, r2, r3, w3, r5, r6, r7, r8], Lg)) o := by
      intro v7 ze11
      subst ze11
      obtain ⟨zt12, zh13, h⟩ := bnd h
      have zj14 : zt12 = .inl () → Ev (d + 7, 0, 0, 247, 70, [.val (.ref 384), .val (.ref 128), .val (.int p2), .val (.int v7)], [], (126, 120, L, [Y, T_1, HA, HB, RV, RU_2, ST, NS, I0, I1, I2, BO, FI, RG, GU, PU, MA, MN, MS, OT, SC], [r0, r1, r2, r3, w3, r5, r6, r7, r8], Lg)) o := by
        intro ze15
        have h := sum_l h ze15
        obtain ⟨⟨T_10, w11⟩, zh16, h⟩ := bnd h
        have zh16 : f_Tape_advance T_1 = some (T_10, w11) := zh16
        have ze17 := R_f_Tape_advance_0 (d + 1) Y T_1 HA HB RV RU_2 ST NS I0 I1 I2 BO FI RG GU PU MA MN MS OT SC r0 r1 r2 r3 w3 r5 r6 r7 r8 L Lg zh16
        suffices e : Ev (d + 7, 0, 0, 247, 74, [.val (.ref 384), .val (.ref 128), .val (.int p2), .val (.int v7)], [], (126, 120, L, [Y, T_10, HA, HB, RV, RU_2, ST, NS, I0, I1, I2, BO, FI, RG, GU, PU, MA, MN, MS, OT, SC], [r0, r1, r2, r3, w11, r5, r6, r7, r8], Lg)) o from ev_call (fun v μ => (d + 7, 0, 0, 247, 74, [.val (.ref 384), .val (.ref 128), .val (.int p2), .val (.int v7)], v.toList ++ [], μ)) 2 ze17 e (fun n => Eq.refl _)
        obtain ⟨⟨T_12, RU_13, w14⟩, zh18, h⟩ := bnd h
        have zh18 : rc 3 T_10 RU_2 w11 p2 = some (T_12, RU_13, w14) := zh18
        have ze19 := zrc3 Y T_10 HA HB RV RU_2 ST NS I0 I1 I2 BO FI RG GU PU MA MN MS OT SC r0 r1 r2 r3 w11 r5 r6 r7 r8 L Lg p2 _ zh18
        suffices e : Ev (d + 7, 0, 0, 247, 80, [.val (.ref 384), .val (.ref 128), .val (.int p2), .val (.int v7)], [], (126, 120, L, [Y, T_12, HA, HB, RV, RU_13, ST, NS, I0, I1, I2, BO, FI, RG, GU, PU, MA, MN, MS, OT, SC], [r0, r1, r2, r3, w14, r5, r6, r7, r8], Lg)) o from ev_call (fun v μ => (d + 7, 0, 0, 247, 80, [.val (.ref 384), .val (.ref 128), .val (.int p2), .val (.int v7)], v.toList ++ [], μ)) 4 ze19 e (fun n => Eq.refl _)
        obtain ⟨RU_15, zh20, h⟩ := bnd h
        have zh20 : f_Rule_emit RU_13 v7 = some RU_15 := zh20
        have ze21 := R_f_Rule_emit_0 (d + 6) Y T_12 HA HB RV RU_13 ST NS I0 I1 I2 BO FI RG GU PU MA MN MS OT SC r0 r1 r2 r3 w14 r5 r6 r7 r8 L Lg v7 zh20
        suffices e : Ev (d + 7, 0, 0, 247, 85, [.val (.ref 384), .val (.ref 128), .val (.int p2), .val (.int v7)], [], (126, 120, L, [Y, T_12, HA, HB, RV, RU_15, ST, NS, I0, I1, I2, BO, FI, RG, GU, PU, MA, MN, MS, OT, SC], [r0, r1, r2, r3, w14, r5, r6, r7, r8], Lg)) o from ev_call (fun v μ => (d + 7, 0, 0, 247, 85, [.val (.ref 384), .val (.ref 128), .val (.int p2), .val (.int v7)], v.toList ++ [], μ)) 3 ze21 e (fun n => Eq.refl _)
        have ze22 := Option.some.inj h
        subst ze22
        exact ev_rete 1 ho (fun n => Eq.refl _)
      by_cases zc23 : v7 ≠ 205
      · have zh13 := itp zh13 zc23
        suffices e : Ev (d + 7, 0, 0, 247, 70, [.val (.ref 384), .val (.ref 128), .val (.int p2), .val (.int v7)], [], (126, 120, L, [Y, T_1, HA, HB, RV, RU_2, ST, NS, I0, I1, I2, BO, FI, RG, GU, PU, MA, MN, MS, OT, SC], [r0, r1, r2, r3, w3, r5, r6, r7, r8], Lg)) o from ev_t (c := v7 ≠ 205) _ _ 4  zc23 e (fun n => Eq.refl _)
        exact ev_b 0 (zj14  (Option.some.inj zh13).symm ) (fun n => Eq.refl _)
      · have zh13 := itn zh13 zc23
        suffices e : Ev (d + 7, 0, 0, 247, 55, [.val (.ref 384), .val (.ref 128), .val (.int p2), .val (.int v7)], [], (126, 120, L, [Y, T_1, HA, HB, RV, RU_2, ST, NS, I0, I1, I2, BO, FI, RG, GU, PU, MA, MN, MS, OT, SC], [r0, r1, r2, r3, w3, r5, r6, r7, r8], Lg)) o from ev_f (c := v7 ≠ 205) _ _ 4  zc23 e (fun n => Eq.refl _)
        obtain ⟨x8, zh24, zh13⟩ := bnd zh13
        have zh24 : f_Tape_atSign T_1 61 = some x8 := zh24
        have ze25 := R_f_Tape_atSign_0 (d + 6) Y T_1 HA HB RV RU_2 ST NS I0 I1 I2 BO FI RG GU PU MA MN MS OT SC r0 r1 r2 r3 w3 r5 r6 r7 r8 L Lg 61 zh24
        suffices e : Ev (d + 7, 0, 0, 247, 61, [.val (.ref 384), .val (.ref 128), .val (.int p2), .val (.int v7)], [.int x8], (126, 120, L, [Y, T_1, HA, HB, RV, RU_2, ST, NS, I0, I1, I2, BO, FI, RG, GU, PU, MA, MN, MS, OT, SC], [r0, r1, r2, r3, w3, r5, r6, r7, r8], Lg)) o from ev_call (fun v μ => (d + 7, 0, 0, 247, 61, [.val (.ref 384), .val (.ref 128), .val (.int p2), .val (.int v7)], v.toList ++ [], μ)) 3 ze25 e (fun n => Eq.refl _)
        by_cases zc26 : x8 ≠ 0
        · have zh13 := itp zh13 zc26
          suffices e : Ev (d + 7, 0, 0, 247, 70, [.val (.ref 384), .val (.ref 128), .val (.int p2), .val (.int v7)], [], (126, 120, L, [Y, T_1, HA, HB, RV, RU_2, ST, NS, I0, I1, I2, BO, FI, RG, GU, PU, MA, MN, MS, OT, SC], [r0, r1, r2, r3, w3, r5, r6, r7, r8], Lg)) o from ev_t (c := x8 ≠ 0) _ _ 1  zc26 e (fun n => Eq.refl _)
          exact ev_b 0 (zj14  (Option.some.inj zh13).symm ) (fun n => Eq.refl _)
        · have zh13 := itn zh13 zc26
          suffices e : Ev (d + 7, 0, 0, 247, 64, [.val (.ref 384), .val (.ref 128), .val (.int p2), .val (.int v7)], [], (126, 120, L, [Y, T_1, HA, HB, RV, RU_2, ST, NS, I0, I1, I2, BO, FI, RG, GU, PU, MA, MN, MS, OT, SC], [r0, r1, r2, r3, w3, r5, r6, r7, r8], Lg)) o from ev_f (c := x8 ≠ 0) _ _ 1  zc26 e (fun n => Eq.refl _)
          obtain ⟨T_9, zh27, zh13⟩ := bnd zh13
          have zh27 : f_Tape_fail T_1 1 = some T_9 := zh27
          have ze28 := R_f_Tape_fail_0 (d + 6) Y T_1 HA HB RV RU_2 ST NS I0 I1 I2 BO FI RG GU PU MA MN MS OT SC r0 r1 r2 r3 w3 r5 r6 r7 r8 L Lg 1 zh27
          suffices e : Ev (d + 7, 0, 0, 247, 69, [.val (.ref 384), .val (.ref 128), .val (.int p2), .val (.int v7)], [], (126, 120, L, [Y, T_9, HA, HB, RV, RU_2, ST, NS, I0, I1, I2, BO, FI, RG, GU, PU, MA, MN, MS, OT, SC], [r0, r1, r2, r3, w3, r5, r6, r7, r8], Lg)) o from ev_call (fun v μ => (d + 7, 0, 0, 247, 69, [.val (.ref 384), .val (.ref 128), .val (.int p2), .val (.int v7)], v.toList ++ [], μ)) 3 ze28 e (fun n => Eq.refl _)
          have zh29 := sum_r h (Option.some.inj zh13).symm
          have ze30 := Option.some.inj zh29
          subst ze30
          exact ev_rete 1 ho (fun n => Eq.refl _)
    by_cases zc31 : x5 = 0
    · have zh9 := itp zh9 zc31
      suffices e : Ev (d + 7, 0, 0, 247, 29, [.val (.ref 384), .val (.ref 128), .val (.int p2), .val a_unk], [], (126, 120, L, [Y, T_1, HA, HB, RV, RU_2, ST, NS, I0, I1, I2, BO, FI, RG, GU, PU, MA, MN, MS, OT, SC], [r0, r1, r2, r3, w3, r5, r6, r7, r8], Lg)) o from ev_t (c := x5 = 0) _ _ 1  zc31 e (fun n => Eq.refl _)
      obtain ⟨x6, zh32, zh9⟩ := bnd zh9
      have zh32 : f_Tape_atSign T_1 62 = some x6 := zh32
      have ze33 := R_f_Tape_atSign_0 (d + 6) Y T_1 HA HB RV RU_2 ST NS I0 I1 I2 BO FI RG GU PU MA MN MS OT SC r0 r1 r2 r3 w3 r5 r6 r7 r8 L Lg 62 zh32
      suffices e : Ev (d + 7, 0, 0, 247, 35, [.val (.ref 384), .val (.ref 128), .val (.int p2), .val a_unk], [.int x6], (126, 120, L, [Y, T_1, HA, HB, RV, RU_2, ST, NS, I0, I1, I2, BO, FI, RG, GU, PU, MA, MN, MS, OT, SC], [r0, r1, r2, r3, w3, r5, r6, r7, r8], Lg)) o from ev_call (fun v μ => (d + 7, 0, 0, 247, 35, [.val (.ref 384), .val (.ref 128), .val (.int p2), .val a_unk], v.toList ++ [], μ)) 3 ze33 e (fun n => Eq.refl _)
      by_cases zc34 : x6 = 0
      · have zh9 := itp zh9 zc34
        suffices e : Ev (d + 7, 0, 0, 247, 44, [.val (.ref 384), .val (.ref 128), .val (.int p2), .val a_unk], [], (126, 120, L, [Y, T_1, HA, HB, RV, RU_2, ST, NS, I0, I1, I2, BO, FI, RG, GU, PU, MA, MN, MS, OT, SC], [r0, r1, r2, r3, w3, r5, r6, r7, r8], Lg)) o from ev_t (c := x6 = 0) _ _ 1  zc34 e (fun n => Eq.refl _)
        exact ev_b 1 (zj10 205 (Option.some.inj zh9) ) (fun n => Eq.refl _)
      · have zh9 := itn zh9 zc34
        suffices e : Ev (d + 7, 0, 0, 247, 38, [.val (.ref 384), .val (.ref 128), .val (.int p2), .val a_unk], [], (126, 120, L, [Y, T_1, HA, HB, RV, RU_2, ST, NS, I0, I1, I2, BO, FI, RG, GU, PU, MA, MN, MS, OT, SC], [r0, r1, r2, r3, w3, r5, r6, r7, r8], Lg)) o from ev_f (c := x6 = 0) _ _ 1  zc34 e (fun n => Eq.refl _)
        exact ev_b 2 (zj10 204 (Option.some.inj zh9) ) (fun n => Eq.refl _)
    · have zh9 := itn zh9 zc31
      suffices e : Ev (d + 7, 0, 0, 247, 23, [.val (.ref 384), .val (.ref 128), .val (.int p2), .val a_unk], [], (126, 120, L, [Y, T_1, HA, HB, RV, RU_2, ST, NS, I0, I1, I2, BO, FI, RG, GU, PU, MA, MN, MS, OT, SC], [r0, r1, r2, r3, w3, r5, r6, r7, r8], Lg)) o from ev_f (c := x5 = 0) _ _ 1  zc31 e (fun n => Eq.refl _)
      exact ev_b 2 (zj10 203 (Option.some.inj zh9) ) (fun n => Eq.refl _)
  · have h := itn h zc5
    suffices e : Ev (d + 7, 0, 0, 247, 13, [.val (.ref 384), .val (.ref 128), .val (.int p2), .val a_unk], [], (126, 120, L, [Y, T_1, HA, HB, RV, RU_2, ST, NS, I0, I1, I2, BO, FI, RG, GU, PU, MA, MN, MS, OT, SC], [r0, r1, r2, r3, w3, r5, r6, r7, r8], Lg)) o from ev_f (c := x4 = 0) _ _ 1  zc5 e (fun n => Eq.refl _)
    have ze35 := Option.some.inj h
    subst ze35
    exact ev_rete 1 ho (fun n => Eq.refl _)
set_option maxRecDepth 1000000 in
set_option maxHeartbeats 4000000 in
theorem K_grp_cr_0 (n : Nat) : (∀ (d : Nat) (Y T HA HB RV RU ST NS I0 I1 I2 BO FI RG GU PU MA MN MS OT SC : Nat → Nat → Int32) (r0 r1 r2 r3 w r5 r6 r7 r8 : Nat) (L : Nat) (Lg : Int64) (p2 : Int32) (r : (Nat → Nat → Int32) × (Nat → Nat → Int32) × Nat), f_grp_cr n 0 T RU w p2 = some r → Ev (d + (6 + n), 0, 0, 243, 0, [.val (.ref 384), .val (.ref 128), .val (.int p2), .val a_unk], [], (126, 120, L, [Y, T, HA, HB, RV, RU, ST, NS, I0, I1, I2, BO, FI, RG, GU, PU, MA, MN, MS, OT, SC], [r0, r1, r2, r3, w, r5, r6, r7, r8], Lg)) ((0, none, (126, 120, L, [Y, r.1, HA, HB, RV, r.2.1, ST, NS, I0, I1, I2, BO, FI, RG, GU, PU, MA, MN, MS, OT, SC], [r0, r1, r2, r3, r.2.2, r5, r6, r7, r8], Lg)) : AOut)) ∧ (∀ (d : Nat) (Y T HA HB RV RU ST NS I0 I1 I2 BO FI RG GU PU MA MN MS OT SC : Nat → Nat → Int32) (r0 r1 r2 r3 w r5 r6 r7 r8 : Nat) (L : Nat) (Lg : Int64) (p2 : Int32) (r : (Nat → Nat → Int32) × (Nat → Nat → Int32) × Nat), f_grp_cr n 1 T RU w p2 = some r → Ev (d + (6 + n), 0, 0, 244, 0, [.val (.ref 384), .val (.ref 128), .val (.int p2), .val a_unk], [], (126, 120, L, [Y, T, HA, HB, RV, RU, ST, NS, I0, I1, I2, BO, FI, RG, GU, PU, MA, MN, MS, OT, SC], [r0, r1, r2, r3, w, r5, r6, r7, r8], Lg)) ((0, none, (126, 120, L, [Y, r.1, HA, HB, RV, r.2.1, ST, NS, I0, I1, I2, BO, FI, RG, GU, PU, MA, MN, MS, OT, SC], [r0, r1, r2, r3, r.2.2, r5, r6, r7, r8], Lg)) : AOut)) ∧ (∀ (d : Nat) (Y T HA HB RV RU ST NS I0 I1 I2 BO FI RG GU PU MA MN MS OT SC : Nat → Nat → Int32) (r0 r1 r2 r3 w r5 r6 r7 r8 : Nat) (L : Nat) (Lg : Int64) (p2 : Int32) (r : (Nat → Nat → Int32) × (Nat → Nat → Int32) × Nat), f_grp_cr n 2 T RU w p2 = some r → Ev (d + (6 + n), 0, 0, 245, 0, [.val (.ref 384), .val (.ref 128), .val (.int p2)], [], (126, 120, L, [Y, T, HA, HB, RV, RU, ST, NS, I0, I1, I2, BO, FI, RG, GU, PU, MA, MN, MS, OT, SC], [r0, r1, r2, r3, w, r5, r6, r7, r8], Lg)) ((0, none, (126, 120, L, [Y, r.1, HA, HB, RV, r.2.1, ST, NS, I0, I1, I2, BO, FI, RG, GU, PU, MA, MN, MS, OT, SC], [r0, r1, r2, r3, r.2.2, r5, r6, r7, r8], Lg)) : AOut)) ∧ (∀ (d : Nat) (Y T HA HB RV RU ST NS I0 I1 I2 BO FI RG GU PU MA MN MS OT SC : Nat → Nat → Int32) (r0 r1 r2 r3 w r5 r6 r7 r8 : Nat) (L : Nat) (Lg : Int64) (p2 : Int32) (r : (Nat → Nat → Int32) × (Nat → Nat → Int32) × Nat), f_grp_cr n 3 T RU w p2 = some r → Ev (d + (6 + n), 0, 0, 248, 0, [.val (.ref 384), .val (.ref 128), .val (.int p2), .val a_unk, .val a_unk], [], (126, 120, L, [Y, T, HA, HB, RV, RU, ST, NS, I0, I1, I2, BO, FI, RG, GU, PU, MA, MN, MS, OT, SC], [r0, r1, r2, r3, w, r5, r6, r7, r8], Lg)) ((0, none, (126, 120, L, [Y, r.1, HA, HB, RV, r.2.1, ST, NS, I0, I1, I2, BO, FI, RG, GU, PU, MA, MN, MS, OT, SC], [r0, r1, r2, r3, r.2.2, r5, r6, r7, r8], Lg)) : AOut)) ∧ (∀ (d : Nat) (Y T HA HB RV RU ST NS I0 I1 I2 BO FI RG GU PU MA MN MS OT SC : Nat → Nat → Int32) (r0 r1 r2 r3 w r5 r6 r7 r8 : Nat) (L : Nat) (Lg : Int64) (p2 : Int32) (r : (Nat → Nat → Int32) × (Nat → Nat → Int32) × Nat), f_grp_cr n 4 T RU w p2 = some r → Ev (d + (6 + n), 0, 0, 249, 0, [.val (.ref 384), .val (.ref 128), .val (.int p2), .val a_unk], [], (126, 120, L, [Y, T, HA, HB, RV, RU, ST, NS, I0, I1, I2, BO, FI, RG, GU, PU, MA, MN, MS, OT, SC], [r0, r1, r2, r3, w, r5, r6, r7, r8], Lg)) ((0, none, (126, 120, L, [Y, r.1, HA, HB, RV, r.2.1, ST, NS, I0, I1, I2, BO, FI, RG, GU, PU, MA, MN, MS, OT, SC], [r0, r1, r2, r3, r.2.2, r5, r6, r7, r8], Lg)) : AOut)) ∧ (∀ (d : Nat) (Y T HA HB RV RU ST NS I0 I1 I2 BO FI RG GU PU MA MN MS OT SC : Nat → Nat → Int32) (r0 r1 r2 r3 w r5 r6 r7 r8 : Nat) (L : Nat) (Lg : Int64) (p2 : Int32) (r : (Nat → Nat → Int32) × (Nat → Nat → Int32) × Nat), f_grp_cr n 5 T RU w p2 = some r → Ev (d + (6 + n), 0, 0, 250, 0, [.val (.ref 384), .val (.ref 128), .val (.int p2), .val a_unk], [], (126, 120, L, [Y, T, HA, HB, RV, RU, ST, NS, I0, I1, I2, BO, FI, RG, GU, PU, MA, MN, MS, OT, SC], [r0, r1, r2, r3, w, r5, r6, r7, r8], Lg)) ((0, none, (126, 120, L, [Y, r.1, HA, HB, RV, r.2.1, ST, NS, I0, I1, I2, BO, FI, RG, GU, PU, MA, MN, MS, OT, SC], [r0, r1, r2, r3, r.2.2, r5, r6, r7, r8], Lg)) : AOut)) ∧ (∀ (d : Nat) (Y T HA HB RV RU ST NS I0 I1 I2 BO FI RG GU PU MA MN MS OT SC : Nat → Nat → Int32) (r0 r1 r2 r3 w r5 r6 r7 r8 : Nat) (L : Nat) (Lg : Int64) (p2 : Int32) (r : (Nat → Nat → Int32) × (Nat → Nat → Int32) × Nat), f_grp_cr n 6 T RU w p2 = some r → Ev (d + (6 + n), 0, 0, 247, 0, [.val (.ref 384), .val (.ref 128), .val (.int p2), .val a_unk], [], (126, 120, L, [Y, T, HA, HB, RV, RU, ST, NS, I0, I1, I2, BO, FI, RG, GU, PU, MA, MN, MS, OT, SC], [r0, r1, r2, r3, w, r5, r6, r7, r8], Lg)) ((0, none, (126, 120, L, [Y, r.1, HA, HB, RV, r.2.1, ST, NS, I0, I1, I2, BO, FI, RG, GU, PU, MA, MN, MS, OT, SC], [r0, r1, r2, r3, r.2.2, r5, r6, r7, r8], Lg)) : AOut)) := by
  induction n with
  | zero => exact ⟨by intros; contradiction, by intros; contradiction, by intros; contradiction, by intros; contradiction, by intros; contradiction, by intros; contradiction, by intros; contradiction⟩
  | succ n ih =>
    obtain ⟨i0, i1, i2, i3, i4, i5, i6⟩ := ih
    refine ⟨?_, ?_, ?_, ?_, ?_, ?_, ?_⟩
    · intro d Y T HA HB RV RU ST NS I0 I1 I2 BO FI RG GU PU MA MN MS OT SC r0 r1 r2 r3 w r5 r6 r7 r8 L Lg p2 r h
      rw [show d + (6 + (n + 1)) = d + n + 7 by omega]
      have j0 : ∀ (Y T HA HB RV RU ST NS I0 I1 I2 BO FI RG GU PU MA MN MS OT SC : Nat → Nat → Int32) (r0 r1 r2 r3 w r5 r6 r7 r8 : Nat) (L : Nat) (Lg : Int64) (p2 : Int32) (r : (Nat → Nat → Int32) × (Nat → Nat → Int32) × Nat), f_grp_cr n 0 T RU w p2 = some r → Ev (d + n + 6, 0, 0, 243, 0, [.val (.ref 384), .val (.ref 128), .val (.int p2), .val a_unk], [], (126, 120, L, [Y, T, HA, HB, RV, RU, ST, NS, I0, I1, I2, BO, FI, RG, GU, PU, MA, MN, MS, OT, SC], [r0, r1, r2, r3, w, r5, r6, r7, r8], Lg)) ((0, none, (126, 120, L, [Y, r.1, HA, HB, RV, r.2.1, ST, NS, I0, I1, I2, BO, FI, RG, GU, PU, MA, MN, MS, OT, SC], [r0, r1, r2, r3, r.2.2, r5, r6, r7, r8], Lg)) : AOut) := by
        intro Y T HA HB RV RU ST NS I0 I1 I2 BO FI RG GU PU MA MN MS OT SC r0 r1 r2 r3 w r5 r6 r7 r8 L Lg p2 r h
        have e := i0 d Y T HA HB RV RU ST NS I0 I1 I2 BO FI RG GU PU MA MN MS OT SC r0 r1 r2 r3 w r5 r6 r7 r8 L Lg p2 r h
        rw [show d + (6 + n) = d + n + 6 by omega] at e
        exact e
      have j1 : ∀ (Y T HA HB RV RU ST NS I0 I1 I2 BO FI RG GU PU MA MN MS OT SC : Nat → Nat → Int32) (r0 r1 r2 r3 w r5 r6 r7 r8 : Nat) (L : Nat) (Lg : Int64) (p2 : Int32) (r : (Nat → Nat → Int32) × (Nat → Nat → Int32) × Nat), f_grp_cr n 1 T RU w p2 = some r → Ev (d + n + 6, 0, 0, 244, 0, [.val (.ref 384), .val (.ref 128), .val (.int p2), .val a_unk], [], (126, 120, L, [Y, T, HA, HB, RV, RU, ST, NS, I0, I1, I2, BO, FI, RG, GU, PU, MA, MN, MS, OT, SC], [r0, r1, r2, r3, w, r5, r6, r7, r8], Lg)) ((0, none, (126, 120, L, [Y, r.1, HA, HB, RV, r.2.1, ST, NS, I0, I1, I2, BO, FI, RG, GU, PU, MA, MN, MS, OT, SC], [r0, r1, r2, r3, r.2.2, r5, r6, r7, r8], Lg)) : AOut) := by
        intro Y T HA HB RV RU ST NS I0 I1 I2 BO FI RG GU PU MA MN MS OT SC r0 r1 r2 r3 w r5 r6 r7 r8 L Lg p2 r h
        have e := i1 d Y T HA HB RV RU ST NS I0 I1 I2 BO FI RG GU PU MA MN MS OT SC r0 r1 r2 r3 w r5 r6 r7 r8 L Lg p2 r h
        rw [show d + (6 + n) = d + n + 6 by omega] at e
        exact e
      have j2 : ∀ (Y T HA HB RV RU ST NS I0 I1 I2 BO FI RG GU PU MA MN MS OT SC : Nat → Nat → Int32) (r0 r1 r2 r3 w r5 r6 r7 r8 : Nat) (L : Nat) (Lg : Int64) (p2 : Int32) (r : (Nat → Nat → Int32) × (Nat → Nat → Int32) × Nat), f_grp_cr n 2 T RU w p2 = some r → Ev (d + n + 6, 0, 0, 245, 0, [.val (.ref 384), .val (.ref 128), .val (.int p2)], [], (126, 120, L, [Y, T, HA, HB, RV, RU, ST, NS, I0, I1, I2, BO, FI, RG, GU, PU, MA, MN, MS, OT, SC], [r0, r1, r2, r3, w, r5, r6, r7, r8], Lg)) ((0, none, (126, 120, L, [Y, r.1, HA, HB, RV, r.2.1, ST, NS, I0, I1, I2, BO, FI, RG, GU, PU, MA, MN, MS, OT, SC], [r0, r1, r2, r3, r.2.2, r5, r6, r7, r8], Lg)) : AOut) := by
        intro Y T HA HB RV RU ST NS I0 I1 I2 BO FI RG GU PU MA MN MS OT SC r0 r1 r2 r3 w r5 r6 r7 r8 L Lg p2 r h
        have e := i2 d Y T HA HB RV RU ST NS I0 I1 I2 BO FI RG GU PU MA MN MS OT SC r0 r1 r2 r3 w r5 r6 r7 r8 L Lg p2 r h
        rw [show d + (6 + n) = d + n + 6 by omega] at e
        exact e
      have j3 : ∀ (Y T HA HB RV RU ST NS I0 I1 I2 BO FI RG GU PU MA MN MS OT SC : Nat → Nat → Int32) (r0 r1 r2 r3 w r5 r6 r7 r8 : Nat) (L : Nat) (Lg : Int64) (p2 : Int32) (r : (Nat → Nat → Int32) × (Nat → Nat → Int32) × Nat), f_grp_cr n 3 T RU w p2 = some r → Ev (d + n + 6, 0, 0, 248, 0, [.val (.ref 384), .val (.ref 128), .val (.int p2), .val a_unk, .val a_unk], [], (126, 120, L, [Y, T, HA, HB, RV, RU, ST, NS, I0, I1, I2, BO, FI, RG, GU, PU, MA, MN, MS, OT, SC], [r0, r1, r2, r3, w, r5, r6, r7, r8], Lg)) ((0, none, (126, 120, L, [Y, r.1, HA, HB, RV, r.2.1, ST, NS, I0, I1, I2, BO, FI, RG, GU, PU, MA, MN, MS, OT, SC], [r0, r1, r2, r3, r.2.2, r5, r6, r7, r8], Lg)) : AOut) := by
        intro Y T HA HB RV RU ST NS I0 I1 I2 BO FI RG GU PU MA MN MS OT SC r0 r1 r2 r3 w r5 r6 r7 r8 L Lg p2 r h
        have e := i3 d Y T HA HB RV RU ST NS I0 I1 I2 BO FI RG GU PU MA MN MS OT SC r0 r1 r2 r3 w r5 r6 r7 r8 L Lg p2 r h
        rw [show d + (6 + n) = d + n + 6 by omega] at e
        exact e
      have j4 : ∀ (Y T HA HB RV RU ST NS I0 I1 I2 BO FI RG GU PU MA MN MS OT SC : Nat → Nat → Int32) (r0 r1 r2 r3 w r5 r6 r7 r8 : Nat) (L : Nat) (Lg : Int64) (p2 : Int32) (r : (Nat → Nat → Int32) × (Nat → Nat → Int32) × Nat), f_grp_cr n 4 T RU w p2 = some r → Ev (d + n + 6, 0, 0, 249, 0, [.val (.ref 384), .val (.ref 128), .val (.int p2), .val a_unk], [], (126, 120, L, [Y, T, HA, HB, RV, RU, ST, NS, I0, I1, I2, BO, FI, RG, GU, PU, MA, MN, MS, OT, SC], [r0, r1, r2, r3, w, r5, r6, r7, r8], Lg)) ((0, none, (126, 120, L, [Y, r.1, HA, HB, RV, r.2.1, ST, NS, I0, I1, I2, BO, FI, RG, GU, PU, MA, MN, MS, OT, SC], [r0, r1, r2, r3, r.2.2, r5, r6, r7, r8], Lg)) : AOut) := by
        intro Y T HA HB RV RU ST NS I0 I1 I2 BO FI RG GU PU MA MN MS OT SC r0 r1 r2 r3 w r5 r6 r7 r8 L Lg p2 r h
        have e := i4 d Y T HA HB RV RU ST NS I0 I1 I2 BO FI RG GU PU MA MN MS OT SC r0 r1 r2 r3 w r5 r6 r7 r8 L Lg p2 r h
        rw [show d + (6 + n) = d + n + 6 by omega] at e
        exact e
      have j5 : ∀ (Y T HA HB RV RU ST NS I0 I1 I2 BO FI RG GU PU MA MN MS OT SC : Nat → Nat → Int32) (r0 r1 r2 r3 w r5 r6 r7 r8 : Nat) (L : Nat) (Lg : Int64) (p2 : Int32) (r : (Nat → Nat → Int32) × (Nat → Nat → Int32) × Nat), f_grp_cr n 5 T RU w p2 = some r → Ev (d + n + 6, 0, 0, 250, 0, [.val (.ref 384), .val (.ref 128), .val (.int p2), .val a_unk], [], (126, 120, L, [Y, T, HA, HB, RV, RU, ST, NS, I0, I1, I2, BO, FI, RG, GU, PU, MA, MN, MS, OT, SC], [r0, r1, r2, r3, w, r5, r6, r7, r8], Lg)) ((0, none, (126, 120, L, [Y, r.1, HA, HB, RV, r.2.1, ST, NS, I0, I1, I2, BO, FI, RG, GU, PU, MA, MN, MS, OT, SC], [r0, r1, r2, r3, r.2.2, r5, r6, r7, r8], Lg)) : AOut) := by
        intro Y T HA HB RV RU ST NS I0 I1 I2 BO FI RG GU PU MA MN MS OT SC r0 r1 r2 r3 w r5 r6 r7 r8 L Lg p2 r h
        have e := i5 d Y T HA HB RV RU ST NS I0 I1 I2 BO FI RG GU PU MA MN MS OT SC r0 r1 r2 r3 w r5 r6 r7 r8 L Lg p2 r h
        rw [show d + (6 + n) = d + n + 6 by omega] at e
        exact e
      have j6 : ∀ (Y T HA HB RV RU ST NS I0 I1 I2 BO FI RG GU PU MA MN MS OT SC : Nat → Nat → Int32) (r0 r1 r2 r3 w r5 r6 r7 r8 : Nat) (L : Nat) (Lg : Int64) (p2 : Int32) (r : (Nat → Nat → Int32) × (Nat → Nat → Int32) × Nat), f_grp_cr n 6 T RU w p2 = some r → Ev (d + n + 6, 0, 0, 247, 0, [.val (.ref 384), .val (.ref 128), .val (.int p2), .val a_unk], [], (126, 120, L, [Y, T, HA, HB, RV, RU, ST, NS, I0, I1, I2, BO, FI, RG, GU, PU, MA, MN, MS, OT, SC], [r0, r1, r2, r3, w, r5, r6, r7, r8], Lg)) ((0, none, (126, 120, L, [Y, r.1, HA, HB, RV, r.2.1, ST, NS, I0, I1, I2, BO, FI, RG, GU, PU, MA, MN, MS, OT, SC], [r0, r1, r2, r3, r.2.2, r5, r6, r7, r8], Lg)) : AOut) := by
        intro Y T HA HB RV RU ST NS I0 I1 I2 BO FI RG GU PU MA MN MS OT SC r0 r1 r2 r3 w r5 r6 r7 r8 L Lg p2 r h
        have e := i6 d Y T HA HB RV RU ST NS I0 I1 I2 BO FI RG GU PU MA MN MS OT SC r0 r1 r2 r3 w r5 r6 r7 r8 L Lg p2 r h
        rw [show d + (6 + n) = d + n + 6 by omega] at e
        exact e
      exact R_f_Rule_readAny_B_0 (d + n) (f_grp_cr n) j0 j1 j2 j3 j4 j5 j6 Y T HA HB RV RU ST NS I0 I1 I2 BO FI RG GU PU MA MN MS OT SC r0 r1 r2 r3 w r5 r6 r7 r8 L Lg p2 h
    · intro d Y T HA HB RV RU ST NS I0 I1 I2 BO FI RG GU PU MA MN MS OT SC r0 r1 r2 r3 w r5 r6 r7 r8 L Lg p2 r h
      rw [show d + (6 + (n + 1)) = d + n + 7 by omega]
      have j0 : ∀ (Y T HA HB RV RU ST NS I0 I1 I2 BO FI RG GU PU MA MN MS OT SC : Nat → Nat → Int32) (r0 r1 r2 r3 w r5 r6 r7 r8 : Nat) (L : Nat) (Lg : Int64) (p2 : Int32) (r : (Nat → Nat → Int32) × (Nat → Nat → Int32) × Nat), f_grp_cr n 0 T RU w p2 = some r → Ev (d + n + 6, 0, 0, 243, 0, [.val (.ref 384), .val (.ref 128), .val (.int p2), .val a_unk], [], (126, 120, L, [Y, T, HA, HB, RV, RU, ST, NS, I0, I1, I2, BO, FI, RG, GU, PU, MA, MN, MS, OT, SC], [r0, r1, r2, r3, w, r5, r6, r7, r8], Lg)) ((0, none, (126, 120, L, [Y, r.1, HA, HB, RV, r.2.1, ST, NS, I0, I1, I2, BO, FI, RG, GU, PU, MA, MN, MS, OT, SC], [r0, r1, r2, r3, r.2.2, r5, r6, r7, r8], Lg)) : AOut) := by
        intro Y T HA HB RV RU ST NS I0 I1 I2 BO FI RG GU PU MA MN MS OT SC r0 r1 r2 r3 w r5 r6 r7 r8 L Lg p2 r h
        have e := i0 d Y T HA HB RV RU ST NS I0 I1 I2 BO FI RG GU PU MA MN MS OT SC r0 r1 r2 r3 w r5 r6 r7 r8 L Lg p2 r h
        rw [show d + (6 + n) = d + n + 6 by omega] at e
        exact e
      have j1 : ∀ (Y T HA HB RV RU ST NS I0 I1 I2 BO FI RG GU PU MA MN MS OT SC : Nat → Nat → Int32) (r0 r1 r2 r3 w r5 r6 r7 r8 : Nat) (L : Nat) (Lg : Int64) (p2 : Int32) (r : (Nat → Nat → Int32) × (Nat → Nat → Int32) × Nat), f_grp_cr n 1 T RU w p2 = some r → Ev (d + n + 6, 0, 0, 244, 0, [.val (.ref 384), .val (.ref 128), .val (.int p2), .val a_unk], [], (126, 120, L, [Y, T, HA, HB, RV, RU, ST, NS, I0, I1, I2, BO, FI, RG, GU, PU, MA, MN, MS, OT, SC], [r0, r1, r2, r3, w, r5, r6, r7, r8], Lg)) ((0, none, (126, 120, L, [Y, r.1, HA, HB, RV, r.2.1, ST, NS, I0, I1, I2, BO, FI, RG, GU, PU, MA, MN, MS, OT, SC], [r0, r1, r2, r3, r.2.2, r5, r6, r7, r8], Lg)) : AOut) := by
        intro Y T HA HB RV RU ST NS I0 I1 I2 BO FI RG GU PU MA MN MS OT SC r0 r1 r2 r3 w r5 r6 r7 r8 L Lg p2 r h
        have e := i1 d Y T HA HB RV RU ST NS I0 I1 I2 BO FI RG GU PU MA MN MS OT SC r0 r1 r2 r3 w r5 r6 r7 r8 L Lg p2 r h
        rw [show d + (6 + n) = d + n + 6 by omega] at e
        exact e
      have j2 : ∀ (Y T HA HB RV RU ST NS I0 I1 I2 BO FI RG GU PU MA MN MS OT SC : Nat → Nat → Int32) (r0 r1 r2 r3 w r5 r6 r7 r8 : Nat) (L : Nat) (Lg : Int64) (p2 : Int32) (r : (Nat → Nat → Int32) × (Nat → Nat → Int32) × Nat), f_grp_cr n 2 T RU w p2 = some r → Ev (d + n + 6, 0, 0, 245, 0, [.val (.ref 384), .val (.ref 128), .val (.int p2)], [], (126, 120, L, [Y, T, HA, HB, RV, RU, ST, NS, I0, I1, I2, BO, FI, RG, GU, PU, MA, MN, MS, OT, SC], [r0, r1, r2, r3, w, r5, r6, r7, r8], Lg)) ((0, none, (126, 120, L, [Y, r.1, HA, HB, RV, r.2.1, ST, NS, I0, I1, I2, BO, FI, RG, GU, PU, MA, MN, MS, OT, SC], [r0, r1, r2, r3, r.2.2, r5, r6, r7, r8], Lg)) : AOut) := by
        intro Y T HA HB RV RU ST NS I0 I1 I2 BO FI RG GU PU MA MN MS OT SC r0 r1 r2 r3 w r5 r6 r7 r8 L Lg p2 r h
        have e := i2 d Y T HA HB RV RU ST NS I0 I1 I2 BO FI RG GU PU MA MN MS OT SC r0 r1 r2 r3 w r5 r6 r7 r8 L Lg p2 r h
        rw [show d + (6 + n) = d + n + 6 by omega] at e
        exact e
      have j3 : ∀ (Y T HA HB RV RU ST NS I0 I1 I2 BO FI RG GU PU MA MN MS OT SC : Nat → Nat → Int32) (r0 r1 r2 r3 w r5 r6 r7 r8 : Nat) (L : Nat) (Lg : Int64) (p2 : Int32) (r : (Nat → Nat → Int32) × (Nat → Nat → Int32) × Nat), f_grp_cr n 3 T RU w p2 = some r → Ev (d + n + 6, 0, 0, 248, 0, [.val (.ref 384), .val (.ref 128), .val (.int p2), .val a_unk, .val a_unk], [], (126, 120, L, [Y, T, HA, HB, RV, RU, ST, NS, I0, I1, I2, BO, FI, RG, GU, PU, MA, MN, MS, OT, SC], [r0, r1, r2, r3, w, r5, r6, r7, r8], Lg)) ((0, none, (126, 120, L, [Y, r.1, HA, HB, RV, r.2.1, ST, NS, I0, I1, I2, BO, FI, RG, GU, PU, MA, MN, MS, OT, SC], [r0, r1, r2, r3, r.2.2, r5, r6, r7, r8], Lg)) : AOut) := by
        intro Y T HA HB RV RU ST NS I0 I1 I2 BO FI RG GU PU MA MN MS OT SC r0 r1 r2 r3 w r5 r6 r7 r8 L Lg p2 r h
        have e := i3 d Y T HA HB RV RU ST NS I0 I1 I2 BO FI RG GU PU MA MN MS OT SC r0 r1 r2 r3 w r5 r6 r7 r8 L Lg p2 r h
        rw [show d + (6 + n) = d + n + 6 by omega] at e
        exact e
      have j4 : ∀ (Y T HA HB RV RU ST NS I0 I1 I2 BO FI RG GU PU MA MN MS OT SC : Nat → Nat → Int32) (r0 r1 r2 r3 w r5 r6 r7 r8 : Nat) (L : Nat) (Lg : Int64) (p2 : Int32) (r : (Nat → Nat → Int32) × (Nat → Nat → Int32) × Nat), f_grp_cr n 4 T RU w p2 = some r → Ev (d + n + 6, 0, 0, 249, 0, [.val (.ref 384), .val (.ref 128), .val (.int p2), .val a_unk], [], (126, 120, L, [Y, T, HA, HB, RV, RU, ST, NS, I0, I1, I2, BO, FI, RG, GU, PU, MA, MN, MS, OT, SC], [r0, r1, r2, r3, w, r5, r6, r7, r8], Lg)) ((0, none, (126, 120, L, [Y, r.1, HA, HB, RV, r.2.1, ST, NS, I0, I1, I2, BO, FI, RG, GU, PU, MA, MN, MS, OT, SC], [r0, r1, r2, r3, r.2.2, r5, r6, r7, r8], Lg)) : AOut) := by
        intro Y T HA HB RV RU ST NS I0 I1 I2 BO FI RG GU PU MA MN MS OT SC r0 r1 r2 r3 w r5 r6 r7 r8 L Lg p2 r h
        have e := i4 d Y T HA HB RV RU ST NS I0 I1 I2 BO FI RG GU PU MA MN MS OT SC r0 r1 r2 r3 w r5 r6 r7 r8 L Lg p2 r h
        rw [show d + (6 + n) = d + n + 6 by omega] at e
        exact e
      have j5 : ∀ (Y T HA HB RV RU ST NS I0 I1 I2 BO FI RG GU PU MA MN MS OT SC : Nat → Nat → Int32) (r0 r1 r2 r3 w r5 r6 r7 r8 : Nat) (L : Nat) (Lg : Int64) (p2 : Int32) (r : (Nat → Nat → Int32) × (Nat → Nat → Int32) × Nat), f_grp_cr n 5 T RU w p2 = some r → Ev (d + n + 6, 0, 0, 250, 0, [.val (.ref 384), .val (.ref 128), .val (.int p2), .val a_unk], [], (126, 120, L, [Y, T, HA, HB, RV, RU, ST, NS, I0, I1, I2, BO, FI, RG, GU, PU, MA, MN, MS, OT, SC], [r0, r1, r2, r3, w, r5, r6, r7, r8], Lg)) ((0, none, (126, 120, L, [Y, r.1, HA, HB, RV, r.2.1, ST, NS, I0, I1, I2, BO, FI, RG, GU, PU, MA, MN, MS, OT, SC], [r0, r1, r2, r3, r.2.2, r5, r6, r7, r8], Lg)) : AOut) := by
        intro Y T HA HB RV RU ST NS I0 I1 I2 BO FI RG GU PU MA MN MS OT SC r0 r1 r2 r3 w r5 r6 r7 r8 L Lg p2 r h
        have e := i5 d Y T HA HB RV RU ST NS I0 I1 I2 BO FI RG GU PU MA MN MS OT SC r0 r1 r2 r3 w r5 r6 r7 r8 L Lg p2 r h
        rw [show d + (6 + n) = d + n + 6 by omega] at e
        exact e
      have j6 : ∀ (Y T HA HB RV RU ST NS I0 I1 I2 BO FI RG GU PU MA MN MS OT SC : Nat → Nat → Int32) (r0 r1 r2 r3 w r5 r6 r7 r8 : Nat) (L : Nat) (Lg : Int64) (p2 : Int32) (r : (Nat → Nat → Int32) × (Nat → Nat → Int32) × Nat), f_grp_cr n 6 T RU w p2 = some r → Ev (d + n + 6, 0, 0, 247, 0, [.val (.ref 384), .val (.ref 128), .val (.int p2), .val a_unk], [], (126, 120, L, [Y, T, HA, HB, RV, RU, ST, NS, I0, I1, I2, BO, FI, RG, GU, PU, MA, MN, MS, OT, SC], [r0, r1, r2, r3, w, r5, r6, r7, r8], Lg)) ((0, none, (126, 120, L, [Y, r.1, HA, HB, RV, r.2.1, ST, NS, I0, I1, I2, BO, FI, RG, GU, PU, MA, MN, MS, OT, SC], [r0, r1, r2, r3, r.2.2, r5, r6, r7, r8], Lg)) : AOut) := by
        intro Y T HA HB RV RU ST NS I0 I1 I2 BO FI RG GU PU MA MN MS OT SC r0 r1 r2 r3 w r5 r6 r7 r8 L Lg p2 r h
        have e := i6 d Y T HA HB RV RU ST NS I0 I1 I2 BO FI RG GU PU MA MN MS OT SC r0 r1 r2 r3 w r5 r6 r7 r8 L Lg p2 r h
        rw [show d + (6 + n) = d + n + 6 by omega] at e
        exact e
      exact R_f_Rule_readAll_B_0 (d + n) (f_grp_cr n) j0 j1 j2 j3 j4 j5 j6 Y T HA HB RV RU ST NS I0 I1 I2 BO FI RG GU PU MA MN MS OT SC r0 r1 r2 r3 w r5 r6 r7 r8 L Lg p2 h
    · intro d Y T HA HB RV RU ST NS I0 I1 I2 BO FI RG GU PU MA MN MS OT SC r0 r1 r2 r3 w r5 r6 r7 r8 L Lg p2 r h
      rw [show d + (6 + (n + 1)) = d + n + 7 by omega]
      have j0 : ∀ (Y T HA HB RV RU ST NS I0 I1 I2 BO FI RG GU PU MA MN MS OT SC : Nat → Nat → Int32) (r0 r1 r2 r3 w r5 r6 r7 r8 : Nat) (L : Nat) (Lg : Int64) (p2 : Int32) (r : (Nat → Nat → Int32) × (Nat → Nat → Int32) × Nat), f_grp_cr n 0 T RU w p2 = some r → Ev (d + n + 6, 0, 0, 243, 0, [.val (.ref 384), .val (.ref 128), .val (.int p2), .val a_unk], [], (126, 120, L, [Y, T, HA, HB, RV, RU, ST, NS, I0, I1, I2, BO, FI, RG, GU, PU, MA, MN, MS, OT, SC], [r0, r1, r2, r3, w, r5, r6, r7, r8], Lg)) ((0, none, (126, 120, L, [Y, r.1, HA, HB, RV, r.2.1, ST, NS, I0, I1, I2, BO, FI, RG, GU, PU, MA, MN, MS, OT, SC], [r0, r1, r2, r3, r.2.2, r5, r6, r7, r8], Lg)) : AOut) := by
        intro Y T HA HB RV RU ST NS I0 I1 I2 BO FI RG GU PU MA MN MS OT SC r0 r1 r2 r3 w r5 r6 r7 r8 L Lg p2 r h
        have e := i0 d Y T HA HB RV RU ST NS I0 I1 I2 BO FI RG GU PU MA MN MS OT SC r0 r1 r2 r3 w r5 r6 r7 r8 L Lg p2 r h
        rw [show d + (6 + n) = d + n + 6 by omega] at e
        exact e
      have j1 : ∀ (Y T HA HB RV RU ST NS I0 I1 I2 BO FI RG GU PU MA MN MS OT SC : Nat → Nat → Int32) (r0 r1 r2 r3 w r5 r6 r7 r8 : Nat) (L : Nat) (Lg : Int64) (p2 : Int32) (r : (Nat → Nat → Int32) × (Nat → Nat → Int32) × Nat), f_grp_cr n 1 T RU w p2 = some r → Ev (d + n + 6, 0, 0, 244, 0, [.val (.ref 384), .val (.ref 128), .val (.int p2), .val a_unk], [], (126, 120, L, [Y, T, HA, HB, RV, RU, ST, NS, I0, I1, I2, BO, FI, RG, GU, PU, MA, MN, MS, OT, SC], [r0, r1, r2, r3, w, r5, r6, r7, r8], Lg)) ((0, none, (126, 120, L, [Y, r.1, HA, HB, RV, r.2.1, ST, NS, I0, I1, I2, BO, FI, RG, GU, PU, MA, MN, MS, OT, SC], [r0, r1, r2, r3, r.2.2, r5, r6, r7, r8], Lg)) : AOut) := by
        intro Y T HA HB RV RU ST NS I0 I1 I2 BO FI RG GU PU MA MN MS OT SC r0 r1 r2 r3 w r5 r6 r7 r8 L Lg p2 r h
        have e := i1 d Y T HA HB RV RU ST NS I0 I1 I2 BO FI RG GU PU MA MN MS OT SC r0 r1 r2 r3 w r5 r6 r7 r8 L Lg p2 r h
        rw [show d + (6 + n) = d + n + 6 by omega] at e
        exact e
      have j2 : ∀ (Y T HA HB RV RU ST NS I0 I1 I2 BO FI RG GU PU MA MN MS OT SC : Nat → Nat → Int32) (r0 r1 r2 r3 w r5 r6 r7 r8 : Nat) (L : Nat) (Lg : Int64) (p2 : Int32) (r : (Nat → Nat → Int32) × (Nat → Nat → Int32) × Nat), f_grp_cr n 2 T RU w p2 = some r → Ev (d + n + 6, 0, 0, 245, 0, [.val (.ref 384), .val (.ref 128), .val (.int p2)], [], (126, 120, L, [Y, T, HA, HB, RV, RU, ST, NS, I0, I1, I2, BO, FI, RG, GU, PU, MA, MN, MS, OT, SC], [r0, r1, r2, r3, w, r5, r6, r7, r8], Lg)) ((0, none, (126, 120, L, [Y, r.1, HA, HB, RV, r.2.1, ST, NS, I0, I1, I2, BO, FI, RG, GU, PU, MA, MN, MS, OT, SC], [r0, r1, r2, r3, r.2.2, r5, r6, r7, r8], Lg)) : AOut) := by
        intro Y T HA HB RV RU ST NS I0 I1 I2 BO FI RG GU PU MA MN MS OT SC r0 r1 r2 r3 w r5 r6 r7 r8 L Lg p2 r h
        have e := i2 d Y T HA HB RV RU ST NS I0 I1 I2 BO FI RG GU PU MA MN MS OT SC r0 r1 r2 r3 w r5 r6 r7 r8 L Lg p2 r h
        rw [show d + (6 + n) = d + n + 6 by omega] at e
        exact e
      have j3 : ∀ (Y T HA HB RV RU ST NS I0 I1 I2 BO FI RG GU PU MA MN MS OT SC : Nat → Nat → Int32) (r0 r1 r2 r3 w r5 r6 r7 r8 : Nat) (L : Nat) (Lg : Int64) (p2 : Int32) (r : (Nat → Nat → Int32) × (Nat → Nat → Int32) × Nat), f_grp_cr n 3 T RU w p2 = some r → Ev (d + n + 6, 0, 0, 248, 0, [.val (.ref 384), .val (.ref 128), .val (.int p2), .val a_unk, .val a_unk], [], (126, 120, L, [Y, T, HA, HB, RV, RU, ST, NS, I0, I1, I2, BO, FI, RG, GU, PU, MA, MN, MS, OT, SC], [r0, r1, r2, r3, w, r5, r6, r7, r8], Lg)) ((0, none, (126, 120, L, [Y, r.1, HA, HB, RV, r.2.1, ST, NS, I0, I1, I2, BO, FI, RG, GU, PU, MA, MN, MS, OT, SC], [r0, r1, r2, r3, r.2.2, r5, r6, r7, r8], Lg)) : AOut) := by
        intro Y T HA HB RV RU ST NS I0 I1 I2 BO FI RG GU PU MA MN MS OT SC r0 r1 r2 r3 w r5 r6 r7 r8 L Lg p2 r h
        have e := i3 d Y T HA HB RV RU ST NS I0 I1 I2 BO FI RG GU PU MA MN MS OT SC r0 r1 r2 r3 w r5 r6 r7 r8 L Lg p2 r h
        rw [show d + (6 + n) = d + n + 6 by omega] at e
        exact e
      have j4 : ∀ (Y T HA HB RV RU ST NS I0 I1 I2 BO FI RG GU PU MA MN MS OT SC : Nat → Nat → Int32) (r0 r1 r2 r3 w r5 r6 r7 r8 : Nat) (L : Nat) (Lg : Int64) (p2 : Int32) (r : (Nat → Nat → Int32) × (Nat → Nat → Int32) × Nat), f_grp_cr n 4 T RU w p2 = some r → Ev (d + n + 6, 0, 0, 249, 0, [.val (.ref 384), .val (.ref 128), .val (.int p2), .val a_unk], [], (126, 120, L, [Y, T, HA, HB, RV, RU, ST, NS, I0, I1, I2, BO, FI, RG, GU, PU, MA, MN, MS, OT, SC], [r0, r1, r2, r3, w, r5, r6, r7, r8], Lg)) ((0, none, (126, 120, L, [Y, r.1, HA, HB, RV, r.2.1, ST, NS, I0, I1, I2, BO, FI, RG, GU, PU, MA, MN, MS, OT, SC], [r0, r1, r2, r3, r.2.2, r5, r6, r7, r8], Lg)) : AOut) := by
        intro Y T HA HB RV RU ST NS I0 I1 I2 BO FI RG GU PU MA MN MS OT SC r0 r1 r2 r3 w r5 r6 r7 r8 L Lg p2 r h
        have e := i4 d Y T HA HB RV RU ST NS I0 I1 I2 BO FI RG GU PU MA MN MS OT SC r0 r1 r2 r3 w r5 r6 r7 r8 L Lg p2 r h
        rw [show d + (6 + n) = d + n + 6 by omega] at e
        exact e
      have j5 : ∀ (Y T HA HB RV RU ST NS I0 I1 I2 BO FI RG GU PU MA MN MS OT SC : Nat → Nat → Int32) (r0 r1 r2 r3 w r5 r6 r7 r8 : Nat) (L : Nat) (Lg : Int64) (p2 : Int32) (r : (Nat → Nat → Int32) × (Nat → Nat → Int32) × Nat), f_grp_cr n 5 T RU w p2 = some r → Ev (d + n + 6, 0, 0, 250, 0, [.val (.ref 384), .val (.ref 128), .val (.int p2), .val a_unk], [], (126, 120, L, [Y, T, HA, HB, RV, RU, ST, NS, I0, I1, I2, BO, FI, RG, GU, PU, MA, MN, MS, OT, SC], [r0, r1, r2, r3, w, r5, r6, r7, r8], Lg)) ((0, none, (126, 120, L, [Y, r.1, HA, HB, RV, r.2.1, ST, NS, I0, I1, I2, BO, FI, RG, GU, PU, MA, MN, MS, OT, SC], [r0, r1, r2, r3, r.2.2, r5, r6, r7, r8], Lg)) : AOut) := by
        intro Y T HA HB RV RU ST NS I0 I1 I2 BO FI RG GU PU MA MN MS OT SC r0 r1 r2 r3 w r5 r6 r7 r8 L Lg p2 r h
        have e := i5 d Y T HA HB RV RU ST NS I0 I1 I2 BO FI RG GU PU MA MN MS OT SC r0 r1 r2 r3 w r5 r6 r7 r8 L Lg p2 r h
        rw [show d + (6 + n) = d + n + 6 by omega] at e
        exact e
      have j6 : ∀ (Y T HA HB RV RU ST NS I0 I1 I2 BO FI RG GU PU MA MN MS OT SC : Nat → Nat → Int32) (r0 r1 r2 r3 w r5 r6 r7 r8 : Nat) (L : Nat) (Lg : Int64) (p2 : Int32) (r : (Nat → Nat → Int32) × (Nat → Nat → Int32) × Nat), f_grp_cr n 6 T RU w p2 = some r → Ev (d + n + 6, 0, 0, 247, 0, [.val (.ref 384), .val (.ref 128), .val (.int p2), .val a_unk], [], (126, 120, L, [Y, T, HA, HB, RV, RU, ST, NS, I0, I1, I2, BO, FI, RG, GU, PU, MA, MN, MS, OT, SC], [r0, r1, r2, r3, w, r5, r6, r7, r8], Lg)) ((0, none, (126, 120, L, [Y, r.1, HA, HB, RV, r.2.1, ST, NS, I0, I1, I2, BO, FI, RG, GU, PU, MA, MN, MS, OT, SC], [r0, r1, r2, r3, r.2.2, r5, r6, r7, r8], Lg)) : AOut) := by
        intro Y T HA HB RV RU ST NS I0 I1 I2 BO FI RG GU PU MA MN MS OT SC r0 r1 r2 r3 w r5 r6 r7 r8 L Lg p2 r h
        have e := i6 d Y T HA HB RV RU ST NS I0 I1 I2 BO FI RG GU PU MA MN MS OT SC r0 r1 r2 r3 w r5 r6 r7 r8 L Lg p2 r h
        rw [show d + (6 + n) = d + n + 6 by omega] at e
        exact e
      exact R_f_Rule_readOne_B_0 (d + n) (f_grp_cr n) j0 j1 j2 j3 j4 j5 j6 Y T HA HB RV RU ST NS I0 I1 I2 BO FI RG GU PU MA MN MS OT SC r0 r1 r2 r3 w r5 r6 r7 r8 L Lg p2 h
    · intro d Y T HA HB RV RU ST NS I0 I1 I2 BO FI RG GU PU MA MN MS OT SC r0 r1 r2 r3 w r5 r6 r7 r8 L Lg p2 r h
      rw [show d + (6 + (n + 1)) = d + n + 7 by omega]
      have j0 : ∀ (Y T HA HB RV RU ST NS I0 I1 I2 BO FI RG GU PU MA MN MS OT SC : Nat → Nat → Int32) (r0 r1 r2 r3 w r5 r6 r7 r8 : Nat) (L : Nat) (Lg : Int64) (p2 : Int32) (r : (Nat → Nat → Int32) × (Nat → Nat → Int32) × Nat), f_grp_cr n 0 T RU w p2 = some r → Ev (d + n + 6, 0, 0, 243, 0, [.val (.ref 384), .val (.ref 128), .val (.int p2), .val a_unk], [], (126, 120, L, [Y, T, HA, HB, RV, RU, ST, NS, I0, I1, I2, BO, FI, RG, GU, PU, MA, MN, MS, OT, SC], [r0, r1, r2, r3, w, r5, r6, r7, r8], Lg)) ((0, none, (126, 120, L, [Y, r.1, HA, HB, RV, r.2.1, ST, NS, I0, I1, I2, BO, FI, RG, GU, PU, MA, MN, MS, OT, SC], [r0, r1, r2, r3, r.2.2, r5, r6, r7, r8], Lg)) : AOut) := by
        intro Y T HA HB RV RU ST NS I0 I1 I2 BO FI RG GU PU MA MN MS OT SC r0 r1 r2 r3 w r5 r6 r7 r8 L Lg p2 r h
        have e := i0 d Y T HA HB RV RU ST NS I0 I1 I2 BO FI RG GU PU MA MN MS OT SC r0 r1 r2 r3 w r5 r6 r7 r8 L Lg p2 r h
        rw [show d + (6 + n) = d + n + 6 by omega] at e
        exact e
      have j1 : ∀ (Y T HA HB RV RU ST NS I0 I1 I2 BO FI RG GU PU MA MN MS OT SC : Nat → Nat → Int32) (r0 r1 r2 r3 w r5 r6 r7 r8 : Nat) (L : Nat) (Lg : Int64) (p2 : Int32) (r : (Nat → Nat → Int32) × (Nat → Nat → Int32) × Nat), f_grp_cr n 1 T RU w p2 = some r → Ev (d + n + 6, 0, 0, 244, 0, [.val (.ref 384), .val (.ref 128), .val (.int p2), .val a_unk], [], (126, 120, L, [Y, T, HA, HB, RV, RU, ST, NS, I0, I1, I2, BO, FI, RG, GU, PU, MA, MN, MS, OT, SC], [r0, r1, r2, r3, w, r5, r6, r7, r8], Lg)) ((0, none, (126, 120, L, [Y, r.1, HA, HB, RV, r.2.1, ST, NS, I0, I1, I2, BO, FI, RG, GU, PU, MA, MN, MS, OT, SC], [r0, r1, r2, r3, r.2.2, r5, r6, r7, r8], Lg)) : AOut) := by
        intro Y T HA HB RV RU ST NS I0 I1 I2 BO FI RG GU PU MA MN MS OT SC r0 r1 r2 r3 w r5 r6 r7 r8 L Lg p2 r h
        have e := i1 d Y T HA HB RV RU ST NS I0 I1 I2 BO FI RG GU PU MA MN MS OT SC r0 r1 r2 r3 w r5 r6 r7 r8 L Lg p2 r h
        rw [show d + (6 + n) = d + n + 6 by omega] at e
        exact e
      have j2 : ∀ (Y T HA HB RV RU ST NS I0 I1 I2 BO FI RG GU PU MA MN MS OT SC : Nat → Nat → Int32) (r0 r1 r2 r3 w r5 r6 r7 r8 : Nat) (L : Nat) (Lg : Int64) (p2 : Int32) (r : (Nat → Nat → Int32) × (Nat → Nat → Int32) × Nat), f_grp_cr n 2 T RU w p2 = some r → Ev (d + n + 6, 0, 0, 245, 0, [.val (.ref 384), .val (.ref 128), .val (.int p2)], [], (126, 120, L, [Y, T, HA, HB, RV, RU, ST, NS, I0, I1, I2, BO, FI, RG, GU, PU, MA, MN, MS, OT, SC], [r0, r1, r2, r3, w, r5, r6, r7, r8], Lg)) ((0, none, (126, 120, L, [Y, r.1, HA, HB, RV, r.2.1, ST, NS, I0, I1, I2, BO, FI, RG, GU, PU, MA, MN, MS, OT, SC], [r0, r1, r2, r3, r.2.2, r5, r6, r7, r8], Lg)) : AOut) := by
        intro Y T HA HB RV RU ST NS I0 I1 I2 BO FI RG GU PU MA MN MS OT SC r0 r1 r2 r3 w r5 r6 r7 r8 L Lg p2 r h
        have e := i2 d Y T HA HB RV RU ST NS I0 I1 I2 BO FI RG GU PU MA MN MS OT SC r0 r1 r2 r3 w r5 r6 r7 r8 L Lg p2 r h
        rw [show d + (6 + n) = d + n + 6 by omega] at e
        exact e
      have j3 : ∀ (Y T HA HB RV RU ST NS I0 I1 I2 BO FI RG GU PU MA MN MS OT SC : Nat → Nat → Int32) (r0 r1 r2 r3 w r5 r6 r7 r8 : Nat) (L : Nat) (Lg : Int64) (p2 : Int32) (r : (Nat → Nat → Int32) × (Nat → Nat → Int32) × Nat), f_grp_cr n 3 T RU w p2 = some r → Ev (d + n + 6, 0, 0, 248, 0, [.val (.ref 384), .val (.ref 128), .val (.int p2), .val a_unk, .val a_unk], [], (126, 120, L, [Y, T, HA, HB, RV, RU, ST, NS, I0, I1, I2, BO, FI, RG, GU, PU, MA, MN, MS, OT, SC], [r0, r1, r2, r3, w, r5, r6, r7, r8], Lg)) ((0, none, (126, 120, L, [Y, r.1, HA, HB, RV, r.2.1, ST, NS, I0, I1, I2, BO, FI, RG, GU, PU, MA, MN, MS, OT, SC], [r0, r1, r2, r3, r.2.2, r5, r6, r7, r8], Lg)) : AOut) := by
        intro Y T HA HB RV RU ST NS I0 I1 I2 BO FI RG GU PU MA MN MS OT SC r0 r1 r2 r3 w r5 r6 r7 r8 L Lg p2 r h
        have e := i3 d Y T HA HB RV RU ST NS I0 I1 I2 BO FI RG GU PU MA MN MS OT SC r0 r1 r2 r3 w r5 r6 r7 r8 L Lg p2 r h
        rw [show d + (6 + n) = d + n + 6 by omega] at e
        exact e
      have j4 : ∀ (Y T HA HB RV RU ST NS I0 I1 I2 BO FI RG GU PU MA MN MS OT SC : Nat → Nat → Int32) (r0 r1 r2 r3 w r5 r6 r7 r8 : Nat) (L : Nat) (Lg : Int64) (p2 : Int32) (r : (Nat → Nat → Int32) × (Nat → Nat → Int32) × Nat), f_grp_cr n 4 T RU w p2 = some r → Ev (d + n + 6, 0, 0, 249, 0, [.val (.ref 384), .val (.ref 128), .val (.int p2), .val a_unk], [], (126, 120, L, [Y, T, HA, HB, RV, RU, ST, NS, I0, I1, I2, BO, FI, RG, GU, PU, MA, MN, MS, OT, SC], [r0, r1, r2, r3, w, r5, r6, r7, r8], Lg)) ((0, none, (126, 120, L, [Y, r.1, HA, HB, RV, r.2.1, ST, NS, I0, I1, I2, BO, FI, RG, GU, PU, MA, MN, MS, OT, SC], [r0, r1, r2, r3, r.2.2, r5, r6, r7, r8], Lg)) : AOut) := by
        intro Y T HA HB RV RU ST NS I0 I1 I2 BO FI RG GU PU MA MN MS OT SC r0 r1 r2 r3 w r5 r6 r7 r8 L Lg p2 r h
        have e := i4 d Y T HA HB RV RU ST NS I0 I1 I2 BO FI RG GU PU MA MN MS OT SC r0 r1 r2 r3 w r5 r6 r7 r8 L Lg p2 r h
        rw [show d + (6 + n) = d + n + 6 by omega] at e
        exact e
      have j5 : ∀ (Y T HA HB RV RU ST NS I0 I1 I2 BO FI RG GU PU MA MN MS OT SC : Nat → Nat → Int32) (r0 r1 r2 r3 w r5 r6 r7 r8 : Nat) (L : Nat) (Lg : Int64) (p2 : Int32) (r : (Nat → Nat → Int32) × (Nat → Nat → Int32) × Nat), f_grp_cr n 5 T RU w p2 = some r → Ev (d + n + 6, 0, 0, 250, 0, [.val (.ref 384), .val (.ref 128), .val (.int p2), .val a_unk], [], (126, 120, L, [Y, T, HA, HB, RV, RU, ST, NS, I0, I1, I2, BO, FI, RG, GU, PU, MA, MN, MS, OT, SC], [r0, r1, r2, r3, w, r5, r6, r7, r8], Lg)) ((0, none, (126, 120, L, [Y, r.1, HA, HB, RV, r.2.1, ST, NS, I0, I1, I2, BO, FI, RG, GU, PU, MA, MN, MS, OT, SC], [r0, r1, r2, r3, r.2.2, r5, r6, r7, r8], Lg)) : AOut) := by
        intro Y T HA HB RV RU ST NS I0 I1 I2 BO FI RG GU PU MA MN MS OT SC r0 r1 r2 r3 w r5 r6 r7 r8 L Lg p2 r h
        have e := i5 d Y T HA HB RV RU ST NS I0 I1 I2 BO FI RG GU PU MA MN MS OT SC r0 r1 r2 r3 w r5 r6 r7 r8 L Lg p2 r h
        rw [show d + (6 + n) = d + n + 6 by omega] at e
        exact e
      have j6 : ∀ (Y T HA HB RV RU ST NS I0 I1 I2 BO FI RG GU PU MA MN MS OT SC : Nat → Nat → Int32) (r0 r1 r2 r3 w r5 r6 r7 r8 : Nat) (L : Nat) (Lg : Int64) (p2 : Int32) (r : (Nat → Nat → Int32) × (Nat → Nat → Int32) × Nat), f_grp_cr n 6 T RU w p2 = some r → Ev (d + n + 6, 0, 0, 247, 0, [.val (.ref 384), .val (.ref 128), .val (.int p2), .val a_unk], [], (126, 120, L, [Y, T, HA, HB, RV, RU, ST, NS, I0, I1, I2, BO, FI, RG, GU, PU, MA, MN, MS, OT, SC], [r0, r1, r2, r3, w, r5, r6, r7, r8], Lg)) ((0, none, (126, 120, L, [Y, r.1, HA, HB, RV, r.2.1, ST, NS, I0, I1, I2, BO, FI, RG, GU, PU, MA, MN, MS, OT, SC], [r0, r1, r2, r3, r.2.2, r5, r6, r7, r8], Lg)) : AOut) := by
        intro Y T HA HB RV RU ST NS I0 I1 I2 BO FI RG GU PU MA MN MS OT SC r0 r1 r2 r3 w r5 r6 r7 r8 L Lg p2 r h
        have e := i6 d Y T HA HB RV RU ST NS I0 I1 I2 BO FI RG GU PU MA MN MS OT SC r0 r1 r2 r3 w r5 r6 r7 r8 L Lg p2 r h
        rw [show d + (6 + n) = d + n + 6 by omega] at e
        exact e
      exact R_f_Rule_readSum_B_0 (d + n) (f_grp_cr n) j0 j1 j2 j3 j4 j5 j6 Y T HA HB RV RU ST NS I0 I1 I2 BO FI RG GU PU MA MN MS OT SC r0 r1 r2 r3 w r5 r6 r7 r8 L Lg p2 h
    · intro d Y T HA HB RV RU ST NS I0 I1 I2 BO FI RG GU PU MA MN MS OT SC r0 r1 r2 r3 w r5 r6 r7 r8 L Lg p2 r h
      rw [show d + (6 + (n + 1)) = d + n + 7 by omega]
      have j0 : ∀ (Y T HA HB RV RU ST NS I0 I1 I2 BO FI RG GU PU MA MN MS OT SC : Nat → Nat → Int32) (r0 r1 r2 r3 w r5 r6 r7 r8 : Nat) (L : Nat) (Lg : Int64) (p2 : Int32) (r : (Nat → Nat → Int32) × (Nat → Nat → Int32) × Nat), f_grp_cr n 0 T RU w p2 = some r → Ev (d + n + 6, 0, 0, 243, 0, [.val (.ref 384), .val (.ref 128), .val (.int p2), .val a_unk], [], (126, 120, L, [Y, T, HA, HB, RV, RU, ST, NS, I0, I1, I2, BO, FI, RG, GU, PU, MA, MN, MS, OT, SC], [r0, r1, r2, r3, w, r5, r6, r7, r8], Lg)) ((0, none, (126, 120, L, [Y, r.1, HA, HB, RV, r.2.1, ST, NS, I0, I1, I2, BO, FI, RG, GU, PU, MA, MN, MS, OT, SC], [r0, r1, r2, r3, r.2.2, r5, r6, r7, r8], Lg)) : AOut) := by
        intro Y T HA HB RV RU ST NS I0 I1 I2 BO FI RG GU PU MA MN MS OT SC r0 r1 r2 r3 w r5 r6 r7 r8 L Lg p2 r h
        have e := i0 d Y T HA HB RV RU ST NS I0 I1 I2 BO FI RG GU PU MA MN MS OT SC r0 r1 r2 r3 w r5 r6 r7 r8 L Lg p2 r h
        rw [show d + (6 + n) = d + n + 6 by omega] at e
        exact e
      have j1 : ∀ (Y T HA HB RV RU ST NS I0 I1 I2 BO FI RG GU PU MA MN MS OT SC : Nat → Nat → Int32) (r0 r1 r2 r3 w r5 r6 r7 r8 : Nat) (L : Nat) (Lg : Int64) (p2 : Int32) (r : (Nat → Nat → Int32) × (Nat → Nat → Int32) × Nat), f_grp_cr n 1 T RU w p2 = some r → Ev (d + n + 6, 0, 0, 244, 0, [.val (.ref 384), .val (.ref 128), .val (.int p2), .val a_unk], [], (126, 120, L, [Y, T, HA, HB, RV, RU, ST, NS, I0, I1, I2, BO, FI, RG, GU, PU, MA, MN, MS, OT, SC], [r0, r1, r2, r3, w, r5, r6, r7, r8], Lg)) ((0, none, (126, 120, L, [Y, r.1, HA, HB, RV, r.2.1, ST, NS, I0, I1, I2, BO, FI, RG, GU, PU, MA, MN, MS, OT, SC], [r0, r1, r2, r3, r.2.2, r5, r6, r7, r8], Lg)) : AOut) := by
        intro Y T HA HB RV RU ST NS I0 I1 I2 BO FI RG GU PU MA MN MS OT SC r0 r1 r2 r3 w r5 r6 r7 r8 L Lg p2 r h
        have e := i1 d Y T HA HB RV RU ST NS I0 I1 I2 BO FI RG GU PU MA MN MS OT SC r0 r1 r2 r3 w r5 r6 r7 r8 L Lg p2 r h
        rw [show d + (6 + n) = d + n + 6 by omega] at e
        exact e
      have j2 : ∀ (Y T HA HB RV RU ST NS I0 I1 I2 BO FI RG GU PU MA MN MS OT SC : Nat → Nat → Int32) (r0 r1 r2 r3 w r5 r6 r7 r8 : Nat) (L : Nat) (Lg : Int64) (p2 : Int32) (r : (Nat → Nat → Int32) × (Nat → Nat → Int32) × Nat), f_grp_cr n 2 T RU w p2 = some r → Ev (d + n + 6, 0, 0, 245, 0, [.val (.ref 384), .val (.ref 128), .val (.int p2)], [], (126, 120, L, [Y, T, HA, HB, RV, RU, ST, NS, I0, I1, I2, BO, FI, RG, GU, PU, MA, MN, MS, OT, SC], [r0, r1, r2, r3, w, r5, r6, r7, r8], Lg)) ((0, none, (126, 120, L, [Y, r.1, HA, HB, RV, r.2.1, ST, NS, I0, I1, I2, BO, FI, RG, GU, PU, MA, MN, MS, OT, SC], [r0, r1, r2, r3, r.2.2, r5, r6, r7, r8], Lg)) : AOut) := by
        intro Y T HA HB RV RU ST NS I0 I1 I2 BO FI RG GU PU MA MN MS OT SC r0 r1 r2 r3 w r5 r6 r7 r8 L Lg p2 r h
        have e := i2 d Y T HA HB RV RU ST NS I0 I1 I2 BO FI RG GU PU MA MN MS OT SC r0 r1 r2 r3 w r5 r6 r7 r8 L Lg p2 r h
        rw [show d + (6 + n) = d + n + 6 by omega] at e
        exact e
      have j3 : ∀ (Y T HA HB RV RU ST NS I0 I1 I2 BO FI RG GU PU MA MN MS OT SC : Nat → Nat → Int32) (r0 r1 r2 r3 w r5 r6 r7 r8 : Nat) (L : Nat) (Lg : Int64) (p2 : Int32) (r : (Nat → Nat → Int32) × (Nat → Nat → Int32) × Nat), f_grp_cr n 3 T RU w p2 = some r → Ev (d + n + 6, 0, 0, 248, 0, [.val (.ref 384), .val (.ref 128), .val (.int p2), .val a_unk, .val a_unk], [], (126, 120, L, [Y, T, HA, HB, RV, RU, ST, NS, I0, I1, I2, BO, FI, RG, GU, PU, MA, MN, MS, OT, SC], [r0, r1, r2, r3, w, r5, r6, r7, r8], Lg)) ((0, none, (126, 120, L, [Y, r.1, HA, HB, RV, r.2.1, ST, NS, I0, I1, I2, BO, FI, RG, GU, PU, MA, MN, MS, OT, SC], [r0, r1, r2, r3, r.2.2, r5, r6, r7, r8], Lg)) : AOut) := by
        intro Y T HA HB RV RU ST NS I0 I1 I2 BO FI RG GU PU MA MN MS OT SC r0 r1 r2 r3 w r5 r6 r7 r8 L Lg p2 r h
        have e := i3 d Y T HA HB RV RU ST NS I0 I1 I2 BO FI RG GU PU MA MN MS OT SC r0 r1 r2 r3 w r5 r6 r7 r8 L Lg p2 r h
        rw [show d + (6 + n) = d + n + 6 by omega] at e
        exact e
      have j4 : ∀ (Y T HA HB RV RU ST NS I0 I1 I2 BO FI RG GU PU MA MN MS OT SC : Nat → Nat → Int32) (r0 r1 r2 r3 w r5 r6 r7 r8 : Nat) (L : Nat) (Lg : Int64) (p2 : Int32) (r : (Nat → Nat → Int32) × (Nat → Nat → Int32) × Nat), f_grp_cr n 4 T RU w p2 = some r → Ev (d + n + 6, 0, 0, 249, 0, [.val (.ref 384), .val (.ref 128), .val (.int p2), .val a_unk], [], (126, 120, L, [Y, T, HA, HB, RV, RU, ST, NS, I0, I1, I2, BO, FI, RG, GU, PU, MA, MN, MS, OT, SC], [r0, r1, r2, r3, w, r5, r6, r7, r8], Lg)) ((0, none, (126, 120, L, [Y, r.1, HA, HB, RV, r.2.1, ST, NS, I0, I1, I2, BO, FI, RG, GU, PU, MA, MN, MS, OT, SC], [r0, r1, r2, r3, r.2.2, r5, r6, r7, r8], Lg)) : AOut) := by
        intro Y T HA HB RV RU ST NS I0 I1 I2 BO FI RG GU PU MA MN MS OT SC r0 r1 r2 r3 w r5 r6 r7 r8 L Lg p2 r h
        have e := i4 d Y T HA HB RV RU ST NS I0 I1 I2 BO FI RG GU PU MA MN MS OT SC r0 r1 r2 r3 w r5 r6 r7 r8 L Lg p2 r h
        rw [show d + (6 + n) = d + n + 6 by omega] at e
        exact e
      have j5 : ∀ (Y T HA HB RV RU ST NS I0 I1 I2 BO FI RG GU PU MA MN MS OT SC : Nat → Nat → Int32) (r0 r1 r2 r3 w r5 r6 r7 r8 : Nat) (L : Nat) (Lg : Int64) (p2 : Int32) (r : (Nat → Nat → Int32) × (Nat → Nat → Int32) × Nat), f_grp_cr n 5 T RU w p2 = some r → Ev (d + n + 6, 0, 0, 250, 0, [.val (.ref 384), .val (.ref 128), .val (.int p2), .val a_unk], [], (126, 120, L, [Y, T, HA, HB, RV, RU, ST, NS, I0, I1, I2, BO, FI, RG, GU, PU, MA, MN, MS, OT, SC], [r0, r1, r2, r3, w, r5, r6, r7, r8], Lg)) ((0, none, (126, 120, L, [Y, r.1, HA, HB, RV, r.2.1, ST, NS, I0, I1, I2, BO, FI, RG, GU, PU, MA, MN, MS, OT, SC], [r0, r1, r2, r3, r.2.2, r5, r6, r7, r8], Lg)) : AOut) := by
        intro Y T HA HB RV RU ST NS I0 I1 I2 BO FI RG GU PU MA MN MS OT SC r0 r1 r2 r3 w r5 r6 r7 r8 L Lg p2 r h
        have e := i5 d Y T HA HB RV RU ST NS I0 I1 I2 BO FI RG GU PU MA MN MS OT SC r0 r1 r2 r3 w r5 r6 r7 r8 L Lg p2 r h
        rw [show d + (6 + n) = d + n + 6 by omega] at e
        exact e
      have j6 : ∀ (Y T HA HB RV RU ST NS I0 I1 I2 BO FI RG GU PU MA MN MS OT SC : Nat → Nat → Int32) (r0 r1 r2 r3 w r5 r6 r7 r8 : Nat) (L : Nat) (Lg : Int64) (p2 : Int32) (r : (Nat → Nat → Int32) × (Nat → Nat → Int32) × Nat), f_grp_cr n 6 T RU w p2 = some r → Ev (d + n + 6, 0, 0, 247, 0, [.val (.ref 384), .val (.ref 128), .val (.int p2), .val a_unk], [], (126, 120, L, [Y, T, HA, HB, RV, RU, ST, NS, I0, I1, I2, BO, FI, RG, GU, PU, MA, MN, MS, OT, SC], [r0, r1, r2, r3, w, r5, r6, r7, r8], Lg)) ((0, none, (126, 120, L, [Y, r.1, HA, HB, RV, r.2.1, ST, NS, I0, I1, I2, BO, FI, RG, GU, PU, MA, MN, MS, OT, SC], [r0, r1, r2, r3, r.2.2, r5, r6, r7, r8], Lg)) : AOut) := by
        intro Y T HA HB RV RU ST NS I0 I1 I2 BO FI RG GU PU MA MN MS OT SC r0 r1 r2 r3 w r5 r6 r7 r8 L Lg p2 r h
        have e := i6 d Y T HA HB RV RU ST NS I0 I1 I2 BO FI RG GU PU MA MN MS OT SC r0 r1 r2 r3 w r5 r6 r7 r8 L Lg p2 r h
        rw [show d + (6 + n) = d + n + 6 by omega] at e
        exact e
      exact R_f_Rule_readProduct_B_0 (d + n) (f_grp_cr n) j0 j1 j2 j3 j4 j5 j6 Y T HA HB RV RU ST NS I0 I1 I2 BO FI RG GU PU MA MN MS OT SC r0 r1 r2 r3 w r5 r6 r7 r8 L Lg p2 h
    · intro d Y T HA HB RV RU ST NS I0 I1 I2 BO FI RG GU PU MA MN MS OT SC r0 r1 r2 r3 w r5 r6 r7 r8 L Lg p2 r h
      rw [show d + (6 + (n + 1)) = d + n + 7 by omega]
      have j0 : ∀ (Y T HA HB RV RU ST NS I0 I1 I2 BO FI RG GU PU MA MN MS OT SC : Nat → Nat → Int32) (r0 r1 r2 r3 w r5 r6 r7 r8 : Nat) (L : Nat) (Lg : Int64) (p2 : Int32) (r : (Nat → Nat → Int32) × (Nat → Nat → Int32) × Nat), f_grp_cr n 0 T RU w p2 = some r → Ev (d + n + 6, 0, 0, 243, 0, [.val (.ref 384), .val (.ref 128), .val (.int p2), .val a_unk], [], (126, 120, L, [Y, T, HA, HB, RV, RU, ST, NS, I0, I1, I2, BO, FI, RG, GU, PU, MA, MN, MS, OT, SC], [r0, r1, r2, r3, w, r5, r6, r7, r8], Lg)) ((0, none, (126, 120, L, [Y, r.1, HA, HB, RV, r.2.1, ST, NS, I0, I1, I2, BO, FI, RG, GU, PU, MA, MN, MS, OT, SC], [r0, r1, r2, r3, r.2.2, r5, r6, r7, r8], Lg)) : AOut) := by
        intro Y T HA HB RV RU ST NS I0 I1 I2 BO FI RG GU PU MA MN MS OT SC r0 r1 r2 r3 w r5 r6 r7 r8 L Lg p2 r h
        have e := i0 d Y T HA HB RV RU ST NS I0 I1 I2 BO FI RG GU PU MA MN MS OT SC r0 r1 r2 r3 w r5 r6 r7 r8 L Lg p2 r h
        rw [show d + (6 + n) = d + n + 6 by omega] at e
        exact e
      have j1 : ∀ (Y T HA HB RV RU ST NS I0 I1 I2 BO FI RG GU PU MA MN MS OT SC : Nat → Nat → Int32) (r0 r1 r2 r3 w r5 r6 r7 r8 : Nat) (L : Nat) (Lg : Int64) (p2 : Int32) (r : (Nat → Nat → Int32) × (Nat → Nat → Int32) × Nat), f_grp_cr n 1 T RU w p2 = some r → Ev (d + n + 6, 0, 0, 244, 0, [.val (.ref 384), .val (.ref 128), .val (.int p2), .val a_unk], [], (126, 120, L, [Y, T, HA, HB, RV, RU, ST, NS, I0, I1, I2, BO, FI, RG, GU, PU, MA, MN, MS, OT, SC], [r0, r1, r2, r3, w, r5, r6, r7, r8], Lg)) ((0, none, (126, 120, L, [Y, r.1, HA, HB, RV, r.2.1, ST, NS, I0, I1, I2, BO, FI, RG, GU, PU, MA, MN, MS, OT, SC], [r0, r1, r2, r3, r.2.2, r5, r6, r7, r8], Lg)) : AOut) := by
        intro Y T HA HB RV RU ST NS I0 I1 I2 BO FI RG GU PU MA MN MS OT SC r0 r1 r2 r3 w r5 r6 r7 r8 L Lg p2 r h
        have e := i1 d Y T HA HB RV RU ST NS I0 I1 I2 BO FI RG GU PU MA MN MS OT SC r0 r1 r2 r3 w r5 r6 r7 r8 L Lg p2 r h
        rw [show d + (6 + n) = d + n + 6 by omega] at e
        exact e
      have j2 : ∀ (Y T HA HB RV RU ST NS I0 I1 I2 BO FI RG GU PU MA MN MS OT SC : Nat → Nat → Int32) (r0 r1 r2 r3 w r5 r6 r7 r8 : Nat) (L : Nat) (Lg : Int64) (p2 : Int32) (r : (Nat → Nat → Int32) × (Nat → Nat → Int32) × Nat), f_grp_cr n 2 T RU w p2 = some r → Ev (d + n + 6, 0, 0, 245, 0, [.val (.ref 384), .val (.ref 128), .val (.int p2)], [], (126, 120, L, [Y, T, HA, HB, RV, RU, ST, NS, I0, I1, I2, BO, FI, RG, GU, PU, MA, MN, MS, OT, SC], [r0, r1, r2, r3, w, r5, r6, r7, r8], Lg)) ((0, none, (126, 120, L, [Y, r.1, HA, HB, RV, r.2.1, ST, NS, I0, I1, I2, BO, FI, RG, GU, PU, MA, MN, MS, OT, SC], [r0, r1, r2, r3, r.2.2, r5, r6, r7, r8], Lg)) : AOut) := by
        intro Y T HA HB RV RU ST NS I0 I1 I2 BO FI RG GU PU MA MN MS OT SC r0 r1 r2 r3 w r5 r6 r7 r8 L Lg p2 r h
        have e := i2 d Y T HA HB RV RU ST NS I0 I1 I2 BO FI RG GU PU MA MN MS OT SC r0 r1 r2 r3 w r5 r6 r7 r8 L Lg p2 r h
        rw [show d + (6 + n) = d + n + 6 by omega] at e
        exact e
      have j3 : ∀ (Y T HA HB RV RU ST NS I0 I1 I2 BO FI RG GU PU MA MN MS OT SC : Nat → Nat → Int32) (r0 r1 r2 r3 w r5 r6 r7 r8 : Nat) (L : Nat) (Lg : Int64) (p2 : Int32) (r : (Nat → Nat → Int32) × (Nat → Nat → Int32) × Nat), f_grp_cr n 3 T RU w p2 = some r → Ev (d + n + 6, 0, 0, 248, 0, [.val (.ref 384), .val (.ref 128), .val (.int p2), .val a_unk, .val a_unk], [], (126, 120, L, [Y, T, HA, HB, RV, RU, ST, NS, I0, I1, I2, BO, FI, RG, GU, PU, MA, MN, MS, OT, SC], [r0, r1, r2, r3, w, r5, r6, r7, r8], Lg)) ((0, none, (126, 120, L, [Y, r.1, HA, HB, RV, r.2.1, ST, NS, I0, I1, I2, BO, FI, RG, GU, PU, MA, MN, MS, OT, SC], [r0, r1, r2, r3, r.2.2, r5, r6, r7, r8], Lg)) : AOut) := by
        intro Y T HA HB RV RU ST NS I0 I1 I2 BO FI RG GU PU MA MN MS OT SC r0 r1 r2 r3 w r5 r6 r7 r8 L Lg p2 r h
        have e := i3 d Y T HA HB RV RU ST NS I0 I1 I2 BO FI RG GU PU MA MN MS OT SC r0 r1 r2 r3 w r5 r6 r7 r8 L Lg p2 r h
        rw [show d + (6 + n) = d + n + 6 by omega] at e
        exact e
      have j4 : ∀ (Y T HA HB RV RU ST NS I0 I1 I2 BO FI RG GU PU MA MN MS OT SC : Nat → Nat → Int32) (r0 r1 r2 r3 w r5 r6 r7 r8 : Nat) (L : Nat) (Lg : Int64) (p2 : Int32) (r : (Nat → Nat → Int32) × (Nat → Nat → Int32) × Nat), f_grp_cr n 4 T RU w p2 = some r → Ev (d + n + 6, 0, 0, 249, 0, [.val (.ref 384), .val (.ref 128), .val (.int p2), .val a_unk], [], (126, 120, L, [Y, T, HA, HB, RV, RU, ST, NS, I0, I1, I2, BO, FI, RG, GU, PU, MA, MN, MS, OT, SC], [r0, r1, r2, r3, w, r5, r6, r7, r8], Lg)) ((0, none, (126, 120, L, [Y, r.1, HA, HB, RV, r.2.1, ST, NS, I0, I1, I2, BO, FI, RG, GU, PU, MA, MN, MS, OT, SC], [r0, r1, r2, r3, r.2.2, r5, r6, r7, r8], Lg)) : AOut) := by
        intro Y T HA HB RV RU ST NS I0 I1 I2 BO FI RG GU PU MA MN MS OT SC r0 r1 r2 r3 w r5 r6 r7 r8 L Lg p2 r h
        have e := i4 d Y T HA HB RV RU ST NS I0 I1 I2 BO FI RG GU PU MA MN MS OT SC r0 r1 r2 r3 w r5 r6 r7 r8 L Lg p2 r h
        rw [show d + (6 + n) = d + n + 6 by omega] at e
        exact e
      have j5 : ∀ (Y T HA HB RV RU ST NS I0 I1 I2 BO FI RG GU PU MA MN MS OT SC : Nat → Nat → Int32) (r0 r1 r2 r3 w r5 r6 r7 r8 : Nat) (L : Nat) (Lg : Int64) (p2 : Int32) (r : (Nat → Nat → Int32) × (Nat → Nat → Int32) × Nat), f_grp_cr n 5 T RU w p2 = some r → Ev (d + n + 6, 0, 0, 250, 0, [.val (.ref 384), .val (.ref 128), .val (.int p2), .val a_unk], [], (126, 120, L, [Y, T, HA, HB, RV, RU, ST, NS, I0, I1, I2, BO, FI, RG, GU, PU, MA, MN, MS, OT, SC], [r0, r1, r2, r3, w, r5, r6, r7, r8], Lg)) ((0, none, (126, 120, L, [Y, r.1, HA, HB, RV, r.2.1, ST, NS, I0, I1, I2, BO, FI, RG, GU, PU, MA, MN, MS, OT, SC], [r0, r1, r2, r3, r.2.2, r5, r6, r7, r8], Lg)) : AOut) := by
        intro Y T HA HB RV RU ST NS I0 I1 I2 BO FI RG GU PU MA MN MS OT SC r0 r1 r2 r3 w r5 r6 r7 r8 L Lg p2 r h
        have e := i5 d Y T HA HB RV RU ST NS I0 I1 I2 BO FI RG GU PU MA MN MS OT SC r0 r1 r2 r3 w r5 r6 r7 r8 L Lg p2 r h
        rw [show d + (6 + n) = d + n + 6 by omega] at e
        exact e
      have j6 : ∀ (Y T HA HB RV RU ST NS I0 I1 I2 BO FI RG GU PU MA MN MS OT SC : Nat → Nat → Int32) (r0 r1 r2 r3 w r5 r6 r7 r8 : Nat) (L : Nat) (Lg : Int64) (p2 : Int32) (r : (Nat → Nat → Int32) × (Nat → Nat → Int32) × Nat), f_grp_cr n 6 T RU w p2 = some r → Ev (d + n + 6, 0, 0, 247, 0, [.val (.ref 384), .val (.ref 128), .val (.int p2), .val a_unk], [], (126, 120, L, [Y, T, HA, HB, RV, RU, ST, NS, I0, I1, I2, BO, FI, RG, GU, PU, MA, MN, MS, OT, SC], [r0, r1, r2, r3, w, r5, r6, r7, r8], Lg)) ((0, none, (126, 120, L, [Y, r.1, HA, HB, RV, r.2.1, ST, NS, I0, I1, I2, BO, FI, RG, GU, PU, MA, MN, MS, OT, SC], [r0, r1, r2, r3, r.2.2, r5, r6, r7, r8], Lg)) : AOut) := by
        intro Y T HA HB RV RU ST NS I0 I1 I2 BO FI RG GU PU MA MN MS OT SC r0 r1 r2 r3 w r5 r6 r7 r8 L Lg p2 r h
        have e := i6 d Y T HA HB RV RU ST NS I0 I1 I2 BO FI RG GU PU MA MN MS OT SC r0 r1 r2 r3 w r5 r6 r7 r8 L Lg p2 r h
        rw [show d + (6 + n) = d + n + 6 by omega] at e
        exact e
      exact R_f_Rule_readUnit_B_0 (d + n) (f_grp_cr n) j0 j1 j2 j3 j4 j5 j6 Y T HA HB RV RU ST NS I0 I1 I2 BO FI RG GU PU MA MN MS OT SC r0 r1 r2 r3 w r5 r6 r7 r8 L Lg p2 h
    · intro d Y T HA HB RV RU ST NS I0 I1 I2 BO FI RG GU PU MA MN MS OT SC r0 r1 r2 r3 w r5 r6 r7 r8 L Lg p2 r h
      rw [show d + (6 + (n + 1)) = d + n + 7 by omega]
      have j0 : ∀ (Y T HA HB RV RU ST NS I0 I1 I2 BO FI RG GU PU MA MN MS OT SC : Nat → Nat → Int32) (r0 r1 r2 r3 w r5 r6 r7 r8 : Nat) (L : Nat) (Lg : Int64) (p2 : Int32) (r : (Nat → Nat → Int32) × (Nat → Nat → Int32) × Nat), f_grp_cr n 0 T RU w p2 = some r → Ev (d + n + 6, 0, 0, 243, 0, [.val (.ref 384), .val (.ref 128), .val (.int p2), .val a_unk], [], (126, 120, L, [Y, T, HA, HB, RV, RU, ST, NS, I0, I1, I2, BO, FI, RG, GU, PU, MA, MN, MS, OT, SC], [r0, r1, r2, r3, w, r5, r6, r7, r8], Lg)) ((0, none, (126, 120, L, [Y, r.1, HA, HB, RV, r.2.1, ST, NS, I0, I1, I2, BO, FI, RG, GU, PU, MA, MN, MS, OT, SC], [r0, r1, r2, r3, r.2.2, r5, r6, r7, r8], Lg)) : AOut) := by
        intro Y T HA HB RV RU ST NS I0 I1 I2 BO FI RG GU PU MA MN MS OT SC r0 r1 r2 r3 w r5 r6 r7 r8 L Lg p2 r h
        have e := i0 d Y T HA HB RV RU ST NS I0 I1 I2 BO FI RG GU PU MA MN MS OT SC r0 r1 r2 r3 w r5 r6 r7 r8 L Lg p2 r h
        rw [show d + (6 + n) = d + n + 6 by omega] at e
        exact e
      have j1 : ∀ (Y T HA HB RV RU ST NS I0 I1 I2 BO FI RG GU PU MA MN MS OT SC : Nat → Nat → Int32) (r0 r1 r2 r3 w r5 r6 r7 r8 : Nat) (L : Nat) (Lg : Int64) (p2 : Int32) (r : (Nat → Nat → Int32) × (Nat → Nat → Int32) × Nat), f_grp_cr n 1 T RU w p2 = some r → Ev (d + n + 6, 0, 0, 244, 0, [.val (.ref 384), .val (.ref 128), .val (.int p2), .val a_unk], [], (126, 120, L, [Y, T, HA, HB, RV, RU, ST, NS, I0, I1, I2, BO, FI, RG, GU, PU, MA, MN, MS, OT, SC], [r0, r1, r2, r3, w, r5, r6, r7, r8], Lg)) ((0, none, (126, 120, L, [Y, r.1, HA, HB, RV, r.2.1, ST, NS, I0, I1, I2, BO, FI, RG, GU, PU, MA, MN, MS, OT, SC], [r0, r1, r2, r3, r.2.2, r5, r6, r7, r8], Lg)) : AOut) := by
        intro Y T HA HB RV RU ST NS I0 I1 I2 BO FI RG GU PU MA MN MS OT SC r0 r1 r2 r3 w r5 r6 r7 r8 L Lg p2 r h
        have e := i1 d Y T HA HB RV RU ST NS I0 I1 I2 BO FI RG GU PU MA MN MS OT SC r0 r1 r2 r3 w r5 r6 r7 r8 L Lg p2 r h
        rw [show d + (6 + n) = d + n + 6 by omega] at e
        exact e
      have j2 : ∀ (Y T HA HB RV RU ST NS I0 I1 I2 BO FI RG GU PU MA MN MS OT SC : Nat → Nat → Int32) (r0 r1 r2 r3 w r5 r6 r7 r8 : Nat) (L : Nat) (Lg : Int64) (p2 : Int32) (r : (Nat → Nat → Int32) × (Nat → Nat → Int32) × Nat), f_grp_cr n 2 T RU w p2 = some r → Ev (d + n + 6, 0, 0, 245, 0, [.val (.ref 384), .val (.ref 128), .val (.int p2)], [], (126, 120, L, [Y, T, HA, HB, RV, RU, ST, NS, I0, I1, I2, BO, FI, RG, GU, PU, MA, MN, MS, OT, SC], [r0, r1, r2, r3, w, r5, r6, r7, r8], Lg)) ((0, none, (126, 120, L, [Y, r.1, HA, HB, RV, r.2.1, ST, NS, I0, I1, I2, BO, FI, RG, GU, PU, MA, MN, MS, OT, SC], [r0, r1, r2, r3, r.2.2, r5, r6, r7, r8], Lg)) : AOut) := by
        intro Y T HA HB RV RU ST NS I0 I1 I2 BO FI RG GU PU MA MN MS OT SC r0 r1 r2 r3 w r5 r6 r7 r8 L Lg p2 r h
        have e := i2 d Y T HA HB RV RU ST NS I0 I1 I2 BO FI RG GU PU MA MN MS OT SC r0 r1 r2 r3 w r5 r6 r7 r8 L Lg p2 r h
        rw [show d + (6 + n) = d + n + 6 by omega] at e
        exact e
      have j3 : ∀ (Y T HA HB RV RU ST NS I0 I1 I2 BO FI RG GU PU MA MN MS OT SC : Nat → Nat → Int32) (r0 r1 r2 r3 w r5 r6 r7 r8 : Nat) (L : Nat) (Lg : Int64) (p2 : Int32) (r : (Nat → Nat → Int32) × (Nat → Nat → Int32) × Nat), f_grp_cr n 3 T RU w p2 = some r → Ev (d + n + 6, 0, 0, 248, 0, [.val (.ref 384), .val (.ref 128), .val (.int p2), .val a_unk, .val a_unk], [], (126, 120, L, [Y, T, HA, HB, RV, RU, ST, NS, I0, I1, I2, BO, FI, RG, GU, PU, MA, MN, MS, OT, SC], [r0, r1, r2, r3, w, r5, r6, r7, r8], Lg)) ((0, none, (126, 120, L, [Y, r.1, HA, HB, RV, r.2.1, ST, NS, I0, I1, I2, BO, FI, RG, GU, PU, MA, MN, MS, OT, SC], [r0, r1, r2, r3, r.2.2, r5, r6, r7, r8], Lg)) : AOut) := by
        intro Y T HA HB RV RU ST NS I0 I1 I2 BO FI RG GU PU MA MN MS OT SC r0 r1 r2 r3 w r5 r6 r7 r8 L Lg p2 r h
        have e := i3 d Y T HA HB RV RU ST NS I0 I1 I2 BO FI RG GU PU MA MN MS OT SC r0 r1 r2 r3 w r5 r6 r7 r8 L Lg p2 r h
        rw [show d + (6 + n) = d + n + 6 by omega] at e
        exact e
      have j4 : ∀ (Y T HA HB RV RU ST NS I0 I1 I2 BO FI RG GU PU MA MN MS OT SC : Nat → Nat → Int32) (r0 r1 r2 r3 w r5 r6 r7 r8 : Nat) (L : Nat) (Lg : Int64) (p2 : Int32) (r : (Nat → Nat → Int32) × (Nat → Nat → Int32) × Nat), f_grp_cr n 4 T RU w p2 = some r → Ev (d + n + 6, 0, 0, 249, 0, [.val (.ref 384), .val (.ref 128), .val (.int p2), .val a_unk], [], (126, 120, L, [Y, T, HA, HB, RV, RU, ST, NS, I0, I1, I2, BO, FI, RG, GU, PU, MA, MN, MS, OT, SC], [r0, r1, r2, r3, w, r5, r6, r7, r8], Lg)) ((0, none, (126, 120, L, [Y, r.1, HA, HB, RV, r.2.1, ST, NS, I0, I1, I2, BO, FI, RG, GU, PU, MA, MN, MS, OT, SC], [r0, r1, r2, r3, r.2.2, r5, r6, r7, r8], Lg)) : AOut) := by
        intro Y T HA HB RV RU ST NS I0 I1 I2 BO FI RG GU PU MA MN MS OT SC r0 r1 r2 r3 w r5 r6 r7 r8 L Lg p2 r h
        have e := i4 d Y T HA HB RV RU ST NS I0 I1 I2 BO FI RG GU PU MA MN MS OT SC r0 r1 r2 r3 w r5 r6 r7 r8 L Lg p2 r h
        rw [show d + (6 + n) = d + n + 6 by omega] at e
        exact e
      have j5 : ∀ (Y T HA HB RV RU ST NS I0 I1 I2 BO FI RG GU PU MA MN MS OT SC : Nat → Nat → Int32) (r0 r1 r2 r3 w r5 r6 r7 r8 : Nat) (L : Nat) (Lg : Int64) (p2 : Int32) (r : (Nat → Nat → Int32) × (Nat → Nat → Int32) × Nat), f_grp_cr n 5 T RU w p2 = some r → Ev (d + n + 6, 0, 0, 250, 0, [.val (.ref 384), .val (.ref 128), .val (.int p2), .val a_unk], [], (126, 120, L, [Y, T, HA, HB, RV, RU, ST, NS, I0, I1, I2, BO, FI, RG, GU, PU, MA, MN, MS, OT, SC], [r0, r1, r2, r3, w, r5, r6, r7, r8], Lg)) ((0, none, (126, 120, L, [Y, r.1, HA, HB, RV, r.2.1, ST, NS, I0, I1, I2, BO, FI, RG, GU, PU, MA, MN, MS, OT, SC], [r0, r1, r2, r3, r.2.2, r5, r6, r7, r8], Lg)) : AOut) := by
        intro Y T HA HB RV RU ST NS I0 I1 I2 BO FI RG GU PU MA MN MS OT SC r0 r1 r2 r3 w r5 r6 r7 r8 L Lg p2 r h
        have e := i5 d Y T HA HB RV RU ST NS I0 I1 I2 BO FI RG GU PU MA MN MS OT SC r0 r1 r2 r3 w r5 r6 r7 r8 L Lg p2 r h
        rw [show d + (6 + n) = d + n + 6 by omega] at e
        exact e
      have j6 : ∀ (Y T HA HB RV RU ST NS I0 I1 I2 BO FI RG GU PU MA MN MS OT SC : Nat → Nat → Int32) (r0 r1 r2 r3 w r5 r6 r7 r8 : Nat) (L : Nat) (Lg : Int64) (p2 : Int32) (r : (Nat → Nat → Int32) × (Nat → Nat → Int32) × Nat), f_grp_cr n 6 T RU w p2 = some r → Ev (d + n + 6, 0, 0, 247, 0, [.val (.ref 384), .val (.ref 128), .val (.int p2), .val a_unk], [], (126, 120, L, [Y, T, HA, HB, RV, RU, ST, NS, I0, I1, I2, BO, FI, RG, GU, PU, MA, MN, MS, OT, SC], [r0, r1, r2, r3, w, r5, r6, r7, r8], Lg)) ((0, none, (126, 120, L, [Y, r.1, HA, HB, RV, r.2.1, ST, NS, I0, I1, I2, BO, FI, RG, GU, PU, MA, MN, MS, OT, SC], [r0, r1, r2, r3, r.2.2, r5, r6, r7, r8], Lg)) : AOut) := by
        intro Y T HA HB RV RU ST NS I0 I1 I2 BO FI RG GU PU MA MN MS OT SC r0 r1 r2 r3 w r5 r6 r7 r8 L Lg p2 r h
        have e := i6 d Y T HA HB RV RU ST NS I0 I1 I2 BO FI RG GU PU MA MN MS OT SC r0 r1 r2 r3 w r5 r6 r7 r8 L Lg p2 r h
        rw [show d + (6 + n) = d + n + 6 by omega] at e
        exact e
      exact R_f_Rule_readComparison_B_0 (d + n) (f_grp_cr n) j0 j1 j2 j3 j4 j5 j6 Y T HA HB RV RU ST NS I0 I1 I2 BO FI RG GU PU MA MN MS OT SC r0 r1 r2 r3 w r5 r6 r7 r8 L Lg p2 h

