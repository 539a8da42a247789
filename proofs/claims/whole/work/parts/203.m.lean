/-! printed by program (gen/emitm.py): the reference's methods run as their functions say -/
set_option maxRecDepth 1000000 in
set_option maxHeartbeats 4000000 in
theorem R_f_M_target_0 (d : Nat) (Y T HA HB RA RB ST NS I0 I1 I2 BO FI RG GU PU MA MN MS OT SC : Nat → Nat → Int32) (r0 r1 r2 r3 w r5 r6 r7 r8 : Nat) (L : Nat) (Lg : Int64) (p1 : Int32) {r : Int32 × (Nat → Nat → Int32) × (Nat → Nat → Int32)} (h : f_M_target MA MN p1 = some r) : Ev (d + 2, 0, 0, 41, 0, [.val (.ref 1088), .val (.int p1), .val a_unk, .val a_unk, .val a_unk, .val a_unk, .val a_unk, .val a_unk], [], (126, 120, L, [Y, T, HA, HB, RA, RB, ST, NS, I0, I1, I2, BO, FI, RG, GU, PU, MA, MN, MS, OT, SC], [r0, r1, r2, r3, w, r5, r6, r7, r8], Lg)) ((0, some (.int r.1), (126, 120, L, [Y, T, HA, HB, RA, RB, ST, NS, I0, I1, I2, BO, FI, RG, GU, PU, r.2.1, r.2.2, MS, OT, SC], [r0, r1, r2, r3, w, r5, r6, r7, r8], Lg)) : AOut) := by
  suffices key : ∀ o : AOut, ((0, some (.int r.1), (126, 120, L, [Y, T, HA, HB, RA, RB, ST, NS, I0, I1, I2, BO, FI, RG, GU, PU, r.2.1, r.2.2, MS, OT, SC], [r0, r1, r2, r3, w, r5, r6, r7, r8], Lg)) : AOut) = o → Ev (d + 2, 0, 0, 41, 0, [.val (.ref 1088), .val (.int p1), .val a_unk, .val a_unk, .val a_unk, .val a_unk, .val a_unk, .val a_unk], [], (126, 120, L, [Y, T, HA, HB, RA, RB, ST, NS, I0, I1, I2, BO, FI, RG, GU, PU, MA, MN, MS, OT, SC], [r0, r1, r2, r3, w, r5, r6, r7, r8], Lg)) o from key _ rfl
  intro o ho
  obtain ⟨zt1, zh2, h⟩ := bnd h
  have zj3 : ∀ (v1 : Int32), v1 = zt1 → Ev (d + 2, 0, 0, 41, 29, [.val (.ref 1088), .val (.int p1), .val a_unk, .val a_unk, .val a_unk, .val a_unk, .val a_unk, .val a_unk], [.int v1, .ref 1088], (126, 120, L, [Y, T, HA, HB, RA, RB, ST, NS, I0, I1, I2, BO, FI, RG, GU, PU, (u2 MA 0 0 0), MN, MS, OT, SC], [r0, r1, r2, r3, w, r5, r6, r7, r8], Lg)) o := by
    intro v1 ze4
    subst ze4
    obtain ⟨⟨x2, MA_3⟩, zh5, h⟩ := bnd h
    have zh5 : f_M_may (u2 MA 0 0 0) v1 1 1 = some (x2, MA_3) := zh5
    have ze6 := R_f_M_may_0 (d + 1) Y T HA HB RA RB ST NS I0 I1 I2 BO FI RG GU PU (u2 MA 0 0 0) MN MS OT SC r0 r1 r2 r3 w r5 r6 r7 r8 L Lg v1 1 1 zh5
    suffices e : Ev (d + 2, 0, 0, 41, 34, [.val (.ref 1088), .val (.int p1), .val a_unk, .val a_unk, .val a_unk, .val a_unk, .val a_unk, .val a_unk], [.int x2], (126, 120, L, [Y, T, HA, HB, RA, RB, ST, NS, I0, I1, I2, BO, FI, RG, GU, PU, MA_3, MN, MS, OT, SC], [r0, r1, r2, r3, w, r5, r6, r7, r8], Lg)) o from ev_call (fun v μ => (d + 2, 0, 0, 41, 34, [.val (.ref 1088), .val (.int p1), .val a_unk, .val a_unk, .val a_unk, .val a_unk, .val a_unk, .val a_unk], v.toList ++ [], μ)) 3 ze6 e (fun n => Eq.refl _)
    by_cases zc7 : x2 ≠ 0
    · have h := itp h zc7
      suffices e : Ev (d + 2, 0, 0, 41, 39, [.val (.ref 1088), .val (.int p1), .val a_unk, .val a_unk, .val a_unk, .val a_unk, .val a_unk, .val a_unk], [], (126, 120, L, [Y, T, HA, HB, RA, RB, ST, NS, I0, I1, I2, BO, FI, RG, GU, PU, MA_3, MN, MS, OT, SC], [r0, r1, r2, r3, w, r5, r6, r7, r8], Lg)) o from ev_t (c := x2 ≠ 0) _ _ 1 zc7 e (fun n => Eq.refl _)
      obtain ⟨⟨MA_4, MN_5⟩, zh8, h⟩ := bnd h
      have zh8 : f_M_begins MA_3 MN p1 = some (MA_4, MN_5) := zh8
      have ze9 := R_f_M_begins_0 (d + 1) Y T HA HB RA RB ST NS I0 I1 I2 BO FI RG GU PU MA_3 MN MS OT SC r0 r1 r2 r3 w r5 r6 r7 r8 L Lg p1 zh8
      suffices e : Ev (d + 2, 0, 0, 41, 44, [.val (.ref 1088), .val (.int p1), .val a_unk, .val a_unk, .val a_unk, .val a_unk, .val a_unk, .val a_unk], [], (126, 120, L, [Y, T, HA, HB, RA, RB, ST, NS, I0, I1, I2, BO, FI, RG, GU, PU, MA_4, MN_5, MS, OT, SC], [r0, r1, r2, r3, w, r5, r6, r7, r8], Lg)) o from ev_call (fun v μ => (d + 2, 0, 0, 41, 44, [.val (.ref 1088), .val (.int p1), .val a_unk, .val a_unk, .val a_unk, .val a_unk, .val a_unk, .val a_unk], v.toList ++ [], μ)) 3 ze9 e (fun n => Eq.refl _)
      obtain ⟨zb10, zh11, h⟩ := bnd h
      suffices e : Ev (d + 2, 0, 0, 41, 48, [.val (.ref 1088), .val (.int p1), .val (.int 0), .val (.int 0), .val a_unk, .val a_unk, .val a_unk, .val a_unk], [], (126, 120, L, [Y, T, HA, HB, RA, RB, ST, NS, I0, I1, I2, BO, FI, RG, GU, PU, MA_4, MN_5, MS, OT, SC], [r0, r1, r2, r3, w, r5, r6, r7, r8], Lg)) o from ev_b 4 e (fun n => Eq.refl _)
      refine ev_loop (δ := Value × Value × Value × Value) (fun a j => (d + 2, 0, 0, 41, 48, [.val (.ref 1088), .val (.int p1), .val (.int a.1), .val (.int a.2.1), .val j.1, .val j.2.1, .val j.2.2.1, .val j.2.2.2], [], (126, 120, L, [Y, T, HA, HB, RA, RB, ST, NS, I0, I1, I2, BO, FI, RG, GU, PU, MA_4, a.2.2, MS, OT, SC], [r0, r1, r2, r3, w, r5, r6, r7, r8], Lg))) (fun b => ∀ s30 : Value, ∀ s31 : Value, ∀ s32 : Value, ∀ s33 : Value, ∀ s34 : Value, Ev (d + 2, 0, 0, 41, 187, [.val (.ref 1088), .val (.int p1), .val (.int b.1), .val s30, .val s31, .val s32, .val s33, .val s34], [], (126, 120, L, [Y, T, HA, HB, RA, RB, ST, NS, I0, I1, I2, BO, FI, RG, GU, PU, MA_4, b.2, MS, OT, SC], [r0, r1, r2, r3, w, r5, r6, r7, r8], Lg)) o) ?_ a_F (0, 0, MN_5) zb10 zh11 ?_ (a_unk, a_unk, a_unk, a_unk)
      · rintro ⟨v6, v7, MN_12⟩ zr15 zh14 zi12 zx13 ⟨s8, s9, s10, s11⟩
        have zh14 : f_M_target_l48 MA_4 v6 v7 MN_12 = some zr15 := zh14
        obtain ⟨x13, zh16, zh14⟩ := bnd zh14
        have zh16 : f_M_fine MN_12 = some x13 := zh16
        have ze17 := R_f_M_fine_0 (d + 1) Y T HA HB RA RB ST NS I0 I1 I2 BO FI RG GU PU MA_4 MN_12 MS OT SC r0 r1 r2 r3 w r5 r6 r7 r8 L Lg zh16
        suffices e : Ev (d + 2, 0, 0, 41, 52, [.val (.ref 1088), .val (.int p1), .val (.int v6), .val (.int v7), .val s8, .val s9, .val s10, .val s11], [.int x13], (126, 120, L, [Y, T, HA, HB, RA, RB, ST, NS, I0, I1, I2, BO, FI, RG, GU, PU, MA_4, MN_12, MS, OT, SC], [r0, r1, r2, r3, w, r5, r6, r7, r8], Lg)) o from ev_call (fun v μ => (d + 2, 0, 0, 41, 52, [.val (.ref 1088), .val (.int p1), .val (.int v6), .val (.int v7), .val s8, .val s9, .val s10, .val s11], v.toList ++ [], μ)) 2 ze17 e (fun n => Eq.refl _)
        by_cases zc18 : x13 = 0
        · have zh14 := itp zh14 zc18
          suffices e : Ev (d + 2, 0, 0, 41, 187, [.val (.ref 1088), .val (.int p1), .val (.int v6), .val (.int v7), .val s8, .val s9, .val s10, .val s11], [], (126, 120, L, [Y, T, HA, HB, RA, RB, ST, NS, I0, I1, I2, BO, FI, RG, GU, PU, MA_4, MN_12, MS, OT, SC], [r0, r1, r2, r3, w, r5, r6, r7, r8], Lg)) o from ev_t (c := x13 = 0) _ _ 1 zc18 e (fun n => Eq.refl _)
          exact ev_b 0 (zx13 _ (Option.some.inj zh14).symm (.int v7) s8 s9 s10 s11) (fun n => Eq.refl _)
        · have zh14 := itn zh14 zc18
          suffices e : Ev (d + 2, 0, 0, 41, 55, [.val (.ref 1088), .val (.int p1), .val (.int v6), .val (.int v7), .val s8, .val s9, .val s10, .val s11], [], (126, 120, L, [Y, T, HA, HB, RA, RB, ST, NS, I0, I1, I2, BO, FI, RG, GU, PU, MA_4, MN_12, MS, OT, SC], [r0, r1, r2, r3, w, r5, r6, r7, r8], Lg)) o from ev_f (c := x13 = 0) _ _ 1 zc18 e (fun n => Eq.refl _)
          obtain ⟨⟨x14, MN_15⟩, zh19, zh14⟩ := bnd zh14
          have zh19 : f_M_isMore MA_4 MN_12 = some (x14, MN_15) := zh19
          have ze20 := R_f_M_isMore_0 (d + 0) Y T HA HB RA RB ST NS I0 I1 I2 BO FI RG GU PU MA_4 MN_12 MS OT SC r0 r1 r2 r3 w r5 r6 r7 r8 L Lg zh19
          suffices e : Ev (d + 2, 0, 0, 41, 59, [.val (.ref 1088), .val (.int p1), .val (.int v6), .val (.int v7), .val s8, .val s9, .val s10, .val s11], [.int x14], (126, 120, L, [Y, T, HA, HB, RA, RB, ST, NS, I0, I1, I2, BO, FI, RG, GU, PU, MA_4, MN_15, MS, OT, SC], [r0, r1, r2, r3, w, r5, r6, r7, r8], Lg)) o from ev_call (fun v μ => (d + 2, 0, 0, 41, 59, [.val (.ref 1088), .val (.int p1), .val (.int v6), .val (.int v7), .val s8, .val s9, .val s10, .val s11], v.toList ++ [], μ)) 2 ze20 e (fun n => Eq.refl _)
          by_cases zc21 : x14 = 0
          · have zh14 := itp zh14 zc21
            suffices e : Ev (d + 2, 0, 0, 41, 187, [.val (.ref 1088), .val (.int p1), .val (.int v6), .val (.int v7), .val s8, .val s9, .val s10, .val s11], [], (126, 120, L, [Y, T, HA, HB, RA, RB, ST, NS, I0, I1, I2, BO, FI, RG, GU, PU, MA_4, MN_15, MS, OT, SC], [r0, r1, r2, r3, w, r5, r6, r7, r8], Lg)) o from ev_t (c := x14 = 0) _ _ 1 zc21 e (fun n => Eq.refl _)
            exact ev_b 0 (zx13 _ (Option.some.inj zh14).symm (.int v7) s8 s9 s10 s11) (fun n => Eq.refl _)
          · have zh14 := itn zh14 zc21
            suffices e : Ev (d + 2, 0, 0, 41, 62, [.val (.ref 1088), .val (.int p1), .val (.int v6), .val (.int v7), .val s8, .val s9, .val s10, .val s11], [], (126, 120, L, [Y, T, HA, HB, RA, RB, ST, NS, I0, I1, I2, BO, FI, RG, GU, PU, MA_4, MN_15, MS, OT, SC], [r0, r1, r2, r3, w, r5, r6, r7, r8], Lg)) o from ev_f (c := x14 = 0) _ _ 1 zc21 e (fun n => Eq.refl _)
            obtain ⟨⟨x16, MN_17⟩, zh22, zh14⟩ := bnd zh14
            have zh22 : f_M_readNumber MA_4 MN_15 0 ((MA_4 0 26) - 1) = some (x16, MN_17) := zh22
            have ze23 := R_f_M_readNumber_0 (d + 0) Y T HA HB RA RB ST NS I0 I1 I2 BO FI RG GU PU MA_4 MN_15 MS OT SC r0 r1 r2 r3 w r5 r6 r7 r8 L Lg 0 ((MA_4 0 26) - 1) zh22
            suffices e : Ev (d + 2, 0, 0, 41, 79, [.val (.ref 1088), .val (.int p1), .val (.int v6), .val (.int v7), .val (.int (MN_15 0 4)), .val s9, .val s10, .val s11], [.int x16], (126, 120, L, [Y, T, HA, HB, RA, RB, ST, NS, I0, I1, I2, BO, FI, RG, GU, PU, MA_4, MN_17, MS, OT, SC], [r0, r1, r2, r3, w, r5, r6, r7, r8], Lg)) o from ev_call (fun v μ => (d + 2, 0, 0, 41, 79, [.val (.ref 1088), .val (.int p1), .val (.int v6), .val (.int v7), .val (.int (MN_15 0 4)), .val s9, .val s10, .val s11], v.toList ++ [], μ)) 10 ze23 e (fun n => Eq.refl _)
            obtain ⟨x18, zh24, zh14⟩ := bnd zh14
            have zh24 : f_M_fine MN_17 = some x18 := zh24
            have ze25 := R_f_M_fine_0 (d + 1) Y T HA HB RA RB ST NS I0 I1 I2 BO FI RG GU PU MA_4 MN_17 MS OT SC r0 r1 r2 r3 w r5 r6 r7 r8 L Lg zh24
            suffices e : Ev (d + 2, 0, 0, 41, 85, [.val (.ref 1088), .val (.int p1), .val (.int v6), .val (.int v7), .val (.int (MN_15 0 4)), .val (.int x16), .val s10, .val s11], [.int x18], (126, 120, L, [Y, T, HA, HB, RA, RB, ST, NS, I0, I1, I2, BO, FI, RG, GU, PU, MA_4, MN_17, MS, OT, SC], [r0, r1, r2, r3, w, r5, r6, r7, r8], Lg)) o from ev_call (fun v μ => (d + 2, 0, 0, 41, 85, [.val (.ref 1088), .val (.int p1), .val (.int v6), .val (.int v7), .val (.int (MN_15 0 4)), .val (.int x16), .val s10, .val s11], v.toList ++ [], μ)) 3 ze25 e (fun n => Eq.refl _)
            obtain ⟨zt26, zh27, zh14⟩ := bnd zh14
            have zj28 : ∀ (MN_20 : (Nat → Nat → Int32)), MN_20 = zt26 → Ev (d + 2, 0, 0, 41, 105, [.val (.ref 1088), .val (.int p1), .val (.int v6), .val (.int v7), .val (.int (MN_15 0 4)), .val (.int x16), .val s10, .val s11], [], (126, 120, L, [Y, T, HA, HB, RA, RB, ST, NS, I0, I1, I2, BO, FI, RG, GU, PU, MA_4, MN_20, MS, OT, SC], [r0, r1, r2, r3, w, r5, r6, r7, r8], Lg)) o := by
              intro MN_20 ze29
              subst ze29
              obtain ⟨⟨x21, MN_22⟩, zh30, zh14⟩ := bnd zh14
              have zh30 : f_M_readNumber MA_4 MN_20 0 ((MA_4 0 23) - 1) = some (x21, MN_22) := zh30
              have ze31 := R_f_M_readNumber_0 (d + 0) Y T HA HB RA RB ST NS I0 I1 I2 BO FI RG GU PU MA_4 MN_20 MS OT SC r0 r1 r2 r3 w r5 r6 r7 r8 L Lg 0 ((MA_4 0 23) - 1) zh30
              suffices e : Ev (d + 2, 0, 0, 41, 116, [.val (.ref 1088), .val (.int p1), .val (.int v6), .val (.int v7), .val (.int (MN_15 0 4)), .val (.int x16), .val s10, .val s11], [.int x21], (126, 120, L, [Y, T, HA, HB, RA, RB, ST, NS, I0, I1, I2, BO, FI, RG, GU, PU, MA_4, MN_22, MS, OT, SC], [r0, r1, r2, r3, w, r5, r6, r7, r8], Lg)) o from ev_call (fun v μ => (d + 2, 0, 0, 41, 116, [.val (.ref 1088), .val (.int p1), .val (.int v6), .val (.int v7), .val (.int (MN_15 0 4)), .val (.int x16), .val s10, .val s11], v.toList ++ [], μ)) 7 ze31 e (fun n => Eq.refl _)
              obtain ⟨⟨x23, MN_24⟩, zh32, zh14⟩ := bnd zh14
              have zh32 : f_M_readNumber MA_4 MN_22 0 ((MA_4 0 24) - 1) = some (x23, MN_24) := zh32
              have ze33 := R_f_M_readNumber_0 (d + 0) Y T HA HB RA RB ST NS I0 I1 I2 BO FI RG GU PU MA_4 MN_22 MS OT SC r0 r1 r2 r3 w r5 r6 r7 r8 L Lg 0 ((MA_4 0 24) - 1) zh32
              suffices e : Ev (d + 2, 0, 0, 41, 129, [.val (.ref 1088), .val (.int p1), .val (.int v6), .val (.int v7), .val (.int (MN_15 0 4)), .val (.int x16), .val (.int x21), .val s11], [.int x23], (126, 120, L, [Y, T, HA, HB, RA, RB, ST, NS, I0, I1, I2, BO, FI, RG, GU, PU, MA_4, MN_24, MS, OT, SC], [r0, r1, r2, r3, w, r5, r6, r7, r8], Lg)) o from ev_call (fun v μ => (d + 2, 0, 0, 41, 129, [.val (.ref 1088), .val (.int p1), .val (.int v6), .val (.int v7), .val (.int (MN_15 0 4)), .val (.int x16), .val (.int x21), .val s11], v.toList ++ [], μ)) 8 ze33 e (fun n => Eq.refl _)
              obtain ⟨MN_25, zh34, zh14⟩ := bnd zh14
              have zh34 : f_M_sign MA_4 MN_24 59 = some MN_25 := zh34
              have ze35 := R_f_M_sign_0 (d + 0) Y T HA HB RA RB ST NS I0 I1 I2 BO FI RG GU PU MA_4 MN_24 MS OT SC r0 r1 r2 r3 w r5 r6 r7 r8 L Lg 59 zh34
              suffices e : Ev (d + 2, 0, 0, 41, 137, [.val (.ref 1088), .val (.int p1), .val (.int v6), .val (.int v7), .val (.int (MN_15 0 4)), .val (.int x16), .val (.int x21), .val (.int x23)], [], (126, 120, L, [Y, T, HA, HB, RA, RB, ST, NS, I0, I1, I2, BO, FI, RG, GU, PU, MA_4, MN_25, MS, OT, SC], [r0, r1, r2, r3, w, r5, r6, r7, r8], Lg)) o from ev_call (fun v μ => (d + 2, 0, 0, 41, 137, [.val (.ref 1088), .val (.int p1), .val (.int v6), .val (.int v7), .val (.int (MN_15 0 4)), .val (.int x16), .val (.int x21), .val (.int x23)], v.toList ++ [], μ)) 4 ze35 e (fun n => Eq.refl _)
              obtain ⟨x26, zh36, zh14⟩ := bnd zh14
              have zh36 : f_M_fine MN_25 = some x26 := zh36
              have ze37 := R_f_M_fine_0 (d + 1) Y T HA HB RA RB ST NS I0 I1 I2 BO FI RG GU PU MA_4 MN_25 MS OT SC r0 r1 r2 r3 w r5 r6 r7 r8 L Lg zh36
              suffices e : Ev (d + 2, 0, 0, 41, 141, [.val (.ref 1088), .val (.int p1), .val (.int v6), .val (.int v7), .val (.int (MN_15 0 4)), .val (.int x16), .val (.int x21), .val (.int x23)], [.int x26], (126, 120, L, [Y, T, HA, HB, RA, RB, ST, NS, I0, I1, I2, BO, FI, RG, GU, PU, MA_4, MN_25, MS, OT, SC], [r0, r1, r2, r3, w, r5, r6, r7, r8], Lg)) o from ev_call (fun v μ => (d + 2, 0, 0, 41, 141, [.val (.ref 1088), .val (.int p1), .val (.int v6), .val (.int v7), .val (.int (MN_15 0 4)), .val (.int x16), .val (.int x21), .val (.int x23)], v.toList ++ [], μ)) 2 ze37 e (fun n => Eq.refl _)
              by_cases zc38 : x26 ≠ 0
              · have zh14 := itp zh14 zc38
                suffices e : Ev (d + 2, 0, 0, 41, 147, [.val (.ref 1088), .val (.int p1), .val (.int v6), .val (.int v7), .val (.int (MN_15 0 4)), .val (.int x16), .val (.int x21), .val (.int x23)], [], (126, 120, L, [Y, T, HA, HB, RA, RB, ST, NS, I0, I1, I2, BO, FI, RG, GU, PU, MA_4, MN_25, MS, OT, SC], [r0, r1, r2, r3, w, r5, r6, r7, r8], Lg)) o from ev_t (c := x26 ≠ 0) _ _ 1 zc38 e (fun n => Eq.refl _)
                obtain ⟨j27, zh39, zh14⟩ := bnd zh14
                have zh39 : ixx 20 (2 * v6) = some j27 := zh39
                suffices e : Ev (d + 2, 0, 0, 41, 164, [.val (.ref 1088), .val (.int p1), .val (.int v6), .val (.int (v7 ||| (a_shl 1 x16))), .val (.int (MN_15 0 4)), .val (.int x16), .val (.int x21), .val (.int x23)], [], (126, 120, L, [Y, T, HA, HB, RA, RB, ST, NS, I0, I1, I2, BO, FI, RG, GU, PU, MA_4, (u2 MN_25 5 j27 x16), MS, OT, SC], [r0, r1, r2, r3, w, r5, r6, r7, r8], Lg)) o from ev_opt (fun j27 => (d + 2, 0, 0, 41, 164, [.val (.ref 1088), .val (.int p1), .val (.int v6), .val (.int (v7 ||| (a_shl 1 x16))), .val (.int (MN_15 0 4)), .val (.int x16), .val (.int x21), .val (.int x23)], [], (126, 120, L, [Y, T, HA, HB, RA, RB, ST, NS, I0, I1, I2, BO, FI, RG, GU, PU, MA_4, (u2 MN_25 5 j27 x16), MS, OT, SC], [r0, r1, r2, r3, w, r5, r6, r7, r8], Lg))) 13 zh39 e (fun n => Eq.refl _)
                obtain ⟨j28, zh40, zh14⟩ := bnd zh14
                have zh40 : ixx 20 ((2 * v6) + 1) = some j28 := zh40
                suffices e : Ev (d + 2, 0, 0, 41, 181, [.val (.ref 1088), .val (.int p1), .val (.int v6), .val (.int (v7 ||| (a_shl 1 x16))), .val (.int (MN_15 0 4)), .val (.int x16), .val (.int x21), .val (.int x23)], [], (126, 120, L, [Y, T, HA, HB, RA, RB, ST, NS, I0, I1, I2, BO, FI, RG, GU, PU, MA_4, (u2 (u2 MN_25 5 j27 x16) 5 j28 ((3 * x21) + x23)), MS, OT, SC], [r0, r1, r2, r3, w, r5, r6, r7, r8], Lg)) o from ev_opt (fun j28 => (d + 2, 0, 0, 41, 181, [.val (.ref 1088), .val (.int p1), .val (.int v6), .val (.int (v7 ||| (a_shl 1 x16))), .val (.int (MN_15 0 4)), .val (.int x16), .val (.int x21), .val (.int x23)], [], (126, 120, L, [Y, T, HA, HB, RA, RB, ST, NS, I0, I1, I2, BO, FI, RG, GU, PU, MA_4, (u2 (u2 MN_25 5 j27 x16) 5 j28 ((3 * x21) + x23)), MS, OT, SC], [r0, r1, r2, r3, w, r5, r6, r7, r8], Lg))) 13 zh40 e (fun n => Eq.refl _)
                exact ev_b 2 (zi12 _ (Option.some.inj zh14).symm ((.int (MN_15 0 4)), (.int x16), (.int x21), (.int x23))) (fun n => Eq.refl _)
              · have zh14 := itn zh14 zc38
                suffices e : Ev (d + 2, 0, 0, 41, 144, [.val (.ref 1088), .val (.int p1), .val (.int v6), .val (.int v7), .val (.int (MN_15 0 4)), .val (.int x16), .val (.int x21), .val (.int x23)], [], (126, 120, L, [Y, T, HA, HB, RA, RB, ST, NS, I0, I1, I2, BO, FI, RG, GU, PU, MA_4, MN_25, MS, OT, SC], [r0, r1, r2, r3, w, r5, r6, r7, r8], Lg)) o from ev_f (c := x26 ≠ 0) _ _ 1 zc38 e (fun n => Eq.refl _)
                exact ev_b 1 (zx13 _ (Option.some.inj zh14).symm (.int v7) (.int (MN_15 0 4)) (.int x16) (.int x21) (.int x23)) (fun n => Eq.refl _)
            by_cases zc41 : x18 = 0
            · have zh27 := itp zh27 zc41
              suffices e : Ev (d + 2, 0, 0, 41, 105, [.val (.ref 1088), .val (.int p1), .val (.int v6), .val (.int v7), .val (.int (MN_15 0 4)), .val (.int x16), .val s10, .val s11], [], (126, 120, L, [Y, T, HA, HB, RA, RB, ST, NS, I0, I1, I2, BO, FI, RG, GU, PU, MA_4, MN_17, MS, OT, SC], [r0, r1, r2, r3, w, r5, r6, r7, r8], Lg)) o from ev_t (c := x18 = 0) _ _ 1 zc41 e (fun n => Eq.refl _)
              exact ev_b 0 (zj28 MN_17 (Option.some.inj zh27) ) (fun n => Eq.refl _)
            · have zh27 := itn zh27 zc41
              suffices e : Ev (d + 2, 0, 0, 41, 88, [.val (.ref 1088), .val (.int p1), .val (.int v6), .val (.int v7), .val (.int (MN_15 0 4)), .val (.int x16), .val s10, .val s11], [], (126, 120, L, [Y, T, HA, HB, RA, RB, ST, NS, I0, I1, I2, BO, FI, RG, GU, PU, MA_4, MN_17, MS, OT, SC], [r0, r1, r2, r3, w, r5, r6, r7, r8], Lg)) o from ev_f (c := x18 = 0) _ _ 1 zc41 e (fun n => Eq.refl _)
              by_cases zc42 : ((a_shr v7 x16) &&& 1) ≠ 1
              · have zh27 := itp zh27 zc42
                suffices e : Ev (d + 2, 0, 0, 41, 105, [.val (.ref 1088), .val (.int p1), .val (.int v6), .val (.int v7), .val (.int (MN_15 0 4)), .val (.int x16), .val s10, .val s11], [], (126, 120, L, [Y, T, HA, HB, RA, RB, ST, NS, I0, I1, I2, BO, FI, RG, GU, PU, MA_4, MN_17, MS, OT, SC], [r0, r1, r2, r3, w, r5, r6, r7, r8], Lg)) o from ev_t (c := ((a_shr v7 x16) &&& 1) ≠ 1) _ _ 7 zc42 e (fun n => Eq.refl _)
                exact ev_b 0 (zj28 MN_17 (Option.some.inj zh27) ) (fun n => Eq.refl _)
              · have zh27 := itn zh27 zc42
                suffices e : Ev (d + 2, 0, 0, 41, 98, [.val (.ref 1088), .val (.int p1), .val (.int v6), .val (.int v7), .val (.int (MN_15 0 4)), .val (.int x16), .val s10, .val s11], [], (126, 120, L, [Y, T, HA, HB, RA, RB, ST, NS, I0, I1, I2, BO, FI, RG, GU, PU, MA_4, MN_17, MS, OT, SC], [r0, r1, r2, r3, w, r5, r6, r7, r8], Lg)) o from ev_f (c := ((a_shr v7 x16) &&& 1) ≠ 1) _ _ 7 zc42 e (fun n => Eq.refl _)
                obtain ⟨MN_19, zh43, zh27⟩ := bnd zh27
                have zh43 : f_M_wrong MN_17 2 (MN_15 0 4) = some MN_19 := zh43
                have ze44 := R_f_M_wrong_0 (d + 1) Y T HA HB RA RB ST NS I0 I1 I2 BO FI RG GU PU MA_4 MN_17 MS OT SC r0 r1 r2 r3 w r5 r6 r7 r8 L Lg 2 (MN_15 0 4) zh43
                suffices e : Ev (d + 2, 0, 0, 41, 105, [.val (.ref 1088), .val (.int p1), .val (.int v6), .val (.int v7), .val (.int (MN_15 0 4)), .val (.int x16), .val s10, .val s11], [], (126, 120, L, [Y, T, HA, HB, RA, RB, ST, NS, I0, I1, I2, BO, FI, RG, GU, PU, MA_4, MN_19, MS, OT, SC], [r0, r1, r2, r3, w, r5, r6, r7, r8], Lg)) o from ev_call (fun v μ => (d + 2, 0, 0, 41, 105, [.val (.ref 1088), .val (.int p1), .val (.int v6), .val (.int v7), .val (.int (MN_15 0 4)), .val (.int x16), .val s10, .val s11], v.toList ++ [], μ)) 4 ze44 e (fun n => Eq.refl _)
                exact ev_b 0 (zj28 MN_19 (Option.some.inj zh27) ) (fun n => Eq.refl _)
      · obtain ⟨v29, MN_35⟩ := zb10
        intro s30 s31 s32 s33 s34
        obtain ⟨⟨x36, MA_37⟩, zh45, h⟩ := bnd h
        have zh45 : f_M_result MA_4 MN_35 v29 = some (x36, MA_37) := zh45
        have ze46 := R_f_M_result_0 (d + 0) Y T HA HB RA RB ST NS I0 I1 I2 BO FI RG GU PU MA_4 MN_35 MS OT SC r0 r1 r2 r3 w r5 r6 r7 r8 L Lg v29 zh45
        suffices e : Ev (d + 2, 0, 0, 41, 192, [.val (.ref 1088), .val (.int p1), .val (.int v29), .val s30, .val s31, .val s32, .val s33, .val s34], [.int x36], (126, 120, L, [Y, T, HA, HB, RA, RB, ST, NS, I0, I1, I2, BO, FI, RG, GU, PU, MA_37, MN_35, MS, OT, SC], [r0, r1, r2, r3, w, r5, r6, r7, r8], Lg)) o from ev_call (fun v μ => (d + 2, 0, 0, 41, 192, [.val (.ref 1088), .val (.int p1), .val (.int v29), .val s30, .val s31, .val s32, .val s33, .val s34], v.toList ++ [], μ)) 3 ze46 e (fun n => Eq.refl _)
        by_cases zc47 : (MN_35 0 5) = (-1)
        · have h := itp h zc47
          suffices e : Ev (d + 2, 0, 0, 41, 205, [.val (.ref 1088), .val (.int p1), .val (.int v29), .val s30, .val (.int x36), .val s32, .val s33, .val s34], [], (126, 120, L, [Y, T, HA, HB, RA, RB, ST, NS, I0, I1, I2, BO, FI, RG, GU, PU, MA_37, MN_35, MS, OT, SC], [r0, r1, r2, r3, w, r5, r6, r7, r8], Lg)) o from ev_t (c := (MN_35 0 5) = (-1)) _ _ 5 zc47 e (fun n => Eq.refl _)
          obtain ⟨x38, zh48, h⟩ := bnd h
          have ze49 := R_copies (d + 1) 1157 1097 (2 * v29) [Y, T, HA, HB, RA, RB, ST, NS, I0, I1, I2, BO, FI, RG, GU, PU, (u2 MA_37 0 33 v29), MN_35, MS, OT, SC] [r0, r1, r2, r3, w, r5, r6, r7, r8] (.ref 1088) L Lg 126 120 rfl rfl rfl rfl (Nat.le_of_ble_eq_true rfl) (Nat.le_of_ble_eq_true rfl) (Nat.le_of_ble_eq_true rfl) zh48
          suffices e : Ev (d + 2, 0, 0, 41, 225, [.val (.ref 1088), .val (.int p1), .val (.int v29), .val s30, .val (.int x36), .val s32, .val s33, .val s34], [], (126, 120, L, [Y, T, HA, HB, RA, RB, ST, NS, I0, I1, I2, BO, FI, RG, GU, PU, (u1 (u2 MA_37 0 33 v29) 9 x38), MN_35, MS, OT, SC], [r0, r1, r2, r3, w, r5, r6, r7, r8], Lg)) o from ev_call (fun v μ => (d + 2, 0, 0, 41, 225, [.val (.ref 1088), .val (.int p1), .val (.int v29), .val s30, .val (.int x36), .val s32, .val s33, .val s34], v.toList ++ [], μ)) 12 ze49 e (fun n => Eq.refl _)
          have ze50 := Option.some.inj h
          subst ze50
          exact ev_rete 2 ho (fun n => Eq.refl _)
        · have h := itn h zc47
          suffices e : Ev (d + 2, 0, 0, 41, 202, [.val (.ref 1088), .val (.int p1), .val (.int v29), .val s30, .val (.int x36), .val s32, .val s33, .val s34], [], (126, 120, L, [Y, T, HA, HB, RA, RB, ST, NS, I0, I1, I2, BO, FI, RG, GU, PU, MA_37, MN_35, MS, OT, SC], [r0, r1, r2, r3, w, r5, r6, r7, r8], Lg)) o from ev_f (c := (MN_35 0 5) = (-1)) _ _ 5 zc47 e (fun n => Eq.refl _)
          have ze51 := Option.some.inj h
          subst ze51
          exact ev_rete 2 ho (fun n => Eq.refl _)
    · have h := itn h zc7
      suffices e : Ev (d + 2, 0, 0, 41, 37, [.val (.ref 1088), .val (.int p1), .val a_unk, .val a_unk, .val a_unk, .val a_unk, .val a_unk, .val a_unk], [], (126, 120, L, [Y, T, HA, HB, RA, RB, ST, NS, I0, I1, I2, BO, FI, RG, GU, PU, MA_3, MN, MS, OT, SC], [r0, r1, r2, r3, w, r5, r6, r7, r8], Lg)) o from ev_f (c := x2 ≠ 0) _ _ 1 zc7 e (fun n => Eq.refl _)
      have ze52 := Option.some.inj h
      subst ze52
      exact ev_rete 2 ho (fun n => Eq.refl _)
  obtain ⟨zt53, zh54, zh2⟩ := bnd zh2
  have zj55 : zt53 = .inl () → Ev (d + 2, 0, 0, 41, 28, [.val (.ref 1088), .val (.int p1), .val a_unk, .val a_unk, .val a_unk, .val a_unk, .val a_unk, .val a_unk], [.ref 1088], (126, 120, L, [Y, T, HA, HB, RA, RB, ST, NS, I0, I1, I2, BO, FI, RG, GU, PU, (u2 MA 0 0 0), MN, MS, OT, SC], [r0, r1, r2, r3, w, r5, r6, r7, r8], Lg)) o := by
    intro ze56
    have zh2 := sum_l zh2 ze56
    exact ev_b 1 (zj3 0 (Option.some.inj zh2) ) (fun n => Eq.refl _)
  by_cases zc57 : p1 < 0
  · have zh54 := itp zh54 zc57
    suffices e : Ev (d + 2, 0, 0, 41, 28, [.val (.ref 1088), .val (.int p1), .val a_unk, .val a_unk, .val a_unk, .val a_unk, .val a_unk, .val a_unk], [.ref 1088], (126, 120, L, [Y, T, HA, HB, RA, RB, ST, NS, I0, I1, I2, BO, FI, RG, GU, PU, (u2 MA 0 0 0), MN, MS, OT, SC], [r0, r1, r2, r3, w, r5, r6, r7, r8], Lg)) o from ev_t (c := p1 < 0) _ _ 6 zc57 e (fun n => Eq.refl _)
    exact ev_b 0 (zj55  (Option.some.inj zh54).symm ) (fun n => Eq.refl _)
  · have zh54 := itn zh54 zc57
    suffices e : Ev (d + 2, 0, 0, 41, 10, [.val (.ref 1088), .val (.int p1), .val a_unk, .val a_unk, .val a_unk, .val a_unk, .val a_unk, .val a_unk], [.ref 1088], (126, 120, L, [Y, T, HA, HB, RA, RB, ST, NS, I0, I1, I2, BO, FI, RG, GU, PU, (u2 MA 0 0 0), MN, MS, OT, SC], [r0, r1, r2, r3, w, r5, r6, r7, r8], Lg)) o from ev_f (c := p1 < 0) _ _ 6 zc57 e (fun n => Eq.refl _)
    by_cases zc58 : ((u2 MA 0 0 0) 0 2) < p1
    · have zh54 := itp zh54 zc58
      suffices e : Ev (d + 2, 0, 0, 41, 28, [.val (.ref 1088), .val (.int p1), .val a_unk, .val a_unk, .val a_unk, .val a_unk, .val a_unk, .val a_unk], [.ref 1088], (126, 120, L, [Y, T, HA, HB, RA, RB, ST, NS, I0, I1, I2, BO, FI, RG, GU, PU, (u2 MA 0 0 0), MN, MS, OT, SC], [r0, r1, r2, r3, w, r5, r6, r7, r8], Lg)) o from ev_t (c := ((u2 MA 0 0 0) 0 2) < p1) _ _ 4 zc58 e (fun n => Eq.refl _)
      exact ev_b 0 (zj55  (Option.some.inj zh54).symm ) (fun n => Eq.refl _)
    · have zh54 := itn zh54 zc58
      suffices e : Ev (d + 2, 0, 0, 41, 18, [.val (.ref 1088), .val (.int p1), .val a_unk, .val a_unk, .val a_unk, .val a_unk, .val a_unk, .val a_unk], [.ref 1088], (126, 120, L, [Y, T, HA, HB, RA, RB, ST, NS, I0, I1, I2, BO, FI, RG, GU, PU, (u2 MA 0 0 0), MN, MS, OT, SC], [r0, r1, r2, r3, w, r5, r6, r7, r8], Lg)) o from ev_f (c := ((u2 MA 0 0 0) 0 2) < p1) _ _ 4 zc58 e (fun n => Eq.refl _)
      by_cases zc59 : 120 < p1
      · have zh54 := itp zh54 zc59
        suffices e : Ev (d + 2, 0, 0, 41, 28, [.val (.ref 1088), .val (.int p1), .val a_unk, .val a_unk, .val a_unk, .val a_unk, .val a_unk, .val a_unk], [.ref 1088], (126, 120, L, [Y, T, HA, HB, RA, RB, ST, NS, I0, I1, I2, BO, FI, RG, GU, PU, (u2 MA 0 0 0), MN, MS, OT, SC], [r0, r1, r2, r3, w, r5, r6, r7, r8], Lg)) o from ev_t (c := 120 < p1) _ _ 3 zc59 e (fun n => Eq.refl _)
        exact ev_b 0 (zj55  (Option.some.inj zh54).symm ) (fun n => Eq.refl _)
      · have zh54 := itn zh54 zc59
        suffices e : Ev (d + 2, 0, 0, 41, 24, [.val (.ref 1088), .val (.int p1), .val a_unk, .val a_unk, .val a_unk, .val a_unk, .val a_unk, .val a_unk], [.ref 1088], (126, 120, L, [Y, T, HA, HB, RA, RB, ST, NS, I0, I1, I2, BO, FI, RG, GU, PU, (u2 MA 0 0 0), MN, MS, OT, SC], [r0, r1, r2, r3, w, r5, r6, r7, r8], Lg)) o from ev_f (c := 120 < p1) _ _ 3 zc59 e (fun n => Eq.refl _)
        have zh60 := sum_r zh2 (Option.some.inj zh54).symm
        exact ev_b 2 (zj3 1 (Option.some.inj zh60) ) (fun n => Eq.refl _)
set_option maxRecDepth 1000000 in
set_option maxHeartbeats 4000000 in
theorem R_f_M_line_0 (d : Nat) (Y T HA HB RA RB ST NS I0 I1 I2 BO FI RG GU PU MA MN MS OT SC : Nat → Nat → Int32) (r0 r1 r2 r3 w r5 r6 r7 r8 : Nat) (L : Nat) (Lg : Int64) (p1 : Int32) (p2 : Int32) {r : Int32 × (Nat → Nat → Int32)} (h : f_M_line MA p1 p2 = some r) : Ev (d + 1, 0, 0, 42, 0, [.val (.ref 1088), .val (.int p1), .val (.int p2)], [], (126, 120, L, [Y, T, HA, HB, RA, RB, ST, NS, I0, I1, I2, BO, FI, RG, GU, PU, MA, MN, MS, OT, SC], [r0, r1, r2, r3, w, r5, r6, r7, r8], Lg)) ((0, some (.int r.1), (126, 120, L, [Y, T, HA, HB, RA, RB, ST, NS, I0, I1, I2, BO, FI, RG, GU, PU, r.2, MN, MS, OT, SC], [r0, r1, r2, r3, w, r5, r6, r7, r8], Lg)) : AOut) := by
  suffices key : ∀ o : AOut, ((0, some (.int r.1), (126, 120, L, [Y, T, HA, HB, RA, RB, ST, NS, I0, I1, I2, BO, FI, RG, GU, PU, r.2, MN, MS, OT, SC], [r0, r1, r2, r3, w, r5, r6, r7, r8], Lg)) : AOut) = o → Ev (d + 1, 0, 0, 42, 0, [.val (.ref 1088), .val (.int p1), .val (.int p2)], [], (126, 120, L, [Y, T, HA, HB, RA, RB, ST, NS, I0, I1, I2, BO, FI, RG, GU, PU, MA, MN, MS, OT, SC], [r0, r1, r2, r3, w, r5, r6, r7, r8], Lg)) o from key _ rfl
  intro o ho
  obtain ⟨x1, zh1, h⟩ := bnd h
  have zh1 : f_M_within p2 0 2 = some x1 := zh1
  have ze2 := R_f_M_within_0 (d + 0) Y T HA HB RA RB ST NS I0 I1 I2 BO FI RG GU PU (u2 MA 0 0 0) MN MS OT SC r0 r1 r2 r3 w r5 r6 r7 r8 L Lg p2 0 2 zh1
  suffices e : Ev (d + 1, 0, 0, 42, 12, [.val (.ref 1088), .val (.int p1), .val (.int p2)], [.int x1, .ref 1088], (126, 120, L, [Y, T, HA, HB, RA, RB, ST, NS, I0, I1, I2, BO, FI, RG, GU, PU, (u2 MA 0 0 0), MN, MS, OT, SC], [r0, r1, r2, r3, w, r5, r6, r7, r8], Lg)) o from ev_call (fun v μ => (d + 1, 0, 0, 42, 12, [.val (.ref 1088), .val (.int p1), .val (.int p2)], v.toList ++ [.ref 1088], μ)) 8 ze2 e (fun n => Eq.refl _)
  obtain ⟨⟨x2, MA_3⟩, zh3, h⟩ := bnd h
  have zh3 : f_M_may (u2 MA 0 0 0) x1 1 1 = some (x2, MA_3) := zh3
  have ze4 := R_f_M_may_0 (d + 0) Y T HA HB RA RB ST NS I0 I1 I2 BO FI RG GU PU (u2 MA 0 0 0) MN MS OT SC r0 r1 r2 r3 w r5 r6 r7 r8 L Lg x1 1 1 zh3
  suffices e : Ev (d + 1, 0, 0, 42, 17, [.val (.ref 1088), .val (.int p1), .val (.int p2)], [.int x2], (126, 120, L, [Y, T, HA, HB, RA, RB, ST, NS, I0, I1, I2, BO, FI, RG, GU, PU, MA_3, MN, MS, OT, SC], [r0, r1, r2, r3, w, r5, r6, r7, r8], Lg)) o from ev_call (fun v μ => (d + 1, 0, 0, 42, 17, [.val (.ref 1088), .val (.int p1), .val (.int p2)], v.toList ++ [], μ)) 3 ze4 e (fun n => Eq.refl _)
  by_cases zc5 : x2 ≠ 0
  · have h := itp h zc5
    suffices e : Ev (d + 1, 0, 0, 42, 22, [.val (.ref 1088), .val (.int p1), .val (.int p2)], [], (126, 120, L, [Y, T, HA, HB, RA, RB, ST, NS, I0, I1, I2, BO, FI, RG, GU, PU, MA_3, MN, MS, OT, SC], [r0, r1, r2, r3, w, r5, r6, r7, r8], Lg)) o from ev_t (c := x2 ≠ 0) _ _ 1 zc5 e (fun n => Eq.refl _)
    obtain ⟨x4, zh6, h⟩ := bnd h
    have zh6 : f_M_within p1 0 ((MA_3 0 33) - 1) = some x4 := zh6
    have ze7 := R_f_M_within_0 (d + 0) Y T HA HB RA RB ST NS I0 I1 I2 BO FI RG GU PU MA_3 MN MS OT SC r0 r1 r2 r3 w r5 r6 r7 r8 L Lg p1 0 ((MA_3 0 33) - 1) zh6
    suffices e : Ev (d + 1, 0, 0, 42, 33, [.val (.ref 1088), .val (.int p1), .val (.int p2)], [.int x4], (126, 120, L, [Y, T, HA, HB, RA, RB, ST, NS, I0, I1, I2, BO, FI, RG, GU, PU, MA_3, MN, MS, OT, SC], [r0, r1, r2, r3, w, r5, r6, r7, r8], Lg)) o from ev_call (fun v μ => (d + 1, 0, 0, 42, 33, [.val (.ref 1088), .val (.int p1), .val (.int p2)], v.toList ++ [], μ)) 7 ze7 e (fun n => Eq.refl _)
    by_cases zc8 : x4 ≠ 0
    · have h := itp h zc8
      suffices e : Ev (d + 1, 0, 0, 42, 38, [.val (.ref 1088), .val (.int p1), .val (.int p2)], [], (126, 120, L, [Y, T, HA, HB, RA, RB, ST, NS, I0, I1, I2, BO, FI, RG, GU, PU, MA_3, MN, MS, OT, SC], [r0, r1, r2, r3, w, r5, r6, r7, r8], Lg)) o from ev_t (c := x4 ≠ 0) _ _ 1 zc8 e (fun n => Eq.refl _)
      by_cases zc9 : p2 ≠ 0
      · have h := itp h zc9
        suffices e : Ev (d + 1, 0, 0, 42, 53, [.val (.ref 1088), .val (.int p1), .val (.int p2)], [], (126, 120, L, [Y, T, HA, HB, RA, RB, ST, NS, I0, I1, I2, BO, FI, RG, GU, PU, MA_3, MN, MS, OT, SC], [r0, r1, r2, r3, w, r5, r6, r7, r8], Lg)) o from ev_t (c := p2 ≠ 0) _ _ 2 zc9 e (fun n => Eq.refl _)
        by_cases zc10 : p2 ≠ 1
        · have h := itp h zc10
          suffices e : Ev (d + 1, 0, 0, 42, 73, [.val (.ref 1088), .val (.int p1), .val (.int p2)], [], (126, 120, L, [Y, T, HA, HB, RA, RB, ST, NS, I0, I1, I2, BO, FI, RG, GU, PU, MA_3, MN, MS, OT, SC], [r0, r1, r2, r3, w, r5, r6, r7, r8], Lg)) o from ev_t (c := p2 ≠ 1) _ _ 3 zc10 e (fun n => Eq.refl _)
          obtain ⟨x5, zh11, h⟩ := bnd h
          have zh11 : rdx (MA_3 9) 20 ((2 * p1) + 1) = some x5 := zh11
          suffices e : Ev (d + 1, 0, 0, 42, 83, [.val (.ref 1088), .val (.int p1), .val (.int p2)], [.int x5], (126, 120, L, [Y, T, HA, HB, RA, RB, ST, NS, I0, I1, I2, BO, FI, RG, GU, PU, MA_3, MN, MS, OT, SC], [r0, r1, r2, r3, w, r5, r6, r7, r8], Lg)) o from ev_opt (fun x5 => (d + 1, 0, 0, 42, 83, [.val (.ref 1088), .val (.int p1), .val (.int p2)], [.int x5], (126, 120, L, [Y, T, HA, HB, RA, RB, ST, NS, I0, I1, I2, BO, FI, RG, GU, PU, MA_3, MN, MS, OT, SC], [r0, r1, r2, r3, w, r5, r6, r7, r8], Lg))) 8 zh11 e (fun n => Eq.refl _)
          suffices e : Ev (d + 1, 0, 0, 42, 85, [.val (.ref 1088), .val (.int p1), .val (.int p2)], [.int (a_rem x5 3)], (126, 120, L, [Y, T, HA, HB, RA, RB, ST, NS, I0, I1, I2, BO, FI, RG, GU, PU, MA_3, MN, MS, OT, SC], [r0, r1, r2, r3, w, r5, r6, r7, r8], Lg)) o from ev_b 2 e (fun n => Eq.refl _)
          have ze12 := Option.some.inj h
          subst ze12
          exact ev_rete 1 ho (fun n => Eq.refl _)
        · have h := itn h zc10
          suffices e : Ev (d + 1, 0, 0, 42, 58, [.val (.ref 1088), .val (.int p1), .val (.int p2)], [], (126, 120, L, [Y, T, HA, HB, RA, RB, ST, NS, I0, I1, I2, BO, FI, RG, GU, PU, MA_3, MN, MS, OT, SC], [r0, r1, r2, r3, w, r5, r6, r7, r8], Lg)) o from ev_f (c := p2 ≠ 1) _ _ 3 zc10 e (fun n => Eq.refl _)
          obtain ⟨x6, zh13, h⟩ := bnd h
          have zh13 : rdx (MA_3 9) 20 ((2 * p1) + 1) = some x6 := zh13
          suffices e : Ev (d + 1, 0, 0, 42, 68, [.val (.ref 1088), .val (.int p1), .val (.int p2)], [.int x6], (126, 120, L, [Y, T, HA, HB, RA, RB, ST, NS, I0, I1, I2, BO, FI, RG, GU, PU, MA_3, MN, MS, OT, SC], [r0, r1, r2, r3, w, r5, r6, r7, r8], Lg)) o from ev_opt (fun x6 => (d + 1, 0, 0, 42, 68, [.val (.ref 1088), .val (.int p1), .val (.int p2)], [.int x6], (126, 120, L, [Y, T, HA, HB, RA, RB, ST, NS, I0, I1, I2, BO, FI, RG, GU, PU, MA_3, MN, MS, OT, SC], [r0, r1, r2, r3, w, r5, r6, r7, r8], Lg))) 8 zh13 e (fun n => Eq.refl _)
          suffices e : Ev (d + 1, 0, 0, 42, 70, [.val (.ref 1088), .val (.int p1), .val (.int p2)], [.int (x6 / 3)], (126, 120, L, [Y, T, HA, HB, RA, RB, ST, NS, I0, I1, I2, BO, FI, RG, GU, PU, MA_3, MN, MS, OT, SC], [r0, r1, r2, r3, w, r5, r6, r7, r8], Lg)) o from ev_b 2 e (fun n => Eq.refl _)
          have ze14 := Option.some.inj h
          subst ze14
          exact ev_rete 2 ho (fun n => Eq.refl _)
      · have h := itn h zc9
        suffices e : Ev (d + 1, 0, 0, 42, 42, [.val (.ref 1088), .val (.int p1), .val (.int p2)], [], (126, 120, L, [Y, T, HA, HB, RA, RB, ST, NS, I0, I1, I2, BO, FI, RG, GU, PU, MA_3, MN, MS, OT, SC], [r0, r1, r2, r3, w, r5, r6, r7, r8], Lg)) o from ev_f (c := p2 ≠ 0) _ _ 2 zc9 e (fun n => Eq.refl _)
        obtain ⟨x7, zh15, h⟩ := bnd h
        have zh15 : rdx (MA_3 9) 20 (2 * p1) = some x7 := zh15
        suffices e : Ev (d + 1, 0, 0, 42, 50, [.val (.ref 1088), .val (.int p1), .val (.int p2)], [.int x7], (126, 120, L, [Y, T, HA, HB, RA, RB, ST, NS, I0, I1, I2, BO, FI, RG, GU, PU, MA_3, MN, MS, OT, SC], [r0, r1, r2, r3, w, r5, r6, r7, r8], Lg)) o from ev_opt (fun x7 => (d + 1, 0, 0, 42, 50, [.val (.ref 1088), .val (.int p1), .val (.int p2)], [.int x7], (126, 120, L, [Y, T, HA, HB, RA, RB, ST, NS, I0, I1, I2, BO, FI, RG, GU, PU, MA_3, MN, MS, OT, SC], [r0, r1, r2, r3, w, r5, r6, r7, r8], Lg))) 6 zh15 e (fun n => Eq.refl _)
        have ze16 := Option.some.inj h
        subst ze16
        exact ev_rete 2 ho (fun n => Eq.refl _)
    · have h := itn h zc8
      suffices e : Ev (d + 1, 0, 0, 42, 36, [.val (.ref 1088), .val (.int p1), .val (.int p2)], [], (126, 120, L, [Y, T, HA, HB, RA, RB, ST, NS, I0, I1, I2, BO, FI, RG, GU, PU, MA_3, MN, MS, OT, SC], [r0, r1, r2, r3, w, r5, r6, r7, r8], Lg)) o from ev_f (c := x4 ≠ 0) _ _ 1 zc8 e (fun n => Eq.refl _)
      have ze17 := Option.some.inj h
      subst ze17
      exact ev_rete 2 ho (fun n => Eq.refl _)
  · have h := itn h zc5
    suffices e : Ev (d + 1, 0, 0, 42, 20, [.val (.ref 1088), .val (.int p1), .val (.int p2)], [], (126, 120, L, [Y, T, HA, HB, RA, RB, ST, NS, I0, I1, I2, BO, FI, RG, GU, PU, MA_3, MN, MS, OT, SC], [r0, r1, r2, r3, w, r5, r6, r7, r8], Lg)) o from ev_f (c := x2 ≠ 0) _ _ 1 zc5 e (fun n => Eq.refl _)
    have ze18 := Option.some.inj h
    subst ze18
    exact ev_rete 2 ho (fun n => Eq.refl _)
set_option maxRecDepth 1000000 in
set_option maxHeartbeats 4000000 in
theorem R_f_M_findGoals_0 (d : Nat) (Y T HA HB RA RB ST NS I0 I1 I2 BO FI RG GU PU MA MN MS OT SC : Nat → Nat → Int32) (r0 r1 r2 r3 w r5 r6 r7 r8 : Nat) (L : Nat) (Lg : Int64) {r : (Nat → Nat → Int32)} (h : f_M_findGoals MA MS = some r) : Ev (d + 1, 0, 0, 43, 0, [.val (.ref 1088), .val a_unk], [], (126, 120, L, [Y, T, HA, HB, RA, RB, ST, NS, I0, I1, I2, BO, FI, RG, GU, PU, MA, MN, MS, OT, SC], [r0, r1, r2, r3, w, r5, r6, r7, r8], Lg)) ((0, none, (126, 120, L, [Y, T, HA, HB, RA, RB, ST, NS, I0, I1, I2, BO, FI, RG, GU, PU, MA, MN, r, OT, SC], [r0, r1, r2, r3, w, r5, r6, r7, r8], Lg)) : AOut) := by
  suffices key : ∀ o : AOut, ((0, none, (126, 120, L, [Y, T, HA, HB, RA, RB, ST, NS, I0, I1, I2, BO, FI, RG, GU, PU, MA, MN, r, OT, SC], [r0, r1, r2, r3, w, r5, r6, r7, r8], Lg)) : AOut) = o → Ev (d + 1, 0, 0, 43, 0, [.val (.ref 1088), .val a_unk], [], (126, 120, L, [Y, T, HA, HB, RA, RB, ST, NS, I0, I1, I2, BO, FI, RG, GU, PU, MA, MN, MS, OT, SC], [r0, r1, r2, r3, w, r5, r6, r7, r8], Lg)) o from key _ rfl
  intro o ho
  obtain ⟨x1, zh1, h⟩ := bnd h
  have ze2 := R_copies (d + 0) 1095 1217 10 [Y, T, HA, HB, RA, RB, ST, NS, I0, I1, I2, BO, FI, RG, GU, PU, MA, MN, MS, OT, SC] [r0, r1, r2, r3, w, r5, r6, r7, r8] (.ref 1088) L Lg 126 120 rfl rfl rfl rfl (Nat.le_of_ble_eq_true rfl) (Nat.le_of_ble_eq_true rfl) (Nat.le_of_ble_eq_true rfl) zh1
  suffices e : Ev (d + 1, 0, 0, 43, 14, [.val (.ref 1088), .val a_unk], [], (126, 120, L, [Y, T, HA, HB, RA, RB, ST, NS, I0, I1, I2, BO, FI, RG, GU, PU, MA, MN, (u1 MS 1 x1), OT, SC], [r0, r1, r2, r3, w, r5, r6, r7, r8], Lg)) o from ev_call (fun v μ => (d + 1, 0, 0, 43, 14, [.val (.ref 1088), .val a_unk], v.toList ++ [], μ)) 7 ze2 e (fun n => Eq.refl _)
  obtain ⟨MS_8, zh4, h⟩ := bnd h
  suffices e : Ev (d + 1, 0, 0, 43, 16, [.val (.ref 1088), .val (.int 0)], [], (126, 120, L, [Y, T, HA, HB, RA, RB, ST, NS, I0, I1, I2, BO, FI, RG, GU, PU, MA, MN, (u1 MS 1 x1), OT, SC], [r0, r1, r2, r3, w, r5, r6, r7, r8], Lg)) o from ev_b 2 e (fun n => Eq.refl _)
  refine ev_loop (δ := Unit) (fun a j => (d + 1, 0, 0, 43, 16, [.val (.ref 1088), .val (.int a.1)], [], (126, 120, L, [Y, T, HA, HB, RA, RB, ST, NS, I0, I1, I2, BO, FI, RG, GU, PU, MA, MN, a.2, OT, SC], [r0, r1, r2, r3, w, r5, r6, r7, r8], Lg))) (fun b => ∀ s7 : Value, Ev (d + 1, 0, 0, 43, 53, [.val (.ref 1088), .val s7], [], (126, 120, L, [Y, T, HA, HB, RA, RB, ST, NS, I0, I1, I2, BO, FI, RG, GU, PU, MA, MN, b, OT, SC], [r0, r1, r2, r3, w, r5, r6, r7, r8], Lg)) o) ?_ a_F (0, (u1 MS 1 x1)) MS_8 zh4 ?_ ()
  · rintro ⟨v2, MS_3⟩ zr8 zh7 zi5 zx6 ⟨⟩
    have zh7 : f_M_findGoals_l16 MA v2 MS_3 = some zr8 := zh7
    by_cases zc9 : (MA 0 33) ≤ v2
    · have zh7 := itp zh7 zc9
      suffices e : Ev (d + 1, 0, 0, 43, 53, [.val (.ref 1088), .val (.int v2)], [], (126, 120, L, [Y, T, HA, HB, RA, RB, ST, NS, I0, I1, I2, BO, FI, RG, GU, PU, MA, MN, MS_3, OT, SC], [r0, r1, r2, r3, w, r5, r6, r7, r8], Lg)) o from ev_t (c := (MA 0 33) ≤ v2) _ _ 4 zc9 e (fun n => Eq.refl _)
      exact ev_b 0 (zx6 _ (Option.some.inj zh7).symm (.int v2)) (fun n => Eq.refl _)
    · have zh7 := itn zh7 zc9
      suffices e : Ev (d + 1, 0, 0, 43, 24, [.val (.ref 1088), .val (.int v2)], [], (126, 120, L, [Y, T, HA, HB, RA, RB, ST, NS, I0, I1, I2, BO, FI, RG, GU, PU, MA, MN, MS_3, OT, SC], [r0, r1, r2, r3, w, r5, r6, r7, r8], Lg)) o from ev_f (c := (MA 0 33) ≤ v2) _ _ 4 zc9 e (fun n => Eq.refl _)
      obtain ⟨x4, zh10, zh7⟩ := bnd zh7
      have zh10 : rdx (MA 9) 20 (2 * v2) = some x4 := zh10
      suffices e : Ev (d + 1, 0, 0, 43, 36, [.val (.ref 1088), .val (.int v2)], [.int x4, .ref 1217], (126, 120, L, [Y, T, HA, HB, RA, RB, ST, NS, I0, I1, I2, BO, FI, RG, GU, PU, MA, MN, MS_3, OT, SC], [r0, r1, r2, r3, w, r5, r6, r7, r8], Lg)) o from ev_opt (fun x4 => (d + 1, 0, 0, 43, 36, [.val (.ref 1088), .val (.int v2)], [.int x4, .ref 1217], (126, 120, L, [Y, T, HA, HB, RA, RB, ST, NS, I0, I1, I2, BO, FI, RG, GU, PU, MA, MN, MS_3, OT, SC], [r0, r1, r2, r3, w, r5, r6, r7, r8], Lg))) 8 zh10 e (fun n => Eq.refl _)
      obtain ⟨x5, zh11, zh7⟩ := bnd zh7
      have zh11 : rdx (MA 9) 20 ((2 * v2) + 1) = some x5 := zh11
      suffices e : Ev (d + 1, 0, 0, 43, 46, [.val (.ref 1088), .val (.int v2)], [.int x5, .int x4, .ref 1217], (126, 120, L, [Y, T, HA, HB, RA, RB, ST, NS, I0, I1, I2, BO, FI, RG, GU, PU, MA, MN, MS_3, OT, SC], [r0, r1, r2, r3, w, r5, r6, r7, r8], Lg)) o from ev_opt (fun x5 => (d + 1, 0, 0, 43, 46, [.val (.ref 1088), .val (.int v2)], [.int x5, .int x4, .ref 1217], (126, 120, L, [Y, T, HA, HB, RA, RB, ST, NS, I0, I1, I2, BO, FI, RG, GU, PU, MA, MN, MS_3, OT, SC], [r0, r1, r2, r3, w, r5, r6, r7, r8], Lg))) 8 zh11 e (fun n => Eq.refl _)
      obtain ⟨j6, zh12, zh7⟩ := bnd zh7
      have zh12 : ixx 10 x4 = some j6 := zh12
      suffices e : Ev (d + 1, 0, 0, 43, 47, [.val (.ref 1088), .val (.int v2)], [], (126, 120, L, [Y, T, HA, HB, RA, RB, ST, NS, I0, I1, I2, BO, FI, RG, GU, PU, MA, MN, (u2 MS_3 1 j6 x5), OT, SC], [r0, r1, r2, r3, w, r5, r6, r7, r8], Lg)) o from ev_opt (fun j6 => (d + 1, 0, 0, 43, 47, [.val (.ref 1088), .val (.int v2)], [], (126, 120, L, [Y, T, HA, HB, RA, RB, ST, NS, I0, I1, I2, BO, FI, RG, GU, PU, MA, MN, (u2 MS_3 1 j6 x5), OT, SC], [r0, r1, r2, r3, w, r5, r6, r7, r8], Lg))) 1 zh12 e (fun n => Eq.refl _)
      exact ev_b 2 (zi5 _ (Option.some.inj zh7).symm ()) (fun n => Eq.refl _)
  · skip
    intro s7
    have ze13 := Option.some.inj h
    subst ze13
    exact ev_rete 1 ho (fun n => Eq.refl _)
set_option maxRecDepth 1000000 in
set_option maxHeartbeats 4000000 in
theorem R_f_M_emit_0 (d : Nat) (Y T HA HB RA RB ST NS I0 I1 I2 BO FI RG GU PU MA MN MS OT SC : Nat → Nat → Int32) (r0 r1 r2 r3 w r5 r6 r7 r8 : Nat) (L : Nat) (Lg : Int64) (p1 : Int32) (p2 : Int32) {r : (Nat → Nat → Int32)} (h : f_M_emit MN p1 p2 = some r) : Ev (d + 1, 0, 0, 44, 0, [.val (.ref 1088), .val (.int p1), .val (.int p2)], [], (126, 120, L, [Y, T, HA, HB, RA, RB, ST, NS, I0, I1, I2, BO, FI, RG, GU, PU, MA, MN, MS, OT, SC], [r0, r1, r2, r3, w, r5, r6, r7, r8], Lg)) ((0, none, (126, 120, L, [Y, T, HA, HB, RA, RB, ST, NS, I0, I1, I2, BO, FI, RG, GU, PU, MA, r, MS, OT, SC], [r0, r1, r2, r3, w, r5, r6, r7, r8], Lg)) : AOut) := by
  suffices key : ∀ o : AOut, ((0, none, (126, 120, L, [Y, T, HA, HB, RA, RB, ST, NS, I0, I1, I2, BO, FI, RG, GU, PU, MA, r, MS, OT, SC], [r0, r1, r2, r3, w, r5, r6, r7, r8], Lg)) : AOut) = o → Ev (d + 1, 0, 0, 44, 0, [.val (.ref 1088), .val (.int p1), .val (.int p2)], [], (126, 120, L, [Y, T, HA, HB, RA, RB, ST, NS, I0, I1, I2, BO, FI, RG, GU, PU, MA, MN, MS, OT, SC], [r0, r1, r2, r3, w, r5, r6, r7, r8], Lg)) o from key _ rfl
  intro o ho
  obtain ⟨x1, zh1, h⟩ := bnd h
  have zh1 : f_M_fine MN = some x1 := zh1
  have ze2 := R_f_M_fine_0 (d + 0) Y T HA HB RA RB ST NS I0 I1 I2 BO FI RG GU PU MA MN MS OT SC r0 r1 r2 r3 w r5 r6 r7 r8 L Lg zh1
  suffices e : Ev (d + 1, 0, 0, 44, 4, [.val (.ref 1088), .val (.int p1), .val (.int p2)], [.int x1], (126, 120, L, [Y, T, HA, HB, RA, RB, ST, NS, I0, I1, I2, BO, FI, RG, GU, PU, MA, MN, MS, OT, SC], [r0, r1, r2, r3, w, r5, r6, r7, r8], Lg)) o from ev_call (fun v μ => (d + 1, 0, 0, 44, 4, [.val (.ref 1088), .val (.int p1), .val (.int p2)], v.toList ++ [], μ)) 2 ze2 e (fun n => Eq.refl _)
  by_cases zc3 : x1 ≠ 0
  · have h := itp h zc3
    suffices e : Ev (d + 1, 0, 0, 44, 8, [.val (.ref 1088), .val (.int p1), .val (.int p2)], [], (126, 120, L, [Y, T, HA, HB, RA, RB, ST, NS, I0, I1, I2, BO, FI, RG, GU, PU, MA, MN, MS, OT, SC], [r0, r1, r2, r3, w, r5, r6, r7, r8], Lg)) o from ev_t (c := x1 ≠ 0) _ _ 1 zc3 e (fun n => Eq.refl _)
    obtain ⟨j2, zh4, h⟩ := bnd h
    have zh4 : ixx 150 (MN 0 39) = some j2 := zh4
    suffices e : Ev (d + 1, 0, 0, 44, 18, [.val (.ref 1088), .val (.int p1), .val (.int p2)], [], (126, 120, L, [Y, T, HA, HB, RA, RB, ST, NS, I0, I1, I2, BO, FI, RG, GU, PU, MA, (u2 MN 6 j2 p1), MS, OT, SC], [r0, r1, r2, r3, w, r5, r6, r7, r8], Lg)) o from ev_opt (fun j2 => (d + 1, 0, 0, 44, 18, [.val (.ref 1088), .val (.int p1), .val (.int p2)], [], (126, 120, L, [Y, T, HA, HB, RA, RB, ST, NS, I0, I1, I2, BO, FI, RG, GU, PU, MA, (u2 MN 6 j2 p1), MS, OT, SC], [r0, r1, r2, r3, w, r5, r6, r7, r8], Lg))) 6 zh4 e (fun n => Eq.refl _)
    obtain ⟨j3, zh5, h⟩ := bnd h
    have zh5 : ixx 150 ((u2 MN 6 j2 p1) 0 39) = some j3 := zh5
    suffices e : Ev (d + 1, 0, 0, 44, 28, [.val (.ref 1088), .val (.int p1), .val (.int p2)], [], (126, 120, L, [Y, T, HA, HB, RA, RB, ST, NS, I0, I1, I2, BO, FI, RG, GU, PU, MA, (u2 (u2 MN 6 j2 p1) 7 j3 p2), MS, OT, SC], [r0, r1, r2, r3, w, r5, r6, r7, r8], Lg)) o from ev_opt (fun j3 => (d + 1, 0, 0, 44, 28, [.val (.ref 1088), .val (.int p1), .val (.int p2)], [], (126, 120, L, [Y, T, HA, HB, RA, RB, ST, NS, I0, I1, I2, BO, FI, RG, GU, PU, MA, (u2 (u2 MN 6 j2 p1) 7 j3 p2), MS, OT, SC], [r0, r1, r2, r3, w, r5, r6, r7, r8], Lg))) 6 zh5 e (fun n => Eq.refl _)
    have ze6 := Option.some.inj h
    subst ze6
    exact ev_rete 7 ho (fun n => Eq.refl _)
  · have h := itn h zc3
    suffices e : Ev (d + 1, 0, 0, 44, 7, [.val (.ref 1088), .val (.int p1), .val (.int p2)], [], (126, 120, L, [Y, T, HA, HB, RA, RB, ST, NS, I0, I1, I2, BO, FI, RG, GU, PU, MA, MN, MS, OT, SC], [r0, r1, r2, r3, w, r5, r6, r7, r8], Lg)) o from ev_f (c := x1 ≠ 0) _ _ 1 zc3 e (fun n => Eq.refl _)
    have ze7 := Option.some.inj h
    subst ze7
    exact ev_rete 1 ho (fun n => Eq.refl _)
set_option maxRecDepth 1000000 in
set_option maxHeartbeats 4000000 in
theorem R_f_M_opensOne_0 (d : Nat) (Y T HA HB RA RB ST NS I0 I1 I2 BO FI RG GU PU MA MN MS OT SC : Nat → Nat → Int32) (r0 r1 r2 r3 w r5 r6 r7 r8 : Nat) (L : Nat) (Lg : Int64) (p1 : Int32) {r : (Nat → Nat → Int32)} (h : f_M_opensOne MN p1 = some r) : Ev (d + 1, 0, 0, 45, 0, [.val (.ref 1088), .val (.int p1)], [], (126, 120, L, [Y, T, HA, HB, RA, RB, ST, NS, I0, I1, I2, BO, FI, RG, GU, PU, MA, MN, MS, OT, SC], [r0, r1, r2, r3, w, r5, r6, r7, r8], Lg)) ((0, none, (126, 120, L, [Y, T, HA, HB, RA, RB, ST, NS, I0, I1, I2, BO, FI, RG, GU, PU, MA, r, MS, OT, SC], [r0, r1, r2, r3, w, r5, r6, r7, r8], Lg)) : AOut) := by
  suffices key : ∀ o : AOut, ((0, none, (126, 120, L, [Y, T, HA, HB, RA, RB, ST, NS, I0, I1, I2, BO, FI, RG, GU, PU, MA, r, MS, OT, SC], [r0, r1, r2, r3, w, r5, r6, r7, r8], Lg)) : AOut) = o → Ev (d + 1, 0, 0, 45, 0, [.val (.ref 1088), .val (.int p1)], [], (126, 120, L, [Y, T, HA, HB, RA, RB, ST, NS, I0, I1, I2, BO, FI, RG, GU, PU, MA, MN, MS, OT, SC], [r0, r1, r2, r3, w, r5, r6, r7, r8], Lg)) o from key _ rfl
  intro o ho
  obtain ⟨x1, zh1, h⟩ := bnd h
  have zh1 : f_M_fine MN = some x1 := zh1
  have ze2 := R_f_M_fine_0 (d + 0) Y T HA HB RA RB ST NS I0 I1 I2 BO FI RG GU PU MA MN MS OT SC r0 r1 r2 r3 w r5 r6 r7 r8 L Lg zh1
  suffices e : Ev (d + 1, 0, 0, 45, 4, [.val (.ref 1088), .val (.int p1)], [.int x1], (126, 120, L, [Y, T, HA, HB, RA, RB, ST, NS, I0, I1, I2, BO, FI, RG, GU, PU, MA, MN, MS, OT, SC], [r0, r1, r2, r3, w, r5, r6, r7, r8], Lg)) o from ev_call (fun v μ => (d + 1, 0, 0, 45, 4, [.val (.ref 1088), .val (.int p1)], v.toList ++ [], μ)) 2 ze2 e (fun n => Eq.refl _)
  obtain ⟨zt3, zh4, h⟩ := bnd h
  have zj5 : ∀ (MN_3 : (Nat → Nat → Int32)), MN_3 = zt3 → Ev (d + 1, 0, 0, 45, 25, [.val (.ref 1088), .val (.int p1)], [], (126, 120, L, [Y, T, HA, HB, RA, RB, ST, NS, I0, I1, I2, BO, FI, RG, GU, PU, MA, MN_3, MS, OT, SC], [r0, r1, r2, r3, w, r5, r6, r7, r8], Lg)) o := by
    intro MN_3 ze6
    subst ze6
    obtain ⟨x4, zh7, h⟩ := bnd h
    have zh7 : f_M_fine MN_3 = some x4 := zh7
    have ze8 := R_f_M_fine_0 (d + 0) Y T HA HB RA RB ST NS I0 I1 I2 BO FI RG GU PU MA MN_3 MS OT SC r0 r1 r2 r3 w r5 r6 r7 r8 L Lg zh7
    suffices e : Ev (d + 1, 0, 0, 45, 29, [.val (.ref 1088), .val (.int p1)], [.int x4], (126, 120, L, [Y, T, HA, HB, RA, RB, ST, NS, I0, I1, I2, BO, FI, RG, GU, PU, MA, MN_3, MS, OT, SC], [r0, r1, r2, r3, w, r5, r6, r7, r8], Lg)) o from ev_call (fun v μ => (d + 1, 0, 0, 45, 29, [.val (.ref 1088), .val (.int p1)], v.toList ++ [], μ)) 2 ze8 e (fun n => Eq.refl _)
    obtain ⟨zt9, zh10, h⟩ := bnd h
    have zj11 : ∀ (MN_5 : (Nat → Nat → Int32)), MN_5 = zt9 → Ev (d + 1, 0, 0, 45, 42, [.val (.ref 1088), .val (.int p1)], [], (126, 120, L, [Y, T, HA, HB, RA, RB, ST, NS, I0, I1, I2, BO, FI, RG, GU, PU, MA, MN_5, MS, OT, SC], [r0, r1, r2, r3, w, r5, r6, r7, r8], Lg)) o := by
      intro MN_5 ze12
      subst ze12
      have ze13 := Option.some.inj h
      subst ze13
      exact ev_rete 7 ho (fun n => Eq.refl _)
    by_cases zc14 : x4 = 0
    · have zh10 := itp zh10 zc14
      suffices e : Ev (d + 1, 0, 0, 45, 42, [.val (.ref 1088), .val (.int p1)], [], (126, 120, L, [Y, T, HA, HB, RA, RB, ST, NS, I0, I1, I2, BO, FI, RG, GU, PU, MA, MN_3, MS, OT, SC], [r0, r1, r2, r3, w, r5, r6, r7, r8], Lg)) o from ev_t (c := x4 = 0) _ _ 1 zc14 e (fun n => Eq.refl _)
      exact ev_b 0 (zj11 MN_3 (Option.some.inj zh10) ) (fun n => Eq.refl _)
    · have zh10 := itn zh10 zc14
      suffices e : Ev (d + 1, 0, 0, 45, 32, [.val (.ref 1088), .val (.int p1)], [], (126, 120, L, [Y, T, HA, HB, RA, RB, ST, NS, I0, I1, I2, BO, FI, RG, GU, PU, MA, MN_3, MS, OT, SC], [r0, r1, r2, r3, w, r5, r6, r7, r8], Lg)) o from ev_f (c := x4 = 0) _ _ 1 zc14 e (fun n => Eq.refl _)
      exact ev_b 6 (zj11 (u2 MN_3 0 4 ((MN_3 0 4) + p1)) (Option.some.inj zh10) ) (fun n => Eq.refl _)
  by_cases zc15 : x1 = 0
  · have zh4 := itp zh4 zc15
    suffices e : Ev (d + 1, 0, 0, 45, 25, [.val (.ref 1088), .val (.int p1)], [], (126, 120, L, [Y, T, HA, HB, RA, RB, ST, NS, I0, I1, I2, BO, FI, RG, GU, PU, MA, MN, MS, OT, SC], [r0, r1, r2, r3, w, r5, r6, r7, r8], Lg)) o from ev_t (c := x1 = 0) _ _ 1 zc15 e (fun n => Eq.refl _)
    exact ev_b 0 (zj5 MN (Option.some.inj zh4) ) (fun n => Eq.refl _)
  · have zh4 := itn zh4 zc15
    suffices e : Ev (d + 1, 0, 0, 45, 7, [.val (.ref 1088), .val (.int p1)], [], (126, 120, L, [Y, T, HA, HB, RA, RB, ST, NS, I0, I1, I2, BO, FI, RG, GU, PU, MA, MN, MS, OT, SC], [r0, r1, r2, r3, w, r5, r6, r7, r8], Lg)) o from ev_f (c := x1 = 0) _ _ 1 zc15 e (fun n => Eq.refl _)
    by_cases zc16 : (MN 0 7) ≠ 6
    · have zh4 := itp zh4 zc16
      suffices e : Ev (d + 1, 0, 0, 45, 25, [.val (.ref 1088), .val (.int p1)], [], (126, 120, L, [Y, T, HA, HB, RA, RB, ST, NS, I0, I1, I2, BO, FI, RG, GU, PU, MA, MN, MS, OT, SC], [r0, r1, r2, r3, w, r5, r6, r7, r8], Lg)) o from ev_t (c := (MN 0 7) ≠ 6) _ _ 4 zc16 e (fun n => Eq.refl _)
      exact ev_b 0 (zj5 MN (Option.some.inj zh4) ) (fun n => Eq.refl _)
    · have zh4 := itn zh4 zc16
      suffices e : Ev (d + 1, 0, 0, 45, 16, [.val (.ref 1088), .val (.int p1)], [], (126, 120, L, [Y, T, HA, HB, RA, RB, ST, NS, I0, I1, I2, BO, FI, RG, GU, PU, MA, MN, MS, OT, SC], [r0, r1, r2, r3, w, r5, r6, r7, r8], Lg)) o from ev_f (c := (MN 0 7) ≠ 6) _ _ 4 zc16 e (fun n => Eq.refl _)
      obtain ⟨MN_2, zh17, zh4⟩ := bnd zh4
      have zh17 : f_M_wrong MN 3 (MN 0 4) = some MN_2 := zh17
      have ze18 := R_f_M_wrong_0 (d + 0) Y T HA HB RA RB ST NS I0 I1 I2 BO FI RG GU PU MA MN MS OT SC r0 r1 r2 r3 w r5 r6 r7 r8 L Lg 3 (MN 0 4) zh17
      suffices e : Ev (d + 1, 0, 0, 45, 25, [.val (.ref 1088), .val (.int p1)], [], (126, 120, L, [Y, T, HA, HB, RA, RB, ST, NS, I0, I1, I2, BO, FI, RG, GU, PU, MA, MN_2, MS, OT, SC], [r0, r1, r2, r3, w, r5, r6, r7, r8], Lg)) o from ev_call (fun v μ => (d + 1, 0, 0, 45, 25, [.val (.ref 1088), .val (.int p1)], v.toList ++ [], μ)) 5 ze18 e (fun n => Eq.refl _)
      exact ev_b 0 (zj5 MN_2 (Option.some.inj zh4) ) (fun n => Eq.refl _)
set_option maxRecDepth 1000000 in
set_option maxHeartbeats 4000000 in
theorem R_f_M_stands_0 (d : Nat) (Y T HA HB RA RB ST NS I0 I1 I2 BO FI RG GU PU MA MN MS OT SC : Nat → Nat → Int32) (r0 r1 r2 r3 w r5 r6 r7 r8 : Nat) (L : Nat) (Lg : Int64) (s1 : Nat) {r : Int32 × (Nat → Nat → Int32)} (h : f_M_stands MA MN s1 = some r) : Ev (d + 4, 0, 0, 51, 0, [.val (.ref 1088), .val (.ref s1), .val a_unk, .val a_unk], [], (126, 120, L, [Y, T, HA, HB, RA, RB, ST, NS, I0, I1, I2, BO, FI, RG, GU, PU, MA, MN, MS, OT, SC], [r0, r1, r2, r3, w, r5, r6, r7, r8], Lg)) ((0, some (.int r.1), (126, 120, L, [Y, T, HA, HB, RA, RB, ST, NS, I0, I1, I2, BO, FI, RG, GU, PU, MA, r.2, MS, OT, SC], [r0, r1, r2, r3, w, r5, r6, r7, r8], Lg)) : AOut) := by
  suffices key : ∀ o : AOut, ((0, some (.int r.1), (126, 120, L, [Y, T, HA, HB, RA, RB, ST, NS, I0, I1, I2, BO, FI, RG, GU, PU, MA, r.2, MS, OT, SC], [r0, r1, r2, r3, w, r5, r6, r7, r8], Lg)) : AOut) = o → Ev (d + 4, 0, 0, 51, 0, [.val (.ref 1088), .val (.ref s1), .val a_unk, .val a_unk], [], (126, 120, L, [Y, T, HA, HB, RA, RB, ST, NS, I0, I1, I2, BO, FI, RG, GU, PU, MA, MN, MS, OT, SC], [r0, r1, r2, r3, w, r5, r6, r7, r8], Lg)) o from key _ rfl
  intro o ho
  obtain ⟨⟨x1, MN_2⟩, zh1, h⟩ := bnd h
  have zh1 : f_M_here MA MN = some (x1, MN_2) := zh1
  have ze2 := R_f_M_here_0 (d + 3) Y T HA HB RA RB ST NS I0 I1 I2 BO FI RG GU PU MA MN MS OT SC r0 r1 r2 r3 w r5 r6 r7 r8 L Lg zh1
  suffices e : Ev (d + 4, 0, 0, 51, 4, [.val (.ref 1088), .val (.ref s1), .val a_unk, .val a_unk], [.int x1], (126, 120, L, [Y, T, HA, HB, RA, RB, ST, NS, I0, I1, I2, BO, FI, RG, GU, PU, MA, MN_2, MS, OT, SC], [r0, r1, r2, r3, w, r5, r6, r7, r8], Lg)) o from ev_call (fun v μ => (d + 4, 0, 0, 51, 4, [.val (.ref 1088), .val (.ref s1), .val a_unk, .val a_unk], v.toList ++ [], μ)) 2 ze2 e (fun n => Eq.refl _)
  obtain ⟨zb3, zh4, h⟩ := bnd h
  suffices e : Ev (d + 4, 0, 0, 51, 12, [.val (.ref 1088), .val (.ref s1), .val (.int (MN_2 0 4)), .val (.int 0)], [], (126, 120, L, [Y, T, HA, HB, RA, RB, ST, NS, I0, I1, I2, BO, FI, RG, GU, PU, MA, MN_2, MS, OT, SC], [r0, r1, r2, r3, w, r5, r6, r7, r8], Lg)) o from ev_b 6 e (fun n => Eq.refl _)
  refine ev_loop (δ := Unit) (fun a j => (d + 4, 0, 0, 51, 12, [.val (.ref 1088), .val (.ref s1), .val (.int (MN_2 0 4)), .val (.int a)], [], (126, 120, L, [Y, T, HA, HB, RA, RB, ST, NS, I0, I1, I2, BO, FI, RG, GU, PU, MA, MN_2, MS, OT, SC], [r0, r1, r2, r3, w, r5, r6, r7, r8], Lg))) (fun b => sumE b (fun b => ∀ s6 : Value, Ev (d + 4, 0, 0, 51, 54, [.val (.ref 1088), .val (.ref s1), .val (.int (MN_2 0 4)), .val s6], [], (126, 120, L, [Y, T, HA, HB, RA, RB, ST, NS, I0, I1, I2, BO, FI, RG, GU, PU, MA, MN_2, MS, OT, SC], [r0, r1, r2, r3, w, r5, r6, r7, r8], Lg)) o) (fun b => ((0, some (.int b.1), (126, 120, L, [Y, T, HA, HB, RA, RB, ST, NS, I0, I1, I2, BO, FI, RG, GU, PU, MA, b.2, MS, OT, SC], [r0, r1, r2, r3, w, r5, r6, r7, r8], Lg)) : AOut) = o)) ?_ a_F 0 zb3 zh4 ?_ ()
  · rintro v3 zr8 zh7 zi5 zx6 ⟨⟩
    have zh7 : f_M_stands_l12 MA s1 MN_2 v3 = some zr8 := zh7
    by_cases zg9 : ¬ (isS s1)
    · exact nos (itn zh7 zg9)
    have zg9 := Decidable.not_not.mp zg9
    have zh7 := itp zh7 zg9
    suffices e : Ev (d + 4, 0, 0, 51, 14, [.val (.ref 1088), .val (.ref s1), .val (.int (MN_2 0 4)), .val (.int v3)], [.ref s1, .int v3], (126, 120, L, [Y, T, HA, HB, RA, RB, ST, NS, I0, I1, I2, BO, FI, RG, GU, PU, MA, MN_2, MS, OT, SC], [r0, r1, r2, r3, w, r5, r6, r7, r8], Lg)) o from ev_b 2 e (fun n => Eq.refl _)
    refine r_inv (args := []) (rest := [.int v3]) rfl rfl rfl rfl (cS zg9).1 (cS zg9).2.1 rfl (R_len (d + 2) s1 (126, 120, L, [Y, T, HA, HB, RA, RB, ST, NS, I0, I1, I2, BO, FI, RG, GU, PU, MA, MN_2, MS, OT, SC], [r0, r1, r2, r3, w, r5, r6, r7, r8], Lg) zg9) ?_
    by_cases zc10 : (s_len s1) ≤ v3
    · have zh7 := itp zh7 zc10
      suffices e : Ev (d + 4, 0, 0, 51, 54, [.val (.ref 1088), .val (.ref s1), .val (.int (MN_2 0 4)), .val (.int v3)], [], (126, 120, L, [Y, T, HA, HB, RA, RB, ST, NS, I0, I1, I2, BO, FI, RG, GU, PU, MA, MN_2, MS, OT, SC], [r0, r1, r2, r3, w, r5, r6, r7, r8], Lg)) o from ev_t (c := (s_len s1) ≤ v3) _ _ 1 zc10 e (fun n => Eq.refl _)
      exact ev_b 0 (zx6 _ (Option.some.inj zh7).symm (.int v3)) (fun n => Eq.refl _)
    · have zh7 := itn zh7 zc10
      suffices e : Ev (d + 4, 0, 0, 51, 20, [.val (.ref 1088), .val (.ref s1), .val (.int (MN_2 0 4)), .val (.int v3)], [], (126, 120, L, [Y, T, HA, HB, RA, RB, ST, NS, I0, I1, I2, BO, FI, RG, GU, PU, MA, MN_2, MS, OT, SC], [r0, r1, r2, r3, w, r5, r6, r7, r8], Lg)) o from ev_f (c := (s_len s1) ≤ v3) _ _ 1 zc10 e (fun n => Eq.refl _)
      by_cases zc11 : (MN_2 0 3) ≤ ((MN_2 0 4) + v3)
      · have zh7 := itp zh7 zc11
        suffices e : Ev (d + 4, 0, 0, 51, 46, [.val (.ref 1088), .val (.ref s1), .val (.int (MN_2 0 4)), .val (.int v3)], [], (126, 120, L, [Y, T, HA, HB, RA, RB, ST, NS, I0, I1, I2, BO, FI, RG, GU, PU, MA, MN_2, MS, OT, SC], [r0, r1, r2, r3, w, r5, r6, r7, r8], Lg)) o from ev_t (c := (MN_2 0 3) ≤ ((MN_2 0 4) + v3)) _ _ 6 zc11 e (fun n => Eq.refl _)
        exact ev_rete 2 (zx6 _ (Option.some.inj zh7).symm) (fun n => Eq.refl _)
      · have zh7 := itn zh7 zc11
        suffices e : Ev (d + 4, 0, 0, 51, 30, [.val (.ref 1088), .val (.ref s1), .val (.int (MN_2 0 4)), .val (.int v3)], [], (126, 120, L, [Y, T, HA, HB, RA, RB, ST, NS, I0, I1, I2, BO, FI, RG, GU, PU, MA, MN_2, MS, OT, SC], [r0, r1, r2, r3, w, r5, r6, r7, r8], Lg)) o from ev_f (c := (MN_2 0 3) ≤ ((MN_2 0 4) + v3)) _ _ 6 zc11 e (fun n => Eq.refl _)
        obtain ⟨x4, zh12, zh7⟩ := bnd zh7
        have zh12 : rdx (MA 2) 600 ((MN_2 0 4) + v3) = some x4 := zh12
        suffices e : Ev (d + 4, 0, 0, 51, 38, [.val (.ref 1088), .val (.ref s1), .val (.int (MN_2 0 4)), .val (.int v3)], [.int x4], (126, 120, L, [Y, T, HA, HB, RA, RB, ST, NS, I0, I1, I2, BO, FI, RG, GU, PU, MA, MN_2, MS, OT, SC], [r0, r1, r2, r3, w, r5, r6, r7, r8], Lg)) o from ev_opt (fun x4 => (d + 4, 0, 0, 51, 38, [.val (.ref 1088), .val (.ref s1), .val (.int (MN_2 0 4)), .val (.int v3)], [.int x4], (126, 120, L, [Y, T, HA, HB, RA, RB, ST, NS, I0, I1, I2, BO, FI, RG, GU, PU, MA, MN_2, MS, OT, SC], [r0, r1, r2, r3, w, r5, r6, r7, r8], Lg))) 6 zh12 e (fun n => Eq.refl _)
        by_cases zg13 : ¬ (isS s1)
        · exact nos (itn zh7 zg13)
        have zg13 := Decidable.not_not.mp zg13
        have zh7 := itp zh7 zg13
        obtain ⟨x5, zh14, zh7⟩ := bnd zh7
        suffices e : Ev (d + 4, 0, 0, 51, 40, [.val (.ref 1088), .val (.ref s1), .val (.int (MN_2 0 4)), .val (.int v3)], [.int v3, .ref s1, .int x4], (126, 120, L, [Y, T, HA, HB, RA, RB, ST, NS, I0, I1, I2, BO, FI, RG, GU, PU, MA, MN_2, MS, OT, SC], [r0, r1, r2, r3, w, r5, r6, r7, r8], Lg)) o from ev_b 2 e (fun n => Eq.refl _)
        refine r_inv (args := [.int v3]) (rest := [.int x4]) rfl rfl rfl rfl (cS zg13).1 (cS zg13).2.1 rfl (R_ch (d + 0) s1 v3 x5 (126, 120, L, [Y, T, HA, HB, RA, RB, ST, NS, I0, I1, I2, BO, FI, RG, GU, PU, MA, MN_2, MS, OT, SC], [r0, r1, r2, r3, w, r5, r6, r7, r8], Lg) zg13 zh14) ?_
        by_cases zc15 : x4 = x5
        · have zh7 := itp zh7 zc15
          suffices e : Ev (d + 4, 0, 0, 51, 48, [.val (.ref 1088), .val (.ref s1), .val (.int (MN_2 0 4)), .val (.int v3)], [], (126, 120, L, [Y, T, HA, HB, RA, RB, ST, NS, I0, I1, I2, BO, FI, RG, GU, PU, MA, MN_2, MS, OT, SC], [r0, r1, r2, r3, w, r5, r6, r7, r8], Lg)) o from ev_t (c := x4 = x5) _ _ 1 zc15 e (fun n => Eq.refl _)
          exact ev_b 2 (zi5 _ (Option.some.inj zh7).symm ()) (fun n => Eq.refl _)
        · have zh7 := itn zh7 zc15
          suffices e : Ev (d + 4, 0, 0, 51, 46, [.val (.ref 1088), .val (.ref s1), .val (.int (MN_2 0 4)), .val (.int v3)], [], (126, 120, L, [Y, T, HA, HB, RA, RB, ST, NS, I0, I1, I2, BO, FI, RG, GU, PU, MA, MN_2, MS, OT, SC], [r0, r1, r2, r3, w, r5, r6, r7, r8], Lg)) o from ev_f (c := x4 = x5) _ _ 1 zc15 e (fun n => Eq.refl _)
          exact ev_rete 2 (zx6 _ (Option.some.inj zh7).symm) (fun n => Eq.refl _)
  · rcases zb3 with ⟨⟩ | zr8
    · intro s6
      by_cases zg16 : ¬ (isS s1)
      · exact nos (itn h zg16)
      have zg16 := Decidable.not_not.mp zg16
      have h := itp h zg16
      suffices e : Ev (d + 4, 0, 0, 51, 56, [.val (.ref 1088), .val (.ref s1), .val (.int (MN_2 0 4)), .val s6], [.ref s1, .int (MN_2 0 4)], (126, 120, L, [Y, T, HA, HB, RA, RB, ST, NS, I0, I1, I2, BO, FI, RG, GU, PU, MA, MN_2, MS, OT, SC], [r0, r1, r2, r3, w, r5, r6, r7, r8], Lg)) o from ev_b 2 e (fun n => Eq.refl _)
      refine r_inv (args := []) (rest := [.int (MN_2 0 4)]) rfl rfl rfl rfl (cS zg16).1 (cS zg16).2.1 rfl (R_len (d + 2) s1 (126, 120, L, [Y, T, HA, HB, RA, RB, ST, NS, I0, I1, I2, BO, FI, RG, GU, PU, MA, MN_2, MS, OT, SC], [r0, r1, r2, r3, w, r5, r6, r7, r8], Lg) zg16) ?_
      by_cases zc17 : (MN_2 0 3) ≤ ((MN_2 0 4) + (s_len s1))
      · have h := itp h zc17
        suffices e : Ev (d + 4, 0, 0, 51, 84, [.val (.ref 1088), .val (.ref s1), .val (.int (MN_2 0 4)), .val s6], [], (126, 120, L, [Y, T, HA, HB, RA, RB, ST, NS, I0, I1, I2, BO, FI, RG, GU, PU, MA, MN_2, MS, OT, SC], [r0, r1, r2, r3, w, r5, r6, r7, r8], Lg)) o from ev_t (c := (MN_2 0 3) ≤ ((MN_2 0 4) + (s_len s1))) _ _ 4 zc17 e (fun n => Eq.refl _)
        have ze18 := Option.some.inj h
        subst ze18
        exact ev_rete 3 ho (fun n => Eq.refl _)
      · have h := itn h zc17
        suffices e : Ev (d + 4, 0, 0, 51, 67, [.val (.ref 1088), .val (.ref s1), .val (.int (MN_2 0 4)), .val s6], [], (126, 120, L, [Y, T, HA, HB, RA, RB, ST, NS, I0, I1, I2, BO, FI, RG, GU, PU, MA, MN_2, MS, OT, SC], [r0, r1, r2, r3, w, r5, r6, r7, r8], Lg)) o from ev_f (c := (MN_2 0 3) ≤ ((MN_2 0 4) + (s_len s1))) _ _ 4 zc17 e (fun n => Eq.refl _)
        by_cases zg19 : ¬ (isS s1)
        · exact nos (itn h zg19)
        have zg19 := Decidable.not_not.mp zg19
        have h := itp h zg19
        suffices e : Ev (d + 4, 0, 0, 51, 73, [.val (.ref 1088), .val (.ref s1), .val (.int (MN_2 0 4)), .val s6], [.ref s1, .int (MN_2 0 4), .ref 1090], (126, 120, L, [Y, T, HA, HB, RA, RB, ST, NS, I0, I1, I2, BO, FI, RG, GU, PU, MA, MN_2, MS, OT, SC], [r0, r1, r2, r3, w, r5, r6, r7, r8], Lg)) o from ev_b 4 e (fun n => Eq.refl _)
        refine r_inv (args := []) (rest := [.int (MN_2 0 4), .ref 1090]) rfl rfl rfl rfl (cS zg19).1 (cS zg19).2.1 rfl (R_len (d + 2) s1 (126, 120, L, [Y, T, HA, HB, RA, RB, ST, NS, I0, I1, I2, BO, FI, RG, GU, PU, MA, MN_2, MS, OT, SC], [r0, r1, r2, r3, w, r5, r6, r7, r8], Lg) zg19) ?_
        obtain ⟨x7, zh20, h⟩ := bnd h
        have zh20 : rdx (MA 2) 600 ((MN_2 0 4) + (s_len s1)) = some x7 := zh20
        suffices e : Ev (d + 4, 0, 0, 51, 78, [.val (.ref 1088), .val (.ref s1), .val (.int (MN_2 0 4)), .val s6], [.int x7], (126, 120, L, [Y, T, HA, HB, RA, RB, ST, NS, I0, I1, I2, BO, FI, RG, GU, PU, MA, MN_2, MS, OT, SC], [r0, r1, r2, r3, w, r5, r6, r7, r8], Lg)) o from ev_opt (fun x7 => (d + 4, 0, 0, 51, 78, [.val (.ref 1088), .val (.ref s1), .val (.int (MN_2 0 4)), .val s6], [.int x7], (126, 120, L, [Y, T, HA, HB, RA, RB, ST, NS, I0, I1, I2, BO, FI, RG, GU, PU, MA, MN_2, MS, OT, SC], [r0, r1, r2, r3, w, r5, r6, r7, r8], Lg))) 2 zh20 e (fun n => Eq.refl _)
        obtain ⟨x8, zh21, h⟩ := bnd h
        have zh21 : f_M_isSmall x7 = some x8 := zh21
        have ze22 := R_f_M_isSmall_0 (d + 3) Y T HA HB RA RB ST NS I0 I1 I2 BO FI RG GU PU MA MN_2 MS OT SC r0 r1 r2 r3 w r5 r6 r7 r8 L Lg x7 zh21
        suffices e : Ev (d + 4, 0, 0, 51, 81, [.val (.ref 1088), .val (.ref s1), .val (.int (MN_2 0 4)), .val s6], [.int x8], (126, 120, L, [Y, T, HA, HB, RA, RB, ST, NS, I0, I1, I2, BO, FI, RG, GU, PU, MA, MN_2, MS, OT, SC], [r0, r1, r2, r3, w, r5, r6, r7, r8], Lg)) o from ev_call (fun v μ => (d + 4, 0, 0, 51, 81, [.val (.ref 1088), .val (.ref s1), .val (.int (MN_2 0 4)), .val s6], v.toList ++ [], μ)) 1 ze22 e (fun n => Eq.refl _)
        by_cases zc23 : x8 ≠ 0
        · have h := itp h zc23
          suffices e : Ev (d + 4, 0, 0, 51, 88, [.val (.ref 1088), .val (.ref s1), .val (.int (MN_2 0 4)), .val s6], [], (126, 120, L, [Y, T, HA, HB, RA, RB, ST, NS, I0, I1, I2, BO, FI, RG, GU, PU, MA, MN_2, MS, OT, SC], [r0, r1, r2, r3, w, r5, r6, r7, r8], Lg)) o from ev_t (c := x8 ≠ 0) _ _ 1 zc23 e (fun n => Eq.refl _)
          have ze24 := Option.some.inj h
          subst ze24
          exact ev_rete 2 ho (fun n => Eq.refl _)
        · have h := itn h zc23
          suffices e : Ev (d + 4, 0, 0, 51, 84, [.val (.ref 1088), .val (.ref s1), .val (.int (MN_2 0 4)), .val s6], [], (126, 120, L, [Y, T, HA, HB, RA, RB, ST, NS, I0, I1, I2, BO, FI, RG, GU, PU, MA, MN_2, MS, OT, SC], [r0, r1, r2, r3, w, r5, r6, r7, r8], Lg)) o from ev_f (c := x8 ≠ 0) _ _ 1 zc23 e (fun n => Eq.refl _)
          have ze25 := Option.some.inj h
          subst ze25
          exact ev_rete 3 ho (fun n => Eq.refl _)
    · have zh26 : some zr8 = some r := h
      exact (congrArg (fun q => ((0, some (.int q.1), (126, 120, L, [Y, T, HA, HB, RA, RB, ST, NS, I0, I1, I2, BO, FI, RG, GU, PU, MA, q.2, MS, OT, SC], [r0, r1, r2, r3, w, r5, r6, r7, r8], Lg)) : AOut)) (Option.some.inj zh26)).trans ho
set_option maxRecDepth 1000000 in
set_option maxHeartbeats 4000000 in
theorem R_f_M_factHere_0 (d : Nat) (Y T HA HB RA RB ST NS I0 I1 I2 BO FI RG GU PU MA MN MS OT SC : Nat → Nat → Int32) (r0 r1 r2 r3 w r5 r6 r7 r8 : Nat) (L : Nat) (Lg : Int64) {r : Int32 × (Nat → Nat → Int32)} (h : f_M_factHere MA MN = some r) : Ev (d + 5, 0, 0, 52, 0, [.val (.ref 1088), .val a_unk], [], (126, 120, L, [Y, T, HA, HB, RA, RB, ST, NS, I0, I1, I2, BO, FI, RG, GU, PU, MA, MN, MS, OT, SC], [r0, r1, r2, r3, w, r5, r6, r7, r8], Lg)) ((0, some (.int r.1), (126, 120, L, [Y, T, HA, HB, RA, RB, ST, NS, I0, I1, I2, BO, FI, RG, GU, PU, MA, r.2, MS, OT, SC], [r0, r1, r2, r3, w, r5, r6, r7, r8], Lg)) : AOut) := by
  suffices key : ∀ o : AOut, ((0, some (.int r.1), (126, 120, L, [Y, T, HA, HB, RA, RB, ST, NS, I0, I1, I2, BO, FI, RG, GU, PU, MA, r.2, MS, OT, SC], [r0, r1, r2, r3, w, r5, r6, r7, r8], Lg)) : AOut) = o → Ev (d + 5, 0, 0, 52, 0, [.val (.ref 1088), .val a_unk], [], (126, 120, L, [Y, T, HA, HB, RA, RB, ST, NS, I0, I1, I2, BO, FI, RG, GU, PU, MA, MN, MS, OT, SC], [r0, r1, r2, r3, w, r5, r6, r7, r8], Lg)) o from key _ rfl
  intro o ho
  obtain ⟨⟨x1, MN_2⟩, zh1, h⟩ := bnd h
  have zh1 : f_M_word MA MN = some (x1, MN_2) := zh1
  have ze2 := R_f_M_word_0 (d + 3) Y T HA HB RA RB ST NS I0 I1 I2 BO FI RG GU PU MA MN MS OT SC r0 r1 r2 r3 w r5 r6 r7 r8 L Lg zh1
  suffices e : Ev (d + 5, 0, 0, 52, 4, [.val (.ref 1088), .val a_unk], [.int x1], (126, 120, L, [Y, T, HA, HB, RA, RB, ST, NS, I0, I1, I2, BO, FI, RG, GU, PU, MA, MN_2, MS, OT, SC], [r0, r1, r2, r3, w, r5, r6, r7, r8], Lg)) o from ev_call (fun v μ => (d + 5, 0, 0, 52, 4, [.val (.ref 1088), .val a_unk], v.toList ++ [], μ)) 2 ze2 e (fun n => Eq.refl _)
  obtain ⟨⟨x3, MN_4⟩, zh3, h⟩ := bnd h
  have zh3 : f_M_stands MA MN_2 2660 = some (x3, MN_4) := zh3
  have ze4 := R_f_M_stands_0 (d + 0) Y T HA HB RA RB ST NS I0 I1 I2 BO FI RG GU PU MA MN_2 MS OT SC r0 r1 r2 r3 w r5 r6 r7 r8 L Lg 2660 zh3
  suffices e : Ev (d + 5, 0, 0, 52, 12, [.val (.ref 1088), .val (.int x1)], [.int x3], (126, 120, L, [Y, T, HA, HB, RA, RB, ST, NS, I0, I1, I2, BO, FI, RG, GU, PU, MA, MN_4, MS, OT, SC], [r0, r1, r2, r3, w, r5, r6, r7, r8], Lg)) o from ev_call (fun v μ => (d + 5, 0, 0, 52, 12, [.val (.ref 1088), .val (.int x1)], v.toList ++ [], μ)) 4 ze4 e (fun n => Eq.refl _)
  by_cases zc5 : x3 = 0
  · have h := itp h zc5
    suffices e : Ev (d + 5, 0, 0, 52, 18, [.val (.ref 1088), .val (.int x1)], [], (126, 120, L, [Y, T, HA, HB, RA, RB, ST, NS, I0, I1, I2, BO, FI, RG, GU, PU, MA, MN_4, MS, OT, SC], [r0, r1, r2, r3, w, r5, r6, r7, r8], Lg)) o from ev_t (c := x3 = 0) _ _ 1 zc5 e (fun n => Eq.refl _)
    obtain ⟨⟨x5, MN_6⟩, zh6, h⟩ := bnd h
    have zh6 : f_M_stands MA MN_4 2661 = some (x5, MN_6) := zh6
    have ze7 := R_f_M_stands_0 (d + 0) Y T HA HB RA RB ST NS I0 I1 I2 BO FI RG GU PU MA MN_4 MS OT SC r0 r1 r2 r3 w r5 r6 r7 r8 L Lg 2661 zh6
    suffices e : Ev (d + 5, 0, 0, 52, 25, [.val (.ref 1088), .val (.int x1)], [.int x5], (126, 120, L, [Y, T, HA, HB, RA, RB, ST, NS, I0, I1, I2, BO, FI, RG, GU, PU, MA, MN_6, MS, OT, SC], [r0, r1, r2, r3, w, r5, r6, r7, r8], Lg)) o from ev_call (fun v μ => (d + 5, 0, 0, 52, 25, [.val (.ref 1088), .val (.int x1)], v.toList ++ [], μ)) 3 ze7 e (fun n => Eq.refl _)
    by_cases zc8 : x5 = 0
    · have h := itp h zc8
      suffices e : Ev (d + 5, 0, 0, 52, 30, [.val (.ref 1088), .val (.int x1)], [], (126, 120, L, [Y, T, HA, HB, RA, RB, ST, NS, I0, I1, I2, BO, FI, RG, GU, PU, MA, MN_6, MS, OT, SC], [r0, r1, r2, r3, w, r5, r6, r7, r8], Lg)) o from ev_t (c := x5 = 0) _ _ 1 zc8 e (fun n => Eq.refl _)
      obtain ⟨x7, zh9, h⟩ := bnd h
      have zh9 : f_M_of 2662 = some x7 := zh9
      have ze10 := R_f_M_of_0 (d + 0) Y T HA HB RA RB ST NS I0 I1 I2 BO FI RG GU PU MA MN_6 MS OT SC r0 r1 r2 r3 w r5 r6 r7 r8 L Lg 2662 zh9
      suffices e : Ev (d + 5, 0, 0, 52, 37, [.val (.ref 1088), .val (.int x1)], [.int x7, .int x1], (126, 120, L, [Y, T, HA, HB, RA, RB, ST, NS, I0, I1, I2, BO, FI, RG, GU, PU, MA, MN_6, MS, OT, SC], [r0, r1, r2, r3, w, r5, r6, r7, r8], Lg)) o from ev_call (fun v μ => (d + 5, 0, 0, 52, 37, [.val (.ref 1088), .val (.int x1)], v.toList ++ [.int x1], μ)) 3 ze10 e (fun n => Eq.refl _)
      by_cases zc11 : x1 ≠ x7
      · have h := itp h zc11
        suffices e : Ev (d + 5, 0, 0, 52, 44, [.val (.ref 1088), .val (.int x1)], [], (126, 120, L, [Y, T, HA, HB, RA, RB, ST, NS, I0, I1, I2, BO, FI, RG, GU, PU, MA, MN_6, MS, OT, SC], [r0, r1, r2, r3, w, r5, r6, r7, r8], Lg)) o from ev_t (c := x1 ≠ x7) _ _ 1 zc11 e (fun n => Eq.refl _)
        obtain ⟨x8, zh12, h⟩ := bnd h
        have zh12 : f_M_of 2663 = some x8 := zh12
        have ze13 := R_f_M_of_0 (d + 0) Y T HA HB RA RB ST NS I0 I1 I2 BO FI RG GU PU MA MN_6 MS OT SC r0 r1 r2 r3 w r5 r6 r7 r8 L Lg 2663 zh12
        suffices e : Ev (d + 5, 0, 0, 52, 51, [.val (.ref 1088), .val (.int x1)], [.int x8, .int x1], (126, 120, L, [Y, T, HA, HB, RA, RB, ST, NS, I0, I1, I2, BO, FI, RG, GU, PU, MA, MN_6, MS, OT, SC], [r0, r1, r2, r3, w, r5, r6, r7, r8], Lg)) o from ev_call (fun v μ => (d + 5, 0, 0, 52, 51, [.val (.ref 1088), .val (.int x1)], v.toList ++ [.int x1], μ)) 3 ze13 e (fun n => Eq.refl _)
        by_cases zc14 : x1 ≠ x8
        · have h := itp h zc14
          suffices e : Ev (d + 5, 0, 0, 52, 58, [.val (.ref 1088), .val (.int x1)], [], (126, 120, L, [Y, T, HA, HB, RA, RB, ST, NS, I0, I1, I2, BO, FI, RG, GU, PU, MA, MN_6, MS, OT, SC], [r0, r1, r2, r3, w, r5, r6, r7, r8], Lg)) o from ev_t (c := x1 ≠ x8) _ _ 1 zc14 e (fun n => Eq.refl _)
          obtain ⟨x9, zh15, h⟩ := bnd h
          have zh15 : f_M_of 2664 = some x9 := zh15
          have ze16 := R_f_M_of_0 (d + 0) Y T HA HB RA RB ST NS I0 I1 I2 BO FI RG GU PU MA MN_6 MS OT SC r0 r1 r2 r3 w r5 r6 r7 r8 L Lg 2664 zh15
          suffices e : Ev (d + 5, 0, 0, 52, 65, [.val (.ref 1088), .val (.int x1)], [.int x9, .int x1], (126, 120, L, [Y, T, HA, HB, RA, RB, ST, NS, I0, I1, I2, BO, FI, RG, GU, PU, MA, MN_6, MS, OT, SC], [r0, r1, r2, r3, w, r5, r6, r7, r8], Lg)) o from ev_call (fun v μ => (d + 5, 0, 0, 52, 65, [.val (.ref 1088), .val (.int x1)], v.toList ++ [.int x1], μ)) 3 ze16 e (fun n => Eq.refl _)
          by_cases zc17 : x1 ≠ x9
          · have h := itp h zc17
            suffices e : Ev (d + 5, 0, 0, 52, 72, [.val (.ref 1088), .val (.int x1)], [], (126, 120, L, [Y, T, HA, HB, RA, RB, ST, NS, I0, I1, I2, BO, FI, RG, GU, PU, MA, MN_6, MS, OT, SC], [r0, r1, r2, r3, w, r5, r6, r7, r8], Lg)) o from ev_t (c := x1 ≠ x9) _ _ 1 zc17 e (fun n => Eq.refl _)
            obtain ⟨x10, zh18, h⟩ := bnd h
            have zh18 : f_M_of 2665 = some x10 := zh18
            have ze19 := R_f_M_of_0 (d + 0) Y T HA HB RA RB ST NS I0 I1 I2 BO FI RG GU PU MA MN_6 MS OT SC r0 r1 r2 r3 w r5 r6 r7 r8 L Lg 2665 zh18
            suffices e : Ev (d + 5, 0, 0, 52, 79, [.val (.ref 1088), .val (.int x1)], [.int x10, .int x1], (126, 120, L, [Y, T, HA, HB, RA, RB, ST, NS, I0, I1, I2, BO, FI, RG, GU, PU, MA, MN_6, MS, OT, SC], [r0, r1, r2, r3, w, r5, r6, r7, r8], Lg)) o from ev_call (fun v μ => (d + 5, 0, 0, 52, 79, [.val (.ref 1088), .val (.int x1)], v.toList ++ [.int x1], μ)) 3 ze19 e (fun n => Eq.refl _)
            by_cases zc20 : x1 ≠ x10
            · have h := itp h zc20
              suffices e : Ev (d + 5, 0, 0, 52, 86, [.val (.ref 1088), .val (.int x1)], [], (126, 120, L, [Y, T, HA, HB, RA, RB, ST, NS, I0, I1, I2, BO, FI, RG, GU, PU, MA, MN_6, MS, OT, SC], [r0, r1, r2, r3, w, r5, r6, r7, r8], Lg)) o from ev_t (c := x1 ≠ x10) _ _ 1 zc20 e (fun n => Eq.refl _)
              obtain ⟨x11, zh21, h⟩ := bnd h
              have zh21 : f_M_of 2666 = some x11 := zh21
              have ze22 := R_f_M_of_0 (d + 0) Y T HA HB RA RB ST NS I0 I1 I2 BO FI RG GU PU MA MN_6 MS OT SC r0 r1 r2 r3 w r5 r6 r7 r8 L Lg 2666 zh21
              suffices e : Ev (d + 5, 0, 0, 52, 93, [.val (.ref 1088), .val (.int x1)], [.int x11, .int x1], (126, 120, L, [Y, T, HA, HB, RA, RB, ST, NS, I0, I1, I2, BO, FI, RG, GU, PU, MA, MN_6, MS, OT, SC], [r0, r1, r2, r3, w, r5, r6, r7, r8], Lg)) o from ev_call (fun v μ => (d + 5, 0, 0, 52, 93, [.val (.ref 1088), .val (.int x1)], v.toList ++ [.int x1], μ)) 3 ze22 e (fun n => Eq.refl _)
              by_cases zc23 : x1 ≠ x11
              · have h := itp h zc23
                suffices e : Ev (d + 5, 0, 0, 52, 100, [.val (.ref 1088), .val (.int x1)], [], (126, 120, L, [Y, T, HA, HB, RA, RB, ST, NS, I0, I1, I2, BO, FI, RG, GU, PU, MA, MN_6, MS, OT, SC], [r0, r1, r2, r3, w, r5, r6, r7, r8], Lg)) o from ev_t (c := x1 ≠ x11) _ _ 1 zc23 e (fun n => Eq.refl _)
                obtain ⟨x12, zh24, h⟩ := bnd h
                have zh24 : f_M_of 2667 = some x12 := zh24
                have ze25 := R_f_M_of_0 (d + 0) Y T HA HB RA RB ST NS I0 I1 I2 BO FI RG GU PU MA MN_6 MS OT SC r0 r1 r2 r3 w r5 r6 r7 r8 L Lg 2667 zh24
                suffices e : Ev (d + 5, 0, 0, 52, 107, [.val (.ref 1088), .val (.int x1)], [.int x12, .int x1], (126, 120, L, [Y, T, HA, HB, RA, RB, ST, NS, I0, I1, I2, BO, FI, RG, GU, PU, MA, MN_6, MS, OT, SC], [r0, r1, r2, r3, w, r5, r6, r7, r8], Lg)) o from ev_call (fun v μ => (d + 5, 0, 0, 52, 107, [.val (.ref 1088), .val (.int x1)], v.toList ++ [.int x1], μ)) 3 ze25 e (fun n => Eq.refl _)
                by_cases zc26 : x1 ≠ x12
                · have h := itp h zc26
                  suffices e : Ev (d + 5, 0, 0, 52, 115, [.val (.ref 1088), .val (.int x1)], [], (126, 120, L, [Y, T, HA, HB, RA, RB, ST, NS, I0, I1, I2, BO, FI, RG, GU, PU, MA, MN_6, MS, OT, SC], [r0, r1, r2, r3, w, r5, r6, r7, r8], Lg)) o from ev_t (c := x1 ≠ x12) _ _ 1 zc26 e (fun n => Eq.refl _)
                  obtain ⟨x13, zh27, h⟩ := bnd h
                  have zh27 : f_M_of 2668 = some x13 := zh27
                  have ze28 := R_f_M_of_0 (d + 0) Y T HA HB RA RB ST NS I0 I1 I2 BO FI RG GU PU MA MN_6 MS OT SC r0 r1 r2 r3 w r5 r6 r7 r8 L Lg 2668 zh27
                  suffices e : Ev (d + 5, 0, 0, 52, 122, [.val (.ref 1088), .val (.int x1)], [.int x13, .int x1], (126, 120, L, [Y, T, HA, HB, RA, RB, ST, NS, I0, I1, I2, BO, FI, RG, GU, PU, MA, MN_6, MS, OT, SC], [r0, r1, r2, r3, w, r5, r6, r7, r8], Lg)) o from ev_call (fun v μ => (d + 5, 0, 0, 52, 122, [.val (.ref 1088), .val (.int x1)], v.toList ++ [.int x1], μ)) 3 ze28 e (fun n => Eq.refl _)
                  by_cases zc29 : x1 ≠ x13
                  · have h := itp h zc29
                    suffices e : Ev (d + 5, 0, 0, 52, 130, [.val (.ref 1088), .val (.int x1)], [], (126, 120, L, [Y, T, HA, HB, RA, RB, ST, NS, I0, I1, I2, BO, FI, RG, GU, PU, MA, MN_6, MS, OT, SC], [r0, r1, r2, r3, w, r5, r6, r7, r8], Lg)) o from ev_t (c := x1 ≠ x13) _ _ 1 zc29 e (fun n => Eq.refl _)
                    obtain ⟨x14, zh30, h⟩ := bnd h
                    have zh30 : f_M_of 2651 = some x14 := zh30
                    have ze31 := R_f_M_of_0 (d + 0) Y T HA HB RA RB ST NS I0 I1 I2 BO FI RG GU PU MA MN_6 MS OT SC r0 r1 r2 r3 w r5 r6 r7 r8 L Lg 2651 zh30
                    suffices e : Ev (d + 5, 0, 0, 52, 136, [.val (.ref 1088), .val (.int x1)], [.int x14, .int x1], (126, 120, L, [Y, T, HA, HB, RA, RB, ST, NS, I0, I1, I2, BO, FI, RG, GU, PU, MA, MN_6, MS, OT, SC], [r0, r1, r2, r3, w, r5, r6, r7, r8], Lg)) o from ev_call (fun v μ => (d + 5, 0, 0, 52, 136, [.val (.ref 1088), .val (.int x1)], v.toList ++ [.int x1], μ)) 3 ze31 e (fun n => Eq.refl _)
                    by_cases zc32 : x1 ≠ x14
                    · have h := itp h zc32
                      suffices e : Ev (d + 5, 0, 0, 52, 144, [.val (.ref 1088), .val (.int x1)], [], (126, 120, L, [Y, T, HA, HB, RA, RB, ST, NS, I0, I1, I2, BO, FI, RG, GU, PU, MA, MN_6, MS, OT, SC], [r0, r1, r2, r3, w, r5, r6, r7, r8], Lg)) o from ev_t (c := x1 ≠ x14) _ _ 1 zc32 e (fun n => Eq.refl _)
                      obtain ⟨x15, zh33, h⟩ := bnd h
                      have zh33 : f_M_of 2669 = some x15 := zh33
                      have ze34 := R_f_M_of_0 (d + 0) Y T HA HB RA RB ST NS I0 I1 I2 BO FI RG GU PU MA MN_6 MS OT SC r0 r1 r2 r3 w r5 r6 r7 r8 L Lg 2669 zh33
                      suffices e : Ev (d + 5, 0, 0, 52, 151, [.val (.ref 1088), .val (.int x1)], [.int x15, .int x1], (126, 120, L, [Y, T, HA, HB, RA, RB, ST, NS, I0, I1, I2, BO, FI, RG, GU, PU, MA, MN_6, MS, OT, SC], [r0, r1, r2, r3, w, r5, r6, r7, r8], Lg)) o from ev_call (fun v μ => (d + 5, 0, 0, 52, 151, [.val (.ref 1088), .val (.int x1)], v.toList ++ [.int x1], μ)) 3 ze34 e (fun n => Eq.refl _)
                      by_cases zc35 : x1 ≠ x15
                      · have h := itp h zc35
                        suffices e : Ev (d + 5, 0, 0, 52, 159, [.val (.ref 1088), .val (.int x1)], [], (126, 120, L, [Y, T, HA, HB, RA, RB, ST, NS, I0, I1, I2, BO, FI, RG, GU, PU, MA, MN_6, MS, OT, SC], [r0, r1, r2, r3, w, r5, r6, r7, r8], Lg)) o from ev_t (c := x1 ≠ x15) _ _ 1 zc35 e (fun n => Eq.refl _)
                        have ze36 := Option.some.inj h
                        subst ze36
                        exact ev_rete 2 ho (fun n => Eq.refl _)
                      · have h := itn h zc35
                        suffices e : Ev (d + 5, 0, 0, 52, 154, [.val (.ref 1088), .val (.int x1)], [], (126, 120, L, [Y, T, HA, HB, RA, RB, ST, NS, I0, I1, I2, BO, FI, RG, GU, PU, MA, MN_6, MS, OT, SC], [r0, r1, r2, r3, w, r5, r6, r7, r8], Lg)) o from ev_f (c := x1 ≠ x15) _ _ 1 zc35 e (fun n => Eq.refl _)
                        have ze37 := Option.some.inj h
                        subst ze37
                        exact ev_rete 3 ho (fun n => Eq.refl _)
                    · have h := itn h zc32
                      suffices e : Ev (d + 5, 0, 0, 52, 139, [.val (.ref 1088), .val (.int x1)], [], (126, 120, L, [Y, T, HA, HB, RA, RB, ST, NS, I0, I1, I2, BO, FI, RG, GU, PU, MA, MN_6, MS, OT, SC], [r0, r1, r2, r3, w, r5, r6, r7, r8], Lg)) o from ev_f (c := x1 ≠ x14) _ _ 1 zc32 e (fun n => Eq.refl _)
                      have ze38 := Option.some.inj h
                      subst ze38
                      exact ev_rete 3 ho (fun n => Eq.refl _)
                  · have h := itn h zc29
                    suffices e : Ev (d + 5, 0, 0, 52, 125, [.val (.ref 1088), .val (.int x1)], [], (126, 120, L, [Y, T, HA, HB, RA, RB, ST, NS, I0, I1, I2, BO, FI, RG, GU, PU, MA, MN_6, MS, OT, SC], [r0, r1, r2, r3, w, r5, r6, r7, r8], Lg)) o from ev_f (c := x1 ≠ x13) _ _ 1 zc29 e (fun n => Eq.refl _)
                    have ze39 := Option.some.inj h
                    subst ze39
                    exact ev_rete 3 ho (fun n => Eq.refl _)
                · have h := itn h zc26
                  suffices e : Ev (d + 5, 0, 0, 52, 110, [.val (.ref 1088), .val (.int x1)], [], (126, 120, L, [Y, T, HA, HB, RA, RB, ST, NS, I0, I1, I2, BO, FI, RG, GU, PU, MA, MN_6, MS, OT, SC], [r0, r1, r2, r3, w, r5, r6, r7, r8], Lg)) o from ev_f (c := x1 ≠ x12) _ _ 1 zc26 e (fun n => Eq.refl _)
                  have ze40 := Option.some.inj h
                  subst ze40
                  exact ev_rete 3 ho (fun n => Eq.refl _)
              · have h := itn h zc23
                suffices e : Ev (d + 5, 0, 0, 52, 96, [.val (.ref 1088), .val (.int x1)], [], (126, 120, L, [Y, T, HA, HB, RA, RB, ST, NS, I0, I1, I2, BO, FI, RG, GU, PU, MA, MN_6, MS, OT, SC], [r0, r1, r2, r3, w, r5, r6, r7, r8], Lg)) o from ev_f (c := x1 ≠ x11) _ _ 1 zc23 e (fun n => Eq.refl _)
                have ze41 := Option.some.inj h
                subst ze41
                exact ev_rete 3 ho (fun n => Eq.refl _)
            · have h := itn h zc20
              suffices e : Ev (d + 5, 0, 0, 52, 82, [.val (.ref 1088), .val (.int x1)], [], (126, 120, L, [Y, T, HA, HB, RA, RB, ST, NS, I0, I1, I2, BO, FI, RG, GU, PU, MA, MN_6, MS, OT, SC], [r0, r1, r2, r3, w, r5, r6, r7, r8], Lg)) o from ev_f (c := x1 ≠ x10) _ _ 1 zc20 e (fun n => Eq.refl _)
              have ze42 := Option.some.inj h
              subst ze42
              exact ev_rete 3 ho (fun n => Eq.refl _)
          · have h := itn h zc17
            suffices e : Ev (d + 5, 0, 0, 52, 68, [.val (.ref 1088), .val (.int x1)], [], (126, 120, L, [Y, T, HA, HB, RA, RB, ST, NS, I0, I1, I2, BO, FI, RG, GU, PU, MA, MN_6, MS, OT, SC], [r0, r1, r2, r3, w, r5, r6, r7, r8], Lg)) o from ev_f (c := x1 ≠ x9) _ _ 1 zc17 e (fun n => Eq.refl _)
            have ze43 := Option.some.inj h
            subst ze43
            exact ev_rete 3 ho (fun n => Eq.refl _)
        · have h := itn h zc14
          suffices e : Ev (d + 5, 0, 0, 52, 54, [.val (.ref 1088), .val (.int x1)], [], (126, 120, L, [Y, T, HA, HB, RA, RB, ST, NS, I0, I1, I2, BO, FI, RG, GU, PU, MA, MN_6, MS, OT, SC], [r0, r1, r2, r3, w, r5, r6, r7, r8], Lg)) o from ev_f (c := x1 ≠ x8) _ _ 1 zc14 e (fun n => Eq.refl _)
          have ze44 := Option.some.inj h
          subst ze44
          exact ev_rete 3 ho (fun n => Eq.refl _)
      · have h := itn h zc11
        suffices e : Ev (d + 5, 0, 0, 52, 40, [.val (.ref 1088), .val (.int x1)], [], (126, 120, L, [Y, T, HA, HB, RA, RB, ST, NS, I0, I1, I2, BO, FI, RG, GU, PU, MA, MN_6, MS, OT, SC], [r0, r1, r2, r3, w, r5, r6, r7, r8], Lg)) o from ev_f (c := x1 ≠ x7) _ _ 1 zc11 e (fun n => Eq.refl _)
        have ze45 := Option.some.inj h
        subst ze45
        exact ev_rete 3 ho (fun n => Eq.refl _)
    · have h := itn h zc8
      suffices e : Ev (d + 5, 0, 0, 52, 28, [.val (.ref 1088), .val (.int x1)], [], (126, 120, L, [Y, T, HA, HB, RA, RB, ST, NS, I0, I1, I2, BO, FI, RG, GU, PU, MA, MN_6, MS, OT, SC], [r0, r1, r2, r3, w, r5, r6, r7, r8], Lg)) o from ev_f (c := x5 = 0) _ _ 1 zc8 e (fun n => Eq.refl _)
      have ze46 := Option.some.inj h
      subst ze46
      exact ev_rete 2 ho (fun n => Eq.refl _)
  · have h := itn h zc5
    suffices e : Ev (d + 5, 0, 0, 52, 15, [.val (.ref 1088), .val (.int x1)], [], (126, 120, L, [Y, T, HA, HB, RA, RB, ST, NS, I0, I1, I2, BO, FI, RG, GU, PU, MA, MN_4, MS, OT, SC], [r0, r1, r2, r3, w, r5, r6, r7, r8], Lg)) o from ev_f (c := x3 = 0) _ _ 1 zc5 e (fun n => Eq.refl _)
    have ze47 := Option.some.inj h
    subst ze47
    exact ev_rete 2 ho (fun n => Eq.refl _)
set_option maxRecDepth 1000000 in
set_option maxHeartbeats 4000000 in
theorem R_f_M_ones_0 (d : Nat) (Y T HA HB RA RB ST NS I0 I1 I2 BO FI RG GU PU MA MN MS OT SC : Nat → Nat → Int32) (r0 r1 r2 r3 w r5 r6 r7 r8 : Nat) (L : Nat) (Lg : Int64) (p0 : Int32) {r : Int32} (h : f_M_ones p0 = some r) : Ev (d + 0, 0, 0, 57, 0, [.val (.int p0), .val a_unk, .val a_unk], [], (126, 120, L, [Y, T, HA, HB, RA, RB, ST, NS, I0, I1, I2, BO, FI, RG, GU, PU, MA, MN, MS, OT, SC], [r0, r1, r2, r3, w, r5, r6, r7, r8], Lg)) ((0, some (.int r), (126, 120, L, [Y, T, HA, HB, RA, RB, ST, NS, I0, I1, I2, BO, FI, RG, GU, PU, MA, MN, MS, OT, SC], [r0, r1, r2, r3, w, r5, r6, r7, r8], Lg)) : AOut) := by
  suffices key : ∀ o : AOut, ((0, some (.int r), (126, 120, L, [Y, T, HA, HB, RA, RB, ST, NS, I0, I1, I2, BO, FI, RG, GU, PU, MA, MN, MS, OT, SC], [r0, r1, r2, r3, w, r5, r6, r7, r8], Lg)) : AOut) = o → Ev (d + 0, 0, 0, 57, 0, [.val (.int p0), .val a_unk, .val a_unk], [], (126, 120, L, [Y, T, HA, HB, RA, RB, ST, NS, I0, I1, I2, BO, FI, RG, GU, PU, MA, MN, MS, OT, SC], [r0, r1, r2, r3, w, r5, r6, r7, r8], Lg)) o from key _ rfl
  intro o ho
  obtain ⟨v3, zh2, h⟩ := bnd h
  suffices e : Ev (d + 0, 0, 0, 57, 4, [.val (.int p0), .val (.int 0), .val (.int p0)], [], (126, 120, L, [Y, T, HA, HB, RA, RB, ST, NS, I0, I1, I2, BO, FI, RG, GU, PU, MA, MN, MS, OT, SC], [r0, r1, r2, r3, w, r5, r6, r7, r8], Lg)) o from ev_b 4 e (fun n => Eq.refl _)
  refine ev_loop (δ := Unit) (fun a j => (d + 0, 0, 0, 57, 4, [.val (.int p0), .val (.int a.1), .val (.int a.2)], [], (126, 120, L, [Y, T, HA, HB, RA, RB, ST, NS, I0, I1, I2, BO, FI, RG, GU, PU, MA, MN, MS, OT, SC], [r0, r1, r2, r3, w, r5, r6, r7, r8], Lg))) (fun b => ∀ s4 : Value, Ev (d + 0, 0, 0, 57, 20, [.val (.int p0), .val (.int b), .val s4], [], (126, 120, L, [Y, T, HA, HB, RA, RB, ST, NS, I0, I1, I2, BO, FI, RG, GU, PU, MA, MN, MS, OT, SC], [r0, r1, r2, r3, w, r5, r6, r7, r8], Lg)) o) ?_ a_F (0, p0) v3 zh2 ?_ ()
  · rintro ⟨v1, v2⟩ zr6 zh5 zi3 zx4 ⟨⟩
    have zh5 : f_M_ones_l4 v1 v2 = some zr6 := zh5
    by_cases zc7 : v2 = 0
    · have zh5 := itp zh5 zc7
      suffices e : Ev (d + 0, 0, 0, 57, 20, [.val (.int p0), .val (.int v1), .val (.int v2)], [], (126, 120, L, [Y, T, HA, HB, RA, RB, ST, NS, I0, I1, I2, BO, FI, RG, GU, PU, MA, MN, MS, OT, SC], [r0, r1, r2, r3, w, r5, r6, r7, r8], Lg)) o from ev_t (c := v2 = 0) _ _ 2 zc7 e (fun n => Eq.refl _)
      exact ev_b 0 (zx4 _ (Option.some.inj zh5).symm (.int v2)) (fun n => Eq.refl _)
    · have zh5 := itn zh5 zc7
      suffices e : Ev (d + 0, 0, 0, 57, 8, [.val (.int p0), .val (.int v1), .val (.int v2)], [], (126, 120, L, [Y, T, HA, HB, RA, RB, ST, NS, I0, I1, I2, BO, FI, RG, GU, PU, MA, MN, MS, OT, SC], [r0, r1, r2, r3, w, r5, r6, r7, r8], Lg)) o from ev_f (c := v2 = 0) _ _ 2 zc7 e (fun n => Eq.refl _)
      exact ev_b 8 (zi3 _ (Option.some.inj zh5).symm ()) (fun n => Eq.refl _)
  · skip
    intro s4
    have ze8 := Option.some.inj h
    subst ze8
    exact ev_rete 2 ho (fun n => Eq.refl _)
set_option maxRecDepth 1000000 in
set_option maxHeartbeats 4000000 in
theorem R_f_M_both_0 (d : Nat) (Y T HA HB RA RB ST NS I0 I1 I2 BO FI RG GU PU MA MN MS OT SC : Nat → Nat → Int32) (r0 r1 r2 r3 w r5 r6 r7 r8 : Nat) (L : Nat) (Lg : Int64) (p0 : Int32) (p1 : Int32) (p2 : Int32) {r : Int32} (h : f_M_both p0 p1 p2 = some r) : Ev (d + 0, 0, 0, 56, 0, [.val (.int p0), .val (.int p1), .val (.int p2), .val a_unk], [], (126, 120, L, [Y, T, HA, HB, RA, RB, ST, NS, I0, I1, I2, BO, FI, RG, GU, PU, MA, MN, MS, OT, SC], [r0, r1, r2, r3, w, r5, r6, r7, r8], Lg)) ((0, some (.int r), (126, 120, L, [Y, T, HA, HB, RA, RB, ST, NS, I0, I1, I2, BO, FI, RG, GU, PU, MA, MN, MS, OT, SC], [r0, r1, r2, r3, w, r5, r6, r7, r8], Lg)) : AOut) := by
  suffices key : ∀ o : AOut, ((0, some (.int r), (126, 120, L, [Y, T, HA, HB, RA, RB, ST, NS, I0, I1, I2, BO, FI, RG, GU, PU, MA, MN, MS, OT, SC], [r0, r1, r2, r3, w, r5, r6, r7, r8], Lg)) : AOut) = o → Ev (d + 0, 0, 0, 56, 0, [.val (.int p0), .val (.int p1), .val (.int p2), .val a_unk], [], (126, 120, L, [Y, T, HA, HB, RA, RB, ST, NS, I0, I1, I2, BO, FI, RG, GU, PU, MA, MN, MS, OT, SC], [r0, r1, r2, r3, w, r5, r6, r7, r8], Lg)) o from key _ rfl
  intro o ho
  by_cases zc1 : 4 < p0
  · have h := itp h zc1
    suffices e : Ev (d + 0, 0, 0, 56, 31, [.val (.int p0), .val (.int p1), .val (.int p2), .val a_unk], [], (126, 120, L, [Y, T, HA, HB, RA, RB, ST, NS, I0, I1, I2, BO, FI, RG, GU, PU, MA, MN, MS, OT, SC], [r0, r1, r2, r3, w, r5, r6, r7, r8], Lg)) o from ev_t (c := 4 < p0) _ _ 3 zc1 e (fun n => Eq.refl _)
    obtain ⟨zt2, zh3, h⟩ := bnd h
    have zj4 : ∀ (v1 : Int32), v1 = zt2 → Ev (d + 0, 0, 0, 56, 119, [.val (.int p0), .val (.int p1), .val (.int p2), .val a_unk], [.int v1], (126, 120, L, [Y, T, HA, HB, RA, RB, ST, NS, I0, I1, I2, BO, FI, RG, GU, PU, MA, MN, MS, OT, SC], [r0, r1, r2, r3, w, r5, r6, r7, r8], Lg)) o := by
      intro v1 ze5
      subst ze5
      by_cases zc6 : v1 = 0
      · have h := itp h zc6
        suffices e : Ev (d + 0, 0, 0, 56, 128, [.val (.int p0), .val (.int p1), .val (.int p2), .val (.int v1)], [], (126, 120, L, [Y, T, HA, HB, RA, RB, ST, NS, I0, I1, I2, BO, FI, RG, GU, PU, MA, MN, MS, OT, SC], [r0, r1, r2, r3, w, r5, r6, r7, r8], Lg)) o from ev_t (c := v1 = 0) _ _ 3 zc6 e (fun n => Eq.refl _)
        have ze7 := Option.some.inj h
        subst ze7
        exact ev_rete 2 ho (fun n => Eq.refl _)
      · have h := itn h zc6
        suffices e : Ev (d + 0, 0, 0, 56, 124, [.val (.int p0), .val (.int p1), .val (.int p2), .val (.int v1)], [], (126, 120, L, [Y, T, HA, HB, RA, RB, ST, NS, I0, I1, I2, BO, FI, RG, GU, PU, MA, MN, MS, OT, SC], [r0, r1, r2, r3, w, r5, r6, r7, r8], Lg)) o from ev_f (c := v1 = 0) _ _ 3 zc6 e (fun n => Eq.refl _)
        have ze8 := Option.some.inj h
        subst ze8
        exact ev_rete 3 ho (fun n => Eq.refl _)
    by_cases zc9 : p0 ≠ 5
    · have zh3 := itp zh3 zc9
      suffices e : Ev (d + 0, 0, 0, 56, 49, [.val (.int p0), .val (.int p1), .val (.int p2), .val a_unk], [], (126, 120, L, [Y, T, HA, HB, RA, RB, ST, NS, I0, I1, I2, BO, FI, RG, GU, PU, MA, MN, MS, OT, SC], [r0, r1, r2, r3, w, r5, r6, r7, r8], Lg)) o from ev_t (c := p0 ≠ 5) _ _ 3 zc9 e (fun n => Eq.refl _)
      by_cases zc10 : p0 ≠ 6
      · have zh3 := itp zh3 zc10
        suffices e : Ev (d + 0, 0, 0, 56, 68, [.val (.int p0), .val (.int p1), .val (.int p2), .val a_unk], [], (126, 120, L, [Y, T, HA, HB, RA, RB, ST, NS, I0, I1, I2, BO, FI, RG, GU, PU, MA, MN, MS, OT, SC], [r0, r1, r2, r3, w, r5, r6, r7, r8], Lg)) o from ev_t (c := p0 ≠ 6) _ _ 3 zc10 e (fun n => Eq.refl _)
        by_cases zc11 : p0 ≠ 7
        · have zh3 := itp zh3 zc11
          suffices e : Ev (d + 0, 0, 0, 56, 87, [.val (.int p0), .val (.int p1), .val (.int p2), .val a_unk], [], (126, 120, L, [Y, T, HA, HB, RA, RB, ST, NS, I0, I1, I2, BO, FI, RG, GU, PU, MA, MN, MS, OT, SC], [r0, r1, r2, r3, w, r5, r6, r7, r8], Lg)) o from ev_t (c := p0 ≠ 7) _ _ 3 zc11 e (fun n => Eq.refl _)
          by_cases zc12 : p0 ≠ 9
          · have zh3 := itp zh3 zc12
            suffices e : Ev (d + 0, 0, 0, 56, 108, [.val (.int p0), .val (.int p1), .val (.int p2), .val a_unk], [], (126, 120, L, [Y, T, HA, HB, RA, RB, ST, NS, I0, I1, I2, BO, FI, RG, GU, PU, MA, MN, MS, OT, SC], [r0, r1, r2, r3, w, r5, r6, r7, r8], Lg)) o from ev_t (c := p0 ≠ 9) _ _ 3 zc12 e (fun n => Eq.refl _)
            by_cases zc13 : (p1 + p2) ≤ 0
            · have zh3 := itp zh3 zc13
              suffices e : Ev (d + 0, 0, 0, 56, 118, [.val (.int p0), .val (.int p1), .val (.int p2), .val a_unk], [], (126, 120, L, [Y, T, HA, HB, RA, RB, ST, NS, I0, I1, I2, BO, FI, RG, GU, PU, MA, MN, MS, OT, SC], [r0, r1, r2, r3, w, r5, r6, r7, r8], Lg)) o from ev_t (c := (p1 + p2) ≤ 0) _ _ 4 zc13 e (fun n => Eq.refl _)
              exact ev_b 1 (zj4 0 (Option.some.inj zh3) ) (fun n => Eq.refl _)
            · have zh3 := itn zh3 zc13
              suffices e : Ev (d + 0, 0, 0, 56, 114, [.val (.int p0), .val (.int p1), .val (.int p2), .val a_unk], [], (126, 120, L, [Y, T, HA, HB, RA, RB, ST, NS, I0, I1, I2, BO, FI, RG, GU, PU, MA, MN, MS, OT, SC], [r0, r1, r2, r3, w, r5, r6, r7, r8], Lg)) o from ev_f (c := (p1 + p2) ≤ 0) _ _ 4 zc13 e (fun n => Eq.refl _)
              exact ev_b 2 (zj4 1 (Option.some.inj zh3) ) (fun n => Eq.refl _)
          · have zh3 := itn zh3 zc12
            suffices e : Ev (d + 0, 0, 0, 56, 93, [.val (.int p0), .val (.int p1), .val (.int p2), .val a_unk], [], (126, 120, L, [Y, T, HA, HB, RA, RB, ST, NS, I0, I1, I2, BO, FI, RG, GU, PU, MA, MN, MS, OT, SC], [r0, r1, r2, r3, w, r5, r6, r7, r8], Lg)) o from ev_f (c := p0 ≠ 9) _ _ 3 zc12 e (fun n => Eq.refl _)
            by_cases zc14 : (p1 + p2) ≠ 2
            · have zh3 := itp zh3 zc14
              suffices e : Ev (d + 0, 0, 0, 56, 104, [.val (.int p0), .val (.int p1), .val (.int p2), .val a_unk], [], (126, 120, L, [Y, T, HA, HB, RA, RB, ST, NS, I0, I1, I2, BO, FI, RG, GU, PU, MA, MN, MS, OT, SC], [r0, r1, r2, r3, w, r5, r6, r7, r8], Lg)) o from ev_t (c := (p1 + p2) ≠ 2) _ _ 5 zc14 e (fun n => Eq.refl _)
              exact ev_b 2 (zj4 0 (Option.some.inj zh3) ) (fun n => Eq.refl _)
            · have zh3 := itn zh3 zc14
              suffices e : Ev (d + 0, 0, 0, 56, 100, [.val (.int p0), .val (.int p1), .val (.int p2), .val a_unk], [], (126, 120, L, [Y, T, HA, HB, RA, RB, ST, NS, I0, I1, I2, BO, FI, RG, GU, PU, MA, MN, MS, OT, SC], [r0, r1, r2, r3, w, r5, r6, r7, r8], Lg)) o from ev_f (c := (p1 + p2) ≠ 2) _ _ 5 zc14 e (fun n => Eq.refl _)
              exact ev_b 2 (zj4 1 (Option.some.inj zh3) ) (fun n => Eq.refl _)
        · have zh3 := itn zh3 zc11
          suffices e : Ev (d + 0, 0, 0, 56, 74, [.val (.int p0), .val (.int p1), .val (.int p2), .val a_unk], [], (126, 120, L, [Y, T, HA, HB, RA, RB, ST, NS, I0, I1, I2, BO, FI, RG, GU, PU, MA, MN, MS, OT, SC], [r0, r1, r2, r3, w, r5, r6, r7, r8], Lg)) o from ev_f (c := p0 ≠ 7) _ _ 3 zc11 e (fun n => Eq.refl _)
          by_cases zc15 : p1 ≠ p2
          · have zh3 := itp zh3 zc15
            suffices e : Ev (d + 0, 0, 0, 56, 83, [.val (.int p0), .val (.int p1), .val (.int p2), .val a_unk], [], (126, 120, L, [Y, T, HA, HB, RA, RB, ST, NS, I0, I1, I2, BO, FI, RG, GU, PU, MA, MN, MS, OT, SC], [r0, r1, r2, r3, w, r5, r6, r7, r8], Lg)) o from ev_t (c := p1 ≠ p2) _ _ 3 zc15 e (fun n => Eq.refl _)
            exact ev_b 2 (zj4 0 (Option.some.inj zh3) ) (fun n => Eq.refl _)
          · have zh3 := itn zh3 zc15
            suffices e : Ev (d + 0, 0, 0, 56, 79, [.val (.int p0), .val (.int p1), .val (.int p2), .val a_unk], [], (126, 120, L, [Y, T, HA, HB, RA, RB, ST, NS, I0, I1, I2, BO, FI, RG, GU, PU, MA, MN, MS, OT, SC], [r0, r1, r2, r3, w, r5, r6, r7, r8], Lg)) o from ev_f (c := p1 ≠ p2) _ _ 3 zc15 e (fun n => Eq.refl _)
            exact ev_b 2 (zj4 1 (Option.some.inj zh3) ) (fun n => Eq.refl _)
      · have zh3 := itn zh3 zc10
        suffices e : Ev (d + 0, 0, 0, 56, 55, [.val (.int p0), .val (.int p1), .val (.int p2), .val a_unk], [], (126, 120, L, [Y, T, HA, HB, RA, RB, ST, NS, I0, I1, I2, BO, FI, RG, GU, PU, MA, MN, MS, OT, SC], [r0, r1, r2, r3, w, r5, r6, r7, r8], Lg)) o from ev_f (c := p0 ≠ 6) _ _ 3 zc10 e (fun n => Eq.refl _)
        by_cases zc16 : p1 ≤ p2
        · have zh3 := itp zh3 zc16
          suffices e : Ev (d + 0, 0, 0, 56, 64, [.val (.int p0), .val (.int p1), .val (.int p2), .val a_unk], [], (126, 120, L, [Y, T, HA, HB, RA, RB, ST, NS, I0, I1, I2, BO, FI, RG, GU, PU, MA, MN, MS, OT, SC], [r0, r1, r2, r3, w, r5, r6, r7, r8], Lg)) o from ev_t (c := p1 ≤ p2) _ _ 3 zc16 e (fun n => Eq.refl _)
          exact ev_b 2 (zj4 0 (Option.some.inj zh3) ) (fun n => Eq.refl _)
        · have zh3 := itn zh3 zc16
          suffices e : Ev (d + 0, 0, 0, 56, 60, [.val (.int p0), .val (.int p1), .val (.int p2), .val a_unk], [], (126, 120, L, [Y, T, HA, HB, RA, RB, ST, NS, I0, I1, I2, BO, FI, RG, GU, PU, MA, MN, MS, OT, SC], [r0, r1, r2, r3, w, r5, r6, r7, r8], Lg)) o from ev_f (c := p1 ≤ p2) _ _ 3 zc16 e (fun n => Eq.refl _)
          exact ev_b 2 (zj4 1 (Option.some.inj zh3) ) (fun n => Eq.refl _)
    · have zh3 := itn zh3 zc9
      suffices e : Ev (d + 0, 0, 0, 56, 36, [.val (.int p0), .val (.int p1), .val (.int p2), .val a_unk], [], (126, 120, L, [Y, T, HA, HB, RA, RB, ST, NS, I0, I1, I2, BO, FI, RG, GU, PU, MA, MN, MS, OT, SC], [r0, r1, r2, r3, w, r5, r6, r7, r8], Lg)) o from ev_f (c := p0 ≠ 5) _ _ 3 zc9 e (fun n => Eq.refl _)
      by_cases zc17 : p2 ≤ p1
      · have zh3 := itp zh3 zc17
        suffices e : Ev (d + 0, 0, 0, 56, 45, [.val (.int p0), .val (.int p1), .val (.int p2), .val a_unk], [], (126, 120, L, [Y, T, HA, HB, RA, RB, ST, NS, I0, I1, I2, BO, FI, RG, GU, PU, MA, MN, MS, OT, SC], [r0, r1, r2, r3, w, r5, r6, r7, r8], Lg)) o from ev_t (c := p2 ≤ p1) _ _ 3 zc17 e (fun n => Eq.refl _)
        exact ev_b 2 (zj4 0 (Option.some.inj zh3) ) (fun n => Eq.refl _)
      · have zh3 := itn zh3 zc17
        suffices e : Ev (d + 0, 0, 0, 56, 41, [.val (.int p0), .val (.int p1), .val (.int p2), .val a_unk], [], (126, 120, L, [Y, T, HA, HB, RA, RB, ST, NS, I0, I1, I2, BO, FI, RG, GU, PU, MA, MN, MS, OT, SC], [r0, r1, r2, r3, w, r5, r6, r7, r8], Lg)) o from ev_f (c := p2 ≤ p1) _ _ 3 zc17 e (fun n => Eq.refl _)
        exact ev_b 2 (zj4 1 (Option.some.inj zh3) ) (fun n => Eq.refl _)
  · have h := itn h zc1
    suffices e : Ev (d + 0, 0, 0, 56, 5, [.val (.int p0), .val (.int p1), .val (.int p2), .val a_unk], [], (126, 120, L, [Y, T, HA, HB, RA, RB, ST, NS, I0, I1, I2, BO, FI, RG, GU, PU, MA, MN, MS, OT, SC], [r0, r1, r2, r3, w, r5, r6, r7, r8], Lg)) o from ev_f (c := 4 < p0) _ _ 3 zc1 e (fun n => Eq.refl _)
    by_cases zc18 : p0 ≠ 2
    · have h := itp h zc18
      suffices e : Ev (d + 0, 0, 0, 56, 16, [.val (.int p0), .val (.int p1), .val (.int p2), .val a_unk], [], (126, 120, L, [Y, T, HA, HB, RA, RB, ST, NS, I0, I1, I2, BO, FI, RG, GU, PU, MA, MN, MS, OT, SC], [r0, r1, r2, r3, w, r5, r6, r7, r8], Lg)) o from ev_t (c := p0 ≠ 2) _ _ 3 zc18 e (fun n => Eq.refl _)
      by_cases zc19 : p0 ≠ 3
      · have h := itp h zc19
        suffices e : Ev (d + 0, 0, 0, 56, 27, [.val (.int p0), .val (.int p1), .val (.int p2), .val a_unk], [], (126, 120, L, [Y, T, HA, HB, RA, RB, ST, NS, I0, I1, I2, BO, FI, RG, GU, PU, MA, MN, MS, OT, SC], [r0, r1, r2, r3, w, r5, r6, r7, r8], Lg)) o from ev_t (c := p0 ≠ 3) _ _ 3 zc19 e (fun n => Eq.refl _)
        have ze20 := Option.some.inj h
        subst ze20
        exact ev_rete 4 ho (fun n => Eq.refl _)
      · have h := itn h zc19
        suffices e : Ev (d + 0, 0, 0, 56, 21, [.val (.int p0), .val (.int p1), .val (.int p2), .val a_unk], [], (126, 120, L, [Y, T, HA, HB, RA, RB, ST, NS, I0, I1, I2, BO, FI, RG, GU, PU, MA, MN, MS, OT, SC], [r0, r1, r2, r3, w, r5, r6, r7, r8], Lg)) o from ev_f (c := p0 ≠ 3) _ _ 3 zc19 e (fun n => Eq.refl _)
        have ze21 := Option.some.inj h
        subst ze21
        exact ev_rete 5 ho (fun n => Eq.refl _)
    · have h := itn h zc18
      suffices e : Ev (d + 0, 0, 0, 56, 10, [.val (.int p0), .val (.int p1), .val (.int p2), .val a_unk], [], (126, 120, L, [Y, T, HA, HB, RA, RB, ST, NS, I0, I1, I2, BO, FI, RG, GU, PU, MA, MN, MS, OT, SC], [r0, r1, r2, r3, w, r5, r6, r7, r8], Lg)) o from ev_f (c := p0 ≠ 2) _ _ 3 zc18 e (fun n => Eq.refl _)
      have ze22 := Option.some.inj h
      subst ze22
      exact ev_rete 5 ho (fun n => Eq.refl _)
