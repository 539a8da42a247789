/-! printed by program (gen/emitm.py): the reference's methods run as their functions say -/
set_option maxRecDepth 1000000 in
set_option maxHeartbeats 4000000 in
theorem R_f_M_readClause_0 (d : Nat) (Y T HA HB RA RB ST NS I0 I1 I2 BO FI RG GU PU MA MN MS OT SC : Nat → Nat → Int32) (r0 r1 r2 r3 w r5 r6 r7 r8 : Nat) (L : Nat) (Lg : Int64) (p1 : Int32) {r : (Nat → Nat → Int32)} (h : f_M_readClause MA MN p1 = some r) : Ev (d + 6, 0, 0, 38, 0, [.val (.ref 1088), .val (.int p1), .val a_unk, .val a_unk], [], (126, 120, L, [Y, T, HA, HB, RA, RB, ST, NS, I0, I1, I2, BO, FI, RG, GU, PU, MA, MN, MS, OT, SC], [r0, r1, r2, r3, w, r5, r6, r7, r8], Lg)) ((0, none, (126, 120, L, [Y, T, HA, HB, RA, RB, ST, NS, I0, I1, I2, BO, FI, RG, GU, PU, MA, r, MS, OT, SC], [r0, r1, r2, r3, w, r5, r6, r7, r8], Lg)) : AOut) := by
  suffices key : ∀ o : AOut, ((0, none, (126, 120, L, [Y, T, HA, HB, RA, RB, ST, NS, I0, I1, I2, BO, FI, RG, GU, PU, MA, r, MS, OT, SC], [r0, r1, r2, r3, w, r5, r6, r7, r8], Lg)) : AOut) = o → Ev (d + 6, 0, 0, 38, 0, [.val (.ref 1088), .val (.int p1), .val a_unk, .val a_unk], [], (126, 120, L, [Y, T, HA, HB, RA, RB, ST, NS, I0, I1, I2, BO, FI, RG, GU, PU, MA, MN, MS, OT, SC], [r0, r1, r2, r3, w, r5, r6, r7, r8], Lg)) o from key _ rfl
  intro o ho
  obtain ⟨x1, zh1, h⟩ := bnd h
  have zh1 : f_M_of 2650 = some x1 := zh1
  have ze2 := R_f_M_of_0 (d + 1) Y T HA HB RA RB ST NS I0 I1 I2 BO FI RG GU PU MA MN MS OT SC r0 r1 r2 r3 w r5 r6 r7 r8 L Lg 2650 zh1
  suffices e : Ev (d + 6, 0, 0, 38, 6, [.val (.ref 1088), .val (.int p1), .val a_unk, .val a_unk], [.int x1, .int p1], (126, 120, L, [Y, T, HA, HB, RA, RB, ST, NS, I0, I1, I2, BO, FI, RG, GU, PU, MA, MN, MS, OT, SC], [r0, r1, r2, r3, w, r5, r6, r7, r8], Lg)) o from ev_call (fun v μ => (d + 6, 0, 0, 38, 6, [.val (.ref 1088), .val (.int p1), .val a_unk, .val a_unk], v.toList ++ [.int p1], μ)) 3 ze2 e (fun n => Eq.refl _)
  by_cases zc3 : p1 ≠ x1
  · have h := itp h zc3
    suffices e : Ev (d + 6, 0, 0, 38, 23, [.val (.ref 1088), .val (.int p1), .val a_unk, .val a_unk], [], (126, 120, L, [Y, T, HA, HB, RA, RB, ST, NS, I0, I1, I2, BO, FI, RG, GU, PU, MA, MN, MS, OT, SC], [r0, r1, r2, r3, w, r5, r6, r7, r8], Lg)) o from ev_t (c := p1 ≠ x1) _ _ 1  zc3 e (fun n => Eq.refl _)
    obtain ⟨x2, zh4, h⟩ := bnd h
    have zh4 : f_M_of 2651 = some x2 := zh4
    have ze5 := R_f_M_of_0 (d + 1) Y T HA HB RA RB ST NS I0 I1 I2 BO FI RG GU PU MA MN MS OT SC r0 r1 r2 r3 w r5 r6 r7 r8 L Lg 2651 zh4
    suffices e : Ev (d + 6, 0, 0, 38, 29, [.val (.ref 1088), .val (.int p1), .val a_unk, .val a_unk], [.int x2, .int p1], (126, 120, L, [Y, T, HA, HB, RA, RB, ST, NS, I0, I1, I2, BO, FI, RG, GU, PU, MA, MN, MS, OT, SC], [r0, r1, r2, r3, w, r5, r6, r7, r8], Lg)) o from ev_call (fun v μ => (d + 6, 0, 0, 38, 29, [.val (.ref 1088), .val (.int p1), .val a_unk, .val a_unk], v.toList ++ [.int p1], μ)) 3 ze5 e (fun n => Eq.refl _)
    by_cases zc6 : p1 ≠ x2
    · have h := itp h zc6
      suffices e : Ev (d + 6, 0, 0, 38, 61, [.val (.ref 1088), .val (.int p1), .val a_unk, .val a_unk], [], (126, 120, L, [Y, T, HA, HB, RA, RB, ST, NS, I0, I1, I2, BO, FI, RG, GU, PU, MA, MN, MS, OT, SC], [r0, r1, r2, r3, w, r5, r6, r7, r8], Lg)) o from ev_t (c := p1 ≠ x2) _ _ 1  zc6 e (fun n => Eq.refl _)
      obtain ⟨x3, zh7, h⟩ := bnd h
      have zh7 : f_M_of 2652 = some x3 := zh7
      have ze8 := R_f_M_of_0 (d + 1) Y T HA HB RA RB ST NS I0 I1 I2 BO FI RG GU PU MA MN MS OT SC r0 r1 r2 r3 w r5 r6 r7 r8 L Lg 2652 zh7
      suffices e : Ev (d + 6, 0, 0, 38, 67, [.val (.ref 1088), .val (.int p1), .val a_unk, .val a_unk], [.int x3, .int p1], (126, 120, L, [Y, T, HA, HB, RA, RB, ST, NS, I0, I1, I2, BO, FI, RG, GU, PU, MA, MN, MS, OT, SC], [r0, r1, r2, r3, w, r5, r6, r7, r8], Lg)) o from ev_call (fun v μ => (d + 6, 0, 0, 38, 67, [.val (.ref 1088), .val (.int p1), .val a_unk, .val a_unk], v.toList ++ [.int p1], μ)) 3 ze8 e (fun n => Eq.refl _)
      by_cases zc9 : p1 ≠ x3
      · have h := itp h zc9
        suffices e : Ev (d + 6, 0, 0, 38, 135, [.val (.ref 1088), .val (.int p1), .val a_unk, .val a_unk], [], (126, 120, L, [Y, T, HA, HB, RA, RB, ST, NS, I0, I1, I2, BO, FI, RG, GU, PU, MA, MN, MS, OT, SC], [r0, r1, r2, r3, w, r5, r6, r7, r8], Lg)) o from ev_t (c := p1 ≠ x3) _ _ 1  zc9 e (fun n => Eq.refl _)
        obtain ⟨x4, zh10, h⟩ := bnd h
        have zh10 : f_M_of 2653 = some x4 := zh10
        have ze11 := R_f_M_of_0 (d + 1) Y T HA HB RA RB ST NS I0 I1 I2 BO FI RG GU PU MA MN MS OT SC r0 r1 r2 r3 w r5 r6 r7 r8 L Lg 2653 zh10
        suffices e : Ev (d + 6, 0, 0, 38, 141, [.val (.ref 1088), .val (.int p1), .val a_unk, .val a_unk], [.int x4, .int p1], (126, 120, L, [Y, T, HA, HB, RA, RB, ST, NS, I0, I1, I2, BO, FI, RG, GU, PU, MA, MN, MS, OT, SC], [r0, r1, r2, r3, w, r5, r6, r7, r8], Lg)) o from ev_call (fun v μ => (d + 6, 0, 0, 38, 141, [.val (.ref 1088), .val (.int p1), .val a_unk, .val a_unk], v.toList ++ [.int p1], μ)) 3 ze11 e (fun n => Eq.refl _)
        by_cases zc12 : p1 ≠ x4
        · have h := itp h zc12
          suffices e : Ev (d + 6, 0, 0, 38, 188, [.val (.ref 1088), .val (.int p1), .val a_unk, .val a_unk], [], (126, 120, L, [Y, T, HA, HB, RA, RB, ST, NS, I0, I1, I2, BO, FI, RG, GU, PU, MA, MN, MS, OT, SC], [r0, r1, r2, r3, w, r5, r6, r7, r8], Lg)) o from ev_t (c := p1 ≠ x4) _ _ 1  zc12 e (fun n => Eq.refl _)
          obtain ⟨x5, zh13, h⟩ := bnd h
          have zh13 : f_M_of 2654 = some x5 := zh13
          have ze14 := R_f_M_of_0 (d + 1) Y T HA HB RA RB ST NS I0 I1 I2 BO FI RG GU PU MA MN MS OT SC r0 r1 r2 r3 w r5 r6 r7 r8 L Lg 2654 zh13
          suffices e : Ev (d + 6, 0, 0, 38, 194, [.val (.ref 1088), .val (.int p1), .val a_unk, .val a_unk], [.int x5, .int p1], (126, 120, L, [Y, T, HA, HB, RA, RB, ST, NS, I0, I1, I2, BO, FI, RG, GU, PU, MA, MN, MS, OT, SC], [r0, r1, r2, r3, w, r5, r6, r7, r8], Lg)) o from ev_call (fun v μ => (d + 6, 0, 0, 38, 194, [.val (.ref 1088), .val (.int p1), .val a_unk, .val a_unk], v.toList ++ [.int p1], μ)) 3 ze14 e (fun n => Eq.refl _)
          by_cases zc15 : p1 ≠ x5
          · have h := itp h zc15
            suffices e : Ev (d + 6, 0, 0, 38, 224, [.val (.ref 1088), .val (.int p1), .val a_unk, .val a_unk], [], (126, 120, L, [Y, T, HA, HB, RA, RB, ST, NS, I0, I1, I2, BO, FI, RG, GU, PU, MA, MN, MS, OT, SC], [r0, r1, r2, r3, w, r5, r6, r7, r8], Lg)) o from ev_t (c := p1 ≠ x5) _ _ 1  zc15 e (fun n => Eq.refl _)
            obtain ⟨x6, zh16, h⟩ := bnd h
            have zh16 : f_M_of 2655 = some x6 := zh16
            have ze17 := R_f_M_of_0 (d + 1) Y T HA HB RA RB ST NS I0 I1 I2 BO FI RG GU PU MA MN MS OT SC r0 r1 r2 r3 w r5 r6 r7 r8 L Lg 2655 zh16
            suffices e : Ev (d + 6, 0, 0, 38, 230, [.val (.ref 1088), .val (.int p1), .val a_unk, .val a_unk], [.int x6, .int p1], (126, 120, L, [Y, T, HA, HB, RA, RB, ST, NS, I0, I1, I2, BO, FI, RG, GU, PU, MA, MN, MS, OT, SC], [r0, r1, r2, r3, w, r5, r6, r7, r8], Lg)) o from ev_call (fun v μ => (d + 6, 0, 0, 38, 230, [.val (.ref 1088), .val (.int p1), .val a_unk, .val a_unk], v.toList ++ [.int p1], μ)) 3 ze17 e (fun n => Eq.refl _)
            by_cases zc18 : p1 ≠ x6
            · have h := itp h zc18
              suffices e : Ev (d + 6, 0, 0, 38, 268, [.val (.ref 1088), .val (.int p1), .val a_unk, .val a_unk], [], (126, 120, L, [Y, T, HA, HB, RA, RB, ST, NS, I0, I1, I2, BO, FI, RG, GU, PU, MA, MN, MS, OT, SC], [r0, r1, r2, r3, w, r5, r6, r7, r8], Lg)) o from ev_t (c := p1 ≠ x6) _ _ 1  zc18 e (fun n => Eq.refl _)
              obtain ⟨MN_7, zh19, h⟩ := bnd h
              have zh19 : f_M_readPlaces MA MN p1 = some MN_7 := zh19
              have ze20 := R_f_M_readPlaces_0 (d + 0) Y T HA HB RA RB ST NS I0 I1 I2 BO FI RG GU PU MA MN MS OT SC r0 r1 r2 r3 w r5 r6 r7 r8 L Lg p1 zh19
              suffices e : Ev (d + 6, 0, 0, 38, 273, [.val (.ref 1088), .val (.int p1), .val a_unk, .val a_unk], [], (126, 120, L, [Y, T, HA, HB, RA, RB, ST, NS, I0, I1, I2, BO, FI, RG, GU, PU, MA, MN_7, MS, OT, SC], [r0, r1, r2, r3, w, r5, r6, r7, r8], Lg)) o from ev_call (fun v μ => (d + 6, 0, 0, 38, 273, [.val (.ref 1088), .val (.int p1), .val a_unk, .val a_unk], v.toList ++ [], μ)) 3 ze20 e (fun n => Eq.refl _)
              have ze21 := Option.some.inj h
              subst ze21
              exact ev_rete 1 ho (fun n => Eq.refl _)
            · have h := itn h zc18
              suffices e : Ev (d + 6, 0, 0, 38, 233, [.val (.ref 1088), .val (.int p1), .val a_unk, .val a_unk], [], (126, 120, L, [Y, T, HA, HB, RA, RB, ST, NS, I0, I1, I2, BO, FI, RG, GU, PU, MA, MN, MS, OT, SC], [r0, r1, r2, r3, w, r5, r6, r7, r8], Lg)) o from ev_f (c := p1 ≠ x6) _ _ 1  zc18 e (fun n => Eq.refl _)
              obtain ⟨⟨x8, MN_9⟩, zh22, h⟩ := bnd h
              have zh22 : f_M_readMeeting MA MN = some (x8, MN_9) := zh22
              have ze23 := R_f_M_readMeeting_0 (d + 3) Y T HA HB RA RB ST NS I0 I1 I2 BO FI RG GU PU MA MN MS OT SC r0 r1 r2 r3 w r5 r6 r7 r8 L Lg zh22
              suffices e : Ev (d + 6, 0, 0, 38, 237, [.val (.ref 1088), .val (.int p1), .val a_unk, .val a_unk], [.int x8], (126, 120, L, [Y, T, HA, HB, RA, RB, ST, NS, I0, I1, I2, BO, FI, RG, GU, PU, MA, MN_9, MS, OT, SC], [r0, r1, r2, r3, w, r5, r6, r7, r8], Lg)) o from ev_call (fun v μ => (d + 6, 0, 0, 38, 237, [.val (.ref 1088), .val (.int p1), .val a_unk, .val a_unk], v.toList ++ [], μ)) 2 ze23 e (fun n => Eq.refl _)
              obtain ⟨⟨x10, MN_11⟩, zh24, h⟩ := bnd h
              have zh24 : f_M_readNumber MA MN_9 0 99 = some (x10, MN_11) := zh24
              have ze25 := R_f_M_readNumber_0 (d + 4) Y T HA HB RA RB ST NS I0 I1 I2 BO FI RG GU PU MA MN_9 MS OT SC r0 r1 r2 r3 w r5 r6 r7 r8 L Lg 0 99 zh24
              suffices e : Ev (d + 6, 0, 0, 38, 245, [.val (.ref 1088), .val (.int p1), .val (.int x8), .val a_unk], [.int x10], (126, 120, L, [Y, T, HA, HB, RA, RB, ST, NS, I0, I1, I2, BO, FI, RG, GU, PU, MA, MN_11, MS, OT, SC], [r0, r1, r2, r3, w, r5, r6, r7, r8], Lg)) o from ev_call (fun v μ => (d + 6, 0, 0, 38, 245, [.val (.ref 1088), .val (.int p1), .val (.int x8), .val a_unk], v.toList ++ [], μ)) 5 ze25 e (fun n => Eq.refl _)
              obtain ⟨x12, zh26, h⟩ := bnd h
              have zh26 : f_M_fine MN_11 = some x12 := zh26
              have ze27 := R_f_M_fine_0 (d + 5) Y T HA HB RA RB ST NS I0 I1 I2 BO FI RG GU PU MA MN_11 MS OT SC r0 r1 r2 r3 w r5 r6 r7 r8 L Lg zh26
              suffices e : Ev (d + 6, 0, 0, 38, 250, [.val (.ref 1088), .val (.int p1), .val (.int x8), .val (.int x10)], [.int x12], (126, 120, L, [Y, T, HA, HB, RA, RB, ST, NS, I0, I1, I2, BO, FI, RG, GU, PU, MA, MN_11, MS, OT, SC], [r0, r1, r2, r3, w, r5, r6, r7, r8], Lg)) o from ev_call (fun v μ => (d + 6, 0, 0, 38, 250, [.val (.ref 1088), .val (.int p1), .val (.int x8), .val (.int x10)], v.toList ++ [], μ)) 3 ze27 e (fun n => Eq.refl _)
              by_cases zc28 : x12 = 0
              · have h := itp h zc28
                suffices e : Ev (d + 6, 0, 0, 38, 265, [.val (.ref 1088), .val (.int p1), .val (.int x8), .val (.int x10)], [], (126, 120, L, [Y, T, HA, HB, RA, RB, ST, NS, I0, I1, I2, BO, FI, RG, GU, PU, MA, MN_11, MS, OT, SC], [r0, r1, r2, r3, w, r5, r6, r7, r8], Lg)) o from ev_t (c := x12 = 0) _ _ 1  zc28 e (fun n => Eq.refl _)
                have ze29 := Option.some.inj h
                subst ze29
                exact ev_rete 2 ho (fun n => Eq.refl _)
              · have h := itn h zc28
                suffices e : Ev (d + 6, 0, 0, 38, 253, [.val (.ref 1088), .val (.int p1), .val (.int x8), .val (.int x10)], [], (126, 120, L, [Y, T, HA, HB, RA, RB, ST, NS, I0, I1, I2, BO, FI, RG, GU, PU, MA, MN_11, MS, OT, SC], [r0, r1, r2, r3, w, r5, r6, r7, r8], Lg)) o from ev_f (c := x12 = 0) _ _ 1  zc28 e (fun n => Eq.refl _)
                obtain ⟨j13, zh30, h⟩ := bnd h
                have zh30 : ixx 60 ((6 * x8) + 5) = some j13 := zh30
                suffices e : Ev (d + 6, 0, 0, 38, 265, [.val (.ref 1088), .val (.int p1), .val (.int x8), .val (.int x10)], [], (126, 120, L, [Y, T, HA, HB, RA, RB, ST, NS, I0, I1, I2, BO, FI, RG, GU, PU, MA, (u2 MN_11 3 j13 x10), MS, OT, SC], [r0, r1, r2, r3, w, r5, r6, r7, r8], Lg)) o from ev_opt (fun j13 => (d + 6, 0, 0, 38, 265, [.val (.ref 1088), .val (.int p1), .val (.int x8), .val (.int x10)], [], (126, 120, L, [Y, T, HA, HB, RA, RB, ST, NS, I0, I1, I2, BO, FI, RG, GU, PU, MA, (u2 MN_11 3 j13 x10), MS, OT, SC], [r0, r1, r2, r3, w, r5, r6, r7, r8], Lg))) 9 zh30 e (fun n => Eq.refl _)
                have ze31 := Option.some.inj h
                subst ze31
                exact ev_rete 2 ho (fun n => Eq.refl _)
          · have h := itn h zc15
            suffices e : Ev (d + 6, 0, 0, 38, 197, [.val (.ref 1088), .val (.int p1), .val a_unk, .val a_unk], [], (126, 120, L, [Y, T, HA, HB, RA, RB, ST, NS, I0, I1, I2, BO, FI, RG, GU, PU, MA, MN, MS, OT, SC], [r0, r1, r2, r3, w, r5, r6, r7, r8], Lg)) o from ev_f (c := p1 ≠ x5) _ _ 1  zc15 e (fun n => Eq.refl _)
            obtain ⟨⟨x14, MN_15⟩, zh32, h⟩ := bnd h
            have zh32 : f_M_readMeeting MA MN = some (x14, MN_15) := zh32
            have ze33 := R_f_M_readMeeting_0 (d + 3) Y T HA HB RA RB ST NS I0 I1 I2 BO FI RG GU PU MA MN MS OT SC r0 r1 r2 r3 w r5 r6 r7 r8 L Lg zh32
            suffices e : Ev (d + 6, 0, 0, 38, 201, [.val (.ref 1088), .val (.int p1), .val a_unk, .val a_unk], [.int x14], (126, 120, L, [Y, T, HA, HB, RA, RB, ST, NS, I0, I1, I2, BO, FI, RG, GU, PU, MA, MN_15, MS, OT, SC], [r0, r1, r2, r3, w, r5, r6, r7, r8], Lg)) o from ev_call (fun v μ => (d + 6, 0, 0, 38, 201, [.val (.ref 1088), .val (.int p1), .val a_unk, .val a_unk], v.toList ++ [], μ)) 2 ze33 e (fun n => Eq.refl _)
            obtain ⟨x16, zh34, h⟩ := bnd h
            have zh34 : f_M_fine MN_15 = some x16 := zh34
            have ze35 := R_f_M_fine_0 (d + 5) Y T HA HB RA RB ST NS I0 I1 I2 BO FI RG GU PU MA MN_15 MS OT SC r0 r1 r2 r3 w r5 r6 r7 r8 L Lg zh34
            suffices e : Ev (d + 6, 0, 0, 38, 206, [.val (.ref 1088), .val (.int p1), .val (.int x14), .val a_unk], [.int x16], (126, 120, L, [Y, T, HA, HB, RA, RB, ST, NS, I0, I1, I2, BO, FI, RG, GU, PU, MA, MN_15, MS, OT, SC], [r0, r1, r2, r3, w, r5, r6, r7, r8], Lg)) o from ev_call (fun v μ => (d + 6, 0, 0, 38, 206, [.val (.ref 1088), .val (.int p1), .val (.int x14), .val a_unk], v.toList ++ [], μ)) 3 ze35 e (fun n => Eq.refl _)
            by_cases zc36 : x16 = 0
            · have h := itp h zc36
              suffices e : Ev (d + 6, 0, 0, 38, 221, [.val (.ref 1088), .val (.int p1), .val (.int x14), .val a_unk], [], (126, 120, L, [Y, T, HA, HB, RA, RB, ST, NS, I0, I1, I2, BO, FI, RG, GU, PU, MA, MN_15, MS, OT, SC], [r0, r1, r2, r3, w, r5, r6, r7, r8], Lg)) o from ev_t (c := x16 = 0) _ _ 1  zc36 e (fun n => Eq.refl _)
              have ze37 := Option.some.inj h
              subst ze37
              exact ev_rete 2 ho (fun n => Eq.refl _)
            · have h := itn h zc36
              suffices e : Ev (d + 6, 0, 0, 38, 209, [.val (.ref 1088), .val (.int p1), .val (.int x14), .val a_unk], [], (126, 120, L, [Y, T, HA, HB, RA, RB, ST, NS, I0, I1, I2, BO, FI, RG, GU, PU, MA, MN_15, MS, OT, SC], [r0, r1, r2, r3, w, r5, r6, r7, r8], Lg)) o from ev_f (c := x16 = 0) _ _ 1  zc36 e (fun n => Eq.refl _)
              obtain ⟨j17, zh38, h⟩ := bnd h
              have zh38 : ixx 60 ((6 * x14) + 4) = some j17 := zh38
              suffices e : Ev (d + 6, 0, 0, 38, 221, [.val (.ref 1088), .val (.int p1), .val (.int x14), .val a_unk], [], (126, 120, L, [Y, T, HA, HB, RA, RB, ST, NS, I0, I1, I2, BO, FI, RG, GU, PU, MA, (u2 MN_15 3 j17 1), MS, OT, SC], [r0, r1, r2, r3, w, r5, r6, r7, r8], Lg)) o from ev_opt (fun j17 => (d + 6, 0, 0, 38, 221, [.val (.ref 1088), .val (.int p1), .val (.int x14), .val a_unk], [], (126, 120, L, [Y, T, HA, HB, RA, RB, ST, NS, I0, I1, I2, BO, FI, RG, GU, PU, MA, (u2 MN_15 3 j17 1), MS, OT, SC], [r0, r1, r2, r3, w, r5, r6, r7, r8], Lg))) 9 zh38 e (fun n => Eq.refl _)
              have ze39 := Option.some.inj h
              subst ze39
              exact ev_rete 2 ho (fun n => Eq.refl _)
        · have h := itn h zc12
          suffices e : Ev (d + 6, 0, 0, 38, 144, [.val (.ref 1088), .val (.int p1), .val a_unk, .val a_unk], [], (126, 120, L, [Y, T, HA, HB, RA, RB, ST, NS, I0, I1, I2, BO, FI, RG, GU, PU, MA, MN, MS, OT, SC], [r0, r1, r2, r3, w, r5, r6, r7, r8], Lg)) o from ev_f (c := p1 ≠ x4) _ _ 1  zc12 e (fun n => Eq.refl _)
          obtain ⟨⟨x18, MN_19⟩, zh40, h⟩ := bnd h
          have zh40 : f_M_readMeeting MA MN = some (x18, MN_19) := zh40
          have ze41 := R_f_M_readMeeting_0 (d + 3) Y T HA HB RA RB ST NS I0 I1 I2 BO FI RG GU PU MA MN MS OT SC r0 r1 r2 r3 w r5 r6 r7 r8 L Lg zh40
          suffices e : Ev (d + 6, 0, 0, 38, 148, [.val (.ref 1088), .val (.int p1), .val a_unk, .val a_unk], [.int x18], (126, 120, L, [Y, T, HA, HB, RA, RB, ST, NS, I0, I1, I2, BO, FI, RG, GU, PU, MA, MN_19, MS, OT, SC], [r0, r1, r2, r3, w, r5, r6, r7, r8], Lg)) o from ev_call (fun v μ => (d + 6, 0, 0, 38, 148, [.val (.ref 1088), .val (.int p1), .val a_unk, .val a_unk], v.toList ++ [], μ)) 2 ze41 e (fun n => Eq.refl _)
          obtain ⟨⟨x20, MN_21⟩, zh42, h⟩ := bnd h
          have zh42 : f_M_readNumber MA MN_19 0 ((MN_19 0 20) - 1) = some (x20, MN_21) := zh42
          have ze43 := R_f_M_readNumber_0 (d + 4) Y T HA HB RA RB ST NS I0 I1 I2 BO FI RG GU PU MA MN_19 MS OT SC r0 r1 r2 r3 w r5 r6 r7 r8 L Lg 0 ((MN_19 0 20) - 1) zh42
          suffices e : Ev (d + 6, 0, 0, 38, 160, [.val (.ref 1088), .val (.int p1), .val (.int x18), .val a_unk], [.int x20], (126, 120, L, [Y, T, HA, HB, RA, RB, ST, NS, I0, I1, I2, BO, FI, RG, GU, PU, MA, MN_21, MS, OT, SC], [r0, r1, r2, r3, w, r5, r6, r7, r8], Lg)) o from ev_call (fun v μ => (d + 6, 0, 0, 38, 160, [.val (.ref 1088), .val (.int p1), .val (.int x18), .val a_unk], v.toList ++ [], μ)) 8 ze43 e (fun n => Eq.refl _)
          obtain ⟨x22, zh44, h⟩ := bnd h
          have zh44 : f_M_fine MN_21 = some x22 := zh44
          have ze45 := R_f_M_fine_0 (d + 5) Y T HA HB RA RB ST NS I0 I1 I2 BO FI RG GU PU MA MN_21 MS OT SC r0 r1 r2 r3 w r5 r6 r7 r8 L Lg zh44
          suffices e : Ev (d + 6, 0, 0, 38, 165, [.val (.ref 1088), .val (.int p1), .val (.int x18), .val (.int x20)], [.int x22], (126, 120, L, [Y, T, HA, HB, RA, RB, ST, NS, I0, I1, I2, BO, FI, RG, GU, PU, MA, MN_21, MS, OT, SC], [r0, r1, r2, r3, w, r5, r6, r7, r8], Lg)) o from ev_call (fun v μ => (d + 6, 0, 0, 38, 165, [.val (.ref 1088), .val (.int p1), .val (.int x18), .val (.int x20)], v.toList ++ [], μ)) 3 ze45 e (fun n => Eq.refl _)
          by_cases zc46 : x22 = 0
          · have h := itp h zc46
            suffices e : Ev (d + 6, 0, 0, 38, 185, [.val (.ref 1088), .val (.int p1), .val (.int x18), .val (.int x20)], [], (126, 120, L, [Y, T, HA, HB, RA, RB, ST, NS, I0, I1, I2, BO, FI, RG, GU, PU, MA, MN_21, MS, OT, SC], [r0, r1, r2, r3, w, r5, r6, r7, r8], Lg)) o from ev_t (c := x22 = 0) _ _ 1  zc46 e (fun n => Eq.refl _)
            have ze47 := Option.some.inj h
            subst ze47
            exact ev_rete 2 ho (fun n => Eq.refl _)
          · have h := itn h zc46
            suffices e : Ev (d + 6, 0, 0, 38, 168, [.val (.ref 1088), .val (.int p1), .val (.int x18), .val (.int x20)], [], (126, 120, L, [Y, T, HA, HB, RA, RB, ST, NS, I0, I1, I2, BO, FI, RG, GU, PU, MA, MN_21, MS, OT, SC], [r0, r1, r2, r3, w, r5, r6, r7, r8], Lg)) o from ev_f (c := x22 = 0) _ _ 1  zc46 e (fun n => Eq.refl _)
            obtain ⟨x23, zh48, h⟩ := bnd h
            have zh48 : rdx (MN_21 3) 60 ((6 * x18) + 2) = some x23 := zh48
            suffices e : Ev (d + 6, 0, 0, 38, 180, [.val (.ref 1088), .val (.int p1), .val (.int x18), .val (.int x20)], [.int x23, .int ((6 * x18) + 2), .ref 1155], (126, 120, L, [Y, T, HA, HB, RA, RB, ST, NS, I0, I1, I2, BO, FI, RG, GU, PU, MA, MN_21, MS, OT, SC], [r0, r1, r2, r3, w, r5, r6, r7, r8], Lg)) o from ev_opt (fun x23 => (d + 6, 0, 0, 38, 180, [.val (.ref 1088), .val (.int p1), .val (.int x18), .val (.int x20)], [.int x23, .int ((6 * x18) + 2), .ref 1155], (126, 120, L, [Y, T, HA, HB, RA, RB, ST, NS, I0, I1, I2, BO, FI, RG, GU, PU, MA, MN_21, MS, OT, SC], [r0, r1, r2, r3, w, r5, r6, r7, r8], Lg))) 9 zh48 e (fun n => Eq.refl _)
            obtain ⟨j24, zh49, h⟩ := bnd h
            have zh49 : ixx 60 ((6 * x18) + 2) = some j24 := zh49
            suffices e : Ev (d + 6, 0, 0, 38, 185, [.val (.ref 1088), .val (.int p1), .val (.int x18), .val (.int x20)], [], (126, 120, L, [Y, T, HA, HB, RA, RB, ST, NS, I0, I1, I2, BO, FI, RG, GU, PU, MA, (u2 MN_21 3 j24 (x23 ||| (a_shl 1 x20))), MS, OT, SC], [r0, r1, r2, r3, w, r5, r6, r7, r8], Lg)) o from ev_opt (fun j24 => (d + 6, 0, 0, 38, 185, [.val (.ref 1088), .val (.int p1), .val (.int x18), .val (.int x20)], [], (126, 120, L, [Y, T, HA, HB, RA, RB, ST, NS, I0, I1, I2, BO, FI, RG, GU, PU, MA, (u2 MN_21 3 j24 (x23 ||| (a_shl 1 x20))), MS, OT, SC], [r0, r1, r2, r3, w, r5, r6, r7, r8], Lg))) 5 zh49 e (fun n => Eq.refl _)
            have ze50 := Option.some.inj h
            subst ze50
            exact ev_rete 2 ho (fun n => Eq.refl _)
      · have h := itn h zc9
        suffices e : Ev (d + 6, 0, 0, 38, 70, [.val (.ref 1088), .val (.int p1), .val a_unk, .val a_unk], [], (126, 120, L, [Y, T, HA, HB, RA, RB, ST, NS, I0, I1, I2, BO, FI, RG, GU, PU, MA, MN, MS, OT, SC], [r0, r1, r2, r3, w, r5, r6, r7, r8], Lg)) o from ev_f (c := p1 ≠ x3) _ _ 1  zc9 e (fun n => Eq.refl _)
        obtain ⟨⟨x25, MN_26⟩, zh51, h⟩ := bnd h
        have zh51 : f_M_readNumber MA MN 0 9 = some (x25, MN_26) := zh51
        have ze52 := R_f_M_readNumber_0 (d + 4) Y T HA HB RA RB ST NS I0 I1 I2 BO FI RG GU PU MA MN MS OT SC r0 r1 r2 r3 w r5 r6 r7 r8 L Lg 0 9 zh51
        suffices e : Ev (d + 6, 0, 0, 38, 87, [.val (.ref 1088), .val (.int p1), .val a_unk, .val a_unk], [.int x25, .int (3 * (MN 0 20)), .ref 1154], (126, 120, L, [Y, T, HA, HB, RA, RB, ST, NS, I0, I1, I2, BO, FI, RG, GU, PU, MA, MN_26, MS, OT, SC], [r0, r1, r2, r3, w, r5, r6, r7, r8], Lg)) o from ev_call (fun v μ => (d + 6, 0, 0, 38, 87, [.val (.ref 1088), .val (.int p1), .val a_unk, .val a_unk], v.toList ++ [.int (3 * (MN 0 20)), .ref 1154], μ)) 10 ze52 e (fun n => Eq.refl _)
        obtain ⟨j27, zh53, h⟩ := bnd h
        have zh53 : ixx 24 (3 * (MN 0 20)) = some j27 := zh53
        suffices e : Ev (d + 6, 0, 0, 38, 88, [.val (.ref 1088), .val (.int p1), .val a_unk, .val a_unk], [], (126, 120, L, [Y, T, HA, HB, RA, RB, ST, NS, I0, I1, I2, BO, FI, RG, GU, PU, MA, (u2 MN_26 2 j27 x25), MS, OT, SC], [r0, r1, r2, r3, w, r5, r6, r7, r8], Lg)) o from ev_opt (fun j27 => (d + 6, 0, 0, 38, 88, [.val (.ref 1088), .val (.int p1), .val a_unk, .val a_unk], [], (126, 120, L, [Y, T, HA, HB, RA, RB, ST, NS, I0, I1, I2, BO, FI, RG, GU, PU, MA, (u2 MN_26 2 j27 x25), MS, OT, SC], [r0, r1, r2, r3, w, r5, r6, r7, r8], Lg))) 1 zh53 e (fun n => Eq.refl _)
        obtain ⟨⟨x28, MN_29⟩, zh54, h⟩ := bnd h
        have zh54 : f_M_readNumber MA (u2 MN_26 2 j27 x25) 0 9 = some (x28, MN_29) := zh54
        have ze55 := R_f_M_readNumber_0 (d + 4) Y T HA HB RA RB ST NS I0 I1 I2 BO FI RG GU PU MA (u2 MN_26 2 j27 x25) MS OT SC r0 r1 r2 r3 w r5 r6 r7 r8 L Lg 0 9 zh54
        suffices e : Ev (d + 6, 0, 0, 38, 107, [.val (.ref 1088), .val (.int p1), .val a_unk, .val a_unk], [.int x28, .int ((3 * ((u2 MN_26 2 j27 x25) 0 20)) + 1), .ref 1154], (126, 120, L, [Y, T, HA, HB, RA, RB, ST, NS, I0, I1, I2, BO, FI, RG, GU, PU, MA, MN_29, MS, OT, SC], [r0, r1, r2, r3, w, r5, r6, r7, r8], Lg)) o from ev_call (fun v μ => (d + 6, 0, 0, 38, 107, [.val (.ref 1088), .val (.int p1), .val a_unk, .val a_unk], v.toList ++ [.int ((3 * ((u2 MN_26 2 j27 x25) 0 20)) + 1), .ref 1154], μ)) 12 ze55 e (fun n => Eq.refl _)
        obtain ⟨j30, zh56, h⟩ := bnd h
        have zh56 : ixx 24 ((3 * ((u2 MN_26 2 j27 x25) 0 20)) + 1) = some j30 := zh56
        suffices e : Ev (d + 6, 0, 0, 38, 108, [.val (.ref 1088), .val (.int p1), .val a_unk, .val a_unk], [], (126, 120, L, [Y, T, HA, HB, RA, RB, ST, NS, I0, I1, I2, BO, FI, RG, GU, PU, MA, (u2 MN_29 2 j30 x28), MS, OT, SC], [r0, r1, r2, r3, w, r5, r6, r7, r8], Lg)) o from ev_opt (fun j30 => (d + 6, 0, 0, 38, 108, [.val (.ref 1088), .val (.int p1), .val a_unk, .val a_unk], [], (126, 120, L, [Y, T, HA, HB, RA, RB, ST, NS, I0, I1, I2, BO, FI, RG, GU, PU, MA, (u2 MN_29 2 j30 x28), MS, OT, SC], [r0, r1, r2, r3, w, r5, r6, r7, r8], Lg))) 1 zh56 e (fun n => Eq.refl _)
        obtain ⟨j31, zh57, h⟩ := bnd h
        have zh57 : ixx 24 ((3 * ((u2 MN_29 2 j30 x28) 0 20)) + 2) = some j31 := zh57
        suffices e : Ev (d + 6, 0, 0, 38, 122, [.val (.ref 1088), .val (.int p1), .val a_unk, .val a_unk], [], (126, 120, L, [Y, T, HA, HB, RA, RB, ST, NS, I0, I1, I2, BO, FI, RG, GU, PU, MA, (u2 (u2 MN_29 2 j30 x28) 2 j31 0), MS, OT, SC], [r0, r1, r2, r3, w, r5, r6, r7, r8], Lg)) o from ev_opt (fun j31 => (d + 6, 0, 0, 38, 122, [.val (.ref 1088), .val (.int p1), .val a_unk, .val a_unk], [], (126, 120, L, [Y, T, HA, HB, RA, RB, ST, NS, I0, I1, I2, BO, FI, RG, GU, PU, MA, (u2 (u2 MN_29 2 j30 x28) 2 j31 0), MS, OT, SC], [r0, r1, r2, r3, w, r5, r6, r7, r8], Lg))) 10 zh57 e (fun n => Eq.refl _)
        have ze58 := Option.some.inj h
        subst ze58
        exact ev_rete 8 ho (fun n => Eq.refl _)
    · have h := itn h zc6
      suffices e : Ev (d + 6, 0, 0, 38, 32, [.val (.ref 1088), .val (.int p1), .val a_unk, .val a_unk], [], (126, 120, L, [Y, T, HA, HB, RA, RB, ST, NS, I0, I1, I2, BO, FI, RG, GU, PU, MA, MN, MS, OT, SC], [r0, r1, r2, r3, w, r5, r6, r7, r8], Lg)) o from ev_f (c := p1 ≠ x2) _ _ 1  zc6 e (fun n => Eq.refl _)
      obtain ⟨⟨x32, MN_33⟩, zh59, h⟩ := bnd h
      have zh59 : f_M_readNumber MA MN 0 20 = some (x32, MN_33) := zh59
      have ze60 := R_f_M_readNumber_0 (d + 4) Y T HA HB RA RB ST NS I0 I1 I2 BO FI RG GU PU MA MN MS OT SC r0 r1 r2 r3 w r5 r6 r7 r8 L Lg 0 20 zh59
      suffices e : Ev (d + 6, 0, 0, 38, 47, [.val (.ref 1088), .val (.int p1), .val a_unk, .val a_unk], [.int x32, .int (MN 0 19), .ref 1153], (126, 120, L, [Y, T, HA, HB, RA, RB, ST, NS, I0, I1, I2, BO, FI, RG, GU, PU, MA, MN_33, MS, OT, SC], [r0, r1, r2, r3, w, r5, r6, r7, r8], Lg)) o from ev_call (fun v μ => (d + 6, 0, 0, 38, 47, [.val (.ref 1088), .val (.int p1), .val a_unk, .val a_unk], v.toList ++ [.int (MN 0 19), .ref 1153], μ)) 8 ze60 e (fun n => Eq.refl _)
      obtain ⟨j34, zh61, h⟩ := bnd h
      have zh61 : ixx 3 (MN 0 19) = some j34 := zh61
      suffices e : Ev (d + 6, 0, 0, 38, 48, [.val (.ref 1088), .val (.int p1), .val a_unk, .val a_unk], [], (126, 120, L, [Y, T, HA, HB, RA, RB, ST, NS, I0, I1, I2, BO, FI, RG, GU, PU, MA, (u2 MN_33 1 j34 x32), MS, OT, SC], [r0, r1, r2, r3, w, r5, r6, r7, r8], Lg)) o from ev_opt (fun j34 => (d + 6, 0, 0, 38, 48, [.val (.ref 1088), .val (.int p1), .val a_unk, .val a_unk], [], (126, 120, L, [Y, T, HA, HB, RA, RB, ST, NS, I0, I1, I2, BO, FI, RG, GU, PU, MA, (u2 MN_33 1 j34 x32), MS, OT, SC], [r0, r1, r2, r3, w, r5, r6, r7, r8], Lg))) 1 zh61 e (fun n => Eq.refl _)
      have ze62 := Option.some.inj h
      subst ze62
      exact ev_rete 8 ho (fun n => Eq.refl _)
  · have h := itn h zc3
    suffices e : Ev (d + 6, 0, 0, 38, 9, [.val (.ref 1088), .val (.int p1), .val a_unk, .val a_unk], [], (126, 120, L, [Y, T, HA, HB, RA, RB, ST, NS, I0, I1, I2, BO, FI, RG, GU, PU, MA, MN, MS, OT, SC], [r0, r1, r2, r3, w, r5, r6, r7, r8], Lg)) o from ev_f (c := p1 ≠ x1) _ _ 1  zc3 e (fun n => Eq.refl _)
    obtain ⟨⟨x35, MN_36⟩, zh63, h⟩ := bnd h
    have zh63 : f_M_readNumber MA MN 1 10 = some (x35, MN_36) := zh63
    have ze64 := R_f_M_readNumber_0 (d + 4) Y T HA HB RA RB ST NS I0 I1 I2 BO FI RG GU PU MA MN MS OT SC r0 r1 r2 r3 w r5 r6 r7 r8 L Lg 1 10 zh63
    suffices e : Ev (d + 6, 0, 0, 38, 17, [.val (.ref 1088), .val (.int p1), .val a_unk, .val a_unk], [.int x35, .ref 1088], (126, 120, L, [Y, T, HA, HB, RA, RB, ST, NS, I0, I1, I2, BO, FI, RG, GU, PU, MA, MN_36, MS, OT, SC], [r0, r1, r2, r3, w, r5, r6, r7, r8], Lg)) o from ev_call (fun v μ => (d + 6, 0, 0, 38, 17, [.val (.ref 1088), .val (.int p1), .val a_unk, .val a_unk], v.toList ++ [.ref 1088], μ)) 5 ze64 e (fun n => Eq.refl _)
    have ze65 := Option.some.inj h
    subst ze65
    exact ev_rete 3 ho (fun n => Eq.refl _)
set_option maxRecDepth 1000000 in
set_option maxHeartbeats 4000000 in
theorem R_f_M_isClause_0 (d : Nat) (Y T HA HB RA RB ST NS I0 I1 I2 BO FI RG GU PU MA MN MS OT SC : Nat → Nat → Int32) (r0 r1 r2 r3 w r5 r6 r7 r8 : Nat) (L : Nat) (Lg : Int64) (p0 : Int32) {r : Int32} (h : f_M_isClause p0 = some r) : Ev (d + 5, 0, 0, 39, 0, [.val (.int p0)], [], (126, 120, L, [Y, T, HA, HB, RA, RB, ST, NS, I0, I1, I2, BO, FI, RG, GU, PU, MA, MN, MS, OT, SC], [r0, r1, r2, r3, w, r5, r6, r7, r8], Lg)) ((0, some (.int r), (126, 120, L, [Y, T, HA, HB, RA, RB, ST, NS, I0, I1, I2, BO, FI, RG, GU, PU, MA, MN, MS, OT, SC], [r0, r1, r2, r3, w, r5, r6, r7, r8], Lg)) : AOut) := by
  suffices key : ∀ o : AOut, ((0, some (.int r), (126, 120, L, [Y, T, HA, HB, RA, RB, ST, NS, I0, I1, I2, BO, FI, RG, GU, PU, MA, MN, MS, OT, SC], [r0, r1, r2, r3, w, r5, r6, r7, r8], Lg)) : AOut) = o → Ev (d + 5, 0, 0, 39, 0, [.val (.int p0)], [], (126, 120, L, [Y, T, HA, HB, RA, RB, ST, NS, I0, I1, I2, BO, FI, RG, GU, PU, MA, MN, MS, OT, SC], [r0, r1, r2, r3, w, r5, r6, r7, r8], Lg)) o from key _ rfl
  intro o ho
  obtain ⟨x1, zh1, h⟩ := bnd h
  have zh1 : f_M_of 2650 = some x1 := zh1
  have ze2 := R_f_M_of_0 (d + 0) Y T HA HB RA RB ST NS I0 I1 I2 BO FI RG GU PU MA MN MS OT SC r0 r1 r2 r3 w r5 r6 r7 r8 L Lg 2650 zh1
  suffices e : Ev (d + 5, 0, 0, 39, 6, [.val (.int p0)], [.int x1, .int p0], (126, 120, L, [Y, T, HA, HB, RA, RB, ST, NS, I0, I1, I2, BO, FI, RG, GU, PU, MA, MN, MS, OT, SC], [r0, r1, r2, r3, w, r5, r6, r7, r8], Lg)) o from ev_call (fun v μ => (d + 5, 0, 0, 39, 6, [.val (.int p0)], v.toList ++ [.int p0], μ)) 3 ze2 e (fun n => Eq.refl _)
  by_cases zc3 : p0 = x1
  · have h := itp h zc3
    suffices e : Ev (d + 5, 0, 0, 39, 90, [.val (.int p0)], [], (126, 120, L, [Y, T, HA, HB, RA, RB, ST, NS, I0, I1, I2, BO, FI, RG, GU, PU, MA, MN, MS, OT, SC], [r0, r1, r2, r3, w, r5, r6, r7, r8], Lg)) o from ev_t (c := p0 = x1) _ _ 1  zc3 e (fun n => Eq.refl _)
    have ze4 := Option.some.inj h
    subst ze4
    exact ev_rete 3 ho (fun n => Eq.refl _)
  · have h := itn h zc3
    suffices e : Ev (d + 5, 0, 0, 39, 9, [.val (.int p0)], [], (126, 120, L, [Y, T, HA, HB, RA, RB, ST, NS, I0, I1, I2, BO, FI, RG, GU, PU, MA, MN, MS, OT, SC], [r0, r1, r2, r3, w, r5, r6, r7, r8], Lg)) o from ev_f (c := p0 = x1) _ _ 1  zc3 e (fun n => Eq.refl _)
    obtain ⟨x2, zh5, h⟩ := bnd h
    have zh5 : f_M_of 2651 = some x2 := zh5
    have ze6 := R_f_M_of_0 (d + 0) Y T HA HB RA RB ST NS I0 I1 I2 BO FI RG GU PU MA MN MS OT SC r0 r1 r2 r3 w r5 r6 r7 r8 L Lg 2651 zh5
    suffices e : Ev (d + 5, 0, 0, 39, 15, [.val (.int p0)], [.int x2, .int p0], (126, 120, L, [Y, T, HA, HB, RA, RB, ST, NS, I0, I1, I2, BO, FI, RG, GU, PU, MA, MN, MS, OT, SC], [r0, r1, r2, r3, w, r5, r6, r7, r8], Lg)) o from ev_call (fun v μ => (d + 5, 0, 0, 39, 15, [.val (.int p0)], v.toList ++ [.int p0], μ)) 3 ze6 e (fun n => Eq.refl _)
    by_cases zc7 : p0 = x2
    · have h := itp h zc7
      suffices e : Ev (d + 5, 0, 0, 39, 90, [.val (.int p0)], [], (126, 120, L, [Y, T, HA, HB, RA, RB, ST, NS, I0, I1, I2, BO, FI, RG, GU, PU, MA, MN, MS, OT, SC], [r0, r1, r2, r3, w, r5, r6, r7, r8], Lg)) o from ev_t (c := p0 = x2) _ _ 1  zc7 e (fun n => Eq.refl _)
      have ze8 := Option.some.inj h
      subst ze8
      exact ev_rete 3 ho (fun n => Eq.refl _)
    · have h := itn h zc7
      suffices e : Ev (d + 5, 0, 0, 39, 18, [.val (.int p0)], [], (126, 120, L, [Y, T, HA, HB, RA, RB, ST, NS, I0, I1, I2, BO, FI, RG, GU, PU, MA, MN, MS, OT, SC], [r0, r1, r2, r3, w, r5, r6, r7, r8], Lg)) o from ev_f (c := p0 = x2) _ _ 1  zc7 e (fun n => Eq.refl _)
      obtain ⟨x3, zh9, h⟩ := bnd h
      have zh9 : f_M_of 2652 = some x3 := zh9
      have ze10 := R_f_M_of_0 (d + 0) Y T HA HB RA RB ST NS I0 I1 I2 BO FI RG GU PU MA MN MS OT SC r0 r1 r2 r3 w r5 r6 r7 r8 L Lg 2652 zh9
      suffices e : Ev (d + 5, 0, 0, 39, 24, [.val (.int p0)], [.int x3, .int p0], (126, 120, L, [Y, T, HA, HB, RA, RB, ST, NS, I0, I1, I2, BO, FI, RG, GU, PU, MA, MN, MS, OT, SC], [r0, r1, r2, r3, w, r5, r6, r7, r8], Lg)) o from ev_call (fun v μ => (d + 5, 0, 0, 39, 24, [.val (.int p0)], v.toList ++ [.int p0], μ)) 3 ze10 e (fun n => Eq.refl _)
      by_cases zc11 : p0 = x3
      · have h := itp h zc11
        suffices e : Ev (d + 5, 0, 0, 39, 90, [.val (.int p0)], [], (126, 120, L, [Y, T, HA, HB, RA, RB, ST, NS, I0, I1, I2, BO, FI, RG, GU, PU, MA, MN, MS, OT, SC], [r0, r1, r2, r3, w, r5, r6, r7, r8], Lg)) o from ev_t (c := p0 = x3) _ _ 1  zc11 e (fun n => Eq.refl _)
        have ze12 := Option.some.inj h
        subst ze12
        exact ev_rete 3 ho (fun n => Eq.refl _)
      · have h := itn h zc11
        suffices e : Ev (d + 5, 0, 0, 39, 27, [.val (.int p0)], [], (126, 120, L, [Y, T, HA, HB, RA, RB, ST, NS, I0, I1, I2, BO, FI, RG, GU, PU, MA, MN, MS, OT, SC], [r0, r1, r2, r3, w, r5, r6, r7, r8], Lg)) o from ev_f (c := p0 = x3) _ _ 1  zc11 e (fun n => Eq.refl _)
        obtain ⟨x4, zh13, h⟩ := bnd h
        have zh13 : f_M_of 2647 = some x4 := zh13
        have ze14 := R_f_M_of_0 (d + 0) Y T HA HB RA RB ST NS I0 I1 I2 BO FI RG GU PU MA MN MS OT SC r0 r1 r2 r3 w r5 r6 r7 r8 L Lg 2647 zh13
        suffices e : Ev (d + 5, 0, 0, 39, 33, [.val (.int p0)], [.int x4, .int p0], (126, 120, L, [Y, T, HA, HB, RA, RB, ST, NS, I0, I1, I2, BO, FI, RG, GU, PU, MA, MN, MS, OT, SC], [r0, r1, r2, r3, w, r5, r6, r7, r8], Lg)) o from ev_call (fun v μ => (d + 5, 0, 0, 39, 33, [.val (.int p0)], v.toList ++ [.int p0], μ)) 3 ze14 e (fun n => Eq.refl _)
        by_cases zc15 : p0 = x4
        · have h := itp h zc15
          suffices e : Ev (d + 5, 0, 0, 39, 90, [.val (.int p0)], [], (126, 120, L, [Y, T, HA, HB, RA, RB, ST, NS, I0, I1, I2, BO, FI, RG, GU, PU, MA, MN, MS, OT, SC], [r0, r1, r2, r3, w, r5, r6, r7, r8], Lg)) o from ev_t (c := p0 = x4) _ _ 1  zc15 e (fun n => Eq.refl _)
          have ze16 := Option.some.inj h
          subst ze16
          exact ev_rete 3 ho (fun n => Eq.refl _)
        · have h := itn h zc15
          suffices e : Ev (d + 5, 0, 0, 39, 36, [.val (.int p0)], [], (126, 120, L, [Y, T, HA, HB, RA, RB, ST, NS, I0, I1, I2, BO, FI, RG, GU, PU, MA, MN, MS, OT, SC], [r0, r1, r2, r3, w, r5, r6, r7, r8], Lg)) o from ev_f (c := p0 = x4) _ _ 1  zc15 e (fun n => Eq.refl _)
          obtain ⟨x5, zh17, h⟩ := bnd h
          have zh17 : f_M_of 2649 = some x5 := zh17
          have ze18 := R_f_M_of_0 (d + 0) Y T HA HB RA RB ST NS I0 I1 I2 BO FI RG GU PU MA MN MS OT SC r0 r1 r2 r3 w r5 r6 r7 r8 L Lg 2649 zh17
          suffices e : Ev (d + 5, 0, 0, 39, 42, [.val (.int p0)], [.int x5, .int p0], (126, 120, L, [Y, T, HA, HB, RA, RB, ST, NS, I0, I1, I2, BO, FI, RG, GU, PU, MA, MN, MS, OT, SC], [r0, r1, r2, r3, w, r5, r6, r7, r8], Lg)) o from ev_call (fun v μ => (d + 5, 0, 0, 39, 42, [.val (.int p0)], v.toList ++ [.int p0], μ)) 3 ze18 e (fun n => Eq.refl _)
          by_cases zc19 : p0 = x5
          · have h := itp h zc19
            suffices e : Ev (d + 5, 0, 0, 39, 90, [.val (.int p0)], [], (126, 120, L, [Y, T, HA, HB, RA, RB, ST, NS, I0, I1, I2, BO, FI, RG, GU, PU, MA, MN, MS, OT, SC], [r0, r1, r2, r3, w, r5, r6, r7, r8], Lg)) o from ev_t (c := p0 = x5) _ _ 1  zc19 e (fun n => Eq.refl _)
            have ze20 := Option.some.inj h
            subst ze20
            exact ev_rete 3 ho (fun n => Eq.refl _)
          · have h := itn h zc19
            suffices e : Ev (d + 5, 0, 0, 39, 45, [.val (.int p0)], [], (126, 120, L, [Y, T, HA, HB, RA, RB, ST, NS, I0, I1, I2, BO, FI, RG, GU, PU, MA, MN, MS, OT, SC], [r0, r1, r2, r3, w, r5, r6, r7, r8], Lg)) o from ev_f (c := p0 = x5) _ _ 1  zc19 e (fun n => Eq.refl _)
            obtain ⟨x6, zh21, h⟩ := bnd h
            have zh21 : f_M_of 2653 = some x6 := zh21
            have ze22 := R_f_M_of_0 (d + 0) Y T HA HB RA RB ST NS I0 I1 I2 BO FI RG GU PU MA MN MS OT SC r0 r1 r2 r3 w r5 r6 r7 r8 L Lg 2653 zh21
            suffices e : Ev (d + 5, 0, 0, 39, 51, [.val (.int p0)], [.int x6, .int p0], (126, 120, L, [Y, T, HA, HB, RA, RB, ST, NS, I0, I1, I2, BO, FI, RG, GU, PU, MA, MN, MS, OT, SC], [r0, r1, r2, r3, w, r5, r6, r7, r8], Lg)) o from ev_call (fun v μ => (d + 5, 0, 0, 39, 51, [.val (.int p0)], v.toList ++ [.int p0], μ)) 3 ze22 e (fun n => Eq.refl _)
            by_cases zc23 : p0 = x6
            · have h := itp h zc23
              suffices e : Ev (d + 5, 0, 0, 39, 90, [.val (.int p0)], [], (126, 120, L, [Y, T, HA, HB, RA, RB, ST, NS, I0, I1, I2, BO, FI, RG, GU, PU, MA, MN, MS, OT, SC], [r0, r1, r2, r3, w, r5, r6, r7, r8], Lg)) o from ev_t (c := p0 = x6) _ _ 1  zc23 e (fun n => Eq.refl _)
              have ze24 := Option.some.inj h
              subst ze24
              exact ev_rete 3 ho (fun n => Eq.refl _)
            · have h := itn h zc23
              suffices e : Ev (d + 5, 0, 0, 39, 54, [.val (.int p0)], [], (126, 120, L, [Y, T, HA, HB, RA, RB, ST, NS, I0, I1, I2, BO, FI, RG, GU, PU, MA, MN, MS, OT, SC], [r0, r1, r2, r3, w, r5, r6, r7, r8], Lg)) o from ev_f (c := p0 = x6) _ _ 1  zc23 e (fun n => Eq.refl _)
              obtain ⟨x7, zh25, h⟩ := bnd h
              have zh25 : f_M_of 2648 = some x7 := zh25
              have ze26 := R_f_M_of_0 (d + 0) Y T HA HB RA RB ST NS I0 I1 I2 BO FI RG GU PU MA MN MS OT SC r0 r1 r2 r3 w r5 r6 r7 r8 L Lg 2648 zh25
              suffices e : Ev (d + 5, 0, 0, 39, 60, [.val (.int p0)], [.int x7, .int p0], (126, 120, L, [Y, T, HA, HB, RA, RB, ST, NS, I0, I1, I2, BO, FI, RG, GU, PU, MA, MN, MS, OT, SC], [r0, r1, r2, r3, w, r5, r6, r7, r8], Lg)) o from ev_call (fun v μ => (d + 5, 0, 0, 39, 60, [.val (.int p0)], v.toList ++ [.int p0], μ)) 3 ze26 e (fun n => Eq.refl _)
              by_cases zc27 : p0 = x7
              · have h := itp h zc27
                suffices e : Ev (d + 5, 0, 0, 39, 90, [.val (.int p0)], [], (126, 120, L, [Y, T, HA, HB, RA, RB, ST, NS, I0, I1, I2, BO, FI, RG, GU, PU, MA, MN, MS, OT, SC], [r0, r1, r2, r3, w, r5, r6, r7, r8], Lg)) o from ev_t (c := p0 = x7) _ _ 1  zc27 e (fun n => Eq.refl _)
                have ze28 := Option.some.inj h
                subst ze28
                exact ev_rete 3 ho (fun n => Eq.refl _)
              · have h := itn h zc27
                suffices e : Ev (d + 5, 0, 0, 39, 63, [.val (.int p0)], [], (126, 120, L, [Y, T, HA, HB, RA, RB, ST, NS, I0, I1, I2, BO, FI, RG, GU, PU, MA, MN, MS, OT, SC], [r0, r1, r2, r3, w, r5, r6, r7, r8], Lg)) o from ev_f (c := p0 = x7) _ _ 1  zc27 e (fun n => Eq.refl _)
                obtain ⟨x8, zh29, h⟩ := bnd h
                have zh29 : f_M_of 2654 = some x8 := zh29
                have ze30 := R_f_M_of_0 (d + 0) Y T HA HB RA RB ST NS I0 I1 I2 BO FI RG GU PU MA MN MS OT SC r0 r1 r2 r3 w r5 r6 r7 r8 L Lg 2654 zh29
                suffices e : Ev (d + 5, 0, 0, 39, 69, [.val (.int p0)], [.int x8, .int p0], (126, 120, L, [Y, T, HA, HB, RA, RB, ST, NS, I0, I1, I2, BO, FI, RG, GU, PU, MA, MN, MS, OT, SC], [r0, r1, r2, r3, w, r5, r6, r7, r8], Lg)) o from ev_call (fun v μ => (d + 5, 0, 0, 39, 69, [.val (.int p0)], v.toList ++ [.int p0], μ)) 3 ze30 e (fun n => Eq.refl _)
                by_cases zc31 : p0 = x8
                · have h := itp h zc31
                  suffices e : Ev (d + 5, 0, 0, 39, 90, [.val (.int p0)], [], (126, 120, L, [Y, T, HA, HB, RA, RB, ST, NS, I0, I1, I2, BO, FI, RG, GU, PU, MA, MN, MS, OT, SC], [r0, r1, r2, r3, w, r5, r6, r7, r8], Lg)) o from ev_t (c := p0 = x8) _ _ 1  zc31 e (fun n => Eq.refl _)
                  have ze32 := Option.some.inj h
                  subst ze32
                  exact ev_rete 3 ho (fun n => Eq.refl _)
                · have h := itn h zc31
                  suffices e : Ev (d + 5, 0, 0, 39, 72, [.val (.int p0)], [], (126, 120, L, [Y, T, HA, HB, RA, RB, ST, NS, I0, I1, I2, BO, FI, RG, GU, PU, MA, MN, MS, OT, SC], [r0, r1, r2, r3, w, r5, r6, r7, r8], Lg)) o from ev_f (c := p0 = x8) _ _ 1  zc31 e (fun n => Eq.refl _)
                  obtain ⟨x9, zh33, h⟩ := bnd h
                  have zh33 : f_M_of 2655 = some x9 := zh33
                  have ze34 := R_f_M_of_0 (d + 0) Y T HA HB RA RB ST NS I0 I1 I2 BO FI RG GU PU MA MN MS OT SC r0 r1 r2 r3 w r5 r6 r7 r8 L Lg 2655 zh33
                  suffices e : Ev (d + 5, 0, 0, 39, 78, [.val (.int p0)], [.int x9, .int p0], (126, 120, L, [Y, T, HA, HB, RA, RB, ST, NS, I0, I1, I2, BO, FI, RG, GU, PU, MA, MN, MS, OT, SC], [r0, r1, r2, r3, w, r5, r6, r7, r8], Lg)) o from ev_call (fun v μ => (d + 5, 0, 0, 39, 78, [.val (.int p0)], v.toList ++ [.int p0], μ)) 3 ze34 e (fun n => Eq.refl _)
                  by_cases zc35 : p0 = x9
                  · have h := itp h zc35
                    suffices e : Ev (d + 5, 0, 0, 39, 90, [.val (.int p0)], [], (126, 120, L, [Y, T, HA, HB, RA, RB, ST, NS, I0, I1, I2, BO, FI, RG, GU, PU, MA, MN, MS, OT, SC], [r0, r1, r2, r3, w, r5, r6, r7, r8], Lg)) o from ev_t (c := p0 = x9) _ _ 1  zc35 e (fun n => Eq.refl _)
                    have ze36 := Option.some.inj h
                    subst ze36
                    exact ev_rete 3 ho (fun n => Eq.refl _)
                  · have h := itn h zc35
                    suffices e : Ev (d + 5, 0, 0, 39, 81, [.val (.int p0)], [], (126, 120, L, [Y, T, HA, HB, RA, RB, ST, NS, I0, I1, I2, BO, FI, RG, GU, PU, MA, MN, MS, OT, SC], [r0, r1, r2, r3, w, r5, r6, r7, r8], Lg)) o from ev_f (c := p0 = x9) _ _ 1  zc35 e (fun n => Eq.refl _)
                    obtain ⟨x10, zh37, h⟩ := bnd h
                    have zh37 : f_M_of 2656 = some x10 := zh37
                    have ze38 := R_f_M_of_0 (d + 0) Y T HA HB RA RB ST NS I0 I1 I2 BO FI RG GU PU MA MN MS OT SC r0 r1 r2 r3 w r5 r6 r7 r8 L Lg 2656 zh37
                    suffices e : Ev (d + 5, 0, 0, 39, 87, [.val (.int p0)], [.int x10, .int p0], (126, 120, L, [Y, T, HA, HB, RA, RB, ST, NS, I0, I1, I2, BO, FI, RG, GU, PU, MA, MN, MS, OT, SC], [r0, r1, r2, r3, w, r5, r6, r7, r8], Lg)) o from ev_call (fun v μ => (d + 5, 0, 0, 39, 87, [.val (.int p0)], v.toList ++ [.int p0], μ)) 3 ze38 e (fun n => Eq.refl _)
                    by_cases zc39 : p0 ≠ x10
                    · have h := itp h zc39
                      suffices e : Ev (d + 5, 0, 0, 39, 94, [.val (.int p0)], [], (126, 120, L, [Y, T, HA, HB, RA, RB, ST, NS, I0, I1, I2, BO, FI, RG, GU, PU, MA, MN, MS, OT, SC], [r0, r1, r2, r3, w, r5, r6, r7, r8], Lg)) o from ev_t (c := p0 ≠ x10) _ _ 1  zc39 e (fun n => Eq.refl _)
                      have ze40 := Option.some.inj h
                      subst ze40
                      exact ev_rete 2 ho (fun n => Eq.refl _)
                    · have h := itn h zc39
                      suffices e : Ev (d + 5, 0, 0, 39, 90, [.val (.int p0)], [], (126, 120, L, [Y, T, HA, HB, RA, RB, ST, NS, I0, I1, I2, BO, FI, RG, GU, PU, MA, MN, MS, OT, SC], [r0, r1, r2, r3, w, r5, r6, r7, r8], Lg)) o from ev_f (c := p0 ≠ x10) _ _ 1  zc39 e (fun n => Eq.refl _)
                      have ze41 := Option.some.inj h
                      subst ze41
                      exact ev_rete 3 ho (fun n => Eq.refl _)
set_option maxRecDepth 1000000 in
set_option maxHeartbeats 4000000 in
theorem R_f_M_house_0 (d : Nat) (Y T HA HB RA RB ST NS I0 I1 I2 BO FI RG GU PU MA MN MS OT SC : Nat → Nat → Int32) (r0 r1 r2 r3 w r5 r6 r7 r8 : Nat) (L : Nat) (Lg : Int64) (p1 : Int32) {r : Int32 × (Nat → Nat → Int32) × (Nat → Nat → Int32)} (h : f_M_house MA MN p1 = some r) : Ev (d + 7, 0, 0, 40, 0, [.val (.ref 1088), .val (.int p1), .val a_unk, .val a_unk], [], (126, 120, L, [Y, T, HA, HB, RA, RB, ST, NS, I0, I1, I2, BO, FI, RG, GU, PU, MA, MN, MS, OT, SC], [r0, r1, r2, r3, w, r5, r6, r7, r8], Lg)) ((0, some (.int r.1), (126, 120, L, [Y, T, HA, HB, RA, RB, ST, NS, I0, I1, I2, BO, FI, RG, GU, PU, r.2.1, r.2.2, MS, OT, SC], [r0, r1, r2, r3, w, r5, r6, r7, r8], Lg)) : AOut) := by
  suffices key : ∀ o : AOut, ((0, some (.int r.1), (126, 120, L, [Y, T, HA, HB, RA, RB, ST, NS, I0, I1, I2, BO, FI, RG, GU, PU, r.2.1, r.2.2, MS, OT, SC], [r0, r1, r2, r3, w, r5, r6, r7, r8], Lg)) : AOut) = o → Ev (d + 7, 0, 0, 40, 0, [.val (.ref 1088), .val (.int p1), .val a_unk, .val a_unk], [], (126, 120, L, [Y, T, HA, HB, RA, RB, ST, NS, I0, I1, I2, BO, FI, RG, GU, PU, MA, MN, MS, OT, SC], [r0, r1, r2, r3, w, r5, r6, r7, r8], Lg)) o from key _ rfl
  intro o ho
  obtain ⟨zt1, zh2, h⟩ := bnd h
  have zj3 : ∀ (v1 : Int32), v1 = zt1 → Ev (d + 7, 0, 0, 40, 23, [.val (.ref 1088), .val (.int p1), .val a_unk, .val a_unk], [.int v1, .ref 1088], (126, 120, L, [Y, T, HA, HB, RA, RB, ST, NS, I0, I1, I2, BO, FI, RG, GU, PU, (u2 MA 0 0 0), MN, MS, OT, SC], [r0, r1, r2, r3, w, r5, r6, r7, r8], Lg)) o := by
    intro v1 ze4
    subst ze4
    obtain ⟨⟨x2, MA_3⟩, zh5, h⟩ := bnd h
    have zh5 : f_M_may (u2 MA 0 0 0) v1 1 1 = some (x2, MA_3) := zh5
    have ze6 := R_f_M_may_0 (d + 6) Y T HA HB RA RB ST NS I0 I1 I2 BO FI RG GU PU (u2 MA 0 0 0) MN MS OT SC r0 r1 r2 r3 w r5 r6 r7 r8 L Lg v1 1 1 zh5
    suffices e : Ev (d + 7, 0, 0, 40, 28, [.val (.ref 1088), .val (.int p1), .val a_unk, .val a_unk], [.int x2], (126, 120, L, [Y, T, HA, HB, RA, RB, ST, NS, I0, I1, I2, BO, FI, RG, GU, PU, MA_3, MN, MS, OT, SC], [r0, r1, r2, r3, w, r5, r6, r7, r8], Lg)) o from ev_call (fun v μ => (d + 7, 0, 0, 40, 28, [.val (.ref 1088), .val (.int p1), .val a_unk, .val a_unk], v.toList ++ [], μ)) 3 ze6 e (fun n => Eq.refl _)
    by_cases zc7 : x2 ≠ 0
    · have h := itp h zc7
      suffices e : Ev (d + 7, 0, 0, 40, 33, [.val (.ref 1088), .val (.int p1), .val a_unk, .val a_unk], [], (126, 120, L, [Y, T, HA, HB, RA, RB, ST, NS, I0, I1, I2, BO, FI, RG, GU, PU, MA_3, MN, MS, OT, SC], [r0, r1, r2, r3, w, r5, r6, r7, r8], Lg)) o from ev_t (c := x2 ≠ 0) _ _ 1  zc7 e (fun n => Eq.refl _)
      obtain ⟨⟨MA_4, MN_5⟩, zh8, h⟩ := bnd h
      have zh8 : f_M_begins MA_3 MN p1 = some (MA_4, MN_5) := zh8
      have ze9 := R_f_M_begins_0 (d + 6) Y T HA HB RA RB ST NS I0 I1 I2 BO FI RG GU PU MA_3 MN MS OT SC r0 r1 r2 r3 w r5 r6 r7 r8 L Lg p1 zh8
      suffices e : Ev (d + 7, 0, 0, 40, 38, [.val (.ref 1088), .val (.int p1), .val a_unk, .val a_unk], [], (126, 120, L, [Y, T, HA, HB, RA, RB, ST, NS, I0, I1, I2, BO, FI, RG, GU, PU, MA_4, MN_5, MS, OT, SC], [r0, r1, r2, r3, w, r5, r6, r7, r8], Lg)) o from ev_call (fun v μ => (d + 7, 0, 0, 40, 38, [.val (.ref 1088), .val (.int p1), .val a_unk, .val a_unk], v.toList ++ [], μ)) 3 ze9 e (fun n => Eq.refl _)
      obtain ⟨MN_6, zh10, h⟩ := bnd h
      have zh10 : f_M_clears MN_5 = some MN_6 := zh10
      have ze11 := R_f_M_clears_0 (d + 6) Y T HA HB RA RB ST NS I0 I1 I2 BO FI RG GU PU MA_4 MN_5 MS OT SC r0 r1 r2 r3 w r5 r6 r7 r8 L Lg zh10
      suffices e : Ev (d + 7, 0, 0, 40, 42, [.val (.ref 1088), .val (.int p1), .val a_unk, .val a_unk], [], (126, 120, L, [Y, T, HA, HB, RA, RB, ST, NS, I0, I1, I2, BO, FI, RG, GU, PU, MA_4, MN_6, MS, OT, SC], [r0, r1, r2, r3, w, r5, r6, r7, r8], Lg)) o from ev_call (fun v μ => (d + 7, 0, 0, 40, 42, [.val (.ref 1088), .val (.int p1), .val a_unk, .val a_unk], v.toList ++ [], μ)) 2 ze11 e (fun n => Eq.refl _)
      obtain ⟨MN_31, zh13, h⟩ := bnd h
      suffices e : Ev (d + 7, 0, 0, 40, 44, [.val (.ref 1088), .val (.int p1), .val (.int 0), .val a_unk], [], (126, 120, L, [Y, T, HA, HB, RA, RB, ST, NS, I0, I1, I2, BO, FI, RG, GU, PU, MA_4, MN_6, MS, OT, SC], [r0, r1, r2, r3, w, r5, r6, r7, r8], Lg)) o from ev_b 2 e (fun n => Eq.refl _)
      refine ev_loop (δ := Value) (fun a j => (d + 7, 0, 0, 40, 44, [.val (.ref 1088), .val (.int p1), .val (.int a.1), .val j], [], (126, 120, L, [Y, T, HA, HB, RA, RB, ST, NS, I0, I1, I2, BO, FI, RG, GU, PU, MA_4, a.2, MS, OT, SC], [r0, r1, r2, r3, w, r5, r6, r7, r8], Lg))) (fun b => ∀ s29 : Value, ∀ s30 : Value, Ev (d + 7, 0, 0, 40, 223, [.val (.ref 1088), .val (.int p1), .val s29, .val s30], [], (126, 120, L, [Y, T, HA, HB, RA, RB, ST, NS, I0, I1, I2, BO, FI, RG, GU, PU, MA_4, b, MS, OT, SC], [r0, r1, r2, r3, w, r5, r6, r7, r8], Lg)) o) ?_ a_F (0, MN_6) MN_31 zh13 ?_ a_unk
      · rintro ⟨v7, MN_9⟩ zr17 zh16 zi14 zx15 s8
        have zh16 : f_M_house_l44 MA_4 v7 MN_9 = some zr17 := zh16
        obtain ⟨x10, zh18, zh16⟩ := bnd zh16
        have zh18 : f_M_fine MN_9 = some x10 := zh18
        have ze19 := R_f_M_fine_0 (d + 6) Y T HA HB RA RB ST NS I0 I1 I2 BO FI RG GU PU MA_4 MN_9 MS OT SC r0 r1 r2 r3 w r5 r6 r7 r8 L Lg zh18
        suffices e : Ev (d + 7, 0, 0, 40, 48, [.val (.ref 1088), .val (.int p1), .val (.int v7), .val s8], [.int x10], (126, 120, L, [Y, T, HA, HB, RA, RB, ST, NS, I0, I1, I2, BO, FI, RG, GU, PU, MA_4, MN_9, MS, OT, SC], [r0, r1, r2, r3, w, r5, r6, r7, r8], Lg)) o from ev_call (fun v μ => (d + 7, 0, 0, 40, 48, [.val (.ref 1088), .val (.int p1), .val (.int v7), .val s8], v.toList ++ [], μ)) 2 ze19 e (fun n => Eq.refl _)
        by_cases zc20 : x10 = 0
        · have zh16 := itp zh16 zc20
          suffices e : Ev (d + 7, 0, 0, 40, 223, [.val (.ref 1088), .val (.int p1), .val (.int v7), .val s8], [], (126, 120, L, [Y, T, HA, HB, RA, RB, ST, NS, I0, I1, I2, BO, FI, RG, GU, PU, MA_4, MN_9, MS, OT, SC], [r0, r1, r2, r3, w, r5, r6, r7, r8], Lg)) o from ev_t (c := x10 = 0) _ _ 1  zc20 e (fun n => Eq.refl _)
          exact ev_b 0 (zx15 _ (Option.some.inj zh16).symm (.int v7) s8) (fun n => Eq.refl _)
        · have zh16 := itn zh16 zc20
          suffices e : Ev (d + 7, 0, 0, 40, 51, [.val (.ref 1088), .val (.int p1), .val (.int v7), .val s8], [], (126, 120, L, [Y, T, HA, HB, RA, RB, ST, NS, I0, I1, I2, BO, FI, RG, GU, PU, MA_4, MN_9, MS, OT, SC], [r0, r1, r2, r3, w, r5, r6, r7, r8], Lg)) o from ev_f (c := x10 = 0) _ _ 1  zc20 e (fun n => Eq.refl _)
          obtain ⟨⟨x11, MN_12⟩, zh21, zh16⟩ := bnd zh16
          have zh21 : f_M_isMore MA_4 MN_9 = some (x11, MN_12) := zh21
          have ze22 := R_f_M_isMore_0 (d + 5) Y T HA HB RA RB ST NS I0 I1 I2 BO FI RG GU PU MA_4 MN_9 MS OT SC r0 r1 r2 r3 w r5 r6 r7 r8 L Lg zh21
          suffices e : Ev (d + 7, 0, 0, 40, 55, [.val (.ref 1088), .val (.int p1), .val (.int v7), .val s8], [.int x11], (126, 120, L, [Y, T, HA, HB, RA, RB, ST, NS, I0, I1, I2, BO, FI, RG, GU, PU, MA_4, MN_12, MS, OT, SC], [r0, r1, r2, r3, w, r5, r6, r7, r8], Lg)) o from ev_call (fun v μ => (d + 7, 0, 0, 40, 55, [.val (.ref 1088), .val (.int p1), .val (.int v7), .val s8], v.toList ++ [], μ)) 2 ze22 e (fun n => Eq.refl _)
          by_cases zc23 : x11 = 0
          · have zh16 := itp zh16 zc23
            suffices e : Ev (d + 7, 0, 0, 40, 223, [.val (.ref 1088), .val (.int p1), .val (.int v7), .val s8], [], (126, 120, L, [Y, T, HA, HB, RA, RB, ST, NS, I0, I1, I2, BO, FI, RG, GU, PU, MA_4, MN_12, MS, OT, SC], [r0, r1, r2, r3, w, r5, r6, r7, r8], Lg)) o from ev_t (c := x11 = 0) _ _ 1  zc23 e (fun n => Eq.refl _)
            exact ev_b 0 (zx15 _ (Option.some.inj zh16).symm (.int v7) s8) (fun n => Eq.refl _)
          · have zh16 := itn zh16 zc23
            suffices e : Ev (d + 7, 0, 0, 40, 58, [.val (.ref 1088), .val (.int p1), .val (.int v7), .val s8], [], (126, 120, L, [Y, T, HA, HB, RA, RB, ST, NS, I0, I1, I2, BO, FI, RG, GU, PU, MA_4, MN_12, MS, OT, SC], [r0, r1, r2, r3, w, r5, r6, r7, r8], Lg)) o from ev_f (c := x11 = 0) _ _ 1  zc23 e (fun n => Eq.refl _)
            obtain ⟨⟨x13, MN_14⟩, zh24, zh16⟩ := bnd zh16
            have zh24 : f_M_word MA_4 MN_12 = some (x13, MN_14) := zh24
            have ze25 := R_f_M_word_0 (d + 5) Y T HA HB RA RB ST NS I0 I1 I2 BO FI RG GU PU MA_4 MN_12 MS OT SC r0 r1 r2 r3 w r5 r6 r7 r8 L Lg zh24
            suffices e : Ev (d + 7, 0, 0, 40, 62, [.val (.ref 1088), .val (.int p1), .val (.int v7), .val s8], [.int x13], (126, 120, L, [Y, T, HA, HB, RA, RB, ST, NS, I0, I1, I2, BO, FI, RG, GU, PU, MA_4, MN_14, MS, OT, SC], [r0, r1, r2, r3, w, r5, r6, r7, r8], Lg)) o from ev_call (fun v μ => (d + 7, 0, 0, 40, 62, [.val (.ref 1088), .val (.int p1), .val (.int v7), .val s8], v.toList ++ [], μ)) 2 ze25 e (fun n => Eq.refl _)
            obtain ⟨x15, zh26, zh16⟩ := bnd zh16
            have zh26 : f_M_isClause x13 = some x15 := zh26
            have ze27 := R_f_M_isClause_0 (d + 1) Y T HA HB RA RB ST NS I0 I1 I2 BO FI RG GU PU MA_4 MN_14 MS OT SC r0 r1 r2 r3 w r5 r6 r7 r8 L Lg x13 zh26
            suffices e : Ev (d + 7, 0, 0, 40, 67, [.val (.ref 1088), .val (.int p1), .val (.int v7), .val (.int x13)], [.int x15], (126, 120, L, [Y, T, HA, HB, RA, RB, ST, NS, I0, I1, I2, BO, FI, RG, GU, PU, MA_4, MN_14, MS, OT, SC], [r0, r1, r2, r3, w, r5, r6, r7, r8], Lg)) o from ev_call (fun v μ => (d + 7, 0, 0, 40, 67, [.val (.ref 1088), .val (.int p1), .val (.int v7), .val (.int x13)], v.toList ++ [], μ)) 3 ze27 e (fun n => Eq.refl _)
            obtain ⟨zt28, zh29, zh16⟩ := bnd zh16
            have zj30 : ∀ (MN_24 : (Nat → Nat → Int32)), MN_24 = zt28 → Ev (d + 7, 0, 0, 40, 192, [.val (.ref 1088), .val (.int p1), .val (.int v7), .val (.int x13)], [], (126, 120, L, [Y, T, HA, HB, RA, RB, ST, NS, I0, I1, I2, BO, FI, RG, GU, PU, MA_4, MN_24, MS, OT, SC], [r0, r1, r2, r3, w, r5, r6, r7, r8], Lg)) o := by
              intro MN_24 ze31
              subst ze31
              obtain ⟨x25, zh32, zh16⟩ := bnd zh16
              have zh32 : f_M_fine MN_24 = some x25 := zh32
              have ze33 := R_f_M_fine_0 (d + 6) Y T HA HB RA RB ST NS I0 I1 I2 BO FI RG GU PU MA_4 MN_24 MS OT SC r0 r1 r2 r3 w r5 r6 r7 r8 L Lg zh32
              suffices e : Ev (d + 7, 0, 0, 40, 196, [.val (.ref 1088), .val (.int p1), .val (.int v7), .val (.int x13)], [.int x25], (126, 120, L, [Y, T, HA, HB, RA, RB, ST, NS, I0, I1, I2, BO, FI, RG, GU, PU, MA_4, MN_24, MS, OT, SC], [r0, r1, r2, r3, w, r5, r6, r7, r8], Lg)) o from ev_call (fun v μ => (d + 7, 0, 0, 40, 196, [.val (.ref 1088), .val (.int p1), .val (.int v7), .val (.int x13)], v.toList ++ [], μ)) 2 ze33 e (fun n => Eq.refl _)
              by_cases zc34 : x25 ≠ 0
              · have zh16 := itp zh16 zc34
                suffices e : Ev (d + 7, 0, 0, 40, 202, [.val (.ref 1088), .val (.int p1), .val (.int v7), .val (.int x13)], [], (126, 120, L, [Y, T, HA, HB, RA, RB, ST, NS, I0, I1, I2, BO, FI, RG, GU, PU, MA_4, MN_24, MS, OT, SC], [r0, r1, r2, r3, w, r5, r6, r7, r8], Lg)) o from ev_t (c := x25 ≠ 0) _ _ 1  zc34 e (fun n => Eq.refl _)
                obtain ⟨MN_26, zh35, zh16⟩ := bnd zh16
                have zh35 : f_M_pass MA_4 MN_24 = some MN_26 := zh35
                have ze36 := R_f_M_pass_0 (d + 5) Y T HA HB RA RB ST NS I0 I1 I2 BO FI RG GU PU MA_4 MN_24 MS OT SC r0 r1 r2 r3 w r5 r6 r7 r8 L Lg zh35
                suffices e : Ev (d + 7, 0, 0, 40, 206, [.val (.ref 1088), .val (.int p1), .val (.int v7), .val (.int x13)], [], (126, 120, L, [Y, T, HA, HB, RA, RB, ST, NS, I0, I1, I2, BO, FI, RG, GU, PU, MA_4, MN_26, MS, OT, SC], [r0, r1, r2, r3, w, r5, r6, r7, r8], Lg)) o from ev_call (fun v μ => (d + 7, 0, 0, 40, 206, [.val (.ref 1088), .val (.int p1), .val (.int v7), .val (.int x13)], v.toList ++ [], μ)) 2 ze36 e (fun n => Eq.refl _)
                obtain ⟨MN_27, zh37, zh16⟩ := bnd zh16
                have zh37 : f_M_readClause MA_4 MN_26 x13 = some MN_27 := zh37
                have ze38 := R_f_M_readClause_0 (d + 0) Y T HA HB RA RB ST NS I0 I1 I2 BO FI RG GU PU MA_4 MN_26 MS OT SC r0 r1 r2 r3 w r5 r6 r7 r8 L Lg x13 zh37
                suffices e : Ev (d + 7, 0, 0, 40, 211, [.val (.ref 1088), .val (.int p1), .val (.int v7), .val (.int x13)], [], (126, 120, L, [Y, T, HA, HB, RA, RB, ST, NS, I0, I1, I2, BO, FI, RG, GU, PU, MA_4, MN_27, MS, OT, SC], [r0, r1, r2, r3, w, r5, r6, r7, r8], Lg)) o from ev_call (fun v μ => (d + 7, 0, 0, 40, 211, [.val (.ref 1088), .val (.int p1), .val (.int v7), .val (.int x13)], v.toList ++ [], μ)) 3 ze38 e (fun n => Eq.refl _)
                obtain ⟨MN_28, zh39, zh16⟩ := bnd zh16
                have zh39 : f_M_sign MA_4 MN_27 59 = some MN_28 := zh39
                have ze40 := R_f_M_sign_0 (d + 5) Y T HA HB RA RB ST NS I0 I1 I2 BO FI RG GU PU MA_4 MN_27 MS OT SC r0 r1 r2 r3 w r5 r6 r7 r8 L Lg 59 zh39
                suffices e : Ev (d + 7, 0, 0, 40, 217, [.val (.ref 1088), .val (.int p1), .val (.int v7), .val (.int x13)], [], (126, 120, L, [Y, T, HA, HB, RA, RB, ST, NS, I0, I1, I2, BO, FI, RG, GU, PU, MA_4, MN_28, MS, OT, SC], [r0, r1, r2, r3, w, r5, r6, r7, r8], Lg)) o from ev_call (fun v μ => (d + 7, 0, 0, 40, 217, [.val (.ref 1088), .val (.int p1), .val (.int v7), .val (.int x13)], v.toList ++ [], μ)) 3 ze40 e (fun n => Eq.refl _)
                exact ev_b 2 (zi14 _ (Option.some.inj zh16).symm (.int x13)) (fun n => Eq.refl _)
              · have zh16 := itn zh16 zc34
                suffices e : Ev (d + 7, 0, 0, 40, 199, [.val (.ref 1088), .val (.int p1), .val (.int v7), .val (.int x13)], [], (126, 120, L, [Y, T, HA, HB, RA, RB, ST, NS, I0, I1, I2, BO, FI, RG, GU, PU, MA_4, MN_24, MS, OT, SC], [r0, r1, r2, r3, w, r5, r6, r7, r8], Lg)) o from ev_f (c := x25 ≠ 0) _ _ 1  zc34 e (fun n => Eq.refl _)
                exact ev_b 1 (zx15 _ (Option.some.inj zh16).symm (.int v7) (.int x13)) (fun n => Eq.refl _)
            by_cases zc41 : x15 ≠ 0
            · have zh29 := itp zh29 zc41
              suffices e : Ev (d + 7, 0, 0, 40, 82, [.val (.ref 1088), .val (.int p1), .val (.int v7), .val (.int x13)], [], (126, 120, L, [Y, T, HA, HB, RA, RB, ST, NS, I0, I1, I2, BO, FI, RG, GU, PU, MA_4, MN_14, MS, OT, SC], [r0, r1, r2, r3, w, r5, r6, r7, r8], Lg)) o from ev_t (c := x15 ≠ 0) _ _ 1  zc41 e (fun n => Eq.refl _)
              obtain ⟨zt42, zh43, zh29⟩ := bnd zh29
              have zj44 : zt42 = .inl () → Ev (d + 7, 0, 0, 40, 158, [.val (.ref 1088), .val (.int p1), .val (.int v7), .val (.int x13)], [], (126, 120, L, [Y, T, HA, HB, RA, RB, ST, NS, I0, I1, I2, BO, FI, RG, GU, PU, MA_4, MN_14, MS, OT, SC], [r0, r1, r2, r3, w, r5, r6, r7, r8], Lg)) o := by
                intro ze45
                have zh29 := sum_l zh29 ze45
                obtain ⟨MN_22, zh46, zh29⟩ := bnd zh29
                have zh46 : f_M_wrong MN_14 3 (MN_14 0 4) = some MN_22 := zh46
                have ze47 := R_f_M_wrong_0 (d + 6) Y T HA HB RA RB ST NS I0 I1 I2 BO FI RG GU PU MA_4 MN_14 MS OT SC r0 r1 r2 r3 w r5 r6 r7 r8 L Lg 3 (MN_14 0 4) zh46
                suffices e : Ev (d + 7, 0, 0, 40, 167, [.val (.ref 1088), .val (.int p1), .val (.int v7), .val (.int x13)], [], (126, 120, L, [Y, T, HA, HB, RA, RB, ST, NS, I0, I1, I2, BO, FI, RG, GU, PU, MA_4, MN_22, MS, OT, SC], [r0, r1, r2, r3, w, r5, r6, r7, r8], Lg)) o from ev_call (fun v μ => (d + 7, 0, 0, 40, 167, [.val (.ref 1088), .val (.int p1), .val (.int v7), .val (.int x13)], v.toList ++ [], μ)) 5 ze47 e (fun n => Eq.refl _)
                exact ev_b 1 (zj30 MN_22 (Option.some.inj zh29) ) (fun n => Eq.refl _)
              by_cases zc48 : v7 = 60
              · have zh43 := itp zh43 zc48
                suffices e : Ev (d + 7, 0, 0, 40, 158, [.val (.ref 1088), .val (.int p1), .val (.int v7), .val (.int x13)], [], (126, 120, L, [Y, T, HA, HB, RA, RB, ST, NS, I0, I1, I2, BO, FI, RG, GU, PU, MA_4, MN_14, MS, OT, SC], [r0, r1, r2, r3, w, r5, r6, r7, r8], Lg)) o from ev_t (c := v7 = 60) _ _ 3  zc48 e (fun n => Eq.refl _)
                exact ev_b 0 (zj44  (Option.some.inj zh43).symm ) (fun n => Eq.refl _)
              · have zh43 := itn zh43 zc48
                suffices e : Ev (d + 7, 0, 0, 40, 88, [.val (.ref 1088), .val (.int p1), .val (.int v7), .val (.int x13)], [], (126, 120, L, [Y, T, HA, HB, RA, RB, ST, NS, I0, I1, I2, BO, FI, RG, GU, PU, MA_4, MN_14, MS, OT, SC], [r0, r1, r2, r3, w, r5, r6, r7, r8], Lg)) o from ev_f (c := v7 = 60) _ _ 3  zc48 e (fun n => Eq.refl _)
                obtain ⟨x16, zh49, zh43⟩ := bnd zh43
                have zh49 : f_M_of 2651 = some x16 := zh49
                have ze50 := R_f_M_of_0 (d + 2) Y T HA HB RA RB ST NS I0 I1 I2 BO FI RG GU PU MA_4 MN_14 MS OT SC r0 r1 r2 r3 w r5 r6 r7 r8 L Lg 2651 zh49
                suffices e : Ev (d + 7, 0, 0, 40, 94, [.val (.ref 1088), .val (.int p1), .val (.int v7), .val (.int x13)], [.int x16, .int x13], (126, 120, L, [Y, T, HA, HB, RA, RB, ST, NS, I0, I1, I2, BO, FI, RG, GU, PU, MA_4, MN_14, MS, OT, SC], [r0, r1, r2, r3, w, r5, r6, r7, r8], Lg)) o from ev_call (fun v μ => (d + 7, 0, 0, 40, 94, [.val (.ref 1088), .val (.int p1), .val (.int v7), .val (.int x13)], v.toList ++ [.int x13], μ)) 3 ze50 e (fun n => Eq.refl _)
                obtain ⟨zt51, zh52, zh43⟩ := bnd zh43
                have zj53 : zt51 = .inl () → Ev (d + 7, 0, 0, 40, 105, [.val (.ref 1088), .val (.int p1), .val (.int v7), .val (.int x13)], [], (126, 120, L, [Y, T, HA, HB, RA, RB, ST, NS, I0, I1, I2, BO, FI, RG, GU, PU, MA_4, MN_14, MS, OT, SC], [r0, r1, r2, r3, w, r5, r6, r7, r8], Lg)) o := by
                  intro ze54
                  have zh43 := sum_l zh43 ze54
                  obtain ⟨x17, zh55, zh43⟩ := bnd zh43
                  have zh55 : f_M_of 2652 = some x17 := zh55
                  have ze56 := R_f_M_of_0 (d + 2) Y T HA HB RA RB ST NS I0 I1 I2 BO FI RG GU PU MA_4 MN_14 MS OT SC r0 r1 r2 r3 w r5 r6 r7 r8 L Lg 2652 zh55
                  suffices e : Ev (d + 7, 0, 0, 40, 111, [.val (.ref 1088), .val (.int p1), .val (.int v7), .val (.int x13)], [.int x17, .int x13], (126, 120, L, [Y, T, HA, HB, RA, RB, ST, NS, I0, I1, I2, BO, FI, RG, GU, PU, MA_4, MN_14, MS, OT, SC], [r0, r1, r2, r3, w, r5, r6, r7, r8], Lg)) o from ev_call (fun v μ => (d + 7, 0, 0, 40, 111, [.val (.ref 1088), .val (.int p1), .val (.int v7), .val (.int x13)], v.toList ++ [.int x13], μ)) 3 ze56 e (fun n => Eq.refl _)
                  obtain ⟨zt57, zh58, zh43⟩ := bnd zh43
                  have zj59 : zt57 = .inl () → Ev (d + 7, 0, 0, 40, 123, [.val (.ref 1088), .val (.int p1), .val (.int v7), .val (.int x13)], [], (126, 120, L, [Y, T, HA, HB, RA, RB, ST, NS, I0, I1, I2, BO, FI, RG, GU, PU, MA_4, MN_14, MS, OT, SC], [r0, r1, r2, r3, w, r5, r6, r7, r8], Lg)) o := by
                    intro ze60
                    have zh43 := sum_l zh43 ze60
                    obtain ⟨x18, zh61, zh43⟩ := bnd zh43
                    have zh61 : f_M_of 2649 = some x18 := zh61
                    have ze62 := R_f_M_of_0 (d + 2) Y T HA HB RA RB ST NS I0 I1 I2 BO FI RG GU PU MA_4 MN_14 MS OT SC r0 r1 r2 r3 w r5 r6 r7 r8 L Lg 2649 zh61
                    suffices e : Ev (d + 7, 0, 0, 40, 129, [.val (.ref 1088), .val (.int p1), .val (.int v7), .val (.int x13)], [.int x18, .int x13], (126, 120, L, [Y, T, HA, HB, RA, RB, ST, NS, I0, I1, I2, BO, FI, RG, GU, PU, MA_4, MN_14, MS, OT, SC], [r0, r1, r2, r3, w, r5, r6, r7, r8], Lg)) o from ev_call (fun v μ => (d + 7, 0, 0, 40, 129, [.val (.ref 1088), .val (.int p1), .val (.int v7), .val (.int x13)], v.toList ++ [.int x13], μ)) 3 ze62 e (fun n => Eq.refl _)
                    obtain ⟨zt63, zh64, zh43⟩ := bnd zh43
                    have zj65 : zt63 = .inl () → Ev (d + 7, 0, 0, 40, 141, [.val (.ref 1088), .val (.int p1), .val (.int v7), .val (.int x13)], [], (126, 120, L, [Y, T, HA, HB, RA, RB, ST, NS, I0, I1, I2, BO, FI, RG, GU, PU, MA_4, MN_14, MS, OT, SC], [r0, r1, r2, r3, w, r5, r6, r7, r8], Lg)) o := by
                      intro ze66
                      have zh43 := sum_l zh43 ze66
                      obtain ⟨x19, zh67, zh43⟩ := bnd zh43
                      have zh67 : f_M_of 2656 = some x19 := zh67
                      have ze68 := R_f_M_of_0 (d + 2) Y T HA HB RA RB ST NS I0 I1 I2 BO FI RG GU PU MA_4 MN_14 MS OT SC r0 r1 r2 r3 w r5 r6 r7 r8 L Lg 2656 zh67
                      suffices e : Ev (d + 7, 0, 0, 40, 147, [.val (.ref 1088), .val (.int p1), .val (.int v7), .val (.int x13)], [.int x19, .int x13], (126, 120, L, [Y, T, HA, HB, RA, RB, ST, NS, I0, I1, I2, BO, FI, RG, GU, PU, MA_4, MN_14, MS, OT, SC], [r0, r1, r2, r3, w, r5, r6, r7, r8], Lg)) o from ev_call (fun v μ => (d + 7, 0, 0, 40, 147, [.val (.ref 1088), .val (.int p1), .val (.int v7), .val (.int x13)], v.toList ++ [.int x13], μ)) 3 ze68 e (fun n => Eq.refl _)
                      obtain ⟨zt69, zh70, zh43⟩ := bnd zh43
                      have zj71 : zt69 = .inl () → Ev (d + 7, 0, 0, 40, 170, [.val (.ref 1088), .val (.int p1), .val (.int v7), .val (.int x13)], [], (126, 120, L, [Y, T, HA, HB, RA, RB, ST, NS, I0, I1, I2, BO, FI, RG, GU, PU, MA_4, MN_14, MS, OT, SC], [r0, r1, r2, r3, w, r5, r6, r7, r8], Lg)) o := by
                        intro ze72
                        have zh43 := sum_l zh43 ze72
                        obtain ⟨x20, zh73, zh43⟩ := bnd zh43
                        have zh73 : f_M_of 2650 = some x20 := zh73
                        have ze74 := R_f_M_of_0 (d + 2) Y T HA HB RA RB ST NS I0 I1 I2 BO FI RG GU PU MA_4 MN_14 MS OT SC r0 r1 r2 r3 w r5 r6 r7 r8 L Lg 2650 zh73
                        suffices e : Ev (d + 7, 0, 0, 40, 176, [.val (.ref 1088), .val (.int p1), .val (.int v7), .val (.int x13)], [.int x20, .int x13], (126, 120, L, [Y, T, HA, HB, RA, RB, ST, NS, I0, I1, I2, BO, FI, RG, GU, PU, MA_4, MN_14, MS, OT, SC], [r0, r1, r2, r3, w, r5, r6, r7, r8], Lg)) o from ev_call (fun v μ => (d + 7, 0, 0, 40, 176, [.val (.ref 1088), .val (.int p1), .val (.int v7), .val (.int x13)], v.toList ++ [.int x13], μ)) 3 ze74 e (fun n => Eq.refl _)
                        by_cases zc75 : x13 ≠ x20
                        · have zh43 := itp zh43 zc75
                          suffices e : Ev (d + 7, 0, 0, 40, 192, [.val (.ref 1088), .val (.int p1), .val (.int v7), .val (.int x13)], [], (126, 120, L, [Y, T, HA, HB, RA, RB, ST, NS, I0, I1, I2, BO, FI, RG, GU, PU, MA_4, MN_14, MS, OT, SC], [r0, r1, r2, r3, w, r5, r6, r7, r8], Lg)) o from ev_t (c := x13 ≠ x20) _ _ 1  zc75 e (fun n => Eq.refl _)
                          have zh76 := sum_r zh29 (Option.some.inj zh43).symm
                          exact ev_b 0 (zj30 MN_14 (Option.some.inj zh76) ) (fun n => Eq.refl _)
                        · have zh43 := itn zh43 zc75
                          suffices e : Ev (d + 7, 0, 0, 40, 179, [.val (.ref 1088), .val (.int p1), .val (.int v7), .val (.int x13)], [], (126, 120, L, [Y, T, HA, HB, RA, RB, ST, NS, I0, I1, I2, BO, FI, RG, GU, PU, MA_4, MN_14, MS, OT, SC], [r0, r1, r2, r3, w, r5, r6, r7, r8], Lg)) o from ev_f (c := x13 ≠ x20) _ _ 1  zc75 e (fun n => Eq.refl _)
                          by_cases zc77 : v7 ≤ 0
                          · have zh43 := itp zh43 zc77
                            suffices e : Ev (d + 7, 0, 0, 40, 192, [.val (.ref 1088), .val (.int p1), .val (.int v7), .val (.int x13)], [], (126, 120, L, [Y, T, HA, HB, RA, RB, ST, NS, I0, I1, I2, BO, FI, RG, GU, PU, MA_4, MN_14, MS, OT, SC], [r0, r1, r2, r3, w, r5, r6, r7, r8], Lg)) o from ev_t (c := v7 ≤ 0) _ _ 2  zc77 e (fun n => Eq.refl _)
                            have zh78 := sum_r zh29 (Option.some.inj zh43).symm
                            exact ev_b 0 (zj30 MN_14 (Option.some.inj zh78) ) (fun n => Eq.refl _)
                          · have zh43 := itn zh43 zc77
                            suffices e : Ev (d + 7, 0, 0, 40, 183, [.val (.ref 1088), .val (.int p1), .val (.int v7), .val (.int x13)], [], (126, 120, L, [Y, T, HA, HB, RA, RB, ST, NS, I0, I1, I2, BO, FI, RG, GU, PU, MA_4, MN_14, MS, OT, SC], [r0, r1, r2, r3, w, r5, r6, r7, r8], Lg)) o from ev_f (c := v7 ≤ 0) _ _ 2  zc77 e (fun n => Eq.refl _)
                            obtain ⟨MN_21, zh79, zh43⟩ := bnd zh43
                            have zh79 : f_M_wrong MN_14 4 (MN_14 0 4) = some MN_21 := zh79
                            have ze80 := R_f_M_wrong_0 (d + 6) Y T HA HB RA RB ST NS I0 I1 I2 BO FI RG GU PU MA_4 MN_14 MS OT SC r0 r1 r2 r3 w r5 r6 r7 r8 L Lg 4 (MN_14 0 4) zh79
                            suffices e : Ev (d + 7, 0, 0, 40, 192, [.val (.ref 1088), .val (.int p1), .val (.int v7), .val (.int x13)], [], (126, 120, L, [Y, T, HA, HB, RA, RB, ST, NS, I0, I1, I2, BO, FI, RG, GU, PU, MA_4, MN_21, MS, OT, SC], [r0, r1, r2, r3, w, r5, r6, r7, r8], Lg)) o from ev_call (fun v μ => (d + 7, 0, 0, 40, 192, [.val (.ref 1088), .val (.int p1), .val (.int v7), .val (.int x13)], v.toList ++ [], μ)) 5 ze80 e (fun n => Eq.refl _)
                            have zh81 := sum_r zh29 (Option.some.inj zh43).symm
                            exact ev_b 0 (zj30 MN_21 (Option.some.inj zh81) ) (fun n => Eq.refl _)
                      by_cases zc82 : x13 ≠ x19
                      · have zh70 := itp zh70 zc82
                        suffices e : Ev (d + 7, 0, 0, 40, 170, [.val (.ref 1088), .val (.int p1), .val (.int v7), .val (.int x13)], [], (126, 120, L, [Y, T, HA, HB, RA, RB, ST, NS, I0, I1, I2, BO, FI, RG, GU, PU, MA_4, MN_14, MS, OT, SC], [r0, r1, r2, r3, w, r5, r6, r7, r8], Lg)) o from ev_t (c := x13 ≠ x19) _ _ 1  zc82 e (fun n => Eq.refl _)
                        exact ev_b 0 (zj71  (Option.some.inj zh70).symm ) (fun n => Eq.refl _)
                      · have zh70 := itn zh70 zc82
                        suffices e : Ev (d + 7, 0, 0, 40, 150, [.val (.ref 1088), .val (.int p1), .val (.int v7), .val (.int x13)], [], (126, 120, L, [Y, T, HA, HB, RA, RB, ST, NS, I0, I1, I2, BO, FI, RG, GU, PU, MA_4, MN_14, MS, OT, SC], [r0, r1, r2, r3, w, r5, r6, r7, r8], Lg)) o from ev_f (c := x13 ≠ x19) _ _ 1  zc82 e (fun n => Eq.refl _)
                        by_cases zc83 : (MN_14 0 22) ≠ 4
                        · have zh70 := itp zh70 zc83
                          suffices e : Ev (d + 7, 0, 0, 40, 170, [.val (.ref 1088), .val (.int p1), .val (.int v7), .val (.int x13)], [], (126, 120, L, [Y, T, HA, HB, RA, RB, ST, NS, I0, I1, I2, BO, FI, RG, GU, PU, MA_4, MN_14, MS, OT, SC], [r0, r1, r2, r3, w, r5, r6, r7, r8], Lg)) o from ev_t (c := (MN_14 0 22) ≠ 4) _ _ 4  zc83 e (fun n => Eq.refl _)
                          exact ev_b 0 (zj71  (Option.some.inj zh70).symm ) (fun n => Eq.refl _)
                        · have zh70 := itn zh70 zc83
                          suffices e : Ev (d + 7, 0, 0, 40, 158, [.val (.ref 1088), .val (.int p1), .val (.int v7), .val (.int x13)], [], (126, 120, L, [Y, T, HA, HB, RA, RB, ST, NS, I0, I1, I2, BO, FI, RG, GU, PU, MA_4, MN_14, MS, OT, SC], [r0, r1, r2, r3, w, r5, r6, r7, r8], Lg)) o from ev_f (c := (MN_14 0 22) ≠ 4) _ _ 4  zc83 e (fun n => Eq.refl _)
                          have zh84 := sum_r zh43 (Option.some.inj zh70).symm
                          exact ev_b 0 (zj44  (Option.some.inj zh84).symm ) (fun n => Eq.refl _)
                    by_cases zc85 : x13 ≠ x18
                    · have zh64 := itp zh64 zc85
                      suffices e : Ev (d + 7, 0, 0, 40, 141, [.val (.ref 1088), .val (.int p1), .val (.int v7), .val (.int x13)], [], (126, 120, L, [Y, T, HA, HB, RA, RB, ST, NS, I0, I1, I2, BO, FI, RG, GU, PU, MA_4, MN_14, MS, OT, SC], [r0, r1, r2, r3, w, r5, r6, r7, r8], Lg)) o from ev_t (c := x13 ≠ x18) _ _ 1  zc85 e (fun n => Eq.refl _)
                      exact ev_b 0 (zj65  (Option.some.inj zh64).symm ) (fun n => Eq.refl _)
                    · have zh64 := itn zh64 zc85
                      suffices e : Ev (d + 7, 0, 0, 40, 132, [.val (.ref 1088), .val (.int p1), .val (.int v7), .val (.int x13)], [], (126, 120, L, [Y, T, HA, HB, RA, RB, ST, NS, I0, I1, I2, BO, FI, RG, GU, PU, MA_4, MN_14, MS, OT, SC], [r0, r1, r2, r3, w, r5, r6, r7, r8], Lg)) o from ev_f (c := x13 ≠ x18) _ _ 1  zc85 e (fun n => Eq.refl _)
                      by_cases zc86 : (MN_14 0 21) = 10
                      · have zh64 := itp zh64 zc86
                        suffices e : Ev (d + 7, 0, 0, 40, 158, [.val (.ref 1088), .val (.int p1), .val (.int v7), .val (.int x13)], [], (126, 120, L, [Y, T, HA, HB, RA, RB, ST, NS, I0, I1, I2, BO, FI, RG, GU, PU, MA_4, MN_14, MS, OT, SC], [r0, r1, r2, r3, w, r5, r6, r7, r8], Lg)) o from ev_t (c := (MN_14 0 21) = 10) _ _ 4  zc86 e (fun n => Eq.refl _)
                        have zh87 := sum_r zh43 (Option.some.inj zh64).symm
                        exact ev_b 0 (zj44  (Option.some.inj zh87).symm ) (fun n => Eq.refl _)
                      · have zh64 := itn zh64 zc86
                        suffices e : Ev (d + 7, 0, 0, 40, 141, [.val (.ref 1088), .val (.int p1), .val (.int v7), .val (.int x13)], [], (126, 120, L, [Y, T, HA, HB, RA, RB, ST, NS, I0, I1, I2, BO, FI, RG, GU, PU, MA_4, MN_14, MS, OT, SC], [r0, r1, r2, r3, w, r5, r6, r7, r8], Lg)) o from ev_f (c := (MN_14 0 21) = 10) _ _ 4  zc86 e (fun n => Eq.refl _)
                        exact ev_b 0 (zj65  (Option.some.inj zh64).symm ) (fun n => Eq.refl _)
                  by_cases zc88 : x13 ≠ x17
                  · have zh58 := itp zh58 zc88
                    suffices e : Ev (d + 7, 0, 0, 40, 123, [.val (.ref 1088), .val (.int p1), .val (.int v7), .val (.int x13)], [], (126, 120, L, [Y, T, HA, HB, RA, RB, ST, NS, I0, I1, I2, BO, FI, RG, GU, PU, MA_4, MN_14, MS, OT, SC], [r0, r1, r2, r3, w, r5, r6, r7, r8], Lg)) o from ev_t (c := x13 ≠ x17) _ _ 1  zc88 e (fun n => Eq.refl _)
                    exact ev_b 0 (zj59  (Option.some.inj zh58).symm ) (fun n => Eq.refl _)
                  · have zh58 := itn zh58 zc88
                    suffices e : Ev (d + 7, 0, 0, 40, 114, [.val (.ref 1088), .val (.int p1), .val (.int v7), .val (.int x13)], [], (126, 120, L, [Y, T, HA, HB, RA, RB, ST, NS, I0, I1, I2, BO, FI, RG, GU, PU, MA_4, MN_14, MS, OT, SC], [r0, r1, r2, r3, w, r5, r6, r7, r8], Lg)) o from ev_f (c := x13 ≠ x17) _ _ 1  zc88 e (fun n => Eq.refl _)
                    by_cases zc89 : (MN_14 0 20) = 8
                    · have zh58 := itp zh58 zc89
                      suffices e : Ev (d + 7, 0, 0, 40, 158, [.val (.ref 1088), .val (.int p1), .val (.int v7), .val (.int x13)], [], (126, 120, L, [Y, T, HA, HB, RA, RB, ST, NS, I0, I1, I2, BO, FI, RG, GU, PU, MA_4, MN_14, MS, OT, SC], [r0, r1, r2, r3, w, r5, r6, r7, r8], Lg)) o from ev_t (c := (MN_14 0 20) = 8) _ _ 4  zc89 e (fun n => Eq.refl _)
                      have zh90 := sum_r zh43 (Option.some.inj zh58).symm
                      exact ev_b 0 (zj44  (Option.some.inj zh90).symm ) (fun n => Eq.refl _)
                    · have zh58 := itn zh58 zc89
                      suffices e : Ev (d + 7, 0, 0, 40, 123, [.val (.ref 1088), .val (.int p1), .val (.int v7), .val (.int x13)], [], (126, 120, L, [Y, T, HA, HB, RA, RB, ST, NS, I0, I1, I2, BO, FI, RG, GU, PU, MA_4, MN_14, MS, OT, SC], [r0, r1, r2, r3, w, r5, r6, r7, r8], Lg)) o from ev_f (c := (MN_14 0 20) = 8) _ _ 4  zc89 e (fun n => Eq.refl _)
                      exact ev_b 0 (zj59  (Option.some.inj zh58).symm ) (fun n => Eq.refl _)
                by_cases zc91 : x13 ≠ x16
                · have zh52 := itp zh52 zc91
                  suffices e : Ev (d + 7, 0, 0, 40, 105, [.val (.ref 1088), .val (.int p1), .val (.int v7), .val (.int x13)], [], (126, 120, L, [Y, T, HA, HB, RA, RB, ST, NS, I0, I1, I2, BO, FI, RG, GU, PU, MA_4, MN_14, MS, OT, SC], [r0, r1, r2, r3, w, r5, r6, r7, r8], Lg)) o from ev_t (c := x13 ≠ x16) _ _ 1  zc91 e (fun n => Eq.refl _)
                  exact ev_b 0 (zj53  (Option.some.inj zh52).symm ) (fun n => Eq.refl _)
                · have zh52 := itn zh52 zc91
                  suffices e : Ev (d + 7, 0, 0, 40, 97, [.val (.ref 1088), .val (.int p1), .val (.int v7), .val (.int x13)], [], (126, 120, L, [Y, T, HA, HB, RA, RB, ST, NS, I0, I1, I2, BO, FI, RG, GU, PU, MA_4, MN_14, MS, OT, SC], [r0, r1, r2, r3, w, r5, r6, r7, r8], Lg)) o from ev_f (c := x13 ≠ x16) _ _ 1  zc91 e (fun n => Eq.refl _)
                  by_cases zc92 : (MN_14 0 19) = 3
                  · have zh52 := itp zh52 zc92
                    suffices e : Ev (d + 7, 0, 0, 40, 158, [.val (.ref 1088), .val (.int p1), .val (.int v7), .val (.int x13)], [], (126, 120, L, [Y, T, HA, HB, RA, RB, ST, NS, I0, I1, I2, BO, FI, RG, GU, PU, MA_4, MN_14, MS, OT, SC], [r0, r1, r2, r3, w, r5, r6, r7, r8], Lg)) o from ev_t (c := (MN_14 0 19) = 3) _ _ 4  zc92 e (fun n => Eq.refl _)
                    have zh93 := sum_r zh43 (Option.some.inj zh52).symm
                    exact ev_b 0 (zj44  (Option.some.inj zh93).symm ) (fun n => Eq.refl _)
                  · have zh52 := itn zh52 zc92
                    suffices e : Ev (d + 7, 0, 0, 40, 105, [.val (.ref 1088), .val (.int p1), .val (.int v7), .val (.int x13)], [], (126, 120, L, [Y, T, HA, HB, RA, RB, ST, NS, I0, I1, I2, BO, FI, RG, GU, PU, MA_4, MN_14, MS, OT, SC], [r0, r1, r2, r3, w, r5, r6, r7, r8], Lg)) o from ev_f (c := (MN_14 0 19) = 3) _ _ 4  zc92 e (fun n => Eq.refl _)
                    exact ev_b 0 (zj53  (Option.some.inj zh52).symm ) (fun n => Eq.refl _)
            · have zh29 := itn zh29 zc41
              suffices e : Ev (d + 7, 0, 0, 40, 70, [.val (.ref 1088), .val (.int p1), .val (.int v7), .val (.int x13)], [], (126, 120, L, [Y, T, HA, HB, RA, RB, ST, NS, I0, I1, I2, BO, FI, RG, GU, PU, MA_4, MN_14, MS, OT, SC], [r0, r1, r2, r3, w, r5, r6, r7, r8], Lg)) o from ev_f (c := x15 ≠ 0) _ _ 1  zc41 e (fun n => Eq.refl _)
              obtain ⟨MN_23, zh94, zh29⟩ := bnd zh29
              have zh94 : f_M_wrong MN_14 1 (MN_14 0 4) = some MN_23 := zh94
              have ze95 := R_f_M_wrong_0 (d + 6) Y T HA HB RA RB ST NS I0 I1 I2 BO FI RG GU PU MA_4 MN_14 MS OT SC r0 r1 r2 r3 w r5 r6 r7 r8 L Lg 1 (MN_14 0 4) zh94
              suffices e : Ev (d + 7, 0, 0, 40, 79, [.val (.ref 1088), .val (.int p1), .val (.int v7), .val (.int x13)], [], (126, 120, L, [Y, T, HA, HB, RA, RB, ST, NS, I0, I1, I2, BO, FI, RG, GU, PU, MA_4, MN_23, MS, OT, SC], [r0, r1, r2, r3, w, r5, r6, r7, r8], Lg)) o from ev_call (fun v μ => (d + 7, 0, 0, 40, 79, [.val (.ref 1088), .val (.int p1), .val (.int v7), .val (.int x13)], v.toList ++ [], μ)) 5 ze95 e (fun n => Eq.refl _)
              exact ev_b 1 (zj30 MN_23 (Option.some.inj zh29) ) (fun n => Eq.refl _)
      · skip
        intro s29 s30
        obtain ⟨⟨x32, MA_33⟩, zh96, h⟩ := bnd h
        have zh96 : f_M_result MA_4 MN_31 (MN_31 0 21) = some (x32, MA_33) := zh96
        have ze97 := R_f_M_result_0 (d + 5) Y T HA HB RA RB ST NS I0 I1 I2 BO FI RG GU PU MA_4 MN_31 MS OT SC r0 r1 r2 r3 w r5 r6 r7 r8 L Lg (MN_31 0 21) zh96
        suffices e : Ev (d + 7, 0, 0, 40, 231, [.val (.ref 1088), .val (.int p1), .val s29, .val s30], [.int x32], (126, 120, L, [Y, T, HA, HB, RA, RB, ST, NS, I0, I1, I2, BO, FI, RG, GU, PU, MA_33, MN_31, MS, OT, SC], [r0, r1, r2, r3, w, r5, r6, r7, r8], Lg)) o from ev_call (fun v μ => (d + 7, 0, 0, 40, 231, [.val (.ref 1088), .val (.int p1), .val s29, .val s30], v.toList ++ [], μ)) 4 ze97 e (fun n => Eq.refl _)
        by_cases zc98 : (MN_31 0 5) ≠ (-1)
        · have h := itp h zc98
          suffices e : Ev (d + 7, 0, 0, 40, 244, [.val (.ref 1088), .val (.int p1), .val s29, .val (.int x32)], [], (126, 120, L, [Y, T, HA, HB, RA, RB, ST, NS, I0, I1, I2, BO, FI, RG, GU, PU, MA_33, MN_31, MS, OT, SC], [r0, r1, r2, r3, w, r5, r6, r7, r8], Lg)) o from ev_t (c := (MN_31 0 5) ≠ (-1)) _ _ 5  zc98 e (fun n => Eq.refl _)
          have ze99 := Option.some.inj h
          subst ze99
          exact ev_rete 2 ho (fun n => Eq.refl _)
        · have h := itn h zc98
          suffices e : Ev (d + 7, 0, 0, 40, 240, [.val (.ref 1088), .val (.int p1), .val s29, .val (.int x32)], [], (126, 120, L, [Y, T, HA, HB, RA, RB, ST, NS, I0, I1, I2, BO, FI, RG, GU, PU, MA_33, MN_31, MS, OT, SC], [r0, r1, r2, r3, w, r5, r6, r7, r8], Lg)) o from ev_f (c := (MN_31 0 5) ≠ (-1)) _ _ 5  zc98 e (fun n => Eq.refl _)
          obtain ⟨MA_34, zh100, h⟩ := bnd h
          have zh100 : f_M_sets MA_33 MN_31 = some MA_34 := zh100
          have ze101 := R_f_M_sets_0 (d + 5) Y T HA HB RA RB ST NS I0 I1 I2 BO FI RG GU PU MA_33 MN_31 MS OT SC r0 r1 r2 r3 w r5 r6 r7 r8 L Lg zh100
          suffices e : Ev (d + 7, 0, 0, 40, 244, [.val (.ref 1088), .val (.int p1), .val s29, .val (.int x32)], [], (126, 120, L, [Y, T, HA, HB, RA, RB, ST, NS, I0, I1, I2, BO, FI, RG, GU, PU, MA_34, MN_31, MS, OT, SC], [r0, r1, r2, r3, w, r5, r6, r7, r8], Lg)) o from ev_call (fun v μ => (d + 7, 0, 0, 40, 244, [.val (.ref 1088), .val (.int p1), .val s29, .val (.int x32)], v.toList ++ [], μ)) 2 ze101 e (fun n => Eq.refl _)
          have ze102 := Option.some.inj h
          subst ze102
          exact ev_rete 2 ho (fun n => Eq.refl _)
    · have h := itn h zc7
      suffices e : Ev (d + 7, 0, 0, 40, 31, [.val (.ref 1088), .val (.int p1), .val a_unk, .val a_unk], [], (126, 120, L, [Y, T, HA, HB, RA, RB, ST, NS, I0, I1, I2, BO, FI, RG, GU, PU, MA_3, MN, MS, OT, SC], [r0, r1, r2, r3, w, r5, r6, r7, r8], Lg)) o from ev_f (c := x2 ≠ 0) _ _ 1  zc7 e (fun n => Eq.refl _)
      have ze103 := Option.some.inj h
      subst ze103
      exact ev_rete 2 ho (fun n => Eq.refl _)
  obtain ⟨zt104, zh105, zh2⟩ := bnd zh2
  have zj106 : zt104 = .inl () → Ev (d + 7, 0, 0, 40, 22, [.val (.ref 1088), .val (.int p1), .val a_unk, .val a_unk], [.ref 1088], (126, 120, L, [Y, T, HA, HB, RA, RB, ST, NS, I0, I1, I2, BO, FI, RG, GU, PU, (u2 MA 0 0 0), MN, MS, OT, SC], [r0, r1, r2, r3, w, r5, r6, r7, r8], Lg)) o := by
    intro ze107
    have zh2 := sum_l zh2 ze107
    exact ev_b 1 (zj3 0 (Option.some.inj zh2) ) (fun n => Eq.refl _)
  by_cases zc108 : p1 < 0
  · have zh105 := itp zh105 zc108
    suffices e : Ev (d + 7, 0, 0, 40, 22, [.val (.ref 1088), .val (.int p1), .val a_unk, .val a_unk], [.ref 1088], (126, 120, L, [Y, T, HA, HB, RA, RB, ST, NS, I0, I1, I2, BO, FI, RG, GU, PU, (u2 MA 0 0 0), MN, MS, OT, SC], [r0, r1, r2, r3, w, r5, r6, r7, r8], Lg)) o from ev_t (c := p1 < 0) _ _ 6  zc108 e (fun n => Eq.refl _)
    exact ev_b 0 (zj106  (Option.some.inj zh105).symm ) (fun n => Eq.refl _)
  · have zh105 := itn zh105 zc108
    suffices e : Ev (d + 7, 0, 0, 40, 10, [.val (.ref 1088), .val (.int p1), .val a_unk, .val a_unk], [.ref 1088], (126, 120, L, [Y, T, HA, HB, RA, RB, ST, NS, I0, I1, I2, BO, FI, RG, GU, PU, (u2 MA 0 0 0), MN, MS, OT, SC], [r0, r1, r2, r3, w, r5, r6, r7, r8], Lg)) o from ev_f (c := p1 < 0) _ _ 6  zc108 e (fun n => Eq.refl _)
    by_cases zc109 : ((u2 MA 0 0 0) 0 2) < p1
    · have zh105 := itp zh105 zc109
      suffices e : Ev (d + 7, 0, 0, 40, 22, [.val (.ref 1088), .val (.int p1), .val a_unk, .val a_unk], [.ref 1088], (126, 120, L, [Y, T, HA, HB, RA, RB, ST, NS, I0, I1, I2, BO, FI, RG, GU, PU, (u2 MA 0 0 0), MN, MS, OT, SC], [r0, r1, r2, r3, w, r5, r6, r7, r8], Lg)) o from ev_t (c := ((u2 MA 0 0 0) 0 2) < p1) _ _ 4  zc109 e (fun n => Eq.refl _)
      exact ev_b 0 (zj106  (Option.some.inj zh105).symm ) (fun n => Eq.refl _)
    · have zh105 := itn zh105 zc109
      suffices e : Ev (d + 7, 0, 0, 40, 18, [.val (.ref 1088), .val (.int p1), .val a_unk, .val a_unk], [.ref 1088], (126, 120, L, [Y, T, HA, HB, RA, RB, ST, NS, I0, I1, I2, BO, FI, RG, GU, PU, (u2 MA 0 0 0), MN, MS, OT, SC], [r0, r1, r2, r3, w, r5, r6, r7, r8], Lg)) o from ev_f (c := ((u2 MA 0 0 0) 0 2) < p1) _ _ 4  zc109 e (fun n => Eq.refl _)
      have zh110 := sum_r zh2 (Option.some.inj zh105).symm
      exact ev_b 2 (zj3 1 (Option.some.inj zh110) ) (fun n => Eq.refl _)
set_option maxRecDepth 1000000 in
set_option maxHeartbeats 4000000 in
theorem R_f_M_target_0 (d : Nat) (Y T HA HB RA RB ST NS I0 I1 I2 BO FI RG GU PU MA MN MS OT SC : Nat → Nat → Int32) (r0 r1 r2 r3 w r5 r6 r7 r8 : Nat) (L : Nat) (Lg : Int64) (p1 : Int32) {r : Int32 × (Nat → Nat → Int32) × (Nat → Nat → Int32)} (h : f_M_target MA MN p1 = some r) : Ev (d + 2, 0, 0, 41, 0, [.val (.ref 1088), .val (.int p1), .val a_unk, .val a_unk, .val a_unk, .val a_unk, .val a_unk, .val a_unk], [], (126, 120, L, [Y, T, HA, HB, RA, RB, ST, NS, I0, I1, I2, BO, FI, RG, GU, PU, MA, MN, MS, OT, SC], [r0, r1, r2, r3, w, r5, r6, r7, r8], Lg)) ((0, some (.int r.1), (126, 120, L, [Y, T, HA, HB, RA, RB, ST, NS, I0, I1, I2, BO, FI, RG, GU, PU, r.2.1, r.2.2, MS, OT, SC], [r0, r1, r2, r3, w, r5, r6, r7, r8], Lg)) : AOut) := by
  suffices key : ∀ o : AOut, ((0, some (.int r.1), (126, 120, L, [Y, T, HA, HB, RA, RB, ST, NS, I0, I1, I2, BO, FI, RG, GU, PU, r.2.1, r.2.2, MS, OT, SC], [r0, r1, r2, r3, w, r5, r6, r7, r8], Lg)) : AOut) = o → Ev (d + 2, 0, 0, 41, 0, [.val (.ref 1088), .val (.int p1), .val a_unk, .val a_unk, .val a_unk, .val a_unk, .val a_unk, .val a_unk], [], (126, 120, L, [Y, T, HA, HB, RA, RB, ST, NS, I0, I1, I2, BO, FI, RG, GU, PU, MA, MN, MS, OT, SC], [r0, r1, r2, r3, w, r5, r6, r7, r8], Lg)) o from key _ rfl
  intro o ho
  obtain ⟨zt1, zh2, h⟩ := bnd h
  have zj3 : ∀ (v1 : Int32), v1 = zt1 → Ev (d + 2, 0, 0, 41, 29, [.val (.ref 1088), .val (.int p1), .val a_unk, .val a_unk, .val a_unk, .val a_unk, .val a_unk, .val a_unk], [.int v1, .ref 1088], (126, 120, L, [Y, T, HA, HB, RA, RB, ST, NS, I0, I1, I2, BO, FI, RG, GU, PU, (u2 MA 0 0 0), MN, MS, OT, SC], [r0, r1, r2, r3, w, r5, r6, r7, r8], Lg)) o := by
    intro v1 ze4
    subst ze4
    obtain ⟨⟨x2, MA_3⟩, zh5, h⟩ := bnd h
    have zh5 : f_M_may (u2 MA 0 0 0) v1 1 1 = some (x2, MA_3) := zh5
    have ze6 := R_f_M_may_0 (d + 1) Y T HA HB RA RB ST NS I0 I1 I2 BO FI RG GU PU (u2 MA 0 0 0) MN MS OT SC r0 r1 r2 r3 w r5 r6 r7 r8 L Lg v1 1 1 zh5
    suffices e : Ev (d + 2, 0, 0, 41, 34, [.val (.ref 1088), .val (.int p1), .val a_unk, .val a_unk, .val a_unk, .val a_unk, .val a_unk, .val a_unk], [.int x2], (126, 120, L, [Y, T, HA, HB, RA, RB, ST, NS, I0, I1, I2, BO, FI, RG, GU, PU, MA_3, MN, MS, OT, SC], [r0, r1, r2, r3, w, r5, r6, r7, r8], Lg)) o from ev_call (fun v μ => (d + 2, 0, 0, 41, 34, [.val (.ref 1088), .val (.int p1), .val a_unk, .val a_unk, .val a_unk, .val a_unk, .val a_unk, .val a_unk], v.toList ++ [], μ)) 3 ze6 e (fun n => Eq.refl _)
    by_cases zc7 : x2 ≠ 0
    · have h := itp h zc7
      suffices e : Ev (d + 2, 0, 0, 41, 39, [.val (.ref 1088), .val (.int p1), .val a_unk, .val a_unk, .val a_unk, .val a_unk, .val a_unk, .val a_unk], [], (126, 120, L, [Y, T, HA, HB, RA, RB, ST, NS, I0, I1, I2, BO, FI, RG, GU, PU, MA_3, MN, MS, OT, SC], [r0, r1, r2, r3, w, r5, r6, r7, r8], Lg)) o from ev_t (c := x2 ≠ 0) _ _ 1  zc7 e (fun n => Eq.refl _)
      obtain ⟨⟨MA_4, MN_5⟩, zh8, h⟩ := bnd h
      have zh8 : f_M_begins MA_3 MN p1 = some (MA_4, MN_5) := zh8
      have ze9 := R_f_M_begins_0 (d + 1) Y T HA HB RA RB ST NS I0 I1 I2 BO FI RG GU PU MA_3 MN MS OT SC r0 r1 r2 r3 w r5 r6 r7 r8 L Lg p1 zh8
      suffices e : Ev (d + 2, 0, 0, 41, 44, [.val (.ref 1088), .val (.int p1), .val a_unk, .val a_unk, .val a_unk, .val a_unk, .val a_unk, .val a_unk], [], (126, 120, L, [Y, T, HA, HB, RA, RB, ST, NS, I0, I1, I2, BO, FI, RG, GU, PU, MA_4, MN_5, MS, OT, SC], [r0, r1, r2, r3, w, r5, r6, r7, r8], Lg)) o from ev_call (fun v μ => (d + 2, 0, 0, 41, 44, [.val (.ref 1088), .val (.int p1), .val a_unk, .val a_unk, .val a_unk, .val a_unk, .val a_unk, .val a_unk], v.toList ++ [], μ)) 3 ze9 e (fun n => Eq.refl _)
      obtain ⟨zb10, zh11, h⟩ := bnd h
      suffices e : Ev (d + 2, 0, 0, 41, 48, [.val (.ref 1088), .val (.int p1), .val (.int 0), .val (.int 0), .val a_unk, .val a_unk, .val a_unk, .val a_unk], [], (126, 120, L, [Y, T, HA, HB, RA, RB, ST, NS, I0, I1, I2, BO, FI, RG, GU, PU, MA_4, MN_5, MS, OT, SC], [r0, r1, r2, r3, w, r5, r6, r7, r8], Lg)) o from ev_b 4 e (fun n => Eq.refl _)
      refine ev_loop (δ := Value × Value × Value × Value) (fun a j => (d + 2, 0, 0, 41, 48, [.val (.ref 1088), .val (.int p1), .val (.int a.1), .val (.int a.2.1), .val j.1, .val j.2.1, .val j.2.2.1, .val j.2.2.2], [], (126, 120, L, [Y, T, HA, HB, RA, RB, ST, NS, I0, I1, I2, BO, FI, RG, GU, PU, MA_4, a.2.2, MS, OT, SC], [r0, r1, r2, r3, w, r5, r6, r7, r8], Lg))) (fun b => ∀ s30 : Value, ∀ s31 : Value, ∀ s32 : Value, ∀ s33 : Value, ∀ s34 : Value, Ev (d + 2, 0, 0, 41, 187, [.val (.ref 1088), .val (.int p1), .val (.int b.1), .val s30, .val s31, .val s32, .val s33, .val s34], [], (126, 120, L, [Y, T, HA, HB, RA, RB, ST, NS, I0, I1, I2, BO, FI, RG, GU, PU, MA_4, b.2, MS, OT, SC], [r0, r1, r2, r3, w, r5, r6, r7, r8], Lg)) o) ?_ a_F (0, 0, MN_5) zb10 zh11 ?_ (a_unk, a_unk, a_unk, a_unk)
      · rintro ⟨v6, v7, MN_12⟩ zr15 zh14 zi12 zx13 ⟨s8, s9, s10, s11⟩
        have zh14 : f_M_target_l48 MA_4 v6 v7 MN_12 = some zr15 := zh14
        obtain ⟨x13, zh16, zh14⟩ := bnd zh14
        have zh16 : f_M_fine MN_12 = some x13 := zh16
        have ze17 := R_f_M_fine_0 (d + 1) Y T HA HB RA RB ST NS I0 I1 I2 BO FI RG GU PU MA_4 MN_12 MS OT SC r0 r1 r2 r3 w r5 r6 r7 r8 L Lg zh16
        suffices e : Ev (d + 2, 0, 0, 41, 52, [.val (.ref 1088), .val (.int p1), .val (.int v6), .val (.int v7), .val s8, .val s9, .val s10, .val s11], [.int x13], (126, 120, L, [Y, T, HA, HB, RA, RB, ST, NS, I0, I1, I2, BO, FI, RG, GU, PU, MA_4, MN_12, MS, OT, SC], [r0, r1, r2, r3, w, r5, r6, r7, r8], Lg)) o from ev_call (fun v μ => (d + 2, 0, 0, 41, 52, [.val (.ref 1088), .val (.int p1), .val (.int v6), .val (.int v7), .val s8, .val s9, .val s10, .val s11], v.toList ++ [], μ)) 2 ze17 e (fun n => Eq.refl _)
        by_cases zc18 : x13 = 0
        · have zh14 := itp zh14 zc18
          suffices e : Ev (d + 2, 0, 0, 41, 187, [.val (.ref 1088), .val (.int p1), .val (.int v6), .val (.int v7), .val s8, .val s9, .val s10, .val s11], [], (126, 120, L, [Y, T, HA, HB, RA, RB, ST, NS, I0, I1, I2, BO, FI, RG, GU, PU, MA_4, MN_12, MS, OT, SC], [r0, r1, r2, r3, w, r5, r6, r7, r8], Lg)) o from ev_t (c := x13 = 0) _ _ 1  zc18 e (fun n => Eq.refl _)
          exact ev_b 0 (zx13 _ (Option.some.inj zh14).symm (.int v7) s8 s9 s10 s11) (fun n => Eq.refl _)
        · have zh14 := itn zh14 zc18
          suffices e : Ev (d + 2, 0, 0, 41, 55, [.val (.ref 1088), .val (.int p1), .val (.int v6), .val (.int v7), .val s8, .val s9, .val s10, .val s11], [], (126, 120, L, [Y, T, HA, HB, RA, RB, ST, NS, I0, I1, I2, BO, FI, RG, GU, PU, MA_4, MN_12, MS, OT, SC], [r0, r1, r2, r3, w, r5, r6, r7, r8], Lg)) o from ev_f (c := x13 = 0) _ _ 1  zc18 e (fun n => Eq.refl _)
          obtain ⟨⟨x14, MN_15⟩, zh19, zh14⟩ := bnd zh14
          have zh19 : f_M_isMore MA_4 MN_12 = some (x14, MN_15) := zh19
          have ze20 := R_f_M_isMore_0 (d + 0) Y T HA HB RA RB ST NS I0 I1 I2 BO FI RG GU PU MA_4 MN_12 MS OT SC r0 r1 r2 r3 w r5 r6 r7 r8 L Lg zh19
          suffices e : Ev (d + 2, 0, 0, 41, 59, [.val (.ref 1088), .val (.int p1), .val (.int v6), .val (.int v7), .val s8, .val s9, .val s10, .val s11], [.int x14], (126, 120, L, [Y, T, HA, HB, RA, RB, ST, NS, I0, I1, I2, BO, FI, RG, GU, PU, MA_4, MN_15, MS, OT, SC], [r0, r1, r2, r3, w, r5, r6, r7, r8], Lg)) o from ev_call (fun v μ => (d + 2, 0, 0, 41, 59, [.val (.ref 1088), .val (.int p1), .val (.int v6), .val (.int v7), .val s8, .val s9, .val s10, .val s11], v.toList ++ [], μ)) 2 ze20 e (fun n => Eq.refl _)
          by_cases zc21 : x14 = 0
          · have zh14 := itp zh14 zc21
            suffices e : Ev (d + 2, 0, 0, 41, 187, [.val (.ref 1088), .val (.int p1), .val (.int v6), .val (.int v7), .val s8, .val s9, .val s10, .val s11], [], (126, 120, L, [Y, T, HA, HB, RA, RB, ST, NS, I0, I1, I2, BO, FI, RG, GU, PU, MA_4, MN_15, MS, OT, SC], [r0, r1, r2, r3, w, r5, r6, r7, r8], Lg)) o from ev_t (c := x14 = 0) _ _ 1  zc21 e (fun n => Eq.refl _)
            exact ev_b 0 (zx13 _ (Option.some.inj zh14).symm (.int v7) s8 s9 s10 s11) (fun n => Eq.refl _)
          · have zh14 := itn zh14 zc21
            suffices e : Ev (d + 2, 0, 0, 41, 62, [.val (.ref 1088), .val (.int p1), .val (.int v6), .val (.int v7), .val s8, .val s9, .val s10, .val s11], [], (126, 120, L, [Y, T, HA, HB, RA, RB, ST, NS, I0, I1, I2, BO, FI, RG, GU, PU, MA_4, MN_15, MS, OT, SC], [r0, r1, r2, r3, w, r5, r6, r7, r8], Lg)) o from ev_f (c := x14 = 0) _ _ 1  zc21 e (fun n => Eq.refl _)
            obtain ⟨⟨x16, MN_17⟩, zh22, zh14⟩ := bnd zh14
            have zh22 : f_M_readNumber MA_4 MN_15 0 ((MA_4 0 26) - 1) = some (x16, MN_17) := zh22
            have ze23 := R_f_M_readNumber_0 (d + 0) Y T HA HB RA RB ST NS I0 I1 I2 BO FI RG GU PU MA_4 MN_15 MS OT SC r0 r1 r2 r3 w r5 r6 r7 r8 L Lg 0 ((MA_4 0 26) - 1) zh22
            suffices e : Ev (d + 2, 0, 0, 41, 79, [.val (.ref 1088), .val (.int p1), .val (.int v6), .val (.int v7), .val (.int (MN_15 0 4)), .val s9, .val s10, .val s11], [.int x16], (126, 120, L, [Y, T, HA, HB, RA, RB, ST, NS, I0, I1, I2, BO, FI, RG, GU, PU, MA_4, MN_17, MS, OT, SC], [r0, r1, r2, r3, w, r5, r6, r7, r8], Lg)) o from ev_call (fun v μ => (d + 2, 0, 0, 41, 79, [.val (.ref 1088), .val (.int p1), .val (.int v6), .val (.int v7), .val (.int (MN_15 0 4)), .val s9, .val s10, .val s11], v.toList ++ [], μ)) 10 ze23 e (fun n => Eq.refl _)
            obtain ⟨x18, zh24, zh14⟩ := bnd zh14
            have zh24 : f_M_fine MN_17 = some x18 := zh24
            have ze25 := R_f_M_fine_0 (d + 1) Y T HA HB RA RB ST NS I0 I1 I2 BO FI RG GU PU MA_4 MN_17 MS OT SC r0 r1 r2 r3 w r5 r6 r7 r8 L Lg zh24
            suffices e : Ev (d + 2, 0, 0, 41, 85, [.val (.ref 1088), .val (.int p1), .val (.int v6), .val (.int v7), .val (.int (MN_15 0 4)), .val (.int x16), .val s10, .val s11], [.int x18], (126, 120, L, [Y, T, HA, HB, RA, RB, ST, NS, I0, I1, I2, BO, FI, RG, GU, PU, MA_4, MN_17, MS, OT, SC], [r0, r1, r2, r3, w, r5, r6, r7, r8], Lg)) o from ev_call (fun v μ => (d + 2, 0, 0, 41, 85, [.val (.ref 1088), .val (.int p1), .val (.int v6), .val (.int v7), .val (.int (MN_15 0 4)), .val (.int x16), .val s10, .val s11], v.toList ++ [], μ)) 3 ze25 e (fun n => Eq.refl _)
            obtain ⟨zt26, zh27, zh14⟩ := bnd zh14
            have zj28 : ∀ (MN_20 : (Nat → Nat → Int32)), MN_20 = zt26 → Ev (d + 2, 0, 0, 41, 105, [.val (.ref 1088), .val (.int p1), .val (.int v6), .val (.int v7), .val (.int (MN_15 0 4)), .val (.int x16), .val s10, .val s11], [], (126, 120, L, [Y, T, HA, HB, RA, RB, ST, NS, I0, I1, I2, BO, FI, RG, GU, PU, MA_4, MN_20, MS, OT, SC], [r0, r1, r2, r3, w, r5, r6, r7, r8], Lg)) o := by
              intro MN_20 ze29
              subst ze29
              obtain ⟨⟨x21, MN_22⟩, zh30, zh14⟩ := bnd zh14
              have zh30 : f_M_readNumber MA_4 MN_20 0 ((MA_4 0 23) - 1) = some (x21, MN_22) := zh30
              have ze31 := R_f_M_readNumber_0 (d + 0) Y T HA HB RA RB ST NS I0 I1 I2 BO FI RG GU PU MA_4 MN_20 MS OT SC r0 r1 r2 r3 w r5 r6 r7 r8 L Lg 0 ((MA_4 0 23) - 1) zh30
              suffices e : Ev (d + 2, 0, 0, 41, 116, [.val (.ref 1088), .val (.int p1), .val (.int v6), .val (.int v7), .val (.int (MN_15 0 4)), .val (.int x16), .val s10, .val s11], [.int x21], (126, 120, L, [Y, T, HA, HB, RA, RB, ST, NS, I0, I1, I2, BO, FI, RG, GU, PU, MA_4, MN_22, MS, OT, SC], [r0, r1, r2, r3, w, r5, r6, r7, r8], Lg)) o from ev_call (fun v μ => (d + 2, 0, 0, 41, 116, [.val (.ref 1088), .val (.int p1), .val (.int v6), .val (.int v7), .val (.int (MN_15 0 4)), .val (.int x16), .val s10, .val s11], v.toList ++ [], μ)) 7 ze31 e (fun n => Eq.refl _)
              obtain ⟨⟨x23, MN_24⟩, zh32, zh14⟩ := bnd zh14
              have zh32 : f_M_readNumber MA_4 MN_22 0 ((MA_4 0 24) - 1) = some (x23, MN_24) := zh32
              have ze33 := R_f_M_readNumber_0 (d + 0) Y T HA HB RA RB ST NS I0 I1 I2 BO FI RG GU PU MA_4 MN_22 MS OT SC r0 r1 r2 r3 w r5 r6 r7 r8 L Lg 0 ((MA_4 0 24) - 1) zh32
              suffices e : Ev (d + 2, 0, 0, 41, 129, [.val (.ref 1088), .val (.int p1), .val (.int v6), .val (.int v7), .val (.int (MN_15 0 4)), .val (.int x16), .val (.int x21), .val s11], [.int x23], (126, 120, L, [Y, T, HA, HB, RA, RB, ST, NS, I0, I1, I2, BO, FI, RG, GU, PU, MA_4, MN_24, MS, OT, SC], [r0, r1, r2, r3, w, r5, r6, r7, r8], Lg)) o from ev_call (fun v μ => (d + 2, 0, 0, 41, 129, [.val (.ref 1088), .val (.int p1), .val (.int v6), .val (.int v7), .val (.int (MN_15 0 4)), .val (.int x16), .val (.int x21), .val s11], v.toList ++ [], μ)) 8 ze33 e (fun n => Eq.refl _)
              obtain ⟨MN_25, zh34, zh14⟩ := bnd zh14
              have zh34 : f_M_sign MA_4 MN_24 59 = some MN_25 := zh34
              have ze35 := R_f_M_sign_0 (d + 0) Y T HA HB RA RB ST NS I0 I1 I2 BO FI RG GU PU MA_4 MN_24 MS OT SC r0 r1 r2 r3 w r5 r6 r7 r8 L Lg 59 zh34
              suffices e : Ev (d + 2, 0, 0, 41, 137, [.val (.ref 1088), .val (.int p1), .val (.int v6), .val (.int v7), .val (.int (MN_15 0 4)), .val (.int x16), .val (.int x21), .val (.int x23)], [], (126, 120, L, [Y, T, HA, HB, RA, RB, ST, NS, I0, I1, I2, BO, FI, RG, GU, PU, MA_4, MN_25, MS, OT, SC], [r0, r1, r2, r3, w, r5, r6, r7, r8], Lg)) o from ev_call (fun v μ => (d + 2, 0, 0, 41, 137, [.val (.ref 1088), .val (.int p1), .val (.int v6), .val (.int v7), .val (.int (MN_15 0 4)), .val (.int x16), .val (.int x21), .val (.int x23)], v.toList ++ [], μ)) 4 ze35 e (fun n => Eq.refl _)
              obtain ⟨x26, zh36, zh14⟩ := bnd zh14
              have zh36 : f_M_fine MN_25 = some x26 := zh36
              have ze37 := R_f_M_fine_0 (d + 1) Y T HA HB RA RB ST NS I0 I1 I2 BO FI RG GU PU MA_4 MN_25 MS OT SC r0 r1 r2 r3 w r5 r6 r7 r8 L Lg zh36
              suffices e : Ev (d + 2, 0, 0, 41, 141, [.val (.ref 1088), .val (.int p1), .val (.int v6), .val (.int v7), .val (.int (MN_15 0 4)), .val (.int x16), .val (.int x21), .val (.int x23)], [.int x26], (126, 120, L, [Y, T, HA, HB, RA, RB, ST, NS, I0, I1, I2, BO, FI, RG, GU, PU, MA_4, MN_25, MS, OT, SC], [r0, r1, r2, r3, w, r5, r6, r7, r8], Lg)) o from ev_call (fun v μ => (d + 2, 0, 0, 41, 141, [.val (.ref 1088), .val (.int p1), .val (.int v6), .val (.int v7), .val (.int (MN_15 0 4)), .val (.int x16), .val (.int x21), .val (.int x23)], v.toList ++ [], μ)) 2 ze37 e (fun n => Eq.refl _)
              by_cases zc38 : x26 ≠ 0
              · have zh14 := itp zh14 zc38
                suffices e : Ev (d + 2, 0, 0, 41, 147, [.val (.ref 1088), .val (.int p1), .val (.int v6), .val (.int v7), .val (.int (MN_15 0 4)), .val (.int x16), .val (.int x21), .val (.int x23)], [], (126, 120, L, [Y, T, HA, HB, RA, RB, ST, NS, I0, I1, I2, BO, FI, RG, GU, PU, MA_4, MN_25, MS, OT, SC], [r0, r1, r2, r3, w, r5, r6, r7, r8], Lg)) o from ev_t (c := x26 ≠ 0) _ _ 1  zc38 e (fun n => Eq.refl _)
                obtain ⟨j27, zh39, zh14⟩ := bnd zh14
                have zh39 : ixx 20 (2 * v6) = some j27 := zh39
                suffices e : Ev (d + 2, 0, 0, 41, 164, [.val (.ref 1088), .val (.int p1), .val (.int v6), .val (.int (v7 ||| (a_shl 1 x16))), .val (.int (MN_15 0 4)), .val (.int x16), .val (.int x21), .val (.int x23)], [], (126, 120, L, [Y, T, HA, HB, RA, RB, ST, NS, I0, I1, I2, BO, FI, RG, GU, PU, MA_4, (u2 MN_25 5 j27 x16), MS, OT, SC], [r0, r1, r2, r3, w, r5, r6, r7, r8], Lg)) o from ev_opt (fun j27 => (d + 2, 0, 0, 41, 164, [.val (.ref 1088), .val (.int p1), .val (.int v6), .val (.int (v7 ||| (a_shl 1 x16))), .val (.int (MN_15 0 4)), .val (.int x16), .val (.int x21), .val (.int x23)], [], (126, 120, L, [Y, T, HA, HB, RA, RB, ST, NS, I0, I1, I2, BO, FI, RG, GU, PU, MA_4, (u2 MN_25 5 j27 x16), MS, OT, SC], [r0, r1, r2, r3, w, r5, r6, r7, r8], Lg))) 13 zh39 e (fun n => Eq.refl _)
                obtain ⟨j28, zh40, zh14⟩ := bnd zh14
                have zh40 : ixx 20 ((2 * v6) + 1) = some j28 := zh40
                suffices e : Ev (d + 2, 0, 0, 41, 181, [.val (.ref 1088), .val (.int p1), .val (.int v6), .val (.int (v7 ||| (a_shl 1 x16))), .val (.int (MN_15 0 4)), .val (.int x16), .val (.int x21), .val (.int x23)], [], (126, 120, L, [Y, T, HA, HB, RA, RB, ST, NS, I0, I1, I2, BO, FI, RG, GU, PU, MA_4, (u2 (u2 MN_25 5 j27 x16) 5 j28 ((3 * x21) + x23)), MS, OT, SC], [r0, r1, r2, r3, w, r5, r6, r7, r8], Lg)) o from ev_opt (fun j28 => (d + 2, 0, 0, 41, 181, [.val (.ref 1088), .val (.int p1), .val (.int v6), .val (.int (v7 ||| (a_shl 1 x16))), .val (.int (MN_15 0 4)), .val (.int x16), .val (.int x21), .val (.int x23)], [], (126, 120, L, [Y, T, HA, HB, RA, RB, ST, NS, I0, I1, I2, BO, FI, RG, GU, PU, MA_4, (u2 (u2 MN_25 5 j27 x16) 5 j28 ((3 * x21) + x23)), MS, OT, SC], [r0, r1, r2, r3, w, r5, r6, r7, r8], Lg))) 13 zh40 e (fun n => Eq.refl _)
                exact ev_b 2 (zi12 _ (Option.some.inj zh14).symm ((.int (MN_15 0 4)), (.int x16), (.int x21), (.int x23))) (fun n => Eq.refl _)
              · have zh14 := itn zh14 zc38
                suffices e : Ev (d + 2, 0, 0, 41, 144, [.val (.ref 1088), .val (.int p1), .val (.int v6), .val (.int v7), .val (.int (MN_15 0 4)), .val (.int x16), .val (.int x21), .val (.int x23)], [], (126, 120, L, [Y, T, HA, HB, RA, RB, ST, NS, I0, I1, I2, BO, FI, RG, GU, PU, MA_4, MN_25, MS, OT, SC], [r0, r1, r2, r3, w, r5, r6, r7, r8], Lg)) o from ev_f (c := x26 ≠ 0) _ _ 1  zc38 e (fun n => Eq.refl _)
                exact ev_b 1 (zx13 _ (Option.some.inj zh14).symm (.int v7) (.int (MN_15 0 4)) (.int x16) (.int x21) (.int x23)) (fun n => Eq.refl _)
            by_cases zc41 : x18 = 0
            · have zh27 := itp zh27 zc41
              suffices e : Ev (d + 2, 0, 0, 41, 105, [.val (.ref 1088), .val (.int p1), .val (.int v6), .val (.int v7), .val (.int (MN_15 0 4)), .val (.int x16), .val s10, .val s11], [], (126, 120, L, [Y, T, HA, HB, RA, RB, ST, NS, I0, I1, I2, BO, FI, RG, GU, PU, MA_4, MN_17, MS, OT, SC], [r0, r1, r2, r3, w, r5, r6, r7, r8], Lg)) o from ev_t (c := x18 = 0) _ _ 1  zc41 e (fun n => Eq.refl _)
              exact ev_b 0 (zj28 MN_17 (Option.some.inj zh27) ) (fun n => Eq.refl _)
            · have zh27 := itn zh27 zc41
              suffices e : Ev (d + 2, 0, 0, 41, 88, [.val (.ref 1088), .val (.int p1), .val (.int v6), .val (.int v7), .val (.int (MN_15 0 4)), .val (.int x16), .val s10, .val s11], [], (126, 120, L, [Y, T, HA, HB, RA, RB, ST, NS, I0, I1, I2, BO, FI, RG, GU, PU, MA_4, MN_17, MS, OT, SC], [r0, r1, r2, r3, w, r5, r6, r7, r8], Lg)) o from ev_f (c := x18 = 0) _ _ 1  zc41 e (fun n => Eq.refl _)
              by_cases zc42 : ((a_shr v7 x16) &&& 1) ≠ 1
              · have zh27 := itp zh27 zc42
                suffices e : Ev (d + 2, 0, 0, 41, 105, [.val (.ref 1088), .val (.int p1), .val (.int v6), .val (.int v7), .val (.int (MN_15 0 4)), .val (.int x16), .val s10, .val s11], [], (126, 120, L, [Y, T, HA, HB, RA, RB, ST, NS, I0, I1, I2, BO, FI, RG, GU, PU, MA_4, MN_17, MS, OT, SC], [r0, r1, r2, r3, w, r5, r6, r7, r8], Lg)) o from ev_t (c := ((a_shr v7 x16) &&& 1) ≠ 1) _ _ 7  zc42 e (fun n => Eq.refl _)
                exact ev_b 0 (zj28 MN_17 (Option.some.inj zh27) ) (fun n => Eq.refl _)
              · have zh27 := itn zh27 zc42
                suffices e : Ev (d + 2, 0, 0, 41, 98, [.val (.ref 1088), .val (.int p1), .val (.int v6), .val (.int v7), .val (.int (MN_15 0 4)), .val (.int x16), .val s10, .val s11], [], (126, 120, L, [Y, T, HA, HB, RA, RB, ST, NS, I0, I1, I2, BO, FI, RG, GU, PU, MA_4, MN_17, MS, OT, SC], [r0, r1, r2, r3, w, r5, r6, r7, r8], Lg)) o from ev_f (c := ((a_shr v7 x16) &&& 1) ≠ 1) _ _ 7  zc42 e (fun n => Eq.refl _)
                obtain ⟨MN_19, zh43, zh27⟩ := bnd zh27
                have zh43 : f_M_wrong MN_17 2 (MN_15 0 4) = some MN_19 := zh43
                have ze44 := R_f_M_wrong_0 (d + 1) Y T HA HB RA RB ST NS I0 I1 I2 BO FI RG GU PU MA_4 MN_17 MS OT SC r0 r1 r2 r3 w r5 r6 r7 r8 L Lg 2 (MN_15 0 4) zh43
                suffices e : Ev (d + 2, 0, 0, 41, 105, [.val (.ref 1088), .val (.int p1), .val (.int v6), .val (.int v7), .val (.int (MN_15 0 4)), .val (.int x16), .val s10, .val s11], [], (126, 120, L, [Y, T, HA, HB, RA, RB, ST, NS, I0, I1, I2, BO, FI, RG, GU, PU, MA_4, MN_19, MS, OT, SC], [r0, r1, r2, r3, w, r5, r6, r7, r8], Lg)) o from ev_call (fun v μ => (d + 2, 0, 0, 41, 105, [.val (.ref 1088), .val (.int p1), .val (.int v6), .val (.int v7), .val (.int (MN_15 0 4)), .val (.int x16), .val s10, .val s11], v.toList ++ [], μ)) 4 ze44 e (fun n => Eq.refl _)
                exact ev_b 0 (zj28 MN_19 (Option.some.inj zh27) ) (fun n => Eq.refl _)
      · obtain ⟨v29, MN_35⟩ := zb10
        intro s30 s31 s32 s33 s34
        obtain ⟨⟨x36, MA_37⟩, zh45, h⟩ := bnd h
        have zh45 : f_M_result MA_4 MN_35 v29 = some (x36, MA_37) := zh45
        have ze46 := R_f_M_result_0 (d + 0) Y T HA HB RA RB ST NS I0 I1 I2 BO FI RG GU PU MA_4 MN_35 MS OT SC r0 r1 r2 r3 w r5 r6 r7 r8 L Lg v29 zh45
        suffices e : Ev (d + 2, 0, 0, 41, 192, [.val (.ref 1088), .val (.int p1), .val (.int v29), .val s30, .val s31, .val s32, .val s33, .val s34], [.int x36], (126, 120, L, [Y, T, HA, HB, RA, RB, ST, NS, I0, I1, I2, BO, FI, RG, GU, PU, MA_37, MN_35, MS, OT, SC], [r0, r1, r2, r3, w, r5, r6, r7, r8], Lg)) o from ev_call (fun v μ => (d + 2, 0, 0, 41, 192, [.val (.ref 1088), .val (.int p1), .val (.int v29), .val s30, .val s31, .val s32, .val s33, .val s34], v.toList ++ [], μ)) 3 ze46 e (fun n => Eq.refl _)
        by_cases zc47 : (MN_35 0 5) = (-1)
        · have h := itp h zc47
          suffices e : Ev (d + 2, 0, 0, 41, 205, [.val (.ref 1088), .val (.int p1), .val (.int v29), .val s30, .val (.int x36), .val s32, .val s33, .val s34], [], (126, 120, L, [Y, T, HA, HB, RA, RB, ST, NS, I0, I1, I2, BO, FI, RG, GU, PU, MA_37, MN_35, MS, OT, SC], [r0, r1, r2, r3, w, r5, r6, r7, r8], Lg)) o from ev_t (c := (MN_35 0 5) = (-1)) _ _ 5  zc47 e (fun n => Eq.refl _)
          obtain ⟨x38, zh48, h⟩ := bnd h
          have ze49 := R_copies (d + 1) 1157 1097 (2 * v29) [Y, T, HA, HB, RA, RB, ST, NS, I0, I1, I2, BO, FI, RG, GU, PU, (u2 MA_37 0 33 v29), MN_35, MS, OT, SC] [r0, r1, r2, r3, w, r5, r6, r7, r8] (.ref 1088) L Lg 126 120 rfl rfl rfl rfl (Nat.le_of_ble_eq_true rfl) (Nat.le_of_ble_eq_true rfl) (Nat.le_of_ble_eq_true rfl) zh48
          suffices e : Ev (d + 2, 0, 0, 41, 225, [.val (.ref 1088), .val (.int p1), .val (.int v29), .val s30, .val (.int x36), .val s32, .val s33, .val s34], [], (126, 120, L, [Y, T, HA, HB, RA, RB, ST, NS, I0, I1, I2, BO, FI, RG, GU, PU, (u1 (u2 MA_37 0 33 v29) 9 x38), MN_35, MS, OT, SC], [r0, r1, r2, r3, w, r5, r6, r7, r8], Lg)) o from ev_call (fun v μ => (d + 2, 0, 0, 41, 225, [.val (.ref 1088), .val (.int p1), .val (.int v29), .val s30, .val (.int x36), .val s32, .val s33, .val s34], v.toList ++ [], μ)) 12 ze49 e (fun n => Eq.refl _)
          have ze50 := Option.some.inj h
          subst ze50
          exact ev_rete 2 ho (fun n => Eq.refl _)
        · have h := itn h zc47
          suffices e : Ev (d + 2, 0, 0, 41, 202, [.val (.ref 1088), .val (.int p1), .val (.int v29), .val s30, .val (.int x36), .val s32, .val s33, .val s34], [], (126, 120, L, [Y, T, HA, HB, RA, RB, ST, NS, I0, I1, I2, BO, FI, RG, GU, PU, MA_37, MN_35, MS, OT, SC], [r0, r1, r2, r3, w, r5, r6, r7, r8], Lg)) o from ev_f (c := (MN_35 0 5) = (-1)) _ _ 5  zc47 e (fun n => Eq.refl _)
          have ze51 := Option.some.inj h
          subst ze51
          exact ev_rete 2 ho (fun n => Eq.refl _)
    · have h := itn h zc7
      suffices e : Ev (d + 2, 0, 0, 41, 37, [.val (.ref 1088), .val (.int p1), .val a_unk, .val a_unk, .val a_unk, .val a_unk, .val a_unk, .val a_unk], [], (126, 120, L, [Y, T, HA, HB, RA, RB, ST, NS, I0, I1, I2, BO, FI, RG, GU, PU, MA_3, MN, MS, OT, SC], [r0, r1, r2, r3, w, r5, r6, r7, r8], Lg)) o from ev_f (c := x2 ≠ 0) _ _ 1  zc7 e (fun n => Eq.refl _)
      have ze52 := Option.some.inj h
      subst ze52
      exact ev_rete 2 ho (fun n => Eq.refl _)
  obtain ⟨zt53, zh54, zh2⟩ := bnd zh2
  have zj55 : zt53 = .inl () → Ev (d + 2, 0, 0, 41, 28, [.val (.ref 1088), .val (.int p1), .val a_unk, .val a_unk, .val a_unk, .val a_unk, .val a_unk, .val a_unk], [.ref 1088], (126, 120, L, [Y, T, HA, HB, RA, RB, ST, NS, I0, I1, I2, BO, FI, RG, GU, PU, (u2 MA 0 0 0), MN, MS, OT, SC], [r0, r1, r2, r3, w, r5, r6, r7, r8], Lg)) o := by
    intro ze56
    have zh2 := sum_l zh2 ze56
    exact ev_b 1 (zj3 0 (Option.some.inj zh2) ) (fun n => Eq.refl _)
  by_cases zc57 : p1 < 0
  · have zh54 := itp zh54 zc57
    suffices e : Ev (d + 2, 0, 0, 41, 28, [.val (.ref 1088), .val (.int p1), .val a_unk, .val a_unk, .val a_unk, .val a_unk, .val a_unk, .val a_unk], [.ref 1088], (126, 120, L, [Y, T, HA, HB, RA, RB, ST, NS, I0, I1, I2, BO, FI, RG, GU, PU, (u2 MA 0 0 0), MN, MS, OT, SC], [r0, r1, r2, r3, w, r5, r6, r7, r8], Lg)) o from ev_t (c := p1 < 0) _ _ 6  zc57 e (fun n => Eq.refl _)
    exact ev_b 0 (zj55  (Option.some.inj zh54).symm ) (fun n => Eq.refl _)
  · have zh54 := itn zh54 zc57
    suffices e : Ev (d + 2, 0, 0, 41, 10, [.val (.ref 1088), .val (.int p1), .val a_unk, .val a_unk, .val a_unk, .val a_unk, .val a_unk, .val a_unk], [.ref 1088], (126, 120, L, [Y, T, HA, HB, RA, RB, ST, NS, I0, I1, I2, BO, FI, RG, GU, PU, (u2 MA 0 0 0), MN, MS, OT, SC], [r0, r1, r2, r3, w, r5, r6, r7, r8], Lg)) o from ev_f (c := p1 < 0) _ _ 6  zc57 e (fun n => Eq.refl _)
    by_cases zc58 : ((u2 MA 0 0 0) 0 2) < p1
    · have zh54 := itp zh54 zc58
      suffices e : Ev (d + 2, 0, 0, 41, 28, [.val (.ref 1088), .val (.int p1), .val a_unk, .val a_unk, .val a_unk, .val a_unk, .val a_unk, .val a_unk], [.ref 1088], (126, 120, L, [Y, T, HA, HB, RA, RB, ST, NS, I0, I1, I2, BO, FI, RG, GU, PU, (u2 MA 0 0 0), MN, MS, OT, SC], [r0, r1, r2, r3, w, r5, r6, r7, r8], Lg)) o from ev_t (c := ((u2 MA 0 0 0) 0 2) < p1) _ _ 4  zc58 e (fun n => Eq.refl _)
      exact ev_b 0 (zj55  (Option.some.inj zh54).symm ) (fun n => Eq.refl _)
    · have zh54 := itn zh54 zc58
      suffices e : Ev (d + 2, 0, 0, 41, 18, [.val (.ref 1088), .val (.int p1), .val a_unk, .val a_unk, .val a_unk, .val a_unk, .val a_unk, .val a_unk], [.ref 1088], (126, 120, L, [Y, T, HA, HB, RA, RB, ST, NS, I0, I1, I2, BO, FI, RG, GU, PU, (u2 MA 0 0 0), MN, MS, OT, SC], [r0, r1, r2, r3, w, r5, r6, r7, r8], Lg)) o from ev_f (c := ((u2 MA 0 0 0) 0 2) < p1) _ _ 4  zc58 e (fun n => Eq.refl _)
      by_cases zc59 : 120 < p1
      · have zh54 := itp zh54 zc59
        suffices e : Ev (d + 2, 0, 0, 41, 28, [.val (.ref 1088), .val (.int p1), .val a_unk, .val a_unk, .val a_unk, .val a_unk, .val a_unk, .val a_unk], [.ref 1088], (126, 120, L, [Y, T, HA, HB, RA, RB, ST, NS, I0, I1, I2, BO, FI, RG, GU, PU, (u2 MA 0 0 0), MN, MS, OT, SC], [r0, r1, r2, r3, w, r5, r6, r7, r8], Lg)) o from ev_t (c := 120 < p1) _ _ 3  zc59 e (fun n => Eq.refl _)
        exact ev_b 0 (zj55  (Option.some.inj zh54).symm ) (fun n => Eq.refl _)
      · have zh54 := itn zh54 zc59
        suffices e : Ev (d + 2, 0, 0, 41, 24, [.val (.ref 1088), .val (.int p1), .val a_unk, .val a_unk, .val a_unk, .val a_unk, .val a_unk, .val a_unk], [.ref 1088], (126, 120, L, [Y, T, HA, HB, RA, RB, ST, NS, I0, I1, I2, BO, FI, RG, GU, PU, (u2 MA 0 0 0), MN, MS, OT, SC], [r0, r1, r2, r3, w, r5, r6, r7, r8], Lg)) o from ev_f (c := 120 < p1) _ _ 3  zc59 e (fun n => Eq.refl _)
        have zh60 := sum_r zh2 (Option.some.inj zh54).symm
        exact ev_b 2 (zj3 1 (Option.some.inj zh60) ) (fun n => Eq.refl _)
set_option maxRecDepth 1000000 in
set_option maxHeartbeats 4000000 in
theorem R_f_M_line_0 (d : Nat) (Y T HA HB RA RB ST NS I0 I1 I2 BO FI RG GU PU MA MN MS OT SC : Nat → Nat → Int32) (r0 r1 r2 r3 w r5 r6 r7 r8 : Nat) (L : Nat) (Lg : Int64) (p1 : Int32) (p2 : Int32) {r : Int32 × (Nat → Nat → Int32)} (h : f_M_line MA p1 p2 = some r) : Ev (d + 1, 0, 0, 42, 0, [.val (.ref 1088), .val (.int p1), .val (.int p2)], [], (126, 120, L, [Y, T, HA, HB, RA, RB, ST, NS, I0, I1, I2, BO, FI, RG, GU, PU, MA, MN, MS, OT, SC], [r0, r1, r2, r3, w, r5, r6, r7, r8], Lg)) ((0, some (.int r.1), (126, 120, L, [Y, T, HA, HB, RA, RB, ST, NS, I0, I1, I2, BO, FI, RG, GU, PU, r.2, MN, MS, OT, SC], [r0, r1, r2, r3, w, r5, r6, r7, r8], Lg)) : AOut) := by
  suffices key : ∀ o : AOut, ((0, some (.int r.1), (126, 120, L, [Y, T, HA, HB, RA, RB, ST, NS, I0, I1, I2, BO, FI, RG, GU, PU, r.2, MN, MS, OT, SC], [r0, r1, r2, r3, w, r5, r6, r7, r8], Lg)) : AOut) = o → Ev (d + 1, 0, 0, 42, 0, [.val (.ref 1088), .val (.int p1), .val (.int p2)], [], (126, 120, L, [Y, T, HA, HB, RA, RB, ST, NS, I0, I1, I2, BO, FI, RG, GU, PU, MA, MN, MS, OT, SC], [r0, r1, r2, r3, w, r5, r6, r7, r8], Lg)) o from key _ rfl
  intro o ho
  obtain ⟨x1, zh1, h⟩ := bnd h
  have zh1 : f_M_within p2 0 2 = some x1 := zh1
  have ze2 := R_f_M_within_0 (d + 0) Y T HA HB RA RB ST NS I0 I1 I2 BO FI RG GU PU (u2 MA 0 0 0) MN MS OT SC r0 r1 r2 r3 w r5 r6 r7 r8 L Lg p2 0 2 zh1
  suffices e : Ev (d + 1, 0, 0, 42, 12, [.val (.ref 1088), .val (.int p1), .val (.int p2)], [.int x1, .ref 1088], (126, 120, L, [Y, T, HA, HB, RA, RB, ST, NS, I0, I1, I2, BO, FI, RG, GU, PU, (u2 MA 0 0 0), MN, MS, OT, SC], [r0, r1, r2, r3, w, r5, r6, r7, r8], Lg)) o from ev_call (fun v μ => (d + 1, 0, 0, 42, 12, [.val (.ref 1088), .val (.int p1), .val (.int p2)], v.toList ++ [.ref 1088], μ)) 8 ze2 e (fun n => Eq.refl _)
  obtain ⟨⟨x2, MA_3⟩, zh3, h⟩ := bnd h
  have zh3 : f_M_may (u2 MA 0 0 0) x1 1 1 = some (x2, MA_3) := zh3
  have ze4 := R_f_M_may_0 (d + 0) Y T HA HB RA RB ST NS I0 I1 I2 BO FI RG GU PU (u2 MA 0 0 0) MN MS OT SC r0 r1 r2 r3 w r5 r6 r7 r8 L Lg x1 1 1 zh3
  suffices e : Ev (d + 1, 0, 0, 42, 17, [.val (.ref 1088), .val (.int p1), .val (.int p2)], [.int x2], (126, 120, L, [Y, T, HA, HB, RA, RB, ST, NS, I0, I1, I2, BO, FI, RG, GU, PU, MA_3, MN, MS, OT, SC], [r0, r1, r2, r3, w, r5, r6, r7, r8], Lg)) o from ev_call (fun v μ => (d + 1, 0, 0, 42, 17, [.val (.ref 1088), .val (.int p1), .val (.int p2)], v.toList ++ [], μ)) 3 ze4 e (fun n => Eq.refl _)
  by_cases zc5 : x2 ≠ 0
  · have h := itp h zc5
    suffices e : Ev (d + 1, 0, 0, 42, 22, [.val (.ref 1088), .val (.int p1), .val (.int p2)], [], (126, 120, L, [Y, T, HA, HB, RA, RB, ST, NS, I0, I1, I2, BO, FI, RG, GU, PU, MA_3, MN, MS, OT, SC], [r0, r1, r2, r3, w, r5, r6, r7, r8], Lg)) o from ev_t (c := x2 ≠ 0) _ _ 1  zc5 e (fun n => Eq.refl _)
    obtain ⟨x4, zh6, h⟩ := bnd h
    have zh6 : f_M_within p1 0 ((MA_3 0 33) - 1) = some x4 := zh6
    have ze7 := R_f_M_within_0 (d + 0) Y T HA HB RA RB ST NS I0 I1 I2 BO FI RG GU PU MA_3 MN MS OT SC r0 r1 r2 r3 w r5 r6 r7 r8 L Lg p1 0 ((MA_3 0 33) - 1) zh6
    suffices e : Ev (d + 1, 0, 0, 42, 33, [.val (.ref 1088), .val (.int p1), .val (.int p2)], [.int x4], (126, 120, L, [Y, T, HA, HB, RA, RB, ST, NS, I0, I1, I2, BO, FI, RG, GU, PU, MA_3, MN, MS, OT, SC], [r0, r1, r2, r3, w, r5, r6, r7, r8], Lg)) o from ev_call (fun v μ => (d + 1, 0, 0, 42, 33, [.val (.ref 1088), .val (.int p1), .val (.int p2)], v.toList ++ [], μ)) 7 ze7 e (fun n => Eq.refl _)
    by_cases zc8 : x4 ≠ 0
    · have h := itp h zc8
      suffices e : Ev (d + 1, 0, 0, 42, 38, [.val (.ref 1088), .val (.int p1), .val (.int p2)], [], (126, 120, L, [Y, T, HA, HB, RA, RB, ST, NS, I0, I1, I2, BO, FI, RG, GU, PU, MA_3, MN, MS, OT, SC], [r0, r1, r2, r3, w, r5, r6, r7, r8], Lg)) o from ev_t (c := x4 ≠ 0) _ _ 1  zc8 e (fun n => Eq.refl _)
      by_cases zc9 : p2 ≠ 0
      · have h := itp h zc9
        suffices e : Ev (d + 1, 0, 0, 42, 53, [.val (.ref 1088), .val (.int p1), .val (.int p2)], [], (126, 120, L, [Y, T, HA, HB, RA, RB, ST, NS, I0, I1, I2, BO, FI, RG, GU, PU, MA_3, MN, MS, OT, SC], [r0, r1, r2, r3, w, r5, r6, r7, r8], Lg)) o from ev_t (c := p2 ≠ 0) _ _ 2  zc9 e (fun n => Eq.refl _)
        by_cases zc10 : p2 ≠ 1
        · have h := itp h zc10
          suffices e : Ev (d + 1, 0, 0, 42, 73, [.val (.ref 1088), .val (.int p1), .val (.int p2)], [], (126, 120, L, [Y, T, HA, HB, RA, RB, ST, NS, I0, I1, I2, BO, FI, RG, GU, PU, MA_3, MN, MS, OT, SC], [r0, r1, r2, r3, w, r5, r6, r7, r8], Lg)) o from ev_t (c := p2 ≠ 1) _ _ 3  zc10 e (fun n => Eq.refl _)
          obtain ⟨x5, zh11, h⟩ := bnd h
          have zh11 : rdx (MA_3 9) 20 ((2 * p1) + 1) = some x5 := zh11
          suffices e : Ev (d + 1, 0, 0, 42, 83, [.val (.ref 1088), .val (.int p1), .val (.int p2)], [.int x5], (126, 120, L, [Y, T, HA, HB, RA, RB, ST, NS, I0, I1, I2, BO, FI, RG, GU, PU, MA_3, MN, MS, OT, SC], [r0, r1, r2, r3, w, r5, r6, r7, r8], Lg)) o from ev_opt (fun x5 => (d + 1, 0, 0, 42, 83, [.val (.ref 1088), .val (.int p1), .val (.int p2)], [.int x5], (126, 120, L, [Y, T, HA, HB, RA, RB, ST, NS, I0, I1, I2, BO, FI, RG, GU, PU, MA_3, MN, MS, OT, SC], [r0, r1, r2, r3, w, r5, r6, r7, r8], Lg))) 8 zh11 e (fun n => Eq.refl _)
          suffices e : Ev (d + 1, 0, 0, 42, 85, [.val (.ref 1088), .val (.int p1), .val (.int p2)], [.int (a_rem x5 3)], (126, 120, L, [Y, T, HA, HB, RA, RB, ST, NS, I0, I1, I2, BO, FI, RG, GU, PU, MA_3, MN, MS, OT, SC], [r0, r1, r2, r3, w, r5, r6, r7, r8], Lg)) o from ev_b 2 e (fun n => Eq.refl _)
          have ze12 := Option.some.inj h
          subst ze12
          exact ev_rete 1 ho (fun n => Eq.refl _)
        · have h := itn h zc10
          suffices e : Ev (d + 1, 0, 0, 42, 58, [.val (.ref 1088), .val (.int p1), .val (.int p2)], [], (126, 120, L, [Y, T, HA, HB, RA, RB, ST, NS, I0, I1, I2, BO, FI, RG, GU, PU, MA_3, MN, MS, OT, SC], [r0, r1, r2, r3, w, r5, r6, r7, r8], Lg)) o from ev_f (c := p2 ≠ 1) _ _ 3  zc10 e (fun n => Eq.refl _)
          obtain ⟨x6, zh13, h⟩ := bnd h
          have zh13 : rdx (MA_3 9) 20 ((2 * p1) + 1) = some x6 := zh13
          suffices e : Ev (d + 1, 0, 0, 42, 68, [.val (.ref 1088), .val (.int p1), .val (.int p2)], [.int x6], (126, 120, L, [Y, T, HA, HB, RA, RB, ST, NS, I0, I1, I2, BO, FI, RG, GU, PU, MA_3, MN, MS, OT, SC], [r0, r1, r2, r3, w, r5, r6, r7, r8], Lg)) o from ev_opt (fun x6 => (d + 1, 0, 0, 42, 68, [.val (.ref 1088), .val (.int p1), .val (.int p2)], [.int x6], (126, 120, L, [Y, T, HA, HB, RA, RB, ST, NS, I0, I1, I2, BO, FI, RG, GU, PU, MA_3, MN, MS, OT, SC], [r0, r1, r2, r3, w, r5, r6, r7, r8], Lg))) 8 zh13 e (fun n => Eq.refl _)
          suffices e : Ev (d + 1, 0, 0, 42, 70, [.val (.ref 1088), .val (.int p1), .val (.int p2)], [.int (x6 / 3)], (126, 120, L, [Y, T, HA, HB, RA, RB, ST, NS, I0, I1, I2, BO, FI, RG, GU, PU, MA_3, MN, MS, OT, SC], [r0, r1, r2, r3, w, r5, r6, r7, r8], Lg)) o from ev_b 2 e (fun n => Eq.refl _)
          have ze14 := Option.some.inj h
          subst ze14
          exact ev_rete 2 ho (fun n => Eq.refl _)
      · have h := itn h zc9
        suffices e : Ev (d + 1, 0, 0, 42, 42, [.val (.ref 1088), .val (.int p1), .val (.int p2)], [], (126, 120, L, [Y, T, HA, HB, RA, RB, ST, NS, I0, I1, I2, BO, FI, RG, GU, PU, MA_3, MN, MS, OT, SC], [r0, r1, r2, r3, w, r5, r6, r7, r8], Lg)) o from ev_f (c := p2 ≠ 0) _ _ 2  zc9 e (fun n => Eq.refl _)
        obtain ⟨x7, zh15, h⟩ := bnd h
        have zh15 : rdx (MA_3 9) 20 (2 * p1) = some x7 := zh15
        suffices e : Ev (d + 1, 0, 0, 42, 50, [.val (.ref 1088), .val (.int p1), .val (.int p2)], [.int x7], (126, 120, L, [Y, T, HA, HB, RA, RB, ST, NS, I0, I1, I2, BO, FI, RG, GU, PU, MA_3, MN, MS, OT, SC], [r0, r1, r2, r3, w, r5, r6, r7, r8], Lg)) o from ev_opt (fun x7 => (d + 1, 0, 0, 42, 50, [.val (.ref 1088), .val (.int p1), .val (.int p2)], [.int x7], (126, 120, L, [Y, T, HA, HB, RA, RB, ST, NS, I0, I1, I2, BO, FI, RG, GU, PU, MA_3, MN, MS, OT, SC], [r0, r1, r2, r3, w, r5, r6, r7, r8], Lg))) 6 zh15 e (fun n => Eq.refl _)
        have ze16 := Option.some.inj h
        subst ze16
        exact ev_rete 2 ho (fun n => Eq.refl _)
    · have h := itn h zc8
      suffices e : Ev (d + 1, 0, 0, 42, 36, [.val (.ref 1088), .val (.int p1), .val (.int p2)], [], (126, 120, L, [Y, T, HA, HB, RA, RB, ST, NS, I0, I1, I2, BO, FI, RG, GU, PU, MA_3, MN, MS, OT, SC], [r0, r1, r2, r3, w, r5, r6, r7, r8], Lg)) o from ev_f (c := x4 ≠ 0) _ _ 1  zc8 e (fun n => Eq.refl _)
      have ze17 := Option.some.inj h
      subst ze17
      exact ev_rete 2 ho (fun n => Eq.refl _)
  · have h := itn h zc5
    suffices e : Ev (d + 1, 0, 0, 42, 20, [.val (.ref 1088), .val (.int p1), .val (.int p2)], [], (126, 120, L, [Y, T, HA, HB, RA, RB, ST, NS, I0, I1, I2, BO, FI, RG, GU, PU, MA_3, MN, MS, OT, SC], [r0, r1, r2, r3, w, r5, r6, r7, r8], Lg)) o from ev_f (c := x2 ≠ 0) _ _ 1  zc5 e (fun n => Eq.refl _)
    have ze18 := Option.some.inj h
    subst ze18
    exact ev_rete 2 ho (fun n => Eq.refl _)
