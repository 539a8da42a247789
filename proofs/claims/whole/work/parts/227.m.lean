/-! printed by program (gen/emitm.py): the reference's methods run as their functions say -/
set_option maxRecDepth 1000000 in
set_option maxHeartbeats 4000000 in
theorem R_f_Y_move_1 (d : Nat) (Y T H H2 RV RU ST NS I0 I1 I2 BO FI RG GU PU MA MN MS OT SC : Nat → Nat → Int32) (w r5 : Nat) (L : Nat) (Lg : Int64) (p1 : Int32) (p2 : Int32) (p3 : Int32) {r : Nat × Int32 × (Nat → Nat → Int32) × (Nat → Nat → Int32) × (Nat → Nat → Int32) × Nat} (h : f_Y_move Y H NS BO 192 r5 p1 p2 p3 = some r) : Ev (d + 3, 3, 24, 296, 0, [.val (.ref 64), .val (.int p1), .val (.int p2), .val (.int p3), .val a_unk, .val a_unk, .val a_unk], [], (126, 120, L, [Y, T, H, H2, RV, RU, ST, NS, I0, I1, I2, BO, FI, RG, GU, PU, MA, MN, MS, OT, SC], [192, 256, 384, 320, w, r5, 576, 640, 704], Lg)) ((r.1, a_ov r.1 (.int r.2.1), (126, 120, L, [r.2.2.1, T, H, H2, RV, RU, ST, r.2.2.2.1, I0, I1, I2, r.2.2.2.2.1, FI, RG, GU, PU, MA, MN, MS, OT, SC], [192, 256, 384, 320, w, r.2.2.2.2.2, 576, 640, 704], Lg)) : AOut) := by
  suffices key : ∀ o : AOut, ((r.1, a_ov r.1 (.int r.2.1), (126, 120, L, [r.2.2.1, T, H, H2, RV, RU, ST, r.2.2.2.1, I0, I1, I2, r.2.2.2.2.1, FI, RG, GU, PU, MA, MN, MS, OT, SC], [192, 256, 384, 320, w, r.2.2.2.2.2, 576, 640, 704], Lg)) : AOut) = o → Ev (d + 3, 3, 24, 296, 0, [.val (.ref 64), .val (.int p1), .val (.int p2), .val (.int p3), .val a_unk, .val a_unk, .val a_unk], [], (126, 120, L, [Y, T, H, H2, RV, RU, ST, NS, I0, I1, I2, BO, FI, RG, GU, PU, MA, MN, MS, OT, SC], [192, 256, 384, 320, w, r5, 576, 640, 704], Lg)) o from key _ rfl
  intro o ho
  obtain ⟨⟨q1, Y_2⟩, zh1, h⟩ := bnd h
  have zh1 : f_Y_needPlace Y H p1 p2 p3 = some (q1, Y_2) := zh1
  have ze2 := R_f_Y_needPlace_1 (d + 0) Y T H H2 RV RU ST NS I0 I1 I2 BO FI RG GU PU MA MN MS OT SC w r5 L Lg p1 p2 p3 zh1
  cases q1 with
  | zero =>
    have h := itp h rfl
    suffices e : Ev (d + 3, 0, 0, 296, 7, [.val (.ref 64), .val (.int p1), .val (.int p2), .val (.int p3), .val a_unk, .val a_unk, .val a_unk], [], (126, 120, L, [Y_2, T, H, H2, RV, RU, ST, NS, I0, I1, I2, BO, FI, RG, GU, PU, MA, MN, MS, OT, SC], [192, 256, 384, 320, w, r5, 576, 640, 704], Lg)) o from ev_call (fun v μ => (d + 3, 0, 0, 296, 7, [.val (.ref 64), .val (.int p1), .val (.int p2), .val (.int p3), .val a_unk, .val a_unk, .val a_unk], v.toList ++ [], μ)) 5 ze2 e (fun n => Eq.refl _)
    obtain ⟨x3, zh3, h⟩ := bnd h
    have zh3 : f_Y_placeOf p2 p3 = some x3 := zh3
    have ze4 := R_f_Y_placeOf_0 (d + 2) Y_2 T H H2 RV RU ST NS I0 I1 I2 BO FI RG GU PU MA MN MS OT SC 192 256 384 320 w r5 576 640 704 L Lg p2 p3 zh3
    suffices e : Ev (d + 3, 0, 0, 296, 12, [.val (.ref 64), .val (.int p1), .val (.int p2), .val (.int p3), .val a_unk, .val a_unk, .val a_unk], [.int x3], (126, 120, L, [Y_2, T, H, H2, RV, RU, ST, NS, I0, I1, I2, BO, FI, RG, GU, PU, MA, MN, MS, OT, SC], [192, 256, 384, 320, w, r5, 576, 640, 704], Lg)) o from ev_call (fun v μ => (d + 3, 0, 0, 296, 12, [.val (.ref 64), .val (.int p1), .val (.int p2), .val (.int p3), .val a_unk, .val a_unk, .val a_unk], v.toList ++ [], μ)) 3 ze4 e (fun n => Eq.refl _)
    obtain ⟨x4, zh5, h⟩ := bnd h
    have zh5 : rdx (NS 1) 10 p1 = some x4 := zh5
    suffices e : Ev (d + 3, 0, 0, 296, 23, [.val (.ref 64), .val (.int p1), .val (.int p2), .val (.int p3), .val (.int x3), .val a_unk, .val a_unk], [.int x4], (126, 120, L, [Y_2, T, H, H2, RV, RU, ST, NS, I0, I1, I2, BO, FI, RG, GU, PU, MA, MN, MS, OT, SC], [192, 256, 384, 320, w, r5, 576, 640, 704], Lg)) o from ev_opt (fun x4 => (d + 3, 0, 0, 296, 23, [.val (.ref 64), .val (.int p1), .val (.int p2), .val (.int p3), .val (.int x3), .val a_unk, .val a_unk], [.int x4], (126, 120, L, [Y_2, T, H, H2, RV, RU, ST, NS, I0, I1, I2, BO, FI, RG, GU, PU, MA, MN, MS, OT, SC], [192, 256, 384, 320, w, r5, 576, 640, 704], Lg))) 6 zh5 e (fun n => Eq.refl _)
    by_cases zc6 : x4 ≠ x3
    · have h := itp h zc6
      suffices e : Ev (d + 3, 0, 0, 296, 30, [.val (.ref 64), .val (.int p1), .val (.int p2), .val (.int p3), .val (.int x3), .val a_unk, .val a_unk], [], (126, 120, L, [Y_2, T, H, H2, RV, RU, ST, NS, I0, I1, I2, BO, FI, RG, GU, PU, MA, MN, MS, OT, SC], [192, 256, 384, 320, w, r5, 576, 640, 704], Lg)) o from ev_t (c := x4 ≠ x3) _ _ 2  zc6 e (fun n => Eq.refl _)
      obtain ⟨x5, zh7, h⟩ := bnd h
      have zh7 : f_State_isFull NS = some x5 := zh7
      have ze8 := R_f_State_isFull_0 (d + 2) Y_2 T H H2 RV RU ST NS I0 I1 I2 BO FI RG GU PU MA MN MS OT SC 192 256 384 320 w r5 576 640 704 L Lg zh7
      suffices e : Ev (d + 3, 0, 0, 296, 37, [.val (.ref 64), .val (.int p1), .val (.int p2), .val (.int p3), .val (.int x3), .val a_unk, .val a_unk], [.int x5], (126, 120, L, [Y_2, T, H, H2, RV, RU, ST, NS, I0, I1, I2, BO, FI, RG, GU, PU, MA, MN, MS, OT, SC], [192, 256, 384, 320, w, r5, 576, 640, 704], Lg)) o from ev_call (fun v μ => (d + 3, 0, 0, 296, 37, [.val (.ref 64), .val (.int p1), .val (.int p2), .val (.int p3), .val (.int x3), .val a_unk, .val a_unk], v.toList ++ [], μ)) 3 ze8 e (fun n => Eq.refl _)
      by_cases zc9 : x5 = 0
      · have h := itp h zc9
        suffices e : Ev (d + 3, 0, 0, 296, 43, [.val (.ref 64), .val (.int p1), .val (.int p2), .val (.int p3), .val (.int x3), .val a_unk, .val a_unk], [], (126, 120, L, [Y_2, T, H, H2, RV, RU, ST, NS, I0, I1, I2, BO, FI, RG, GU, PU, MA, MN, MS, OT, SC], [192, 256, 384, 320, w, r5, 576, 640, 704], Lg)) o from ev_t (c := x5 = 0) _ _ 1  zc9 e (fun n => Eq.refl _)
        suffices e : Ev (d + 3, 0, 0, 296, 47, [.val (.ref 64), .val (.int p1), .val (.int p2), .val (.int p3), .val (.int x3), .val a_unk, .val a_unk], [.ref 192], (126, 120, L, [Y_2, T, H, H2, RV, RU, ST, NS, I0, I1, I2, BO, FI, RG, GU, PU, MA, MN, MS, OT, SC], [192, 256, 384, 320, w, r5, 576, 640, 704], Lg)) o from ev_b 2 e (fun n => Eq.refl _)
        obtain ⟨x6, zh10, h⟩ := bnd h
        have zh10 : f_House_isFixed H p1 = some x6 := zh10
        have ze11 := R_f_House_isFixed_0 (d + 2) Y_2 T H H2 RV RU ST NS I0 I1 I2 BO FI RG GU PU MA MN MS OT SC 192 256 384 320 w r5 576 640 704 L Lg p1 zh10
        suffices e : Ev (d + 3, 0, 0, 296, 51, [.val (.ref 64), .val (.int p1), .val (.int p2), .val (.int p3), .val (.int x3), .val a_unk, .val a_unk], [.int x6], (126, 120, L, [Y_2, T, H, H2, RV, RU, ST, NS, I0, I1, I2, BO, FI, RG, GU, PU, MA, MN, MS, OT, SC], [192, 256, 384, 320, w, r5, 576, 640, 704], Lg)) o from ev_call (fun v μ => (d + 3, 0, 0, 296, 51, [.val (.ref 64), .val (.int p1), .val (.int p2), .val (.int p3), .val (.int x3), .val a_unk, .val a_unk], v.toList ++ [], μ)) 2 ze11 e (fun n => Eq.refl _)
        by_cases zc12 : x6 = 0
        · have h := itp h zc12
          suffices e : Ev (d + 3, 0, 0, 296, 57, [.val (.ref 64), .val (.int p1), .val (.int p2), .val (.int p3), .val (.int x3), .val a_unk, .val a_unk], [], (126, 120, L, [Y_2, T, H, H2, RV, RU, ST, NS, I0, I1, I2, BO, FI, RG, GU, PU, MA, MN, MS, OT, SC], [192, 256, 384, 320, w, r5, 576, 640, 704], Lg)) o from ev_t (c := x6 = 0) _ _ 1  zc12 e (fun n => Eq.refl _)
          obtain ⟨BO_8, zh13, h⟩ := bnd h
          have zh13 : f_Y_lookNow H NS BO = some BO_8 := zh13
          have ze14 := R_f_Y_lookNow_1 (d + 0) Y_2 T H H2 RV RU ST NS I0 I1 I2 BO FI RG GU PU MA MN MS OT SC w r5 L Lg zh13
          suffices e : Ev (d + 3, 0, 0, 296, 61, [.val (.ref 64), .val (.int p1), .val (.int p2), .val (.int p3), .val (.int x3), .val a_unk, .val a_unk], [.ref 768], (126, 120, L, [Y_2, T, H, H2, RV, RU, ST, NS, I0, I1, I2, BO_8, FI, RG, GU, PU, MA, MN, MS, OT, SC], [192, 256, 384, 320, w, 192, 576, 640, 704], Lg)) o from ev_call (fun v μ => (d + 3, 0, 0, 296, 61, [.val (.ref 64), .val (.int p1), .val (.int p2), .val (.int p3), .val (.int x3), .val a_unk, .val a_unk], v.toList ++ [], μ)) 2 ze14 e (fun n => Eq.refl _)
          obtain ⟨x9, zh15, h⟩ := bnd h
          have zh15 : f_Board_clashes H BO_8 p1 x3 = some x9 := zh15
          have ze16 := R_f_Board_clashes_0 (d + 0) Y_2 T H H2 RV RU ST NS I0 I1 I2 BO_8 FI RG GU PU MA MN MS OT SC 192 256 384 320 w 576 640 704 L Lg p1 x3 zh15
          suffices e : Ev (d + 3, 0, 0, 296, 71, [.val (.ref 64), .val (.int p1), .val (.int p2), .val (.int p3), .val (.int x3), .val (.ref 768), .val a_unk], [.int x9], (126, 120, L, [Y_2, T, H, H2, RV, RU, ST, NS, I0, I1, I2, BO_8, FI, RG, GU, PU, MA, MN, MS, OT, SC], [192, 256, 384, 320, w, 192, 576, 640, 704], Lg)) o from ev_call (fun v μ => (d + 3, 0, 0, 296, 71, [.val (.ref 64), .val (.int p1), .val (.int p2), .val (.int p3), .val (.int x3), .val (.ref 768), .val a_unk], v.toList ++ [], μ)) 5 ze16 e (fun n => Eq.refl _)
          by_cases zc17 : x9 = 0
          · have h := itp h zc17
            suffices e : Ev (d + 3, 0, 0, 296, 82, [.val (.ref 64), .val (.int p1), .val (.int p2), .val (.int p3), .val (.int x3), .val (.ref 768), .val (.int x9)], [], (126, 120, L, [Y_2, T, H, H2, RV, RU, ST, NS, I0, I1, I2, BO_8, FI, RG, GU, PU, MA, MN, MS, OT, SC], [192, 256, 384, 320, w, 192, 576, 640, 704], Lg)) o from ev_t (c := x9 = 0) _ _ 3  zc17 e (fun n => Eq.refl _)
            obtain ⟨j10, zh18, h⟩ := bnd h
            have zh18 : ixx 10 p1 = some j10 := zh18
            suffices e : Ev (d + 3, 0, 0, 296, 91, [.val (.ref 64), .val (.int p1), .val (.int p2), .val (.int p3), .val (.int x3), .val (.ref 768), .val (.int x9)], [], (126, 120, L, [Y_2, T, H, H2, RV, RU, ST, NS, I0, I1, I2, (u2 BO_8 1 j10 x3), FI, RG, GU, PU, MA, MN, MS, OT, SC], [192, 256, 384, 320, w, 192, 576, 640, 704], Lg)) o from ev_opt (fun j10 => (d + 3, 0, 0, 296, 91, [.val (.ref 64), .val (.int p1), .val (.int p2), .val (.int p3), .val (.int x3), .val (.ref 768), .val (.int x9)], [], (126, 120, L, [Y_2, T, H, H2, RV, RU, ST, NS, I0, I1, I2, (u2 BO_8 1 j10 x3), FI, RG, GU, PU, MA, MN, MS, OT, SC], [192, 256, 384, 320, w, 192, 576, 640, 704], Lg))) 5 zh18 e (fun n => Eq.refl _)
            obtain ⟨BO_11, zh19, h⟩ := bnd h
            have zh19 : f_Board_countMoved H (u2 BO_8 1 j10 x3) (NS 1) = some BO_11 := zh19
            have ze20 := R_f_Board_countMoved_0 (d + 2) Y_2 T H H2 RV RU ST NS I0 I1 I2 (u2 BO_8 1 j10 x3) FI RG GU PU MA MN MS OT SC 192 256 384 320 w 576 640 704 L Lg zh19
            suffices e : Ev (d + 3, 0, 0, 296, 103, [.val (.ref 64), .val (.int p1), .val (.int p2), .val (.int p3), .val (.int x3), .val (.ref 768), .val (.int x9)], [], (126, 120, L, [Y_2, T, H, H2, RV, RU, ST, NS, I0, I1, I2, BO_11, FI, RG, GU, PU, MA, MN, MS, OT, SC], [192, 256, 384, 320, w, 192, 576, 640, 704], Lg)) o from ev_call (fun v μ => (d + 3, 0, 0, 296, 103, [.val (.ref 64), .val (.int p1), .val (.int p2), .val (.int p3), .val (.int x3), .val (.ref 768), .val (.int x9)], v.toList ++ [], μ)) 5 ze20 e (fun n => Eq.refl _)
            obtain ⟨NS_12, zh21, h⟩ := bnd h
            have zh21 : f_State_act NS BO_11 = some NS_12 := zh21
            have ze22 := R_f_State_act_0 (d + 1) Y_2 T H H2 RV RU ST NS I0 I1 I2 BO_11 FI RG GU PU MA MN MS OT SC 192 256 384 320 w 192 576 640 704 L Lg zh21
            suffices e : Ev (d + 3, 0, 0, 296, 112, [.val (.ref 64), .val (.int p1), .val (.int p2), .val (.int p3), .val (.int x3), .val (.ref 768), .val (.int x9)], [], (126, 120, L, [Y_2, T, H, H2, RV, RU, ST, NS_12, I0, I1, I2, BO_11, FI, RG, GU, PU, MA, MN, MS, OT, SC], [192, 256, 384, 320, w, 192, 576, 640, 704], Lg)) o from ev_call (fun v μ => (d + 3, 0, 0, 296, 112, [.val (.ref 64), .val (.int p1), .val (.int p2), .val (.int p3), .val (.int x3), .val (.ref 768), .val (.int x9)], v.toList ++ [], μ)) 4 ze22 e (fun n => Eq.refl _)
            have ze23 := Option.some.inj h
            subst ze23
            exact ev_rete 2 ho (fun n => Eq.refl _)
          · have h := itn h zc17
            suffices e : Ev (d + 3, 0, 0, 296, 78, [.val (.ref 64), .val (.int p1), .val (.int p2), .val (.int p3), .val (.int x3), .val (.ref 768), .val (.int x9)], [], (126, 120, L, [Y_2, T, H, H2, RV, RU, ST, NS, I0, I1, I2, BO_8, FI, RG, GU, PU, MA, MN, MS, OT, SC], [192, 256, 384, 320, w, 192, 576, 640, 704], Lg)) o from ev_f (c := x9 = 0) _ _ 3  zc17 e (fun n => Eq.refl _)
            have ze24 := Option.some.inj h
            subst ze24
            exact ev_rete 3 ho (fun n => Eq.refl _)
        · have h := itn h zc12
          suffices e : Ev (d + 3, 0, 0, 296, 54, [.val (.ref 64), .val (.int p1), .val (.int p2), .val (.int p3), .val (.int x3), .val a_unk, .val a_unk], [], (126, 120, L, [Y_2, T, H, H2, RV, RU, ST, NS, I0, I1, I2, BO, FI, RG, GU, PU, MA, MN, MS, OT, SC], [192, 256, 384, 320, w, r5, 576, 640, 704], Lg)) o from ev_f (c := x6 = 0) _ _ 1  zc12 e (fun n => Eq.refl _)
          have ze25 := Option.some.inj h
          subst ze25
          exact ev_rete 2 ho (fun n => Eq.refl _)
      · have h := itn h zc9
        suffices e : Ev (d + 3, 0, 0, 296, 40, [.val (.ref 64), .val (.int p1), .val (.int p2), .val (.int p3), .val (.int x3), .val a_unk, .val a_unk], [], (126, 120, L, [Y_2, T, H, H2, RV, RU, ST, NS, I0, I1, I2, BO, FI, RG, GU, PU, MA, MN, MS, OT, SC], [192, 256, 384, 320, w, r5, 576, 640, 704], Lg)) o from ev_f (c := x5 = 0) _ _ 1  zc9 e (fun n => Eq.refl _)
        have ze26 := Option.some.inj h
        subst ze26
        exact ev_rete 2 ho (fun n => Eq.refl _)
    · have h := itn h zc6
      suffices e : Ev (d + 3, 0, 0, 296, 28, [.val (.ref 64), .val (.int p1), .val (.int p2), .val (.int p3), .val (.int x3), .val a_unk, .val a_unk], [], (126, 120, L, [Y_2, T, H, H2, RV, RU, ST, NS, I0, I1, I2, BO, FI, RG, GU, PU, MA, MN, MS, OT, SC], [192, 256, 384, 320, w, r5, 576, 640, 704], Lg)) o from ev_f (c := x4 ≠ x3) _ _ 2  zc6 e (fun n => Eq.refl _)
      have ze27 := Option.some.inj h
      subst ze27
      exact ev_rete 2 ho (fun n => Eq.refl _)
  | succ q1 =>
    have h := itn h (Nat.succ_ne_zero q1)
    have ze28 := Option.some.inj h
    subst ze28
    subst ho
    exact ev_thr (fun v μ => (d + 3, 0, 0, 296, 7, [.val (.ref 64), .val (.int p1), .val (.int p2), .val (.int p3), .val a_unk, .val a_unk, .val a_unk], v.toList ++ [], μ)) 5 ze2 (fun n => Eq.refl _) (fun n => rfl)
set_option maxRecDepth 1000000 in
set_option maxHeartbeats 4000000 in
theorem R_f_Board_countMoved_1 (d : Nat) (Y T H2 H RA RB ST NS I0 I1 I2 BO FI RG GU PU MA MN MS OT SC : Nat → Nat → Int32) (r0 r1 r2 r3 w r6 r7 r8 : Nat) (L : Nat) (Lg : Int64) {r : (Nat → Nat → Int32)} (h : f_Board_countMoved H BO (NS 1) = some r) : Ev (d + 0, 0, 0, 158, 0, [.val (.ref 768), .val (.ref 513), .val a_unk], [], (126, 120, L, [Y, T, H2, H, RA, RB, ST, NS, I0, I1, I2, BO, FI, RG, GU, PU, MA, MN, MS, OT, SC], [r0, r1, r2, r3, w, 256, r6, r7, r8], Lg)) ((0, none, (126, 120, L, [Y, T, H2, H, RA, RB, ST, NS, I0, I1, I2, r, FI, RG, GU, PU, MA, MN, MS, OT, SC], [r0, r1, r2, r3, w, 256, r6, r7, r8], Lg)) : AOut) := by
  suffices key : ∀ o : AOut, ((0, none, (126, 120, L, [Y, T, H2, H, RA, RB, ST, NS, I0, I1, I2, r, FI, RG, GU, PU, MA, MN, MS, OT, SC], [r0, r1, r2, r3, w, 256, r6, r7, r8], Lg)) : AOut) = o → Ev (d + 0, 0, 0, 158, 0, [.val (.ref 768), .val (.ref 513), .val a_unk], [], (126, 120, L, [Y, T, H2, H, RA, RB, ST, NS, I0, I1, I2, BO, FI, RG, GU, PU, MA, MN, MS, OT, SC], [r0, r1, r2, r3, w, 256, r6, r7, r8], Lg)) o from key _ rfl
  intro o ho
  obtain ⟨BO_8, zh2, h⟩ := bnd h
  suffices e : Ev (d + 0, 0, 0, 158, 2, [.val (.ref 768), .val (.ref 513), .val (.int 0)], [], (126, 120, L, [Y, T, H2, H, RA, RB, ST, NS, I0, I1, I2, BO, FI, RG, GU, PU, MA, MN, MS, OT, SC], [r0, r1, r2, r3, w, 256, r6, r7, r8], Lg)) o from ev_b 2 e (fun n => Eq.refl _)
  refine ev_loop (δ := Unit) (fun a j => (d + 0, 0, 0, 158, 2, [.val (.ref 768), .val (.ref 513), .val (.int a.1)], [], (126, 120, L, [Y, T, H2, H, RA, RB, ST, NS, I0, I1, I2, a.2, FI, RG, GU, PU, MA, MN, MS, OT, SC], [r0, r1, r2, r3, w, 256, r6, r7, r8], Lg))) (fun b => ∀ s7 : Value, Ev (d + 0, 0, 0, 158, 41, [.val (.ref 768), .val (.ref 513), .val s7], [], (126, 120, L, [Y, T, H2, H, RA, RB, ST, NS, I0, I1, I2, b, FI, RG, GU, PU, MA, MN, MS, OT, SC], [r0, r1, r2, r3, w, 256, r6, r7, r8], Lg)) o) ?_ a_F (0, BO) BO_8 zh2 ?_ ()
  · rintro ⟨v1, BO_2⟩ zr6 zh5 zi3 zx4 ⟨⟩
    have zh5 : f_Board_countMoved_l2 H (NS 1) v1 BO_2 = some zr6 := zh5
    suffices e : Ev (d + 0, 0, 0, 158, 7, [.val (.ref 768), .val (.ref 513), .val (.int v1)], [.ref 256, .int v1], (126, 120, L, [Y, T, H2, H, RA, RB, ST, NS, I0, I1, I2, BO_2, FI, RG, GU, PU, MA, MN, MS, OT, SC], [r0, r1, r2, r3, w, 256, r6, r7, r8], Lg)) o from ev_b 3 e (fun n => Eq.refl _)
    by_cases zc7 : (H 0 3) ≤ v1
    · have zh5 := itp zh5 zc7
      suffices e : Ev (d + 0, 0, 0, 158, 41, [.val (.ref 768), .val (.ref 513), .val (.int v1)], [], (126, 120, L, [Y, T, H2, H, RA, RB, ST, NS, I0, I1, I2, BO_2, FI, RG, GU, PU, MA, MN, MS, OT, SC], [r0, r1, r2, r3, w, 256, r6, r7, r8], Lg)) o from ev_t (c := (H 0 3) ≤ v1) _ _ 2  zc7 e (fun n => Eq.refl _)
      exact ev_b 0 (zx4 _ (Option.some.inj zh5).symm (.int v1)) (fun n => Eq.refl _)
    · have zh5 := itn zh5 zc7
      suffices e : Ev (d + 0, 0, 0, 158, 13, [.val (.ref 768), .val (.ref 513), .val (.int v1)], [], (126, 120, L, [Y, T, H2, H, RA, RB, ST, NS, I0, I1, I2, BO_2, FI, RG, GU, PU, MA, MN, MS, OT, SC], [r0, r1, r2, r3, w, 256, r6, r7, r8], Lg)) o from ev_f (c := (H 0 3) ≤ v1) _ _ 2  zc7 e (fun n => Eq.refl _)
      obtain ⟨x3, zh8, zh5⟩ := bnd zh5
      have zh8 : rdx (BO_2 1) 10 v1 = some x3 := zh8
      suffices e : Ev (d + 0, 0, 0, 158, 19, [.val (.ref 768), .val (.ref 513), .val (.int v1)], [.int x3], (126, 120, L, [Y, T, H2, H, RA, RB, ST, NS, I0, I1, I2, BO_2, FI, RG, GU, PU, MA, MN, MS, OT, SC], [r0, r1, r2, r3, w, 256, r6, r7, r8], Lg)) o from ev_opt (fun x3 => (d + 0, 0, 0, 158, 19, [.val (.ref 768), .val (.ref 513), .val (.int v1)], [.int x3], (126, 120, L, [Y, T, H2, H, RA, RB, ST, NS, I0, I1, I2, BO_2, FI, RG, GU, PU, MA, MN, MS, OT, SC], [r0, r1, r2, r3, w, 256, r6, r7, r8], Lg))) 4 zh8 e (fun n => Eq.refl _)
      obtain ⟨x4, zh9, zh5⟩ := bnd zh5
      have zh9 : rdx (NS 1) 10 v1 = some x4 := zh9
      suffices e : Ev (d + 0, 0, 0, 158, 22, [.val (.ref 768), .val (.ref 513), .val (.int v1)], [.int x4, .int x3], (126, 120, L, [Y, T, H2, H, RA, RB, ST, NS, I0, I1, I2, BO_2, FI, RG, GU, PU, MA, MN, MS, OT, SC], [r0, r1, r2, r3, w, 256, r6, r7, r8], Lg)) o from ev_opt (fun x4 => (d + 0, 0, 0, 158, 22, [.val (.ref 768), .val (.ref 513), .val (.int v1)], [.int x4, .int x3], (126, 120, L, [Y, T, H2, H, RA, RB, ST, NS, I0, I1, I2, BO_2, FI, RG, GU, PU, MA, MN, MS, OT, SC], [r0, r1, r2, r3, w, 256, r6, r7, r8], Lg))) 3 zh9 e (fun n => Eq.refl _)
      by_cases zc10 : x3 = x4
      · have zh5 := itp zh5 zc10
        suffices e : Ev (d + 0, 0, 0, 158, 35, [.val (.ref 768), .val (.ref 513), .val (.int v1)], [], (126, 120, L, [Y, T, H2, H, RA, RB, ST, NS, I0, I1, I2, BO_2, FI, RG, GU, PU, MA, MN, MS, OT, SC], [r0, r1, r2, r3, w, 256, r6, r7, r8], Lg)) o from ev_t (c := x3 = x4) _ _ 1  zc10 e (fun n => Eq.refl _)
        exact ev_b 2 (zi3 _ (Option.some.inj zh5).symm ()) (fun n => Eq.refl _)
      · have zh5 := itn zh5 zc10
        suffices e : Ev (d + 0, 0, 0, 158, 25, [.val (.ref 768), .val (.ref 513), .val (.int v1)], [], (126, 120, L, [Y, T, H2, H, RA, RB, ST, NS, I0, I1, I2, BO_2, FI, RG, GU, PU, MA, MN, MS, OT, SC], [r0, r1, r2, r3, w, 256, r6, r7, r8], Lg)) o from ev_f (c := x3 = x4) _ _ 1  zc10 e (fun n => Eq.refl _)
        obtain ⟨x5, zh11, zh5⟩ := bnd zh5
        have zh11 : rdx (BO_2 2) 10 v1 = some x5 := zh11
        suffices e : Ev (d + 0, 0, 0, 158, 32, [.val (.ref 768), .val (.ref 513), .val (.int v1)], [.int x5, .int v1, .ref 770], (126, 120, L, [Y, T, H2, H, RA, RB, ST, NS, I0, I1, I2, BO_2, FI, RG, GU, PU, MA, MN, MS, OT, SC], [r0, r1, r2, r3, w, 256, r6, r7, r8], Lg)) o from ev_opt (fun x5 => (d + 0, 0, 0, 158, 32, [.val (.ref 768), .val (.ref 513), .val (.int v1)], [.int x5, .int v1, .ref 770], (126, 120, L, [Y, T, H2, H, RA, RB, ST, NS, I0, I1, I2, BO_2, FI, RG, GU, PU, MA, MN, MS, OT, SC], [r0, r1, r2, r3, w, 256, r6, r7, r8], Lg))) 5 zh11 e (fun n => Eq.refl _)
        obtain ⟨j6, zh12, zh5⟩ := bnd zh5
        have zh12 : ixx 10 v1 = some j6 := zh12
        suffices e : Ev (d + 0, 0, 0, 158, 35, [.val (.ref 768), .val (.ref 513), .val (.int v1)], [], (126, 120, L, [Y, T, H2, H, RA, RB, ST, NS, I0, I1, I2, (u2 BO_2 2 j6 (x5 + 1)), FI, RG, GU, PU, MA, MN, MS, OT, SC], [r0, r1, r2, r3, w, 256, r6, r7, r8], Lg)) o from ev_opt (fun j6 => (d + 0, 0, 0, 158, 35, [.val (.ref 768), .val (.ref 513), .val (.int v1)], [], (126, 120, L, [Y, T, H2, H, RA, RB, ST, NS, I0, I1, I2, (u2 BO_2 2 j6 (x5 + 1)), FI, RG, GU, PU, MA, MN, MS, OT, SC], [r0, r1, r2, r3, w, 256, r6, r7, r8], Lg))) 3 zh12 e (fun n => Eq.refl _)
        exact ev_b 2 (zi3 _ (Option.some.inj zh5).symm ()) (fun n => Eq.refl _)
  · skip
    intro s7
    have ze13 := Option.some.inj h
    subst ze13
    exact ev_rete 1 ho (fun n => Eq.refl _)
set_option maxRecDepth 1000000 in
set_option maxHeartbeats 4000000 in
theorem R_f_Y_move_2 (d : Nat) (Y T H2 H RU RV ST NS I0 I1 I2 BO FI RG GU PU MA MN MS OT SC : Nat → Nat → Int32) (w r5 : Nat) (L : Nat) (Lg : Int64) (p1 : Int32) (p2 : Int32) (p3 : Int32) {r : Nat × Int32 × (Nat → Nat → Int32) × (Nat → Nat → Int32) × (Nat → Nat → Int32) × Nat} (h : f_Y_move Y H NS BO 256 r5 p1 p2 p3 = some r) : Ev (d + 3, 3, 24, 296, 0, [.val (.ref 64), .val (.int p1), .val (.int p2), .val (.int p3), .val a_unk, .val a_unk, .val a_unk], [], (126, 120, L, [Y, T, H2, H, RU, RV, ST, NS, I0, I1, I2, BO, FI, RG, GU, PU, MA, MN, MS, OT, SC], [256, 192, 320, 384, w, r5, 576, 640, 704], Lg)) ((r.1, a_ov r.1 (.int r.2.1), (126, 120, L, [r.2.2.1, T, H2, H, RU, RV, ST, r.2.2.2.1, I0, I1, I2, r.2.2.2.2.1, FI, RG, GU, PU, MA, MN, MS, OT, SC], [256, 192, 320, 384, w, r.2.2.2.2.2, 576, 640, 704], Lg)) : AOut) := by
  suffices key : ∀ o : AOut, ((r.1, a_ov r.1 (.int r.2.1), (126, 120, L, [r.2.2.1, T, H2, H, RU, RV, ST, r.2.2.2.1, I0, I1, I2, r.2.2.2.2.1, FI, RG, GU, PU, MA, MN, MS, OT, SC], [256, 192, 320, 384, w, r.2.2.2.2.2, 576, 640, 704], Lg)) : AOut) = o → Ev (d + 3, 3, 24, 296, 0, [.val (.ref 64), .val (.int p1), .val (.int p2), .val (.int p3), .val a_unk, .val a_unk, .val a_unk], [], (126, 120, L, [Y, T, H2, H, RU, RV, ST, NS, I0, I1, I2, BO, FI, RG, GU, PU, MA, MN, MS, OT, SC], [256, 192, 320, 384, w, r5, 576, 640, 704], Lg)) o from key _ rfl
  intro o ho
  obtain ⟨⟨q1, Y_2⟩, zh1, h⟩ := bnd h
  have zh1 : f_Y_needPlace Y H p1 p2 p3 = some (q1, Y_2) := zh1
  have ze2 := R_f_Y_needPlace_2 (d + 0) Y T H2 H RU RV ST NS I0 I1 I2 BO FI RG GU PU MA MN MS OT SC w r5 L Lg p1 p2 p3 zh1
  cases q1 with
  | zero =>
    have h := itp h rfl
    suffices e : Ev (d + 3, 0, 0, 296, 7, [.val (.ref 64), .val (.int p1), .val (.int p2), .val (.int p3), .val a_unk, .val a_unk, .val a_unk], [], (126, 120, L, [Y_2, T, H2, H, RU, RV, ST, NS, I0, I1, I2, BO, FI, RG, GU, PU, MA, MN, MS, OT, SC], [256, 192, 320, 384, w, r5, 576, 640, 704], Lg)) o from ev_call (fun v μ => (d + 3, 0, 0, 296, 7, [.val (.ref 64), .val (.int p1), .val (.int p2), .val (.int p3), .val a_unk, .val a_unk, .val a_unk], v.toList ++ [], μ)) 5 ze2 e (fun n => Eq.refl _)
    obtain ⟨x3, zh3, h⟩ := bnd h
    have zh3 : f_Y_placeOf p2 p3 = some x3 := zh3
    have ze4 := R_f_Y_placeOf_0 (d + 2) Y_2 T H2 H RU RV ST NS I0 I1 I2 BO FI RG GU PU MA MN MS OT SC 256 192 320 384 w r5 576 640 704 L Lg p2 p3 zh3
    suffices e : Ev (d + 3, 0, 0, 296, 12, [.val (.ref 64), .val (.int p1), .val (.int p2), .val (.int p3), .val a_unk, .val a_unk, .val a_unk], [.int x3], (126, 120, L, [Y_2, T, H2, H, RU, RV, ST, NS, I0, I1, I2, BO, FI, RG, GU, PU, MA, MN, MS, OT, SC], [256, 192, 320, 384, w, r5, 576, 640, 704], Lg)) o from ev_call (fun v μ => (d + 3, 0, 0, 296, 12, [.val (.ref 64), .val (.int p1), .val (.int p2), .val (.int p3), .val a_unk, .val a_unk, .val a_unk], v.toList ++ [], μ)) 3 ze4 e (fun n => Eq.refl _)
    obtain ⟨x4, zh5, h⟩ := bnd h
    have zh5 : rdx (NS 1) 10 p1 = some x4 := zh5
    suffices e : Ev (d + 3, 0, 0, 296, 23, [.val (.ref 64), .val (.int p1), .val (.int p2), .val (.int p3), .val (.int x3), .val a_unk, .val a_unk], [.int x4], (126, 120, L, [Y_2, T, H2, H, RU, RV, ST, NS, I0, I1, I2, BO, FI, RG, GU, PU, MA, MN, MS, OT, SC], [256, 192, 320, 384, w, r5, 576, 640, 704], Lg)) o from ev_opt (fun x4 => (d + 3, 0, 0, 296, 23, [.val (.ref 64), .val (.int p1), .val (.int p2), .val (.int p3), .val (.int x3), .val a_unk, .val a_unk], [.int x4], (126, 120, L, [Y_2, T, H2, H, RU, RV, ST, NS, I0, I1, I2, BO, FI, RG, GU, PU, MA, MN, MS, OT, SC], [256, 192, 320, 384, w, r5, 576, 640, 704], Lg))) 6 zh5 e (fun n => Eq.refl _)
    by_cases zc6 : x4 ≠ x3
    · have h := itp h zc6
      suffices e : Ev (d + 3, 0, 0, 296, 30, [.val (.ref 64), .val (.int p1), .val (.int p2), .val (.int p3), .val (.int x3), .val a_unk, .val a_unk], [], (126, 120, L, [Y_2, T, H2, H, RU, RV, ST, NS, I0, I1, I2, BO, FI, RG, GU, PU, MA, MN, MS, OT, SC], [256, 192, 320, 384, w, r5, 576, 640, 704], Lg)) o from ev_t (c := x4 ≠ x3) _ _ 2  zc6 e (fun n => Eq.refl _)
      obtain ⟨x5, zh7, h⟩ := bnd h
      have zh7 : f_State_isFull NS = some x5 := zh7
      have ze8 := R_f_State_isFull_0 (d + 2) Y_2 T H2 H RU RV ST NS I0 I1 I2 BO FI RG GU PU MA MN MS OT SC 256 192 320 384 w r5 576 640 704 L Lg zh7
      suffices e : Ev (d + 3, 0, 0, 296, 37, [.val (.ref 64), .val (.int p1), .val (.int p2), .val (.int p3), .val (.int x3), .val a_unk, .val a_unk], [.int x5], (126, 120, L, [Y_2, T, H2, H, RU, RV, ST, NS, I0, I1, I2, BO, FI, RG, GU, PU, MA, MN, MS, OT, SC], [256, 192, 320, 384, w, r5, 576, 640, 704], Lg)) o from ev_call (fun v μ => (d + 3, 0, 0, 296, 37, [.val (.ref 64), .val (.int p1), .val (.int p2), .val (.int p3), .val (.int x3), .val a_unk, .val a_unk], v.toList ++ [], μ)) 3 ze8 e (fun n => Eq.refl _)
      by_cases zc9 : x5 = 0
      · have h := itp h zc9
        suffices e : Ev (d + 3, 0, 0, 296, 43, [.val (.ref 64), .val (.int p1), .val (.int p2), .val (.int p3), .val (.int x3), .val a_unk, .val a_unk], [], (126, 120, L, [Y_2, T, H2, H, RU, RV, ST, NS, I0, I1, I2, BO, FI, RG, GU, PU, MA, MN, MS, OT, SC], [256, 192, 320, 384, w, r5, 576, 640, 704], Lg)) o from ev_t (c := x5 = 0) _ _ 1  zc9 e (fun n => Eq.refl _)
        suffices e : Ev (d + 3, 0, 0, 296, 47, [.val (.ref 64), .val (.int p1), .val (.int p2), .val (.int p3), .val (.int x3), .val a_unk, .val a_unk], [.ref 256], (126, 120, L, [Y_2, T, H2, H, RU, RV, ST, NS, I0, I1, I2, BO, FI, RG, GU, PU, MA, MN, MS, OT, SC], [256, 192, 320, 384, w, r5, 576, 640, 704], Lg)) o from ev_b 2 e (fun n => Eq.refl _)
        obtain ⟨x6, zh10, h⟩ := bnd h
        have zh10 : f_House_isFixed H p1 = some x6 := zh10
        have ze11 := R_f_House_isFixed_1 (d + 2) Y_2 T H2 H RU RV ST NS I0 I1 I2 BO FI RG GU PU MA MN MS OT SC 256 192 320 384 w r5 576 640 704 L Lg p1 zh10
        suffices e : Ev (d + 3, 0, 0, 296, 51, [.val (.ref 64), .val (.int p1), .val (.int p2), .val (.int p3), .val (.int x3), .val a_unk, .val a_unk], [.int x6], (126, 120, L, [Y_2, T, H2, H, RU, RV, ST, NS, I0, I1, I2, BO, FI, RG, GU, PU, MA, MN, MS, OT, SC], [256, 192, 320, 384, w, r5, 576, 640, 704], Lg)) o from ev_call (fun v μ => (d + 3, 0, 0, 296, 51, [.val (.ref 64), .val (.int p1), .val (.int p2), .val (.int p3), .val (.int x3), .val a_unk, .val a_unk], v.toList ++ [], μ)) 2 ze11 e (fun n => Eq.refl _)
        by_cases zc12 : x6 = 0
        · have h := itp h zc12
          suffices e : Ev (d + 3, 0, 0, 296, 57, [.val (.ref 64), .val (.int p1), .val (.int p2), .val (.int p3), .val (.int x3), .val a_unk, .val a_unk], [], (126, 120, L, [Y_2, T, H2, H, RU, RV, ST, NS, I0, I1, I2, BO, FI, RG, GU, PU, MA, MN, MS, OT, SC], [256, 192, 320, 384, w, r5, 576, 640, 704], Lg)) o from ev_t (c := x6 = 0) _ _ 1  zc12 e (fun n => Eq.refl _)
          obtain ⟨BO_8, zh13, h⟩ := bnd h
          have zh13 : f_Y_lookNow H NS BO = some BO_8 := zh13
          have ze14 := R_f_Y_lookNow_2 (d + 0) Y_2 T H2 H RU RV ST NS I0 I1 I2 BO FI RG GU PU MA MN MS OT SC w r5 L Lg zh13
          suffices e : Ev (d + 3, 0, 0, 296, 61, [.val (.ref 64), .val (.int p1), .val (.int p2), .val (.int p3), .val (.int x3), .val a_unk, .val a_unk], [.ref 768], (126, 120, L, [Y_2, T, H2, H, RU, RV, ST, NS, I0, I1, I2, BO_8, FI, RG, GU, PU, MA, MN, MS, OT, SC], [256, 192, 320, 384, w, 256, 576, 640, 704], Lg)) o from ev_call (fun v μ => (d + 3, 0, 0, 296, 61, [.val (.ref 64), .val (.int p1), .val (.int p2), .val (.int p3), .val (.int x3), .val a_unk, .val a_unk], v.toList ++ [], μ)) 2 ze14 e (fun n => Eq.refl _)
          obtain ⟨x9, zh15, h⟩ := bnd h
          have zh15 : f_Board_clashes H BO_8 p1 x3 = some x9 := zh15
          have ze16 := R_f_Board_clashes_1 (d + 0) Y_2 T H2 H RU RV ST NS I0 I1 I2 BO_8 FI RG GU PU MA MN MS OT SC 256 192 320 384 w 576 640 704 L Lg p1 x3 zh15
          suffices e : Ev (d + 3, 0, 0, 296, 71, [.val (.ref 64), .val (.int p1), .val (.int p2), .val (.int p3), .val (.int x3), .val (.ref 768), .val a_unk], [.int x9], (126, 120, L, [Y_2, T, H2, H, RU, RV, ST, NS, I0, I1, I2, BO_8, FI, RG, GU, PU, MA, MN, MS, OT, SC], [256, 192, 320, 384, w, 256, 576, 640, 704], Lg)) o from ev_call (fun v μ => (d + 3, 0, 0, 296, 71, [.val (.ref 64), .val (.int p1), .val (.int p2), .val (.int p3), .val (.int x3), .val (.ref 768), .val a_unk], v.toList ++ [], μ)) 5 ze16 e (fun n => Eq.refl _)
          by_cases zc17 : x9 = 0
          · have h := itp h zc17
            suffices e : Ev (d + 3, 0, 0, 296, 82, [.val (.ref 64), .val (.int p1), .val (.int p2), .val (.int p3), .val (.int x3), .val (.ref 768), .val (.int x9)], [], (126, 120, L, [Y_2, T, H2, H, RU, RV, ST, NS, I0, I1, I2, BO_8, FI, RG, GU, PU, MA, MN, MS, OT, SC], [256, 192, 320, 384, w, 256, 576, 640, 704], Lg)) o from ev_t (c := x9 = 0) _ _ 3  zc17 e (fun n => Eq.refl _)
            obtain ⟨j10, zh18, h⟩ := bnd h
            have zh18 : ixx 10 p1 = some j10 := zh18
            suffices e : Ev (d + 3, 0, 0, 296, 91, [.val (.ref 64), .val (.int p1), .val (.int p2), .val (.int p3), .val (.int x3), .val (.ref 768), .val (.int x9)], [], (126, 120, L, [Y_2, T, H2, H, RU, RV, ST, NS, I0, I1, I2, (u2 BO_8 1 j10 x3), FI, RG, GU, PU, MA, MN, MS, OT, SC], [256, 192, 320, 384, w, 256, 576, 640, 704], Lg)) o from ev_opt (fun j10 => (d + 3, 0, 0, 296, 91, [.val (.ref 64), .val (.int p1), .val (.int p2), .val (.int p3), .val (.int x3), .val (.ref 768), .val (.int x9)], [], (126, 120, L, [Y_2, T, H2, H, RU, RV, ST, NS, I0, I1, I2, (u2 BO_8 1 j10 x3), FI, RG, GU, PU, MA, MN, MS, OT, SC], [256, 192, 320, 384, w, 256, 576, 640, 704], Lg))) 5 zh18 e (fun n => Eq.refl _)
            obtain ⟨BO_11, zh19, h⟩ := bnd h
            have zh19 : f_Board_countMoved H (u2 BO_8 1 j10 x3) (NS 1) = some BO_11 := zh19
            have ze20 := R_f_Board_countMoved_1 (d + 2) Y_2 T H2 H RU RV ST NS I0 I1 I2 (u2 BO_8 1 j10 x3) FI RG GU PU MA MN MS OT SC 256 192 320 384 w 576 640 704 L Lg zh19
            suffices e : Ev (d + 3, 0, 0, 296, 103, [.val (.ref 64), .val (.int p1), .val (.int p2), .val (.int p3), .val (.int x3), .val (.ref 768), .val (.int x9)], [], (126, 120, L, [Y_2, T, H2, H, RU, RV, ST, NS, I0, I1, I2, BO_11, FI, RG, GU, PU, MA, MN, MS, OT, SC], [256, 192, 320, 384, w, 256, 576, 640, 704], Lg)) o from ev_call (fun v μ => (d + 3, 0, 0, 296, 103, [.val (.ref 64), .val (.int p1), .val (.int p2), .val (.int p3), .val (.int x3), .val (.ref 768), .val (.int x9)], v.toList ++ [], μ)) 5 ze20 e (fun n => Eq.refl _)
            obtain ⟨NS_12, zh21, h⟩ := bnd h
            have zh21 : f_State_act NS BO_11 = some NS_12 := zh21
            have ze22 := R_f_State_act_0 (d + 1) Y_2 T H2 H RU RV ST NS I0 I1 I2 BO_11 FI RG GU PU MA MN MS OT SC 256 192 320 384 w 256 576 640 704 L Lg zh21
            suffices e : Ev (d + 3, 0, 0, 296, 112, [.val (.ref 64), .val (.int p1), .val (.int p2), .val (.int p3), .val (.int x3), .val (.ref 768), .val (.int x9)], [], (126, 120, L, [Y_2, T, H2, H, RU, RV, ST, NS_12, I0, I1, I2, BO_11, FI, RG, GU, PU, MA, MN, MS, OT, SC], [256, 192, 320, 384, w, 256, 576, 640, 704], Lg)) o from ev_call (fun v μ => (d + 3, 0, 0, 296, 112, [.val (.ref 64), .val (.int p1), .val (.int p2), .val (.int p3), .val (.int x3), .val (.ref 768), .val (.int x9)], v.toList ++ [], μ)) 4 ze22 e (fun n => Eq.refl _)
            have ze23 := Option.some.inj h
            subst ze23
            exact ev_rete 2 ho (fun n => Eq.refl _)
          · have h := itn h zc17
            suffices e : Ev (d + 3, 0, 0, 296, 78, [.val (.ref 64), .val (.int p1), .val (.int p2), .val (.int p3), .val (.int x3), .val (.ref 768), .val (.int x9)], [], (126, 120, L, [Y_2, T, H2, H, RU, RV, ST, NS, I0, I1, I2, BO_8, FI, RG, GU, PU, MA, MN, MS, OT, SC], [256, 192, 320, 384, w, 256, 576, 640, 704], Lg)) o from ev_f (c := x9 = 0) _ _ 3  zc17 e (fun n => Eq.refl _)
            have ze24 := Option.some.inj h
            subst ze24
            exact ev_rete 3 ho (fun n => Eq.refl _)
        · have h := itn h zc12
          suffices e : Ev (d + 3, 0, 0, 296, 54, [.val (.ref 64), .val (.int p1), .val (.int p2), .val (.int p3), .val (.int x3), .val a_unk, .val a_unk], [], (126, 120, L, [Y_2, T, H2, H, RU, RV, ST, NS, I0, I1, I2, BO, FI, RG, GU, PU, MA, MN, MS, OT, SC], [256, 192, 320, 384, w, r5, 576, 640, 704], Lg)) o from ev_f (c := x6 = 0) _ _ 1  zc12 e (fun n => Eq.refl _)
          have ze25 := Option.some.inj h
          subst ze25
          exact ev_rete 2 ho (fun n => Eq.refl _)
      · have h := itn h zc9
        suffices e : Ev (d + 3, 0, 0, 296, 40, [.val (.ref 64), .val (.int p1), .val (.int p2), .val (.int p3), .val (.int x3), .val a_unk, .val a_unk], [], (126, 120, L, [Y_2, T, H2, H, RU, RV, ST, NS, I0, I1, I2, BO, FI, RG, GU, PU, MA, MN, MS, OT, SC], [256, 192, 320, 384, w, r5, 576, 640, 704], Lg)) o from ev_f (c := x5 = 0) _ _ 1  zc9 e (fun n => Eq.refl _)
        have ze26 := Option.some.inj h
        subst ze26
        exact ev_rete 2 ho (fun n => Eq.refl _)
    · have h := itn h zc6
      suffices e : Ev (d + 3, 0, 0, 296, 28, [.val (.ref 64), .val (.int p1), .val (.int p2), .val (.int p3), .val (.int x3), .val a_unk, .val a_unk], [], (126, 120, L, [Y_2, T, H2, H, RU, RV, ST, NS, I0, I1, I2, BO, FI, RG, GU, PU, MA, MN, MS, OT, SC], [256, 192, 320, 384, w, r5, 576, 640, 704], Lg)) o from ev_f (c := x4 ≠ x3) _ _ 2  zc6 e (fun n => Eq.refl _)
      have ze27 := Option.some.inj h
      subst ze27
      exact ev_rete 2 ho (fun n => Eq.refl _)
  | succ q1 =>
    have h := itn h (Nat.succ_ne_zero q1)
    have ze28 := Option.some.inj h
    subst ze28
    subst ho
    exact ev_thr (fun v μ => (d + 3, 0, 0, 296, 7, [.val (.ref 64), .val (.int p1), .val (.int p2), .val (.int p3), .val a_unk, .val a_unk, .val a_unk], v.toList ++ [], μ)) 5 ze2 (fun n => Eq.refl _) (fun n => rfl)
set_option maxRecDepth 1000000 in
set_option maxHeartbeats 4000000 in
theorem R_f_Y_move_3 (d : Nat) (Y T H2 H RV RU ST NS I0 I1 I2 BO FI RG GU PU MA MN MS OT SC : Nat → Nat → Int32) (w r5 : Nat) (L : Nat) (Lg : Int64) (p1 : Int32) (p2 : Int32) (p3 : Int32) {r : Nat × Int32 × (Nat → Nat → Int32) × (Nat → Nat → Int32) × (Nat → Nat → Int32) × Nat} (h : f_Y_move Y H NS BO 256 r5 p1 p2 p3 = some r) : Ev (d + 3, 3, 24, 296, 0, [.val (.ref 64), .val (.int p1), .val (.int p2), .val (.int p3), .val a_unk, .val a_unk, .val a_unk], [], (126, 120, L, [Y, T, H2, H, RV, RU, ST, NS, I0, I1, I2, BO, FI, RG, GU, PU, MA, MN, MS, OT, SC], [256, 192, 384, 320, w, r5, 576, 640, 704], Lg)) ((r.1, a_ov r.1 (.int r.2.1), (126, 120, L, [r.2.2.1, T, H2, H, RV, RU, ST, r.2.2.2.1, I0, I1, I2, r.2.2.2.2.1, FI, RG, GU, PU, MA, MN, MS, OT, SC], [256, 192, 384, 320, w, r.2.2.2.2.2, 576, 640, 704], Lg)) : AOut) := by
  suffices key : ∀ o : AOut, ((r.1, a_ov r.1 (.int r.2.1), (126, 120, L, [r.2.2.1, T, H2, H, RV, RU, ST, r.2.2.2.1, I0, I1, I2, r.2.2.2.2.1, FI, RG, GU, PU, MA, MN, MS, OT, SC], [256, 192, 384, 320, w, r.2.2.2.2.2, 576, 640, 704], Lg)) : AOut) = o → Ev (d + 3, 3, 24, 296, 0, [.val (.ref 64), .val (.int p1), .val (.int p2), .val (.int p3), .val a_unk, .val a_unk, .val a_unk], [], (126, 120, L, [Y, T, H2, H, RV, RU, ST, NS, I0, I1, I2, BO, FI, RG, GU, PU, MA, MN, MS, OT, SC], [256, 192, 384, 320, w, r5, 576, 640, 704], Lg)) o from key _ rfl
  intro o ho
  obtain ⟨⟨q1, Y_2⟩, zh1, h⟩ := bnd h
  have zh1 : f_Y_needPlace Y H p1 p2 p3 = some (q1, Y_2) := zh1
  have ze2 := R_f_Y_needPlace_3 (d + 0) Y T H2 H RV RU ST NS I0 I1 I2 BO FI RG GU PU MA MN MS OT SC w r5 L Lg p1 p2 p3 zh1
  cases q1 with
  | zero =>
    have h := itp h rfl
    suffices e : Ev (d + 3, 0, 0, 296, 7, [.val (.ref 64), .val (.int p1), .val (.int p2), .val (.int p3), .val a_unk, .val a_unk, .val a_unk], [], (126, 120, L, [Y_2, T, H2, H, RV, RU, ST, NS, I0, I1, I2, BO, FI, RG, GU, PU, MA, MN, MS, OT, SC], [256, 192, 384, 320, w, r5, 576, 640, 704], Lg)) o from ev_call (fun v μ => (d + 3, 0, 0, 296, 7, [.val (.ref 64), .val (.int p1), .val (.int p2), .val (.int p3), .val a_unk, .val a_unk, .val a_unk], v.toList ++ [], μ)) 5 ze2 e (fun n => Eq.refl _)
    obtain ⟨x3, zh3, h⟩ := bnd h
    have zh3 : f_Y_placeOf p2 p3 = some x3 := zh3
    have ze4 := R_f_Y_placeOf_0 (d + 2) Y_2 T H2 H RV RU ST NS I0 I1 I2 BO FI RG GU PU MA MN MS OT SC 256 192 384 320 w r5 576 640 704 L Lg p2 p3 zh3
    suffices e : Ev (d + 3, 0, 0, 296, 12, [.val (.ref 64), .val (.int p1), .val (.int p2), .val (.int p3), .val a_unk, .val a_unk, .val a_unk], [.int x3], (126, 120, L, [Y_2, T, H2, H, RV, RU, ST, NS, I0, I1, I2, BO, FI, RG, GU, PU, MA, MN, MS, OT, SC], [256, 192, 384, 320, w, r5, 576, 640, 704], Lg)) o from ev_call (fun v μ => (d + 3, 0, 0, 296, 12, [.val (.ref 64), .val (.int p1), .val (.int p2), .val (.int p3), .val a_unk, .val a_unk, .val a_unk], v.toList ++ [], μ)) 3 ze4 e (fun n => Eq.refl _)
    obtain ⟨x4, zh5, h⟩ := bnd h
    have zh5 : rdx (NS 1) 10 p1 = some x4 := zh5
    suffices e : Ev (d + 3, 0, 0, 296, 23, [.val (.ref 64), .val (.int p1), .val (.int p2), .val (.int p3), .val (.int x3), .val a_unk, .val a_unk], [.int x4], (126, 120, L, [Y_2, T, H2, H, RV, RU, ST, NS, I0, I1, I2, BO, FI, RG, GU, PU, MA, MN, MS, OT, SC], [256, 192, 384, 320, w, r5, 576, 640, 704], Lg)) o from ev_opt (fun x4 => (d + 3, 0, 0, 296, 23, [.val (.ref 64), .val (.int p1), .val (.int p2), .val (.int p3), .val (.int x3), .val a_unk, .val a_unk], [.int x4], (126, 120, L, [Y_2, T, H2, H, RV, RU, ST, NS, I0, I1, I2, BO, FI, RG, GU, PU, MA, MN, MS, OT, SC], [256, 192, 384, 320, w, r5, 576, 640, 704], Lg))) 6 zh5 e (fun n => Eq.refl _)
    by_cases zc6 : x4 ≠ x3
    · have h := itp h zc6
      suffices e : Ev (d + 3, 0, 0, 296, 30, [.val (.ref 64), .val (.int p1), .val (.int p2), .val (.int p3), .val (.int x3), .val a_unk, .val a_unk], [], (126, 120, L, [Y_2, T, H2, H, RV, RU, ST, NS, I0, I1, I2, BO, FI, RG, GU, PU, MA, MN, MS, OT, SC], [256, 192, 384, 320, w, r5, 576, 640, 704], Lg)) o from ev_t (c := x4 ≠ x3) _ _ 2  zc6 e (fun n => Eq.refl _)
      obtain ⟨x5, zh7, h⟩ := bnd h
      have zh7 : f_State_isFull NS = some x5 := zh7
      have ze8 := R_f_State_isFull_0 (d + 2) Y_2 T H2 H RV RU ST NS I0 I1 I2 BO FI RG GU PU MA MN MS OT SC 256 192 384 320 w r5 576 640 704 L Lg zh7
      suffices e : Ev (d + 3, 0, 0, 296, 37, [.val (.ref 64), .val (.int p1), .val (.int p2), .val (.int p3), .val (.int x3), .val a_unk, .val a_unk], [.int x5], (126, 120, L, [Y_2, T, H2, H, RV, RU, ST, NS, I0, I1, I2, BO, FI, RG, GU, PU, MA, MN, MS, OT, SC], [256, 192, 384, 320, w, r5, 576, 640, 704], Lg)) o from ev_call (fun v μ => (d + 3, 0, 0, 296, 37, [.val (.ref 64), .val (.int p1), .val (.int p2), .val (.int p3), .val (.int x3), .val a_unk, .val a_unk], v.toList ++ [], μ)) 3 ze8 e (fun n => Eq.refl _)
      by_cases zc9 : x5 = 0
      · have h := itp h zc9
        suffices e : Ev (d + 3, 0, 0, 296, 43, [.val (.ref 64), .val (.int p1), .val (.int p2), .val (.int p3), .val (.int x3), .val a_unk, .val a_unk], [], (126, 120, L, [Y_2, T, H2, H, RV, RU, ST, NS, I0, I1, I2, BO, FI, RG, GU, PU, MA, MN, MS, OT, SC], [256, 192, 384, 320, w, r5, 576, 640, 704], Lg)) o from ev_t (c := x5 = 0) _ _ 1  zc9 e (fun n => Eq.refl _)
        suffices e : Ev (d + 3, 0, 0, 296, 47, [.val (.ref 64), .val (.int p1), .val (.int p2), .val (.int p3), .val (.int x3), .val a_unk, .val a_unk], [.ref 256], (126, 120, L, [Y_2, T, H2, H, RV, RU, ST, NS, I0, I1, I2, BO, FI, RG, GU, PU, MA, MN, MS, OT, SC], [256, 192, 384, 320, w, r5, 576, 640, 704], Lg)) o from ev_b 2 e (fun n => Eq.refl _)
        obtain ⟨x6, zh10, h⟩ := bnd h
        have zh10 : f_House_isFixed H p1 = some x6 := zh10
        have ze11 := R_f_House_isFixed_1 (d + 2) Y_2 T H2 H RV RU ST NS I0 I1 I2 BO FI RG GU PU MA MN MS OT SC 256 192 384 320 w r5 576 640 704 L Lg p1 zh10
        suffices e : Ev (d + 3, 0, 0, 296, 51, [.val (.ref 64), .val (.int p1), .val (.int p2), .val (.int p3), .val (.int x3), .val a_unk, .val a_unk], [.int x6], (126, 120, L, [Y_2, T, H2, H, RV, RU, ST, NS, I0, I1, I2, BO, FI, RG, GU, PU, MA, MN, MS, OT, SC], [256, 192, 384, 320, w, r5, 576, 640, 704], Lg)) o from ev_call (fun v μ => (d + 3, 0, 0, 296, 51, [.val (.ref 64), .val (.int p1), .val (.int p2), .val (.int p3), .val (.int x3), .val a_unk, .val a_unk], v.toList ++ [], μ)) 2 ze11 e (fun n => Eq.refl _)
        by_cases zc12 : x6 = 0
        · have h := itp h zc12
          suffices e : Ev (d + 3, 0, 0, 296, 57, [.val (.ref 64), .val (.int p1), .val (.int p2), .val (.int p3), .val (.int x3), .val a_unk, .val a_unk], [], (126, 120, L, [Y_2, T, H2, H, RV, RU, ST, NS, I0, I1, I2, BO, FI, RG, GU, PU, MA, MN, MS, OT, SC], [256, 192, 384, 320, w, r5, 576, 640, 704], Lg)) o from ev_t (c := x6 = 0) _ _ 1  zc12 e (fun n => Eq.refl _)
          obtain ⟨BO_8, zh13, h⟩ := bnd h
          have zh13 : f_Y_lookNow H NS BO = some BO_8 := zh13
          have ze14 := R_f_Y_lookNow_3 (d + 0) Y_2 T H2 H RV RU ST NS I0 I1 I2 BO FI RG GU PU MA MN MS OT SC w r5 L Lg zh13
          suffices e : Ev (d + 3, 0, 0, 296, 61, [.val (.ref 64), .val (.int p1), .val (.int p2), .val (.int p3), .val (.int x3), .val a_unk, .val a_unk], [.ref 768], (126, 120, L, [Y_2, T, H2, H, RV, RU, ST, NS, I0, I1, I2, BO_8, FI, RG, GU, PU, MA, MN, MS, OT, SC], [256, 192, 384, 320, w, 256, 576, 640, 704], Lg)) o from ev_call (fun v μ => (d + 3, 0, 0, 296, 61, [.val (.ref 64), .val (.int p1), .val (.int p2), .val (.int p3), .val (.int x3), .val a_unk, .val a_unk], v.toList ++ [], μ)) 2 ze14 e (fun n => Eq.refl _)
          obtain ⟨x9, zh15, h⟩ := bnd h
          have zh15 : f_Board_clashes H BO_8 p1 x3 = some x9 := zh15
          have ze16 := R_f_Board_clashes_1 (d + 0) Y_2 T H2 H RV RU ST NS I0 I1 I2 BO_8 FI RG GU PU MA MN MS OT SC 256 192 384 320 w 576 640 704 L Lg p1 x3 zh15
          suffices e : Ev (d + 3, 0, 0, 296, 71, [.val (.ref 64), .val (.int p1), .val (.int p2), .val (.int p3), .val (.int x3), .val (.ref 768), .val a_unk], [.int x9], (126, 120, L, [Y_2, T, H2, H, RV, RU, ST, NS, I0, I1, I2, BO_8, FI, RG, GU, PU, MA, MN, MS, OT, SC], [256, 192, 384, 320, w, 256, 576, 640, 704], Lg)) o from ev_call (fun v μ => (d + 3, 0, 0, 296, 71, [.val (.ref 64), .val (.int p1), .val (.int p2), .val (.int p3), .val (.int x3), .val (.ref 768), .val a_unk], v.toList ++ [], μ)) 5 ze16 e (fun n => Eq.refl _)
          by_cases zc17 : x9 = 0
          · have h := itp h zc17
            suffices e : Ev (d + 3, 0, 0, 296, 82, [.val (.ref 64), .val (.int p1), .val (.int p2), .val (.int p3), .val (.int x3), .val (.ref 768), .val (.int x9)], [], (126, 120, L, [Y_2, T, H2, H, RV, RU, ST, NS, I0, I1, I2, BO_8, FI, RG, GU, PU, MA, MN, MS, OT, SC], [256, 192, 384, 320, w, 256, 576, 640, 704], Lg)) o from ev_t (c := x9 = 0) _ _ 3  zc17 e (fun n => Eq.refl _)
            obtain ⟨j10, zh18, h⟩ := bnd h
            have zh18 : ixx 10 p1 = some j10 := zh18
            suffices e : Ev (d + 3, 0, 0, 296, 91, [.val (.ref 64), .val (.int p1), .val (.int p2), .val (.int p3), .val (.int x3), .val (.ref 768), .val (.int x9)], [], (126, 120, L, [Y_2, T, H2, H, RV, RU, ST, NS, I0, I1, I2, (u2 BO_8 1 j10 x3), FI, RG, GU, PU, MA, MN, MS, OT, SC], [256, 192, 384, 320, w, 256, 576, 640, 704], Lg)) o from ev_opt (fun j10 => (d + 3, 0, 0, 296, 91, [.val (.ref 64), .val (.int p1), .val (.int p2), .val (.int p3), .val (.int x3), .val (.ref 768), .val (.int x9)], [], (126, 120, L, [Y_2, T, H2, H, RV, RU, ST, NS, I0, I1, I2, (u2 BO_8 1 j10 x3), FI, RG, GU, PU, MA, MN, MS, OT, SC], [256, 192, 384, 320, w, 256, 576, 640, 704], Lg))) 5 zh18 e (fun n => Eq.refl _)
            obtain ⟨BO_11, zh19, h⟩ := bnd h
            have zh19 : f_Board_countMoved H (u2 BO_8 1 j10 x3) (NS 1) = some BO_11 := zh19
            have ze20 := R_f_Board_countMoved_1 (d + 2) Y_2 T H2 H RV RU ST NS I0 I1 I2 (u2 BO_8 1 j10 x3) FI RG GU PU MA MN MS OT SC 256 192 384 320 w 576 640 704 L Lg zh19
            suffices e : Ev (d + 3, 0, 0, 296, 103, [.val (.ref 64), .val (.int p1), .val (.int p2), .val (.int p3), .val (.int x3), .val (.ref 768), .val (.int x9)], [], (126, 120, L, [Y_2, T, H2, H, RV, RU, ST, NS, I0, I1, I2, BO_11, FI, RG, GU, PU, MA, MN, MS, OT, SC], [256, 192, 384, 320, w, 256, 576, 640, 704], Lg)) o from ev_call (fun v μ => (d + 3, 0, 0, 296, 103, [.val (.ref 64), .val (.int p1), .val (.int p2), .val (.int p3), .val (.int x3), .val (.ref 768), .val (.int x9)], v.toList ++ [], μ)) 5 ze20 e (fun n => Eq.refl _)
            obtain ⟨NS_12, zh21, h⟩ := bnd h
            have zh21 : f_State_act NS BO_11 = some NS_12 := zh21
            have ze22 := R_f_State_act_0 (d + 1) Y_2 T H2 H RV RU ST NS I0 I1 I2 BO_11 FI RG GU PU MA MN MS OT SC 256 192 384 320 w 256 576 640 704 L Lg zh21
            suffices e : Ev (d + 3, 0, 0, 296, 112, [.val (.ref 64), .val (.int p1), .val (.int p2), .val (.int p3), .val (.int x3), .val (.ref 768), .val (.int x9)], [], (126, 120, L, [Y_2, T, H2, H, RV, RU, ST, NS_12, I0, I1, I2, BO_11, FI, RG, GU, PU, MA, MN, MS, OT, SC], [256, 192, 384, 320, w, 256, 576, 640, 704], Lg)) o from ev_call (fun v μ => (d + 3, 0, 0, 296, 112, [.val (.ref 64), .val (.int p1), .val (.int p2), .val (.int p3), .val (.int x3), .val (.ref 768), .val (.int x9)], v.toList ++ [], μ)) 4 ze22 e (fun n => Eq.refl _)
            have ze23 := Option.some.inj h
            subst ze23
            exact ev_rete 2 ho (fun n => Eq.refl _)
          · have h := itn h zc17
            suffices e : Ev (d + 3, 0, 0, 296, 78, [.val (.ref 64), .val (.int p1), .val (.int p2), .val (.int p3), .val (.int x3), .val (.ref 768), .val (.int x9)], [], (126, 120, L, [Y_2, T, H2, H, RV, RU, ST, NS, I0, I1, I2, BO_8, FI, RG, GU, PU, MA, MN, MS, OT, SC], [256, 192, 384, 320, w, 256, 576, 640, 704], Lg)) o from ev_f (c := x9 = 0) _ _ 3  zc17 e (fun n => Eq.refl _)
            have ze24 := Option.some.inj h
            subst ze24
            exact ev_rete 3 ho (fun n => Eq.refl _)
        · have h := itn h zc12
          suffices e : Ev (d + 3, 0, 0, 296, 54, [.val (.ref 64), .val (.int p1), .val (.int p2), .val (.int p3), .val (.int x3), .val a_unk, .val a_unk], [], (126, 120, L, [Y_2, T, H2, H, RV, RU, ST, NS, I0, I1, I2, BO, FI, RG, GU, PU, MA, MN, MS, OT, SC], [256, 192, 384, 320, w, r5, 576, 640, 704], Lg)) o from ev_f (c := x6 = 0) _ _ 1  zc12 e (fun n => Eq.refl _)
          have ze25 := Option.some.inj h
          subst ze25
          exact ev_rete 2 ho (fun n => Eq.refl _)
      · have h := itn h zc9
        suffices e : Ev (d + 3, 0, 0, 296, 40, [.val (.ref 64), .val (.int p1), .val (.int p2), .val (.int p3), .val (.int x3), .val a_unk, .val a_unk], [], (126, 120, L, [Y_2, T, H2, H, RV, RU, ST, NS, I0, I1, I2, BO, FI, RG, GU, PU, MA, MN, MS, OT, SC], [256, 192, 384, 320, w, r5, 576, 640, 704], Lg)) o from ev_f (c := x5 = 0) _ _ 1  zc9 e (fun n => Eq.refl _)
        have ze26 := Option.some.inj h
        subst ze26
        exact ev_rete 2 ho (fun n => Eq.refl _)
    · have h := itn h zc6
      suffices e : Ev (d + 3, 0, 0, 296, 28, [.val (.ref 64), .val (.int p1), .val (.int p2), .val (.int p3), .val (.int x3), .val a_unk, .val a_unk], [], (126, 120, L, [Y_2, T, H2, H, RV, RU, ST, NS, I0, I1, I2, BO, FI, RG, GU, PU, MA, MN, MS, OT, SC], [256, 192, 384, 320, w, r5, 576, 640, 704], Lg)) o from ev_f (c := x4 ≠ x3) _ _ 2  zc6 e (fun n => Eq.refl _)
      have ze27 := Option.some.inj h
      subst ze27
      exact ev_rete 2 ho (fun n => Eq.refl _)
  | succ q1 =>
    have h := itn h (Nat.succ_ne_zero q1)
    have ze28 := Option.some.inj h
    subst ze28
    subst ho
    exact ev_thr (fun v μ => (d + 3, 0, 0, 296, 7, [.val (.ref 64), .val (.int p1), .val (.int p2), .val (.int p3), .val a_unk, .val a_unk, .val a_unk], v.toList ++ [], μ)) 5 ze2 (fun n => Eq.refl _) (fun n => rfl)
set_option maxRecDepth 1000000 in
set_option maxHeartbeats 4000000 in
theorem R_f_Y_drop_0 (d : Nat) (Y T H H2 RU RV ST NS I0 I1 I2 BO FI RG GU PU MA MN MS OT SC : Nat → Nat → Int32) (w r5 : Nat) (L : Nat) (Lg : Int64) (p1 : Int32) {r : Nat × Int32 × (Nat → Nat → Int32) × (Nat → Nat → Int32) × (Nat → Nat → Int32) × Nat} (h : f_Y_drop Y H NS BO 192 r5 p1 = some r) : Ev (d + 3, 1, 8, 297, 0, [.val (.ref 64), .val (.int p1), .val a_unk], [], (126, 120, L, [Y, T, H, H2, RU, RV, ST, NS, I0, I1, I2, BO, FI, RG, GU, PU, MA, MN, MS, OT, SC], [192, 256, 320, 384, w, r5, 576, 640, 704], Lg)) ((r.1, a_ov r.1 (.int r.2.1), (126, 120, L, [r.2.2.1, T, H, H2, RU, RV, ST, r.2.2.2.1, I0, I1, I2, r.2.2.2.2.1, FI, RG, GU, PU, MA, MN, MS, OT, SC], [192, 256, 320, 384, w, r.2.2.2.2.2, 576, 640, 704], Lg)) : AOut) := by
  suffices key : ∀ o : AOut, ((r.1, a_ov r.1 (.int r.2.1), (126, 120, L, [r.2.2.1, T, H, H2, RU, RV, ST, r.2.2.2.1, I0, I1, I2, r.2.2.2.2.1, FI, RG, GU, PU, MA, MN, MS, OT, SC], [192, 256, 320, 384, w, r.2.2.2.2.2, 576, 640, 704], Lg)) : AOut) = o → Ev (d + 3, 1, 8, 297, 0, [.val (.ref 64), .val (.int p1), .val a_unk], [], (126, 120, L, [Y, T, H, H2, RU, RV, ST, NS, I0, I1, I2, BO, FI, RG, GU, PU, MA, MN, MS, OT, SC], [192, 256, 320, 384, w, r5, 576, 640, 704], Lg)) o from key _ rfl
  intro o ho
  obtain ⟨⟨q1, Y_2⟩, zh1, h⟩ := bnd h
  have zh1 : f_Y_needMeeting Y H p1 = some (q1, Y_2) := zh1
  have ze2 := R_f_Y_needMeeting_0 (d + 1) Y T H H2 RU RV ST NS I0 I1 I2 BO FI RG GU PU MA MN MS OT SC w r5 L Lg p1 zh1
  cases q1 with
  | zero =>
    have h := itp h rfl
    suffices e : Ev (d + 3, 0, 0, 297, 5, [.val (.ref 64), .val (.int p1), .val a_unk], [], (126, 120, L, [Y_2, T, H, H2, RU, RV, ST, NS, I0, I1, I2, BO, FI, RG, GU, PU, MA, MN, MS, OT, SC], [192, 256, 320, 384, w, r5, 576, 640, 704], Lg)) o from ev_call (fun v μ => (d + 3, 0, 0, 297, 5, [.val (.ref 64), .val (.int p1), .val a_unk], v.toList ++ [], μ)) 3 ze2 e (fun n => Eq.refl _)
    obtain ⟨x3, zh3, h⟩ := bnd h
    have zh3 : rdx (NS 1) 10 p1 = some x3 := zh3
    suffices e : Ev (d + 3, 0, 0, 297, 14, [.val (.ref 64), .val (.int p1), .val a_unk], [.int x3], (126, 120, L, [Y_2, T, H, H2, RU, RV, ST, NS, I0, I1, I2, BO, FI, RG, GU, PU, MA, MN, MS, OT, SC], [192, 256, 320, 384, w, r5, 576, 640, 704], Lg)) o from ev_opt (fun x3 => (d + 3, 0, 0, 297, 14, [.val (.ref 64), .val (.int p1), .val a_unk], [.int x3], (126, 120, L, [Y_2, T, H, H2, RU, RV, ST, NS, I0, I1, I2, BO, FI, RG, GU, PU, MA, MN, MS, OT, SC], [192, 256, 320, 384, w, r5, 576, 640, 704], Lg))) 5 zh3 e (fun n => Eq.refl _)
    by_cases zc4 : x3 ≠ (-1)
    · have h := itp h zc4
      suffices e : Ev (d + 3, 0, 0, 297, 20, [.val (.ref 64), .val (.int p1), .val a_unk], [], (126, 120, L, [Y_2, T, H, H2, RU, RV, ST, NS, I0, I1, I2, BO, FI, RG, GU, PU, MA, MN, MS, OT, SC], [192, 256, 320, 384, w, r5, 576, 640, 704], Lg)) o from ev_t (c := x3 ≠ (-1)) _ _ 2  zc4 e (fun n => Eq.refl _)
      obtain ⟨x4, zh5, h⟩ := bnd h
      have zh5 : f_State_isFull NS = some x4 := zh5
      have ze6 := R_f_State_isFull_0 (d + 2) Y_2 T H H2 RU RV ST NS I0 I1 I2 BO FI RG GU PU MA MN MS OT SC 192 256 320 384 w r5 576 640 704 L Lg zh5
      suffices e : Ev (d + 3, 0, 0, 297, 27, [.val (.ref 64), .val (.int p1), .val a_unk], [.int x4], (126, 120, L, [Y_2, T, H, H2, RU, RV, ST, NS, I0, I1, I2, BO, FI, RG, GU, PU, MA, MN, MS, OT, SC], [192, 256, 320, 384, w, r5, 576, 640, 704], Lg)) o from ev_call (fun v μ => (d + 3, 0, 0, 297, 27, [.val (.ref 64), .val (.int p1), .val a_unk], v.toList ++ [], μ)) 3 ze6 e (fun n => Eq.refl _)
      by_cases zc7 : x4 = 0
      · have h := itp h zc7
        suffices e : Ev (d + 3, 0, 0, 297, 33, [.val (.ref 64), .val (.int p1), .val a_unk], [], (126, 120, L, [Y_2, T, H, H2, RU, RV, ST, NS, I0, I1, I2, BO, FI, RG, GU, PU, MA, MN, MS, OT, SC], [192, 256, 320, 384, w, r5, 576, 640, 704], Lg)) o from ev_t (c := x4 = 0) _ _ 1  zc7 e (fun n => Eq.refl _)
        suffices e : Ev (d + 3, 0, 0, 297, 37, [.val (.ref 64), .val (.int p1), .val a_unk], [.ref 192], (126, 120, L, [Y_2, T, H, H2, RU, RV, ST, NS, I0, I1, I2, BO, FI, RG, GU, PU, MA, MN, MS, OT, SC], [192, 256, 320, 384, w, r5, 576, 640, 704], Lg)) o from ev_b 2 e (fun n => Eq.refl _)
        obtain ⟨x5, zh8, h⟩ := bnd h
        have zh8 : f_House_isFixed H p1 = some x5 := zh8
        have ze9 := R_f_House_isFixed_0 (d + 2) Y_2 T H H2 RU RV ST NS I0 I1 I2 BO FI RG GU PU MA MN MS OT SC 192 256 320 384 w r5 576 640 704 L Lg p1 zh8
        suffices e : Ev (d + 3, 0, 0, 297, 41, [.val (.ref 64), .val (.int p1), .val a_unk], [.int x5], (126, 120, L, [Y_2, T, H, H2, RU, RV, ST, NS, I0, I1, I2, BO, FI, RG, GU, PU, MA, MN, MS, OT, SC], [192, 256, 320, 384, w, r5, 576, 640, 704], Lg)) o from ev_call (fun v μ => (d + 3, 0, 0, 297, 41, [.val (.ref 64), .val (.int p1), .val a_unk], v.toList ++ [], μ)) 2 ze9 e (fun n => Eq.refl _)
        by_cases zc10 : x5 = 0
        · have h := itp h zc10
          suffices e : Ev (d + 3, 0, 0, 297, 47, [.val (.ref 64), .val (.int p1), .val a_unk], [], (126, 120, L, [Y_2, T, H, H2, RU, RV, ST, NS, I0, I1, I2, BO, FI, RG, GU, PU, MA, MN, MS, OT, SC], [192, 256, 320, 384, w, r5, 576, 640, 704], Lg)) o from ev_t (c := x5 = 0) _ _ 1  zc10 e (fun n => Eq.refl _)
          obtain ⟨BO_7, zh11, h⟩ := bnd h
          have zh11 : f_Y_lookNow H NS BO = some BO_7 := zh11
          have ze12 := R_f_Y_lookNow_0 (d + 0) Y_2 T H H2 RU RV ST NS I0 I1 I2 BO FI RG GU PU MA MN MS OT SC w r5 L Lg zh11
          suffices e : Ev (d + 3, 0, 0, 297, 51, [.val (.ref 64), .val (.int p1), .val a_unk], [.ref 768], (126, 120, L, [Y_2, T, H, H2, RU, RV, ST, NS, I0, I1, I2, BO_7, FI, RG, GU, PU, MA, MN, MS, OT, SC], [192, 256, 320, 384, w, 192, 576, 640, 704], Lg)) o from ev_call (fun v μ => (d + 3, 0, 0, 297, 51, [.val (.ref 64), .val (.int p1), .val a_unk], v.toList ++ [], μ)) 2 ze12 e (fun n => Eq.refl _)
          obtain ⟨j8, zh13, h⟩ := bnd h
          have zh13 : ixx 10 p1 = some j8 := zh13
          suffices e : Ev (d + 3, 0, 0, 297, 59, [.val (.ref 64), .val (.int p1), .val (.ref 768)], [], (126, 120, L, [Y_2, T, H, H2, RU, RV, ST, NS, I0, I1, I2, (u2 BO_7 1 j8 (-1)), FI, RG, GU, PU, MA, MN, MS, OT, SC], [192, 256, 320, 384, w, 192, 576, 640, 704], Lg)) o from ev_opt (fun j8 => (d + 3, 0, 0, 297, 59, [.val (.ref 64), .val (.int p1), .val (.ref 768)], [], (126, 120, L, [Y_2, T, H, H2, RU, RV, ST, NS, I0, I1, I2, (u2 BO_7 1 j8 (-1)), FI, RG, GU, PU, MA, MN, MS, OT, SC], [192, 256, 320, 384, w, 192, 576, 640, 704], Lg))) 6 zh13 e (fun n => Eq.refl _)
          obtain ⟨NS_9, zh14, h⟩ := bnd h
          have zh14 : f_State_act NS (u2 BO_7 1 j8 (-1)) = some NS_9 := zh14
          have ze15 := R_f_State_act_0 (d + 1) Y_2 T H H2 RU RV ST NS I0 I1 I2 (u2 BO_7 1 j8 (-1)) FI RG GU PU MA MN MS OT SC 192 256 320 384 w 192 576 640 704 L Lg zh14
          suffices e : Ev (d + 3, 0, 0, 297, 67, [.val (.ref 64), .val (.int p1), .val (.ref 768)], [], (126, 120, L, [Y_2, T, H, H2, RU, RV, ST, NS_9, I0, I1, I2, (u2 BO_7 1 j8 (-1)), FI, RG, GU, PU, MA, MN, MS, OT, SC], [192, 256, 320, 384, w, 192, 576, 640, 704], Lg)) o from ev_call (fun v μ => (d + 3, 0, 0, 297, 67, [.val (.ref 64), .val (.int p1), .val (.ref 768)], v.toList ++ [], μ)) 4 ze15 e (fun n => Eq.refl _)
          have ze16 := Option.some.inj h
          subst ze16
          exact ev_rete 2 ho (fun n => Eq.refl _)
        · have h := itn h zc10
          suffices e : Ev (d + 3, 0, 0, 297, 44, [.val (.ref 64), .val (.int p1), .val a_unk], [], (126, 120, L, [Y_2, T, H, H2, RU, RV, ST, NS, I0, I1, I2, BO, FI, RG, GU, PU, MA, MN, MS, OT, SC], [192, 256, 320, 384, w, r5, 576, 640, 704], Lg)) o from ev_f (c := x5 = 0) _ _ 1  zc10 e (fun n => Eq.refl _)
          have ze17 := Option.some.inj h
          subst ze17
          exact ev_rete 2 ho (fun n => Eq.refl _)
      · have h := itn h zc7
        suffices e : Ev (d + 3, 0, 0, 297, 30, [.val (.ref 64), .val (.int p1), .val a_unk], [], (126, 120, L, [Y_2, T, H, H2, RU, RV, ST, NS, I0, I1, I2, BO, FI, RG, GU, PU, MA, MN, MS, OT, SC], [192, 256, 320, 384, w, r5, 576, 640, 704], Lg)) o from ev_f (c := x4 = 0) _ _ 1  zc7 e (fun n => Eq.refl _)
        have ze18 := Option.some.inj h
        subst ze18
        exact ev_rete 2 ho (fun n => Eq.refl _)
    · have h := itn h zc4
      suffices e : Ev (d + 3, 0, 0, 297, 18, [.val (.ref 64), .val (.int p1), .val a_unk], [], (126, 120, L, [Y_2, T, H, H2, RU, RV, ST, NS, I0, I1, I2, BO, FI, RG, GU, PU, MA, MN, MS, OT, SC], [192, 256, 320, 384, w, r5, 576, 640, 704], Lg)) o from ev_f (c := x3 ≠ (-1)) _ _ 2  zc4 e (fun n => Eq.refl _)
      have ze19 := Option.some.inj h
      subst ze19
      exact ev_rete 2 ho (fun n => Eq.refl _)
  | succ q1 =>
    have h := itn h (Nat.succ_ne_zero q1)
    have ze20 := Option.some.inj h
    subst ze20
    subst ho
    exact ev_thr (fun v μ => (d + 3, 0, 0, 297, 5, [.val (.ref 64), .val (.int p1), .val a_unk], v.toList ++ [], μ)) 3 ze2 (fun n => Eq.refl _) (fun n => rfl)
set_option maxRecDepth 1000000 in
set_option maxHeartbeats 4000000 in
theorem R_f_Y_drop_1 (d : Nat) (Y T H H2 RV RU ST NS I0 I1 I2 BO FI RG GU PU MA MN MS OT SC : Nat → Nat → Int32) (w r5 : Nat) (L : Nat) (Lg : Int64) (p1 : Int32) {r : Nat × Int32 × (Nat → Nat → Int32) × (Nat → Nat → Int32) × (Nat → Nat → Int32) × Nat} (h : f_Y_drop Y H NS BO 192 r5 p1 = some r) : Ev (d + 3, 1, 8, 297, 0, [.val (.ref 64), .val (.int p1), .val a_unk], [], (126, 120, L, [Y, T, H, H2, RV, RU, ST, NS, I0, I1, I2, BO, FI, RG, GU, PU, MA, MN, MS, OT, SC], [192, 256, 384, 320, w, r5, 576, 640, 704], Lg)) ((r.1, a_ov r.1 (.int r.2.1), (126, 120, L, [r.2.2.1, T, H, H2, RV, RU, ST, r.2.2.2.1, I0, I1, I2, r.2.2.2.2.1, FI, RG, GU, PU, MA, MN, MS, OT, SC], [192, 256, 384, 320, w, r.2.2.2.2.2, 576, 640, 704], Lg)) : AOut) := by
  suffices key : ∀ o : AOut, ((r.1, a_ov r.1 (.int r.2.1), (126, 120, L, [r.2.2.1, T, H, H2, RV, RU, ST, r.2.2.2.1, I0, I1, I2, r.2.2.2.2.1, FI, RG, GU, PU, MA, MN, MS, OT, SC], [192, 256, 384, 320, w, r.2.2.2.2.2, 576, 640, 704], Lg)) : AOut) = o → Ev (d + 3, 1, 8, 297, 0, [.val (.ref 64), .val (.int p1), .val a_unk], [], (126, 120, L, [Y, T, H, H2, RV, RU, ST, NS, I0, I1, I2, BO, FI, RG, GU, PU, MA, MN, MS, OT, SC], [192, 256, 384, 320, w, r5, 576, 640, 704], Lg)) o from key _ rfl
  intro o ho
  obtain ⟨⟨q1, Y_2⟩, zh1, h⟩ := bnd h
  have zh1 : f_Y_needMeeting Y H p1 = some (q1, Y_2) := zh1
  have ze2 := R_f_Y_needMeeting_1 (d + 1) Y T H H2 RV RU ST NS I0 I1 I2 BO FI RG GU PU MA MN MS OT SC w r5 L Lg p1 zh1
  cases q1 with
  | zero =>
    have h := itp h rfl
    suffices e : Ev (d + 3, 0, 0, 297, 5, [.val (.ref 64), .val (.int p1), .val a_unk], [], (126, 120, L, [Y_2, T, H, H2, RV, RU, ST, NS, I0, I1, I2, BO, FI, RG, GU, PU, MA, MN, MS, OT, SC], [192, 256, 384, 320, w, r5, 576, 640, 704], Lg)) o from ev_call (fun v μ => (d + 3, 0, 0, 297, 5, [.val (.ref 64), .val (.int p1), .val a_unk], v.toList ++ [], μ)) 3 ze2 e (fun n => Eq.refl _)
    obtain ⟨x3, zh3, h⟩ := bnd h
    have zh3 : rdx (NS 1) 10 p1 = some x3 := zh3
    suffices e : Ev (d + 3, 0, 0, 297, 14, [.val (.ref 64), .val (.int p1), .val a_unk], [.int x3], (126, 120, L, [Y_2, T, H, H2, RV, RU, ST, NS, I0, I1, I2, BO, FI, RG, GU, PU, MA, MN, MS, OT, SC], [192, 256, 384, 320, w, r5, 576, 640, 704], Lg)) o from ev_opt (fun x3 => (d + 3, 0, 0, 297, 14, [.val (.ref 64), .val (.int p1), .val a_unk], [.int x3], (126, 120, L, [Y_2, T, H, H2, RV, RU, ST, NS, I0, I1, I2, BO, FI, RG, GU, PU, MA, MN, MS, OT, SC], [192, 256, 384, 320, w, r5, 576, 640, 704], Lg))) 5 zh3 e (fun n => Eq.refl _)
    by_cases zc4 : x3 ≠ (-1)
    · have h := itp h zc4
      suffices e : Ev (d + 3, 0, 0, 297, 20, [.val (.ref 64), .val (.int p1), .val a_unk], [], (126, 120, L, [Y_2, T, H, H2, RV, RU, ST, NS, I0, I1, I2, BO, FI, RG, GU, PU, MA, MN, MS, OT, SC], [192, 256, 384, 320, w, r5, 576, 640, 704], Lg)) o from ev_t (c := x3 ≠ (-1)) _ _ 2  zc4 e (fun n => Eq.refl _)
      obtain ⟨x4, zh5, h⟩ := bnd h
      have zh5 : f_State_isFull NS = some x4 := zh5
      have ze6 := R_f_State_isFull_0 (d + 2) Y_2 T H H2 RV RU ST NS I0 I1 I2 BO FI RG GU PU MA MN MS OT SC 192 256 384 320 w r5 576 640 704 L Lg zh5
      suffices e : Ev (d + 3, 0, 0, 297, 27, [.val (.ref 64), .val (.int p1), .val a_unk], [.int x4], (126, 120, L, [Y_2, T, H, H2, RV, RU, ST, NS, I0, I1, I2, BO, FI, RG, GU, PU, MA, MN, MS, OT, SC], [192, 256, 384, 320, w, r5, 576, 640, 704], Lg)) o from ev_call (fun v μ => (d + 3, 0, 0, 297, 27, [.val (.ref 64), .val (.int p1), .val a_unk], v.toList ++ [], μ)) 3 ze6 e (fun n => Eq.refl _)
      by_cases zc7 : x4 = 0
      · have h := itp h zc7
        suffices e : Ev (d + 3, 0, 0, 297, 33, [.val (.ref 64), .val (.int p1), .val a_unk], [], (126, 120, L, [Y_2, T, H, H2, RV, RU, ST, NS, I0, I1, I2, BO, FI, RG, GU, PU, MA, MN, MS, OT, SC], [192, 256, 384, 320, w, r5, 576, 640, 704], Lg)) o from ev_t (c := x4 = 0) _ _ 1  zc7 e (fun n => Eq.refl _)
        suffices e : Ev (d + 3, 0, 0, 297, 37, [.val (.ref 64), .val (.int p1), .val a_unk], [.ref 192], (126, 120, L, [Y_2, T, H, H2, RV, RU, ST, NS, I0, I1, I2, BO, FI, RG, GU, PU, MA, MN, MS, OT, SC], [192, 256, 384, 320, w, r5, 576, 640, 704], Lg)) o from ev_b 2 e (fun n => Eq.refl _)
        obtain ⟨x5, zh8, h⟩ := bnd h
        have zh8 : f_House_isFixed H p1 = some x5 := zh8
        have ze9 := R_f_House_isFixed_0 (d + 2) Y_2 T H H2 RV RU ST NS I0 I1 I2 BO FI RG GU PU MA MN MS OT SC 192 256 384 320 w r5 576 640 704 L Lg p1 zh8
        suffices e : Ev (d + 3, 0, 0, 297, 41, [.val (.ref 64), .val (.int p1), .val a_unk], [.int x5], (126, 120, L, [Y_2, T, H, H2, RV, RU, ST, NS, I0, I1, I2, BO, FI, RG, GU, PU, MA, MN, MS, OT, SC], [192, 256, 384, 320, w, r5, 576, 640, 704], Lg)) o from ev_call (fun v μ => (d + 3, 0, 0, 297, 41, [.val (.ref 64), .val (.int p1), .val a_unk], v.toList ++ [], μ)) 2 ze9 e (fun n => Eq.refl _)
        by_cases zc10 : x5 = 0
        · have h := itp h zc10
          suffices e : Ev (d + 3, 0, 0, 297, 47, [.val (.ref 64), .val (.int p1), .val a_unk], [], (126, 120, L, [Y_2, T, H, H2, RV, RU, ST, NS, I0, I1, I2, BO, FI, RG, GU, PU, MA, MN, MS, OT, SC], [192, 256, 384, 320, w, r5, 576, 640, 704], Lg)) o from ev_t (c := x5 = 0) _ _ 1  zc10 e (fun n => Eq.refl _)
          obtain ⟨BO_7, zh11, h⟩ := bnd h
          have zh11 : f_Y_lookNow H NS BO = some BO_7 := zh11
          have ze12 := R_f_Y_lookNow_1 (d + 0) Y_2 T H H2 RV RU ST NS I0 I1 I2 BO FI RG GU PU MA MN MS OT SC w r5 L Lg zh11
          suffices e : Ev (d + 3, 0, 0, 297, 51, [.val (.ref 64), .val (.int p1), .val a_unk], [.ref 768], (126, 120, L, [Y_2, T, H, H2, RV, RU, ST, NS, I0, I1, I2, BO_7, FI, RG, GU, PU, MA, MN, MS, OT, SC], [192, 256, 384, 320, w, 192, 576, 640, 704], Lg)) o from ev_call (fun v μ => (d + 3, 0, 0, 297, 51, [.val (.ref 64), .val (.int p1), .val a_unk], v.toList ++ [], μ)) 2 ze12 e (fun n => Eq.refl _)
          obtain ⟨j8, zh13, h⟩ := bnd h
          have zh13 : ixx 10 p1 = some j8 := zh13
          suffices e : Ev (d + 3, 0, 0, 297, 59, [.val (.ref 64), .val (.int p1), .val (.ref 768)], [], (126, 120, L, [Y_2, T, H, H2, RV, RU, ST, NS, I0, I1, I2, (u2 BO_7 1 j8 (-1)), FI, RG, GU, PU, MA, MN, MS, OT, SC], [192, 256, 384, 320, w, 192, 576, 640, 704], Lg)) o from ev_opt (fun j8 => (d + 3, 0, 0, 297, 59, [.val (.ref 64), .val (.int p1), .val (.ref 768)], [], (126, 120, L, [Y_2, T, H, H2, RV, RU, ST, NS, I0, I1, I2, (u2 BO_7 1 j8 (-1)), FI, RG, GU, PU, MA, MN, MS, OT, SC], [192, 256, 384, 320, w, 192, 576, 640, 704], Lg))) 6 zh13 e (fun n => Eq.refl _)
          obtain ⟨NS_9, zh14, h⟩ := bnd h
          have zh14 : f_State_act NS (u2 BO_7 1 j8 (-1)) = some NS_9 := zh14
          have ze15 := R_f_State_act_0 (d + 1) Y_2 T H H2 RV RU ST NS I0 I1 I2 (u2 BO_7 1 j8 (-1)) FI RG GU PU MA MN MS OT SC 192 256 384 320 w 192 576 640 704 L Lg zh14
          suffices e : Ev (d + 3, 0, 0, 297, 67, [.val (.ref 64), .val (.int p1), .val (.ref 768)], [], (126, 120, L, [Y_2, T, H, H2, RV, RU, ST, NS_9, I0, I1, I2, (u2 BO_7 1 j8 (-1)), FI, RG, GU, PU, MA, MN, MS, OT, SC], [192, 256, 384, 320, w, 192, 576, 640, 704], Lg)) o from ev_call (fun v μ => (d + 3, 0, 0, 297, 67, [.val (.ref 64), .val (.int p1), .val (.ref 768)], v.toList ++ [], μ)) 4 ze15 e (fun n => Eq.refl _)
          have ze16 := Option.some.inj h
          subst ze16
          exact ev_rete 2 ho (fun n => Eq.refl _)
        · have h := itn h zc10
          suffices e : Ev (d + 3, 0, 0, 297, 44, [.val (.ref 64), .val (.int p1), .val a_unk], [], (126, 120, L, [Y_2, T, H, H2, RV, RU, ST, NS, I0, I1, I2, BO, FI, RG, GU, PU, MA, MN, MS, OT, SC], [192, 256, 384, 320, w, r5, 576, 640, 704], Lg)) o from ev_f (c := x5 = 0) _ _ 1  zc10 e (fun n => Eq.refl _)
          have ze17 := Option.some.inj h
          subst ze17
          exact ev_rete 2 ho (fun n => Eq.refl _)
      · have h := itn h zc7
        suffices e : Ev (d + 3, 0, 0, 297, 30, [.val (.ref 64), .val (.int p1), .val a_unk], [], (126, 120, L, [Y_2, T, H, H2, RV, RU, ST, NS, I0, I1, I2, BO, FI, RG, GU, PU, MA, MN, MS, OT, SC], [192, 256, 384, 320, w, r5, 576, 640, 704], Lg)) o from ev_f (c := x4 = 0) _ _ 1  zc7 e (fun n => Eq.refl _)
        have ze18 := Option.some.inj h
        subst ze18
        exact ev_rete 2 ho (fun n => Eq.refl _)
    · have h := itn h zc4
      suffices e : Ev (d + 3, 0, 0, 297, 18, [.val (.ref 64), .val (.int p1), .val a_unk], [], (126, 120, L, [Y_2, T, H, H2, RV, RU, ST, NS, I0, I1, I2, BO, FI, RG, GU, PU, MA, MN, MS, OT, SC], [192, 256, 384, 320, w, r5, 576, 640, 704], Lg)) o from ev_f (c := x3 ≠ (-1)) _ _ 2  zc4 e (fun n => Eq.refl _)
      have ze19 := Option.some.inj h
      subst ze19
      exact ev_rete 2 ho (fun n => Eq.refl _)
  | succ q1 =>
    have h := itn h (Nat.succ_ne_zero q1)
    have ze20 := Option.some.inj h
    subst ze20
    subst ho
    exact ev_thr (fun v μ => (d + 3, 0, 0, 297, 5, [.val (.ref 64), .val (.int p1), .val a_unk], v.toList ++ [], μ)) 3 ze2 (fun n => Eq.refl _) (fun n => rfl)
set_option maxRecDepth 1000000 in
set_option maxHeartbeats 4000000 in
theorem R_f_Y_drop_2 (d : Nat) (Y T H2 H RU RV ST NS I0 I1 I2 BO FI RG GU PU MA MN MS OT SC : Nat → Nat → Int32) (w r5 : Nat) (L : Nat) (Lg : Int64) (p1 : Int32) {r : Nat × Int32 × (Nat → Nat → Int32) × (Nat → Nat → Int32) × (Nat → Nat → Int32) × Nat} (h : f_Y_drop Y H NS BO 256 r5 p1 = some r) : Ev (d + 3, 1, 8, 297, 0, [.val (.ref 64), .val (.int p1), .val a_unk], [], (126, 120, L, [Y, T, H2, H, RU, RV, ST, NS, I0, I1, I2, BO, FI, RG, GU, PU, MA, MN, MS, OT, SC], [256, 192, 320, 384, w, r5, 576, 640, 704], Lg)) ((r.1, a_ov r.1 (.int r.2.1), (126, 120, L, [r.2.2.1, T, H2, H, RU, RV, ST, r.2.2.2.1, I0, I1, I2, r.2.2.2.2.1, FI, RG, GU, PU, MA, MN, MS, OT, SC], [256, 192, 320, 384, w, r.2.2.2.2.2, 576, 640, 704], Lg)) : AOut) := by
  suffices key : ∀ o : AOut, ((r.1, a_ov r.1 (.int r.2.1), (126, 120, L, [r.2.2.1, T, H2, H, RU, RV, ST, r.2.2.2.1, I0, I1, I2, r.2.2.2.2.1, FI, RG, GU, PU, MA, MN, MS, OT, SC], [256, 192, 320, 384, w, r.2.2.2.2.2, 576, 640, 704], Lg)) : AOut) = o → Ev (d + 3, 1, 8, 297, 0, [.val (.ref 64), .val (.int p1), .val a_unk], [], (126, 120, L, [Y, T, H2, H, RU, RV, ST, NS, I0, I1, I2, BO, FI, RG, GU, PU, MA, MN, MS, OT, SC], [256, 192, 320, 384, w, r5, 576, 640, 704], Lg)) o from key _ rfl
  intro o ho
  obtain ⟨⟨q1, Y_2⟩, zh1, h⟩ := bnd h
  have zh1 : f_Y_needMeeting Y H p1 = some (q1, Y_2) := zh1
  have ze2 := R_f_Y_needMeeting_2 (d + 1) Y T H2 H RU RV ST NS I0 I1 I2 BO FI RG GU PU MA MN MS OT SC w r5 L Lg p1 zh1
  cases q1 with
  | zero =>
    have h := itp h rfl
    suffices e : Ev (d + 3, 0, 0, 297, 5, [.val (.ref 64), .val (.int p1), .val a_unk], [], (126, 120, L, [Y_2, T, H2, H, RU, RV, ST, NS, I0, I1, I2, BO, FI, RG, GU, PU, MA, MN, MS, OT, SC], [256, 192, 320, 384, w, r5, 576, 640, 704], Lg)) o from ev_call (fun v μ => (d + 3, 0, 0, 297, 5, [.val (.ref 64), .val (.int p1), .val a_unk], v.toList ++ [], μ)) 3 ze2 e (fun n => Eq.refl _)
    obtain ⟨x3, zh3, h⟩ := bnd h
    have zh3 : rdx (NS 1) 10 p1 = some x3 := zh3
    suffices e : Ev (d + 3, 0, 0, 297, 14, [.val (.ref 64), .val (.int p1), .val a_unk], [.int x3], (126, 120, L, [Y_2, T, H2, H, RU, RV, ST, NS, I0, I1, I2, BO, FI, RG, GU, PU, MA, MN, MS, OT, SC], [256, 192, 320, 384, w, r5, 576, 640, 704], Lg)) o from ev_opt (fun x3 => (d + 3, 0, 0, 297, 14, [.val (.ref 64), .val (.int p1), .val a_unk], [.int x3], (126, 120, L, [Y_2, T, H2, H, RU, RV, ST, NS, I0, I1, I2, BO, FI, RG, GU, PU, MA, MN, MS, OT, SC], [256, 192, 320, 384, w, r5, 576, 640, 704], Lg))) 5 zh3 e (fun n => Eq.refl _)
    by_cases zc4 : x3 ≠ (-1)
    · have h := itp h zc4
      suffices e : Ev (d + 3, 0, 0, 297, 20, [.val (.ref 64), .val (.int p1), .val a_unk], [], (126, 120, L, [Y_2, T, H2, H, RU, RV, ST, NS, I0, I1, I2, BO, FI, RG, GU, PU, MA, MN, MS, OT, SC], [256, 192, 320, 384, w, r5, 576, 640, 704], Lg)) o from ev_t (c := x3 ≠ (-1)) _ _ 2  zc4 e (fun n => Eq.refl _)
      obtain ⟨x4, zh5, h⟩ := bnd h
      have zh5 : f_State_isFull NS = some x4 := zh5
      have ze6 := R_f_State_isFull_0 (d + 2) Y_2 T H2 H RU RV ST NS I0 I1 I2 BO FI RG GU PU MA MN MS OT SC 256 192 320 384 w r5 576 640 704 L Lg zh5
      suffices e : Ev (d + 3, 0, 0, 297, 27, [.val (.ref 64), .val (.int p1), .val a_unk], [.int x4], (126, 120, L, [Y_2, T, H2, H, RU, RV, ST, NS, I0, I1, I2, BO, FI, RG, GU, PU, MA, MN, MS, OT, SC], [256, 192, 320, 384, w, r5, 576, 640, 704], Lg)) o from ev_call (fun v μ => (d + 3, 0, 0, 297, 27, [.val (.ref 64), .val (.int p1), .val a_unk], v.toList ++ [], μ)) 3 ze6 e (fun n => Eq.refl _)
      by_cases zc7 : x4 = 0
      · have h := itp h zc7
        suffices e : Ev (d + 3, 0, 0, 297, 33, [.val (.ref 64), .val (.int p1), .val a_unk], [], (126, 120, L, [Y_2, T, H2, H, RU, RV, ST, NS, I0, I1, I2, BO, FI, RG, GU, PU, MA, MN, MS, OT, SC], [256, 192, 320, 384, w, r5, 576, 640, 704], Lg)) o from ev_t (c := x4 = 0) _ _ 1  zc7 e (fun n => Eq.refl _)
        suffices e : Ev (d + 3, 0, 0, 297, 37, [.val (.ref 64), .val (.int p1), .val a_unk], [.ref 256], (126, 120, L, [Y_2, T, H2, H, RU, RV, ST, NS, I0, I1, I2, BO, FI, RG, GU, PU, MA, MN, MS, OT, SC], [256, 192, 320, 384, w, r5, 576, 640, 704], Lg)) o from ev_b 2 e (fun n => Eq.refl _)
        obtain ⟨x5, zh8, h⟩ := bnd h
        have zh8 : f_House_isFixed H p1 = some x5 := zh8
        have ze9 := R_f_House_isFixed_1 (d + 2) Y_2 T H2 H RU RV ST NS I0 I1 I2 BO FI RG GU PU MA MN MS OT SC 256 192 320 384 w r5 576 640 704 L Lg p1 zh8
        suffices e : Ev (d + 3, 0, 0, 297, 41, [.val (.ref 64), .val (.int p1), .val a_unk], [.int x5], (126, 120, L, [Y_2, T, H2, H, RU, RV, ST, NS, I0, I1, I2, BO, FI, RG, GU, PU, MA, MN, MS, OT, SC], [256, 192, 320, 384, w, r5, 576, 640, 704], Lg)) o from ev_call (fun v μ => (d + 3, 0, 0, 297, 41, [.val (.ref 64), .val (.int p1), .val a_unk], v.toList ++ [], μ)) 2 ze9 e (fun n => Eq.refl _)
        by_cases zc10 : x5 = 0
        · have h := itp h zc10
          suffices e : Ev (d + 3, 0, 0, 297, 47, [.val (.ref 64), .val (.int p1), .val a_unk], [], (126, 120, L, [Y_2, T, H2, H, RU, RV, ST, NS, I0, I1, I2, BO, FI, RG, GU, PU, MA, MN, MS, OT, SC], [256, 192, 320, 384, w, r5, 576, 640, 704], Lg)) o from ev_t (c := x5 = 0) _ _ 1  zc10 e (fun n => Eq.refl _)
          obtain ⟨BO_7, zh11, h⟩ := bnd h
          have zh11 : f_Y_lookNow H NS BO = some BO_7 := zh11
          have ze12 := R_f_Y_lookNow_2 (d + 0) Y_2 T H2 H RU RV ST NS I0 I1 I2 BO FI RG GU PU MA MN MS OT SC w r5 L Lg zh11
          suffices e : Ev (d + 3, 0, 0, 297, 51, [.val (.ref 64), .val (.int p1), .val a_unk], [.ref 768], (126, 120, L, [Y_2, T, H2, H, RU, RV, ST, NS, I0, I1, I2, BO_7, FI, RG, GU, PU, MA, MN, MS, OT, SC], [256, 192, 320, 384, w, 256, 576, 640, 704], Lg)) o from ev_call (fun v μ => (d + 3, 0, 0, 297, 51, [.val (.ref 64), .val (.int p1), .val a_unk], v.toList ++ [], μ)) 2 ze12 e (fun n => Eq.refl _)
          obtain ⟨j8, zh13, h⟩ := bnd h
          have zh13 : ixx 10 p1 = some j8 := zh13
          suffices e : Ev (d + 3, 0, 0, 297, 59, [.val (.ref 64), .val (.int p1), .val (.ref 768)], [], (126, 120, L, [Y_2, T, H2, H, RU, RV, ST, NS, I0, I1, I2, (u2 BO_7 1 j8 (-1)), FI, RG, GU, PU, MA, MN, MS, OT, SC], [256, 192, 320, 384, w, 256, 576, 640, 704], Lg)) o from ev_opt (fun j8 => (d + 3, 0, 0, 297, 59, [.val (.ref 64), .val (.int p1), .val (.ref 768)], [], (126, 120, L, [Y_2, T, H2, H, RU, RV, ST, NS, I0, I1, I2, (u2 BO_7 1 j8 (-1)), FI, RG, GU, PU, MA, MN, MS, OT, SC], [256, 192, 320, 384, w, 256, 576, 640, 704], Lg))) 6 zh13 e (fun n => Eq.refl _)
          obtain ⟨NS_9, zh14, h⟩ := bnd h
          have zh14 : f_State_act NS (u2 BO_7 1 j8 (-1)) = some NS_9 := zh14
          have ze15 := R_f_State_act_0 (d + 1) Y_2 T H2 H RU RV ST NS I0 I1 I2 (u2 BO_7 1 j8 (-1)) FI RG GU PU MA MN MS OT SC 256 192 320 384 w 256 576 640 704 L Lg zh14
          suffices e : Ev (d + 3, 0, 0, 297, 67, [.val (.ref 64), .val (.int p1), .val (.ref 768)], [], (126, 120, L, [Y_2, T, H2, H, RU, RV, ST, NS_9, I0, I1, I2, (u2 BO_7 1 j8 (-1)), FI, RG, GU, PU, MA, MN, MS, OT, SC], [256, 192, 320, 384, w, 256, 576, 640, 704], Lg)) o from ev_call (fun v μ => (d + 3, 0, 0, 297, 67, [.val (.ref 64), .val (.int p1), .val (.ref 768)], v.toList ++ [], μ)) 4 ze15 e (fun n => Eq.refl _)
          have ze16 := Option.some.inj h
          subst ze16
          exact ev_rete 2 ho (fun n => Eq.refl _)
        · have h := itn h zc10
          suffices e : Ev (d + 3, 0, 0, 297, 44, [.val (.ref 64), .val (.int p1), .val a_unk], [], (126, 120, L, [Y_2, T, H2, H, RU, RV, ST, NS, I0, I1, I2, BO, FI, RG, GU, PU, MA, MN, MS, OT, SC], [256, 192, 320, 384, w, r5, 576, 640, 704], Lg)) o from ev_f (c := x5 = 0) _ _ 1  zc10 e (fun n => Eq.refl _)
          have ze17 := Option.some.inj h
          subst ze17
          exact ev_rete 2 ho (fun n => Eq.refl _)
      · have h := itn h zc7
        suffices e : Ev (d + 3, 0, 0, 297, 30, [.val (.ref 64), .val (.int p1), .val a_unk], [], (126, 120, L, [Y_2, T, H2, H, RU, RV, ST, NS, I0, I1, I2, BO, FI, RG, GU, PU, MA, MN, MS, OT, SC], [256, 192, 320, 384, w, r5, 576, 640, 704], Lg)) o from ev_f (c := x4 = 0) _ _ 1  zc7 e (fun n => Eq.refl _)
        have ze18 := Option.some.inj h
        subst ze18
        exact ev_rete 2 ho (fun n => Eq.refl _)
    · have h := itn h zc4
      suffices e : Ev (d + 3, 0, 0, 297, 18, [.val (.ref 64), .val (.int p1), .val a_unk], [], (126, 120, L, [Y_2, T, H2, H, RU, RV, ST, NS, I0, I1, I2, BO, FI, RG, GU, PU, MA, MN, MS, OT, SC], [256, 192, 320, 384, w, r5, 576, 640, 704], Lg)) o from ev_f (c := x3 ≠ (-1)) _ _ 2  zc4 e (fun n => Eq.refl _)
      have ze19 := Option.some.inj h
      subst ze19
      exact ev_rete 2 ho (fun n => Eq.refl _)
  | succ q1 =>
    have h := itn h (Nat.succ_ne_zero q1)
    have ze20 := Option.some.inj h
    subst ze20
    subst ho
    exact ev_thr (fun v μ => (d + 3, 0, 0, 297, 5, [.val (.ref 64), .val (.int p1), .val a_unk], v.toList ++ [], μ)) 3 ze2 (fun n => Eq.refl _) (fun n => rfl)
set_option maxRecDepth 1000000 in
set_option maxHeartbeats 4000000 in
theorem R_f_Y_drop_3 (d : Nat) (Y T H2 H RV RU ST NS I0 I1 I2 BO FI RG GU PU MA MN MS OT SC : Nat → Nat → Int32) (w r5 : Nat) (L : Nat) (Lg : Int64) (p1 : Int32) {r : Nat × Int32 × (Nat → Nat → Int32) × (Nat → Nat → Int32) × (Nat → Nat → Int32) × Nat} (h : f_Y_drop Y H NS BO 256 r5 p1 = some r) : Ev (d + 3, 1, 8, 297, 0, [.val (.ref 64), .val (.int p1), .val a_unk], [], (126, 120, L, [Y, T, H2, H, RV, RU, ST, NS, I0, I1, I2, BO, FI, RG, GU, PU, MA, MN, MS, OT, SC], [256, 192, 384, 320, w, r5, 576, 640, 704], Lg)) ((r.1, a_ov r.1 (.int r.2.1), (126, 120, L, [r.2.2.1, T, H2, H, RV, RU, ST, r.2.2.2.1, I0, I1, I2, r.2.2.2.2.1, FI, RG, GU, PU, MA, MN, MS, OT, SC], [256, 192, 384, 320, w, r.2.2.2.2.2, 576, 640, 704], Lg)) : AOut) := by
  suffices key : ∀ o : AOut, ((r.1, a_ov r.1 (.int r.2.1), (126, 120, L, [r.2.2.1, T, H2, H, RV, RU, ST, r.2.2.2.1, I0, I1, I2, r.2.2.2.2.1, FI, RG, GU, PU, MA, MN, MS, OT, SC], [256, 192, 384, 320, w, r.2.2.2.2.2, 576, 640, 704], Lg)) : AOut) = o → Ev (d + 3, 1, 8, 297, 0, [.val (.ref 64), .val (.int p1), .val a_unk], [], (126, 120, L, [Y, T, H2, H, RV, RU, ST, NS, I0, I1, I2, BO, FI, RG, GU, PU, MA, MN, MS, OT, SC], [256, 192, 384, 320, w, r5, 576, 640, 704], Lg)) o from key _ rfl
  intro o ho
  obtain ⟨⟨q1, Y_2⟩, zh1, h⟩ := bnd h
  have zh1 : f_Y_needMeeting Y H p1 = some (q1, Y_2) := zh1
  have ze2 := R_f_Y_needMeeting_3 (d + 1) Y T H2 H RV RU ST NS I0 I1 I2 BO FI RG GU PU MA MN MS OT SC w r5 L Lg p1 zh1
  cases q1 with
  | zero =>
    have h := itp h rfl
    suffices e : Ev (d + 3, 0, 0, 297, 5, [.val (.ref 64), .val (.int p1), .val a_unk], [], (126, 120, L, [Y_2, T, H2, H, RV, RU, ST, NS, I0, I1, I2, BO, FI, RG, GU, PU, MA, MN, MS, OT, SC], [256, 192, 384, 320, w, r5, 576, 640, 704], Lg)) o from ev_call (fun v μ => (d + 3, 0, 0, 297, 5, [.val (.ref 64), .val (.int p1), .val a_unk], v.toList ++ [], μ)) 3 ze2 e (fun n => Eq.refl _)
    obtain ⟨x3, zh3, h⟩ := bnd h
    have zh3 : rdx (NS 1) 10 p1 = some x3 := zh3
    suffices e : Ev (d + 3, 0, 0, 297, 14, [.val (.ref 64), .val (.int p1), .val a_unk], [.int x3], (126, 120, L, [Y_2, T, H2, H, RV, RU, ST, NS, I0, I1, I2, BO, FI, RG, GU, PU, MA, MN, MS, OT, SC], [256, 192, 384, 320, w, r5, 576, 640, 704], Lg)) o from ev_opt (fun x3 => (d + 3, 0, 0, 297, 14, [.val (.ref 64), .val (.int p1), .val a_unk], [.int x3], (126, 120, L, [Y_2, T, H2, H, RV, RU, ST, NS, I0, I1, I2, BO, FI, RG, GU, PU, MA, MN, MS, OT, SC], [256, 192, 384, 320, w, r5, 576, 640, 704], Lg))) 5 zh3 e (fun n => Eq.refl _)
    by_cases zc4 : x3 ≠ (-1)
    · have h := itp h zc4
      suffices e : Ev (d + 3, 0, 0, 297, 20, [.val (.ref 64), .val (.int p1), .val a_unk], [], (126, 120, L, [Y_2, T, H2, H, RV, RU, ST, NS, I0, I1, I2, BO, FI, RG, GU, PU, MA, MN, MS, OT, SC], [256, 192, 384, 320, w, r5, 576, 640, 704], Lg)) o from ev_t (c := x3 ≠ (-1)) _ _ 2  zc4 e (fun n => Eq.refl _)
      obtain ⟨x4, zh5, h⟩ := bnd h
      have zh5 : f_State_isFull NS = some x4 := zh5
      have ze6 := R_f_State_isFull_0 (d + 2) Y_2 T H2 H RV RU ST NS I0 I1 I2 BO FI RG GU PU MA MN MS OT SC 256 192 384 320 w r5 576 640 704 L Lg zh5
      suffices e : Ev (d + 3, 0, 0, 297, 27, [.val (.ref 64), .val (.int p1), .val a_unk], [.int x4], (126, 120, L, [Y_2, T, H2, H, RV, RU, ST, NS, I0, I1, I2, BO, FI, RG, GU, PU, MA, MN, MS, OT, SC], [256, 192, 384, 320, w, r5, 576, 640, 704], Lg)) o from ev_call (fun v μ => (d + 3, 0, 0, 297, 27, [.val (.ref 64), .val (.int p1), .val a_unk], v.toList ++ [], μ)) 3 ze6 e (fun n => Eq.refl _)
      by_cases zc7 : x4 = 0
      · have h := itp h zc7
        suffices e : Ev (d + 3, 0, 0, 297, 33, [.val (.ref 64), .val (.int p1), .val a_unk], [], (126, 120, L, [Y_2, T, H2, H, RV, RU, ST, NS, I0, I1, I2, BO, FI, RG, GU, PU, MA, MN, MS, OT, SC], [256, 192, 384, 320, w, r5, 576, 640, 704], Lg)) o from ev_t (c := x4 = 0) _ _ 1  zc7 e (fun n => Eq.refl _)
        suffices e : Ev (d + 3, 0, 0, 297, 37, [.val (.ref 64), .val (.int p1), .val a_unk], [.ref 256], (126, 120, L, [Y_2, T, H2, H, RV, RU, ST, NS, I0, I1, I2, BO, FI, RG, GU, PU, MA, MN, MS, OT, SC], [256, 192, 384, 320, w, r5, 576, 640, 704], Lg)) o from ev_b 2 e (fun n => Eq.refl _)
        obtain ⟨x5, zh8, h⟩ := bnd h
        have zh8 : f_House_isFixed H p1 = some x5 := zh8
        have ze9 := R_f_House_isFixed_1 (d + 2) Y_2 T H2 H RV RU ST NS I0 I1 I2 BO FI RG GU PU MA MN MS OT SC 256 192 384 320 w r5 576 640 704 L Lg p1 zh8
        suffices e : Ev (d + 3, 0, 0, 297, 41, [.val (.ref 64), .val (.int p1), .val a_unk], [.int x5], (126, 120, L, [Y_2, T, H2, H, RV, RU, ST, NS, I0, I1, I2, BO, FI, RG, GU, PU, MA, MN, MS, OT, SC], [256, 192, 384, 320, w, r5, 576, 640, 704], Lg)) o from ev_call (fun v μ => (d + 3, 0, 0, 297, 41, [.val (.ref 64), .val (.int p1), .val a_unk], v.toList ++ [], μ)) 2 ze9 e (fun n => Eq.refl _)
        by_cases zc10 : x5 = 0
        · have h := itp h zc10
          suffices e : Ev (d + 3, 0, 0, 297, 47, [.val (.ref 64), .val (.int p1), .val a_unk], [], (126, 120, L, [Y_2, T, H2, H, RV, RU, ST, NS, I0, I1, I2, BO, FI, RG, GU, PU, MA, MN, MS, OT, SC], [256, 192, 384, 320, w, r5, 576, 640, 704], Lg)) o from ev_t (c := x5 = 0) _ _ 1  zc10 e (fun n => Eq.refl _)
          obtain ⟨BO_7, zh11, h⟩ := bnd h
          have zh11 : f_Y_lookNow H NS BO = some BO_7 := zh11
          have ze12 := R_f_Y_lookNow_3 (d + 0) Y_2 T H2 H RV RU ST NS I0 I1 I2 BO FI RG GU PU MA MN MS OT SC w r5 L Lg zh11
          suffices e : Ev (d + 3, 0, 0, 297, 51, [.val (.ref 64), .val (.int p1), .val a_unk], [.ref 768], (126, 120, L, [Y_2, T, H2, H, RV, RU, ST, NS, I0, I1, I2, BO_7, FI, RG, GU, PU, MA, MN, MS, OT, SC], [256, 192, 384, 320, w, 256, 576, 640, 704], Lg)) o from ev_call (fun v μ => (d + 3, 0, 0, 297, 51, [.val (.ref 64), .val (.int p1), .val a_unk], v.toList ++ [], μ)) 2 ze12 e (fun n => Eq.refl _)
          obtain ⟨j8, zh13, h⟩ := bnd h
          have zh13 : ixx 10 p1 = some j8 := zh13
          suffices e : Ev (d + 3, 0, 0, 297, 59, [.val (.ref 64), .val (.int p1), .val (.ref 768)], [], (126, 120, L, [Y_2, T, H2, H, RV, RU, ST, NS, I0, I1, I2, (u2 BO_7 1 j8 (-1)), FI, RG, GU, PU, MA, MN, MS, OT, SC], [256, 192, 384, 320, w, 256, 576, 640, 704], Lg)) o from ev_opt (fun j8 => (d + 3, 0, 0, 297, 59, [.val (.ref 64), .val (.int p1), .val (.ref 768)], [], (126, 120, L, [Y_2, T, H2, H, RV, RU, ST, NS, I0, I1, I2, (u2 BO_7 1 j8 (-1)), FI, RG, GU, PU, MA, MN, MS, OT, SC], [256, 192, 384, 320, w, 256, 576, 640, 704], Lg))) 6 zh13 e (fun n => Eq.refl _)
          obtain ⟨NS_9, zh14, h⟩ := bnd h
          have zh14 : f_State_act NS (u2 BO_7 1 j8 (-1)) = some NS_9 := zh14
          have ze15 := R_f_State_act_0 (d + 1) Y_2 T H2 H RV RU ST NS I0 I1 I2 (u2 BO_7 1 j8 (-1)) FI RG GU PU MA MN MS OT SC 256 192 384 320 w 256 576 640 704 L Lg zh14
          suffices e : Ev (d + 3, 0, 0, 297, 67, [.val (.ref 64), .val (.int p1), .val (.ref 768)], [], (126, 120, L, [Y_2, T, H2, H, RV, RU, ST, NS_9, I0, I1, I2, (u2 BO_7 1 j8 (-1)), FI, RG, GU, PU, MA, MN, MS, OT, SC], [256, 192, 384, 320, w, 256, 576, 640, 704], Lg)) o from ev_call (fun v μ => (d + 3, 0, 0, 297, 67, [.val (.ref 64), .val (.int p1), .val (.ref 768)], v.toList ++ [], μ)) 4 ze15 e (fun n => Eq.refl _)
          have ze16 := Option.some.inj h
          subst ze16
          exact ev_rete 2 ho (fun n => Eq.refl _)
        · have h := itn h zc10
          suffices e : Ev (d + 3, 0, 0, 297, 44, [.val (.ref 64), .val (.int p1), .val a_unk], [], (126, 120, L, [Y_2, T, H2, H, RV, RU, ST, NS, I0, I1, I2, BO, FI, RG, GU, PU, MA, MN, MS, OT, SC], [256, 192, 384, 320, w, r5, 576, 640, 704], Lg)) o from ev_f (c := x5 = 0) _ _ 1  zc10 e (fun n => Eq.refl _)
          have ze17 := Option.some.inj h
          subst ze17
          exact ev_rete 2 ho (fun n => Eq.refl _)
      · have h := itn h zc7
        suffices e : Ev (d + 3, 0, 0, 297, 30, [.val (.ref 64), .val (.int p1), .val a_unk], [], (126, 120, L, [Y_2, T, H2, H, RV, RU, ST, NS, I0, I1, I2, BO, FI, RG, GU, PU, MA, MN, MS, OT, SC], [256, 192, 384, 320, w, r5, 576, 640, 704], Lg)) o from ev_f (c := x4 = 0) _ _ 1  zc7 e (fun n => Eq.refl _)
        have ze18 := Option.some.inj h
        subst ze18
        exact ev_rete 2 ho (fun n => Eq.refl _)
    · have h := itn h zc4
      suffices e : Ev (d + 3, 0, 0, 297, 18, [.val (.ref 64), .val (.int p1), .val a_unk], [], (126, 120, L, [Y_2, T, H2, H, RV, RU, ST, NS, I0, I1, I2, BO, FI, RG, GU, PU, MA, MN, MS, OT, SC], [256, 192, 384, 320, w, r5, 576, 640, 704], Lg)) o from ev_f (c := x3 ≠ (-1)) _ _ 2  zc4 e (fun n => Eq.refl _)
      have ze19 := Option.some.inj h
      subst ze19
      exact ev_rete 2 ho (fun n => Eq.refl _)
  | succ q1 =>
    have h := itn h (Nat.succ_ne_zero q1)
    have ze20 := Option.some.inj h
    subst ze20
    subst ho
    exact ev_thr (fun v μ => (d + 3, 0, 0, 297, 5, [.val (.ref 64), .val (.int p1), .val a_unk], v.toList ++ [], μ)) 3 ze2 (fun n => Eq.refl _) (fun n => rfl)
set_option maxRecDepth 1000000 in
set_option maxHeartbeats 4000000 in
theorem R_f_State_takeBack_0 (d : Nat) (Y T HA HB RA RB ST NS I0 I1 I2 BO FI RG GU PU MA MN MS OT SC : Nat → Nat → Int32) (r0 r1 r2 r3 w r5 r6 r7 r8 : Nat) (L : Nat) (Lg : Int64) {r : Int32 × (Nat → Nat → Int32)} (h : f_State_takeBack NS = some r) : Ev (d + 1, 0, 0, 262, 0, [.val (.ref 512)], [], (126, 120, L, [Y, T, HA, HB, RA, RB, ST, NS, I0, I1, I2, BO, FI, RG, GU, PU, MA, MN, MS, OT, SC], [r0, r1, r2, r3, w, r5, r6, r7, r8], Lg)) ((0, some (.int r.1), (126, 120, L, [Y, T, HA, HB, RA, RB, ST, r.2, I0, I1, I2, BO, FI, RG, GU, PU, MA, MN, MS, OT, SC], [r0, r1, r2, r3, w, r5, r6, r7, r8], Lg)) : AOut) := by
  suffices key : ∀ o : AOut, ((0, some (.int r.1), (126, 120, L, [Y, T, HA, HB, RA, RB, ST, r.2, I0, I1, I2, BO, FI, RG, GU, PU, MA, MN, MS, OT, SC], [r0, r1, r2, r3, w, r5, r6, r7, r8], Lg)) : AOut) = o → Ev (d + 1, 0, 0, 262, 0, [.val (.ref 512)], [], (126, 120, L, [Y, T, HA, HB, RA, RB, ST, NS, I0, I1, I2, BO, FI, RG, GU, PU, MA, MN, MS, OT, SC], [r0, r1, r2, r3, w, r5, r6, r7, r8], Lg)) o from key _ rfl
  intro o ho
  by_cases zc1 : 0 < (NS 0 4)
  · have h := itp h zc1
    suffices e : Ev (d + 1, 0, 0, 262, 9, [.val (.ref 512)], [], (126, 120, L, [Y, T, HA, HB, RA, RB, ST, NS, I0, I1, I2, BO, FI, RG, GU, PU, MA, MN, MS, OT, SC], [r0, r1, r2, r3, w, r5, r6, r7, r8], Lg)) o from ev_t (c := 0 < (NS 0 4)) _ _ 3  zc1 e (fun n => Eq.refl _)
    by_cases zc2 : (((((u2 NS 0 4 ((NS 0 4) - 1)) 0 4) * 10) : Int32) < 0 ∨ (0 : Int32) < 0 ∨ (10 : Int32) < 0 ∨ 300 < ((((u2 NS 0 4 ((NS 0 4) - 1)) 0 4) * 10) : Int32).toNatClampNeg + (10 : Int32).toNatClampNeg ∨ 10 < (0 : Int32).toNatClampNeg + (10 : Int32).toNatClampNeg)
    · exact nos (itp h zc2)
    have h := itn h zc2
    suffices e : Ev (d + 1, 0, 0, 262, 40, [.val (.ref 512)], [], (126, 120, L, [Y, T, HA, HB, RA, RB, ST, (u1 (u2 NS 0 4 ((NS 0 4) - 1)) 1 (a_cpy ((u2 NS 0 4 ((NS 0 4) - 1)) 6) ((u2 NS 0 4 ((NS 0 4) - 1)) 1) ((((u2 NS 0 4 ((NS 0 4) - 1)) 0 4) * 10) : Int32).toNatClampNeg (0 : Int32).toNatClampNeg (10 : Int32).toNatClampNeg)), I0, I1, I2, BO, FI, RG, GU, PU, MA, MN, MS, OT, SC], [r0, r1, r2, r3, w, r5, r6, r7, r8], Lg)) o from ev_d (c := (((((u2 NS 0 4 ((NS 0 4) - 1)) 0 4) * 10) : Int32) < 0 ∨ (0 : Int32) < 0 ∨ (10 : Int32) < 0 ∨ 300 < ((((u2 NS 0 4 ((NS 0 4) - 1)) 0 4) * 10) : Int32).toNatClampNeg + (10 : Int32).toNatClampNeg ∨ 10 < (0 : Int32).toNatClampNeg + (10 : Int32).toNatClampNeg)) _ 17 zc2 e (fun n => Eq.refl _)
    by_cases zc3 : ((((u1 (u2 NS 0 4 ((NS 0 4) - 1)) 1 (a_cpy ((u2 NS 0 4 ((NS 0 4) - 1)) 6) ((u2 NS 0 4 ((NS 0 4) - 1)) 1) ((((u2 NS 0 4 ((NS 0 4) - 1)) 0 4) * 10) : Int32).toNatClampNeg (0 : Int32).toNatClampNeg (10 : Int32).toNatClampNeg)) 0 4) * 10) < 0 ∨ (0 : Int32) < 0 ∨ (10 : Int32) < 0 ∨ 300 < (((u1 (u2 NS 0 4 ((NS 0 4) - 1)) 1 (a_cpy ((u2 NS 0 4 ((NS 0 4) - 1)) 6) ((u2 NS 0 4 ((NS 0 4) - 1)) 1) ((((u2 NS 0 4 ((NS 0 4) - 1)) 0 4) * 10) : Int32).toNatClampNeg (0 : Int32).toNatClampNeg (10 : Int32).toNatClampNeg)) 0 4) * 10).toNatClampNeg + (10 : Int32).toNatClampNeg ∨ 10 < (0 : Int32).toNatClampNeg + (10 : Int32).toNatClampNeg)
    · exact nos (itp h zc3)
    have h := itn h zc3
    suffices e : Ev (d + 1, 0, 0, 262, 61, [.val (.ref 512)], [], (126, 120, L, [Y, T, HA, HB, RA, RB, ST, (u1 (u1 (u2 NS 0 4 ((NS 0 4) - 1)) 1 (a_cpy ((u2 NS 0 4 ((NS 0 4) - 1)) 6) ((u2 NS 0 4 ((NS 0 4) - 1)) 1) ((((u2 NS 0 4 ((NS 0 4) - 1)) 0 4) * 10) : Int32).toNatClampNeg (0 : Int32).toNatClampNeg (10 : Int32).toNatClampNeg)) 2 (a_cpy ((u1 (u2 NS 0 4 ((NS 0 4) - 1)) 1 (a_cpy ((u2 NS 0 4 ((NS 0 4) - 1)) 6) ((u2 NS 0 4 ((NS 0 4) - 1)) 1) ((((u2 NS 0 4 ((NS 0 4) - 1)) 0 4) * 10) : Int32).toNatClampNeg (0 : Int32).toNatClampNeg (10 : Int32).toNatClampNeg)) 7) ((u1 (u2 NS 0 4 ((NS 0 4) - 1)) 1 (a_cpy ((u2 NS 0 4 ((NS 0 4) - 1)) 6) ((u2 NS 0 4 ((NS 0 4) - 1)) 1) ((((u2 NS 0 4 ((NS 0 4) - 1)) 0 4) * 10) : Int32).toNatClampNeg (0 : Int32).toNatClampNeg (10 : Int32).toNatClampNeg)) 2) (((u1 (u2 NS 0 4 ((NS 0 4) - 1)) 1 (a_cpy ((u2 NS 0 4 ((NS 0 4) - 1)) 6) ((u2 NS 0 4 ((NS 0 4) - 1)) 1) ((((u2 NS 0 4 ((NS 0 4) - 1)) 0 4) * 10) : Int32).toNatClampNeg (0 : Int32).toNatClampNeg (10 : Int32).toNatClampNeg)) 0 4) * 10).toNatClampNeg (0 : Int32).toNatClampNeg (10 : Int32).toNatClampNeg)), I0, I1, I2, BO, FI, RG, GU, PU, MA, MN, MS, OT, SC], [r0, r1, r2, r3, w, r5, r6, r7, r8], Lg)) o from ev_d (c := ((((u1 (u2 NS 0 4 ((NS 0 4) - 1)) 1 (a_cpy ((u2 NS 0 4 ((NS 0 4) - 1)) 6) ((u2 NS 0 4 ((NS 0 4) - 1)) 1) ((((u2 NS 0 4 ((NS 0 4) - 1)) 0 4) * 10) : Int32).toNatClampNeg (0 : Int32).toNatClampNeg (10 : Int32).toNatClampNeg)) 0 4) * 10) < 0 ∨ (0 : Int32) < 0 ∨ (10 : Int32) < 0 ∨ 300 < (((u1 (u2 NS 0 4 ((NS 0 4) - 1)) 1 (a_cpy ((u2 NS 0 4 ((NS 0 4) - 1)) 6) ((u2 NS 0 4 ((NS 0 4) - 1)) 1) ((((u2 NS 0 4 ((NS 0 4) - 1)) 0 4) * 10) : Int32).toNatClampNeg (0 : Int32).toNatClampNeg (10 : Int32).toNatClampNeg)) 0 4) * 10).toNatClampNeg + (10 : Int32).toNatClampNeg ∨ 10 < (0 : Int32).toNatClampNeg + (10 : Int32).toNatClampNeg)) _ 11 zc3 e (fun n => Eq.refl _)
    have ze4 := Option.some.inj h
    subst ze4
    exact ev_rete 3 ho (fun n => Eq.refl _)
  · have h := itn h zc1
    suffices e : Ev (d + 1, 0, 0, 262, 7, [.val (.ref 512)], [], (126, 120, L, [Y, T, HA, HB, RA, RB, ST, NS, I0, I1, I2, BO, FI, RG, GU, PU, MA, MN, MS, OT, SC], [r0, r1, r2, r3, w, r5, r6, r7, r8], Lg)) o from ev_f (c := 0 < (NS 0 4)) _ _ 3  zc1 e (fun n => Eq.refl _)
    have ze5 := Option.some.inj h
    subst ze5
    exact ev_rete 2 ho (fun n => Eq.refl _)
set_option maxRecDepth 1000000 in
set_option maxHeartbeats 4000000 in
theorem R_f_Y_undo_0 (d : Nat) (Y T H H2 RU RV ST NS I0 I1 I2 BO FI RG GU PU MA MN MS OT SC : Nat → Nat → Int32) (w r5 : Nat) (L : Nat) (Lg : Int64) {r : Int32 × (Nat → Nat → Int32)} (h : f_Y_undo NS = some r) : Ev (d + 2, 0, 0, 298, 0, [.val (.ref 64)], [], (126, 120, L, [Y, T, H, H2, RU, RV, ST, NS, I0, I1, I2, BO, FI, RG, GU, PU, MA, MN, MS, OT, SC], [192, 256, 320, 384, w, r5, 576, 640, 704], Lg)) ((0, some (.int r.1), (126, 120, L, [Y, T, H, H2, RU, RV, ST, r.2, I0, I1, I2, BO, FI, RG, GU, PU, MA, MN, MS, OT, SC], [192, 256, 320, 384, w, r5, 576, 640, 704], Lg)) : AOut) := by
  suffices key : ∀ o : AOut, ((0, some (.int r.1), (126, 120, L, [Y, T, H, H2, RU, RV, ST, r.2, I0, I1, I2, BO, FI, RG, GU, PU, MA, MN, MS, OT, SC], [192, 256, 320, 384, w, r5, 576, 640, 704], Lg)) : AOut) = o → Ev (d + 2, 0, 0, 298, 0, [.val (.ref 64)], [], (126, 120, L, [Y, T, H, H2, RU, RV, ST, NS, I0, I1, I2, BO, FI, RG, GU, PU, MA, MN, MS, OT, SC], [192, 256, 320, 384, w, r5, 576, 640, 704], Lg)) o from key _ rfl
  intro o ho
  obtain ⟨⟨x1, NS_2⟩, zh1, h⟩ := bnd h
  have zh1 : f_State_takeBack NS = some (x1, NS_2) := zh1
  have ze2 := R_f_State_takeBack_0 (d + 0) Y T H H2 RU RV ST NS I0 I1 I2 BO FI RG GU PU MA MN MS OT SC 192 256 320 384 w r5 576 640 704 L Lg zh1
  suffices e : Ev (d + 2, 0, 0, 298, 7, [.val (.ref 64)], [.int x1], (126, 120, L, [Y, T, H, H2, RU, RV, ST, NS_2, I0, I1, I2, BO, FI, RG, GU, PU, MA, MN, MS, OT, SC], [192, 256, 320, 384, w, r5, 576, 640, 704], Lg)) o from ev_call (fun v μ => (d + 2, 0, 0, 298, 7, [.val (.ref 64)], v.toList ++ [], μ)) 3 ze2 e (fun n => Eq.refl _)
  have ze3 := Option.some.inj h
  subst ze3
  exact ev_rete 1 ho (fun n => Eq.refl _)
set_option maxRecDepth 1000000 in
set_option maxHeartbeats 4000000 in
theorem R_f_Y_undo_1 (d : Nat) (Y T H H2 RV RU ST NS I0 I1 I2 BO FI RG GU PU MA MN MS OT SC : Nat → Nat → Int32) (w r5 : Nat) (L : Nat) (Lg : Int64) {r : Int32 × (Nat → Nat → Int32)} (h : f_Y_undo NS = some r) : Ev (d + 2, 0, 0, 298, 0, [.val (.ref 64)], [], (126, 120, L, [Y, T, H, H2, RV, RU, ST, NS, I0, I1, I2, BO, FI, RG, GU, PU, MA, MN, MS, OT, SC], [192, 256, 384, 320, w, r5, 576, 640, 704], Lg)) ((0, some (.int r.1), (126, 120, L, [Y, T, H, H2, RV, RU, ST, r.2, I0, I1, I2, BO, FI, RG, GU, PU, MA, MN, MS, OT, SC], [192, 256, 384, 320, w, r5, 576, 640, 704], Lg)) : AOut) := by
  suffices key : ∀ o : AOut, ((0, some (.int r.1), (126, 120, L, [Y, T, H, H2, RV, RU, ST, r.2, I0, I1, I2, BO, FI, RG, GU, PU, MA, MN, MS, OT, SC], [192, 256, 384, 320, w, r5, 576, 640, 704], Lg)) : AOut) = o → Ev (d + 2, 0, 0, 298, 0, [.val (.ref 64)], [], (126, 120, L, [Y, T, H, H2, RV, RU, ST, NS, I0, I1, I2, BO, FI, RG, GU, PU, MA, MN, MS, OT, SC], [192, 256, 384, 320, w, r5, 576, 640, 704], Lg)) o from key _ rfl
  intro o ho
  obtain ⟨⟨x1, NS_2⟩, zh1, h⟩ := bnd h
  have zh1 : f_State_takeBack NS = some (x1, NS_2) := zh1
  have ze2 := R_f_State_takeBack_0 (d + 0) Y T H H2 RV RU ST NS I0 I1 I2 BO FI RG GU PU MA MN MS OT SC 192 256 384 320 w r5 576 640 704 L Lg zh1
  suffices e : Ev (d + 2, 0, 0, 298, 7, [.val (.ref 64)], [.int x1], (126, 120, L, [Y, T, H, H2, RV, RU, ST, NS_2, I0, I1, I2, BO, FI, RG, GU, PU, MA, MN, MS, OT, SC], [192, 256, 384, 320, w, r5, 576, 640, 704], Lg)) o from ev_call (fun v μ => (d + 2, 0, 0, 298, 7, [.val (.ref 64)], v.toList ++ [], μ)) 3 ze2 e (fun n => Eq.refl _)
  have ze3 := Option.some.inj h
  subst ze3
  exact ev_rete 1 ho (fun n => Eq.refl _)
set_option maxRecDepth 1000000 in
set_option maxHeartbeats 4000000 in
theorem R_f_Y_undo_2 (d : Nat) (Y T H2 H RU RV ST NS I0 I1 I2 BO FI RG GU PU MA MN MS OT SC : Nat → Nat → Int32) (w r5 : Nat) (L : Nat) (Lg : Int64) {r : Int32 × (Nat → Nat → Int32)} (h : f_Y_undo NS = some r) : Ev (d + 2, 0, 0, 298, 0, [.val (.ref 64)], [], (126, 120, L, [Y, T, H2, H, RU, RV, ST, NS, I0, I1, I2, BO, FI, RG, GU, PU, MA, MN, MS, OT, SC], [256, 192, 320, 384, w, r5, 576, 640, 704], Lg)) ((0, some (.int r.1), (126, 120, L, [Y, T, H2, H, RU, RV, ST, r.2, I0, I1, I2, BO, FI, RG, GU, PU, MA, MN, MS, OT, SC], [256, 192, 320, 384, w, r5, 576, 640, 704], Lg)) : AOut) := by
  suffices key : ∀ o : AOut, ((0, some (.int r.1), (126, 120, L, [Y, T, H2, H, RU, RV, ST, r.2, I0, I1, I2, BO, FI, RG, GU, PU, MA, MN, MS, OT, SC], [256, 192, 320, 384, w, r5, 576, 640, 704], Lg)) : AOut) = o → Ev (d + 2, 0, 0, 298, 0, [.val (.ref 64)], [], (126, 120, L, [Y, T, H2, H, RU, RV, ST, NS, I0, I1, I2, BO, FI, RG, GU, PU, MA, MN, MS, OT, SC], [256, 192, 320, 384, w, r5, 576, 640, 704], Lg)) o from key _ rfl
  intro o ho
  obtain ⟨⟨x1, NS_2⟩, zh1, h⟩ := bnd h
  have zh1 : f_State_takeBack NS = some (x1, NS_2) := zh1
  have ze2 := R_f_State_takeBack_0 (d + 0) Y T H2 H RU RV ST NS I0 I1 I2 BO FI RG GU PU MA MN MS OT SC 256 192 320 384 w r5 576 640 704 L Lg zh1
  suffices e : Ev (d + 2, 0, 0, 298, 7, [.val (.ref 64)], [.int x1], (126, 120, L, [Y, T, H2, H, RU, RV, ST, NS_2, I0, I1, I2, BO, FI, RG, GU, PU, MA, MN, MS, OT, SC], [256, 192, 320, 384, w, r5, 576, 640, 704], Lg)) o from ev_call (fun v μ => (d + 2, 0, 0, 298, 7, [.val (.ref 64)], v.toList ++ [], μ)) 3 ze2 e (fun n => Eq.refl _)
  have ze3 := Option.some.inj h
  subst ze3
  exact ev_rete 1 ho (fun n => Eq.refl _)
set_option maxRecDepth 1000000 in
set_option maxHeartbeats 4000000 in
theorem R_f_Y_undo_3 (d : Nat) (Y T H2 H RV RU ST NS I0 I1 I2 BO FI RG GU PU MA MN MS OT SC : Nat → Nat → Int32) (w r5 : Nat) (L : Nat) (Lg : Int64) {r : Int32 × (Nat → Nat → Int32)} (h : f_Y_undo NS = some r) : Ev (d + 2, 0, 0, 298, 0, [.val (.ref 64)], [], (126, 120, L, [Y, T, H2, H, RV, RU, ST, NS, I0, I1, I2, BO, FI, RG, GU, PU, MA, MN, MS, OT, SC], [256, 192, 384, 320, w, r5, 576, 640, 704], Lg)) ((0, some (.int r.1), (126, 120, L, [Y, T, H2, H, RV, RU, ST, r.2, I0, I1, I2, BO, FI, RG, GU, PU, MA, MN, MS, OT, SC], [256, 192, 384, 320, w, r5, 576, 640, 704], Lg)) : AOut) := by
  suffices key : ∀ o : AOut, ((0, some (.int r.1), (126, 120, L, [Y, T, H2, H, RV, RU, ST, r.2, I0, I1, I2, BO, FI, RG, GU, PU, MA, MN, MS, OT, SC], [256, 192, 384, 320, w, r5, 576, 640, 704], Lg)) : AOut) = o → Ev (d + 2, 0, 0, 298, 0, [.val (.ref 64)], [], (126, 120, L, [Y, T, H2, H, RV, RU, ST, NS, I0, I1, I2, BO, FI, RG, GU, PU, MA, MN, MS, OT, SC], [256, 192, 384, 320, w, r5, 576, 640, 704], Lg)) o from key _ rfl
  intro o ho
  obtain ⟨⟨x1, NS_2⟩, zh1, h⟩ := bnd h
  have zh1 : f_State_takeBack NS = some (x1, NS_2) := zh1
  have ze2 := R_f_State_takeBack_0 (d + 0) Y T H2 H RV RU ST NS I0 I1 I2 BO FI RG GU PU MA MN MS OT SC 256 192 384 320 w r5 576 640 704 L Lg zh1
  suffices e : Ev (d + 2, 0, 0, 298, 7, [.val (.ref 64)], [.int x1], (126, 120, L, [Y, T, H2, H, RV, RU, ST, NS_2, I0, I1, I2, BO, FI, RG, GU, PU, MA, MN, MS, OT, SC], [256, 192, 384, 320, w, r5, 576, 640, 704], Lg)) o from ev_call (fun v μ => (d + 2, 0, 0, 298, 7, [.val (.ref 64)], v.toList ++ [], μ)) 3 ze2 e (fun n => Eq.refl _)
  have ze3 := Option.some.inj h
  subst ze3
  exact ev_rete 1 ho (fun n => Eq.refl _)
set_option maxRecDepth 1000000 in
set_option maxHeartbeats 4000000 in
theorem R_f_Y_needHold_0 (d : Nat) (Y T H H2 RU RV ST NS I0 I1 I2 BO FI RG GU PU MA MN MS OT SC : Nat → Nat → Int32) (w r5 : Nat) (L : Nat) (Lg : Int64) (p1 : Int32) {r : Nat × (Nat → Nat → Int32)} (h : f_Y_needHold Y H p1 = some r) : Ev (d + 1, 1, 8, 338, 0, [.val (.ref 64), .val (.int p1)], [], (126, 120, L, [Y, T, H, H2, RU, RV, ST, NS, I0, I1, I2, BO, FI, RG, GU, PU, MA, MN, MS, OT, SC], [192, 256, 320, 384, w, r5, 576, 640, 704], Lg)) ((r.1, none, (126, 120, L, [r.2, T, H, H2, RU, RV, ST, NS, I0, I1, I2, BO, FI, RG, GU, PU, MA, MN, MS, OT, SC], [192, 256, 320, 384, w, r5, 576, 640, 704], Lg)) : AOut) := by
  suffices key : ∀ o : AOut, ((r.1, none, (126, 120, L, [r.2, T, H, H2, RU, RV, ST, NS, I0, I1, I2, BO, FI, RG, GU, PU, MA, MN, MS, OT, SC], [192, 256, 320, 384, w, r5, 576, 640, 704], Lg)) : AOut) = o → Ev (d + 1, 1, 8, 338, 0, [.val (.ref 64), .val (.int p1)], [], (126, 120, L, [Y, T, H, H2, RU, RV, ST, NS, I0, I1, I2, BO, FI, RG, GU, PU, MA, MN, MS, OT, SC], [192, 256, 320, 384, w, r5, 576, 640, 704], Lg)) o from key _ rfl
  intro o ho
  suffices e : Ev (d + 1, 1, 8, 338, 6, [.val (.ref 64), .val (.int p1)], [.ref 192, .int p1, .ref 64], (126, 120, L, [Y, T, H, H2, RU, RV, ST, NS, I0, I1, I2, BO, FI, RG, GU, PU, MA, MN, MS, OT, SC], [192, 256, 320, 384, w, r5, 576, 640, 704], Lg)) o from ev_b 4 e (fun n => Eq.refl _)
  obtain ⟨⟨q1, Y_2⟩, zh1, h⟩ := bnd h
  have zh1 : f_Y_needOneOf Y p1 (H 0 4) = some (q1, Y_2) := zh1
  have ze2 := R_f_Y_needOneOf_0 (d + 0) Y T H H2 RU RV ST NS I0 I1 I2 BO FI RG GU PU MA MN MS OT SC w r5 L Lg p1 (H 0 4) zh1
  cases q1 with
  | zero =>
    have h := itp h rfl
    suffices e : Ev (d + 1, 0, 0, 338, 12, [.val (.ref 64), .val (.int p1)], [], (126, 120, L, [Y_2, T, H, H2, RU, RV, ST, NS, I0, I1, I2, BO, FI, RG, GU, PU, MA, MN, MS, OT, SC], [192, 256, 320, 384, w, r5, 576, 640, 704], Lg)) o from ev_call (fun v μ => (d + 1, 0, 0, 338, 12, [.val (.ref 64), .val (.int p1)], v.toList ++ [], μ)) 2 ze2 e (fun n => Eq.refl _)
    have ze3 := Option.some.inj h
    subst ze3
    exact ev_rete 1 ho (fun n => Eq.refl _)
  | succ q1 =>
    have h := itn h (Nat.succ_ne_zero q1)
    have ze4 := Option.some.inj h
    subst ze4
    subst ho
    exact ev_thr (fun v μ => (d + 1, 0, 0, 338, 12, [.val (.ref 64), .val (.int p1)], v.toList ++ [], μ)) 2 ze2 (fun n => Eq.refl _) (fun n => rfl)
set_option maxRecDepth 1000000 in
set_option maxHeartbeats 4000000 in
theorem R_f_Y_let_0 (d : Nat) (Y T H H2 RU RV ST NS I0 I1 I2 BO FI RG GU PU MA MN MS OT SC : Nat → Nat → Int32) (w r5 : Nat) (L : Nat) (Lg : Int64) (p1 : Int32) {r : Nat × Int32 × (Nat → Nat → Int32) × (Nat → Nat → Int32)} (h : f_Y_let Y H NS p1 = some r) : Ev (d + 2, 1, 8, 299, 0, [.val (.ref 64), .val (.int p1)], [], (126, 120, L, [Y, T, H, H2, RU, RV, ST, NS, I0, I1, I2, BO, FI, RG, GU, PU, MA, MN, MS, OT, SC], [192, 256, 320, 384, w, r5, 576, 640, 704], Lg)) ((r.1, a_ov r.1 (.int r.2.1), (126, 120, L, [r.2.2.1, T, H, H2, RU, RV, ST, r.2.2.2, I0, I1, I2, BO, FI, RG, GU, PU, MA, MN, MS, OT, SC], [192, 256, 320, 384, w, r5, 576, 640, 704], Lg)) : AOut) := by
  suffices key : ∀ o : AOut, ((r.1, a_ov r.1 (.int r.2.1), (126, 120, L, [r.2.2.1, T, H, H2, RU, RV, ST, r.2.2.2, I0, I1, I2, BO, FI, RG, GU, PU, MA, MN, MS, OT, SC], [192, 256, 320, 384, w, r5, 576, 640, 704], Lg)) : AOut) = o → Ev (d + 2, 1, 8, 299, 0, [.val (.ref 64), .val (.int p1)], [], (126, 120, L, [Y, T, H, H2, RU, RV, ST, NS, I0, I1, I2, BO, FI, RG, GU, PU, MA, MN, MS, OT, SC], [192, 256, 320, 384, w, r5, 576, 640, 704], Lg)) o from key _ rfl
  intro o ho
  obtain ⟨⟨q1, Y_2⟩, zh1, h⟩ := bnd h
  have zh1 : f_Y_needHold Y H p1 = some (q1, Y_2) := zh1
  have ze2 := R_f_Y_needHold_0 (d + 0) Y T H H2 RU RV ST NS I0 I1 I2 BO FI RG GU PU MA MN MS OT SC w r5 L Lg p1 zh1
  cases q1 with
  | zero =>
    have h := itp h rfl
    suffices e : Ev (d + 2, 0, 0, 299, 5, [.val (.ref 64), .val (.int p1)], [], (126, 120, L, [Y_2, T, H, H2, RU, RV, ST, NS, I0, I1, I2, BO, FI, RG, GU, PU, MA, MN, MS, OT, SC], [192, 256, 320, 384, w, r5, 576, 640, 704], Lg)) o from ev_call (fun v μ => (d + 2, 0, 0, 299, 5, [.val (.ref 64), .val (.int p1)], v.toList ++ [], μ)) 3 ze2 e (fun n => Eq.refl _)
    obtain ⟨x3, zh3, h⟩ := bnd h
    have zh3 : f_State_isHeld NS p1 = some x3 := zh3
    have ze4 := R_f_State_isHeld_0 (d + 1) Y_2 T H H2 RU RV ST NS I0 I1 I2 BO FI RG GU PU MA MN MS OT SC 192 256 320 384 w r5 576 640 704 L Lg p1 zh3
    suffices e : Ev (d + 2, 0, 0, 299, 13, [.val (.ref 64), .val (.int p1)], [.int x3], (126, 120, L, [Y_2, T, H, H2, RU, RV, ST, NS, I0, I1, I2, BO, FI, RG, GU, PU, MA, MN, MS, OT, SC], [192, 256, 320, 384, w, r5, 576, 640, 704], Lg)) o from ev_call (fun v μ => (d + 2, 0, 0, 299, 13, [.val (.ref 64), .val (.int p1)], v.toList ++ [], μ)) 4 ze4 e (fun n => Eq.refl _)
    by_cases zc5 : x3 ≠ 0
    · have h := itp h zc5
      suffices e : Ev (d + 2, 0, 0, 299, 18, [.val (.ref 64), .val (.int p1)], [], (126, 120, L, [Y_2, T, H, H2, RU, RV, ST, NS, I0, I1, I2, BO, FI, RG, GU, PU, MA, MN, MS, OT, SC], [192, 256, 320, 384, w, r5, 576, 640, 704], Lg)) o from ev_t (c := x3 ≠ 0) _ _ 1  zc5 e (fun n => Eq.refl _)
      have ze6 := Option.some.inj h
      subst ze6
      exact ev_rete 11 ho (fun n => Eq.refl _)
    · have h := itn h zc5
      suffices e : Ev (d + 2, 0, 0, 299, 16, [.val (.ref 64), .val (.int p1)], [], (126, 120, L, [Y_2, T, H, H2, RU, RV, ST, NS, I0, I1, I2, BO, FI, RG, GU, PU, MA, MN, MS, OT, SC], [192, 256, 320, 384, w, r5, 576, 640, 704], Lg)) o from ev_f (c := x3 ≠ 0) _ _ 1  zc5 e (fun n => Eq.refl _)
      have ze7 := Option.some.inj h
      subst ze7
      exact ev_rete 2 ho (fun n => Eq.refl _)
  | succ q1 =>
    have h := itn h (Nat.succ_ne_zero q1)
    have ze8 := Option.some.inj h
    subst ze8
    subst ho
    exact ev_thr (fun v μ => (d + 2, 0, 0, 299, 5, [.val (.ref 64), .val (.int p1)], v.toList ++ [], μ)) 3 ze2 (fun n => Eq.refl _) (fun n => rfl)
set_option maxRecDepth 1000000 in
set_option maxHeartbeats 4000000 in
theorem R_f_Y_needHold_1 (d : Nat) (Y T H H2 RV RU ST NS I0 I1 I2 BO FI RG GU PU MA MN MS OT SC : Nat → Nat → Int32) (w r5 : Nat) (L : Nat) (Lg : Int64) (p1 : Int32) {r : Nat × (Nat → Nat → Int32)} (h : f_Y_needHold Y H p1 = some r) : Ev (d + 1, 1, 8, 338, 0, [.val (.ref 64), .val (.int p1)], [], (126, 120, L, [Y, T, H, H2, RV, RU, ST, NS, I0, I1, I2, BO, FI, RG, GU, PU, MA, MN, MS, OT, SC], [192, 256, 384, 320, w, r5, 576, 640, 704], Lg)) ((r.1, none, (126, 120, L, [r.2, T, H, H2, RV, RU, ST, NS, I0, I1, I2, BO, FI, RG, GU, PU, MA, MN, MS, OT, SC], [192, 256, 384, 320, w, r5, 576, 640, 704], Lg)) : AOut) := by
  suffices key : ∀ o : AOut, ((r.1, none, (126, 120, L, [r.2, T, H, H2, RV, RU, ST, NS, I0, I1, I2, BO, FI, RG, GU, PU, MA, MN, MS, OT, SC], [192, 256, 384, 320, w, r5, 576, 640, 704], Lg)) : AOut) = o → Ev (d + 1, 1, 8, 338, 0, [.val (.ref 64), .val (.int p1)], [], (126, 120, L, [Y, T, H, H2, RV, RU, ST, NS, I0, I1, I2, BO, FI, RG, GU, PU, MA, MN, MS, OT, SC], [192, 256, 384, 320, w, r5, 576, 640, 704], Lg)) o from key _ rfl
  intro o ho
  suffices e : Ev (d + 1, 1, 8, 338, 6, [.val (.ref 64), .val (.int p1)], [.ref 192, .int p1, .ref 64], (126, 120, L, [Y, T, H, H2, RV, RU, ST, NS, I0, I1, I2, BO, FI, RG, GU, PU, MA, MN, MS, OT, SC], [192, 256, 384, 320, w, r5, 576, 640, 704], Lg)) o from ev_b 4 e (fun n => Eq.refl _)
  obtain ⟨⟨q1, Y_2⟩, zh1, h⟩ := bnd h
  have zh1 : f_Y_needOneOf Y p1 (H 0 4) = some (q1, Y_2) := zh1
  have ze2 := R_f_Y_needOneOf_1 (d + 0) Y T H H2 RV RU ST NS I0 I1 I2 BO FI RG GU PU MA MN MS OT SC w r5 L Lg p1 (H 0 4) zh1
  cases q1 with
  | zero =>
    have h := itp h rfl
    suffices e : Ev (d + 1, 0, 0, 338, 12, [.val (.ref 64), .val (.int p1)], [], (126, 120, L, [Y_2, T, H, H2, RV, RU, ST, NS, I0, I1, I2, BO, FI, RG, GU, PU, MA, MN, MS, OT, SC], [192, 256, 384, 320, w, r5, 576, 640, 704], Lg)) o from ev_call (fun v μ => (d + 1, 0, 0, 338, 12, [.val (.ref 64), .val (.int p1)], v.toList ++ [], μ)) 2 ze2 e (fun n => Eq.refl _)
    have ze3 := Option.some.inj h
    subst ze3
    exact ev_rete 1 ho (fun n => Eq.refl _)
  | succ q1 =>
    have h := itn h (Nat.succ_ne_zero q1)
    have ze4 := Option.some.inj h
    subst ze4
    subst ho
    exact ev_thr (fun v μ => (d + 1, 0, 0, 338, 12, [.val (.ref 64), .val (.int p1)], v.toList ++ [], μ)) 2 ze2 (fun n => Eq.refl _) (fun n => rfl)
set_option maxRecDepth 1000000 in
set_option maxHeartbeats 4000000 in
theorem R_f_Y_let_1 (d : Nat) (Y T H H2 RV RU ST NS I0 I1 I2 BO FI RG GU PU MA MN MS OT SC : Nat → Nat → Int32) (w r5 : Nat) (L : Nat) (Lg : Int64) (p1 : Int32) {r : Nat × Int32 × (Nat → Nat → Int32) × (Nat → Nat → Int32)} (h : f_Y_let Y H NS p1 = some r) : Ev (d + 2, 1, 8, 299, 0, [.val (.ref 64), .val (.int p1)], [], (126, 120, L, [Y, T, H, H2, RV, RU, ST, NS, I0, I1, I2, BO, FI, RG, GU, PU, MA, MN, MS, OT, SC], [192, 256, 384, 320, w, r5, 576, 640, 704], Lg)) ((r.1, a_ov r.1 (.int r.2.1), (126, 120, L, [r.2.2.1, T, H, H2, RV, RU, ST, r.2.2.2, I0, I1, I2, BO, FI, RG, GU, PU, MA, MN, MS, OT, SC], [192, 256, 384, 320, w, r5, 576, 640, 704], Lg)) : AOut) := by
  suffices key : ∀ o : AOut, ((r.1, a_ov r.1 (.int r.2.1), (126, 120, L, [r.2.2.1, T, H, H2, RV, RU, ST, r.2.2.2, I0, I1, I2, BO, FI, RG, GU, PU, MA, MN, MS, OT, SC], [192, 256, 384, 320, w, r5, 576, 640, 704], Lg)) : AOut) = o → Ev (d + 2, 1, 8, 299, 0, [.val (.ref 64), .val (.int p1)], [], (126, 120, L, [Y, T, H, H2, RV, RU, ST, NS, I0, I1, I2, BO, FI, RG, GU, PU, MA, MN, MS, OT, SC], [192, 256, 384, 320, w, r5, 576, 640, 704], Lg)) o from key _ rfl
  intro o ho
  obtain ⟨⟨q1, Y_2⟩, zh1, h⟩ := bnd h
  have zh1 : f_Y_needHold Y H p1 = some (q1, Y_2) := zh1
  have ze2 := R_f_Y_needHold_1 (d + 0) Y T H H2 RV RU ST NS I0 I1 I2 BO FI RG GU PU MA MN MS OT SC w r5 L Lg p1 zh1
  cases q1 with
  | zero =>
    have h := itp h rfl
    suffices e : Ev (d + 2, 0, 0, 299, 5, [.val (.ref 64), .val (.int p1)], [], (126, 120, L, [Y_2, T, H, H2, RV, RU, ST, NS, I0, I1, I2, BO, FI, RG, GU, PU, MA, MN, MS, OT, SC], [192, 256, 384, 320, w, r5, 576, 640, 704], Lg)) o from ev_call (fun v μ => (d + 2, 0, 0, 299, 5, [.val (.ref 64), .val (.int p1)], v.toList ++ [], μ)) 3 ze2 e (fun n => Eq.refl _)
    obtain ⟨x3, zh3, h⟩ := bnd h
    have zh3 : f_State_isHeld NS p1 = some x3 := zh3
    have ze4 := R_f_State_isHeld_0 (d + 1) Y_2 T H H2 RV RU ST NS I0 I1 I2 BO FI RG GU PU MA MN MS OT SC 192 256 384 320 w r5 576 640 704 L Lg p1 zh3
    suffices e : Ev (d + 2, 0, 0, 299, 13, [.val (.ref 64), .val (.int p1)], [.int x3], (126, 120, L, [Y_2, T, H, H2, RV, RU, ST, NS, I0, I1, I2, BO, FI, RG, GU, PU, MA, MN, MS, OT, SC], [192, 256, 384, 320, w, r5, 576, 640, 704], Lg)) o from ev_call (fun v μ => (d + 2, 0, 0, 299, 13, [.val (.ref 64), .val (.int p1)], v.toList ++ [], μ)) 4 ze4 e (fun n => Eq.refl _)
    by_cases zc5 : x3 ≠ 0
    · have h := itp h zc5
      suffices e : Ev (d + 2, 0, 0, 299, 18, [.val (.ref 64), .val (.int p1)], [], (126, 120, L, [Y_2, T, H, H2, RV, RU, ST, NS, I0, I1, I2, BO, FI, RG, GU, PU, MA, MN, MS, OT, SC], [192, 256, 384, 320, w, r5, 576, 640, 704], Lg)) o from ev_t (c := x3 ≠ 0) _ _ 1  zc5 e (fun n => Eq.refl _)
      have ze6 := Option.some.inj h
      subst ze6
      exact ev_rete 11 ho (fun n => Eq.refl _)
    · have h := itn h zc5
      suffices e : Ev (d + 2, 0, 0, 299, 16, [.val (.ref 64), .val (.int p1)], [], (126, 120, L, [Y_2, T, H, H2, RV, RU, ST, NS, I0, I1, I2, BO, FI, RG, GU, PU, MA, MN, MS, OT, SC], [192, 256, 384, 320, w, r5, 576, 640, 704], Lg)) o from ev_f (c := x3 ≠ 0) _ _ 1  zc5 e (fun n => Eq.refl _)
      have ze7 := Option.some.inj h
      subst ze7
      exact ev_rete 2 ho (fun n => Eq.refl _)
  | succ q1 =>
    have h := itn h (Nat.succ_ne_zero q1)
    have ze8 := Option.some.inj h
    subst ze8
    subst ho
    exact ev_thr (fun v μ => (d + 2, 0, 0, 299, 5, [.val (.ref 64), .val (.int p1)], v.toList ++ [], μ)) 3 ze2 (fun n => Eq.refl _) (fun n => rfl)
set_option maxRecDepth 1000000 in
set_option maxHeartbeats 4000000 in
theorem R_f_Y_needHold_2 (d : Nat) (Y T H2 H RU RV ST NS I0 I1 I2 BO FI RG GU PU MA MN MS OT SC : Nat → Nat → Int32) (w r5 : Nat) (L : Nat) (Lg : Int64) (p1 : Int32) {r : Nat × (Nat → Nat → Int32)} (h : f_Y_needHold Y H p1 = some r) : Ev (d + 1, 1, 8, 338, 0, [.val (.ref 64), .val (.int p1)], [], (126, 120, L, [Y, T, H2, H, RU, RV, ST, NS, I0, I1, I2, BO, FI, RG, GU, PU, MA, MN, MS, OT, SC], [256, 192, 320, 384, w, r5, 576, 640, 704], Lg)) ((r.1, none, (126, 120, L, [r.2, T, H2, H, RU, RV, ST, NS, I0, I1, I2, BO, FI, RG, GU, PU, MA, MN, MS, OT, SC], [256, 192, 320, 384, w, r5, 576, 640, 704], Lg)) : AOut) := by
  suffices key : ∀ o : AOut, ((r.1, none, (126, 120, L, [r.2, T, H2, H, RU, RV, ST, NS, I0, I1, I2, BO, FI, RG, GU, PU, MA, MN, MS, OT, SC], [256, 192, 320, 384, w, r5, 576, 640, 704], Lg)) : AOut) = o → Ev (d + 1, 1, 8, 338, 0, [.val (.ref 64), .val (.int p1)], [], (126, 120, L, [Y, T, H2, H, RU, RV, ST, NS, I0, I1, I2, BO, FI, RG, GU, PU, MA, MN, MS, OT, SC], [256, 192, 320, 384, w, r5, 576, 640, 704], Lg)) o from key _ rfl
  intro o ho
  suffices e : Ev (d + 1, 1, 8, 338, 6, [.val (.ref 64), .val (.int p1)], [.ref 256, .int p1, .ref 64], (126, 120, L, [Y, T, H2, H, RU, RV, ST, NS, I0, I1, I2, BO, FI, RG, GU, PU, MA, MN, MS, OT, SC], [256, 192, 320, 384, w, r5, 576, 640, 704], Lg)) o from ev_b 4 e (fun n => Eq.refl _)
  obtain ⟨⟨q1, Y_2⟩, zh1, h⟩ := bnd h
  have zh1 : f_Y_needOneOf Y p1 (H 0 4) = some (q1, Y_2) := zh1
  have ze2 := R_f_Y_needOneOf_2 (d + 0) Y T H2 H RU RV ST NS I0 I1 I2 BO FI RG GU PU MA MN MS OT SC w r5 L Lg p1 (H 0 4) zh1
  cases q1 with
  | zero =>
    have h := itp h rfl
    suffices e : Ev (d + 1, 0, 0, 338, 12, [.val (.ref 64), .val (.int p1)], [], (126, 120, L, [Y_2, T, H2, H, RU, RV, ST, NS, I0, I1, I2, BO, FI, RG, GU, PU, MA, MN, MS, OT, SC], [256, 192, 320, 384, w, r5, 576, 640, 704], Lg)) o from ev_call (fun v μ => (d + 1, 0, 0, 338, 12, [.val (.ref 64), .val (.int p1)], v.toList ++ [], μ)) 2 ze2 e (fun n => Eq.refl _)
    have ze3 := Option.some.inj h
    subst ze3
    exact ev_rete 1 ho (fun n => Eq.refl _)
  | succ q1 =>
    have h := itn h (Nat.succ_ne_zero q1)
    have ze4 := Option.some.inj h
    subst ze4
    subst ho
    exact ev_thr (fun v μ => (d + 1, 0, 0, 338, 12, [.val (.ref 64), .val (.int p1)], v.toList ++ [], μ)) 2 ze2 (fun n => Eq.refl _) (fun n => rfl)
