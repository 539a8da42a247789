/-! printed by program (gen/emitm.py): the reference's methods run as their functions say -/
set_option maxRecDepth 1000000 in
set_option maxHeartbeats 4000000 in
theorem R_f_Y_needMeeting_0 (d : Nat) (Y T H H2 RU RV ST NS I0 I1 I2 BO FI RG GU PU MA MN MS OT SC : Nat → Nat → Int32) (w r5 : Nat) (L : Nat) (Lg : Int64) (p1 : Int32) {r : Nat × (Nat → Nat → Int32)} (h : f_Y_needMeeting Y H p1 = some r) : Ev (d + 1, 1, 8, 335, 0, [.val (.ref 64), .val (.int p1)], [], (126, 120, L, [Y, T, H, H2, RU, RV, ST, NS, I0, I1, I2, BO, FI, RG, GU, PU, MA, MN, MS, OT, SC], [192, 256, 320, 384, w, r5, 576, 640, 704], Lg)) ((r.1, none, (126, 120, L, [r.2, T, H, H2, RU, RV, ST, NS, I0, I1, I2, BO, FI, RG, GU, PU, MA, MN, MS, OT, SC], [192, 256, 320, 384, w, r5, 576, 640, 704], Lg)) : AOut) := by
  suffices key : ∀ o : AOut, ((r.1, none, (126, 120, L, [r.2, T, H, H2, RU, RV, ST, NS, I0, I1, I2, BO, FI, RG, GU, PU, MA, MN, MS, OT, SC], [192, 256, 320, 384, w, r5, 576, 640, 704], Lg)) : AOut) = o → Ev (d + 1, 1, 8, 335, 0, [.val (.ref 64), .val (.int p1)], [], (126, 120, L, [Y, T, H, H2, RU, RV, ST, NS, I0, I1, I2, BO, FI, RG, GU, PU, MA, MN, MS, OT, SC], [192, 256, 320, 384, w, r5, 576, 640, 704], Lg)) o from key _ rfl
  intro o ho
  suffices e : Ev (d + 1, 1, 8, 335, 6, [.val (.ref 64), .val (.int p1)], [.ref 192, .int p1, .ref 64], (126, 120, L, [Y, T, H, H2, RU, RV, ST, NS, I0, I1, I2, BO, FI, RG, GU, PU, MA, MN, MS, OT, SC], [192, 256, 320, 384, w, r5, 576, 640, 704], Lg)) o from ev_b 4 e (fun n => Eq.refl _)
  obtain ⟨⟨q1, Y_2⟩, zh1, h⟩ := bnd h
  have zh1 : f_Y_needOneOf Y p1 (H 0 3) = some (q1, Y_2) := zh1
  have ze2 := R_f_Y_needOneOf_0 (d + 0) Y T H H2 RU RV ST NS I0 I1 I2 BO FI RG GU PU MA MN MS OT SC w r5 L Lg p1 (H 0 3) zh1
  cases q1 with
  | zero =>
    have h := itp h rfl
    suffices e : Ev (d + 1, 0, 0, 335, 12, [.val (.ref 64), .val (.int p1)], [], (126, 120, L, [Y_2, T, H, H2, RU, RV, ST, NS, I0, I1, I2, BO, FI, RG, GU, PU, MA, MN, MS, OT, SC], [192, 256, 320, 384, w, r5, 576, 640, 704], Lg)) o from ev_call (fun v μ => (d + 1, 0, 0, 335, 12, [.val (.ref 64), .val (.int p1)], v.toList ++ [], μ)) 2 ze2 e (fun n => Eq.refl _)
    have ze3 := Option.some.inj h
    subst ze3
    exact ev_rete 1 ho (fun n => Eq.refl _)
  | succ q1 =>
    have h := itn h (Nat.succ_ne_zero q1)
    have ze4 := Option.some.inj h
    subst ze4
    subst ho
    exact ev_thr (fun v μ => (d + 1, 0, 0, 335, 12, [.val (.ref 64), .val (.int p1)], v.toList ++ [], μ)) 2 ze2 (fun n => Eq.refl _) (fun n => rfl)
set_option maxRecDepth 1000000 in
set_option maxHeartbeats 4000000 in
theorem R_f_House_isFixed_0 (d : Nat) (Y T H H2 RA RB ST NS I0 I1 I2 BO FI RG GU PU MA MN MS OT SC : Nat → Nat → Int32) (r0 r1 r2 r3 w r5 r6 r7 r8 : Nat) (L : Nat) (Lg : Int64) (p1 : Int32) {r : Int32} (h : f_House_isFixed H p1 = some r) : Ev (d + 0, 0, 0, 220, 0, [.val (.ref 192), .val (.int p1)], [], (126, 120, L, [Y, T, H, H2, RA, RB, ST, NS, I0, I1, I2, BO, FI, RG, GU, PU, MA, MN, MS, OT, SC], [r0, r1, r2, r3, w, r5, r6, r7, r8], Lg)) ((0, some (.int r), (126, 120, L, [Y, T, H, H2, RA, RB, ST, NS, I0, I1, I2, BO, FI, RG, GU, PU, MA, MN, MS, OT, SC], [r0, r1, r2, r3, w, r5, r6, r7, r8], Lg)) : AOut) := by
  suffices key : ∀ o : AOut, ((0, some (.int r), (126, 120, L, [Y, T, H, H2, RA, RB, ST, NS, I0, I1, I2, BO, FI, RG, GU, PU, MA, MN, MS, OT, SC], [r0, r1, r2, r3, w, r5, r6, r7, r8], Lg)) : AOut) = o → Ev (d + 0, 0, 0, 220, 0, [.val (.ref 192), .val (.int p1)], [], (126, 120, L, [Y, T, H, H2, RA, RB, ST, NS, I0, I1, I2, BO, FI, RG, GU, PU, MA, MN, MS, OT, SC], [r0, r1, r2, r3, w, r5, r6, r7, r8], Lg)) o from key _ rfl
  intro o ho
  by_cases zc1 : ((a_shr (H 0 5) p1) &&& 1) = 0
  · have h := itp h zc1
    suffices e : Ev (d + 0, 0, 0, 220, 15, [.val (.ref 192), .val (.int p1)], [], (126, 120, L, [Y, T, H, H2, RA, RB, ST, NS, I0, I1, I2, BO, FI, RG, GU, PU, MA, MN, MS, OT, SC], [r0, r1, r2, r3, w, r5, r6, r7, r8], Lg)) o from ev_t (c := ((a_shr (H 0 5) p1) &&& 1) = 0) _ _ 7  zc1 e (fun n => Eq.refl _)
    have ze2 := Option.some.inj h
    subst ze2
    exact ev_rete 2 ho (fun n => Eq.refl _)
  · have h := itn h zc1
    suffices e : Ev (d + 0, 0, 0, 220, 11, [.val (.ref 192), .val (.int p1)], [], (126, 120, L, [Y, T, H, H2, RA, RB, ST, NS, I0, I1, I2, BO, FI, RG, GU, PU, MA, MN, MS, OT, SC], [r0, r1, r2, r3, w, r5, r6, r7, r8], Lg)) o from ev_f (c := ((a_shr (H 0 5) p1) &&& 1) = 0) _ _ 7  zc1 e (fun n => Eq.refl _)
    have ze3 := Option.some.inj h
    subst ze3
    exact ev_rete 3 ho (fun n => Eq.refl _)
set_option maxRecDepth 1000000 in
set_option maxHeartbeats 4000000 in
theorem R_f_Y_meeting_0 (d : Nat) (Y T H H2 RU RV ST NS I0 I1 I2 BO FI RG GU PU MA MN MS OT SC : Nat → Nat → Int32) (w r5 : Nat) (L : Nat) (Lg : Int64) (p1 : Int32) (p2 : Int32) {r : Nat × Int32 × (Nat → Nat → Int32)} (h : f_Y_meeting Y H NS p1 p2 = some r) : Ev (d + 2, 2, 16, 289, 0, [.val (.ref 64), .val (.int p1), .val (.int p2), .val a_unk], [], (126, 120, L, [Y, T, H, H2, RU, RV, ST, NS, I0, I1, I2, BO, FI, RG, GU, PU, MA, MN, MS, OT, SC], [192, 256, 320, 384, w, r5, 576, 640, 704], Lg)) ((r.1, a_ov r.1 (.int r.2.1), (126, 120, L, [r.2.2, T, H, H2, RU, RV, ST, NS, I0, I1, I2, BO, FI, RG, GU, PU, MA, MN, MS, OT, SC], [192, 256, 320, 384, w, r5, 576, 640, 704], Lg)) : AOut) := by
  suffices key : ∀ o : AOut, ((r.1, a_ov r.1 (.int r.2.1), (126, 120, L, [r.2.2, T, H, H2, RU, RV, ST, NS, I0, I1, I2, BO, FI, RG, GU, PU, MA, MN, MS, OT, SC], [192, 256, 320, 384, w, r5, 576, 640, 704], Lg)) : AOut) = o → Ev (d + 2, 2, 16, 289, 0, [.val (.ref 64), .val (.int p1), .val (.int p2), .val a_unk], [], (126, 120, L, [Y, T, H, H2, RU, RV, ST, NS, I0, I1, I2, BO, FI, RG, GU, PU, MA, MN, MS, OT, SC], [192, 256, 320, 384, w, r5, 576, 640, 704], Lg)) o from key _ rfl
  intro o ho
  obtain ⟨⟨q1, Y_2⟩, zh1, h⟩ := bnd h
  have zh1 : f_Y_needMeeting Y H p1 = some (q1, Y_2) := zh1
  have ze2 := R_f_Y_needMeeting_0 (d + 0) Y T H H2 RU RV ST NS I0 I1 I2 BO FI RG GU PU MA MN MS OT SC w r5 L Lg p1 zh1
  cases q1 with
  | zero =>
    have h := itp h rfl
    suffices e : Ev (d + 2, 1, 8, 289, 5, [.val (.ref 64), .val (.int p1), .val (.int p2), .val a_unk], [], (126, 120, L, [Y_2, T, H, H2, RU, RV, ST, NS, I0, I1, I2, BO, FI, RG, GU, PU, MA, MN, MS, OT, SC], [192, 256, 320, 384, w, r5, 576, 640, 704], Lg)) o from ev_call (fun v μ => (d + 2, 1, 8, 289, 5, [.val (.ref 64), .val (.int p1), .val (.int p2), .val a_unk], v.toList ++ [], μ)) 3 ze2 e (fun n => Eq.refl _)
    obtain ⟨zt3, zh4, h⟩ := bnd h
    have zj5 : ∀ (v3 : Int32), v3 = zt3 → Ev (d + 2, 1, 8, 289, 21, [.val (.ref 64), .val (.int p1), .val (.int p2), .val a_unk], [.int v3, .ref 64], (126, 120, L, [Y_2, T, H, H2, RU, RV, ST, NS, I0, I1, I2, BO, FI, RG, GU, PU, MA, MN, MS, OT, SC], [192, 256, 320, 384, w, r5, 576, 640, 704], Lg)) o := by
      intro v3 ze6
      subst ze6
      obtain ⟨⟨q4, Y_5⟩, zh7, h⟩ := bnd h
      have zh7 : f_Y_refuseUnless Y_2 v3 = some (q4, Y_5) := zh7
      have ze8 := R_f_Y_refuseUnless_0 (d + 1) Y_2 T H H2 RU RV ST NS I0 I1 I2 BO FI RG GU PU MA MN MS OT SC w r5 L Lg v3 zh7
      cases q4 with
      | zero =>
        have h := itp h rfl
        suffices e : Ev (d + 2, 0, 0, 289, 24, [.val (.ref 64), .val (.int p1), .val (.int p2), .val a_unk], [], (126, 120, L, [Y_5, T, H, H2, RU, RV, ST, NS, I0, I1, I2, BO, FI, RG, GU, PU, MA, MN, MS, OT, SC], [192, 256, 320, 384, w, r5, 576, 640, 704], Lg)) o from ev_call (fun v μ => (d + 2, 0, 0, 289, 24, [.val (.ref 64), .val (.int p1), .val (.int p2), .val a_unk], v.toList ++ [], μ)) 1 ze8 e (fun n => Eq.refl _)
        obtain ⟨x6, zh9, h⟩ := bnd h
        have zh9 : rdx (NS 1) 10 p1 = some x6 := zh9
        suffices e : Ev (d + 2, 0, 0, 289, 33, [.val (.ref 64), .val (.int p1), .val (.int p2), .val a_unk], [.int x6], (126, 120, L, [Y_5, T, H, H2, RU, RV, ST, NS, I0, I1, I2, BO, FI, RG, GU, PU, MA, MN, MS, OT, SC], [192, 256, 320, 384, w, r5, 576, 640, 704], Lg)) o from ev_opt (fun x6 => (d + 2, 0, 0, 289, 33, [.val (.ref 64), .val (.int p1), .val (.int p2), .val a_unk], [.int x6], (126, 120, L, [Y_5, T, H, H2, RU, RV, ST, NS, I0, I1, I2, BO, FI, RG, GU, PU, MA, MN, MS, OT, SC], [192, 256, 320, 384, w, r5, 576, 640, 704], Lg))) 5 zh9 e (fun n => Eq.refl _)
        by_cases zc10 : p2 = 0
        · have h := itp h zc10
          suffices e : Ev (d + 2, 0, 0, 289, 72, [.val (.ref 64), .val (.int p1), .val (.int p2), .val (.int x6)], [], (126, 120, L, [Y_5, T, H, H2, RU, RV, ST, NS, I0, I1, I2, BO, FI, RG, GU, PU, MA, MN, MS, OT, SC], [192, 256, 320, 384, w, r5, 576, 640, 704], Lg)) o from ev_sw [((0 : Int32), 72), ((1 : Int32), 86), ((2 : Int32), 100), ((3 : Int32), 110), ((4 : Int32), 127), ((5 : Int32), 137)] p2 (fun tt => (d + 2, 0, 0, 289, tt, [.val (.ref 64), .val (.int p1), .val (.int p2), .val (.int x6)], [], (126, 120, L, [Y_5, T, H, H2, RU, RV, ST, NS, I0, I1, I2, BO, FI, RG, GU, PU, MA, MN, MS, OT, SC], [192, 256, 320, 384, w, r5, 576, 640, 704], Lg))) 147 72 3 (fun f => by simp only [a_sw, if_pos zc10]) e (fun n => Eq.refl _)
          by_cases zc11 : x6 ≠ (-1)
          · have h := itp h zc11
            suffices e : Ev (d + 2, 0, 0, 289, 81, [.val (.ref 64), .val (.int p1), .val (.int p2), .val (.int x6)], [], (126, 120, L, [Y_5, T, H, H2, RU, RV, ST, NS, I0, I1, I2, BO, FI, RG, GU, PU, MA, MN, MS, OT, SC], [192, 256, 320, 384, w, r5, 576, 640, 704], Lg)) o from ev_t (c := x6 ≠ (-1)) _ _ 3  zc11 e (fun n => Eq.refl _)
            obtain ⟨x7, zh12, h⟩ := bnd h
            have zh12 : f_Y_hourOf x6 = some x7 := zh12
            have ze13 := R_f_Y_hourOf_0 (d + 1) Y_5 T H H2 RU RV ST NS I0 I1 I2 BO FI RG GU PU MA MN MS OT SC 192 256 320 384 w r5 576 640 704 L Lg x6 zh12
            suffices e : Ev (d + 2, 0, 0, 289, 85, [.val (.ref 64), .val (.int p1), .val (.int p2), .val (.int x6)], [.int x7], (126, 120, L, [Y_5, T, H, H2, RU, RV, ST, NS, I0, I1, I2, BO, FI, RG, GU, PU, MA, MN, MS, OT, SC], [192, 256, 320, 384, w, r5, 576, 640, 704], Lg)) o from ev_call (fun v μ => (d + 2, 0, 0, 289, 85, [.val (.ref 64), .val (.int p1), .val (.int p2), .val (.int x6)], v.toList ++ [], μ)) 2 ze13 e (fun n => Eq.refl _)
            have ze14 := Option.some.inj h
            subst ze14
            exact ev_rete 1 ho (fun n => Eq.refl _)
          · have h := itn h zc11
            suffices e : Ev (d + 2, 0, 0, 289, 77, [.val (.ref 64), .val (.int p1), .val (.int p2), .val (.int x6)], [], (126, 120, L, [Y_5, T, H, H2, RU, RV, ST, NS, I0, I1, I2, BO, FI, RG, GU, PU, MA, MN, MS, OT, SC], [192, 256, 320, 384, w, r5, 576, 640, 704], Lg)) o from ev_f (c := x6 ≠ (-1)) _ _ 3  zc11 e (fun n => Eq.refl _)
            have ze15 := Option.some.inj h
            subst ze15
            exact ev_rete 3 ho (fun n => Eq.refl _)
        have h := itn h zc10
        by_cases zc16 : p2 = 1
        · have h := itp h zc16
          suffices e : Ev (d + 2, 0, 0, 289, 86, [.val (.ref 64), .val (.int p1), .val (.int p2), .val (.int x6)], [], (126, 120, L, [Y_5, T, H, H2, RU, RV, ST, NS, I0, I1, I2, BO, FI, RG, GU, PU, MA, MN, MS, OT, SC], [192, 256, 320, 384, w, r5, 576, 640, 704], Lg)) o from ev_sw [((0 : Int32), 72), ((1 : Int32), 86), ((2 : Int32), 100), ((3 : Int32), 110), ((4 : Int32), 127), ((5 : Int32), 137)] p2 (fun tt => (d + 2, 0, 0, 289, tt, [.val (.ref 64), .val (.int p1), .val (.int p2), .val (.int x6)], [], (126, 120, L, [Y_5, T, H, H2, RU, RV, ST, NS, I0, I1, I2, BO, FI, RG, GU, PU, MA, MN, MS, OT, SC], [192, 256, 320, 384, w, r5, 576, 640, 704], Lg))) 147 86 3 (fun f => by simp only [a_sw, if_neg zc10, if_pos zc16]) e (fun n => Eq.refl _)
          by_cases zc17 : x6 ≠ (-1)
          · have h := itp h zc17
            suffices e : Ev (d + 2, 0, 0, 289, 95, [.val (.ref 64), .val (.int p1), .val (.int p2), .val (.int x6)], [], (126, 120, L, [Y_5, T, H, H2, RU, RV, ST, NS, I0, I1, I2, BO, FI, RG, GU, PU, MA, MN, MS, OT, SC], [192, 256, 320, 384, w, r5, 576, 640, 704], Lg)) o from ev_t (c := x6 ≠ (-1)) _ _ 3  zc17 e (fun n => Eq.refl _)
            obtain ⟨x8, zh18, h⟩ := bnd h
            have zh18 : f_Y_roomOf x6 = some x8 := zh18
            have ze19 := R_f_Y_roomOf_0 (d + 1) Y_5 T H H2 RU RV ST NS I0 I1 I2 BO FI RG GU PU MA MN MS OT SC 192 256 320 384 w r5 576 640 704 L Lg x6 zh18
            suffices e : Ev (d + 2, 0, 0, 289, 99, [.val (.ref 64), .val (.int p1), .val (.int p2), .val (.int x6)], [.int x8], (126, 120, L, [Y_5, T, H, H2, RU, RV, ST, NS, I0, I1, I2, BO, FI, RG, GU, PU, MA, MN, MS, OT, SC], [192, 256, 320, 384, w, r5, 576, 640, 704], Lg)) o from ev_call (fun v μ => (d + 2, 0, 0, 289, 99, [.val (.ref 64), .val (.int p1), .val (.int p2), .val (.int x6)], v.toList ++ [], μ)) 2 ze19 e (fun n => Eq.refl _)
            have ze20 := Option.some.inj h
            subst ze20
            exact ev_rete 1 ho (fun n => Eq.refl _)
          · have h := itn h zc17
            suffices e : Ev (d + 2, 0, 0, 289, 91, [.val (.ref 64), .val (.int p1), .val (.int p2), .val (.int x6)], [], (126, 120, L, [Y_5, T, H, H2, RU, RV, ST, NS, I0, I1, I2, BO, FI, RG, GU, PU, MA, MN, MS, OT, SC], [192, 256, 320, 384, w, r5, 576, 640, 704], Lg)) o from ev_f (c := x6 ≠ (-1)) _ _ 3  zc17 e (fun n => Eq.refl _)
            have ze21 := Option.some.inj h
            subst ze21
            exact ev_rete 3 ho (fun n => Eq.refl _)
        have h := itn h zc16
        by_cases zc22 : p2 = 2
        · have h := itp h zc22
          suffices e : Ev (d + 2, 0, 0, 289, 100, [.val (.ref 64), .val (.int p1), .val (.int p2), .val (.int x6)], [], (126, 120, L, [Y_5, T, H, H2, RU, RV, ST, NS, I0, I1, I2, BO, FI, RG, GU, PU, MA, MN, MS, OT, SC], [192, 256, 320, 384, w, r5, 576, 640, 704], Lg)) o from ev_sw [((0 : Int32), 72), ((1 : Int32), 86), ((2 : Int32), 100), ((3 : Int32), 110), ((4 : Int32), 127), ((5 : Int32), 137)] p2 (fun tt => (d + 2, 0, 0, 289, tt, [.val (.ref 64), .val (.int p1), .val (.int p2), .val (.int x6)], [], (126, 120, L, [Y_5, T, H, H2, RU, RV, ST, NS, I0, I1, I2, BO, FI, RG, GU, PU, MA, MN, MS, OT, SC], [192, 256, 320, 384, w, r5, 576, 640, 704], Lg))) 147 100 3 (fun f => by simp only [a_sw, if_neg zc10, if_neg zc16, if_pos zc22]) e (fun n => Eq.refl _)
          suffices e : Ev (d + 2, 0, 0, 289, 104, [.val (.ref 64), .val (.int p1), .val (.int p2), .val (.int x6)], [.ref 192], (126, 120, L, [Y_5, T, H, H2, RU, RV, ST, NS, I0, I1, I2, BO, FI, RG, GU, PU, MA, MN, MS, OT, SC], [192, 256, 320, 384, w, r5, 576, 640, 704], Lg)) o from ev_b 2 e (fun n => Eq.refl _)
          obtain ⟨x9, zh23, h⟩ := bnd h
          have zh23 : rdx (H 7) 10 p1 = some x9 := zh23
          suffices e : Ev (d + 2, 0, 0, 289, 109, [.val (.ref 64), .val (.int p1), .val (.int p2), .val (.int x6)], [.int x9], (126, 120, L, [Y_5, T, H, H2, RU, RV, ST, NS, I0, I1, I2, BO, FI, RG, GU, PU, MA, MN, MS, OT, SC], [192, 256, 320, 384, w, r5, 576, 640, 704], Lg)) o from ev_opt (fun x9 => (d + 2, 0, 0, 289, 109, [.val (.ref 64), .val (.int p1), .val (.int p2), .val (.int x6)], [.int x9], (126, 120, L, [Y_5, T, H, H2, RU, RV, ST, NS, I0, I1, I2, BO, FI, RG, GU, PU, MA, MN, MS, OT, SC], [192, 256, 320, 384, w, r5, 576, 640, 704], Lg))) 3 zh23 e (fun n => Eq.refl _)
          have ze24 := Option.some.inj h
          subst ze24
          exact ev_rete 1 ho (fun n => Eq.refl _)
        have h := itn h zc22
        by_cases zc25 : p2 = 3
        · have h := itp h zc25
          suffices e : Ev (d + 2, 0, 0, 289, 110, [.val (.ref 64), .val (.int p1), .val (.int p2), .val (.int x6)], [], (126, 120, L, [Y_5, T, H, H2, RU, RV, ST, NS, I0, I1, I2, BO, FI, RG, GU, PU, MA, MN, MS, OT, SC], [192, 256, 320, 384, w, r5, 576, 640, 704], Lg)) o from ev_sw [((0 : Int32), 72), ((1 : Int32), 86), ((2 : Int32), 100), ((3 : Int32), 110), ((4 : Int32), 127), ((5 : Int32), 137)] p2 (fun tt => (d + 2, 0, 0, 289, tt, [.val (.ref 64), .val (.int p1), .val (.int p2), .val (.int x6)], [], (126, 120, L, [Y_5, T, H, H2, RU, RV, ST, NS, I0, I1, I2, BO, FI, RG, GU, PU, MA, MN, MS, OT, SC], [192, 256, 320, 384, w, r5, 576, 640, 704], Lg))) 147 110 3 (fun f => by simp only [a_sw, if_neg zc10, if_neg zc16, if_neg zc22, if_pos zc25]) e (fun n => Eq.refl _)
          suffices e : Ev (d + 2, 0, 0, 289, 114, [.val (.ref 64), .val (.int p1), .val (.int p2), .val (.int x6)], [.ref 192], (126, 120, L, [Y_5, T, H, H2, RU, RV, ST, NS, I0, I1, I2, BO, FI, RG, GU, PU, MA, MN, MS, OT, SC], [192, 256, 320, 384, w, r5, 576, 640, 704], Lg)) o from ev_b 2 e (fun n => Eq.refl _)
          obtain ⟨x10, zh26, h⟩ := bnd h
          have zh26 : f_House_isFixed H p1 = some x10 := zh26
          have ze27 := R_f_House_isFixed_0 (d + 1) Y_5 T H H2 RU RV ST NS I0 I1 I2 BO FI RG GU PU MA MN MS OT SC 192 256 320 384 w r5 576 640 704 L Lg p1 zh26
          suffices e : Ev (d + 2, 0, 0, 289, 118, [.val (.ref 64), .val (.int p1), .val (.int p2), .val (.int x6)], [.int x10], (126, 120, L, [Y_5, T, H, H2, RU, RV, ST, NS, I0, I1, I2, BO, FI, RG, GU, PU, MA, MN, MS, OT, SC], [192, 256, 320, 384, w, r5, 576, 640, 704], Lg)) o from ev_call (fun v μ => (d + 2, 0, 0, 289, 118, [.val (.ref 64), .val (.int p1), .val (.int p2), .val (.int x6)], v.toList ++ [], μ)) 2 ze27 e (fun n => Eq.refl _)
          by_cases zc28 : x10 = 0
          · have h := itp h zc28
            suffices e : Ev (d + 2, 0, 0, 289, 125, [.val (.ref 64), .val (.int p1), .val (.int p2), .val (.int x6)], [], (126, 120, L, [Y_5, T, H, H2, RU, RV, ST, NS, I0, I1, I2, BO, FI, RG, GU, PU, MA, MN, MS, OT, SC], [192, 256, 320, 384, w, r5, 576, 640, 704], Lg)) o from ev_t (c := x10 = 0) _ _ 1  zc28 e (fun n => Eq.refl _)
            have ze29 := Option.some.inj h
            subst ze29
            exact ev_rete 2 ho (fun n => Eq.refl _)
          · have h := itn h zc28
            suffices e : Ev (d + 2, 0, 0, 289, 121, [.val (.ref 64), .val (.int p1), .val (.int p2), .val (.int x6)], [], (126, 120, L, [Y_5, T, H, H2, RU, RV, ST, NS, I0, I1, I2, BO, FI, RG, GU, PU, MA, MN, MS, OT, SC], [192, 256, 320, 384, w, r5, 576, 640, 704], Lg)) o from ev_f (c := x10 = 0) _ _ 1  zc28 e (fun n => Eq.refl _)
            have ze30 := Option.some.inj h
            subst ze30
            exact ev_rete 3 ho (fun n => Eq.refl _)
        have h := itn h zc25
        by_cases zc31 : p2 = 4
        · have h := itp h zc31
          suffices e : Ev (d + 2, 0, 0, 289, 127, [.val (.ref 64), .val (.int p1), .val (.int p2), .val (.int x6)], [], (126, 120, L, [Y_5, T, H, H2, RU, RV, ST, NS, I0, I1, I2, BO, FI, RG, GU, PU, MA, MN, MS, OT, SC], [192, 256, 320, 384, w, r5, 576, 640, 704], Lg)) o from ev_sw [((0 : Int32), 72), ((1 : Int32), 86), ((2 : Int32), 100), ((3 : Int32), 110), ((4 : Int32), 127), ((5 : Int32), 137)] p2 (fun tt => (d + 2, 0, 0, 289, tt, [.val (.ref 64), .val (.int p1), .val (.int p2), .val (.int x6)], [], (126, 120, L, [Y_5, T, H, H2, RU, RV, ST, NS, I0, I1, I2, BO, FI, RG, GU, PU, MA, MN, MS, OT, SC], [192, 256, 320, 384, w, r5, 576, 640, 704], Lg))) 147 127 3 (fun f => by simp only [a_sw, if_neg zc10, if_neg zc16, if_neg zc22, if_neg zc25, if_pos zc31]) e (fun n => Eq.refl _)
          obtain ⟨x11, zh32, h⟩ := bnd h
          have zh32 : rdx (NS 2) 10 p1 = some x11 := zh32
          suffices e : Ev (d + 2, 0, 0, 289, 136, [.val (.ref 64), .val (.int p1), .val (.int p2), .val (.int x6)], [.int x11], (126, 120, L, [Y_5, T, H, H2, RU, RV, ST, NS, I0, I1, I2, BO, FI, RG, GU, PU, MA, MN, MS, OT, SC], [192, 256, 320, 384, w, r5, 576, 640, 704], Lg)) o from ev_opt (fun x11 => (d + 2, 0, 0, 289, 136, [.val (.ref 64), .val (.int p1), .val (.int p2), .val (.int x6)], [.int x11], (126, 120, L, [Y_5, T, H, H2, RU, RV, ST, NS, I0, I1, I2, BO, FI, RG, GU, PU, MA, MN, MS, OT, SC], [192, 256, 320, 384, w, r5, 576, 640, 704], Lg))) 5 zh32 e (fun n => Eq.refl _)
          have ze33 := Option.some.inj h
          subst ze33
          exact ev_rete 1 ho (fun n => Eq.refl _)
        have h := itn h zc31
        by_cases zc34 : p2 = 5
        · have h := itp h zc34
          suffices e : Ev (d + 2, 0, 0, 289, 137, [.val (.ref 64), .val (.int p1), .val (.int p2), .val (.int x6)], [], (126, 120, L, [Y_5, T, H, H2, RU, RV, ST, NS, I0, I1, I2, BO, FI, RG, GU, PU, MA, MN, MS, OT, SC], [192, 256, 320, 384, w, r5, 576, 640, 704], Lg)) o from ev_sw [((0 : Int32), 72), ((1 : Int32), 86), ((2 : Int32), 100), ((3 : Int32), 110), ((4 : Int32), 127), ((5 : Int32), 137)] p2 (fun tt => (d + 2, 0, 0, 289, tt, [.val (.ref 64), .val (.int p1), .val (.int p2), .val (.int x6)], [], (126, 120, L, [Y_5, T, H, H2, RU, RV, ST, NS, I0, I1, I2, BO, FI, RG, GU, PU, MA, MN, MS, OT, SC], [192, 256, 320, 384, w, r5, 576, 640, 704], Lg))) 147 137 3 (fun f => by simp only [a_sw, if_neg zc10, if_neg zc16, if_neg zc22, if_neg zc25, if_neg zc31, if_pos zc34]) e (fun n => Eq.refl _)
          suffices e : Ev (d + 2, 0, 0, 289, 141, [.val (.ref 64), .val (.int p1), .val (.int p2), .val (.int x6)], [.ref 192], (126, 120, L, [Y_5, T, H, H2, RU, RV, ST, NS, I0, I1, I2, BO, FI, RG, GU, PU, MA, MN, MS, OT, SC], [192, 256, 320, 384, w, r5, 576, 640, 704], Lg)) o from ev_b 2 e (fun n => Eq.refl _)
          obtain ⟨x12, zh35, h⟩ := bnd h
          have zh35 : rdx (H 8) 10 p1 = some x12 := zh35
          suffices e : Ev (d + 2, 0, 0, 289, 146, [.val (.ref 64), .val (.int p1), .val (.int p2), .val (.int x6)], [.int x12], (126, 120, L, [Y_5, T, H, H2, RU, RV, ST, NS, I0, I1, I2, BO, FI, RG, GU, PU, MA, MN, MS, OT, SC], [192, 256, 320, 384, w, r5, 576, 640, 704], Lg)) o from ev_opt (fun x12 => (d + 2, 0, 0, 289, 146, [.val (.ref 64), .val (.int p1), .val (.int p2), .val (.int x6)], [.int x12], (126, 120, L, [Y_5, T, H, H2, RU, RV, ST, NS, I0, I1, I2, BO, FI, RG, GU, PU, MA, MN, MS, OT, SC], [192, 256, 320, 384, w, r5, 576, 640, 704], Lg))) 3 zh35 e (fun n => Eq.refl _)
          have ze36 := Option.some.inj h
          subst ze36
          exact ev_rete 1 ho (fun n => Eq.refl _)
        have h := itn h zc34
        suffices e : Ev (d + 2, 0, 0, 289, 147, [.val (.ref 64), .val (.int p1), .val (.int p2), .val (.int x6)], [], (126, 120, L, [Y_5, T, H, H2, RU, RV, ST, NS, I0, I1, I2, BO, FI, RG, GU, PU, MA, MN, MS, OT, SC], [192, 256, 320, 384, w, r5, 576, 640, 704], Lg)) o from ev_sw [((0 : Int32), 72), ((1 : Int32), 86), ((2 : Int32), 100), ((3 : Int32), 110), ((4 : Int32), 127), ((5 : Int32), 137)] p2 (fun tt => (d + 2, 0, 0, 289, tt, [.val (.ref 64), .val (.int p1), .val (.int p2), .val (.int x6)], [], (126, 120, L, [Y_5, T, H, H2, RU, RV, ST, NS, I0, I1, I2, BO, FI, RG, GU, PU, MA, MN, MS, OT, SC], [192, 256, 320, 384, w, r5, 576, 640, 704], Lg))) 147 147 3 (fun f => by simp only [a_sw, if_neg zc10, if_neg zc16, if_neg zc22, if_neg zc25, if_neg zc31, if_neg zc34]) e (fun n => Eq.refl _)
        suffices e : Ev (d + 2, 0, 0, 289, 151, [.val (.ref 64), .val (.int p1), .val (.int p2), .val (.int x6)], [.ref 192], (126, 120, L, [Y_5, T, H, H2, RU, RV, ST, NS, I0, I1, I2, BO, FI, RG, GU, PU, MA, MN, MS, OT, SC], [192, 256, 320, 384, w, r5, 576, 640, 704], Lg)) o from ev_b 2 e (fun n => Eq.refl _)
        obtain ⟨x13, zh37, h⟩ := bnd h
        have zh37 : f_House_mayHours H p1 = some x13 := zh37
        have ze38 := R_f_House_mayHours_1 (d + 1) Y_5 T H H2 RU RV ST NS I0 I1 I2 BO FI RG GU PU MA MN MS OT SC 192 256 320 384 w r5 576 640 704 L Lg p1 zh37
        suffices e : Ev (d + 2, 0, 0, 289, 155, [.val (.ref 64), .val (.int p1), .val (.int p2), .val (.int x6)], [.int x13], (126, 120, L, [Y_5, T, H, H2, RU, RV, ST, NS, I0, I1, I2, BO, FI, RG, GU, PU, MA, MN, MS, OT, SC], [192, 256, 320, 384, w, r5, 576, 640, 704], Lg)) o from ev_call (fun v μ => (d + 2, 0, 0, 289, 155, [.val (.ref 64), .val (.int p1), .val (.int p2), .val (.int x6)], v.toList ++ [], μ)) 2 ze38 e (fun n => Eq.refl _)
        have ze39 := Option.some.inj h
        subst ze39
        exact ev_rete 1 ho (fun n => Eq.refl _)
      | succ q4 =>
        have h := itn h (Nat.succ_ne_zero q4)
        have ze40 := Option.some.inj h
        subst ze40
        subst ho
        exact ev_thr (fun v μ => (d + 2, 0, 0, 289, 24, [.val (.ref 64), .val (.int p1), .val (.int p2), .val a_unk], v.toList ++ [], μ)) 1 ze8 (fun n => Eq.refl _) (fun n => rfl)
    obtain ⟨zt41, zh42, zh4⟩ := bnd zh4
    have zj43 : zt41 = .inl () → Ev (d + 2, 1, 8, 289, 20, [.val (.ref 64), .val (.int p1), .val (.int p2), .val a_unk], [.ref 64], (126, 120, L, [Y_2, T, H, H2, RU, RV, ST, NS, I0, I1, I2, BO, FI, RG, GU, PU, MA, MN, MS, OT, SC], [192, 256, 320, 384, w, r5, 576, 640, 704], Lg)) o := by
      intro ze44
      have zh4 := sum_l zh4 ze44
      exact ev_b 1 (zj5 0 (Option.some.inj zh4) ) (fun n => Eq.refl _)
    by_cases zc45 : p2 < 0
    · have zh42 := itp zh42 zc45
      suffices e : Ev (d + 2, 1, 8, 289, 20, [.val (.ref 64), .val (.int p1), .val (.int p2), .val a_unk], [.ref 64], (126, 120, L, [Y_2, T, H, H2, RU, RV, ST, NS, I0, I1, I2, BO, FI, RG, GU, PU, MA, MN, MS, OT, SC], [192, 256, 320, 384, w, r5, 576, 640, 704], Lg)) o from ev_t (c := p2 < 0) _ _ 3  zc45 e (fun n => Eq.refl _)
      exact ev_b 0 (zj43  (Option.some.inj zh42).symm ) (fun n => Eq.refl _)
    · have zh42 := itn zh42 zc45
      suffices e : Ev (d + 2, 1, 8, 289, 10, [.val (.ref 64), .val (.int p1), .val (.int p2), .val a_unk], [.ref 64], (126, 120, L, [Y_2, T, H, H2, RU, RV, ST, NS, I0, I1, I2, BO, FI, RG, GU, PU, MA, MN, MS, OT, SC], [192, 256, 320, 384, w, r5, 576, 640, 704], Lg)) o from ev_f (c := p2 < 0) _ _ 3  zc45 e (fun n => Eq.refl _)
      by_cases zc46 : 6 < p2
      · have zh42 := itp zh42 zc46
        suffices e : Ev (d + 2, 1, 8, 289, 20, [.val (.ref 64), .val (.int p1), .val (.int p2), .val a_unk], [.ref 64], (126, 120, L, [Y_2, T, H, H2, RU, RV, ST, NS, I0, I1, I2, BO, FI, RG, GU, PU, MA, MN, MS, OT, SC], [192, 256, 320, 384, w, r5, 576, 640, 704], Lg)) o from ev_t (c := 6 < p2) _ _ 3  zc46 e (fun n => Eq.refl _)
        exact ev_b 0 (zj43  (Option.some.inj zh42).symm ) (fun n => Eq.refl _)
      · have zh42 := itn zh42 zc46
        suffices e : Ev (d + 2, 1, 8, 289, 16, [.val (.ref 64), .val (.int p1), .val (.int p2), .val a_unk], [.ref 64], (126, 120, L, [Y_2, T, H, H2, RU, RV, ST, NS, I0, I1, I2, BO, FI, RG, GU, PU, MA, MN, MS, OT, SC], [192, 256, 320, 384, w, r5, 576, 640, 704], Lg)) o from ev_f (c := 6 < p2) _ _ 3  zc46 e (fun n => Eq.refl _)
        have zh47 := sum_r zh4 (Option.some.inj zh42).symm
        exact ev_b 2 (zj5 1 (Option.some.inj zh47) ) (fun n => Eq.refl _)
  | succ q1 =>
    have h := itn h (Nat.succ_ne_zero q1)
    have ze48 := Option.some.inj h
    subst ze48
    subst ho
    exact ev_thr (fun v μ => (d + 2, 1, 8, 289, 5, [.val (.ref 64), .val (.int p1), .val (.int p2), .val a_unk], v.toList ++ [], μ)) 3 ze2 (fun n => Eq.refl _) (fun n => rfl)
set_option maxRecDepth 1000000 in
set_option maxHeartbeats 4000000 in
theorem R_f_Y_needOneOf_1 (d : Nat) (Y T H H2 RV RU ST NS I0 I1 I2 BO FI RG GU PU MA MN MS OT SC : Nat → Nat → Int32) (w r5 : Nat) (L : Nat) (Lg : Int64) (p1 : Int32) (p2 : Int32) {r : Nat × (Nat → Nat → Int32)} (h : f_Y_needOneOf Y p1 p2 = some r) : Ev (d + 0, 1, 8, 334, 0, [.val (.ref 64), .val (.int p1), .val (.int p2)], [], (126, 120, L, [Y, T, H, H2, RV, RU, ST, NS, I0, I1, I2, BO, FI, RG, GU, PU, MA, MN, MS, OT, SC], [192, 256, 384, 320, w, r5, 576, 640, 704], Lg)) ((r.1, none, (126, 120, L, [r.2, T, H, H2, RV, RU, ST, NS, I0, I1, I2, BO, FI, RG, GU, PU, MA, MN, MS, OT, SC], [192, 256, 384, 320, w, r5, 576, 640, 704], Lg)) : AOut) := by
  suffices key : ∀ o : AOut, ((r.1, none, (126, 120, L, [r.2, T, H, H2, RV, RU, ST, NS, I0, I1, I2, BO, FI, RG, GU, PU, MA, MN, MS, OT, SC], [192, 256, 384, 320, w, r5, 576, 640, 704], Lg)) : AOut) = o → Ev (d + 0, 1, 8, 334, 0, [.val (.ref 64), .val (.int p1), .val (.int p2)], [], (126, 120, L, [Y, T, H, H2, RV, RU, ST, NS, I0, I1, I2, BO, FI, RG, GU, PU, MA, MN, MS, OT, SC], [192, 256, 384, 320, w, r5, 576, 640, 704], Lg)) o from key _ rfl
  intro o ho
  obtain ⟨zt1, zh2, h⟩ := bnd h
  have zj3 : zt1 = .inl () → Ev (d + 0, 1, 8, 334, 9, [.val (.ref 64), .val (.int p1), .val (.int p2)], [], (126, 120, L, [Y, T, H, H2, RV, RU, ST, NS, I0, I1, I2, BO, FI, RG, GU, PU, MA, MN, MS, OT, SC], [192, 256, 384, 320, w, r5, 576, 640, 704], Lg)) o := by
    intro ze4
    have h := sum_l h ze4
    have ze5 := Option.some.inj h
    subst ze5
    exact ev_rete 7 ho (fun n => Eq.refl _)
  by_cases zc6 : p1 < 0
  · have zh2 := itp zh2 zc6
    suffices e : Ev (d + 0, 1, 8, 334, 9, [.val (.ref 64), .val (.int p1), .val (.int p2)], [], (126, 120, L, [Y, T, H, H2, RV, RU, ST, NS, I0, I1, I2, BO, FI, RG, GU, PU, MA, MN, MS, OT, SC], [192, 256, 384, 320, w, r5, 576, 640, 704], Lg)) o from ev_t (c := p1 < 0) _ _ 2  zc6 e (fun n => Eq.refl _)
    exact ev_b 0 (zj3  (Option.some.inj zh2).symm ) (fun n => Eq.refl _)
  · have zh2 := itn zh2 zc6
    suffices e : Ev (d + 0, 1, 8, 334, 4, [.val (.ref 64), .val (.int p1), .val (.int p2)], [], (126, 120, L, [Y, T, H, H2, RV, RU, ST, NS, I0, I1, I2, BO, FI, RG, GU, PU, MA, MN, MS, OT, SC], [192, 256, 384, 320, w, r5, 576, 640, 704], Lg)) o from ev_f (c := p1 < 0) _ _ 2  zc6 e (fun n => Eq.refl _)
    by_cases zc7 : p1 < p2
    · have zh2 := itp zh2 zc7
      suffices e : Ev (d + 0, 1, 8, 334, 27, [.val (.ref 64), .val (.int p1), .val (.int p2)], [], (126, 120, L, [Y, T, H, H2, RV, RU, ST, NS, I0, I1, I2, BO, FI, RG, GU, PU, MA, MN, MS, OT, SC], [192, 256, 384, 320, w, r5, 576, 640, 704], Lg)) o from ev_t (c := p1 < p2) _ _ 3  zc7 e (fun n => Eq.refl _)
      have zh8 := sum_r h (Option.some.inj zh2).symm
      have ze9 := Option.some.inj zh8
      subst ze9
      exact ev_rete 1 ho (fun n => Eq.refl _)
    · have zh2 := itn zh2 zc7
      suffices e : Ev (d + 0, 1, 8, 334, 9, [.val (.ref 64), .val (.int p1), .val (.int p2)], [], (126, 120, L, [Y, T, H, H2, RV, RU, ST, NS, I0, I1, I2, BO, FI, RG, GU, PU, MA, MN, MS, OT, SC], [192, 256, 384, 320, w, r5, 576, 640, 704], Lg)) o from ev_f (c := p1 < p2) _ _ 3  zc7 e (fun n => Eq.refl _)
      exact ev_b 0 (zj3  (Option.some.inj zh2).symm ) (fun n => Eq.refl _)
set_option maxRecDepth 1000000 in
set_option maxHeartbeats 4000000 in
theorem R_f_Y_needMeeting_1 (d : Nat) (Y T H H2 RV RU ST NS I0 I1 I2 BO FI RG GU PU MA MN MS OT SC : Nat → Nat → Int32) (w r5 : Nat) (L : Nat) (Lg : Int64) (p1 : Int32) {r : Nat × (Nat → Nat → Int32)} (h : f_Y_needMeeting Y H p1 = some r) : Ev (d + 1, 1, 8, 335, 0, [.val (.ref 64), .val (.int p1)], [], (126, 120, L, [Y, T, H, H2, RV, RU, ST, NS, I0, I1, I2, BO, FI, RG, GU, PU, MA, MN, MS, OT, SC], [192, 256, 384, 320, w, r5, 576, 640, 704], Lg)) ((r.1, none, (126, 120, L, [r.2, T, H, H2, RV, RU, ST, NS, I0, I1, I2, BO, FI, RG, GU, PU, MA, MN, MS, OT, SC], [192, 256, 384, 320, w, r5, 576, 640, 704], Lg)) : AOut) := by
  suffices key : ∀ o : AOut, ((r.1, none, (126, 120, L, [r.2, T, H, H2, RV, RU, ST, NS, I0, I1, I2, BO, FI, RG, GU, PU, MA, MN, MS, OT, SC], [192, 256, 384, 320, w, r5, 576, 640, 704], Lg)) : AOut) = o → Ev (d + 1, 1, 8, 335, 0, [.val (.ref 64), .val (.int p1)], [], (126, 120, L, [Y, T, H, H2, RV, RU, ST, NS, I0, I1, I2, BO, FI, RG, GU, PU, MA, MN, MS, OT, SC], [192, 256, 384, 320, w, r5, 576, 640, 704], Lg)) o from key _ rfl
  intro o ho
  suffices e : Ev (d + 1, 1, 8, 335, 6, [.val (.ref 64), .val (.int p1)], [.ref 192, .int p1, .ref 64], (126, 120, L, [Y, T, H, H2, RV, RU, ST, NS, I0, I1, I2, BO, FI, RG, GU, PU, MA, MN, MS, OT, SC], [192, 256, 384, 320, w, r5, 576, 640, 704], Lg)) o from ev_b 4 e (fun n => Eq.refl _)
  obtain ⟨⟨q1, Y_2⟩, zh1, h⟩ := bnd h
  have zh1 : f_Y_needOneOf Y p1 (H 0 3) = some (q1, Y_2) := zh1
  have ze2 := R_f_Y_needOneOf_1 (d + 0) Y T H H2 RV RU ST NS I0 I1 I2 BO FI RG GU PU MA MN MS OT SC w r5 L Lg p1 (H 0 3) zh1
  cases q1 with
  | zero =>
    have h := itp h rfl
    suffices e : Ev (d + 1, 0, 0, 335, 12, [.val (.ref 64), .val (.int p1)], [], (126, 120, L, [Y_2, T, H, H2, RV, RU, ST, NS, I0, I1, I2, BO, FI, RG, GU, PU, MA, MN, MS, OT, SC], [192, 256, 384, 320, w, r5, 576, 640, 704], Lg)) o from ev_call (fun v μ => (d + 1, 0, 0, 335, 12, [.val (.ref 64), .val (.int p1)], v.toList ++ [], μ)) 2 ze2 e (fun n => Eq.refl _)
    have ze3 := Option.some.inj h
    subst ze3
    exact ev_rete 1 ho (fun n => Eq.refl _)
  | succ q1 =>
    have h := itn h (Nat.succ_ne_zero q1)
    have ze4 := Option.some.inj h
    subst ze4
    subst ho
    exact ev_thr (fun v μ => (d + 1, 0, 0, 335, 12, [.val (.ref 64), .val (.int p1)], v.toList ++ [], μ)) 2 ze2 (fun n => Eq.refl _) (fun n => rfl)
set_option maxRecDepth 1000000 in
set_option maxHeartbeats 4000000 in
theorem R_f_Y_meeting_1 (d : Nat) (Y T H H2 RV RU ST NS I0 I1 I2 BO FI RG GU PU MA MN MS OT SC : Nat → Nat → Int32) (w r5 : Nat) (L : Nat) (Lg : Int64) (p1 : Int32) (p2 : Int32) {r : Nat × Int32 × (Nat → Nat → Int32)} (h : f_Y_meeting Y H NS p1 p2 = some r) : Ev (d + 2, 2, 16, 289, 0, [.val (.ref 64), .val (.int p1), .val (.int p2), .val a_unk], [], (126, 120, L, [Y, T, H, H2, RV, RU, ST, NS, I0, I1, I2, BO, FI, RG, GU, PU, MA, MN, MS, OT, SC], [192, 256, 384, 320, w, r5, 576, 640, 704], Lg)) ((r.1, a_ov r.1 (.int r.2.1), (126, 120, L, [r.2.2, T, H, H2, RV, RU, ST, NS, I0, I1, I2, BO, FI, RG, GU, PU, MA, MN, MS, OT, SC], [192, 256, 384, 320, w, r5, 576, 640, 704], Lg)) : AOut) := by
  suffices key : ∀ o : AOut, ((r.1, a_ov r.1 (.int r.2.1), (126, 120, L, [r.2.2, T, H, H2, RV, RU, ST, NS, I0, I1, I2, BO, FI, RG, GU, PU, MA, MN, MS, OT, SC], [192, 256, 384, 320, w, r5, 576, 640, 704], Lg)) : AOut) = o → Ev (d + 2, 2, 16, 289, 0, [.val (.ref 64), .val (.int p1), .val (.int p2), .val a_unk], [], (126, 120, L, [Y, T, H, H2, RV, RU, ST, NS, I0, I1, I2, BO, FI, RG, GU, PU, MA, MN, MS, OT, SC], [192, 256, 384, 320, w, r5, 576, 640, 704], Lg)) o from key _ rfl
  intro o ho
  obtain ⟨⟨q1, Y_2⟩, zh1, h⟩ := bnd h
  have zh1 : f_Y_needMeeting Y H p1 = some (q1, Y_2) := zh1
  have ze2 := R_f_Y_needMeeting_1 (d + 0) Y T H H2 RV RU ST NS I0 I1 I2 BO FI RG GU PU MA MN MS OT SC w r5 L Lg p1 zh1
  cases q1 with
  | zero =>
    have h := itp h rfl
    suffices e : Ev (d + 2, 1, 8, 289, 5, [.val (.ref 64), .val (.int p1), .val (.int p2), .val a_unk], [], (126, 120, L, [Y_2, T, H, H2, RV, RU, ST, NS, I0, I1, I2, BO, FI, RG, GU, PU, MA, MN, MS, OT, SC], [192, 256, 384, 320, w, r5, 576, 640, 704], Lg)) o from ev_call (fun v μ => (d + 2, 1, 8, 289, 5, [.val (.ref 64), .val (.int p1), .val (.int p2), .val a_unk], v.toList ++ [], μ)) 3 ze2 e (fun n => Eq.refl _)
    obtain ⟨zt3, zh4, h⟩ := bnd h
    have zj5 : ∀ (v3 : Int32), v3 = zt3 → Ev (d + 2, 1, 8, 289, 21, [.val (.ref 64), .val (.int p1), .val (.int p2), .val a_unk], [.int v3, .ref 64], (126, 120, L, [Y_2, T, H, H2, RV, RU, ST, NS, I0, I1, I2, BO, FI, RG, GU, PU, MA, MN, MS, OT, SC], [192, 256, 384, 320, w, r5, 576, 640, 704], Lg)) o := by
      intro v3 ze6
      subst ze6
      obtain ⟨⟨q4, Y_5⟩, zh7, h⟩ := bnd h
      have zh7 : f_Y_refuseUnless Y_2 v3 = some (q4, Y_5) := zh7
      have ze8 := R_f_Y_refuseUnless_1 (d + 1) Y_2 T H H2 RV RU ST NS I0 I1 I2 BO FI RG GU PU MA MN MS OT SC w r5 L Lg v3 zh7
      cases q4 with
      | zero =>
        have h := itp h rfl
        suffices e : Ev (d + 2, 0, 0, 289, 24, [.val (.ref 64), .val (.int p1), .val (.int p2), .val a_unk], [], (126, 120, L, [Y_5, T, H, H2, RV, RU, ST, NS, I0, I1, I2, BO, FI, RG, GU, PU, MA, MN, MS, OT, SC], [192, 256, 384, 320, w, r5, 576, 640, 704], Lg)) o from ev_call (fun v μ => (d + 2, 0, 0, 289, 24, [.val (.ref 64), .val (.int p1), .val (.int p2), .val a_unk], v.toList ++ [], μ)) 1 ze8 e (fun n => Eq.refl _)
        obtain ⟨x6, zh9, h⟩ := bnd h
        have zh9 : rdx (NS 1) 10 p1 = some x6 := zh9
        suffices e : Ev (d + 2, 0, 0, 289, 33, [.val (.ref 64), .val (.int p1), .val (.int p2), .val a_unk], [.int x6], (126, 120, L, [Y_5, T, H, H2, RV, RU, ST, NS, I0, I1, I2, BO, FI, RG, GU, PU, MA, MN, MS, OT, SC], [192, 256, 384, 320, w, r5, 576, 640, 704], Lg)) o from ev_opt (fun x6 => (d + 2, 0, 0, 289, 33, [.val (.ref 64), .val (.int p1), .val (.int p2), .val a_unk], [.int x6], (126, 120, L, [Y_5, T, H, H2, RV, RU, ST, NS, I0, I1, I2, BO, FI, RG, GU, PU, MA, MN, MS, OT, SC], [192, 256, 384, 320, w, r5, 576, 640, 704], Lg))) 5 zh9 e (fun n => Eq.refl _)
        by_cases zc10 : p2 = 0
        · have h := itp h zc10
          suffices e : Ev (d + 2, 0, 0, 289, 72, [.val (.ref 64), .val (.int p1), .val (.int p2), .val (.int x6)], [], (126, 120, L, [Y_5, T, H, H2, RV, RU, ST, NS, I0, I1, I2, BO, FI, RG, GU, PU, MA, MN, MS, OT, SC], [192, 256, 384, 320, w, r5, 576, 640, 704], Lg)) o from ev_sw [((0 : Int32), 72), ((1 : Int32), 86), ((2 : Int32), 100), ((3 : Int32), 110), ((4 : Int32), 127), ((5 : Int32), 137)] p2 (fun tt => (d + 2, 0, 0, 289, tt, [.val (.ref 64), .val (.int p1), .val (.int p2), .val (.int x6)], [], (126, 120, L, [Y_5, T, H, H2, RV, RU, ST, NS, I0, I1, I2, BO, FI, RG, GU, PU, MA, MN, MS, OT, SC], [192, 256, 384, 320, w, r5, 576, 640, 704], Lg))) 147 72 3 (fun f => by simp only [a_sw, if_pos zc10]) e (fun n => Eq.refl _)
          by_cases zc11 : x6 ≠ (-1)
          · have h := itp h zc11
            suffices e : Ev (d + 2, 0, 0, 289, 81, [.val (.ref 64), .val (.int p1), .val (.int p2), .val (.int x6)], [], (126, 120, L, [Y_5, T, H, H2, RV, RU, ST, NS, I0, I1, I2, BO, FI, RG, GU, PU, MA, MN, MS, OT, SC], [192, 256, 384, 320, w, r5, 576, 640, 704], Lg)) o from ev_t (c := x6 ≠ (-1)) _ _ 3  zc11 e (fun n => Eq.refl _)
            obtain ⟨x7, zh12, h⟩ := bnd h
            have zh12 : f_Y_hourOf x6 = some x7 := zh12
            have ze13 := R_f_Y_hourOf_0 (d + 1) Y_5 T H H2 RV RU ST NS I0 I1 I2 BO FI RG GU PU MA MN MS OT SC 192 256 384 320 w r5 576 640 704 L Lg x6 zh12
            suffices e : Ev (d + 2, 0, 0, 289, 85, [.val (.ref 64), .val (.int p1), .val (.int p2), .val (.int x6)], [.int x7], (126, 120, L, [Y_5, T, H, H2, RV, RU, ST, NS, I0, I1, I2, BO, FI, RG, GU, PU, MA, MN, MS, OT, SC], [192, 256, 384, 320, w, r5, 576, 640, 704], Lg)) o from ev_call (fun v μ => (d + 2, 0, 0, 289, 85, [.val (.ref 64), .val (.int p1), .val (.int p2), .val (.int x6)], v.toList ++ [], μ)) 2 ze13 e (fun n => Eq.refl _)
            have ze14 := Option.some.inj h
            subst ze14
            exact ev_rete 1 ho (fun n => Eq.refl _)
          · have h := itn h zc11
            suffices e : Ev (d + 2, 0, 0, 289, 77, [.val (.ref 64), .val (.int p1), .val (.int p2), .val (.int x6)], [], (126, 120, L, [Y_5, T, H, H2, RV, RU, ST, NS, I0, I1, I2, BO, FI, RG, GU, PU, MA, MN, MS, OT, SC], [192, 256, 384, 320, w, r5, 576, 640, 704], Lg)) o from ev_f (c := x6 ≠ (-1)) _ _ 3  zc11 e (fun n => Eq.refl _)
            have ze15 := Option.some.inj h
            subst ze15
            exact ev_rete 3 ho (fun n => Eq.refl _)
        have h := itn h zc10
        by_cases zc16 : p2 = 1
        · have h := itp h zc16
          suffices e : Ev (d + 2, 0, 0, 289, 86, [.val (.ref 64), .val (.int p1), .val (.int p2), .val (.int x6)], [], (126, 120, L, [Y_5, T, H, H2, RV, RU, ST, NS, I0, I1, I2, BO, FI, RG, GU, PU, MA, MN, MS, OT, SC], [192, 256, 384, 320, w, r5, 576, 640, 704], Lg)) o from ev_sw [((0 : Int32), 72), ((1 : Int32), 86), ((2 : Int32), 100), ((3 : Int32), 110), ((4 : Int32), 127), ((5 : Int32), 137)] p2 (fun tt => (d + 2, 0, 0, 289, tt, [.val (.ref 64), .val (.int p1), .val (.int p2), .val (.int x6)], [], (126, 120, L, [Y_5, T, H, H2, RV, RU, ST, NS, I0, I1, I2, BO, FI, RG, GU, PU, MA, MN, MS, OT, SC], [192, 256, 384, 320, w, r5, 576, 640, 704], Lg))) 147 86 3 (fun f => by simp only [a_sw, if_neg zc10, if_pos zc16]) e (fun n => Eq.refl _)
          by_cases zc17 : x6 ≠ (-1)
          · have h := itp h zc17
            suffices e : Ev (d + 2, 0, 0, 289, 95, [.val (.ref 64), .val (.int p1), .val (.int p2), .val (.int x6)], [], (126, 120, L, [Y_5, T, H, H2, RV, RU, ST, NS, I0, I1, I2, BO, FI, RG, GU, PU, MA, MN, MS, OT, SC], [192, 256, 384, 320, w, r5, 576, 640, 704], Lg)) o from ev_t (c := x6 ≠ (-1)) _ _ 3  zc17 e (fun n => Eq.refl _)
            obtain ⟨x8, zh18, h⟩ := bnd h
            have zh18 : f_Y_roomOf x6 = some x8 := zh18
            have ze19 := R_f_Y_roomOf_0 (d + 1) Y_5 T H H2 RV RU ST NS I0 I1 I2 BO FI RG GU PU MA MN MS OT SC 192 256 384 320 w r5 576 640 704 L Lg x6 zh18
            suffices e : Ev (d + 2, 0, 0, 289, 99, [.val (.ref 64), .val (.int p1), .val (.int p2), .val (.int x6)], [.int x8], (126, 120, L, [Y_5, T, H, H2, RV, RU, ST, NS, I0, I1, I2, BO, FI, RG, GU, PU, MA, MN, MS, OT, SC], [192, 256, 384, 320, w, r5, 576, 640, 704], Lg)) o from ev_call (fun v μ => (d + 2, 0, 0, 289, 99, [.val (.ref 64), .val (.int p1), .val (.int p2), .val (.int x6)], v.toList ++ [], μ)) 2 ze19 e (fun n => Eq.refl _)
            have ze20 := Option.some.inj h
            subst ze20
            exact ev_rete 1 ho (fun n => Eq.refl _)
          · have h := itn h zc17
            suffices e : Ev (d + 2, 0, 0, 289, 91, [.val (.ref 64), .val (.int p1), .val (.int p2), .val (.int x6)], [], (126, 120, L, [Y_5, T, H, H2, RV, RU, ST, NS, I0, I1, I2, BO, FI, RG, GU, PU, MA, MN, MS, OT, SC], [192, 256, 384, 320, w, r5, 576, 640, 704], Lg)) o from ev_f (c := x6 ≠ (-1)) _ _ 3  zc17 e (fun n => Eq.refl _)
            have ze21 := Option.some.inj h
            subst ze21
            exact ev_rete 3 ho (fun n => Eq.refl _)
        have h := itn h zc16
        by_cases zc22 : p2 = 2
        · have h := itp h zc22
          suffices e : Ev (d + 2, 0, 0, 289, 100, [.val (.ref 64), .val (.int p1), .val (.int p2), .val (.int x6)], [], (126, 120, L, [Y_5, T, H, H2, RV, RU, ST, NS, I0, I1, I2, BO, FI, RG, GU, PU, MA, MN, MS, OT, SC], [192, 256, 384, 320, w, r5, 576, 640, 704], Lg)) o from ev_sw [((0 : Int32), 72), ((1 : Int32), 86), ((2 : Int32), 100), ((3 : Int32), 110), ((4 : Int32), 127), ((5 : Int32), 137)] p2 (fun tt => (d + 2, 0, 0, 289, tt, [.val (.ref 64), .val (.int p1), .val (.int p2), .val (.int x6)], [], (126, 120, L, [Y_5, T, H, H2, RV, RU, ST, NS, I0, I1, I2, BO, FI, RG, GU, PU, MA, MN, MS, OT, SC], [192, 256, 384, 320, w, r5, 576, 640, 704], Lg))) 147 100 3 (fun f => by simp only [a_sw, if_neg zc10, if_neg zc16, if_pos zc22]) e (fun n => Eq.refl _)
          suffices e : Ev (d + 2, 0, 0, 289, 104, [.val (.ref 64), .val (.int p1), .val (.int p2), .val (.int x6)], [.ref 192], (126, 120, L, [Y_5, T, H, H2, RV, RU, ST, NS, I0, I1, I2, BO, FI, RG, GU, PU, MA, MN, MS, OT, SC], [192, 256, 384, 320, w, r5, 576, 640, 704], Lg)) o from ev_b 2 e (fun n => Eq.refl _)
          obtain ⟨x9, zh23, h⟩ := bnd h
          have zh23 : rdx (H 7) 10 p1 = some x9 := zh23
          suffices e : Ev (d + 2, 0, 0, 289, 109, [.val (.ref 64), .val (.int p1), .val (.int p2), .val (.int x6)], [.int x9], (126, 120, L, [Y_5, T, H, H2, RV, RU, ST, NS, I0, I1, I2, BO, FI, RG, GU, PU, MA, MN, MS, OT, SC], [192, 256, 384, 320, w, r5, 576, 640, 704], Lg)) o from ev_opt (fun x9 => (d + 2, 0, 0, 289, 109, [.val (.ref 64), .val (.int p1), .val (.int p2), .val (.int x6)], [.int x9], (126, 120, L, [Y_5, T, H, H2, RV, RU, ST, NS, I0, I1, I2, BO, FI, RG, GU, PU, MA, MN, MS, OT, SC], [192, 256, 384, 320, w, r5, 576, 640, 704], Lg))) 3 zh23 e (fun n => Eq.refl _)
          have ze24 := Option.some.inj h
          subst ze24
          exact ev_rete 1 ho (fun n => Eq.refl _)
        have h := itn h zc22
        by_cases zc25 : p2 = 3
        · have h := itp h zc25
          suffices e : Ev (d + 2, 0, 0, 289, 110, [.val (.ref 64), .val (.int p1), .val (.int p2), .val (.int x6)], [], (126, 120, L, [Y_5, T, H, H2, RV, RU, ST, NS, I0, I1, I2, BO, FI, RG, GU, PU, MA, MN, MS, OT, SC], [192, 256, 384, 320, w, r5, 576, 640, 704], Lg)) o from ev_sw [((0 : Int32), 72), ((1 : Int32), 86), ((2 : Int32), 100), ((3 : Int32), 110), ((4 : Int32), 127), ((5 : Int32), 137)] p2 (fun tt => (d + 2, 0, 0, 289, tt, [.val (.ref 64), .val (.int p1), .val (.int p2), .val (.int x6)], [], (126, 120, L, [Y_5, T, H, H2, RV, RU, ST, NS, I0, I1, I2, BO, FI, RG, GU, PU, MA, MN, MS, OT, SC], [192, 256, 384, 320, w, r5, 576, 640, 704], Lg))) 147 110 3 (fun f => by simp only [a_sw, if_neg zc10, if_neg zc16, if_neg zc22, if_pos zc25]) e (fun n => Eq.refl _)
          suffices e : Ev (d + 2, 0, 0, 289, 114, [.val (.ref 64), .val (.int p1), .val (.int p2), .val (.int x6)], [.ref 192], (126, 120, L, [Y_5, T, H, H2, RV, RU, ST, NS, I0, I1, I2, BO, FI, RG, GU, PU, MA, MN, MS, OT, SC], [192, 256, 384, 320, w, r5, 576, 640, 704], Lg)) o from ev_b 2 e (fun n => Eq.refl _)
          obtain ⟨x10, zh26, h⟩ := bnd h
          have zh26 : f_House_isFixed H p1 = some x10 := zh26
          have ze27 := R_f_House_isFixed_0 (d + 1) Y_5 T H H2 RV RU ST NS I0 I1 I2 BO FI RG GU PU MA MN MS OT SC 192 256 384 320 w r5 576 640 704 L Lg p1 zh26
          suffices e : Ev (d + 2, 0, 0, 289, 118, [.val (.ref 64), .val (.int p1), .val (.int p2), .val (.int x6)], [.int x10], (126, 120, L, [Y_5, T, H, H2, RV, RU, ST, NS, I0, I1, I2, BO, FI, RG, GU, PU, MA, MN, MS, OT, SC], [192, 256, 384, 320, w, r5, 576, 640, 704], Lg)) o from ev_call (fun v μ => (d + 2, 0, 0, 289, 118, [.val (.ref 64), .val (.int p1), .val (.int p2), .val (.int x6)], v.toList ++ [], μ)) 2 ze27 e (fun n => Eq.refl _)
          by_cases zc28 : x10 = 0
          · have h := itp h zc28
            suffices e : Ev (d + 2, 0, 0, 289, 125, [.val (.ref 64), .val (.int p1), .val (.int p2), .val (.int x6)], [], (126, 120, L, [Y_5, T, H, H2, RV, RU, ST, NS, I0, I1, I2, BO, FI, RG, GU, PU, MA, MN, MS, OT, SC], [192, 256, 384, 320, w, r5, 576, 640, 704], Lg)) o from ev_t (c := x10 = 0) _ _ 1  zc28 e (fun n => Eq.refl _)
            have ze29 := Option.some.inj h
            subst ze29
            exact ev_rete 2 ho (fun n => Eq.refl _)
          · have h := itn h zc28
            suffices e : Ev (d + 2, 0, 0, 289, 121, [.val (.ref 64), .val (.int p1), .val (.int p2), .val (.int x6)], [], (126, 120, L, [Y_5, T, H, H2, RV, RU, ST, NS, I0, I1, I2, BO, FI, RG, GU, PU, MA, MN, MS, OT, SC], [192, 256, 384, 320, w, r5, 576, 640, 704], Lg)) o from ev_f (c := x10 = 0) _ _ 1  zc28 e (fun n => Eq.refl _)
            have ze30 := Option.some.inj h
            subst ze30
            exact ev_rete 3 ho (fun n => Eq.refl _)
        have h := itn h zc25
        by_cases zc31 : p2 = 4
        · have h := itp h zc31
          suffices e : Ev (d + 2, 0, 0, 289, 127, [.val (.ref 64), .val (.int p1), .val (.int p2), .val (.int x6)], [], (126, 120, L, [Y_5, T, H, H2, RV, RU, ST, NS, I0, I1, I2, BO, FI, RG, GU, PU, MA, MN, MS, OT, SC], [192, 256, 384, 320, w, r5, 576, 640, 704], Lg)) o from ev_sw [((0 : Int32), 72), ((1 : Int32), 86), ((2 : Int32), 100), ((3 : Int32), 110), ((4 : Int32), 127), ((5 : Int32), 137)] p2 (fun tt => (d + 2, 0, 0, 289, tt, [.val (.ref 64), .val (.int p1), .val (.int p2), .val (.int x6)], [], (126, 120, L, [Y_5, T, H, H2, RV, RU, ST, NS, I0, I1, I2, BO, FI, RG, GU, PU, MA, MN, MS, OT, SC], [192, 256, 384, 320, w, r5, 576, 640, 704], Lg))) 147 127 3 (fun f => by simp only [a_sw, if_neg zc10, if_neg zc16, if_neg zc22, if_neg zc25, if_pos zc31]) e (fun n => Eq.refl _)
          obtain ⟨x11, zh32, h⟩ := bnd h
          have zh32 : rdx (NS 2) 10 p1 = some x11 := zh32
          suffices e : Ev (d + 2, 0, 0, 289, 136, [.val (.ref 64), .val (.int p1), .val (.int p2), .val (.int x6)], [.int x11], (126, 120, L, [Y_5, T, H, H2, RV, RU, ST, NS, I0, I1, I2, BO, FI, RG, GU, PU, MA, MN, MS, OT, SC], [192, 256, 384, 320, w, r5, 576, 640, 704], Lg)) o from ev_opt (fun x11 => (d + 2, 0, 0, 289, 136, [.val (.ref 64), .val (.int p1), .val (.int p2), .val (.int x6)], [.int x11], (126, 120, L, [Y_5, T, H, H2, RV, RU, ST, NS, I0, I1, I2, BO, FI, RG, GU, PU, MA, MN, MS, OT, SC], [192, 256, 384, 320, w, r5, 576, 640, 704], Lg))) 5 zh32 e (fun n => Eq.refl _)
          have ze33 := Option.some.inj h
          subst ze33
          exact ev_rete 1 ho (fun n => Eq.refl _)
        have h := itn h zc31
        by_cases zc34 : p2 = 5
        · have h := itp h zc34
          suffices e : Ev (d + 2, 0, 0, 289, 137, [.val (.ref 64), .val (.int p1), .val (.int p2), .val (.int x6)], [], (126, 120, L, [Y_5, T, H, H2, RV, RU, ST, NS, I0, I1, I2, BO, FI, RG, GU, PU, MA, MN, MS, OT, SC], [192, 256, 384, 320, w, r5, 576, 640, 704], Lg)) o from ev_sw [((0 : Int32), 72), ((1 : Int32), 86), ((2 : Int32), 100), ((3 : Int32), 110), ((4 : Int32), 127), ((5 : Int32), 137)] p2 (fun tt => (d + 2, 0, 0, 289, tt, [.val (.ref 64), .val (.int p1), .val (.int p2), .val (.int x6)], [], (126, 120, L, [Y_5, T, H, H2, RV, RU, ST, NS, I0, I1, I2, BO, FI, RG, GU, PU, MA, MN, MS, OT, SC], [192, 256, 384, 320, w, r5, 576, 640, 704], Lg))) 147 137 3 (fun f => by simp only [a_sw, if_neg zc10, if_neg zc16, if_neg zc22, if_neg zc25, if_neg zc31, if_pos zc34]) e (fun n => Eq.refl _)
          suffices e : Ev (d + 2, 0, 0, 289, 141, [.val (.ref 64), .val (.int p1), .val (.int p2), .val (.int x6)], [.ref 192], (126, 120, L, [Y_5, T, H, H2, RV, RU, ST, NS, I0, I1, I2, BO, FI, RG, GU, PU, MA, MN, MS, OT, SC], [192, 256, 384, 320, w, r5, 576, 640, 704], Lg)) o from ev_b 2 e (fun n => Eq.refl _)
          obtain ⟨x12, zh35, h⟩ := bnd h
          have zh35 : rdx (H 8) 10 p1 = some x12 := zh35
          suffices e : Ev (d + 2, 0, 0, 289, 146, [.val (.ref 64), .val (.int p1), .val (.int p2), .val (.int x6)], [.int x12], (126, 120, L, [Y_5, T, H, H2, RV, RU, ST, NS, I0, I1, I2, BO, FI, RG, GU, PU, MA, MN, MS, OT, SC], [192, 256, 384, 320, w, r5, 576, 640, 704], Lg)) o from ev_opt (fun x12 => (d + 2, 0, 0, 289, 146, [.val (.ref 64), .val (.int p1), .val (.int p2), .val (.int x6)], [.int x12], (126, 120, L, [Y_5, T, H, H2, RV, RU, ST, NS, I0, I1, I2, BO, FI, RG, GU, PU, MA, MN, MS, OT, SC], [192, 256, 384, 320, w, r5, 576, 640, 704], Lg))) 3 zh35 e (fun n => Eq.refl _)
          have ze36 := Option.some.inj h
          subst ze36
          exact ev_rete 1 ho (fun n => Eq.refl _)
        have h := itn h zc34
        suffices e : Ev (d + 2, 0, 0, 289, 147, [.val (.ref 64), .val (.int p1), .val (.int p2), .val (.int x6)], [], (126, 120, L, [Y_5, T, H, H2, RV, RU, ST, NS, I0, I1, I2, BO, FI, RG, GU, PU, MA, MN, MS, OT, SC], [192, 256, 384, 320, w, r5, 576, 640, 704], Lg)) o from ev_sw [((0 : Int32), 72), ((1 : Int32), 86), ((2 : Int32), 100), ((3 : Int32), 110), ((4 : Int32), 127), ((5 : Int32), 137)] p2 (fun tt => (d + 2, 0, 0, 289, tt, [.val (.ref 64), .val (.int p1), .val (.int p2), .val (.int x6)], [], (126, 120, L, [Y_5, T, H, H2, RV, RU, ST, NS, I0, I1, I2, BO, FI, RG, GU, PU, MA, MN, MS, OT, SC], [192, 256, 384, 320, w, r5, 576, 640, 704], Lg))) 147 147 3 (fun f => by simp only [a_sw, if_neg zc10, if_neg zc16, if_neg zc22, if_neg zc25, if_neg zc31, if_neg zc34]) e (fun n => Eq.refl _)
        suffices e : Ev (d + 2, 0, 0, 289, 151, [.val (.ref 64), .val (.int p1), .val (.int p2), .val (.int x6)], [.ref 192], (126, 120, L, [Y_5, T, H, H2, RV, RU, ST, NS, I0, I1, I2, BO, FI, RG, GU, PU, MA, MN, MS, OT, SC], [192, 256, 384, 320, w, r5, 576, 640, 704], Lg)) o from ev_b 2 e (fun n => Eq.refl _)
        obtain ⟨x13, zh37, h⟩ := bnd h
        have zh37 : f_House_mayHours H p1 = some x13 := zh37
        have ze38 := R_f_House_mayHours_1 (d + 1) Y_5 T H H2 RV RU ST NS I0 I1 I2 BO FI RG GU PU MA MN MS OT SC 192 256 384 320 w r5 576 640 704 L Lg p1 zh37
        suffices e : Ev (d + 2, 0, 0, 289, 155, [.val (.ref 64), .val (.int p1), .val (.int p2), .val (.int x6)], [.int x13], (126, 120, L, [Y_5, T, H, H2, RV, RU, ST, NS, I0, I1, I2, BO, FI, RG, GU, PU, MA, MN, MS, OT, SC], [192, 256, 384, 320, w, r5, 576, 640, 704], Lg)) o from ev_call (fun v μ => (d + 2, 0, 0, 289, 155, [.val (.ref 64), .val (.int p1), .val (.int p2), .val (.int x6)], v.toList ++ [], μ)) 2 ze38 e (fun n => Eq.refl _)
        have ze39 := Option.some.inj h
        subst ze39
        exact ev_rete 1 ho (fun n => Eq.refl _)
      | succ q4 =>
        have h := itn h (Nat.succ_ne_zero q4)
        have ze40 := Option.some.inj h
        subst ze40
        subst ho
        exact ev_thr (fun v μ => (d + 2, 0, 0, 289, 24, [.val (.ref 64), .val (.int p1), .val (.int p2), .val a_unk], v.toList ++ [], μ)) 1 ze8 (fun n => Eq.refl _) (fun n => rfl)
    obtain ⟨zt41, zh42, zh4⟩ := bnd zh4
    have zj43 : zt41 = .inl () → Ev (d + 2, 1, 8, 289, 20, [.val (.ref 64), .val (.int p1), .val (.int p2), .val a_unk], [.ref 64], (126, 120, L, [Y_2, T, H, H2, RV, RU, ST, NS, I0, I1, I2, BO, FI, RG, GU, PU, MA, MN, MS, OT, SC], [192, 256, 384, 320, w, r5, 576, 640, 704], Lg)) o := by
      intro ze44
      have zh4 := sum_l zh4 ze44
      exact ev_b 1 (zj5 0 (Option.some.inj zh4) ) (fun n => Eq.refl _)
    by_cases zc45 : p2 < 0
    · have zh42 := itp zh42 zc45
      suffices e : Ev (d + 2, 1, 8, 289, 20, [.val (.ref 64), .val (.int p1), .val (.int p2), .val a_unk], [.ref 64], (126, 120, L, [Y_2, T, H, H2, RV, RU, ST, NS, I0, I1, I2, BO, FI, RG, GU, PU, MA, MN, MS, OT, SC], [192, 256, 384, 320, w, r5, 576, 640, 704], Lg)) o from ev_t (c := p2 < 0) _ _ 3  zc45 e (fun n => Eq.refl _)
      exact ev_b 0 (zj43  (Option.some.inj zh42).symm ) (fun n => Eq.refl _)
    · have zh42 := itn zh42 zc45
      suffices e : Ev (d + 2, 1, 8, 289, 10, [.val (.ref 64), .val (.int p1), .val (.int p2), .val a_unk], [.ref 64], (126, 120, L, [Y_2, T, H, H2, RV, RU, ST, NS, I0, I1, I2, BO, FI, RG, GU, PU, MA, MN, MS, OT, SC], [192, 256, 384, 320, w, r5, 576, 640, 704], Lg)) o from ev_f (c := p2 < 0) _ _ 3  zc45 e (fun n => Eq.refl _)
      by_cases zc46 : 6 < p2
      · have zh42 := itp zh42 zc46
        suffices e : Ev (d + 2, 1, 8, 289, 20, [.val (.ref 64), .val (.int p1), .val (.int p2), .val a_unk], [.ref 64], (126, 120, L, [Y_2, T, H, H2, RV, RU, ST, NS, I0, I1, I2, BO, FI, RG, GU, PU, MA, MN, MS, OT, SC], [192, 256, 384, 320, w, r5, 576, 640, 704], Lg)) o from ev_t (c := 6 < p2) _ _ 3  zc46 e (fun n => Eq.refl _)
        exact ev_b 0 (zj43  (Option.some.inj zh42).symm ) (fun n => Eq.refl _)
      · have zh42 := itn zh42 zc46
        suffices e : Ev (d + 2, 1, 8, 289, 16, [.val (.ref 64), .val (.int p1), .val (.int p2), .val a_unk], [.ref 64], (126, 120, L, [Y_2, T, H, H2, RV, RU, ST, NS, I0, I1, I2, BO, FI, RG, GU, PU, MA, MN, MS, OT, SC], [192, 256, 384, 320, w, r5, 576, 640, 704], Lg)) o from ev_f (c := 6 < p2) _ _ 3  zc46 e (fun n => Eq.refl _)
        have zh47 := sum_r zh4 (Option.some.inj zh42).symm
        exact ev_b 2 (zj5 1 (Option.some.inj zh47) ) (fun n => Eq.refl _)
  | succ q1 =>
    have h := itn h (Nat.succ_ne_zero q1)
    have ze48 := Option.some.inj h
    subst ze48
    subst ho
    exact ev_thr (fun v μ => (d + 2, 1, 8, 289, 5, [.val (.ref 64), .val (.int p1), .val (.int p2), .val a_unk], v.toList ++ [], μ)) 3 ze2 (fun n => Eq.refl _) (fun n => rfl)
set_option maxRecDepth 1000000 in
set_option maxHeartbeats 4000000 in
theorem R_f_Y_needOneOf_2 (d : Nat) (Y T H2 H RU RV ST NS I0 I1 I2 BO FI RG GU PU MA MN MS OT SC : Nat → Nat → Int32) (w r5 : Nat) (L : Nat) (Lg : Int64) (p1 : Int32) (p2 : Int32) {r : Nat × (Nat → Nat → Int32)} (h : f_Y_needOneOf Y p1 p2 = some r) : Ev (d + 0, 1, 8, 334, 0, [.val (.ref 64), .val (.int p1), .val (.int p2)], [], (126, 120, L, [Y, T, H2, H, RU, RV, ST, NS, I0, I1, I2, BO, FI, RG, GU, PU, MA, MN, MS, OT, SC], [256, 192, 320, 384, w, r5, 576, 640, 704], Lg)) ((r.1, none, (126, 120, L, [r.2, T, H2, H, RU, RV, ST, NS, I0, I1, I2, BO, FI, RG, GU, PU, MA, MN, MS, OT, SC], [256, 192, 320, 384, w, r5, 576, 640, 704], Lg)) : AOut) := by
  suffices key : ∀ o : AOut, ((r.1, none, (126, 120, L, [r.2, T, H2, H, RU, RV, ST, NS, I0, I1, I2, BO, FI, RG, GU, PU, MA, MN, MS, OT, SC], [256, 192, 320, 384, w, r5, 576, 640, 704], Lg)) : AOut) = o → Ev (d + 0, 1, 8, 334, 0, [.val (.ref 64), .val (.int p1), .val (.int p2)], [], (126, 120, L, [Y, T, H2, H, RU, RV, ST, NS, I0, I1, I2, BO, FI, RG, GU, PU, MA, MN, MS, OT, SC], [256, 192, 320, 384, w, r5, 576, 640, 704], Lg)) o from key _ rfl
  intro o ho
  obtain ⟨zt1, zh2, h⟩ := bnd h
  have zj3 : zt1 = .inl () → Ev (d + 0, 1, 8, 334, 9, [.val (.ref 64), .val (.int p1), .val (.int p2)], [], (126, 120, L, [Y, T, H2, H, RU, RV, ST, NS, I0, I1, I2, BO, FI, RG, GU, PU, MA, MN, MS, OT, SC], [256, 192, 320, 384, w, r5, 576, 640, 704], Lg)) o := by
    intro ze4
    have h := sum_l h ze4
    have ze5 := Option.some.inj h
    subst ze5
    exact ev_rete 7 ho (fun n => Eq.refl _)
  by_cases zc6 : p1 < 0
  · have zh2 := itp zh2 zc6
    suffices e : Ev (d + 0, 1, 8, 334, 9, [.val (.ref 64), .val (.int p1), .val (.int p2)], [], (126, 120, L, [Y, T, H2, H, RU, RV, ST, NS, I0, I1, I2, BO, FI, RG, GU, PU, MA, MN, MS, OT, SC], [256, 192, 320, 384, w, r5, 576, 640, 704], Lg)) o from ev_t (c := p1 < 0) _ _ 2  zc6 e (fun n => Eq.refl _)
    exact ev_b 0 (zj3  (Option.some.inj zh2).symm ) (fun n => Eq.refl _)
  · have zh2 := itn zh2 zc6
    suffices e : Ev (d + 0, 1, 8, 334, 4, [.val (.ref 64), .val (.int p1), .val (.int p2)], [], (126, 120, L, [Y, T, H2, H, RU, RV, ST, NS, I0, I1, I2, BO, FI, RG, GU, PU, MA, MN, MS, OT, SC], [256, 192, 320, 384, w, r5, 576, 640, 704], Lg)) o from ev_f (c := p1 < 0) _ _ 2  zc6 e (fun n => Eq.refl _)
    by_cases zc7 : p1 < p2
    · have zh2 := itp zh2 zc7
      suffices e : Ev (d + 0, 1, 8, 334, 27, [.val (.ref 64), .val (.int p1), .val (.int p2)], [], (126, 120, L, [Y, T, H2, H, RU, RV, ST, NS, I0, I1, I2, BO, FI, RG, GU, PU, MA, MN, MS, OT, SC], [256, 192, 320, 384, w, r5, 576, 640, 704], Lg)) o from ev_t (c := p1 < p2) _ _ 3  zc7 e (fun n => Eq.refl _)
      have zh8 := sum_r h (Option.some.inj zh2).symm
      have ze9 := Option.some.inj zh8
      subst ze9
      exact ev_rete 1 ho (fun n => Eq.refl _)
    · have zh2 := itn zh2 zc7
      suffices e : Ev (d + 0, 1, 8, 334, 9, [.val (.ref 64), .val (.int p1), .val (.int p2)], [], (126, 120, L, [Y, T, H2, H, RU, RV, ST, NS, I0, I1, I2, BO, FI, RG, GU, PU, MA, MN, MS, OT, SC], [256, 192, 320, 384, w, r5, 576, 640, 704], Lg)) o from ev_f (c := p1 < p2) _ _ 3  zc7 e (fun n => Eq.refl _)
      exact ev_b 0 (zj3  (Option.some.inj zh2).symm ) (fun n => Eq.refl _)
set_option maxRecDepth 1000000 in
set_option maxHeartbeats 4000000 in
theorem R_f_Y_needMeeting_2 (d : Nat) (Y T H2 H RU RV ST NS I0 I1 I2 BO FI RG GU PU MA MN MS OT SC : Nat → Nat → Int32) (w r5 : Nat) (L : Nat) (Lg : Int64) (p1 : Int32) {r : Nat × (Nat → Nat → Int32)} (h : f_Y_needMeeting Y H p1 = some r) : Ev (d + 1, 1, 8, 335, 0, [.val (.ref 64), .val (.int p1)], [], (126, 120, L, [Y, T, H2, H, RU, RV, ST, NS, I0, I1, I2, BO, FI, RG, GU, PU, MA, MN, MS, OT, SC], [256, 192, 320, 384, w, r5, 576, 640, 704], Lg)) ((r.1, none, (126, 120, L, [r.2, T, H2, H, RU, RV, ST, NS, I0, I1, I2, BO, FI, RG, GU, PU, MA, MN, MS, OT, SC], [256, 192, 320, 384, w, r5, 576, 640, 704], Lg)) : AOut) := by
  suffices key : ∀ o : AOut, ((r.1, none, (126, 120, L, [r.2, T, H2, H, RU, RV, ST, NS, I0, I1, I2, BO, FI, RG, GU, PU, MA, MN, MS, OT, SC], [256, 192, 320, 384, w, r5, 576, 640, 704], Lg)) : AOut) = o → Ev (d + 1, 1, 8, 335, 0, [.val (.ref 64), .val (.int p1)], [], (126, 120, L, [Y, T, H2, H, RU, RV, ST, NS, I0, I1, I2, BO, FI, RG, GU, PU, MA, MN, MS, OT, SC], [256, 192, 320, 384, w, r5, 576, 640, 704], Lg)) o from key _ rfl
  intro o ho
  suffices e : Ev (d + 1, 1, 8, 335, 6, [.val (.ref 64), .val (.int p1)], [.ref 256, .int p1, .ref 64], (126, 120, L, [Y, T, H2, H, RU, RV, ST, NS, I0, I1, I2, BO, FI, RG, GU, PU, MA, MN, MS, OT, SC], [256, 192, 320, 384, w, r5, 576, 640, 704], Lg)) o from ev_b 4 e (fun n => Eq.refl _)
  obtain ⟨⟨q1, Y_2⟩, zh1, h⟩ := bnd h
  have zh1 : f_Y_needOneOf Y p1 (H 0 3) = some (q1, Y_2) := zh1
  have ze2 := R_f_Y_needOneOf_2 (d + 0) Y T H2 H RU RV ST NS I0 I1 I2 BO FI RG GU PU MA MN MS OT SC w r5 L Lg p1 (H 0 3) zh1
  cases q1 with
  | zero =>
    have h := itp h rfl
    suffices e : Ev (d + 1, 0, 0, 335, 12, [.val (.ref 64), .val (.int p1)], [], (126, 120, L, [Y_2, T, H2, H, RU, RV, ST, NS, I0, I1, I2, BO, FI, RG, GU, PU, MA, MN, MS, OT, SC], [256, 192, 320, 384, w, r5, 576, 640, 704], Lg)) o from ev_call (fun v μ => (d + 1, 0, 0, 335, 12, [.val (.ref 64), .val (.int p1)], v.toList ++ [], μ)) 2 ze2 e (fun n => Eq.refl _)
    have ze3 := Option.some.inj h
    subst ze3
    exact ev_rete 1 ho (fun n => Eq.refl _)
  | succ q1 =>
    have h := itn h (Nat.succ_ne_zero q1)
    have ze4 := Option.some.inj h
    subst ze4
    subst ho
    exact ev_thr (fun v μ => (d + 1, 0, 0, 335, 12, [.val (.ref 64), .val (.int p1)], v.toList ++ [], μ)) 2 ze2 (fun n => Eq.refl _) (fun n => rfl)
set_option maxRecDepth 1000000 in
set_option maxHeartbeats 4000000 in
theorem R_f_House_isFixed_1 (d : Nat) (Y T H2 H RA RB ST NS I0 I1 I2 BO FI RG GU PU MA MN MS OT SC : Nat → Nat → Int32) (r0 r1 r2 r3 w r5 r6 r7 r8 : Nat) (L : Nat) (Lg : Int64) (p1 : Int32) {r : Int32} (h : f_House_isFixed H p1 = some r) : Ev (d + 0, 0, 0, 220, 0, [.val (.ref 256), .val (.int p1)], [], (126, 120, L, [Y, T, H2, H, RA, RB, ST, NS, I0, I1, I2, BO, FI, RG, GU, PU, MA, MN, MS, OT, SC], [r0, r1, r2, r3, w, r5, r6, r7, r8], Lg)) ((0, some (.int r), (126, 120, L, [Y, T, H2, H, RA, RB, ST, NS, I0, I1, I2, BO, FI, RG, GU, PU, MA, MN, MS, OT, SC], [r0, r1, r2, r3, w, r5, r6, r7, r8], Lg)) : AOut) := by
  suffices key : ∀ o : AOut, ((0, some (.int r), (126, 120, L, [Y, T, H2, H, RA, RB, ST, NS, I0, I1, I2, BO, FI, RG, GU, PU, MA, MN, MS, OT, SC], [r0, r1, r2, r3, w, r5, r6, r7, r8], Lg)) : AOut) = o → Ev (d + 0, 0, 0, 220, 0, [.val (.ref 256), .val (.int p1)], [], (126, 120, L, [Y, T, H2, H, RA, RB, ST, NS, I0, I1, I2, BO, FI, RG, GU, PU, MA, MN, MS, OT, SC], [r0, r1, r2, r3, w, r5, r6, r7, r8], Lg)) o from key _ rfl
  intro o ho
  by_cases zc1 : ((a_shr (H 0 5) p1) &&& 1) = 0
  · have h := itp h zc1
    suffices e : Ev (d + 0, 0, 0, 220, 15, [.val (.ref 256), .val (.int p1)], [], (126, 120, L, [Y, T, H2, H, RA, RB, ST, NS, I0, I1, I2, BO, FI, RG, GU, PU, MA, MN, MS, OT, SC], [r0, r1, r2, r3, w, r5, r6, r7, r8], Lg)) o from ev_t (c := ((a_shr (H 0 5) p1) &&& 1) = 0) _ _ 7  zc1 e (fun n => Eq.refl _)
    have ze2 := Option.some.inj h
    subst ze2
    exact ev_rete 2 ho (fun n => Eq.refl _)
  · have h := itn h zc1
    suffices e : Ev (d + 0, 0, 0, 220, 11, [.val (.ref 256), .val (.int p1)], [], (126, 120, L, [Y, T, H2, H, RA, RB, ST, NS, I0, I1, I2, BO, FI, RG, GU, PU, MA, MN, MS, OT, SC], [r0, r1, r2, r3, w, r5, r6, r7, r8], Lg)) o from ev_f (c := ((a_shr (H 0 5) p1) &&& 1) = 0) _ _ 7  zc1 e (fun n => Eq.refl _)
    have ze3 := Option.some.inj h
    subst ze3
    exact ev_rete 3 ho (fun n => Eq.refl _)
set_option maxRecDepth 1000000 in
set_option maxHeartbeats 4000000 in
theorem R_f_Y_meeting_2 (d : Nat) (Y T H2 H RU RV ST NS I0 I1 I2 BO FI RG GU PU MA MN MS OT SC : Nat → Nat → Int32) (w r5 : Nat) (L : Nat) (Lg : Int64) (p1 : Int32) (p2 : Int32) {r : Nat × Int32 × (Nat → Nat → Int32)} (h : f_Y_meeting Y H NS p1 p2 = some r) : Ev (d + 2, 2, 16, 289, 0, [.val (.ref 64), .val (.int p1), .val (.int p2), .val a_unk], [], (126, 120, L, [Y, T, H2, H, RU, RV, ST, NS, I0, I1, I2, BO, FI, RG, GU, PU, MA, MN, MS, OT, SC], [256, 192, 320, 384, w, r5, 576, 640, 704], Lg)) ((r.1, a_ov r.1 (.int r.2.1), (126, 120, L, [r.2.2, T, H2, H, RU, RV, ST, NS, I0, I1, I2, BO, FI, RG, GU, PU, MA, MN, MS, OT, SC], [256, 192, 320, 384, w, r5, 576, 640, 704], Lg)) : AOut) := by
  suffices key : ∀ o : AOut, ((r.1, a_ov r.1 (.int r.2.1), (126, 120, L, [r.2.2, T, H2, H, RU, RV, ST, NS, I0, I1, I2, BO, FI, RG, GU, PU, MA, MN, MS, OT, SC], [256, 192, 320, 384, w, r5, 576, 640, 704], Lg)) : AOut) = o → Ev (d + 2, 2, 16, 289, 0, [.val (.ref 64), .val (.int p1), .val (.int p2), .val a_unk], [], (126, 120, L, [Y, T, H2, H, RU, RV, ST, NS, I0, I1, I2, BO, FI, RG, GU, PU, MA, MN, MS, OT, SC], [256, 192, 320, 384, w, r5, 576, 640, 704], Lg)) o from key _ rfl
  intro o ho
  obtain ⟨⟨q1, Y_2⟩, zh1, h⟩ := bnd h
  have zh1 : f_Y_needMeeting Y H p1 = some (q1, Y_2) := zh1
  have ze2 := R_f_Y_needMeeting_2 (d + 0) Y T H2 H RU RV ST NS I0 I1 I2 BO FI RG GU PU MA MN MS OT SC w r5 L Lg p1 zh1
  cases q1 with
  | zero =>
    have h := itp h rfl
    suffices e : Ev (d + 2, 1, 8, 289, 5, [.val (.ref 64), .val (.int p1), .val (.int p2), .val a_unk], [], (126, 120, L, [Y_2, T, H2, H, RU, RV, ST, NS, I0, I1, I2, BO, FI, RG, GU, PU, MA, MN, MS, OT, SC], [256, 192, 320, 384, w, r5, 576, 640, 704], Lg)) o from ev_call (fun v μ => (d + 2, 1, 8, 289, 5, [.val (.ref 64), .val (.int p1), .val (.int p2), .val a_unk], v.toList ++ [], μ)) 3 ze2 e (fun n => Eq.refl _)
    obtain ⟨zt3, zh4, h⟩ := bnd h
    have zj5 : ∀ (v3 : Int32), v3 = zt3 → Ev (d + 2, 1, 8, 289, 21, [.val (.ref 64), .val (.int p1), .val (.int p2), .val a_unk], [.int v3, .ref 64], (126, 120, L, [Y_2, T, H2, H, RU, RV, ST, NS, I0, I1, I2, BO, FI, RG, GU, PU, MA, MN, MS, OT, SC], [256, 192, 320, 384, w, r5, 576, 640, 704], Lg)) o := by
      intro v3 ze6
      subst ze6
      obtain ⟨⟨q4, Y_5⟩, zh7, h⟩ := bnd h
      have zh7 : f_Y_refuseUnless Y_2 v3 = some (q4, Y_5) := zh7
      have ze8 := R_f_Y_refuseUnless_2 (d + 1) Y_2 T H2 H RU RV ST NS I0 I1 I2 BO FI RG GU PU MA MN MS OT SC w r5 L Lg v3 zh7
      cases q4 with
      | zero =>
        have h := itp h rfl
        suffices e : Ev (d + 2, 0, 0, 289, 24, [.val (.ref 64), .val (.int p1), .val (.int p2), .val a_unk], [], (126, 120, L, [Y_5, T, H2, H, RU, RV, ST, NS, I0, I1, I2, BO, FI, RG, GU, PU, MA, MN, MS, OT, SC], [256, 192, 320, 384, w, r5, 576, 640, 704], Lg)) o from ev_call (fun v μ => (d + 2, 0, 0, 289, 24, [.val (.ref 64), .val (.int p1), .val (.int p2), .val a_unk], v.toList ++ [], μ)) 1 ze8 e (fun n => Eq.refl _)
        obtain ⟨x6, zh9, h⟩ := bnd h
        have zh9 : rdx (NS 1) 10 p1 = some x6 := zh9
        suffices e : Ev (d + 2, 0, 0, 289, 33, [.val (.ref 64), .val (.int p1), .val (.int p2), .val a_unk], [.int x6], (126, 120, L, [Y_5, T, H2, H, RU, RV, ST, NS, I0, I1, I2, BO, FI, RG, GU, PU, MA, MN, MS, OT, SC], [256, 192, 320, 384, w, r5, 576, 640, 704], Lg)) o from ev_opt (fun x6 => (d + 2, 0, 0, 289, 33, [.val (.ref 64), .val (.int p1), .val (.int p2), .val a_unk], [.int x6], (126, 120, L, [Y_5, T, H2, H, RU, RV, ST, NS, I0, I1, I2, BO, FI, RG, GU, PU, MA, MN, MS, OT, SC], [256, 192, 320, 384, w, r5, 576, 640, 704], Lg))) 5 zh9 e (fun n => Eq.refl _)
        by_cases zc10 : p2 = 0
        · have h := itp h zc10
          suffices e : Ev (d + 2, 0, 0, 289, 72, [.val (.ref 64), .val (.int p1), .val (.int p2), .val (.int x6)], [], (126, 120, L, [Y_5, T, H2, H, RU, RV, ST, NS, I0, I1, I2, BO, FI, RG, GU, PU, MA, MN, MS, OT, SC], [256, 192, 320, 384, w, r5, 576, 640, 704], Lg)) o from ev_sw [((0 : Int32), 72), ((1 : Int32), 86), ((2 : Int32), 100), ((3 : Int32), 110), ((4 : Int32), 127), ((5 : Int32), 137)] p2 (fun tt => (d + 2, 0, 0, 289, tt, [.val (.ref 64), .val (.int p1), .val (.int p2), .val (.int x6)], [], (126, 120, L, [Y_5, T, H2, H, RU, RV, ST, NS, I0, I1, I2, BO, FI, RG, GU, PU, MA, MN, MS, OT, SC], [256, 192, 320, 384, w, r5, 576, 640, 704], Lg))) 147 72 3 (fun f => by simp only [a_sw, if_pos zc10]) e (fun n => Eq.refl _)
          by_cases zc11 : x6 ≠ (-1)
          · have h := itp h zc11
            suffices e : Ev (d + 2, 0, 0, 289, 81, [.val (.ref 64), .val (.int p1), .val (.int p2), .val (.int x6)], [], (126, 120, L, [Y_5, T, H2, H, RU, RV, ST, NS, I0, I1, I2, BO, FI, RG, GU, PU, MA, MN, MS, OT, SC], [256, 192, 320, 384, w, r5, 576, 640, 704], Lg)) o from ev_t (c := x6 ≠ (-1)) _ _ 3  zc11 e (fun n => Eq.refl _)
            obtain ⟨x7, zh12, h⟩ := bnd h
            have zh12 : f_Y_hourOf x6 = some x7 := zh12
            have ze13 := R_f_Y_hourOf_0 (d + 1) Y_5 T H2 H RU RV ST NS I0 I1 I2 BO FI RG GU PU MA MN MS OT SC 256 192 320 384 w r5 576 640 704 L Lg x6 zh12
            suffices e : Ev (d + 2, 0, 0, 289, 85, [.val (.ref 64), .val (.int p1), .val (.int p2), .val (.int x6)], [.int x7], (126, 120, L, [Y_5, T, H2, H, RU, RV, ST, NS, I0, I1, I2, BO, FI, RG, GU, PU, MA, MN, MS, OT, SC], [256, 192, 320, 384, w, r5, 576, 640, 704], Lg)) o from ev_call (fun v μ => (d + 2, 0, 0, 289, 85, [.val (.ref 64), .val (.int p1), .val (.int p2), .val (.int x6)], v.toList ++ [], μ)) 2 ze13 e (fun n => Eq.refl _)
            have ze14 := Option.some.inj h
            subst ze14
            exact ev_rete 1 ho (fun n => Eq.refl _)
          · have h := itn h zc11
            suffices e : Ev (d + 2, 0, 0, 289, 77, [.val (.ref 64), .val (.int p1), .val (.int p2), .val (.int x6)], [], (126, 120, L, [Y_5, T, H2, H, RU, RV, ST, NS, I0, I1, I2, BO, FI, RG, GU, PU, MA, MN, MS, OT, SC], [256, 192, 320, 384, w, r5, 576, 640, 704], Lg)) o from ev_f (c := x6 ≠ (-1)) _ _ 3  zc11 e (fun n => Eq.refl _)
            have ze15 := Option.some.inj h
            subst ze15
            exact ev_rete 3 ho (fun n => Eq.refl _)
        have h := itn h zc10
        by_cases zc16 : p2 = 1
        · have h := itp h zc16
          suffices e : Ev (d + 2, 0, 0, 289, 86, [.val (.ref 64), .val (.int p1), .val (.int p2), .val (.int x6)], [], (126, 120, L, [Y_5, T, H2, H, RU, RV, ST, NS, I0, I1, I2, BO, FI, RG, GU, PU, MA, MN, MS, OT, SC], [256, 192, 320, 384, w, r5, 576, 640, 704], Lg)) o from ev_sw [((0 : Int32), 72), ((1 : Int32), 86), ((2 : Int32), 100), ((3 : Int32), 110), ((4 : Int32), 127), ((5 : Int32), 137)] p2 (fun tt => (d + 2, 0, 0, 289, tt, [.val (.ref 64), .val (.int p1), .val (.int p2), .val (.int x6)], [], (126, 120, L, [Y_5, T, H2, H, RU, RV, ST, NS, I0, I1, I2, BO, FI, RG, GU, PU, MA, MN, MS, OT, SC], [256, 192, 320, 384, w, r5, 576, 640, 704], Lg))) 147 86 3 (fun f => by simp only [a_sw, if_neg zc10, if_pos zc16]) e (fun n => Eq.refl _)
          by_cases zc17 : x6 ≠ (-1)
          · have h := itp h zc17
            suffices e : Ev (d + 2, 0, 0, 289, 95, [.val (.ref 64), .val (.int p1), .val (.int p2), .val (.int x6)], [], (126, 120, L, [Y_5, T, H2, H, RU, RV, ST, NS, I0, I1, I2, BO, FI, RG, GU, PU, MA, MN, MS, OT, SC], [256, 192, 320, 384, w, r5, 576, 640, 704], Lg)) o from ev_t (c := x6 ≠ (-1)) _ _ 3  zc17 e (fun n => Eq.refl _)
            obtain ⟨x8, zh18, h⟩ := bnd h
            have zh18 : f_Y_roomOf x6 = some x8 := zh18
            have ze19 := R_f_Y_roomOf_0 (d + 1) Y_5 T H2 H RU RV ST NS I0 I1 I2 BO FI RG GU PU MA MN MS OT SC 256 192 320 384 w r5 576 640 704 L Lg x6 zh18
            suffices e : Ev (d + 2, 0, 0, 289, 99, [.val (.ref 64), .val (.int p1), .val (.int p2), .val (.int x6)], [.int x8], (126, 120, L, [Y_5, T, H2, H, RU, RV, ST, NS, I0, I1, I2, BO, FI, RG, GU, PU, MA, MN, MS, OT, SC], [256, 192, 320, 384, w, r5, 576, 640, 704], Lg)) o from ev_call (fun v μ => (d + 2, 0, 0, 289, 99, [.val (.ref 64), .val (.int p1), .val (.int p2), .val (.int x6)], v.toList ++ [], μ)) 2 ze19 e (fun n => Eq.refl _)
            have ze20 := Option.some.inj h
            subst ze20
            exact ev_rete 1 ho (fun n => Eq.refl _)
          · have h := itn h zc17
            suffices e : Ev (d + 2, 0, 0, 289, 91, [.val (.ref 64), .val (.int p1), .val (.int p2), .val (.int x6)], [], (126, 120, L, [Y_5, T, H2, H, RU, RV, ST, NS, I0, I1, I2, BO, FI, RG, GU, PU, MA, MN, MS, OT, SC], [256, 192, 320, 384, w, r5, 576, 640, 704], Lg)) o from ev_f (c := x6 ≠ (-1)) _ _ 3  zc17 e (fun n => Eq.refl _)
            have ze21 := Option.some.inj h
            subst ze21
            exact ev_rete 3 ho (fun n => Eq.refl _)
        have h := itn h zc16
        by_cases zc22 : p2 = 2
        · have h := itp h zc22
          suffices e : Ev (d + 2, 0, 0, 289, 100, [.val (.ref 64), .val (.int p1), .val (.int p2), .val (.int x6)], [], (126, 120, L, [Y_5, T, H2, H, RU, RV, ST, NS, I0, I1, I2, BO, FI, RG, GU, PU, MA, MN, MS, OT, SC], [256, 192, 320, 384, w, r5, 576, 640, 704], Lg)) o from ev_sw [((0 : Int32), 72), ((1 : Int32), 86), ((2 : Int32), 100), ((3 : Int32), 110), ((4 : Int32), 127), ((5 : Int32), 137)] p2 (fun tt => (d + 2, 0, 0, 289, tt, [.val (.ref 64), .val (.int p1), .val (.int p2), .val (.int x6)], [], (126, 120, L, [Y_5, T, H2, H, RU, RV, ST, NS, I0, I1, I2, BO, FI, RG, GU, PU, MA, MN, MS, OT, SC], [256, 192, 320, 384, w, r5, 576, 640, 704], Lg))) 147 100 3 (fun f => by simp only [a_sw, if_neg zc10, if_neg zc16, if_pos zc22]) e (fun n => Eq.refl _)
          suffices e : Ev (d + 2, 0, 0, 289, 104, [.val (.ref 64), .val (.int p1), .val (.int p2), .val (.int x6)], [.ref 256], (126, 120, L, [Y_5, T, H2, H, RU, RV, ST, NS, I0, I1, I2, BO, FI, RG, GU, PU, MA, MN, MS, OT, SC], [256, 192, 320, 384, w, r5, 576, 640, 704], Lg)) o from ev_b 2 e (fun n => Eq.refl _)
          obtain ⟨x9, zh23, h⟩ := bnd h
          have zh23 : rdx (H 7) 10 p1 = some x9 := zh23
          suffices e : Ev (d + 2, 0, 0, 289, 109, [.val (.ref 64), .val (.int p1), .val (.int p2), .val (.int x6)], [.int x9], (126, 120, L, [Y_5, T, H2, H, RU, RV, ST, NS, I0, I1, I2, BO, FI, RG, GU, PU, MA, MN, MS, OT, SC], [256, 192, 320, 384, w, r5, 576, 640, 704], Lg)) o from ev_opt (fun x9 => (d + 2, 0, 0, 289, 109, [.val (.ref 64), .val (.int p1), .val (.int p2), .val (.int x6)], [.int x9], (126, 120, L, [Y_5, T, H2, H, RU, RV, ST, NS, I0, I1, I2, BO, FI, RG, GU, PU, MA, MN, MS, OT, SC], [256, 192, 320, 384, w, r5, 576, 640, 704], Lg))) 3 zh23 e (fun n => Eq.refl _)
          have ze24 := Option.some.inj h
          subst ze24
          exact ev_rete 1 ho (fun n => Eq.refl _)
        have h := itn h zc22
        by_cases zc25 : p2 = 3
        · have h := itp h zc25
          suffices e : Ev (d + 2, 0, 0, 289, 110, [.val (.ref 64), .val (.int p1), .val (.int p2), .val (.int x6)], [], (126, 120, L, [Y_5, T, H2, H, RU, RV, ST, NS, I0, I1, I2, BO, FI, RG, GU, PU, MA, MN, MS, OT, SC], [256, 192, 320, 384, w, r5, 576, 640, 704], Lg)) o from ev_sw [((0 : Int32), 72), ((1 : Int32), 86), ((2 : Int32), 100), ((3 : Int32), 110), ((4 : Int32), 127), ((5 : Int32), 137)] p2 (fun tt => (d + 2, 0, 0, 289, tt, [.val (.ref 64), .val (.int p1), .val (.int p2), .val (.int x6)], [], (126, 120, L, [Y_5, T, H2, H, RU, RV, ST, NS, I0, I1, I2, BO, FI, RG, GU, PU, MA, MN, MS, OT, SC], [256, 192, 320, 384, w, r5, 576, 640, 704], Lg))) 147 110 3 (fun f => by simp only [a_sw, if_neg zc10, if_neg zc16, if_neg zc22, if_pos zc25]) e (fun n => Eq.refl _)
          suffices e : Ev (d + 2, 0, 0, 289, 114, [.val (.ref 64), .val (.int p1), .val (.int p2), .val (.int x6)], [.ref 256], (126, 120, L, [Y_5, T, H2, H, RU, RV, ST, NS, I0, I1, I2, BO, FI, RG, GU, PU, MA, MN, MS, OT, SC], [256, 192, 320, 384, w, r5, 576, 640, 704], Lg)) o from ev_b 2 e (fun n => Eq.refl _)
          obtain ⟨x10, zh26, h⟩ := bnd h
          have zh26 : f_House_isFixed H p1 = some x10 := zh26
          have ze27 := R_f_House_isFixed_1 (d + 1) Y_5 T H2 H RU RV ST NS I0 I1 I2 BO FI RG GU PU MA MN MS OT SC 256 192 320 384 w r5 576 640 704 L Lg p1 zh26
          suffices e : Ev (d + 2, 0, 0, 289, 118, [.val (.ref 64), .val (.int p1), .val (.int p2), .val (.int x6)], [.int x10], (126, 120, L, [Y_5, T, H2, H, RU, RV, ST, NS, I0, I1, I2, BO, FI, RG, GU, PU, MA, MN, MS, OT, SC], [256, 192, 320, 384, w, r5, 576, 640, 704], Lg)) o from ev_call (fun v μ => (d + 2, 0, 0, 289, 118, [.val (.ref 64), .val (.int p1), .val (.int p2), .val (.int x6)], v.toList ++ [], μ)) 2 ze27 e (fun n => Eq.refl _)
          by_cases zc28 : x10 = 0
          · have h := itp h zc28
            suffices e : Ev (d + 2, 0, 0, 289, 125, [.val (.ref 64), .val (.int p1), .val (.int p2), .val (.int x6)], [], (126, 120, L, [Y_5, T, H2, H, RU, RV, ST, NS, I0, I1, I2, BO, FI, RG, GU, PU, MA, MN, MS, OT, SC], [256, 192, 320, 384, w, r5, 576, 640, 704], Lg)) o from ev_t (c := x10 = 0) _ _ 1  zc28 e (fun n => Eq.refl _)
            have ze29 := Option.some.inj h
            subst ze29
            exact ev_rete 2 ho (fun n => Eq.refl _)
          · have h := itn h zc28
            suffices e : Ev (d + 2, 0, 0, 289, 121, [.val (.ref 64), .val (.int p1), .val (.int p2), .val (.int x6)], [], (126, 120, L, [Y_5, T, H2, H, RU, RV, ST, NS, I0, I1, I2, BO, FI, RG, GU, PU, MA, MN, MS, OT, SC], [256, 192, 320, 384, w, r5, 576, 640, 704], Lg)) o from ev_f (c := x10 = 0) _ _ 1  zc28 e (fun n => Eq.refl _)
            have ze30 := Option.some.inj h
            subst ze30
            exact ev_rete 3 ho (fun n => Eq.refl _)
        have h := itn h zc25
        by_cases zc31 : p2 = 4
        · have h := itp h zc31
          suffices e : Ev (d + 2, 0, 0, 289, 127, [.val (.ref 64), .val (.int p1), .val (.int p2), .val (.int x6)], [], (126, 120, L, [Y_5, T, H2, H, RU, RV, ST, NS, I0, I1, I2, BO, FI, RG, GU, PU, MA, MN, MS, OT, SC], [256, 192, 320, 384, w, r5, 576, 640, 704], Lg)) o from ev_sw [((0 : Int32), 72), ((1 : Int32), 86), ((2 : Int32), 100), ((3 : Int32), 110), ((4 : Int32), 127), ((5 : Int32), 137)] p2 (fun tt => (d + 2, 0, 0, 289, tt, [.val (.ref 64), .val (.int p1), .val (.int p2), .val (.int x6)], [], (126, 120, L, [Y_5, T, H2, H, RU, RV, ST, NS, I0, I1, I2, BO, FI, RG, GU, PU, MA, MN, MS, OT, SC], [256, 192, 320, 384, w, r5, 576, 640, 704], Lg))) 147 127 3 (fun f => by simp only [a_sw, if_neg zc10, if_neg zc16, if_neg zc22, if_neg zc25, if_pos zc31]) e (fun n => Eq.refl _)
          obtain ⟨x11, zh32, h⟩ := bnd h
          have zh32 : rdx (NS 2) 10 p1 = some x11 := zh32
          suffices e : Ev (d + 2, 0, 0, 289, 136, [.val (.ref 64), .val (.int p1), .val (.int p2), .val (.int x6)], [.int x11], (126, 120, L, [Y_5, T, H2, H, RU, RV, ST, NS, I0, I1, I2, BO, FI, RG, GU, PU, MA, MN, MS, OT, SC], [256, 192, 320, 384, w, r5, 576, 640, 704], Lg)) o from ev_opt (fun x11 => (d + 2, 0, 0, 289, 136, [.val (.ref 64), .val (.int p1), .val (.int p2), .val (.int x6)], [.int x11], (126, 120, L, [Y_5, T, H2, H, RU, RV, ST, NS, I0, I1, I2, BO, FI, RG, GU, PU, MA, MN, MS, OT, SC], [256, 192, 320, 384, w, r5, 576, 640, 704], Lg))) 5 zh32 e (fun n => Eq.refl _)
          have ze33 := Option.some.inj h
          subst ze33
          exact ev_rete 1 ho (fun n => Eq.refl _)
        have h := itn h zc31
        by_cases zc34 : p2 = 5
        · have h := itp h zc34
          suffices e : Ev (d + 2, 0, 0, 289, 137, [.val (.ref 64), .val (.int p1), .val (.int p2), .val (.int x6)], [], (126, 120, L, [Y_5, T, H2, H, RU, RV, ST, NS, I0, I1, I2, BO, FI, RG, GU, PU, MA, MN, MS, OT, SC], [256, 192, 320, 384, w, r5, 576, 640, 704], Lg)) o from ev_sw [((0 : Int32), 72), ((1 : Int32), 86), ((2 : Int32), 100), ((3 : Int32), 110), ((4 : Int32), 127), ((5 : Int32), 137)] p2 (fun tt => (d + 2, 0, 0, 289, tt, [.val (.ref 64), .val (.int p1), .val (.int p2), .val (.int x6)], [], (126, 120, L, [Y_5, T, H2, H, RU, RV, ST, NS, I0, I1, I2, BO, FI, RG, GU, PU, MA, MN, MS, OT, SC], [256, 192, 320, 384, w, r5, 576, 640, 704], Lg))) 147 137 3 (fun f => by simp only [a_sw, if_neg zc10, if_neg zc16, if_neg zc22, if_neg zc25, if_neg zc31, if_pos zc34]) e (fun n => Eq.refl _)
          suffices e : Ev (d + 2, 0, 0, 289, 141, [.val (.ref 64), .val (.int p1), .val (.int p2), .val (.int x6)], [.ref 256], (126, 120, L, [Y_5, T, H2, H, RU, RV, ST, NS, I0, I1, I2, BO, FI, RG, GU, PU, MA, MN, MS, OT, SC], [256, 192, 320, 384, w, r5, 576, 640, 704], Lg)) o from ev_b 2 e (fun n => Eq.refl _)
          obtain ⟨x12, zh35, h⟩ := bnd h
          have zh35 : rdx (H 8) 10 p1 = some x12 := zh35
          suffices e : Ev (d + 2, 0, 0, 289, 146, [.val (.ref 64), .val (.int p1), .val (.int p2), .val (.int x6)], [.int x12], (126, 120, L, [Y_5, T, H2, H, RU, RV, ST, NS, I0, I1, I2, BO, FI, RG, GU, PU, MA, MN, MS, OT, SC], [256, 192, 320, 384, w, r5, 576, 640, 704], Lg)) o from ev_opt (fun x12 => (d + 2, 0, 0, 289, 146, [.val (.ref 64), .val (.int p1), .val (.int p2), .val (.int x6)], [.int x12], (126, 120, L, [Y_5, T, H2, H, RU, RV, ST, NS, I0, I1, I2, BO, FI, RG, GU, PU, MA, MN, MS, OT, SC], [256, 192, 320, 384, w, r5, 576, 640, 704], Lg))) 3 zh35 e (fun n => Eq.refl _)
          have ze36 := Option.some.inj h
          subst ze36
          exact ev_rete 1 ho (fun n => Eq.refl _)
        have h := itn h zc34
        suffices e : Ev (d + 2, 0, 0, 289, 147, [.val (.ref 64), .val (.int p1), .val (.int p2), .val (.int x6)], [], (126, 120, L, [Y_5, T, H2, H, RU, RV, ST, NS, I0, I1, I2, BO, FI, RG, GU, PU, MA, MN, MS, OT, SC], [256, 192, 320, 384, w, r5, 576, 640, 704], Lg)) o from ev_sw [((0 : Int32), 72), ((1 : Int32), 86), ((2 : Int32), 100), ((3 : Int32), 110), ((4 : Int32), 127), ((5 : Int32), 137)] p2 (fun tt => (d + 2, 0, 0, 289, tt, [.val (.ref 64), .val (.int p1), .val (.int p2), .val (.int x6)], [], (126, 120, L, [Y_5, T, H2, H, RU, RV, ST, NS, I0, I1, I2, BO, FI, RG, GU, PU, MA, MN, MS, OT, SC], [256, 192, 320, 384, w, r5, 576, 640, 704], Lg))) 147 147 3 (fun f => by simp only [a_sw, if_neg zc10, if_neg zc16, if_neg zc22, if_neg zc25, if_neg zc31, if_neg zc34]) e (fun n => Eq.refl _)
        suffices e : Ev (d + 2, 0, 0, 289, 151, [.val (.ref 64), .val (.int p1), .val (.int p2), .val (.int x6)], [.ref 256], (126, 120, L, [Y_5, T, H2, H, RU, RV, ST, NS, I0, I1, I2, BO, FI, RG, GU, PU, MA, MN, MS, OT, SC], [256, 192, 320, 384, w, r5, 576, 640, 704], Lg)) o from ev_b 2 e (fun n => Eq.refl _)
        obtain ⟨x13, zh37, h⟩ := bnd h
        have zh37 : f_House_mayHours H p1 = some x13 := zh37
        have ze38 := R_f_House_mayHours_0 (d + 1) Y_5 T H2 H RU RV ST NS I0 I1 I2 BO FI RG GU PU MA MN MS OT SC 256 192 320 384 w r5 576 640 704 L Lg p1 zh37
        suffices e : Ev (d + 2, 0, 0, 289, 155, [.val (.ref 64), .val (.int p1), .val (.int p2), .val (.int x6)], [.int x13], (126, 120, L, [Y_5, T, H2, H, RU, RV, ST, NS, I0, I1, I2, BO, FI, RG, GU, PU, MA, MN, MS, OT, SC], [256, 192, 320, 384, w, r5, 576, 640, 704], Lg)) o from ev_call (fun v μ => (d + 2, 0, 0, 289, 155, [.val (.ref 64), .val (.int p1), .val (.int p2), .val (.int x6)], v.toList ++ [], μ)) 2 ze38 e (fun n => Eq.refl _)
        have ze39 := Option.some.inj h
        subst ze39
        exact ev_rete 1 ho (fun n => Eq.refl _)
      | succ q4 =>
        have h := itn h (Nat.succ_ne_zero q4)
        have ze40 := Option.some.inj h
        subst ze40
        subst ho
        exact ev_thr (fun v μ => (d + 2, 0, 0, 289, 24, [.val (.ref 64), .val (.int p1), .val (.int p2), .val a_unk], v.toList ++ [], μ)) 1 ze8 (fun n => Eq.refl _) (fun n => rfl)
    obtain ⟨zt41, zh42, zh4⟩ := bnd zh4
    have zj43 : zt41 = .inl () → Ev (d + 2, 1, 8, 289, 20, [.val (.ref 64), .val (.int p1), .val (.int p2), .val a_unk], [.ref 64], (126, 120, L, [Y_2, T, H2, H, RU, RV, ST, NS, I0, I1, I2, BO, FI, RG, GU, PU, MA, MN, MS, OT, SC], [256, 192, 320, 384, w, r5, 576, 640, 704], Lg)) o := by
      intro ze44
      have zh4 := sum_l zh4 ze44
      exact ev_b 1 (zj5 0 (Option.some.inj zh4) ) (fun n => Eq.refl _)
    by_cases zc45 : p2 < 0
    · have zh42 := itp zh42 zc45
      suffices e : Ev (d + 2, 1, 8, 289, 20, [.val (.ref 64), .val (.int p1), .val (.int p2), .val a_unk], [.ref 64], (126, 120, L, [Y_2, T, H2, H, RU, RV, ST, NS, I0, I1, I2, BO, FI, RG, GU, PU, MA, MN, MS, OT, SC], [256, 192, 320, 384, w, r5, 576, 640, 704], Lg)) o from ev_t (c := p2 < 0) _ _ 3  zc45 e (fun n => Eq.refl _)
      exact ev_b 0 (zj43  (Option.some.inj zh42).symm ) (fun n => Eq.refl _)
    · have zh42 := itn zh42 zc45
      suffices e : Ev (d + 2, 1, 8, 289, 10, [.val (.ref 64), .val (.int p1), .val (.int p2), .val a_unk], [.ref 64], (126, 120, L, [Y_2, T, H2, H, RU, RV, ST, NS, I0, I1, I2, BO, FI, RG, GU, PU, MA, MN, MS, OT, SC], [256, 192, 320, 384, w, r5, 576, 640, 704], Lg)) o from ev_f (c := p2 < 0) _ _ 3  zc45 e (fun n => Eq.refl _)
      by_cases zc46 : 6 < p2
      · have zh42 := itp zh42 zc46
        suffices e : Ev (d + 2, 1, 8, 289, 20, [.val (.ref 64), .val (.int p1), .val (.int p2), .val a_unk], [.ref 64], (126, 120, L, [Y_2, T, H2, H, RU, RV, ST, NS, I0, I1, I2, BO, FI, RG, GU, PU, MA, MN, MS, OT, SC], [256, 192, 320, 384, w, r5, 576, 640, 704], Lg)) o from ev_t (c := 6 < p2) _ _ 3  zc46 e (fun n => Eq.refl _)
        exact ev_b 0 (zj43  (Option.some.inj zh42).symm ) (fun n => Eq.refl _)
      · have zh42 := itn zh42 zc46
        suffices e : Ev (d + 2, 1, 8, 289, 16, [.val (.ref 64), .val (.int p1), .val (.int p2), .val a_unk], [.ref 64], (126, 120, L, [Y_2, T, H2, H, RU, RV, ST, NS, I0, I1, I2, BO, FI, RG, GU, PU, MA, MN, MS, OT, SC], [256, 192, 320, 384, w, r5, 576, 640, 704], Lg)) o from ev_f (c := 6 < p2) _ _ 3  zc46 e (fun n => Eq.refl _)
        have zh47 := sum_r zh4 (Option.some.inj zh42).symm
        exact ev_b 2 (zj5 1 (Option.some.inj zh47) ) (fun n => Eq.refl _)
  | succ q1 =>
    have h := itn h (Nat.succ_ne_zero q1)
    have ze48 := Option.some.inj h
    subst ze48
    subst ho
    exact ev_thr (fun v μ => (d + 2, 1, 8, 289, 5, [.val (.ref 64), .val (.int p1), .val (.int p2), .val a_unk], v.toList ++ [], μ)) 3 ze2 (fun n => Eq.refl _) (fun n => rfl)
set_option maxRecDepth 1000000 in
set_option maxHeartbeats 4000000 in
theorem R_f_Y_needOneOf_3 (d : Nat) (Y T H2 H RV RU ST NS I0 I1 I2 BO FI RG GU PU MA MN MS OT SC : Nat → Nat → Int32) (w r5 : Nat) (L : Nat) (Lg : Int64) (p1 : Int32) (p2 : Int32) {r : Nat × (Nat → Nat → Int32)} (h : f_Y_needOneOf Y p1 p2 = some r) : Ev (d + 0, 1, 8, 334, 0, [.val (.ref 64), .val (.int p1), .val (.int p2)], [], (126, 120, L, [Y, T, H2, H, RV, RU, ST, NS, I0, I1, I2, BO, FI, RG, GU, PU, MA, MN, MS, OT, SC], [256, 192, 384, 320, w, r5, 576, 640, 704], Lg)) ((r.1, none, (126, 120, L, [r.2, T, H2, H, RV, RU, ST, NS, I0, I1, I2, BO, FI, RG, GU, PU, MA, MN, MS, OT, SC], [256, 192, 384, 320, w, r5, 576, 640, 704], Lg)) : AOut) := by
  suffices key : ∀ o : AOut, ((r.1, none, (126, 120, L, [r.2, T, H2, H, RV, RU, ST, NS, I0, I1, I2, BO, FI, RG, GU, PU, MA, MN, MS, OT, SC], [256, 192, 384, 320, w, r5, 576, 640, 704], Lg)) : AOut) = o → Ev (d + 0, 1, 8, 334, 0, [.val (.ref 64), .val (.int p1), .val (.int p2)], [], (126, 120, L, [Y, T, H2, H, RV, RU, ST, NS, I0, I1, I2, BO, FI, RG, GU, PU, MA, MN, MS, OT, SC], [256, 192, 384, 320, w, r5, 576, 640, 704], Lg)) o from key _ rfl
  intro o ho
  obtain ⟨zt1, zh2, h⟩ := bnd h
  have zj3 : zt1 = .inl () → Ev (d + 0, 1, 8, 334, 9, [.val (.ref 64), .val (.int p1), .val (.int p2)], [], (126, 120, L, [Y, T, H2, H, RV, RU, ST, NS, I0, I1, I2, BO, FI, RG, GU, PU, MA, MN, MS, OT, SC], [256, 192, 384, 320, w, r5, 576, 640, 704], Lg)) o := by
    intro ze4
    have h := sum_l h ze4
    have ze5 := Option.some.inj h
    subst ze5
    exact ev_rete 7 ho (fun n => Eq.refl _)
  by_cases zc6 : p1 < 0
  · have zh2 := itp zh2 zc6
    suffices e : Ev (d + 0, 1, 8, 334, 9, [.val (.ref 64), .val (.int p1), .val (.int p2)], [], (126, 120, L, [Y, T, H2, H, RV, RU, ST, NS, I0, I1, I2, BO, FI, RG, GU, PU, MA, MN, MS, OT, SC], [256, 192, 384, 320, w, r5, 576, 640, 704], Lg)) o from ev_t (c := p1 < 0) _ _ 2  zc6 e (fun n => Eq.refl _)
    exact ev_b 0 (zj3  (Option.some.inj zh2).symm ) (fun n => Eq.refl _)
  · have zh2 := itn zh2 zc6
    suffices e : Ev (d + 0, 1, 8, 334, 4, [.val (.ref 64), .val (.int p1), .val (.int p2)], [], (126, 120, L, [Y, T, H2, H, RV, RU, ST, NS, I0, I1, I2, BO, FI, RG, GU, PU, MA, MN, MS, OT, SC], [256, 192, 384, 320, w, r5, 576, 640, 704], Lg)) o from ev_f (c := p1 < 0) _ _ 2  zc6 e (fun n => Eq.refl _)
    by_cases zc7 : p1 < p2
    · have zh2 := itp zh2 zc7
      suffices e : Ev (d + 0, 1, 8, 334, 27, [.val (.ref 64), .val (.int p1), .val (.int p2)], [], (126, 120, L, [Y, T, H2, H, RV, RU, ST, NS, I0, I1, I2, BO, FI, RG, GU, PU, MA, MN, MS, OT, SC], [256, 192, 384, 320, w, r5, 576, 640, 704], Lg)) o from ev_t (c := p1 < p2) _ _ 3  zc7 e (fun n => Eq.refl _)
      have zh8 := sum_r h (Option.some.inj zh2).symm
      have ze9 := Option.some.inj zh8
      subst ze9
      exact ev_rete 1 ho (fun n => Eq.refl _)
    · have zh2 := itn zh2 zc7
      suffices e : Ev (d + 0, 1, 8, 334, 9, [.val (.ref 64), .val (.int p1), .val (.int p2)], [], (126, 120, L, [Y, T, H2, H, RV, RU, ST, NS, I0, I1, I2, BO, FI, RG, GU, PU, MA, MN, MS, OT, SC], [256, 192, 384, 320, w, r5, 576, 640, 704], Lg)) o from ev_f (c := p1 < p2) _ _ 3  zc7 e (fun n => Eq.refl _)
      exact ev_b 0 (zj3  (Option.some.inj zh2).symm ) (fun n => Eq.refl _)
set_option maxRecDepth 1000000 in
set_option maxHeartbeats 4000000 in
theorem R_f_Y_needMeeting_3 (d : Nat) (Y T H2 H RV RU ST NS I0 I1 I2 BO FI RG GU PU MA MN MS OT SC : Nat → Nat → Int32) (w r5 : Nat) (L : Nat) (Lg : Int64) (p1 : Int32) {r : Nat × (Nat → Nat → Int32)} (h : f_Y_needMeeting Y H p1 = some r) : Ev (d + 1, 1, 8, 335, 0, [.val (.ref 64), .val (.int p1)], [], (126, 120, L, [Y, T, H2, H, RV, RU, ST, NS, I0, I1, I2, BO, FI, RG, GU, PU, MA, MN, MS, OT, SC], [256, 192, 384, 320, w, r5, 576, 640, 704], Lg)) ((r.1, none, (126, 120, L, [r.2, T, H2, H, RV, RU, ST, NS, I0, I1, I2, BO, FI, RG, GU, PU, MA, MN, MS, OT, SC], [256, 192, 384, 320, w, r5, 576, 640, 704], Lg)) : AOut) := by
  suffices key : ∀ o : AOut, ((r.1, none, (126, 120, L, [r.2, T, H2, H, RV, RU, ST, NS, I0, I1, I2, BO, FI, RG, GU, PU, MA, MN, MS, OT, SC], [256, 192, 384, 320, w, r5, 576, 640, 704], Lg)) : AOut) = o → Ev (d + 1, 1, 8, 335, 0, [.val (.ref 64), .val (.int p1)], [], (126, 120, L, [Y, T, H2, H, RV, RU, ST, NS, I0, I1, I2, BO, FI, RG, GU, PU, MA, MN, MS, OT, SC], [256, 192, 384, 320, w, r5, 576, 640, 704], Lg)) o from key _ rfl
  intro o ho
  suffices e : Ev (d + 1, 1, 8, 335, 6, [.val (.ref 64), .val (.int p1)], [.ref 256, .int p1, .ref 64], (126, 120, L, [Y, T, H2, H, RV, RU, ST, NS, I0, I1, I2, BO, FI, RG, GU, PU, MA, MN, MS, OT, SC], [256, 192, 384, 320, w, r5, 576, 640, 704], Lg)) o from ev_b 4 e (fun n => Eq.refl _)
  obtain ⟨⟨q1, Y_2⟩, zh1, h⟩ := bnd h
  have zh1 : f_Y_needOneOf Y p1 (H 0 3) = some (q1, Y_2) := zh1
  have ze2 := R_f_Y_needOneOf_3 (d + 0) Y T H2 H RV RU ST NS I0 I1 I2 BO FI RG GU PU MA MN MS OT SC w r5 L Lg p1 (H 0 3) zh1
  cases q1 with
  | zero =>
    have h := itp h rfl
    suffices e : Ev (d + 1, 0, 0, 335, 12, [.val (.ref 64), .val (.int p1)], [], (126, 120, L, [Y_2, T, H2, H, RV, RU, ST, NS, I0, I1, I2, BO, FI, RG, GU, PU, MA, MN, MS, OT, SC], [256, 192, 384, 320, w, r5, 576, 640, 704], Lg)) o from ev_call (fun v μ => (d + 1, 0, 0, 335, 12, [.val (.ref 64), .val (.int p1)], v.toList ++ [], μ)) 2 ze2 e (fun n => Eq.refl _)
    have ze3 := Option.some.inj h
    subst ze3
    exact ev_rete 1 ho (fun n => Eq.refl _)
  | succ q1 =>
    have h := itn h (Nat.succ_ne_zero q1)
    have ze4 := Option.some.inj h
    subst ze4
    subst ho
    exact ev_thr (fun v μ => (d + 1, 0, 0, 335, 12, [.val (.ref 64), .val (.int p1)], v.toList ++ [], μ)) 2 ze2 (fun n => Eq.refl _) (fun n => rfl)
set_option maxRecDepth 1000000 in
set_option maxHeartbeats 4000000 in
theorem R_f_Y_meeting_3 (d : Nat) (Y T H2 H RV RU ST NS I0 I1 I2 BO FI RG GU PU MA MN MS OT SC : Nat → Nat → Int32) (w r5 : Nat) (L : Nat) (Lg : Int64) (p1 : Int32) (p2 : Int32) {r : Nat × Int32 × (Nat → Nat → Int32)} (h : f_Y_meeting Y H NS p1 p2 = some r) : Ev (d + 2, 2, 16, 289, 0, [.val (.ref 64), .val (.int p1), .val (.int p2), .val a_unk], [], (126, 120, L, [Y, T, H2, H, RV, RU, ST, NS, I0, I1, I2, BO, FI, RG, GU, PU, MA, MN, MS, OT, SC], [256, 192, 384, 320, w, r5, 576, 640, 704], Lg)) ((r.1, a_ov r.1 (.int r.2.1), (126, 120, L, [r.2.2, T, H2, H, RV, RU, ST, NS, I0, I1, I2, BO, FI, RG, GU, PU, MA, MN, MS, OT, SC], [256, 192, 384, 320, w, r5, 576, 640, 704], Lg)) : AOut) := by
  suffices key : ∀ o : AOut, ((r.1, a_ov r.1 (.int r.2.1), (126, 120, L, [r.2.2, T, H2, H, RV, RU, ST, NS, I0, I1, I2, BO, FI, RG, GU, PU, MA, MN, MS, OT, SC], [256, 192, 384, 320, w, r5, 576, 640, 704], Lg)) : AOut) = o → Ev (d + 2, 2, 16, 289, 0, [.val (.ref 64), .val (.int p1), .val (.int p2), .val a_unk], [], (126, 120, L, [Y, T, H2, H, RV, RU, ST, NS, I0, I1, I2, BO, FI, RG, GU, PU, MA, MN, MS, OT, SC], [256, 192, 384, 320, w, r5, 576, 640, 704], Lg)) o from key _ rfl
  intro o ho
  obtain ⟨⟨q1, Y_2⟩, zh1, h⟩ := bnd h
  have zh1 : f_Y_needMeeting Y H p1 = some (q1, Y_2) := zh1
  have ze2 := R_f_Y_needMeeting_3 (d + 0) Y T H2 H RV RU ST NS I0 I1 I2 BO FI RG GU PU MA MN MS OT SC w r5 L Lg p1 zh1
  cases q1 with
  | zero =>
    have h := itp h rfl
    suffices e : Ev (d + 2, 1, 8, 289, 5, [.val (.ref 64), .val (.int p1), .val (.int p2), .val a_unk], [], (126, 120, L, [Y_2, T, H2, H, RV, RU, ST, NS, I0, I1, I2, BO, FI, RG, GU, PU, MA, MN, MS, OT, SC], [256, 192, 384, 320, w, r5, 576, 640, 704], Lg)) o from ev_call (fun v μ => (d + 2, 1, 8, 289, 5, [.val (.ref 64), .val (.int p1), .val (.int p2), .val a_unk], v.toList ++ [], μ)) 3 ze2 e (fun n => Eq.refl _)
    obtain ⟨zt3, zh4, h⟩ := bnd h
    have zj5 : ∀ (v3 : Int32), v3 = zt3 → Ev (d + 2, 1, 8, 289, 21, [.val (.ref 64), .val (.int p1), .val (.int p2), .val a_unk], [.int v3, .ref 64], (126, 120, L, [Y_2, T, H2, H, RV, RU, ST, NS, I0, I1, I2, BO, FI, RG, GU, PU, MA, MN, MS, OT, SC], [256, 192, 384, 320, w, r5, 576, 640, 704], Lg)) o := by
      intro v3 ze6
      subst ze6
      obtain ⟨⟨q4, Y_5⟩, zh7, h⟩ := bnd h
      have zh7 : f_Y_refuseUnless Y_2 v3 = some (q4, Y_5) := zh7
      have ze8 := R_f_Y_refuseUnless_3 (d + 1) Y_2 T H2 H RV RU ST NS I0 I1 I2 BO FI RG GU PU MA MN MS OT SC w r5 L Lg v3 zh7
      cases q4 with
      | zero =>
        have h := itp h rfl
        suffices e : Ev (d + 2, 0, 0, 289, 24, [.val (.ref 64), .val (.int p1), .val (.int p2), .val a_unk], [], (126, 120, L, [Y_5, T, H2, H, RV, RU, ST, NS, I0, I1, I2, BO, FI, RG, GU, PU, MA, MN, MS, OT, SC], [256, 192, 384, 320, w, r5, 576, 640, 704], Lg)) o from ev_call (fun v μ => (d + 2, 0, 0, 289, 24, [.val (.ref 64), .val (.int p1), .val (.int p2), .val a_unk], v.toList ++ [], μ)) 1 ze8 e (fun n => Eq.refl _)
        obtain ⟨x6, zh9, h⟩ := bnd h
        have zh9 : rdx (NS 1) 10 p1 = some x6 := zh9
        suffices e : Ev (d + 2, 0, 0, 289, 33, [.val (.ref 64), .val (.int p1), .val (.int p2), .val a_unk], [.int x6], (126, 120, L, [Y_5, T, H2, H, RV, RU, ST, NS, I0, I1, I2, BO, FI, RG, GU, PU, MA, MN, MS, OT, SC], [256, 192, 384, 320, w, r5, 576, 640, 704], Lg)) o from ev_opt (fun x6 => (d + 2, 0, 0, 289, 33, [.val (.ref 64), .val (.int p1), .val (.int p2), .val a_unk], [.int x6], (126, 120, L, [Y_5, T, H2, H, RV, RU, ST, NS, I0, I1, I2, BO, FI, RG, GU, PU, MA, MN, MS, OT, SC], [256, 192, 384, 320, w, r5, 576, 640, 704], Lg))) 5 zh9 e (fun n => Eq.refl _)
        by_cases zc10 : p2 = 0
        · have h := itp h zc10
          suffices e : Ev (d + 2, 0, 0, 289, 72, [.val (.ref 64), .val (.int p1), .val (.int p2), .val (.int x6)], [], (126, 120, L, [Y_5, T, H2, H, RV, RU, ST, NS, I0, I1, I2, BO, FI, RG, GU, PU, MA, MN, MS, OT, SC], [256, 192, 384, 320, w, r5, 576, 640, 704], Lg)) o from ev_sw [((0 : Int32), 72), ((1 : Int32), 86), ((2 : Int32), 100), ((3 : Int32), 110), ((4 : Int32), 127), ((5 : Int32), 137)] p2 (fun tt => (d + 2, 0, 0, 289, tt, [.val (.ref 64), .val (.int p1), .val (.int p2), .val (.int x6)], [], (126, 120, L, [Y_5, T, H2, H, RV, RU, ST, NS, I0, I1, I2, BO, FI, RG, GU, PU, MA, MN, MS, OT, SC], [256, 192, 384, 320, w, r5, 576, 640, 704], Lg))) 147 72 3 (fun f => by simp only [a_sw, if_pos zc10]) e (fun n => Eq.refl _)
          by_cases zc11 : x6 ≠ (-1)
          · have h := itp h zc11
            suffices e : Ev (d + 2, 0, 0, 289, 81, [.val (.ref 64), .val (.int p1), .val (.int p2), .val (.int x6)], [], (126, 120, L, [Y_5, T, H2, H, RV, RU, ST, NS, I0, I1, I2, BO, FI, RG, GU, PU, MA, MN, MS, OT, SC], [256, 192, 384, 320, w, r5, 576, 640, 704], Lg)) o from ev_t (c := x6 ≠ (-1)) _ _ 3  zc11 e (fun n => Eq.refl _)
            obtain ⟨x7, zh12, h⟩ := bnd h
            have zh12 : f_Y_hourOf x6 = some x7 := zh12
            have ze13 := R_f_Y_hourOf_0 (d + 1) Y_5 T H2 H RV RU ST NS I0 I1 I2 BO FI RG GU PU MA MN MS OT SC 256 192 384 320 w r5 576 640 704 L Lg x6 zh12
            suffices e : Ev (d + 2, 0, 0, 289, 85, [.val (.ref 64), .val (.int p1), .val (.int p2), .val (.int x6)], [.int x7], (126, 120, L, [Y_5, T, H2, H, RV, RU, ST, NS, I0, I1, I2, BO, FI, RG, GU, PU, MA, MN, MS, OT, SC], [256, 192, 384, 320, w, r5, 576, 640, 704], Lg)) o from ev_call (fun v μ => (d + 2, 0, 0, 289, 85, [.val (.ref 64), .val (.int p1), .val (.int p2), .val (.int x6)], v.toList ++ [], μ)) 2 ze13 e (fun n => Eq.refl _)
            have ze14 := Option.some.inj h
            subst ze14
            exact ev_rete 1 ho (fun n => Eq.refl _)
          · have h := itn h zc11
            suffices e : Ev (d + 2, 0, 0, 289, 77, [.val (.ref 64), .val (.int p1), .val (.int p2), .val (.int x6)], [], (126, 120, L, [Y_5, T, H2, H, RV, RU, ST, NS, I0, I1, I2, BO, FI, RG, GU, PU, MA, MN, MS, OT, SC], [256, 192, 384, 320, w, r5, 576, 640, 704], Lg)) o from ev_f (c := x6 ≠ (-1)) _ _ 3  zc11 e (fun n => Eq.refl _)
            have ze15 := Option.some.inj h
            subst ze15
            exact ev_rete 3 ho (fun n => Eq.refl _)
        have h := itn h zc10
        by_cases zc16 : p2 = 1
        · have h := itp h zc16
          suffices e : Ev (d + 2, 0, 0, 289, 86, [.val (.ref 64), .val (.int p1), .val (.int p2), .val (.int x6)], [], (126, 120, L, [Y_5, T, H2, H, RV, RU, ST, NS, I0, I1, I2, BO, FI, RG, GU, PU, MA, MN, MS, OT, SC], [256, 192, 384, 320, w, r5, 576, 640, 704], Lg)) o from ev_sw [((0 : Int32), 72), ((1 : Int32), 86), ((2 : Int32), 100), ((3 : Int32), 110), ((4 : Int32), 127), ((5 : Int32), 137)] p2 (fun tt => (d + 2, 0, 0, 289, tt, [.val (.ref 64), .val (.int p1), .val (.int p2), .val (.int x6)], [], (126, 120, L, [Y_5, T, H2, H, RV, RU, ST, NS, I0, I1, I2, BO, FI, RG, GU, PU, MA, MN, MS, OT, SC], [256, 192, 384, 320, w, r5, 576, 640, 704], Lg))) 147 86 3 (fun f => by simp only [a_sw, if_neg zc10, if_pos zc16]) e (fun n => Eq.refl _)
          by_cases zc17 : x6 ≠ (-1)
          · have h := itp h zc17
            suffices e : Ev (d + 2, 0, 0, 289, 95, [.val (.ref 64), .val (.int p1), .val (.int p2), .val (.int x6)], [], (126, 120, L, [Y_5, T, H2, H, RV, RU, ST, NS, I0, I1, I2, BO, FI, RG, GU, PU, MA, MN, MS, OT, SC], [256, 192, 384, 320, w, r5, 576, 640, 704], Lg)) o from ev_t (c := x6 ≠ (-1)) _ _ 3  zc17 e (fun n => Eq.refl _)
            obtain ⟨x8, zh18, h⟩ := bnd h
            have zh18 : f_Y_roomOf x6 = some x8 := zh18
            have ze19 := R_f_Y_roomOf_0 (d + 1) Y_5 T H2 H RV RU ST NS I0 I1 I2 BO FI RG GU PU MA MN MS OT SC 256 192 384 320 w r5 576 640 704 L Lg x6 zh18
            suffices e : Ev (d + 2, 0, 0, 289, 99, [.val (.ref 64), .val (.int p1), .val (.int p2), .val (.int x6)], [.int x8], (126, 120, L, [Y_5, T, H2, H, RV, RU, ST, NS, I0, I1, I2, BO, FI, RG, GU, PU, MA, MN, MS, OT, SC], [256, 192, 384, 320, w, r5, 576, 640, 704], Lg)) o from ev_call (fun v μ => (d + 2, 0, 0, 289, 99, [.val (.ref 64), .val (.int p1), .val (.int p2), .val (.int x6)], v.toList ++ [], μ)) 2 ze19 e (fun n => Eq.refl _)
            have ze20 := Option.some.inj h
            subst ze20
            exact ev_rete 1 ho (fun n => Eq.refl _)
          · have h := itn h zc17
            suffices e : Ev (d + 2, 0, 0, 289, 91, [.val (.ref 64), .val (.int p1), .val (.int p2), .val (.int x6)], [], (126, 120, L, [Y_5, T, H2, H, RV, RU, ST, NS, I0, I1, I2, BO, FI, RG, GU, PU, MA, MN, MS, OT, SC], [256, 192, 384, 320, w, r5, 576, 640, 704], Lg)) o from ev_f (c := x6 ≠ (-1)) _ _ 3  zc17 e (fun n => Eq.refl _)
            have ze21 := Option.some.inj h
            subst ze21
            exact ev_rete 3 ho (fun n => Eq.refl _)
        have h := itn h zc16
        by_cases zc22 : p2 = 2
        · have h := itp h zc22
          suffices e : Ev (d + 2, 0, 0, 289, 100, [.val (.ref 64), .val (.int p1), .val (.int p2), .val (.int x6)], [], (126, 120, L, [Y_5, T, H2, H, RV, RU, ST, NS, I0, I1, I2, BO, FI, RG, GU, PU, MA, MN, MS, OT, SC], [256, 192, 384, 320, w, r5, 576, 640, 704], Lg)) o from ev_sw [((0 : Int32), 72), ((1 : Int32), 86), ((2 : Int32), 100), ((3 : Int32), 110), ((4 : Int32), 127), ((5 : Int32), 137)] p2 (fun tt => (d + 2, 0, 0, 289, tt, [.val (.ref 64), .val (.int p1), .val (.int p2), .val (.int x6)], [], (126, 120, L, [Y_5, T, H2, H, RV, RU, ST, NS, I0, I1, I2, BO, FI, RG, GU, PU, MA, MN, MS, OT, SC], [256, 192, 384, 320, w, r5, 576, 640, 704], Lg))) 147 100 3 (fun f => by simp only [a_sw, if_neg zc10, if_neg zc16, if_pos zc22]) e (fun n => Eq.refl _)
          suffices e : Ev (d + 2, 0, 0, 289, 104, [.val (.ref 64), .val (.int p1), .val (.int p2), .val (.int x6)], [.ref 256], (126, 120, L, [Y_5, T, H2, H, RV, RU, ST, NS, I0, I1, I2, BO, FI, RG, GU, PU, MA, MN, MS, OT, SC], [256, 192, 384, 320, w, r5, 576, 640, 704], Lg)) o from ev_b 2 e (fun n => Eq.refl _)
          obtain ⟨x9, zh23, h⟩ := bnd h
          have zh23 : rdx (H 7) 10 p1 = some x9 := zh23
          suffices e : Ev (d + 2, 0, 0, 289, 109, [.val (.ref 64), .val (.int p1), .val (.int p2), .val (.int x6)], [.int x9], (126, 120, L, [Y_5, T, H2, H, RV, RU, ST, NS, I0, I1, I2, BO, FI, RG, GU, PU, MA, MN, MS, OT, SC], [256, 192, 384, 320, w, r5, 576, 640, 704], Lg)) o from ev_opt (fun x9 => (d + 2, 0, 0, 289, 109, [.val (.ref 64), .val (.int p1), .val (.int p2), .val (.int x6)], [.int x9], (126, 120, L, [Y_5, T, H2, H, RV, RU, ST, NS, I0, I1, I2, BO, FI, RG, GU, PU, MA, MN, MS, OT, SC], [256, 192, 384, 320, w, r5, 576, 640, 704], Lg))) 3 zh23 e (fun n => Eq.refl _)
          have ze24 := Option.some.inj h
          subst ze24
          exact ev_rete 1 ho (fun n => Eq.refl _)
        have h := itn h zc22
        by_cases zc25 : p2 = 3
        · have h := itp h zc25
          suffices e : Ev (d + 2, 0, 0, 289, 110, [.val (.ref 64), .val (.int p1), .val (.int p2), .val (.int x6)], [], (126, 120, L, [Y_5, T, H2, H, RV, RU, ST, NS, I0, I1, I2, BO, FI, RG, GU, PU, MA, MN, MS, OT, SC], [256, 192, 384, 320, w, r5, 576, 640, 704], Lg)) o from ev_sw [((0 : Int32), 72), ((1 : Int32), 86), ((2 : Int32), 100), ((3 : Int32), 110), ((4 : Int32), 127), ((5 : Int32), 137)] p2 (fun tt => (d + 2, 0, 0, 289, tt, [.val (.ref 64), .val (.int p1), .val (.int p2), .val (.int x6)], [], (126, 120, L, [Y_5, T, H2, H, RV, RU, ST, NS, I0, I1, I2, BO, FI, RG, GU, PU, MA, MN, MS, OT, SC], [256, 192, 384, 320, w, r5, 576, 640, 704], Lg))) 147 110 3 (fun f => by simp only [a_sw, if_neg zc10, if_neg zc16, if_neg zc22, if_pos zc25]) e (fun n => Eq.refl _)
          suffices e : Ev (d + 2, 0, 0, 289, 114, [.val (.ref 64), .val (.int p1), .val (.int p2), .val (.int x6)], [.ref 256], (126, 120, L, [Y_5, T, H2, H, RV, RU, ST, NS, I0, I1, I2, BO, FI, RG, GU, PU, MA, MN, MS, OT, SC], [256, 192, 384, 320, w, r5, 576, 640, 704], Lg)) o from ev_b 2 e (fun n => Eq.refl _)
          obtain ⟨x10, zh26, h⟩ := bnd h
          have zh26 : f_House_isFixed H p1 = some x10 := zh26
          have ze27 := R_f_House_isFixed_1 (d + 1) Y_5 T H2 H RV RU ST NS I0 I1 I2 BO FI RG GU PU MA MN MS OT SC 256 192 384 320 w r5 576 640 704 L Lg p1 zh26
          suffices e : Ev (d + 2, 0, 0, 289, 118, [.val (.ref 64), .val (.int p1), .val (.int p2), .val (.int x6)], [.int x10], (126, 120, L, [Y_5, T, H2, H, RV, RU, ST, NS, I0, I1, I2, BO, FI, RG, GU, PU, MA, MN, MS, OT, SC], [256, 192, 384, 320, w, r5, 576, 640, 704], Lg)) o from ev_call (fun v μ => (d + 2, 0, 0, 289, 118, [.val (.ref 64), .val (.int p1), .val (.int p2), .val (.int x6)], v.toList ++ [], μ)) 2 ze27 e (fun n => Eq.refl _)
          by_cases zc28 : x10 = 0
          · have h := itp h zc28
            suffices e : Ev (d + 2, 0, 0, 289, 125, [.val (.ref 64), .val (.int p1), .val (.int p2), .val (.int x6)], [], (126, 120, L, [Y_5, T, H2, H, RV, RU, ST, NS, I0, I1, I2, BO, FI, RG, GU, PU, MA, MN, MS, OT, SC], [256, 192, 384, 320, w, r5, 576, 640, 704], Lg)) o from ev_t (c := x10 = 0) _ _ 1  zc28 e (fun n => Eq.refl _)
            have ze29 := Option.some.inj h
            subst ze29
            exact ev_rete 2 ho (fun n => Eq.refl _)
          · have h := itn h zc28
            suffices e : Ev (d + 2, 0, 0, 289, 121, [.val (.ref 64), .val (.int p1), .val (.int p2), .val (.int x6)], [], (126, 120, L, [Y_5, T, H2, H, RV, RU, ST, NS, I0, I1, I2, BO, FI, RG, GU, PU, MA, MN, MS, OT, SC], [256, 192, 384, 320, w, r5, 576, 640, 704], Lg)) o from ev_f (c := x10 = 0) _ _ 1  zc28 e (fun n => Eq.refl _)
            have ze30 := Option.some.inj h
            subst ze30
            exact ev_rete 3 ho (fun n => Eq.refl _)
        have h := itn h zc25
        by_cases zc31 : p2 = 4
        · have h := itp h zc31
          suffices e : Ev (d + 2, 0, 0, 289, 127, [.val (.ref 64), .val (.int p1), .val (.int p2), .val (.int x6)], [], (126, 120, L, [Y_5, T, H2, H, RV, RU, ST, NS, I0, I1, I2, BO, FI, RG, GU, PU, MA, MN, MS, OT, SC], [256, 192, 384, 320, w, r5, 576, 640, 704], Lg)) o from ev_sw [((0 : Int32), 72), ((1 : Int32), 86), ((2 : Int32), 100), ((3 : Int32), 110), ((4 : Int32), 127), ((5 : Int32), 137)] p2 (fun tt => (d + 2, 0, 0, 289, tt, [.val (.ref 64), .val (.int p1), .val (.int p2), .val (.int x6)], [], (126, 120, L, [Y_5, T, H2, H, RV, RU, ST, NS, I0, I1, I2, BO, FI, RG, GU, PU, MA, MN, MS, OT, SC], [256, 192, 384, 320, w, r5, 576, 640, 704], Lg))) 147 127 3 (fun f => by simp only [a_sw, if_neg zc10, if_neg zc16, if_neg zc22, if_neg zc25, if_pos zc31]) e (fun n => Eq.refl _)
          obtain ⟨x11, zh32, h⟩ := bnd h
          have zh32 : rdx (NS 2) 10 p1 = some x11 := zh32
          suffices e : Ev (d + 2, 0, 0, 289, 136, [.val (.ref 64), .val (.int p1), .val (.int p2), .val (.int x6)], [.int x11], (126, 120, L, [Y_5, T, H2, H, RV, RU, ST, NS, I0, I1, I2, BO, FI, RG, GU, PU, MA, MN, MS, OT, SC], [256, 192, 384, 320, w, r5, 576, 640, 704], Lg)) o from ev_opt (fun x11 => (d + 2, 0, 0, 289, 136, [.val (.ref 64), .val (.int p1), .val (.int p2), .val (.int x6)], [.int x11], (126, 120, L, [Y_5, T, H2, H, RV, RU, ST, NS, I0, I1, I2, BO, FI, RG, GU, PU, MA, MN, MS, OT, SC], [256, 192, 384, 320, w, r5, 576, 640, 704], Lg))) 5 zh32 e (fun n => Eq.refl _)
          have ze33 := Option.some.inj h
          subst ze33
          exact ev_rete 1 ho (fun n => Eq.refl _)
        have h := itn h zc31
        by_cases zc34 : p2 = 5
        · have h := itp h zc34
          suffices e : Ev (d + 2, 0, 0, 289, 137, [.val (.ref 64), .val (.int p1), .val (.int p2), .val (.int x6)], [], (126, 120, L, [Y_5, T, H2, H, RV, RU, ST, NS, I0, I1, I2, BO, FI, RG, GU, PU, MA, MN, MS, OT, SC], [256, 192, 384, 320, w, r5, 576, 640, 704], Lg)) o from ev_sw [((0 : Int32), 72), ((1 : Int32), 86), ((2 : Int32), 100), ((3 : Int32), 110), ((4 : Int32), 127), ((5 : Int32), 137)] p2 (fun tt => (d + 2, 0, 0, 289, tt, [.val (.ref 64), .val (.int p1), .val (.int p2), .val (.int x6)], [], (126, 120, L, [Y_5, T, H2, H, RV, RU, ST, NS, I0, I1, I2, BO, FI, RG, GU, PU, MA, MN, MS, OT, SC], [256, 192, 384, 320, w, r5, 576, 640, 704], Lg))) 147 137 3 (fun f => by simp only [a_sw, if_neg zc10, if_neg zc16, if_neg zc22, if_neg zc25, if_neg zc31, if_pos zc34]) e (fun n => Eq.refl _)
          suffices e : Ev (d + 2, 0, 0, 289, 141, [.val (.ref 64), .val (.int p1), .val (.int p2), .val (.int x6)], [.ref 256], (126, 120, L, [Y_5, T, H2, H, RV, RU, ST, NS, I0, I1, I2, BO, FI, RG, GU, PU, MA, MN, MS, OT, SC], [256, 192, 384, 320, w, r5, 576, 640, 704], Lg)) o from ev_b 2 e (fun n => Eq.refl _)
          obtain ⟨x12, zh35, h⟩ := bnd h
          have zh35 : rdx (H 8) 10 p1 = some x12 := zh35
          suffices e : Ev (d + 2, 0, 0, 289, 146, [.val (.ref 64), .val (.int p1), .val (.int p2), .val (.int x6)], [.int x12], (126, 120, L, [Y_5, T, H2, H, RV, RU, ST, NS, I0, I1, I2, BO, FI, RG, GU, PU, MA, MN, MS, OT, SC], [256, 192, 384, 320, w, r5, 576, 640, 704], Lg)) o from ev_opt (fun x12 => (d + 2, 0, 0, 289, 146, [.val (.ref 64), .val (.int p1), .val (.int p2), .val (.int x6)], [.int x12], (126, 120, L, [Y_5, T, H2, H, RV, RU, ST, NS, I0, I1, I2, BO, FI, RG, GU, PU, MA, MN, MS, OT, SC], [256, 192, 384, 320, w, r5, 576, 640, 704], Lg))) 3 zh35 e (fun n => Eq.refl _)
          have ze36 := Option.some.inj h
          subst ze36
          exact ev_rete 1 ho (fun n => Eq.refl _)
        have h := itn h zc34
        suffices e : Ev (d + 2, 0, 0, 289, 147, [.val (.ref 64), .val (.int p1), .val (.int p2), .val (.int x6)], [], (126, 120, L, [Y_5, T, H2, H, RV, RU, ST, NS, I0, I1, I2, BO, FI, RG, GU, PU, MA, MN, MS, OT, SC], [256, 192, 384, 320, w, r5, 576, 640, 704], Lg)) o from ev_sw [((0 : Int32), 72), ((1 : Int32), 86), ((2 : Int32), 100), ((3 : Int32), 110), ((4 : Int32), 127), ((5 : Int32), 137)] p2 (fun tt => (d + 2, 0, 0, 289, tt, [.val (.ref 64), .val (.int p1), .val (.int p2), .val (.int x6)], [], (126, 120, L, [Y_5, T, H2, H, RV, RU, ST, NS, I0, I1, I2, BO, FI, RG, GU, PU, MA, MN, MS, OT, SC], [256, 192, 384, 320, w, r5, 576, 640, 704], Lg))) 147 147 3 (fun f => by simp only [a_sw, if_neg zc10, if_neg zc16, if_neg zc22, if_neg zc25, if_neg zc31, if_neg zc34]) e (fun n => Eq.refl _)
        suffices e : Ev (d + 2, 0, 0, 289, 151, [.val (.ref 64), .val (.int p1), .val (.int p2), .val (.int x6)], [.ref 256], (126, 120, L, [Y_5, T, H2, H, RV, RU, ST, NS, I0, I1, I2, BO, FI, RG, GU, PU, MA, MN, MS, OT, SC], [256, 192, 384, 320, w, r5, 576, 640, 704], Lg)) o from ev_b 2 e (fun n => Eq.refl _)
        obtain ⟨x13, zh37, h⟩ := bnd h
        have zh37 : f_House_mayHours H p1 = some x13 := zh37
        have ze38 := R_f_House_mayHours_0 (d + 1) Y_5 T H2 H RV RU ST NS I0 I1 I2 BO FI RG GU PU MA MN MS OT SC 256 192 384 320 w r5 576 640 704 L Lg p1 zh37
        suffices e : Ev (d + 2, 0, 0, 289, 155, [.val (.ref 64), .val (.int p1), .val (.int p2), .val (.int x6)], [.int x13], (126, 120, L, [Y_5, T, H2, H, RV, RU, ST, NS, I0, I1, I2, BO, FI, RG, GU, PU, MA, MN, MS, OT, SC], [256, 192, 384, 320, w, r5, 576, 640, 704], Lg)) o from ev_call (fun v μ => (d + 2, 0, 0, 289, 155, [.val (.ref 64), .val (.int p1), .val (.int p2), .val (.int x6)], v.toList ++ [], μ)) 2 ze38 e (fun n => Eq.refl _)
        have ze39 := Option.some.inj h
        subst ze39
        exact ev_rete 1 ho (fun n => Eq.refl _)
      | succ q4 =>
        have h := itn h (Nat.succ_ne_zero q4)
        have ze40 := Option.some.inj h
        subst ze40
        subst ho
        exact ev_thr (fun v μ => (d + 2, 0, 0, 289, 24, [.val (.ref 64), .val (.int p1), .val (.int p2), .val a_unk], v.toList ++ [], μ)) 1 ze8 (fun n => Eq.refl _) (fun n => rfl)
    obtain ⟨zt41, zh42, zh4⟩ := bnd zh4
    have zj43 : zt41 = .inl () → Ev (d + 2, 1, 8, 289, 20, [.val (.ref 64), .val (.int p1), .val (.int p2), .val a_unk], [.ref 64], (126, 120, L, [Y_2, T, H2, H, RV, RU, ST, NS, I0, I1, I2, BO, FI, RG, GU, PU, MA, MN, MS, OT, SC], [256, 192, 384, 320, w, r5, 576, 640, 704], Lg)) o := by
      intro ze44
      have zh4 := sum_l zh4 ze44
      exact ev_b 1 (zj5 0 (Option.some.inj zh4) ) (fun n => Eq.refl _)
    by_cases zc45 : p2 < 0
    · have zh42 := itp zh42 zc45
      suffices e : Ev (d + 2, 1, 8, 289, 20, [.val (.ref 64), .val (.int p1), .val (.int p2), .val a_unk], [.ref 64], (126, 120, L, [Y_2, T, H2, H, RV, RU, ST, NS, I0, I1, I2, BO, FI, RG, GU, PU, MA, MN, MS, OT, SC], [256, 192, 384, 320, w, r5, 576, 640, 704], Lg)) o from ev_t (c := p2 < 0) _ _ 3  zc45 e (fun n => Eq.refl _)
      exact ev_b 0 (zj43  (Option.some.inj zh42).symm ) (fun n => Eq.refl _)
    · have zh42 := itn zh42 zc45
      suffices e : Ev (d + 2, 1, 8, 289, 10, [.val (.ref 64), .val (.int p1), .val (.int p2), .val a_unk], [.ref 64], (126, 120, L, [Y_2, T, H2, H, RV, RU, ST, NS, I0, I1, I2, BO, FI, RG, GU, PU, MA, MN, MS, OT, SC], [256, 192, 384, 320, w, r5, 576, 640, 704], Lg)) o from ev_f (c := p2 < 0) _ _ 3  zc45 e (fun n => Eq.refl _)
      by_cases zc46 : 6 < p2
      · have zh42 := itp zh42 zc46
        suffices e : Ev (d + 2, 1, 8, 289, 20, [.val (.ref 64), .val (.int p1), .val (.int p2), .val a_unk], [.ref 64], (126, 120, L, [Y_2, T, H2, H, RV, RU, ST, NS, I0, I1, I2, BO, FI, RG, GU, PU, MA, MN, MS, OT, SC], [256, 192, 384, 320, w, r5, 576, 640, 704], Lg)) o from ev_t (c := 6 < p2) _ _ 3  zc46 e (fun n => Eq.refl _)
        exact ev_b 0 (zj43  (Option.some.inj zh42).symm ) (fun n => Eq.refl _)
      · have zh42 := itn zh42 zc46
        suffices e : Ev (d + 2, 1, 8, 289, 16, [.val (.ref 64), .val (.int p1), .val (.int p2), .val a_unk], [.ref 64], (126, 120, L, [Y_2, T, H2, H, RV, RU, ST, NS, I0, I1, I2, BO, FI, RG, GU, PU, MA, MN, MS, OT, SC], [256, 192, 384, 320, w, r5, 576, 640, 704], Lg)) o from ev_f (c := 6 < p2) _ _ 3  zc46 e (fun n => Eq.refl _)
        have zh47 := sum_r zh4 (Option.some.inj zh42).symm
        exact ev_b 2 (zj5 1 (Option.some.inj zh47) ) (fun n => Eq.refl _)
  | succ q1 =>
    have h := itn h (Nat.succ_ne_zero q1)
    have ze48 := Option.some.inj h
    subst ze48
    subst ho
    exact ev_thr (fun v μ => (d + 2, 1, 8, 289, 5, [.val (.ref 64), .val (.int p1), .val (.int p2), .val a_unk], v.toList ++ [], μ)) 3 ze2 (fun n => Eq.refl _) (fun n => rfl)
