/-! printed by program (gen/emitm.py): the reference's methods run as their functions say -/
set_option maxRecDepth 1000000 in
set_option maxHeartbeats 4000000 in
theorem R_f_Y_begin_2 (d : Nat) (Y T H2 H RU RV ST NS I0 I1 I2 BO FI RG GU PU MA MN MS OT SC : Nat → Nat → Int32) (w r5 : Nat) (L : Nat) (Lg : Int64) {r : Int32 × (Nat → Nat → Int32) × (Nat → Nat → Int32)} (h : f_Y_begin H NS BO GU = some r) : Ev (d + 6, 0, 0, 311, 0, [.val (.ref 64)], [], (126, 120, L, [Y, T, H2, H, RU, RV, ST, NS, I0, I1, I2, BO, FI, RG, GU, PU, MA, MN, MS, OT, SC], [256, 192, 320, 384, w, r5, 576, 640, 704], Lg)) ((0, some (.int r.1), (126, 120, L, [Y, T, H2, H, RU, RV, ST, NS, I0, I1, I2, r.2.1, FI, RG, r.2.2, PU, MA, MN, MS, OT, SC], [256, 192, 320, 384, w, 256, 576, 640, 704], Lg)) : AOut) := by
  suffices key : ∀ o : AOut, ((0, some (.int r.1), (126, 120, L, [Y, T, H2, H, RU, RV, ST, NS, I0, I1, I2, r.2.1, FI, RG, r.2.2, PU, MA, MN, MS, OT, SC], [256, 192, 320, 384, w, 256, 576, 640, 704], Lg)) : AOut) = o → Ev (d + 6, 0, 0, 311, 0, [.val (.ref 64)], [], (126, 120, L, [Y, T, H2, H, RU, RV, ST, NS, I0, I1, I2, BO, FI, RG, GU, PU, MA, MN, MS, OT, SC], [256, 192, 320, 384, w, r5, 576, 640, 704], Lg)) o from key _ rfl
  intro o ho
  obtain ⟨⟨BO_2, GU_3⟩, zh1, h⟩ := bnd h
  have zh1 : f_Y_lookAhead H NS BO GU = some (BO_2, GU_3) := zh1
  have ze2 := R_f_Y_lookAhead_2 (d + 2) Y T H2 H RU RV ST NS I0 I1 I2 BO FI RG GU PU MA MN MS OT SC w r5 L Lg zh1
  suffices e : Ev (d + 6, 0, 0, 311, 4, [.val (.ref 64)], [.ref 960], (126, 120, L, [Y, T, H2, H, RU, RV, ST, NS, I0, I1, I2, BO_2, FI, RG, GU_3, PU, MA, MN, MS, OT, SC], [256, 192, 320, 384, w, 256, 576, 640, 704], Lg)) o from ev_call (fun v μ => (d + 6, 0, 0, 311, 4, [.val (.ref 64)], v.toList ++ [], μ)) 2 ze2 e (fun n => Eq.refl _)
  obtain ⟨⟨x4, BO_5⟩, zh3, h⟩ := bnd h
  have zh3 : f_Guide_beginners H BO_2 GU_3 = some (x4, BO_5) := zh3
  have ze4 := R_f_Guide_beginners_1 (d + 0) Y T H2 H RU RV ST NS I0 I1 I2 BO_2 FI RG GU_3 PU MA MN MS OT SC 256 192 320 384 w 576 640 704 L Lg zh3
  suffices e : Ev (d + 6, 0, 0, 311, 7, [.val (.ref 64)], [.int x4], (126, 120, L, [Y, T, H2, H, RU, RV, ST, NS, I0, I1, I2, BO_5, FI, RG, GU_3, PU, MA, MN, MS, OT, SC], [256, 192, 320, 384, w, 256, 576, 640, 704], Lg)) o from ev_call (fun v μ => (d + 6, 0, 0, 311, 7, [.val (.ref 64)], v.toList ++ [], μ)) 1 ze4 e (fun n => Eq.refl _)
  have ze5 := Option.some.inj h
  subst ze5
  exact ev_rete 1 ho (fun n => Eq.refl _)
set_option maxRecDepth 1000000 in
set_option maxHeartbeats 4000000 in
theorem R_f_Y_begin_3 (d : Nat) (Y T H2 H RV RU ST NS I0 I1 I2 BO FI RG GU PU MA MN MS OT SC : Nat → Nat → Int32) (w r5 : Nat) (L : Nat) (Lg : Int64) {r : Int32 × (Nat → Nat → Int32) × (Nat → Nat → Int32)} (h : f_Y_begin H NS BO GU = some r) : Ev (d + 6, 0, 0, 311, 0, [.val (.ref 64)], [], (126, 120, L, [Y, T, H2, H, RV, RU, ST, NS, I0, I1, I2, BO, FI, RG, GU, PU, MA, MN, MS, OT, SC], [256, 192, 384, 320, w, r5, 576, 640, 704], Lg)) ((0, some (.int r.1), (126, 120, L, [Y, T, H2, H, RV, RU, ST, NS, I0, I1, I2, r.2.1, FI, RG, r.2.2, PU, MA, MN, MS, OT, SC], [256, 192, 384, 320, w, 256, 576, 640, 704], Lg)) : AOut) := by
  suffices key : ∀ o : AOut, ((0, some (.int r.1), (126, 120, L, [Y, T, H2, H, RV, RU, ST, NS, I0, I1, I2, r.2.1, FI, RG, r.2.2, PU, MA, MN, MS, OT, SC], [256, 192, 384, 320, w, 256, 576, 640, 704], Lg)) : AOut) = o → Ev (d + 6, 0, 0, 311, 0, [.val (.ref 64)], [], (126, 120, L, [Y, T, H2, H, RV, RU, ST, NS, I0, I1, I2, BO, FI, RG, GU, PU, MA, MN, MS, OT, SC], [256, 192, 384, 320, w, r5, 576, 640, 704], Lg)) o from key _ rfl
  intro o ho
  obtain ⟨⟨BO_2, GU_3⟩, zh1, h⟩ := bnd h
  have zh1 : f_Y_lookAhead H NS BO GU = some (BO_2, GU_3) := zh1
  have ze2 := R_f_Y_lookAhead_3 (d + 2) Y T H2 H RV RU ST NS I0 I1 I2 BO FI RG GU PU MA MN MS OT SC w r5 L Lg zh1
  suffices e : Ev (d + 6, 0, 0, 311, 4, [.val (.ref 64)], [.ref 960], (126, 120, L, [Y, T, H2, H, RV, RU, ST, NS, I0, I1, I2, BO_2, FI, RG, GU_3, PU, MA, MN, MS, OT, SC], [256, 192, 384, 320, w, 256, 576, 640, 704], Lg)) o from ev_call (fun v μ => (d + 6, 0, 0, 311, 4, [.val (.ref 64)], v.toList ++ [], μ)) 2 ze2 e (fun n => Eq.refl _)
  obtain ⟨⟨x4, BO_5⟩, zh3, h⟩ := bnd h
  have zh3 : f_Guide_beginners H BO_2 GU_3 = some (x4, BO_5) := zh3
  have ze4 := R_f_Guide_beginners_1 (d + 0) Y T H2 H RV RU ST NS I0 I1 I2 BO_2 FI RG GU_3 PU MA MN MS OT SC 256 192 384 320 w 576 640 704 L Lg zh3
  suffices e : Ev (d + 6, 0, 0, 311, 7, [.val (.ref 64)], [.int x4], (126, 120, L, [Y, T, H2, H, RV, RU, ST, NS, I0, I1, I2, BO_5, FI, RG, GU_3, PU, MA, MN, MS, OT, SC], [256, 192, 384, 320, w, 256, 576, 640, 704], Lg)) o from ev_call (fun v μ => (d + 6, 0, 0, 311, 7, [.val (.ref 64)], v.toList ++ [], μ)) 1 ze4 e (fun n => Eq.refl _)
  have ze5 := Option.some.inj h
  subst ze5
  exact ev_rete 1 ho (fun n => Eq.refl _)
set_option maxRecDepth 1000000 in
set_option maxHeartbeats 4000000 in
theorem R_f_Guide_waitedFor_0 (d : Nat) (Y T H H2 RA RB ST NS I0 I1 I2 BO FI RG GU PU MA MN MS OT SC : Nat → Nat → Int32) (r0 r1 r2 r3 w r6 r7 r8 : Nat) (L : Nat) (Lg : Int64) (p1 : Int32) {r : Int32} (h : f_Guide_waitedFor H BO GU p1 = some r) : Ev (d + 3, 0, 0, 196, 0, [.val (.ref 960), .val (.int p1)], [], (126, 120, L, [Y, T, H, H2, RA, RB, ST, NS, I0, I1, I2, BO, FI, RG, GU, PU, MA, MN, MS, OT, SC], [r0, r1, r2, r3, w, 192, r6, r7, r8], Lg)) ((0, some (.int r), (126, 120, L, [Y, T, H, H2, RA, RB, ST, NS, I0, I1, I2, BO, FI, RG, GU, PU, MA, MN, MS, OT, SC], [r0, r1, r2, r3, w, 192, r6, r7, r8], Lg)) : AOut) := by
  suffices key : ∀ o : AOut, ((0, some (.int r), (126, 120, L, [Y, T, H, H2, RA, RB, ST, NS, I0, I1, I2, BO, FI, RG, GU, PU, MA, MN, MS, OT, SC], [r0, r1, r2, r3, w, 192, r6, r7, r8], Lg)) : AOut) = o → Ev (d + 3, 0, 0, 196, 0, [.val (.ref 960), .val (.int p1)], [], (126, 120, L, [Y, T, H, H2, RA, RB, ST, NS, I0, I1, I2, BO, FI, RG, GU, PU, MA, MN, MS, OT, SC], [r0, r1, r2, r3, w, 192, r6, r7, r8], Lg)) o from key _ rfl
  intro o ho
  by_cases zc1 : ((a_shr (GU 0 4) p1) &&& 1) ≠ 0
  · have h := itp h zc1
    suffices e : Ev (d + 3, 0, 0, 196, 13, [.val (.ref 960), .val (.int p1)], [], (126, 120, L, [Y, T, H, H2, RA, RB, ST, NS, I0, I1, I2, BO, FI, RG, GU, PU, MA, MN, MS, OT, SC], [r0, r1, r2, r3, w, 192, r6, r7, r8], Lg)) o from ev_t (c := ((a_shr (GU 0 4) p1) &&& 1) ≠ 0) _ _ 7  zc1 e (fun n => Eq.refl _)
    obtain ⟨x1, zh2, h⟩ := bnd h
    have zh2 : rdx (GU 2) 10 p1 = some x1 := zh2
    suffices e : Ev (d + 3, 0, 0, 196, 24, [.val (.ref 960), .val (.int p1)], [.int x1, .int p1, .ref 768], (126, 120, L, [Y, T, H, H2, RA, RB, ST, NS, I0, I1, I2, BO, FI, RG, GU, PU, MA, MN, MS, OT, SC], [r0, r1, r2, r3, w, 192, r6, r7, r8], Lg)) o from ev_opt (fun x1 => (d + 3, 0, 0, 196, 24, [.val (.ref 960), .val (.int p1)], [.int x1, .int p1, .ref 768], (126, 120, L, [Y, T, H, H2, RA, RB, ST, NS, I0, I1, I2, BO, FI, RG, GU, PU, MA, MN, MS, OT, SC], [r0, r1, r2, r3, w, 192, r6, r7, r8], Lg))) 7 zh2 e (fun n => Eq.refl _)
    obtain ⟨x2, zh3, h⟩ := bnd h
    have zh3 : f_Board_inWay H BO p1 x1 = some x2 := zh3
    have ze4 := R_f_Board_inWay_0 (d + 0) Y T H H2 RA RB ST NS I0 I1 I2 BO FI RG GU PU MA MN MS OT SC r0 r1 r2 r3 w r6 r7 r8 L Lg p1 x1 zh3
    suffices e : Ev (d + 3, 0, 0, 196, 27, [.val (.ref 960), .val (.int p1)], [.int x2], (126, 120, L, [Y, T, H, H2, RA, RB, ST, NS, I0, I1, I2, BO, FI, RG, GU, PU, MA, MN, MS, OT, SC], [r0, r1, r2, r3, w, 192, r6, r7, r8], Lg)) o from ev_call (fun v μ => (d + 3, 0, 0, 196, 27, [.val (.ref 960), .val (.int p1)], v.toList ++ [], μ)) 1 ze4 e (fun n => Eq.refl _)
    have ze5 := Option.some.inj h
    subst ze5
    exact ev_rete 4 ho (fun n => Eq.refl _)
  · have h := itn h zc1
    suffices e : Ev (d + 3, 0, 0, 196, 11, [.val (.ref 960), .val (.int p1)], [], (126, 120, L, [Y, T, H, H2, RA, RB, ST, NS, I0, I1, I2, BO, FI, RG, GU, PU, MA, MN, MS, OT, SC], [r0, r1, r2, r3, w, 192, r6, r7, r8], Lg)) o from ev_f (c := ((a_shr (GU 0 4) p1) &&& 1) ≠ 0) _ _ 7  zc1 e (fun n => Eq.refl _)
    have ze6 := Option.some.inj h
    subst ze6
    exact ev_rete 2 ho (fun n => Eq.refl _)
set_option maxRecDepth 1000000 in
set_option maxHeartbeats 4000000 in
theorem R_f_Y_waits_0 (d : Nat) (Y T H H2 RU RV ST NS I0 I1 I2 BO FI RG GU PU MA MN MS OT SC : Nat → Nat → Int32) (w r5 : Nat) (L : Nat) (Lg : Int64) (p1 : Int32) {r : Nat × Int32 × (Nat → Nat → Int32) × (Nat → Nat → Int32) × (Nat → Nat → Int32) × Nat} (h : f_Y_waits Y H NS BO GU 192 r5 p1 = some r) : Ev (d + 4, 1, 8, 312, 0, [.val (.ref 64), .val (.int p1)], [], (126, 120, L, [Y, T, H, H2, RU, RV, ST, NS, I0, I1, I2, BO, FI, RG, GU, PU, MA, MN, MS, OT, SC], [192, 256, 320, 384, w, r5, 576, 640, 704], Lg)) ((r.1, a_ov r.1 (.int r.2.1), (126, 120, L, [r.2.2.1, T, H, H2, RU, RV, ST, NS, I0, I1, I2, r.2.2.2.1, FI, RG, r.2.2.2.2.1, PU, MA, MN, MS, OT, SC], [192, 256, 320, 384, w, r.2.2.2.2.2, 576, 640, 704], Lg)) : AOut) := by
  suffices key : ∀ o : AOut, ((r.1, a_ov r.1 (.int r.2.1), (126, 120, L, [r.2.2.1, T, H, H2, RU, RV, ST, NS, I0, I1, I2, r.2.2.2.1, FI, RG, r.2.2.2.2.1, PU, MA, MN, MS, OT, SC], [192, 256, 320, 384, w, r.2.2.2.2.2, 576, 640, 704], Lg)) : AOut) = o → Ev (d + 4, 1, 8, 312, 0, [.val (.ref 64), .val (.int p1)], [], (126, 120, L, [Y, T, H, H2, RU, RV, ST, NS, I0, I1, I2, BO, FI, RG, GU, PU, MA, MN, MS, OT, SC], [192, 256, 320, 384, w, r5, 576, 640, 704], Lg)) o from key _ rfl
  intro o ho
  obtain ⟨⟨q1, Y_2⟩, zh1, h⟩ := bnd h
  have zh1 : f_Y_needMeeting Y H p1 = some (q1, Y_2) := zh1
  have ze2 := R_f_Y_needMeeting_0 (d + 2) Y T H H2 RU RV ST NS I0 I1 I2 BO FI RG GU PU MA MN MS OT SC w r5 L Lg p1 zh1
  cases q1 with
  | zero =>
    have h := itp h rfl
    suffices e : Ev (d + 4, 0, 0, 312, 5, [.val (.ref 64), .val (.int p1)], [], (126, 120, L, [Y_2, T, H, H2, RU, RV, ST, NS, I0, I1, I2, BO, FI, RG, GU, PU, MA, MN, MS, OT, SC], [192, 256, 320, 384, w, r5, 576, 640, 704], Lg)) o from ev_call (fun v μ => (d + 4, 0, 0, 312, 5, [.val (.ref 64), .val (.int p1)], v.toList ++ [], μ)) 3 ze2 e (fun n => Eq.refl _)
    obtain ⟨⟨BO_4, GU_5⟩, zh3, h⟩ := bnd h
    have zh3 : f_Y_lookAhead H NS BO GU = some (BO_4, GU_5) := zh3
    have ze4 := R_f_Y_lookAhead_0 (d + 0) Y_2 T H H2 RU RV ST NS I0 I1 I2 BO FI RG GU PU MA MN MS OT SC w r5 L Lg zh3
    suffices e : Ev (d + 4, 0, 0, 312, 9, [.val (.ref 64), .val (.int p1)], [.ref 960], (126, 120, L, [Y_2, T, H, H2, RU, RV, ST, NS, I0, I1, I2, BO_4, FI, RG, GU_5, PU, MA, MN, MS, OT, SC], [192, 256, 320, 384, w, 192, 576, 640, 704], Lg)) o from ev_call (fun v μ => (d + 4, 0, 0, 312, 9, [.val (.ref 64), .val (.int p1)], v.toList ++ [], μ)) 2 ze4 e (fun n => Eq.refl _)
    obtain ⟨x6, zh5, h⟩ := bnd h
    have zh5 : f_Guide_waitedFor H BO_4 GU_5 p1 = some x6 := zh5
    have ze6 := R_f_Guide_waitedFor_0 (d + 0) Y_2 T H H2 RU RV ST NS I0 I1 I2 BO_4 FI RG GU_5 PU MA MN MS OT SC 192 256 320 384 w 576 640 704 L Lg p1 zh5
    suffices e : Ev (d + 4, 0, 0, 312, 13, [.val (.ref 64), .val (.int p1)], [.int x6], (126, 120, L, [Y_2, T, H, H2, RU, RV, ST, NS, I0, I1, I2, BO_4, FI, RG, GU_5, PU, MA, MN, MS, OT, SC], [192, 256, 320, 384, w, 192, 576, 640, 704], Lg)) o from ev_call (fun v μ => (d + 4, 0, 0, 312, 13, [.val (.ref 64), .val (.int p1)], v.toList ++ [], μ)) 2 ze6 e (fun n => Eq.refl _)
    have ze7 := Option.some.inj h
    subst ze7
    exact ev_rete 1 ho (fun n => Eq.refl _)
  | succ q1 =>
    have h := itn h (Nat.succ_ne_zero q1)
    have ze8 := Option.some.inj h
    subst ze8
    subst ho
    exact ev_thr (fun v μ => (d + 4, 0, 0, 312, 5, [.val (.ref 64), .val (.int p1)], v.toList ++ [], μ)) 3 ze2 (fun n => Eq.refl _) (fun n => rfl)
set_option maxRecDepth 1000000 in
set_option maxHeartbeats 4000000 in
theorem R_f_Y_waits_1 (d : Nat) (Y T H H2 RV RU ST NS I0 I1 I2 BO FI RG GU PU MA MN MS OT SC : Nat → Nat → Int32) (w r5 : Nat) (L : Nat) (Lg : Int64) (p1 : Int32) {r : Nat × Int32 × (Nat → Nat → Int32) × (Nat → Nat → Int32) × (Nat → Nat → Int32) × Nat} (h : f_Y_waits Y H NS BO GU 192 r5 p1 = some r) : Ev (d + 4, 1, 8, 312, 0, [.val (.ref 64), .val (.int p1)], [], (126, 120, L, [Y, T, H, H2, RV, RU, ST, NS, I0, I1, I2, BO, FI, RG, GU, PU, MA, MN, MS, OT, SC], [192, 256, 384, 320, w, r5, 576, 640, 704], Lg)) ((r.1, a_ov r.1 (.int r.2.1), (126, 120, L, [r.2.2.1, T, H, H2, RV, RU, ST, NS, I0, I1, I2, r.2.2.2.1, FI, RG, r.2.2.2.2.1, PU, MA, MN, MS, OT, SC], [192, 256, 384, 320, w, r.2.2.2.2.2, 576, 640, 704], Lg)) : AOut) := by
  suffices key : ∀ o : AOut, ((r.1, a_ov r.1 (.int r.2.1), (126, 120, L, [r.2.2.1, T, H, H2, RV, RU, ST, NS, I0, I1, I2, r.2.2.2.1, FI, RG, r.2.2.2.2.1, PU, MA, MN, MS, OT, SC], [192, 256, 384, 320, w, r.2.2.2.2.2, 576, 640, 704], Lg)) : AOut) = o → Ev (d + 4, 1, 8, 312, 0, [.val (.ref 64), .val (.int p1)], [], (126, 120, L, [Y, T, H, H2, RV, RU, ST, NS, I0, I1, I2, BO, FI, RG, GU, PU, MA, MN, MS, OT, SC], [192, 256, 384, 320, w, r5, 576, 640, 704], Lg)) o from key _ rfl
  intro o ho
  obtain ⟨⟨q1, Y_2⟩, zh1, h⟩ := bnd h
  have zh1 : f_Y_needMeeting Y H p1 = some (q1, Y_2) := zh1
  have ze2 := R_f_Y_needMeeting_1 (d + 2) Y T H H2 RV RU ST NS I0 I1 I2 BO FI RG GU PU MA MN MS OT SC w r5 L Lg p1 zh1
  cases q1 with
  | zero =>
    have h := itp h rfl
    suffices e : Ev (d + 4, 0, 0, 312, 5, [.val (.ref 64), .val (.int p1)], [], (126, 120, L, [Y_2, T, H, H2, RV, RU, ST, NS, I0, I1, I2, BO, FI, RG, GU, PU, MA, MN, MS, OT, SC], [192, 256, 384, 320, w, r5, 576, 640, 704], Lg)) o from ev_call (fun v μ => (d + 4, 0, 0, 312, 5, [.val (.ref 64), .val (.int p1)], v.toList ++ [], μ)) 3 ze2 e (fun n => Eq.refl _)
    obtain ⟨⟨BO_4, GU_5⟩, zh3, h⟩ := bnd h
    have zh3 : f_Y_lookAhead H NS BO GU = some (BO_4, GU_5) := zh3
    have ze4 := R_f_Y_lookAhead_1 (d + 0) Y_2 T H H2 RV RU ST NS I0 I1 I2 BO FI RG GU PU MA MN MS OT SC w r5 L Lg zh3
    suffices e : Ev (d + 4, 0, 0, 312, 9, [.val (.ref 64), .val (.int p1)], [.ref 960], (126, 120, L, [Y_2, T, H, H2, RV, RU, ST, NS, I0, I1, I2, BO_4, FI, RG, GU_5, PU, MA, MN, MS, OT, SC], [192, 256, 384, 320, w, 192, 576, 640, 704], Lg)) o from ev_call (fun v μ => (d + 4, 0, 0, 312, 9, [.val (.ref 64), .val (.int p1)], v.toList ++ [], μ)) 2 ze4 e (fun n => Eq.refl _)
    obtain ⟨x6, zh5, h⟩ := bnd h
    have zh5 : f_Guide_waitedFor H BO_4 GU_5 p1 = some x6 := zh5
    have ze6 := R_f_Guide_waitedFor_0 (d + 0) Y_2 T H H2 RV RU ST NS I0 I1 I2 BO_4 FI RG GU_5 PU MA MN MS OT SC 192 256 384 320 w 576 640 704 L Lg p1 zh5
    suffices e : Ev (d + 4, 0, 0, 312, 13, [.val (.ref 64), .val (.int p1)], [.int x6], (126, 120, L, [Y_2, T, H, H2, RV, RU, ST, NS, I0, I1, I2, BO_4, FI, RG, GU_5, PU, MA, MN, MS, OT, SC], [192, 256, 384, 320, w, 192, 576, 640, 704], Lg)) o from ev_call (fun v μ => (d + 4, 0, 0, 312, 13, [.val (.ref 64), .val (.int p1)], v.toList ++ [], μ)) 2 ze6 e (fun n => Eq.refl _)
    have ze7 := Option.some.inj h
    subst ze7
    exact ev_rete 1 ho (fun n => Eq.refl _)
  | succ q1 =>
    have h := itn h (Nat.succ_ne_zero q1)
    have ze8 := Option.some.inj h
    subst ze8
    subst ho
    exact ev_thr (fun v μ => (d + 4, 0, 0, 312, 5, [.val (.ref 64), .val (.int p1)], v.toList ++ [], μ)) 3 ze2 (fun n => Eq.refl _) (fun n => rfl)
set_option maxRecDepth 1000000 in
set_option maxHeartbeats 4000000 in
theorem R_f_Guide_waitedFor_1 (d : Nat) (Y T H2 H RA RB ST NS I0 I1 I2 BO FI RG GU PU MA MN MS OT SC : Nat → Nat → Int32) (r0 r1 r2 r3 w r6 r7 r8 : Nat) (L : Nat) (Lg : Int64) (p1 : Int32) {r : Int32} (h : f_Guide_waitedFor H BO GU p1 = some r) : Ev (d + 3, 0, 0, 196, 0, [.val (.ref 960), .val (.int p1)], [], (126, 120, L, [Y, T, H2, H, RA, RB, ST, NS, I0, I1, I2, BO, FI, RG, GU, PU, MA, MN, MS, OT, SC], [r0, r1, r2, r3, w, 256, r6, r7, r8], Lg)) ((0, some (.int r), (126, 120, L, [Y, T, H2, H, RA, RB, ST, NS, I0, I1, I2, BO, FI, RG, GU, PU, MA, MN, MS, OT, SC], [r0, r1, r2, r3, w, 256, r6, r7, r8], Lg)) : AOut) := by
  suffices key : ∀ o : AOut, ((0, some (.int r), (126, 120, L, [Y, T, H2, H, RA, RB, ST, NS, I0, I1, I2, BO, FI, RG, GU, PU, MA, MN, MS, OT, SC], [r0, r1, r2, r3, w, 256, r6, r7, r8], Lg)) : AOut) = o → Ev (d + 3, 0, 0, 196, 0, [.val (.ref 960), .val (.int p1)], [], (126, 120, L, [Y, T, H2, H, RA, RB, ST, NS, I0, I1, I2, BO, FI, RG, GU, PU, MA, MN, MS, OT, SC], [r0, r1, r2, r3, w, 256, r6, r7, r8], Lg)) o from key _ rfl
  intro o ho
  by_cases zc1 : ((a_shr (GU 0 4) p1) &&& 1) ≠ 0
  · have h := itp h zc1
    suffices e : Ev (d + 3, 0, 0, 196, 13, [.val (.ref 960), .val (.int p1)], [], (126, 120, L, [Y, T, H2, H, RA, RB, ST, NS, I0, I1, I2, BO, FI, RG, GU, PU, MA, MN, MS, OT, SC], [r0, r1, r2, r3, w, 256, r6, r7, r8], Lg)) o from ev_t (c := ((a_shr (GU 0 4) p1) &&& 1) ≠ 0) _ _ 7  zc1 e (fun n => Eq.refl _)
    obtain ⟨x1, zh2, h⟩ := bnd h
    have zh2 : rdx (GU 2) 10 p1 = some x1 := zh2
    suffices e : Ev (d + 3, 0, 0, 196, 24, [.val (.ref 960), .val (.int p1)], [.int x1, .int p1, .ref 768], (126, 120, L, [Y, T, H2, H, RA, RB, ST, NS, I0, I1, I2, BO, FI, RG, GU, PU, MA, MN, MS, OT, SC], [r0, r1, r2, r3, w, 256, r6, r7, r8], Lg)) o from ev_opt (fun x1 => (d + 3, 0, 0, 196, 24, [.val (.ref 960), .val (.int p1)], [.int x1, .int p1, .ref 768], (126, 120, L, [Y, T, H2, H, RA, RB, ST, NS, I0, I1, I2, BO, FI, RG, GU, PU, MA, MN, MS, OT, SC], [r0, r1, r2, r3, w, 256, r6, r7, r8], Lg))) 7 zh2 e (fun n => Eq.refl _)
    obtain ⟨x2, zh3, h⟩ := bnd h
    have zh3 : f_Board_inWay H BO p1 x1 = some x2 := zh3
    have ze4 := R_f_Board_inWay_1 (d + 0) Y T H2 H RA RB ST NS I0 I1 I2 BO FI RG GU PU MA MN MS OT SC r0 r1 r2 r3 w r6 r7 r8 L Lg p1 x1 zh3
    suffices e : Ev (d + 3, 0, 0, 196, 27, [.val (.ref 960), .val (.int p1)], [.int x2], (126, 120, L, [Y, T, H2, H, RA, RB, ST, NS, I0, I1, I2, BO, FI, RG, GU, PU, MA, MN, MS, OT, SC], [r0, r1, r2, r3, w, 256, r6, r7, r8], Lg)) o from ev_call (fun v μ => (d + 3, 0, 0, 196, 27, [.val (.ref 960), .val (.int p1)], v.toList ++ [], μ)) 1 ze4 e (fun n => Eq.refl _)
    have ze5 := Option.some.inj h
    subst ze5
    exact ev_rete 4 ho (fun n => Eq.refl _)
  · have h := itn h zc1
    suffices e : Ev (d + 3, 0, 0, 196, 11, [.val (.ref 960), .val (.int p1)], [], (126, 120, L, [Y, T, H2, H, RA, RB, ST, NS, I0, I1, I2, BO, FI, RG, GU, PU, MA, MN, MS, OT, SC], [r0, r1, r2, r3, w, 256, r6, r7, r8], Lg)) o from ev_f (c := ((a_shr (GU 0 4) p1) &&& 1) ≠ 0) _ _ 7  zc1 e (fun n => Eq.refl _)
    have ze6 := Option.some.inj h
    subst ze6
    exact ev_rete 2 ho (fun n => Eq.refl _)
set_option maxRecDepth 1000000 in
set_option maxHeartbeats 4000000 in
theorem R_f_Y_waits_2 (d : Nat) (Y T H2 H RU RV ST NS I0 I1 I2 BO FI RG GU PU MA MN MS OT SC : Nat → Nat → Int32) (w r5 : Nat) (L : Nat) (Lg : Int64) (p1 : Int32) {r : Nat × Int32 × (Nat → Nat → Int32) × (Nat → Nat → Int32) × (Nat → Nat → Int32) × Nat} (h : f_Y_waits Y H NS BO GU 256 r5 p1 = some r) : Ev (d + 4, 1, 8, 312, 0, [.val (.ref 64), .val (.int p1)], [], (126, 120, L, [Y, T, H2, H, RU, RV, ST, NS, I0, I1, I2, BO, FI, RG, GU, PU, MA, MN, MS, OT, SC], [256, 192, 320, 384, w, r5, 576, 640, 704], Lg)) ((r.1, a_ov r.1 (.int r.2.1), (126, 120, L, [r.2.2.1, T, H2, H, RU, RV, ST, NS, I0, I1, I2, r.2.2.2.1, FI, RG, r.2.2.2.2.1, PU, MA, MN, MS, OT, SC], [256, 192, 320, 384, w, r.2.2.2.2.2, 576, 640, 704], Lg)) : AOut) := by
  suffices key : ∀ o : AOut, ((r.1, a_ov r.1 (.int r.2.1), (126, 120, L, [r.2.2.1, T, H2, H, RU, RV, ST, NS, I0, I1, I2, r.2.2.2.1, FI, RG, r.2.2.2.2.1, PU, MA, MN, MS, OT, SC], [256, 192, 320, 384, w, r.2.2.2.2.2, 576, 640, 704], Lg)) : AOut) = o → Ev (d + 4, 1, 8, 312, 0, [.val (.ref 64), .val (.int p1)], [], (126, 120, L, [Y, T, H2, H, RU, RV, ST, NS, I0, I1, I2, BO, FI, RG, GU, PU, MA, MN, MS, OT, SC], [256, 192, 320, 384, w, r5, 576, 640, 704], Lg)) o from key _ rfl
  intro o ho
  obtain ⟨⟨q1, Y_2⟩, zh1, h⟩ := bnd h
  have zh1 : f_Y_needMeeting Y H p1 = some (q1, Y_2) := zh1
  have ze2 := R_f_Y_needMeeting_2 (d + 2) Y T H2 H RU RV ST NS I0 I1 I2 BO FI RG GU PU MA MN MS OT SC w r5 L Lg p1 zh1
  cases q1 with
  | zero =>
    have h := itp h rfl
    suffices e : Ev (d + 4, 0, 0, 312, 5, [.val (.ref 64), .val (.int p1)], [], (126, 120, L, [Y_2, T, H2, H, RU, RV, ST, NS, I0, I1, I2, BO, FI, RG, GU, PU, MA, MN, MS, OT, SC], [256, 192, 320, 384, w, r5, 576, 640, 704], Lg)) o from ev_call (fun v μ => (d + 4, 0, 0, 312, 5, [.val (.ref 64), .val (.int p1)], v.toList ++ [], μ)) 3 ze2 e (fun n => Eq.refl _)
    obtain ⟨⟨BO_4, GU_5⟩, zh3, h⟩ := bnd h
    have zh3 : f_Y_lookAhead H NS BO GU = some (BO_4, GU_5) := zh3
    have ze4 := R_f_Y_lookAhead_2 (d + 0) Y_2 T H2 H RU RV ST NS I0 I1 I2 BO FI RG GU PU MA MN MS OT SC w r5 L Lg zh3
    suffices e : Ev (d + 4, 0, 0, 312, 9, [.val (.ref 64), .val (.int p1)], [.ref 960], (126, 120, L, [Y_2, T, H2, H, RU, RV, ST, NS, I0, I1, I2, BO_4, FI, RG, GU_5, PU, MA, MN, MS, OT, SC], [256, 192, 320, 384, w, 256, 576, 640, 704], Lg)) o from ev_call (fun v μ => (d + 4, 0, 0, 312, 9, [.val (.ref 64), .val (.int p1)], v.toList ++ [], μ)) 2 ze4 e (fun n => Eq.refl _)
    obtain ⟨x6, zh5, h⟩ := bnd h
    have zh5 : f_Guide_waitedFor H BO_4 GU_5 p1 = some x6 := zh5
    have ze6 := R_f_Guide_waitedFor_1 (d + 0) Y_2 T H2 H RU RV ST NS I0 I1 I2 BO_4 FI RG GU_5 PU MA MN MS OT SC 256 192 320 384 w 576 640 704 L Lg p1 zh5
    suffices e : Ev (d + 4, 0, 0, 312, 13, [.val (.ref 64), .val (.int p1)], [.int x6], (126, 120, L, [Y_2, T, H2, H, RU, RV, ST, NS, I0, I1, I2, BO_4, FI, RG, GU_5, PU, MA, MN, MS, OT, SC], [256, 192, 320, 384, w, 256, 576, 640, 704], Lg)) o from ev_call (fun v μ => (d + 4, 0, 0, 312, 13, [.val (.ref 64), .val (.int p1)], v.toList ++ [], μ)) 2 ze6 e (fun n => Eq.refl _)
    have ze7 := Option.some.inj h
    subst ze7
    exact ev_rete 1 ho (fun n => Eq.refl _)
  | succ q1 =>
    have h := itn h (Nat.succ_ne_zero q1)
    have ze8 := Option.some.inj h
    subst ze8
    subst ho
    exact ev_thr (fun v μ => (d + 4, 0, 0, 312, 5, [.val (.ref 64), .val (.int p1)], v.toList ++ [], μ)) 3 ze2 (fun n => Eq.refl _) (fun n => rfl)
set_option maxRecDepth 1000000 in
set_option maxHeartbeats 4000000 in
theorem R_f_Y_waits_3 (d : Nat) (Y T H2 H RV RU ST NS I0 I1 I2 BO FI RG GU PU MA MN MS OT SC : Nat → Nat → Int32) (w r5 : Nat) (L : Nat) (Lg : Int64) (p1 : Int32) {r : Nat × Int32 × (Nat → Nat → Int32) × (Nat → Nat → Int32) × (Nat → Nat → Int32) × Nat} (h : f_Y_waits Y H NS BO GU 256 r5 p1 = some r) : Ev (d + 4, 1, 8, 312, 0, [.val (.ref 64), .val (.int p1)], [], (126, 120, L, [Y, T, H2, H, RV, RU, ST, NS, I0, I1, I2, BO, FI, RG, GU, PU, MA, MN, MS, OT, SC], [256, 192, 384, 320, w, r5, 576, 640, 704], Lg)) ((r.1, a_ov r.1 (.int r.2.1), (126, 120, L, [r.2.2.1, T, H2, H, RV, RU, ST, NS, I0, I1, I2, r.2.2.2.1, FI, RG, r.2.2.2.2.1, PU, MA, MN, MS, OT, SC], [256, 192, 384, 320, w, r.2.2.2.2.2, 576, 640, 704], Lg)) : AOut) := by
  suffices key : ∀ o : AOut, ((r.1, a_ov r.1 (.int r.2.1), (126, 120, L, [r.2.2.1, T, H2, H, RV, RU, ST, NS, I0, I1, I2, r.2.2.2.1, FI, RG, r.2.2.2.2.1, PU, MA, MN, MS, OT, SC], [256, 192, 384, 320, w, r.2.2.2.2.2, 576, 640, 704], Lg)) : AOut) = o → Ev (d + 4, 1, 8, 312, 0, [.val (.ref 64), .val (.int p1)], [], (126, 120, L, [Y, T, H2, H, RV, RU, ST, NS, I0, I1, I2, BO, FI, RG, GU, PU, MA, MN, MS, OT, SC], [256, 192, 384, 320, w, r5, 576, 640, 704], Lg)) o from key _ rfl
  intro o ho
  obtain ⟨⟨q1, Y_2⟩, zh1, h⟩ := bnd h
  have zh1 : f_Y_needMeeting Y H p1 = some (q1, Y_2) := zh1
  have ze2 := R_f_Y_needMeeting_3 (d + 2) Y T H2 H RV RU ST NS I0 I1 I2 BO FI RG GU PU MA MN MS OT SC w r5 L Lg p1 zh1
  cases q1 with
  | zero =>
    have h := itp h rfl
    suffices e : Ev (d + 4, 0, 0, 312, 5, [.val (.ref 64), .val (.int p1)], [], (126, 120, L, [Y_2, T, H2, H, RV, RU, ST, NS, I0, I1, I2, BO, FI, RG, GU, PU, MA, MN, MS, OT, SC], [256, 192, 384, 320, w, r5, 576, 640, 704], Lg)) o from ev_call (fun v μ => (d + 4, 0, 0, 312, 5, [.val (.ref 64), .val (.int p1)], v.toList ++ [], μ)) 3 ze2 e (fun n => Eq.refl _)
    obtain ⟨⟨BO_4, GU_5⟩, zh3, h⟩ := bnd h
    have zh3 : f_Y_lookAhead H NS BO GU = some (BO_4, GU_5) := zh3
    have ze4 := R_f_Y_lookAhead_3 (d + 0) Y_2 T H2 H RV RU ST NS I0 I1 I2 BO FI RG GU PU MA MN MS OT SC w r5 L Lg zh3
    suffices e : Ev (d + 4, 0, 0, 312, 9, [.val (.ref 64), .val (.int p1)], [.ref 960], (126, 120, L, [Y_2, T, H2, H, RV, RU, ST, NS, I0, I1, I2, BO_4, FI, RG, GU_5, PU, MA, MN, MS, OT, SC], [256, 192, 384, 320, w, 256, 576, 640, 704], Lg)) o from ev_call (fun v μ => (d + 4, 0, 0, 312, 9, [.val (.ref 64), .val (.int p1)], v.toList ++ [], μ)) 2 ze4 e (fun n => Eq.refl _)
    obtain ⟨x6, zh5, h⟩ := bnd h
    have zh5 : f_Guide_waitedFor H BO_4 GU_5 p1 = some x6 := zh5
    have ze6 := R_f_Guide_waitedFor_1 (d + 0) Y_2 T H2 H RV RU ST NS I0 I1 I2 BO_4 FI RG GU_5 PU MA MN MS OT SC 256 192 384 320 w 576 640 704 L Lg p1 zh5
    suffices e : Ev (d + 4, 0, 0, 312, 13, [.val (.ref 64), .val (.int p1)], [.int x6], (126, 120, L, [Y_2, T, H2, H, RV, RU, ST, NS, I0, I1, I2, BO_4, FI, RG, GU_5, PU, MA, MN, MS, OT, SC], [256, 192, 384, 320, w, 256, 576, 640, 704], Lg)) o from ev_call (fun v μ => (d + 4, 0, 0, 312, 13, [.val (.ref 64), .val (.int p1)], v.toList ++ [], μ)) 2 ze6 e (fun n => Eq.refl _)
    have ze7 := Option.some.inj h
    subst ze7
    exact ev_rete 1 ho (fun n => Eq.refl _)
  | succ q1 =>
    have h := itn h (Nat.succ_ne_zero q1)
    have ze8 := Option.some.inj h
    subst ze8
    subst ho
    exact ev_thr (fun v μ => (d + 4, 0, 0, 312, 5, [.val (.ref 64), .val (.int p1)], v.toList ++ [], μ)) 3 ze2 (fun n => Eq.refl _) (fun n => rfl)
set_option maxRecDepth 1000000 in
set_option maxHeartbeats 4000000 in
theorem R_f_Guide_tangled_0 (d : Nat) (Y T H H2 RA RB ST NS I0 I1 I2 BO FI RG GU PU MA MN MS OT SC : Nat → Nat → Int32) (r0 r1 r2 r3 w r6 r7 r8 : Nat) (L : Nat) (Lg : Int64) {r : Int32 × (Nat → Nat → Int32)} (h : f_Guide_tangled H BO GU = some r) : Ev (d + 5, 0, 0, 197, 0, [.val (.ref 960), .val a_unk, .val a_unk, .val a_unk, .val a_unk, .val a_unk], [], (126, 120, L, [Y, T, H, H2, RA, RB, ST, NS, I0, I1, I2, BO, FI, RG, GU, PU, MA, MN, MS, OT, SC], [r0, r1, r2, r3, w, 192, r6, r7, r8], Lg)) ((0, some (.int r.1), (126, 120, L, [Y, T, H, H2, RA, RB, ST, NS, I0, I1, I2, r.2, FI, RG, GU, PU, MA, MN, MS, OT, SC], [r0, r1, r2, r3, w, 192, r6, r7, r8], Lg)) : AOut) := by
  suffices key : ∀ o : AOut, ((0, some (.int r.1), (126, 120, L, [Y, T, H, H2, RA, RB, ST, NS, I0, I1, I2, r.2, FI, RG, GU, PU, MA, MN, MS, OT, SC], [r0, r1, r2, r3, w, 192, r6, r7, r8], Lg)) : AOut) = o → Ev (d + 5, 0, 0, 197, 0, [.val (.ref 960), .val a_unk, .val a_unk, .val a_unk, .val a_unk, .val a_unk], [], (126, 120, L, [Y, T, H, H2, RA, RB, ST, NS, I0, I1, I2, BO, FI, RG, GU, PU, MA, MN, MS, OT, SC], [r0, r1, r2, r3, w, 192, r6, r7, r8], Lg)) o from key _ rfl
  intro o ho
  obtain ⟨zb1, zh2, h⟩ := bnd h
  suffices e : Ev (d + 5, 0, 0, 197, 6, [.val (.ref 960), .val (.int 0), .val (.int 1), .val (.int 0), .val a_unk, .val a_unk], [], (126, 120, L, [Y, T, H, H2, RA, RB, ST, NS, I0, I1, I2, BO, FI, RG, GU, PU, MA, MN, MS, OT, SC], [r0, r1, r2, r3, w, 192, r6, r7, r8], Lg)) o from ev_b 6 e (fun n => Eq.refl _)
  refine ev_loop (δ := Value × Value) (fun a j => (d + 5, 0, 0, 197, 6, [.val (.ref 960), .val (.int a.1), .val (.int a.2.1), .val (.int a.2.2.1), .val j.1, .val j.2], [], (126, 120, L, [Y, T, H, H2, RA, RB, ST, NS, I0, I1, I2, a.2.2.2, FI, RG, GU, PU, MA, MN, MS, OT, SC], [r0, r1, r2, r3, w, 192, r6, r7, r8], Lg))) (fun b => ∀ s20 : Value, ∀ s21 : Value, ∀ s22 : Value, ∀ s23 : Value, Ev (d + 5, 0, 0, 197, 99, [.val (.ref 960), .val (.int b.1), .val s20, .val s21, .val s22, .val s23], [], (126, 120, L, [Y, T, H, H2, RA, RB, ST, NS, I0, I1, I2, b.2, FI, RG, GU, PU, MA, MN, MS, OT, SC], [r0, r1, r2, r3, w, 192, r6, r7, r8], Lg)) o) ?_ a_F (0, 1, 0, BO) zb1 zh2 ?_ (a_unk, a_unk)
  · rintro ⟨v1, v2, v3, BO_6⟩ zr6 zh5 zi3 zx4 ⟨s4, s5⟩
    have zh5 : f_Guide_tangled_l6 H GU v1 v2 v3 BO_6 = some zr6 := zh5
    by_cases zc7 : 10 < v3
    · have zh5 := itp zh5 zc7
      suffices e : Ev (d + 5, 0, 0, 197, 99, [.val (.ref 960), .val (.int v1), .val (.int v2), .val (.int v3), .val s4, .val s5], [], (126, 120, L, [Y, T, H, H2, RA, RB, ST, NS, I0, I1, I2, BO_6, FI, RG, GU, PU, MA, MN, MS, OT, SC], [r0, r1, r2, r3, w, 192, r6, r7, r8], Lg)) o from ev_t (c := 10 < v3) _ _ 3  zc7 e (fun n => Eq.refl _)
      exact ev_b 0 (zx4 _ (Option.some.inj zh5).symm (.int v2) (.int v3) s4 s5) (fun n => Eq.refl _)
    · have zh5 := itn zh5 zc7
      suffices e : Ev (d + 5, 0, 0, 197, 12, [.val (.ref 960), .val (.int v1), .val (.int v2), .val (.int v3), .val s4, .val s5], [], (126, 120, L, [Y, T, H, H2, RA, RB, ST, NS, I0, I1, I2, BO_6, FI, RG, GU, PU, MA, MN, MS, OT, SC], [r0, r1, r2, r3, w, 192, r6, r7, r8], Lg)) o from ev_f (c := 10 < v3) _ _ 3  zc7 e (fun n => Eq.refl _)
      by_cases zc8 : v2 = 0
      · have zh5 := itp zh5 zc8
        suffices e : Ev (d + 5, 0, 0, 197, 99, [.val (.ref 960), .val (.int v1), .val (.int v2), .val (.int v3), .val s4, .val s5], [], (126, 120, L, [Y, T, H, H2, RA, RB, ST, NS, I0, I1, I2, BO_6, FI, RG, GU, PU, MA, MN, MS, OT, SC], [r0, r1, r2, r3, w, 192, r6, r7, r8], Lg)) o from ev_t (c := v2 = 0) _ _ 2  zc8 e (fun n => Eq.refl _)
        exact ev_b 0 (zx4 _ (Option.some.inj zh5).symm (.int v2) (.int v3) s4 s5) (fun n => Eq.refl _)
      · have zh5 := itn zh5 zc8
        suffices e : Ev (d + 5, 0, 0, 197, 16, [.val (.ref 960), .val (.int v1), .val (.int v2), .val (.int v3), .val s4, .val s5], [], (126, 120, L, [Y, T, H, H2, RA, RB, ST, NS, I0, I1, I2, BO_6, FI, RG, GU, PU, MA, MN, MS, OT, SC], [r0, r1, r2, r3, w, 192, r6, r7, r8], Lg)) o from ev_f (c := v2 = 0) _ _ 2  zc8 e (fun n => Eq.refl _)
        obtain ⟨zb9, zh10, zh5⟩ := bnd zh5
        suffices e : Ev (d + 5, 0, 0, 197, 21, [.val (.ref 960), .val (.int v1), .val (.int 0), .val (.int v3), .val (.int 0), .val s5], [], (126, 120, L, [Y, T, H, H2, RA, RB, ST, NS, I0, I1, I2, BO_6, FI, RG, GU, PU, MA, MN, MS, OT, SC], [r0, r1, r2, r3, w, 192, r6, r7, r8], Lg)) o from ev_b 4 e (fun n => Eq.refl _)
        refine ev_loop (δ := Value) (fun a j => (d + 5, 0, 0, 197, 21, [.val (.ref 960), .val (.int a.1), .val (.int a.2.1), .val (.int v3), .val (.int a.2.2.1), .val j], [], (126, 120, L, [Y, T, H, H2, RA, RB, ST, NS, I0, I1, I2, a.2.2.2, FI, RG, GU, PU, MA, MN, MS, OT, SC], [r0, r1, r2, r3, w, 192, r6, r7, r8], Lg))) (fun b => ∀ s16 : Value, ∀ s17 : Value, Ev (d + 5, 0, 0, 197, 93, [.val (.ref 960), .val (.int b.1), .val (.int b.2.1), .val (.int v3), .val s16, .val s17], [], (126, 120, L, [Y, T, H, H2, RA, RB, ST, NS, I0, I1, I2, b.2.2, FI, RG, GU, PU, MA, MN, MS, OT, SC], [r0, r1, r2, r3, w, 192, r6, r7, r8], Lg)) o) ?_ a_F (v1, 0, 0, BO_6) zb9 zh10 ?_ s5
        · rintro ⟨v7, v8, v9, BO_11⟩ zr14 zh13 zi11 zx12 s10
          have zh13 : f_Guide_tangled_l21 H GU v7 v8 v9 BO_11 = some zr14 := zh13
          suffices e : Ev (d + 5, 0, 0, 197, 30, [.val (.ref 960), .val (.int v7), .val (.int v8), .val (.int v3), .val (.int v9), .val s10], [.ref 192, .int v9], (126, 120, L, [Y, T, H, H2, RA, RB, ST, NS, I0, I1, I2, BO_11, FI, RG, GU, PU, MA, MN, MS, OT, SC], [r0, r1, r2, r3, w, 192, r6, r7, r8], Lg)) o from ev_b 4 e (fun n => Eq.refl _)
          by_cases zc15 : (H 0 3) ≤ v9
          · have zh13 := itp zh13 zc15
            suffices e : Ev (d + 5, 0, 0, 197, 93, [.val (.ref 960), .val (.int v7), .val (.int v8), .val (.int v3), .val (.int v9), .val s10], [], (126, 120, L, [Y, T, H, H2, RA, RB, ST, NS, I0, I1, I2, BO_11, FI, RG, GU, PU, MA, MN, MS, OT, SC], [r0, r1, r2, r3, w, 192, r6, r7, r8], Lg)) o from ev_t (c := (H 0 3) ≤ v9) _ _ 2  zc15 e (fun n => Eq.refl _)
            exact ev_b 0 (zx12 _ (Option.some.inj zh13).symm (.int v9) s10) (fun n => Eq.refl _)
          · have zh13 := itn zh13 zc15
            suffices e : Ev (d + 5, 0, 0, 197, 36, [.val (.ref 960), .val (.int v7), .val (.int v8), .val (.int v3), .val (.int v9), .val s10], [], (126, 120, L, [Y, T, H, H2, RA, RB, ST, NS, I0, I1, I2, BO_11, FI, RG, GU, PU, MA, MN, MS, OT, SC], [r0, r1, r2, r3, w, 192, r6, r7, r8], Lg)) o from ev_f (c := (H 0 3) ≤ v9) _ _ 2  zc15 e (fun n => Eq.refl _)
            suffices e : Ev (d + 5, 0, 0, 197, 57, [.val (.ref 960), .val (.int v7), .val (.int v8), .val (.int v3), .val (.int v9), .val (.int (a_shl 1 v9))], [.ref 192, .int ((GU 0 4) &&& (v7 ^^^ (-1)))], (126, 120, L, [Y, T, H, H2, RA, RB, ST, NS, I0, I1, I2, BO_11, FI, RG, GU, PU, MA, MN, MS, OT, SC], [r0, r1, r2, r3, w, 192, r6, r7, r8], Lg)) o from ev_b 13 e (fun n => Eq.refl _)
            by_cases zc16 : ((((GU 0 4) &&& (v7 ^^^ (-1))) &&& ((H 0 5) ^^^ (-1))) &&& (a_shl 1 v9)) = 0
            · have zh13 := itp zh13 zc16
              suffices e : Ev (d + 5, 0, 0, 197, 87, [.val (.ref 960), .val (.int v7), .val (.int v8), .val (.int v3), .val (.int v9), .val (.int (a_shl 1 v9))], [], (126, 120, L, [Y, T, H, H2, RA, RB, ST, NS, I0, I1, I2, BO_11, FI, RG, GU, PU, MA, MN, MS, OT, SC], [r0, r1, r2, r3, w, 192, r6, r7, r8], Lg)) o from ev_t (c := ((((GU 0 4) &&& (v7 ^^^ (-1))) &&& ((H 0 5) ^^^ (-1))) &&& (a_shl 1 v9)) = 0) _ _ 7  zc16 e (fun n => Eq.refl _)
              exact ev_b 2 (zi11 _ (Option.some.inj zh13).symm (.int (a_shl 1 v9))) (fun n => Eq.refl _)
            · have zh13 := itn zh13 zc16
              suffices e : Ev (d + 5, 0, 0, 197, 69, [.val (.ref 960), .val (.int v7), .val (.int v8), .val (.int v3), .val (.int v9), .val (.int (a_shl 1 v9))], [], (126, 120, L, [Y, T, H, H2, RA, RB, ST, NS, I0, I1, I2, BO_11, FI, RG, GU, PU, MA, MN, MS, OT, SC], [r0, r1, r2, r3, w, 192, r6, r7, r8], Lg)) o from ev_f (c := ((((GU 0 4) &&& (v7 ^^^ (-1))) &&& ((H 0 5) ^^^ (-1))) &&& (a_shl 1 v9)) = 0) _ _ 7  zc16 e (fun n => Eq.refl _)
              obtain ⟨⟨x12, BO_13⟩, zh17, zh13⟩ := bnd zh13
              have zh17 : f_Guide_lawfulAfter H BO_11 GU (v7 ||| (a_shl 1 v9)) = some (x12, BO_13) := zh17
              have ze18 := R_f_Guide_lawfulAfter_0 (d + 0) Y T H H2 RA RB ST NS I0 I1 I2 BO_11 FI RG GU PU MA MN MS OT SC r0 r1 r2 r3 w r6 r7 r8 L Lg (v7 ||| (a_shl 1 v9)) zh17
              suffices e : Ev (d + 5, 0, 0, 197, 77, [.val (.ref 960), .val (.int v7), .val (.int v8), .val (.int v3), .val (.int v9), .val (.int (a_shl 1 v9))], [.int x12], (126, 120, L, [Y, T, H, H2, RA, RB, ST, NS, I0, I1, I2, BO_13, FI, RG, GU, PU, MA, MN, MS, OT, SC], [r0, r1, r2, r3, w, 192, r6, r7, r8], Lg)) o from ev_call (fun v μ => (d + 5, 0, 0, 197, 77, [.val (.ref 960), .val (.int v7), .val (.int v8), .val (.int v3), .val (.int v9), .val (.int (a_shl 1 v9))], v.toList ++ [], μ)) 5 ze18 e (fun n => Eq.refl _)
              by_cases zc19 : x12 = 0
              · have zh13 := itp zh13 zc19
                suffices e : Ev (d + 5, 0, 0, 197, 87, [.val (.ref 960), .val (.int v7), .val (.int v8), .val (.int v3), .val (.int v9), .val (.int (a_shl 1 v9))], [], (126, 120, L, [Y, T, H, H2, RA, RB, ST, NS, I0, I1, I2, BO_13, FI, RG, GU, PU, MA, MN, MS, OT, SC], [r0, r1, r2, r3, w, 192, r6, r7, r8], Lg)) o from ev_t (c := x12 = 0) _ _ 1  zc19 e (fun n => Eq.refl _)
                exact ev_b 2 (zi11 _ (Option.some.inj zh13).symm (.int (a_shl 1 v9))) (fun n => Eq.refl _)
              · have zh13 := itn zh13 zc19
                suffices e : Ev (d + 5, 0, 0, 197, 80, [.val (.ref 960), .val (.int v7), .val (.int v8), .val (.int v3), .val (.int v9), .val (.int (a_shl 1 v9))], [], (126, 120, L, [Y, T, H, H2, RA, RB, ST, NS, I0, I1, I2, BO_13, FI, RG, GU, PU, MA, MN, MS, OT, SC], [r0, r1, r2, r3, w, 192, r6, r7, r8], Lg)) o from ev_f (c := x12 = 0) _ _ 1  zc19 e (fun n => Eq.refl _)
                exact ev_b 8 (zi11 _ (Option.some.inj zh13).symm (.int (a_shl 1 v9))) (fun n => Eq.refl _)
        · obtain ⟨v14, v15, BO_18⟩ := zb9
          intro s16 s17
          exact ev_b 2 (zi3 _ (Option.some.inj zh5).symm (s16, s17)) (fun n => Eq.refl _)
  · obtain ⟨v19, BO_24⟩ := zb1
    intro s20 s21 s22 s23
    have ze20 := Option.some.inj h
    subst ze20
    exact ev_rete 7 ho (fun n => Eq.refl _)
set_option maxRecDepth 1000000 in
set_option maxHeartbeats 4000000 in
theorem R_f_Y_knot_0 (d : Nat) (Y T H H2 RU RV ST NS I0 I1 I2 BO FI RG GU PU MA MN MS OT SC : Nat → Nat → Int32) (w r5 : Nat) (L : Nat) (Lg : Int64) {r : Int32 × (Nat → Nat → Int32) × (Nat → Nat → Int32)} (h : f_Y_knot H NS BO GU = some r) : Ev (d + 6, 0, 0, 313, 0, [.val (.ref 64)], [], (126, 120, L, [Y, T, H, H2, RU, RV, ST, NS, I0, I1, I2, BO, FI, RG, GU, PU, MA, MN, MS, OT, SC], [192, 256, 320, 384, w, r5, 576, 640, 704], Lg)) ((0, some (.int r.1), (126, 120, L, [Y, T, H, H2, RU, RV, ST, NS, I0, I1, I2, r.2.1, FI, RG, r.2.2, PU, MA, MN, MS, OT, SC], [192, 256, 320, 384, w, 192, 576, 640, 704], Lg)) : AOut) := by
  suffices key : ∀ o : AOut, ((0, some (.int r.1), (126, 120, L, [Y, T, H, H2, RU, RV, ST, NS, I0, I1, I2, r.2.1, FI, RG, r.2.2, PU, MA, MN, MS, OT, SC], [192, 256, 320, 384, w, 192, 576, 640, 704], Lg)) : AOut) = o → Ev (d + 6, 0, 0, 313, 0, [.val (.ref 64)], [], (126, 120, L, [Y, T, H, H2, RU, RV, ST, NS, I0, I1, I2, BO, FI, RG, GU, PU, MA, MN, MS, OT, SC], [192, 256, 320, 384, w, r5, 576, 640, 704], Lg)) o from key _ rfl
  intro o ho
  obtain ⟨⟨BO_2, GU_3⟩, zh1, h⟩ := bnd h
  have zh1 : f_Y_lookAhead H NS BO GU = some (BO_2, GU_3) := zh1
  have ze2 := R_f_Y_lookAhead_0 (d + 2) Y T H H2 RU RV ST NS I0 I1 I2 BO FI RG GU PU MA MN MS OT SC w r5 L Lg zh1
  suffices e : Ev (d + 6, 0, 0, 313, 4, [.val (.ref 64)], [.ref 960], (126, 120, L, [Y, T, H, H2, RU, RV, ST, NS, I0, I1, I2, BO_2, FI, RG, GU_3, PU, MA, MN, MS, OT, SC], [192, 256, 320, 384, w, 192, 576, 640, 704], Lg)) o from ev_call (fun v μ => (d + 6, 0, 0, 313, 4, [.val (.ref 64)], v.toList ++ [], μ)) 2 ze2 e (fun n => Eq.refl _)
  obtain ⟨⟨x4, BO_5⟩, zh3, h⟩ := bnd h
  have zh3 : f_Guide_tangled H BO_2 GU_3 = some (x4, BO_5) := zh3
  have ze4 := R_f_Guide_tangled_0 (d + 0) Y T H H2 RU RV ST NS I0 I1 I2 BO_2 FI RG GU_3 PU MA MN MS OT SC 192 256 320 384 w 576 640 704 L Lg zh3
  suffices e : Ev (d + 6, 0, 0, 313, 7, [.val (.ref 64)], [.int x4], (126, 120, L, [Y, T, H, H2, RU, RV, ST, NS, I0, I1, I2, BO_5, FI, RG, GU_3, PU, MA, MN, MS, OT, SC], [192, 256, 320, 384, w, 192, 576, 640, 704], Lg)) o from ev_call (fun v μ => (d + 6, 0, 0, 313, 7, [.val (.ref 64)], v.toList ++ [], μ)) 1 ze4 e (fun n => Eq.refl _)
  have ze5 := Option.some.inj h
  subst ze5
  exact ev_rete 1 ho (fun n => Eq.refl _)
set_option maxRecDepth 1000000 in
set_option maxHeartbeats 4000000 in
theorem R_f_Y_knot_1 (d : Nat) (Y T H H2 RV RU ST NS I0 I1 I2 BO FI RG GU PU MA MN MS OT SC : Nat → Nat → Int32) (w r5 : Nat) (L : Nat) (Lg : Int64) {r : Int32 × (Nat → Nat → Int32) × (Nat → Nat → Int32)} (h : f_Y_knot H NS BO GU = some r) : Ev (d + 6, 0, 0, 313, 0, [.val (.ref 64)], [], (126, 120, L, [Y, T, H, H2, RV, RU, ST, NS, I0, I1, I2, BO, FI, RG, GU, PU, MA, MN, MS, OT, SC], [192, 256, 384, 320, w, r5, 576, 640, 704], Lg)) ((0, some (.int r.1), (126, 120, L, [Y, T, H, H2, RV, RU, ST, NS, I0, I1, I2, r.2.1, FI, RG, r.2.2, PU, MA, MN, MS, OT, SC], [192, 256, 384, 320, w, 192, 576, 640, 704], Lg)) : AOut) := by
  suffices key : ∀ o : AOut, ((0, some (.int r.1), (126, 120, L, [Y, T, H, H2, RV, RU, ST, NS, I0, I1, I2, r.2.1, FI, RG, r.2.2, PU, MA, MN, MS, OT, SC], [192, 256, 384, 320, w, 192, 576, 640, 704], Lg)) : AOut) = o → Ev (d + 6, 0, 0, 313, 0, [.val (.ref 64)], [], (126, 120, L, [Y, T, H, H2, RV, RU, ST, NS, I0, I1, I2, BO, FI, RG, GU, PU, MA, MN, MS, OT, SC], [192, 256, 384, 320, w, r5, 576, 640, 704], Lg)) o from key _ rfl
  intro o ho
  obtain ⟨⟨BO_2, GU_3⟩, zh1, h⟩ := bnd h
  have zh1 : f_Y_lookAhead H NS BO GU = some (BO_2, GU_3) := zh1
  have ze2 := R_f_Y_lookAhead_1 (d + 2) Y T H H2 RV RU ST NS I0 I1 I2 BO FI RG GU PU MA MN MS OT SC w r5 L Lg zh1
  suffices e : Ev (d + 6, 0, 0, 313, 4, [.val (.ref 64)], [.ref 960], (126, 120, L, [Y, T, H, H2, RV, RU, ST, NS, I0, I1, I2, BO_2, FI, RG, GU_3, PU, MA, MN, MS, OT, SC], [192, 256, 384, 320, w, 192, 576, 640, 704], Lg)) o from ev_call (fun v μ => (d + 6, 0, 0, 313, 4, [.val (.ref 64)], v.toList ++ [], μ)) 2 ze2 e (fun n => Eq.refl _)
  obtain ⟨⟨x4, BO_5⟩, zh3, h⟩ := bnd h
  have zh3 : f_Guide_tangled H BO_2 GU_3 = some (x4, BO_5) := zh3
  have ze4 := R_f_Guide_tangled_0 (d + 0) Y T H H2 RV RU ST NS I0 I1 I2 BO_2 FI RG GU_3 PU MA MN MS OT SC 192 256 384 320 w 576 640 704 L Lg zh3
  suffices e : Ev (d + 6, 0, 0, 313, 7, [.val (.ref 64)], [.int x4], (126, 120, L, [Y, T, H, H2, RV, RU, ST, NS, I0, I1, I2, BO_5, FI, RG, GU_3, PU, MA, MN, MS, OT, SC], [192, 256, 384, 320, w, 192, 576, 640, 704], Lg)) o from ev_call (fun v μ => (d + 6, 0, 0, 313, 7, [.val (.ref 64)], v.toList ++ [], μ)) 1 ze4 e (fun n => Eq.refl _)
  have ze5 := Option.some.inj h
  subst ze5
  exact ev_rete 1 ho (fun n => Eq.refl _)
set_option maxRecDepth 1000000 in
set_option maxHeartbeats 4000000 in
theorem R_f_Guide_tangled_1 (d : Nat) (Y T H2 H RA RB ST NS I0 I1 I2 BO FI RG GU PU MA MN MS OT SC : Nat → Nat → Int32) (r0 r1 r2 r3 w r6 r7 r8 : Nat) (L : Nat) (Lg : Int64) {r : Int32 × (Nat → Nat → Int32)} (h : f_Guide_tangled H BO GU = some r) : Ev (d + 5, 0, 0, 197, 0, [.val (.ref 960), .val a_unk, .val a_unk, .val a_unk, .val a_unk, .val a_unk], [], (126, 120, L, [Y, T, H2, H, RA, RB, ST, NS, I0, I1, I2, BO, FI, RG, GU, PU, MA, MN, MS, OT, SC], [r0, r1, r2, r3, w, 256, r6, r7, r8], Lg)) ((0, some (.int r.1), (126, 120, L, [Y, T, H2, H, RA, RB, ST, NS, I0, I1, I2, r.2, FI, RG, GU, PU, MA, MN, MS, OT, SC], [r0, r1, r2, r3, w, 256, r6, r7, r8], Lg)) : AOut) := by
  suffices key : ∀ o : AOut, ((0, some (.int r.1), (126, 120, L, [Y, T, H2, H, RA, RB, ST, NS, I0, I1, I2, r.2, FI, RG, GU, PU, MA, MN, MS, OT, SC], [r0, r1, r2, r3, w, 256, r6, r7, r8], Lg)) : AOut) = o → Ev (d + 5, 0, 0, 197, 0, [.val (.ref 960), .val a_unk, .val a_unk, .val a_unk, .val a_unk, .val a_unk], [], (126, 120, L, [Y, T, H2, H, RA, RB, ST, NS, I0, I1, I2, BO, FI, RG, GU, PU, MA, MN, MS, OT, SC], [r0, r1, r2, r3, w, 256, r6, r7, r8], Lg)) o from key _ rfl
  intro o ho
  obtain ⟨zb1, zh2, h⟩ := bnd h
  suffices e : Ev (d + 5, 0, 0, 197, 6, [.val (.ref 960), .val (.int 0), .val (.int 1), .val (.int 0), .val a_unk, .val a_unk], [], (126, 120, L, [Y, T, H2, H, RA, RB, ST, NS, I0, I1, I2, BO, FI, RG, GU, PU, MA, MN, MS, OT, SC], [r0, r1, r2, r3, w, 256, r6, r7, r8], Lg)) o from ev_b 6 e (fun n => Eq.refl _)
  refine ev_loop (δ := Value × Value) (fun a j => (d + 5, 0, 0, 197, 6, [.val (.ref 960), .val (.int a.1), .val (.int a.2.1), .val (.int a.2.2.1), .val j.1, .val j.2], [], (126, 120, L, [Y, T, H2, H, RA, RB, ST, NS, I0, I1, I2, a.2.2.2, FI, RG, GU, PU, MA, MN, MS, OT, SC], [r0, r1, r2, r3, w, 256, r6, r7, r8], Lg))) (fun b => ∀ s20 : Value, ∀ s21 : Value, ∀ s22 : Value, ∀ s23 : Value, Ev (d + 5, 0, 0, 197, 99, [.val (.ref 960), .val (.int b.1), .val s20, .val s21, .val s22, .val s23], [], (126, 120, L, [Y, T, H2, H, RA, RB, ST, NS, I0, I1, I2, b.2, FI, RG, GU, PU, MA, MN, MS, OT, SC], [r0, r1, r2, r3, w, 256, r6, r7, r8], Lg)) o) ?_ a_F (0, 1, 0, BO) zb1 zh2 ?_ (a_unk, a_unk)
  · rintro ⟨v1, v2, v3, BO_6⟩ zr6 zh5 zi3 zx4 ⟨s4, s5⟩
    have zh5 : f_Guide_tangled_l6 H GU v1 v2 v3 BO_6 = some zr6 := zh5
    by_cases zc7 : 10 < v3
    · have zh5 := itp zh5 zc7
      suffices e : Ev (d + 5, 0, 0, 197, 99, [.val (.ref 960), .val (.int v1), .val (.int v2), .val (.int v3), .val s4, .val s5], [], (126, 120, L, [Y, T, H2, H, RA, RB, ST, NS, I0, I1, I2, BO_6, FI, RG, GU, PU, MA, MN, MS, OT, SC], [r0, r1, r2, r3, w, 256, r6, r7, r8], Lg)) o from ev_t (c := 10 < v3) _ _ 3  zc7 e (fun n => Eq.refl _)
      exact ev_b 0 (zx4 _ (Option.some.inj zh5).symm (.int v2) (.int v3) s4 s5) (fun n => Eq.refl _)
    · have zh5 := itn zh5 zc7
      suffices e : Ev (d + 5, 0, 0, 197, 12, [.val (.ref 960), .val (.int v1), .val (.int v2), .val (.int v3), .val s4, .val s5], [], (126, 120, L, [Y, T, H2, H, RA, RB, ST, NS, I0, I1, I2, BO_6, FI, RG, GU, PU, MA, MN, MS, OT, SC], [r0, r1, r2, r3, w, 256, r6, r7, r8], Lg)) o from ev_f (c := 10 < v3) _ _ 3  zc7 e (fun n => Eq.refl _)
      by_cases zc8 : v2 = 0
      · have zh5 := itp zh5 zc8
        suffices e : Ev (d + 5, 0, 0, 197, 99, [.val (.ref 960), .val (.int v1), .val (.int v2), .val (.int v3), .val s4, .val s5], [], (126, 120, L, [Y, T, H2, H, RA, RB, ST, NS, I0, I1, I2, BO_6, FI, RG, GU, PU, MA, MN, MS, OT, SC], [r0, r1, r2, r3, w, 256, r6, r7, r8], Lg)) o from ev_t (c := v2 = 0) _ _ 2  zc8 e (fun n => Eq.refl _)
        exact ev_b 0 (zx4 _ (Option.some.inj zh5).symm (.int v2) (.int v3) s4 s5) (fun n => Eq.refl _)
      · have zh5 := itn zh5 zc8
        suffices e : Ev (d + 5, 0, 0, 197, 16, [.val (.ref 960), .val (.int v1), .val (.int v2), .val (.int v3), .val s4, .val s5], [], (126, 120, L, [Y, T, H2, H, RA, RB, ST, NS, I0, I1, I2, BO_6, FI, RG, GU, PU, MA, MN, MS, OT, SC], [r0, r1, r2, r3, w, 256, r6, r7, r8], Lg)) o from ev_f (c := v2 = 0) _ _ 2  zc8 e (fun n => Eq.refl _)
        obtain ⟨zb9, zh10, zh5⟩ := bnd zh5
        suffices e : Ev (d + 5, 0, 0, 197, 21, [.val (.ref 960), .val (.int v1), .val (.int 0), .val (.int v3), .val (.int 0), .val s5], [], (126, 120, L, [Y, T, H2, H, RA, RB, ST, NS, I0, I1, I2, BO_6, FI, RG, GU, PU, MA, MN, MS, OT, SC], [r0, r1, r2, r3, w, 256, r6, r7, r8], Lg)) o from ev_b 4 e (fun n => Eq.refl _)
        refine ev_loop (δ := Value) (fun a j => (d + 5, 0, 0, 197, 21, [.val (.ref 960), .val (.int a.1), .val (.int a.2.1), .val (.int v3), .val (.int a.2.2.1), .val j], [], (126, 120, L, [Y, T, H2, H, RA, RB, ST, NS, I0, I1, I2, a.2.2.2, FI, RG, GU, PU, MA, MN, MS, OT, SC], [r0, r1, r2, r3, w, 256, r6, r7, r8], Lg))) (fun b => ∀ s16 : Value, ∀ s17 : Value, Ev (d + 5, 0, 0, 197, 93, [.val (.ref 960), .val (.int b.1), .val (.int b.2.1), .val (.int v3), .val s16, .val s17], [], (126, 120, L, [Y, T, H2, H, RA, RB, ST, NS, I0, I1, I2, b.2.2, FI, RG, GU, PU, MA, MN, MS, OT, SC], [r0, r1, r2, r3, w, 256, r6, r7, r8], Lg)) o) ?_ a_F (v1, 0, 0, BO_6) zb9 zh10 ?_ s5
        · rintro ⟨v7, v8, v9, BO_11⟩ zr14 zh13 zi11 zx12 s10
          have zh13 : f_Guide_tangled_l21 H GU v7 v8 v9 BO_11 = some zr14 := zh13
          suffices e : Ev (d + 5, 0, 0, 197, 30, [.val (.ref 960), .val (.int v7), .val (.int v8), .val (.int v3), .val (.int v9), .val s10], [.ref 256, .int v9], (126, 120, L, [Y, T, H2, H, RA, RB, ST, NS, I0, I1, I2, BO_11, FI, RG, GU, PU, MA, MN, MS, OT, SC], [r0, r1, r2, r3, w, 256, r6, r7, r8], Lg)) o from ev_b 4 e (fun n => Eq.refl _)
          by_cases zc15 : (H 0 3) ≤ v9
          · have zh13 := itp zh13 zc15
            suffices e : Ev (d + 5, 0, 0, 197, 93, [.val (.ref 960), .val (.int v7), .val (.int v8), .val (.int v3), .val (.int v9), .val s10], [], (126, 120, L, [Y, T, H2, H, RA, RB, ST, NS, I0, I1, I2, BO_11, FI, RG, GU, PU, MA, MN, MS, OT, SC], [r0, r1, r2, r3, w, 256, r6, r7, r8], Lg)) o from ev_t (c := (H 0 3) ≤ v9) _ _ 2  zc15 e (fun n => Eq.refl _)
            exact ev_b 0 (zx12 _ (Option.some.inj zh13).symm (.int v9) s10) (fun n => Eq.refl _)
          · have zh13 := itn zh13 zc15
            suffices e : Ev (d + 5, 0, 0, 197, 36, [.val (.ref 960), .val (.int v7), .val (.int v8), .val (.int v3), .val (.int v9), .val s10], [], (126, 120, L, [Y, T, H2, H, RA, RB, ST, NS, I0, I1, I2, BO_11, FI, RG, GU, PU, MA, MN, MS, OT, SC], [r0, r1, r2, r3, w, 256, r6, r7, r8], Lg)) o from ev_f (c := (H 0 3) ≤ v9) _ _ 2  zc15 e (fun n => Eq.refl _)
            suffices e : Ev (d + 5, 0, 0, 197, 57, [.val (.ref 960), .val (.int v7), .val (.int v8), .val (.int v3), .val (.int v9), .val (.int (a_shl 1 v9))], [.ref 256, .int ((GU 0 4) &&& (v7 ^^^ (-1)))], (126, 120, L, [Y, T, H2, H, RA, RB, ST, NS, I0, I1, I2, BO_11, FI, RG, GU, PU, MA, MN, MS, OT, SC], [r0, r1, r2, r3, w, 256, r6, r7, r8], Lg)) o from ev_b 13 e (fun n => Eq.refl _)
            by_cases zc16 : ((((GU 0 4) &&& (v7 ^^^ (-1))) &&& ((H 0 5) ^^^ (-1))) &&& (a_shl 1 v9)) = 0
            · have zh13 := itp zh13 zc16
              suffices e : Ev (d + 5, 0, 0, 197, 87, [.val (.ref 960), .val (.int v7), .val (.int v8), .val (.int v3), .val (.int v9), .val (.int (a_shl 1 v9))], [], (126, 120, L, [Y, T, H2, H, RA, RB, ST, NS, I0, I1, I2, BO_11, FI, RG, GU, PU, MA, MN, MS, OT, SC], [r0, r1, r2, r3, w, 256, r6, r7, r8], Lg)) o from ev_t (c := ((((GU 0 4) &&& (v7 ^^^ (-1))) &&& ((H 0 5) ^^^ (-1))) &&& (a_shl 1 v9)) = 0) _ _ 7  zc16 e (fun n => Eq.refl _)
              exact ev_b 2 (zi11 _ (Option.some.inj zh13).symm (.int (a_shl 1 v9))) (fun n => Eq.refl _)
            · have zh13 := itn zh13 zc16
              suffices e : Ev (d + 5, 0, 0, 197, 69, [.val (.ref 960), .val (.int v7), .val (.int v8), .val (.int v3), .val (.int v9), .val (.int (a_shl 1 v9))], [], (126, 120, L, [Y, T, H2, H, RA, RB, ST, NS, I0, I1, I2, BO_11, FI, RG, GU, PU, MA, MN, MS, OT, SC], [r0, r1, r2, r3, w, 256, r6, r7, r8], Lg)) o from ev_f (c := ((((GU 0 4) &&& (v7 ^^^ (-1))) &&& ((H 0 5) ^^^ (-1))) &&& (a_shl 1 v9)) = 0) _ _ 7  zc16 e (fun n => Eq.refl _)
              obtain ⟨⟨x12, BO_13⟩, zh17, zh13⟩ := bnd zh13
              have zh17 : f_Guide_lawfulAfter H BO_11 GU (v7 ||| (a_shl 1 v9)) = some (x12, BO_13) := zh17
              have ze18 := R_f_Guide_lawfulAfter_1 (d + 0) Y T H2 H RA RB ST NS I0 I1 I2 BO_11 FI RG GU PU MA MN MS OT SC r0 r1 r2 r3 w r6 r7 r8 L Lg (v7 ||| (a_shl 1 v9)) zh17
              suffices e : Ev (d + 5, 0, 0, 197, 77, [.val (.ref 960), .val (.int v7), .val (.int v8), .val (.int v3), .val (.int v9), .val (.int (a_shl 1 v9))], [.int x12], (126, 120, L, [Y, T, H2, H, RA, RB, ST, NS, I0, I1, I2, BO_13, FI, RG, GU, PU, MA, MN, MS, OT, SC], [r0, r1, r2, r3, w, 256, r6, r7, r8], Lg)) o from ev_call (fun v μ => (d + 5, 0, 0, 197, 77, [.val (.ref 960), .val (.int v7), .val (.int v8), .val (.int v3), .val (.int v9), .val (.int (a_shl 1 v9))], v.toList ++ [], μ)) 5 ze18 e (fun n => Eq.refl _)
              by_cases zc19 : x12 = 0
              · have zh13 := itp zh13 zc19
                suffices e : Ev (d + 5, 0, 0, 197, 87, [.val (.ref 960), .val (.int v7), .val (.int v8), .val (.int v3), .val (.int v9), .val (.int (a_shl 1 v9))], [], (126, 120, L, [Y, T, H2, H, RA, RB, ST, NS, I0, I1, I2, BO_13, FI, RG, GU, PU, MA, MN, MS, OT, SC], [r0, r1, r2, r3, w, 256, r6, r7, r8], Lg)) o from ev_t (c := x12 = 0) _ _ 1  zc19 e (fun n => Eq.refl _)
                exact ev_b 2 (zi11 _ (Option.some.inj zh13).symm (.int (a_shl 1 v9))) (fun n => Eq.refl _)
              · have zh13 := itn zh13 zc19
                suffices e : Ev (d + 5, 0, 0, 197, 80, [.val (.ref 960), .val (.int v7), .val (.int v8), .val (.int v3), .val (.int v9), .val (.int (a_shl 1 v9))], [], (126, 120, L, [Y, T, H2, H, RA, RB, ST, NS, I0, I1, I2, BO_13, FI, RG, GU, PU, MA, MN, MS, OT, SC], [r0, r1, r2, r3, w, 256, r6, r7, r8], Lg)) o from ev_f (c := x12 = 0) _ _ 1  zc19 e (fun n => Eq.refl _)
                exact ev_b 8 (zi11 _ (Option.some.inj zh13).symm (.int (a_shl 1 v9))) (fun n => Eq.refl _)
        · obtain ⟨v14, v15, BO_18⟩ := zb9
          intro s16 s17
          exact ev_b 2 (zi3 _ (Option.some.inj zh5).symm (s16, s17)) (fun n => Eq.refl _)
  · obtain ⟨v19, BO_24⟩ := zb1
    intro s20 s21 s22 s23
    have ze20 := Option.some.inj h
    subst ze20
    exact ev_rete 7 ho (fun n => Eq.refl _)
set_option maxRecDepth 1000000 in
set_option maxHeartbeats 4000000 in
theorem R_f_Y_knot_2 (d : Nat) (Y T H2 H RU RV ST NS I0 I1 I2 BO FI RG GU PU MA MN MS OT SC : Nat → Nat → Int32) (w r5 : Nat) (L : Nat) (Lg : Int64) {r : Int32 × (Nat → Nat → Int32) × (Nat → Nat → Int32)} (h : f_Y_knot H NS BO GU = some r) : Ev (d + 6, 0, 0, 313, 0, [.val (.ref 64)], [], (126, 120, L, [Y, T, H2, H, RU, RV, ST, NS, I0, I1, I2, BO, FI, RG, GU, PU, MA, MN, MS, OT, SC], [256, 192, 320, 384, w, r5, 576, 640, 704], Lg)) ((0, some (.int r.1), (126, 120, L, [Y, T, H2, H, RU, RV, ST, NS, I0, I1, I2, r.2.1, FI, RG, r.2.2, PU, MA, MN, MS, OT, SC], [256, 192, 320, 384, w, 256, 576, 640, 704], Lg)) : AOut) := by
  suffices key : ∀ o : AOut, ((0, some (.int r.1), (126, 120, L, [Y, T, H2, H, RU, RV, ST, NS, I0, I1, I2, r.2.1, FI, RG, r.2.2, PU, MA, MN, MS, OT, SC], [256, 192, 320, 384, w, 256, 576, 640, 704], Lg)) : AOut) = o → Ev (d + 6, 0, 0, 313, 0, [.val (.ref 64)], [], (126, 120, L, [Y, T, H2, H, RU, RV, ST, NS, I0, I1, I2, BO, FI, RG, GU, PU, MA, MN, MS, OT, SC], [256, 192, 320, 384, w, r5, 576, 640, 704], Lg)) o from key _ rfl
  intro o ho
  obtain ⟨⟨BO_2, GU_3⟩, zh1, h⟩ := bnd h
  have zh1 : f_Y_lookAhead H NS BO GU = some (BO_2, GU_3) := zh1
  have ze2 := R_f_Y_lookAhead_2 (d + 2) Y T H2 H RU RV ST NS I0 I1 I2 BO FI RG GU PU MA MN MS OT SC w r5 L Lg zh1
  suffices e : Ev (d + 6, 0, 0, 313, 4, [.val (.ref 64)], [.ref 960], (126, 120, L, [Y, T, H2, H, RU, RV, ST, NS, I0, I1, I2, BO_2, FI, RG, GU_3, PU, MA, MN, MS, OT, SC], [256, 192, 320, 384, w, 256, 576, 640, 704], Lg)) o from ev_call (fun v μ => (d + 6, 0, 0, 313, 4, [.val (.ref 64)], v.toList ++ [], μ)) 2 ze2 e (fun n => Eq.refl _)
  obtain ⟨⟨x4, BO_5⟩, zh3, h⟩ := bnd h
  have zh3 : f_Guide_tangled H BO_2 GU_3 = some (x4, BO_5) := zh3
  have ze4 := R_f_Guide_tangled_1 (d + 0) Y T H2 H RU RV ST NS I0 I1 I2 BO_2 FI RG GU_3 PU MA MN MS OT SC 256 192 320 384 w 576 640 704 L Lg zh3
  suffices e : Ev (d + 6, 0, 0, 313, 7, [.val (.ref 64)], [.int x4], (126, 120, L, [Y, T, H2, H, RU, RV, ST, NS, I0, I1, I2, BO_5, FI, RG, GU_3, PU, MA, MN, MS, OT, SC], [256, 192, 320, 384, w, 256, 576, 640, 704], Lg)) o from ev_call (fun v μ => (d + 6, 0, 0, 313, 7, [.val (.ref 64)], v.toList ++ [], μ)) 1 ze4 e (fun n => Eq.refl _)
  have ze5 := Option.some.inj h
  subst ze5
  exact ev_rete 1 ho (fun n => Eq.refl _)
set_option maxRecDepth 1000000 in
set_option maxHeartbeats 4000000 in
theorem R_f_Y_knot_3 (d : Nat) (Y T H2 H RV RU ST NS I0 I1 I2 BO FI RG GU PU MA MN MS OT SC : Nat → Nat → Int32) (w r5 : Nat) (L : Nat) (Lg : Int64) {r : Int32 × (Nat → Nat → Int32) × (Nat → Nat → Int32)} (h : f_Y_knot H NS BO GU = some r) : Ev (d + 6, 0, 0, 313, 0, [.val (.ref 64)], [], (126, 120, L, [Y, T, H2, H, RV, RU, ST, NS, I0, I1, I2, BO, FI, RG, GU, PU, MA, MN, MS, OT, SC], [256, 192, 384, 320, w, r5, 576, 640, 704], Lg)) ((0, some (.int r.1), (126, 120, L, [Y, T, H2, H, RV, RU, ST, NS, I0, I1, I2, r.2.1, FI, RG, r.2.2, PU, MA, MN, MS, OT, SC], [256, 192, 384, 320, w, 256, 576, 640, 704], Lg)) : AOut) := by
  suffices key : ∀ o : AOut, ((0, some (.int r.1), (126, 120, L, [Y, T, H2, H, RV, RU, ST, NS, I0, I1, I2, r.2.1, FI, RG, r.2.2, PU, MA, MN, MS, OT, SC], [256, 192, 384, 320, w, 256, 576, 640, 704], Lg)) : AOut) = o → Ev (d + 6, 0, 0, 313, 0, [.val (.ref 64)], [], (126, 120, L, [Y, T, H2, H, RV, RU, ST, NS, I0, I1, I2, BO, FI, RG, GU, PU, MA, MN, MS, OT, SC], [256, 192, 384, 320, w, r5, 576, 640, 704], Lg)) o from key _ rfl
  intro o ho
  obtain ⟨⟨BO_2, GU_3⟩, zh1, h⟩ := bnd h
  have zh1 : f_Y_lookAhead H NS BO GU = some (BO_2, GU_3) := zh1
  have ze2 := R_f_Y_lookAhead_3 (d + 2) Y T H2 H RV RU ST NS I0 I1 I2 BO FI RG GU PU MA MN MS OT SC w r5 L Lg zh1
  suffices e : Ev (d + 6, 0, 0, 313, 4, [.val (.ref 64)], [.ref 960], (126, 120, L, [Y, T, H2, H, RV, RU, ST, NS, I0, I1, I2, BO_2, FI, RG, GU_3, PU, MA, MN, MS, OT, SC], [256, 192, 384, 320, w, 256, 576, 640, 704], Lg)) o from ev_call (fun v μ => (d + 6, 0, 0, 313, 4, [.val (.ref 64)], v.toList ++ [], μ)) 2 ze2 e (fun n => Eq.refl _)
  obtain ⟨⟨x4, BO_5⟩, zh3, h⟩ := bnd h
  have zh3 : f_Guide_tangled H BO_2 GU_3 = some (x4, BO_5) := zh3
  have ze4 := R_f_Guide_tangled_1 (d + 0) Y T H2 H RV RU ST NS I0 I1 I2 BO_2 FI RG GU_3 PU MA MN MS OT SC 256 192 384 320 w 576 640 704 L Lg zh3
  suffices e : Ev (d + 6, 0, 0, 313, 7, [.val (.ref 64)], [.int x4], (126, 120, L, [Y, T, H2, H, RV, RU, ST, NS, I0, I1, I2, BO_5, FI, RG, GU_3, PU, MA, MN, MS, OT, SC], [256, 192, 384, 320, w, 256, 576, 640, 704], Lg)) o from ev_call (fun v μ => (d + 6, 0, 0, 313, 7, [.val (.ref 64)], v.toList ++ [], μ)) 1 ze4 e (fun n => Eq.refl _)
  have ze5 := Option.some.inj h
  subst ze5
  exact ev_rete 1 ho (fun n => Eq.refl _)
set_option maxRecDepth 1000000 in
set_option maxHeartbeats 4000000 in
theorem R_f_Guide_isLateFor_0 (d : Nat) (Y T H H2 RA RB ST NS I0 I1 I2 BO FI RG GU PU MA MN MS OT SC : Nat → Nat → Int32) (r0 r1 r2 r3 w r6 r7 r8 : Nat) (L : Nat) (Lg : Int64) (p1 : Int32) (p2 : Int32) {r : Int32} (h : f_Guide_isLateFor GU p1 p2 = some r) : Ev (d + 1, 0, 0, 199, 0, [.val (.ref 960), .val (.int p1), .val (.int p2)], [], (126, 120, L, [Y, T, H, H2, RA, RB, ST, NS, I0, I1, I2, BO, FI, RG, GU, PU, MA, MN, MS, OT, SC], [r0, r1, r2, r3, w, 192, r6, r7, r8], Lg)) ((0, some (.int r), (126, 120, L, [Y, T, H, H2, RA, RB, ST, NS, I0, I1, I2, BO, FI, RG, GU, PU, MA, MN, MS, OT, SC], [r0, r1, r2, r3, w, 192, r6, r7, r8], Lg)) : AOut) := by
  suffices key : ∀ o : AOut, ((0, some (.int r), (126, 120, L, [Y, T, H, H2, RA, RB, ST, NS, I0, I1, I2, BO, FI, RG, GU, PU, MA, MN, MS, OT, SC], [r0, r1, r2, r3, w, 192, r6, r7, r8], Lg)) : AOut) = o → Ev (d + 1, 0, 0, 199, 0, [.val (.ref 960), .val (.int p1), .val (.int p2)], [], (126, 120, L, [Y, T, H, H2, RA, RB, ST, NS, I0, I1, I2, BO, FI, RG, GU, PU, MA, MN, MS, OT, SC], [r0, r1, r2, r3, w, 192, r6, r7, r8], Lg)) o from key _ rfl
  intro o ho
  obtain ⟨x1, zh1, h⟩ := bnd h
  have zh1 : rdx (GU 2) 10 p1 = some x1 := zh1
  suffices e : Ev (d + 1, 0, 0, 199, 6, [.val (.ref 960), .val (.int p1), .val (.int p2)], [.int x1], (126, 120, L, [Y, T, H, H2, RA, RB, ST, NS, I0, I1, I2, BO, FI, RG, GU, PU, MA, MN, MS, OT, SC], [r0, r1, r2, r3, w, 192, r6, r7, r8], Lg)) o from ev_opt (fun x1 => (d + 1, 0, 0, 199, 6, [.val (.ref 960), .val (.int p1), .val (.int p2)], [.int x1], (126, 120, L, [Y, T, H, H2, RA, RB, ST, NS, I0, I1, I2, BO, FI, RG, GU, PU, MA, MN, MS, OT, SC], [r0, r1, r2, r3, w, 192, r6, r7, r8], Lg))) 4 zh1 e (fun n => Eq.refl _)
  by_cases zc2 : x1 = (-1)
  · have h := itp h zc2
    suffices e : Ev (d + 1, 0, 0, 199, 23, [.val (.ref 960), .val (.int p1), .val (.int p2)], [], (126, 120, L, [Y, T, H, H2, RA, RB, ST, NS, I0, I1, I2, BO, FI, RG, GU, PU, MA, MN, MS, OT, SC], [r0, r1, r2, r3, w, 192, r6, r7, r8], Lg)) o from ev_t (c := x1 = (-1)) _ _ 2  zc2 e (fun n => Eq.refl _)
    have ze3 := Option.some.inj h
    subst ze3
    exact ev_rete 2 ho (fun n => Eq.refl _)
  · have h := itn h zc2
    suffices e : Ev (d + 1, 0, 0, 199, 10, [.val (.ref 960), .val (.int p1), .val (.int p2)], [], (126, 120, L, [Y, T, H, H2, RA, RB, ST, NS, I0, I1, I2, BO, FI, RG, GU, PU, MA, MN, MS, OT, SC], [r0, r1, r2, r3, w, 192, r6, r7, r8], Lg)) o from ev_f (c := x1 = (-1)) _ _ 2  zc2 e (fun n => Eq.refl _)
    obtain ⟨x2, zh4, h⟩ := bnd h
    have zh4 : rdx (GU 2) 10 p1 = some x2 := zh4
    suffices e : Ev (d + 1, 0, 0, 199, 16, [.val (.ref 960), .val (.int p1), .val (.int p2)], [.int x2], (126, 120, L, [Y, T, H, H2, RA, RB, ST, NS, I0, I1, I2, BO, FI, RG, GU, PU, MA, MN, MS, OT, SC], [r0, r1, r2, r3, w, 192, r6, r7, r8], Lg)) o from ev_opt (fun x2 => (d + 1, 0, 0, 199, 16, [.val (.ref 960), .val (.int p1), .val (.int p2)], [.int x2], (126, 120, L, [Y, T, H, H2, RA, RB, ST, NS, I0, I1, I2, BO, FI, RG, GU, PU, MA, MN, MS, OT, SC], [r0, r1, r2, r3, w, 192, r6, r7, r8], Lg))) 4 zh4 e (fun n => Eq.refl _)
    obtain ⟨x3, zh5, h⟩ := bnd h
    have zh5 : f_Y_hourOf x2 = some x3 := zh5
    have ze6 := R_f_Y_hourOf_0 (d + 0) Y T H H2 RA RB ST NS I0 I1 I2 BO FI RG GU PU MA MN MS OT SC r0 r1 r2 r3 w 192 r6 r7 r8 L Lg x2 zh5
    suffices e : Ev (d + 1, 0, 0, 199, 19, [.val (.ref 960), .val (.int p1), .val (.int p2)], [.int x3], (126, 120, L, [Y, T, H, H2, RA, RB, ST, NS, I0, I1, I2, BO, FI, RG, GU, PU, MA, MN, MS, OT, SC], [r0, r1, r2, r3, w, 192, r6, r7, r8], Lg)) o from ev_call (fun v μ => (d + 1, 0, 0, 199, 19, [.val (.ref 960), .val (.int p1), .val (.int p2)], v.toList ++ [], μ)) 1 ze6 e (fun n => Eq.refl _)
    by_cases zc7 : x3 < p2
    · have h := itp h zc7
      suffices e : Ev (d + 1, 0, 0, 199, 25, [.val (.ref 960), .val (.int p1), .val (.int p2)], [], (126, 120, L, [Y, T, H, H2, RA, RB, ST, NS, I0, I1, I2, BO, FI, RG, GU, PU, MA, MN, MS, OT, SC], [r0, r1, r2, r3, w, 192, r6, r7, r8], Lg)) o from ev_t (c := x3 < p2) _ _ 2  zc7 e (fun n => Eq.refl _)
      obtain ⟨x4, zh8, h⟩ := bnd h
      have zh8 : rdx (GU 1) 10 p1 = some x4 := zh8
      suffices e : Ev (d + 1, 0, 0, 199, 31, [.val (.ref 960), .val (.int p1), .val (.int p2)], [.int x4], (126, 120, L, [Y, T, H, H2, RA, RB, ST, NS, I0, I1, I2, BO, FI, RG, GU, PU, MA, MN, MS, OT, SC], [r0, r1, r2, r3, w, 192, r6, r7, r8], Lg)) o from ev_opt (fun x4 => (d + 1, 0, 0, 199, 31, [.val (.ref 960), .val (.int p1), .val (.int p2)], [.int x4], (126, 120, L, [Y, T, H, H2, RA, RB, ST, NS, I0, I1, I2, BO, FI, RG, GU, PU, MA, MN, MS, OT, SC], [r0, r1, r2, r3, w, 192, r6, r7, r8], Lg))) 4 zh8 e (fun n => Eq.refl _)
      by_cases zc9 : x4 = (-1)
      · have h := itp h zc9
        suffices e : Ev (d + 1, 0, 0, 199, 56, [.val (.ref 960), .val (.int p1), .val (.int p2)], [], (126, 120, L, [Y, T, H, H2, RA, RB, ST, NS, I0, I1, I2, BO, FI, RG, GU, PU, MA, MN, MS, OT, SC], [r0, r1, r2, r3, w, 192, r6, r7, r8], Lg)) o from ev_t (c := x4 = (-1)) _ _ 2  zc9 e (fun n => Eq.refl _)
        have ze10 := Option.some.inj h
        subst ze10
        exact ev_rete 3 ho (fun n => Eq.refl _)
      · have h := itn h zc9
        suffices e : Ev (d + 1, 0, 0, 199, 35, [.val (.ref 960), .val (.int p1), .val (.int p2)], [], (126, 120, L, [Y, T, H, H2, RA, RB, ST, NS, I0, I1, I2, BO, FI, RG, GU, PU, MA, MN, MS, OT, SC], [r0, r1, r2, r3, w, 192, r6, r7, r8], Lg)) o from ev_f (c := x4 = (-1)) _ _ 2  zc9 e (fun n => Eq.refl _)
        obtain ⟨x5, zh11, h⟩ := bnd h
        have zh11 : rdx (GU 1) 10 p1 = some x5 := zh11
        suffices e : Ev (d + 1, 0, 0, 199, 41, [.val (.ref 960), .val (.int p1), .val (.int p2)], [.int x5], (126, 120, L, [Y, T, H, H2, RA, RB, ST, NS, I0, I1, I2, BO, FI, RG, GU, PU, MA, MN, MS, OT, SC], [r0, r1, r2, r3, w, 192, r6, r7, r8], Lg)) o from ev_opt (fun x5 => (d + 1, 0, 0, 199, 41, [.val (.ref 960), .val (.int p1), .val (.int p2)], [.int x5], (126, 120, L, [Y, T, H, H2, RA, RB, ST, NS, I0, I1, I2, BO, FI, RG, GU, PU, MA, MN, MS, OT, SC], [r0, r1, r2, r3, w, 192, r6, r7, r8], Lg))) 4 zh11 e (fun n => Eq.refl _)
        obtain ⟨x6, zh12, h⟩ := bnd h
        have zh12 : f_Y_hourOf x5 = some x6 := zh12
        have ze13 := R_f_Y_hourOf_0 (d + 0) Y T H H2 RA RB ST NS I0 I1 I2 BO FI RG GU PU MA MN MS OT SC r0 r1 r2 r3 w 192 r6 r7 r8 L Lg x5 zh12
        suffices e : Ev (d + 1, 0, 0, 199, 44, [.val (.ref 960), .val (.int p1), .val (.int p2)], [.int x6], (126, 120, L, [Y, T, H, H2, RA, RB, ST, NS, I0, I1, I2, BO, FI, RG, GU, PU, MA, MN, MS, OT, SC], [r0, r1, r2, r3, w, 192, r6, r7, r8], Lg)) o from ev_call (fun v μ => (d + 1, 0, 0, 199, 44, [.val (.ref 960), .val (.int p1), .val (.int p2)], v.toList ++ [], μ)) 1 ze13 e (fun n => Eq.refl _)
        obtain ⟨x7, zh14, h⟩ := bnd h
        have zh14 : rdx (GU 2) 10 p1 = some x7 := zh14
        suffices e : Ev (d + 1, 0, 0, 199, 50, [.val (.ref 960), .val (.int p1), .val (.int p2)], [.int x7, .int x6], (126, 120, L, [Y, T, H, H2, RA, RB, ST, NS, I0, I1, I2, BO, FI, RG, GU, PU, MA, MN, MS, OT, SC], [r0, r1, r2, r3, w, 192, r6, r7, r8], Lg)) o from ev_opt (fun x7 => (d + 1, 0, 0, 199, 50, [.val (.ref 960), .val (.int p1), .val (.int p2)], [.int x7, .int x6], (126, 120, L, [Y, T, H, H2, RA, RB, ST, NS, I0, I1, I2, BO, FI, RG, GU, PU, MA, MN, MS, OT, SC], [r0, r1, r2, r3, w, 192, r6, r7, r8], Lg))) 4 zh14 e (fun n => Eq.refl _)
        obtain ⟨x8, zh15, h⟩ := bnd h
        have zh15 : f_Y_hourOf x7 = some x8 := zh15
        have ze16 := R_f_Y_hourOf_0 (d + 0) Y T H H2 RA RB ST NS I0 I1 I2 BO FI RG GU PU MA MN MS OT SC r0 r1 r2 r3 w 192 r6 r7 r8 L Lg x7 zh15
        suffices e : Ev (d + 1, 0, 0, 199, 53, [.val (.ref 960), .val (.int p1), .val (.int p2)], [.int x8, .int x6], (126, 120, L, [Y, T, H, H2, RA, RB, ST, NS, I0, I1, I2, BO, FI, RG, GU, PU, MA, MN, MS, OT, SC], [r0, r1, r2, r3, w, 192, r6, r7, r8], Lg)) o from ev_call (fun v μ => (d + 1, 0, 0, 199, 53, [.val (.ref 960), .val (.int p1), .val (.int p2)], v.toList ++ [.int x6], μ)) 1 ze16 e (fun n => Eq.refl _)
        by_cases zc17 : x6 = x8
        · have h := itp h zc17
          suffices e : Ev (d + 1, 0, 0, 199, 60, [.val (.ref 960), .val (.int p1), .val (.int p2)], [], (126, 120, L, [Y, T, H, H2, RA, RB, ST, NS, I0, I1, I2, BO, FI, RG, GU, PU, MA, MN, MS, OT, SC], [r0, r1, r2, r3, w, 192, r6, r7, r8], Lg)) o from ev_t (c := x6 = x8) _ _ 1  zc17 e (fun n => Eq.refl _)
          have ze18 := Option.some.inj h
          subst ze18
          exact ev_rete 2 ho (fun n => Eq.refl _)
        · have h := itn h zc17
          suffices e : Ev (d + 1, 0, 0, 199, 56, [.val (.ref 960), .val (.int p1), .val (.int p2)], [], (126, 120, L, [Y, T, H, H2, RA, RB, ST, NS, I0, I1, I2, BO, FI, RG, GU, PU, MA, MN, MS, OT, SC], [r0, r1, r2, r3, w, 192, r6, r7, r8], Lg)) o from ev_f (c := x6 = x8) _ _ 1  zc17 e (fun n => Eq.refl _)
          have ze19 := Option.some.inj h
          subst ze19
          exact ev_rete 3 ho (fun n => Eq.refl _)
    · have h := itn h zc7
      suffices e : Ev (d + 1, 0, 0, 199, 23, [.val (.ref 960), .val (.int p1), .val (.int p2)], [], (126, 120, L, [Y, T, H, H2, RA, RB, ST, NS, I0, I1, I2, BO, FI, RG, GU, PU, MA, MN, MS, OT, SC], [r0, r1, r2, r3, w, 192, r6, r7, r8], Lg)) o from ev_f (c := x3 < p2) _ _ 2  zc7 e (fun n => Eq.refl _)
      have ze20 := Option.some.inj h
      subst ze20
      exact ev_rete 2 ho (fun n => Eq.refl _)
set_option maxRecDepth 1000000 in
set_option maxHeartbeats 4000000 in
theorem R_f_Guide_missers_0 (d : Nat) (Y T H H2 RA RB ST NS I0 I1 I2 BO FI RG GU PU MA MN MS OT SC : Nat → Nat → Int32) (r0 r1 r2 r3 w r6 r7 r8 : Nat) (L : Nat) (Lg : Int64) (p1 : Int32) {r : Int32} (h : f_Guide_missers H GU p1 = some r) : Ev (d + 2, 0, 0, 198, 0, [.val (.ref 960), .val (.int p1), .val a_unk, .val a_unk, .val a_unk, .val a_unk], [], (126, 120, L, [Y, T, H, H2, RA, RB, ST, NS, I0, I1, I2, BO, FI, RG, GU, PU, MA, MN, MS, OT, SC], [r0, r1, r2, r3, w, 192, r6, r7, r8], Lg)) ((0, some (.int r), (126, 120, L, [Y, T, H, H2, RA, RB, ST, NS, I0, I1, I2, BO, FI, RG, GU, PU, MA, MN, MS, OT, SC], [r0, r1, r2, r3, w, 192, r6, r7, r8], Lg)) : AOut) := by
  suffices key : ∀ o : AOut, ((0, some (.int r), (126, 120, L, [Y, T, H, H2, RA, RB, ST, NS, I0, I1, I2, BO, FI, RG, GU, PU, MA, MN, MS, OT, SC], [r0, r1, r2, r3, w, 192, r6, r7, r8], Lg)) : AOut) = o → Ev (d + 2, 0, 0, 198, 0, [.val (.ref 960), .val (.int p1), .val a_unk, .val a_unk, .val a_unk, .val a_unk], [], (126, 120, L, [Y, T, H, H2, RA, RB, ST, NS, I0, I1, I2, BO, FI, RG, GU, PU, MA, MN, MS, OT, SC], [r0, r1, r2, r3, w, 192, r6, r7, r8], Lg)) o from key _ rfl
  intro o ho
  obtain ⟨v12, zh2, h⟩ := bnd h
  suffices e : Ev (d + 2, 0, 0, 198, 4, [.val (.ref 960), .val (.int p1), .val (.int 0), .val (.int 0), .val a_unk, .val a_unk], [], (126, 120, L, [Y, T, H, H2, RA, RB, ST, NS, I0, I1, I2, BO, FI, RG, GU, PU, MA, MN, MS, OT, SC], [r0, r1, r2, r3, w, 192, r6, r7, r8], Lg)) o from ev_b 4 e (fun n => Eq.refl _)
  refine ev_loop (δ := Value × Value) (fun a j => (d + 2, 0, 0, 198, 4, [.val (.ref 960), .val (.int p1), .val (.int a.1), .val (.int a.2), .val j.1, .val j.2], [], (126, 120, L, [Y, T, H, H2, RA, RB, ST, NS, I0, I1, I2, BO, FI, RG, GU, PU, MA, MN, MS, OT, SC], [r0, r1, r2, r3, w, 192, r6, r7, r8], Lg))) (fun b => ∀ s13 : Value, ∀ s14 : Value, ∀ s15 : Value, Ev (d + 2, 0, 0, 198, 97, [.val (.ref 960), .val (.int p1), .val (.int b), .val s13, .val s14, .val s15], [], (126, 120, L, [Y, T, H, H2, RA, RB, ST, NS, I0, I1, I2, BO, FI, RG, GU, PU, MA, MN, MS, OT, SC], [r0, r1, r2, r3, w, 192, r6, r7, r8], Lg)) o) ?_ a_F (0, 0) v12 zh2 ?_ (a_unk, a_unk)
  · rintro ⟨v1, v2⟩ zr6 zh5 zi3 zx4 ⟨s3, s4⟩
    have zh5 : f_Guide_missers_l4 H GU p1 v1 v2 = some zr6 := zh5
    suffices e : Ev (d + 2, 0, 0, 198, 12, [.val (.ref 960), .val (.int p1), .val (.int v1), .val (.int v2), .val s3, .val s4], [.ref 192, .int v2], (126, 120, L, [Y, T, H, H2, RA, RB, ST, NS, I0, I1, I2, BO, FI, RG, GU, PU, MA, MN, MS, OT, SC], [r0, r1, r2, r3, w, 192, r6, r7, r8], Lg)) o from ev_b 4 e (fun n => Eq.refl _)
    by_cases zc7 : (H 0 2) ≤ v2
    · have zh5 := itp zh5 zc7
      suffices e : Ev (d + 2, 0, 0, 198, 97, [.val (.ref 960), .val (.int p1), .val (.int v1), .val (.int v2), .val s3, .val s4], [], (126, 120, L, [Y, T, H, H2, RA, RB, ST, NS, I0, I1, I2, BO, FI, RG, GU, PU, MA, MN, MS, OT, SC], [r0, r1, r2, r3, w, 192, r6, r7, r8], Lg)) o from ev_t (c := (H 0 2) ≤ v2) _ _ 2  zc7 e (fun n => Eq.refl _)
      exact ev_b 0 (zx4 _ (Option.some.inj zh5).symm (.int v2) s3 s4) (fun n => Eq.refl _)
    · have zh5 := itn zh5 zc7
      suffices e : Ev (d + 2, 0, 0, 198, 18, [.val (.ref 960), .val (.int p1), .val (.int v1), .val (.int v2), .val s3, .val s4], [], (126, 120, L, [Y, T, H, H2, RA, RB, ST, NS, I0, I1, I2, BO, FI, RG, GU, PU, MA, MN, MS, OT, SC], [r0, r1, r2, r3, w, 192, r6, r7, r8], Lg)) o from ev_f (c := (H 0 2) ≤ v2) _ _ 2  zc7 e (fun n => Eq.refl _)
      suffices e : Ev (d + 2, 0, 0, 198, 26, [.val (.ref 960), .val (.int p1), .val (.int v1), .val (.int v2), .val s3, .val s4], [.ref 192, .int p1], (126, 120, L, [Y, T, H, H2, RA, RB, ST, NS, I0, I1, I2, BO, FI, RG, GU, PU, MA, MN, MS, OT, SC], [r0, r1, r2, r3, w, 192, r6, r7, r8], Lg)) o from ev_b 4 e (fun n => Eq.refl _)
      obtain ⟨x5, zh8, zh5⟩ := bnd zh5
      have zh8 : rdx (H 3) 8 v2 = some x5 := zh8
      suffices e : Ev (d + 2, 0, 0, 198, 31, [.val (.ref 960), .val (.int p1), .val (.int v1), .val (.int v2), .val s3, .val s4], [.int x5, .int p1], (126, 120, L, [Y, T, H, H2, RA, RB, ST, NS, I0, I1, I2, BO, FI, RG, GU, PU, MA, MN, MS, OT, SC], [r0, r1, r2, r3, w, 192, r6, r7, r8], Lg)) o from ev_opt (fun x5 => (d + 2, 0, 0, 198, 31, [.val (.ref 960), .val (.int p1), .val (.int v1), .val (.int v2), .val s3, .val s4], [.int x5, .int p1], (126, 120, L, [Y, T, H, H2, RA, RB, ST, NS, I0, I1, I2, BO, FI, RG, GU, PU, MA, MN, MS, OT, SC], [r0, r1, r2, r3, w, 192, r6, r7, r8], Lg))) 3 zh8 e (fun n => Eq.refl _)
      obtain ⟨v10, zh10, zh5⟩ := bnd zh5
      suffices e : Ev (d + 2, 0, 0, 198, 37, [.val (.ref 960), .val (.int p1), .val (.int v1), .val (.int v2), .val (.int (p1 + x5)), .val (.int 0)], [], (126, 120, L, [Y, T, H, H2, RA, RB, ST, NS, I0, I1, I2, BO, FI, RG, GU, PU, MA, MN, MS, OT, SC], [r0, r1, r2, r3, w, 192, r6, r7, r8], Lg)) o from ev_b 4 e (fun n => Eq.refl _)
      refine ev_loop (δ := Unit) (fun a j => (d + 2, 0, 0, 198, 37, [.val (.ref 960), .val (.int p1), .val (.int a.1), .val (.int v2), .val (.int (p1 + x5)), .val (.int a.2)], [], (126, 120, L, [Y, T, H, H2, RA, RB, ST, NS, I0, I1, I2, BO, FI, RG, GU, PU, MA, MN, MS, OT, SC], [r0, r1, r2, r3, w, 192, r6, r7, r8], Lg))) (fun b => ∀ s11 : Value, Ev (d + 2, 0, 0, 198, 91, [.val (.ref 960), .val (.int p1), .val (.int b), .val (.int v2), .val (.int (p1 + x5)), .val s11], [], (126, 120, L, [Y, T, H, H2, RA, RB, ST, NS, I0, I1, I2, BO, FI, RG, GU, PU, MA, MN, MS, OT, SC], [r0, r1, r2, r3, w, 192, r6, r7, r8], Lg)) o) ?_ a_F (v1, 0) v10 zh10 ?_ ()
      · rintro ⟨v6, v7⟩ zr14 zh13 zi11 zx12 ⟨⟩
        have zh13 : f_Guide_missers_l37 H GU v2 p1 x5 v6 v7 = some zr14 := zh13
        suffices e : Ev (d + 2, 0, 0, 198, 46, [.val (.ref 960), .val (.int p1), .val (.int v6), .val (.int v2), .val (.int (p1 + x5)), .val (.int v7)], [.ref 192, .int v7], (126, 120, L, [Y, T, H, H2, RA, RB, ST, NS, I0, I1, I2, BO, FI, RG, GU, PU, MA, MN, MS, OT, SC], [r0, r1, r2, r3, w, 192, r6, r7, r8], Lg)) o from ev_b 4 e (fun n => Eq.refl _)
        by_cases zc15 : (H 0 3) ≤ v7
        · have zh13 := itp zh13 zc15
          suffices e : Ev (d + 2, 0, 0, 198, 91, [.val (.ref 960), .val (.int p1), .val (.int v6), .val (.int v2), .val (.int (p1 + x5)), .val (.int v7)], [], (126, 120, L, [Y, T, H, H2, RA, RB, ST, NS, I0, I1, I2, BO, FI, RG, GU, PU, MA, MN, MS, OT, SC], [r0, r1, r2, r3, w, 192, r6, r7, r8], Lg)) o from ev_t (c := (H 0 3) ≤ v7) _ _ 2  zc15 e (fun n => Eq.refl _)
          exact ev_b 0 (zx12 _ (Option.some.inj zh13).symm (.int v7)) (fun n => Eq.refl _)
        · have zh13 := itn zh13 zc15
          suffices e : Ev (d + 2, 0, 0, 198, 52, [.val (.ref 960), .val (.int p1), .val (.int v6), .val (.int v2), .val (.int (p1 + x5)), .val (.int v7)], [], (126, 120, L, [Y, T, H, H2, RA, RB, ST, NS, I0, I1, I2, BO, FI, RG, GU, PU, MA, MN, MS, OT, SC], [r0, r1, r2, r3, w, 192, r6, r7, r8], Lg)) o from ev_f (c := (H 0 3) ≤ v7) _ _ 2  zc15 e (fun n => Eq.refl _)
          suffices e : Ev (d + 2, 0, 0, 198, 59, [.val (.ref 960), .val (.int p1), .val (.int v6), .val (.int v2), .val (.int (p1 + x5)), .val (.int v7)], [.ref 192], (126, 120, L, [Y, T, H, H2, RA, RB, ST, NS, I0, I1, I2, BO, FI, RG, GU, PU, MA, MN, MS, OT, SC], [r0, r1, r2, r3, w, 192, r6, r7, r8], Lg)) o from ev_b 3 e (fun n => Eq.refl _)
          obtain ⟨x8, zh16, zh13⟩ := bnd zh13
          have zh16 : f_House_isMember H v7 v2 = some x8 := zh16
          have ze17 := R_f_House_isMember_0 (d + 1) Y T H H2 RA RB ST NS I0 I1 I2 BO FI RG GU PU MA MN MS OT SC r0 r1 r2 r3 w 192 r6 r7 r8 L Lg v7 v2 zh16
          suffices e : Ev (d + 2, 0, 0, 198, 65, [.val (.ref 960), .val (.int p1), .val (.int v6), .val (.int v2), .val (.int (p1 + x5)), .val (.int v7)], [.int x8], (126, 120, L, [Y, T, H, H2, RA, RB, ST, NS, I0, I1, I2, BO, FI, RG, GU, PU, MA, MN, MS, OT, SC], [r0, r1, r2, r3, w, 192, r6, r7, r8], Lg)) o from ev_call (fun v μ => (d + 2, 0, 0, 198, 65, [.val (.ref 960), .val (.int p1), .val (.int v6), .val (.int v2), .val (.int (p1 + x5)), .val (.int v7)], v.toList ++ [], μ)) 3 ze17 e (fun n => Eq.refl _)
          by_cases zc18 : x8 = 0
          · have zh13 := itp zh13 zc18
            suffices e : Ev (d + 2, 0, 0, 198, 85, [.val (.ref 960), .val (.int p1), .val (.int v6), .val (.int v2), .val (.int (p1 + x5)), .val (.int v7)], [], (126, 120, L, [Y, T, H, H2, RA, RB, ST, NS, I0, I1, I2, BO, FI, RG, GU, PU, MA, MN, MS, OT, SC], [r0, r1, r2, r3, w, 192, r6, r7, r8], Lg)) o from ev_t (c := x8 = 0) _ _ 1  zc18 e (fun n => Eq.refl _)
            exact ev_b 2 (zi11 _ (Option.some.inj zh13).symm ()) (fun n => Eq.refl _)
          · have zh13 := itn zh13 zc18
            suffices e : Ev (d + 2, 0, 0, 198, 68, [.val (.ref 960), .val (.int p1), .val (.int v6), .val (.int v2), .val (.int (p1 + x5)), .val (.int v7)], [], (126, 120, L, [Y, T, H, H2, RA, RB, ST, NS, I0, I1, I2, BO, FI, RG, GU, PU, MA, MN, MS, OT, SC], [r0, r1, r2, r3, w, 192, r6, r7, r8], Lg)) o from ev_f (c := x8 = 0) _ _ 1  zc18 e (fun n => Eq.refl _)
            obtain ⟨x9, zh19, zh13⟩ := bnd zh13
            have zh19 : f_Guide_isLateFor GU v7 (p1 + x5) = some x9 := zh19
            have ze20 := R_f_Guide_isLateFor_0 (d + 0) Y T H H2 RA RB ST NS I0 I1 I2 BO FI RG GU PU MA MN MS OT SC r0 r1 r2 r3 w r6 r7 r8 L Lg v7 (p1 + x5) zh19
            suffices e : Ev (d + 2, 0, 0, 198, 76, [.val (.ref 960), .val (.int p1), .val (.int v6), .val (.int v2), .val (.int (p1 + x5)), .val (.int v7)], [.int x9], (126, 120, L, [Y, T, H, H2, RA, RB, ST, NS, I0, I1, I2, BO, FI, RG, GU, PU, MA, MN, MS, OT, SC], [r0, r1, r2, r3, w, 192, r6, r7, r8], Lg)) o from ev_call (fun v μ => (d + 2, 0, 0, 198, 76, [.val (.ref 960), .val (.int p1), .val (.int v6), .val (.int v2), .val (.int (p1 + x5)), .val (.int v7)], v.toList ++ [], μ)) 4 ze20 e (fun n => Eq.refl _)
            by_cases zc21 : x9 = 0
            · have zh13 := itp zh13 zc21
              suffices e : Ev (d + 2, 0, 0, 198, 85, [.val (.ref 960), .val (.int p1), .val (.int v6), .val (.int v2), .val (.int (p1 + x5)), .val (.int v7)], [], (126, 120, L, [Y, T, H, H2, RA, RB, ST, NS, I0, I1, I2, BO, FI, RG, GU, PU, MA, MN, MS, OT, SC], [r0, r1, r2, r3, w, 192, r6, r7, r8], Lg)) o from ev_t (c := x9 = 0) _ _ 1  zc21 e (fun n => Eq.refl _)
              exact ev_b 2 (zi11 _ (Option.some.inj zh13).symm ()) (fun n => Eq.refl _)
            · have zh13 := itn zh13 zc21
              suffices e : Ev (d + 2, 0, 0, 198, 79, [.val (.ref 960), .val (.int p1), .val (.int v6), .val (.int v2), .val (.int (p1 + x5)), .val (.int v7)], [], (126, 120, L, [Y, T, H, H2, RA, RB, ST, NS, I0, I1, I2, BO, FI, RG, GU, PU, MA, MN, MS, OT, SC], [r0, r1, r2, r3, w, 192, r6, r7, r8], Lg)) o from ev_f (c := x9 = 0) _ _ 1  zc21 e (fun n => Eq.refl _)
              exact ev_b 8 (zi11 _ (Option.some.inj zh13).symm ()) (fun n => Eq.refl _)
      · skip
        intro s11
        exact ev_b 2 (zi3 _ (Option.some.inj zh5).symm ((.int (p1 + x5)), s11)) (fun n => Eq.refl _)
  · skip
    intro s13 s14 s15
    have ze22 := Option.some.inj h
    subst ze22
    exact ev_rete 2 ho (fun n => Eq.refl _)
set_option maxRecDepth 1000000 in
set_option maxHeartbeats 4000000 in
theorem R_f_Y_news_0 (d : Nat) (Y T H H2 RU RV ST NS I0 I1 I2 BO FI RG GU PU MA MN MS OT SC : Nat → Nat → Int32) (w r5 : Nat) (L : Nat) (Lg : Int64) (p1 : Int32) (p2 : Int32) {r : Nat × Int32 × (Nat → Nat → Int32) × (Nat → Nat → Int32) × (Nat → Nat → Int32) × Nat} (h : f_Y_news Y H NS BO GU 192 r5 p1 p2 = some r) : Ev (d + 4, 2, 16, 314, 0, [.val (.ref 64), .val (.int p1), .val (.int p2), .val a_unk], [], (126, 120, L, [Y, T, H, H2, RU, RV, ST, NS, I0, I1, I2, BO, FI, RG, GU, PU, MA, MN, MS, OT, SC], [192, 256, 320, 384, w, r5, 576, 640, 704], Lg)) ((r.1, a_ov r.1 (.int r.2.1), (126, 120, L, [r.2.2.1, T, H, H2, RU, RV, ST, NS, I0, I1, I2, r.2.2.2.1, FI, RG, r.2.2.2.2.1, PU, MA, MN, MS, OT, SC], [192, 256, 320, 384, w, r.2.2.2.2.2, 576, 640, 704], Lg)) : AOut) := by
  suffices key : ∀ o : AOut, ((r.1, a_ov r.1 (.int r.2.1), (126, 120, L, [r.2.2.1, T, H, H2, RU, RV, ST, NS, I0, I1, I2, r.2.2.2.1, FI, RG, r.2.2.2.2.1, PU, MA, MN, MS, OT, SC], [192, 256, 320, 384, w, r.2.2.2.2.2, 576, 640, 704], Lg)) : AOut) = o → Ev (d + 4, 2, 16, 314, 0, [.val (.ref 64), .val (.int p1), .val (.int p2), .val a_unk], [], (126, 120, L, [Y, T, H, H2, RU, RV, ST, NS, I0, I1, I2, BO, FI, RG, GU, PU, MA, MN, MS, OT, SC], [192, 256, 320, 384, w, r5, 576, 640, 704], Lg)) o from key _ rfl
  intro o ho
  obtain ⟨⟨q1, Y_2⟩, zh1, h⟩ := bnd h
  have zh1 : f_Y_needHour Y H p1 = some (q1, Y_2) := zh1
  have ze2 := R_f_Y_needHour_0 (d + 2) Y T H H2 RU RV ST NS I0 I1 I2 BO FI RG GU PU MA MN MS OT SC w r5 L Lg p1 zh1
  cases q1 with
  | zero =>
    have h := itp h rfl
    suffices e : Ev (d + 4, 1, 8, 314, 5, [.val (.ref 64), .val (.int p1), .val (.int p2), .val a_unk], [], (126, 120, L, [Y_2, T, H, H2, RU, RV, ST, NS, I0, I1, I2, BO, FI, RG, GU, PU, MA, MN, MS, OT, SC], [192, 256, 320, 384, w, r5, 576, 640, 704], Lg)) o from ev_call (fun v μ => (d + 4, 1, 8, 314, 5, [.val (.ref 64), .val (.int p1), .val (.int p2), .val a_unk], v.toList ++ [], μ)) 3 ze2 e (fun n => Eq.refl _)
    obtain ⟨zt3, zh4, h⟩ := bnd h
    have zj5 : ∀ (v3 : Int32), v3 = zt3 → Ev (d + 4, 1, 8, 314, 20, [.val (.ref 64), .val (.int p1), .val (.int p2), .val a_unk], [.int v3, .ref 64], (126, 120, L, [Y_2, T, H, H2, RU, RV, ST, NS, I0, I1, I2, BO, FI, RG, GU, PU, MA, MN, MS, OT, SC], [192, 256, 320, 384, w, r5, 576, 640, 704], Lg)) o := by
      intro v3 ze6
      subst ze6
      obtain ⟨⟨q4, Y_5⟩, zh7, h⟩ := bnd h
      have zh7 : f_Y_refuseUnless Y_2 v3 = some (q4, Y_5) := zh7
      have ze8 := R_f_Y_refuseUnless_0 (d + 3) Y_2 T H H2 RU RV ST NS I0 I1 I2 BO FI RG GU PU MA MN MS OT SC w r5 L Lg v3 zh7
      cases q4 with
      | zero =>
        have h := itp h rfl
        suffices e : Ev (d + 4, 0, 0, 314, 23, [.val (.ref 64), .val (.int p1), .val (.int p2), .val a_unk], [], (126, 120, L, [Y_5, T, H, H2, RU, RV, ST, NS, I0, I1, I2, BO, FI, RG, GU, PU, MA, MN, MS, OT, SC], [192, 256, 320, 384, w, r5, 576, 640, 704], Lg)) o from ev_call (fun v μ => (d + 4, 0, 0, 314, 23, [.val (.ref 64), .val (.int p1), .val (.int p2), .val a_unk], v.toList ++ [], μ)) 1 ze8 e (fun n => Eq.refl _)
        obtain ⟨⟨BO_7, GU_8⟩, zh9, h⟩ := bnd h
        have zh9 : f_Y_lookAhead H NS BO GU = some (BO_7, GU_8) := zh9
        have ze10 := R_f_Y_lookAhead_0 (d + 0) Y_5 T H H2 RU RV ST NS I0 I1 I2 BO FI RG GU PU MA MN MS OT SC w r5 L Lg zh9
        suffices e : Ev (d + 4, 0, 0, 314, 27, [.val (.ref 64), .val (.int p1), .val (.int p2), .val a_unk], [.ref 960], (126, 120, L, [Y_5, T, H, H2, RU, RV, ST, NS, I0, I1, I2, BO_7, FI, RG, GU_8, PU, MA, MN, MS, OT, SC], [192, 256, 320, 384, w, 192, 576, 640, 704], Lg)) o from ev_call (fun v μ => (d + 4, 0, 0, 314, 27, [.val (.ref 64), .val (.int p1), .val (.int p2), .val a_unk], v.toList ++ [], μ)) 2 ze10 e (fun n => Eq.refl _)
        obtain ⟨x9, zh11, h⟩ := bnd h
        have zh11 : f_Guide_missers H GU_8 p1 = some x9 := zh11
        have ze12 := R_f_Guide_missers_0 (d + 1) Y_5 T H H2 RU RV ST NS I0 I1 I2 BO_7 FI RG GU_8 PU MA MN MS OT SC 192 256 320 384 w 576 640 704 L Lg p1 zh11
        suffices e : Ev (d + 4, 0, 0, 314, 31, [.val (.ref 64), .val (.int p1), .val (.int p2), .val a_unk], [.int x9], (126, 120, L, [Y_5, T, H, H2, RU, RV, ST, NS, I0, I1, I2, BO_7, FI, RG, GU_8, PU, MA, MN, MS, OT, SC], [192, 256, 320, 384, w, 192, 576, 640, 704], Lg)) o from ev_call (fun v μ => (d + 4, 0, 0, 314, 31, [.val (.ref 64), .val (.int p1), .val (.int p2), .val a_unk], v.toList ++ [], μ)) 2 ze12 e (fun n => Eq.refl _)
        by_cases zc13 : p2 ≠ 0
        · have h := itp h zc13
          suffices e : Ev (d + 4, 0, 0, 314, 43, [.val (.ref 64), .val (.int p1), .val (.int p2), .val (.int x9)], [], (126, 120, L, [Y_5, T, H, H2, RU, RV, ST, NS, I0, I1, I2, BO_7, FI, RG, GU_8, PU, MA, MN, MS, OT, SC], [192, 256, 320, 384, w, 192, 576, 640, 704], Lg)) o from ev_t (c := p2 ≠ 0) _ _ 3  zc13 e (fun n => Eq.refl _)
          have ze14 := Option.some.inj h
          subst ze14
          exact ev_rete 2 ho (fun n => Eq.refl _)
        · have h := itn h zc13
          suffices e : Ev (d + 4, 0, 0, 314, 36, [.val (.ref 64), .val (.int p1), .val (.int p2), .val (.int x9)], [], (126, 120, L, [Y_5, T, H, H2, RU, RV, ST, NS, I0, I1, I2, BO_7, FI, RG, GU_8, PU, MA, MN, MS, OT, SC], [192, 256, 320, 384, w, 192, 576, 640, 704], Lg)) o from ev_f (c := p2 ≠ 0) _ _ 3  zc13 e (fun n => Eq.refl _)
          obtain ⟨x10, zh15, h⟩ := bnd h
          have zh15 : f_Integer_bitCount x9 = some x10 := zh15
          have ze16 := R_f_Integer_bitCount_0 (d + 3) Y_5 T H H2 RU RV ST NS I0 I1 I2 BO_7 FI RG GU_8 PU MA MN MS OT SC 192 256 320 384 w 192 576 640 704 L Lg x9 zh15
          suffices e : Ev (d + 4, 0, 0, 314, 40, [.val (.ref 64), .val (.int p1), .val (.int p2), .val (.int x9)], [.int x10], (126, 120, L, [Y_5, T, H, H2, RU, RV, ST, NS, I0, I1, I2, BO_7, FI, RG, GU_8, PU, MA, MN, MS, OT, SC], [192, 256, 320, 384, w, 192, 576, 640, 704], Lg)) o from ev_call (fun v μ => (d + 4, 0, 0, 314, 40, [.val (.ref 64), .val (.int p1), .val (.int p2), .val (.int x9)], v.toList ++ [], μ)) 2 ze16 e (fun n => Eq.refl _)
          have ze17 := Option.some.inj h
          subst ze17
          exact ev_rete 2 ho (fun n => Eq.refl _)
      | succ q4 =>
        have h := itn h (Nat.succ_ne_zero q4)
        have ze18 := Option.some.inj h
        subst ze18
        subst ho
        exact ev_thr (fun v μ => (d + 4, 0, 0, 314, 23, [.val (.ref 64), .val (.int p1), .val (.int p2), .val a_unk], v.toList ++ [], μ)) 1 ze8 (fun n => Eq.refl _) (fun n => rfl)
    obtain ⟨zt19, zh20, zh4⟩ := bnd zh4
    have zj21 : zt19 = .inl () → Ev (d + 4, 1, 8, 314, 19, [.val (.ref 64), .val (.int p1), .val (.int p2), .val a_unk], [.ref 64], (126, 120, L, [Y_2, T, H, H2, RU, RV, ST, NS, I0, I1, I2, BO, FI, RG, GU, PU, MA, MN, MS, OT, SC], [192, 256, 320, 384, w, r5, 576, 640, 704], Lg)) o := by
      intro ze22
      have zh4 := sum_l zh4 ze22
      exact ev_b 1 (zj5 0 (Option.some.inj zh4) ) (fun n => Eq.refl _)
    by_cases zc23 : p2 < 0
    · have zh20 := itp zh20 zc23
      suffices e : Ev (d + 4, 1, 8, 314, 19, [.val (.ref 64), .val (.int p1), .val (.int p2), .val a_unk], [.ref 64], (126, 120, L, [Y_2, T, H, H2, RU, RV, ST, NS, I0, I1, I2, BO, FI, RG, GU, PU, MA, MN, MS, OT, SC], [192, 256, 320, 384, w, r5, 576, 640, 704], Lg)) o from ev_t (c := p2 < 0) _ _ 3  zc23 e (fun n => Eq.refl _)
      exact ev_b 0 (zj21  (Option.some.inj zh20).symm ) (fun n => Eq.refl _)
    · have zh20 := itn zh20 zc23
      suffices e : Ev (d + 4, 1, 8, 314, 10, [.val (.ref 64), .val (.int p1), .val (.int p2), .val a_unk], [.ref 64], (126, 120, L, [Y_2, T, H, H2, RU, RV, ST, NS, I0, I1, I2, BO, FI, RG, GU, PU, MA, MN, MS, OT, SC], [192, 256, 320, 384, w, r5, 576, 640, 704], Lg)) o from ev_f (c := p2 < 0) _ _ 3  zc23 e (fun n => Eq.refl _)
      by_cases zc24 : 1 < p2
      · have zh20 := itp zh20 zc24
        suffices e : Ev (d + 4, 1, 8, 314, 19, [.val (.ref 64), .val (.int p1), .val (.int p2), .val a_unk], [.ref 64], (126, 120, L, [Y_2, T, H, H2, RU, RV, ST, NS, I0, I1, I2, BO, FI, RG, GU, PU, MA, MN, MS, OT, SC], [192, 256, 320, 384, w, r5, 576, 640, 704], Lg)) o from ev_t (c := 1 < p2) _ _ 3  zc24 e (fun n => Eq.refl _)
        exact ev_b 0 (zj21  (Option.some.inj zh20).symm ) (fun n => Eq.refl _)
      · have zh20 := itn zh20 zc24
        suffices e : Ev (d + 4, 1, 8, 314, 15, [.val (.ref 64), .val (.int p1), .val (.int p2), .val a_unk], [.ref 64], (126, 120, L, [Y_2, T, H, H2, RU, RV, ST, NS, I0, I1, I2, BO, FI, RG, GU, PU, MA, MN, MS, OT, SC], [192, 256, 320, 384, w, r5, 576, 640, 704], Lg)) o from ev_f (c := 1 < p2) _ _ 3  zc24 e (fun n => Eq.refl _)
        have zh25 := sum_r zh4 (Option.some.inj zh20).symm
        exact ev_b 2 (zj5 1 (Option.some.inj zh25) ) (fun n => Eq.refl _)
  | succ q1 =>
    have h := itn h (Nat.succ_ne_zero q1)
    have ze26 := Option.some.inj h
    subst ze26
    subst ho
    exact ev_thr (fun v μ => (d + 4, 1, 8, 314, 5, [.val (.ref 64), .val (.int p1), .val (.int p2), .val a_unk], v.toList ++ [], μ)) 3 ze2 (fun n => Eq.refl _) (fun n => rfl)
set_option maxRecDepth 1000000 in
set_option maxHeartbeats 4000000 in
theorem R_f_Y_news_1 (d : Nat) (Y T H H2 RV RU ST NS I0 I1 I2 BO FI RG GU PU MA MN MS OT SC : Nat → Nat → Int32) (w r5 : Nat) (L : Nat) (Lg : Int64) (p1 : Int32) (p2 : Int32) {r : Nat × Int32 × (Nat → Nat → Int32) × (Nat → Nat → Int32) × (Nat → Nat → Int32) × Nat} (h : f_Y_news Y H NS BO GU 192 r5 p1 p2 = some r) : Ev (d + 4, 2, 16, 314, 0, [.val (.ref 64), .val (.int p1), .val (.int p2), .val a_unk], [], (126, 120, L, [Y, T, H, H2, RV, RU, ST, NS, I0, I1, I2, BO, FI, RG, GU, PU, MA, MN, MS, OT, SC], [192, 256, 384, 320, w, r5, 576, 640, 704], Lg)) ((r.1, a_ov r.1 (.int r.2.1), (126, 120, L, [r.2.2.1, T, H, H2, RV, RU, ST, NS, I0, I1, I2, r.2.2.2.1, FI, RG, r.2.2.2.2.1, PU, MA, MN, MS, OT, SC], [192, 256, 384, 320, w, r.2.2.2.2.2, 576, 640, 704], Lg)) : AOut) := by
  suffices key : ∀ o : AOut, ((r.1, a_ov r.1 (.int r.2.1), (126, 120, L, [r.2.2.1, T, H, H2, RV, RU, ST, NS, I0, I1, I2, r.2.2.2.1, FI, RG, r.2.2.2.2.1, PU, MA, MN, MS, OT, SC], [192, 256, 384, 320, w, r.2.2.2.2.2, 576, 640, 704], Lg)) : AOut) = o → Ev (d + 4, 2, 16, 314, 0, [.val (.ref 64), .val (.int p1), .val (.int p2), .val a_unk], [], (126, 120, L, [Y, T, H, H2, RV, RU, ST, NS, I0, I1, I2, BO, FI, RG, GU, PU, MA, MN, MS, OT, SC], [192, 256, 384, 320, w, r5, 576, 640, 704], Lg)) o from key _ rfl
  intro o ho
  obtain ⟨⟨q1, Y_2⟩, zh1, h⟩ := bnd h
  have zh1 : f_Y_needHour Y H p1 = some (q1, Y_2) := zh1
  have ze2 := R_f_Y_needHour_1 (d + 2) Y T H H2 RV RU ST NS I0 I1 I2 BO FI RG GU PU MA MN MS OT SC w r5 L Lg p1 zh1
  cases q1 with
  | zero =>
    have h := itp h rfl
    suffices e : Ev (d + 4, 1, 8, 314, 5, [.val (.ref 64), .val (.int p1), .val (.int p2), .val a_unk], [], (126, 120, L, [Y_2, T, H, H2, RV, RU, ST, NS, I0, I1, I2, BO, FI, RG, GU, PU, MA, MN, MS, OT, SC], [192, 256, 384, 320, w, r5, 576, 640, 704], Lg)) o from ev_call (fun v μ => (d + 4, 1, 8, 314, 5, [.val (.ref 64), .val (.int p1), .val (.int p2), .val a_unk], v.toList ++ [], μ)) 3 ze2 e (fun n => Eq.refl _)
    obtain ⟨zt3, zh4, h⟩ := bnd h
    have zj5 : ∀ (v3 : Int32), v3 = zt3 → Ev (d + 4, 1, 8, 314, 20, [.val (.ref 64), .val (.int p1), .val (.int p2), .val a_unk], [.int v3, .ref 64], (126, 120, L, [Y_2, T, H, H2, RV, RU, ST, NS, I0, I1, I2, BO, FI, RG, GU, PU, MA, MN, MS, OT, SC], [192, 256, 384, 320, w, r5, 576, 640, 704], Lg)) o := by
      intro v3 ze6
      subst ze6
      obtain ⟨⟨q4, Y_5⟩, zh7, h⟩ := bnd h
      have zh7 : f_Y_refuseUnless Y_2 v3 = some (q4, Y_5) := zh7
      have ze8 := R_f_Y_refuseUnless_1 (d + 3) Y_2 T H H2 RV RU ST NS I0 I1 I2 BO FI RG GU PU MA MN MS OT SC w r5 L Lg v3 zh7
      cases q4 with
      | zero =>
        have h := itp h rfl
        suffices e : Ev (d + 4, 0, 0, 314, 23, [.val (.ref 64), .val (.int p1), .val (.int p2), .val a_unk], [], (126, 120, L, [Y_5, T, H, H2, RV, RU, ST, NS, I0, I1, I2, BO, FI, RG, GU, PU, MA, MN, MS, OT, SC], [192, 256, 384, 320, w, r5, 576, 640, 704], Lg)) o from ev_call (fun v μ => (d + 4, 0, 0, 314, 23, [.val (.ref 64), .val (.int p1), .val (.int p2), .val a_unk], v.toList ++ [], μ)) 1 ze8 e (fun n => Eq.refl _)
        obtain ⟨⟨BO_7, GU_8⟩, zh9, h⟩ := bnd h
        have zh9 : f_Y_lookAhead H NS BO GU = some (BO_7, GU_8) := zh9
        have ze10 := R_f_Y_lookAhead_1 (d + 0) Y_5 T H H2 RV RU ST NS I0 I1 I2 BO FI RG GU PU MA MN MS OT SC w r5 L Lg zh9
        suffices e : Ev (d + 4, 0, 0, 314, 27, [.val (.ref 64), .val (.int p1), .val (.int p2), .val a_unk], [.ref 960], (126, 120, L, [Y_5, T, H, H2, RV, RU, ST, NS, I0, I1, I2, BO_7, FI, RG, GU_8, PU, MA, MN, MS, OT, SC], [192, 256, 384, 320, w, 192, 576, 640, 704], Lg)) o from ev_call (fun v μ => (d + 4, 0, 0, 314, 27, [.val (.ref 64), .val (.int p1), .val (.int p2), .val a_unk], v.toList ++ [], μ)) 2 ze10 e (fun n => Eq.refl _)
        obtain ⟨x9, zh11, h⟩ := bnd h
        have zh11 : f_Guide_missers H GU_8 p1 = some x9 := zh11
        have ze12 := R_f_Guide_missers_0 (d + 1) Y_5 T H H2 RV RU ST NS I0 I1 I2 BO_7 FI RG GU_8 PU MA MN MS OT SC 192 256 384 320 w 576 640 704 L Lg p1 zh11
        suffices e : Ev (d + 4, 0, 0, 314, 31, [.val (.ref 64), .val (.int p1), .val (.int p2), .val a_unk], [.int x9], (126, 120, L, [Y_5, T, H, H2, RV, RU, ST, NS, I0, I1, I2, BO_7, FI, RG, GU_8, PU, MA, MN, MS, OT, SC], [192, 256, 384, 320, w, 192, 576, 640, 704], Lg)) o from ev_call (fun v μ => (d + 4, 0, 0, 314, 31, [.val (.ref 64), .val (.int p1), .val (.int p2), .val a_unk], v.toList ++ [], μ)) 2 ze12 e (fun n => Eq.refl _)
        by_cases zc13 : p2 ≠ 0
        · have h := itp h zc13
          suffices e : Ev (d + 4, 0, 0, 314, 43, [.val (.ref 64), .val (.int p1), .val (.int p2), .val (.int x9)], [], (126, 120, L, [Y_5, T, H, H2, RV, RU, ST, NS, I0, I1, I2, BO_7, FI, RG, GU_8, PU, MA, MN, MS, OT, SC], [192, 256, 384, 320, w, 192, 576, 640, 704], Lg)) o from ev_t (c := p2 ≠ 0) _ _ 3  zc13 e (fun n => Eq.refl _)
          have ze14 := Option.some.inj h
          subst ze14
          exact ev_rete 2 ho (fun n => Eq.refl _)
        · have h := itn h zc13
          suffices e : Ev (d + 4, 0, 0, 314, 36, [.val (.ref 64), .val (.int p1), .val (.int p2), .val (.int x9)], [], (126, 120, L, [Y_5, T, H, H2, RV, RU, ST, NS, I0, I1, I2, BO_7, FI, RG, GU_8, PU, MA, MN, MS, OT, SC], [192, 256, 384, 320, w, 192, 576, 640, 704], Lg)) o from ev_f (c := p2 ≠ 0) _ _ 3  zc13 e (fun n => Eq.refl _)
          obtain ⟨x10, zh15, h⟩ := bnd h
          have zh15 : f_Integer_bitCount x9 = some x10 := zh15
          have ze16 := R_f_Integer_bitCount_0 (d + 3) Y_5 T H H2 RV RU ST NS I0 I1 I2 BO_7 FI RG GU_8 PU MA MN MS OT SC 192 256 384 320 w 192 576 640 704 L Lg x9 zh15
          suffices e : Ev (d + 4, 0, 0, 314, 40, [.val (.ref 64), .val (.int p1), .val (.int p2), .val (.int x9)], [.int x10], (126, 120, L, [Y_5, T, H, H2, RV, RU, ST, NS, I0, I1, I2, BO_7, FI, RG, GU_8, PU, MA, MN, MS, OT, SC], [192, 256, 384, 320, w, 192, 576, 640, 704], Lg)) o from ev_call (fun v μ => (d + 4, 0, 0, 314, 40, [.val (.ref 64), .val (.int p1), .val (.int p2), .val (.int x9)], v.toList ++ [], μ)) 2 ze16 e (fun n => Eq.refl _)
          have ze17 := Option.some.inj h
          subst ze17
          exact ev_rete 2 ho (fun n => Eq.refl _)
      | succ q4 =>
        have h := itn h (Nat.succ_ne_zero q4)
        have ze18 := Option.some.inj h
        subst ze18
        subst ho
        exact ev_thr (fun v μ => (d + 4, 0, 0, 314, 23, [.val (.ref 64), .val (.int p1), .val (.int p2), .val a_unk], v.toList ++ [], μ)) 1 ze8 (fun n => Eq.refl _) (fun n => rfl)
    obtain ⟨zt19, zh20, zh4⟩ := bnd zh4
    have zj21 : zt19 = .inl () → Ev (d + 4, 1, 8, 314, 19, [.val (.ref 64), .val (.int p1), .val (.int p2), .val a_unk], [.ref 64], (126, 120, L, [Y_2, T, H, H2, RV, RU, ST, NS, I0, I1, I2, BO, FI, RG, GU, PU, MA, MN, MS, OT, SC], [192, 256, 384, 320, w, r5, 576, 640, 704], Lg)) o := by
      intro ze22
      have zh4 := sum_l zh4 ze22
      exact ev_b 1 (zj5 0 (Option.some.inj zh4) ) (fun n => Eq.refl _)
    by_cases zc23 : p2 < 0
    · have zh20 := itp zh20 zc23
      suffices e : Ev (d + 4, 1, 8, 314, 19, [.val (.ref 64), .val (.int p1), .val (.int p2), .val a_unk], [.ref 64], (126, 120, L, [Y_2, T, H, H2, RV, RU, ST, NS, I0, I1, I2, BO, FI, RG, GU, PU, MA, MN, MS, OT, SC], [192, 256, 384, 320, w, r5, 576, 640, 704], Lg)) o from ev_t (c := p2 < 0) _ _ 3  zc23 e (fun n => Eq.refl _)
      exact ev_b 0 (zj21  (Option.some.inj zh20).symm ) (fun n => Eq.refl _)
    · have zh20 := itn zh20 zc23
      suffices e : Ev (d + 4, 1, 8, 314, 10, [.val (.ref 64), .val (.int p1), .val (.int p2), .val a_unk], [.ref 64], (126, 120, L, [Y_2, T, H, H2, RV, RU, ST, NS, I0, I1, I2, BO, FI, RG, GU, PU, MA, MN, MS, OT, SC], [192, 256, 384, 320, w, r5, 576, 640, 704], Lg)) o from ev_f (c := p2 < 0) _ _ 3  zc23 e (fun n => Eq.refl _)
      by_cases zc24 : 1 < p2
      · have zh20 := itp zh20 zc24
        suffices e : Ev (d + 4, 1, 8, 314, 19, [.val (.ref 64), .val (.int p1), .val (.int p2), .val a_unk], [.ref 64], (126, 120, L, [Y_2, T, H, H2, RV, RU, ST, NS, I0, I1, I2, BO, FI, RG, GU, PU, MA, MN, MS, OT, SC], [192, 256, 384, 320, w, r5, 576, 640, 704], Lg)) o from ev_t (c := 1 < p2) _ _ 3  zc24 e (fun n => Eq.refl _)
        exact ev_b 0 (zj21  (Option.some.inj zh20).symm ) (fun n => Eq.refl _)
      · have zh20 := itn zh20 zc24
        suffices e : Ev (d + 4, 1, 8, 314, 15, [.val (.ref 64), .val (.int p1), .val (.int p2), .val a_unk], [.ref 64], (126, 120, L, [Y_2, T, H, H2, RV, RU, ST, NS, I0, I1, I2, BO, FI, RG, GU, PU, MA, MN, MS, OT, SC], [192, 256, 384, 320, w, r5, 576, 640, 704], Lg)) o from ev_f (c := 1 < p2) _ _ 3  zc24 e (fun n => Eq.refl _)
        have zh25 := sum_r zh4 (Option.some.inj zh20).symm
        exact ev_b 2 (zj5 1 (Option.some.inj zh25) ) (fun n => Eq.refl _)
  | succ q1 =>
    have h := itn h (Nat.succ_ne_zero q1)
    have ze26 := Option.some.inj h
    subst ze26
    subst ho
    exact ev_thr (fun v μ => (d + 4, 1, 8, 314, 5, [.val (.ref 64), .val (.int p1), .val (.int p2), .val a_unk], v.toList ++ [], μ)) 3 ze2 (fun n => Eq.refl _) (fun n => rfl)
set_option maxRecDepth 1000000 in
set_option maxHeartbeats 4000000 in
theorem R_f_Guide_isLateFor_1 (d : Nat) (Y T H2 H RA RB ST NS I0 I1 I2 BO FI RG GU PU MA MN MS OT SC : Nat → Nat → Int32) (r0 r1 r2 r3 w r6 r7 r8 : Nat) (L : Nat) (Lg : Int64) (p1 : Int32) (p2 : Int32) {r : Int32} (h : f_Guide_isLateFor GU p1 p2 = some r) : Ev (d + 1, 0, 0, 199, 0, [.val (.ref 960), .val (.int p1), .val (.int p2)], [], (126, 120, L, [Y, T, H2, H, RA, RB, ST, NS, I0, I1, I2, BO, FI, RG, GU, PU, MA, MN, MS, OT, SC], [r0, r1, r2, r3, w, 256, r6, r7, r8], Lg)) ((0, some (.int r), (126, 120, L, [Y, T, H2, H, RA, RB, ST, NS, I0, I1, I2, BO, FI, RG, GU, PU, MA, MN, MS, OT, SC], [r0, r1, r2, r3, w, 256, r6, r7, r8], Lg)) : AOut) := by
  suffices key : ∀ o : AOut, ((0, some (.int r), (126, 120, L, [Y, T, H2, H, RA, RB, ST, NS, I0, I1, I2, BO, FI, RG, GU, PU, MA, MN, MS, OT, SC], [r0, r1, r2, r3, w, 256, r6, r7, r8], Lg)) : AOut) = o → Ev (d + 1, 0, 0, 199, 0, [.val (.ref 960), .val (.int p1), .val (.int p2)], [], (126, 120, L, [Y, T, H2, H, RA, RB, ST, NS, I0, I1, I2, BO, FI, RG, GU, PU, MA, MN, MS, OT, SC], [r0, r1, r2, r3, w, 256, r6, r7, r8], Lg)) o from key _ rfl
  intro o ho
  obtain ⟨x1, zh1, h⟩ := bnd h
  have zh1 : rdx (GU 2) 10 p1 = some x1 := zh1
  suffices e : Ev (d + 1, 0, 0, 199, 6, [.val (.ref 960), .val (.int p1), .val (.int p2)], [.int x1], (126, 120, L, [Y, T, H2, H, RA, RB, ST, NS, I0, I1, I2, BO, FI, RG, GU, PU, MA, MN, MS, OT, SC], [r0, r1, r2, r3, w, 256, r6, r7, r8], Lg)) o from ev_opt (fun x1 => (d + 1, 0, 0, 199, 6, [.val (.ref 960), .val (.int p1), .val (.int p2)], [.int x1], (126, 120, L, [Y, T, H2, H, RA, RB, ST, NS, I0, I1, I2, BO, FI, RG, GU, PU, MA, MN, MS, OT, SC], [r0, r1, r2, r3, w, 256, r6, r7, r8], Lg))) 4 zh1 e (fun n => Eq.refl _)
  by_cases zc2 : x1 = (-1)
  · have h := itp h zc2
    suffices e : Ev (d + 1, 0, 0, 199, 23, [.val (.ref 960), .val (.int p1), .val (.int p2)], [], (126, 120, L, [Y, T, H2, H, RA, RB, ST, NS, I0, I1, I2, BO, FI, RG, GU, PU, MA, MN, MS, OT, SC], [r0, r1, r2, r3, w, 256, r6, r7, r8], Lg)) o from ev_t (c := x1 = (-1)) _ _ 2  zc2 e (fun n => Eq.refl _)
    have ze3 := Option.some.inj h
    subst ze3
    exact ev_rete 2 ho (fun n => Eq.refl _)
  · have h := itn h zc2
    suffices e : Ev (d + 1, 0, 0, 199, 10, [.val (.ref 960), .val (.int p1), .val (.int p2)], [], (126, 120, L, [Y, T, H2, H, RA, RB, ST, NS, I0, I1, I2, BO, FI, RG, GU, PU, MA, MN, MS, OT, SC], [r0, r1, r2, r3, w, 256, r6, r7, r8], Lg)) o from ev_f (c := x1 = (-1)) _ _ 2  zc2 e (fun n => Eq.refl _)
    obtain ⟨x2, zh4, h⟩ := bnd h
    have zh4 : rdx (GU 2) 10 p1 = some x2 := zh4
    suffices e : Ev (d + 1, 0, 0, 199, 16, [.val (.ref 960), .val (.int p1), .val (.int p2)], [.int x2], (126, 120, L, [Y, T, H2, H, RA, RB, ST, NS, I0, I1, I2, BO, FI, RG, GU, PU, MA, MN, MS, OT, SC], [r0, r1, r2, r3, w, 256, r6, r7, r8], Lg)) o from ev_opt (fun x2 => (d + 1, 0, 0, 199, 16, [.val (.ref 960), .val (.int p1), .val (.int p2)], [.int x2], (126, 120, L, [Y, T, H2, H, RA, RB, ST, NS, I0, I1, I2, BO, FI, RG, GU, PU, MA, MN, MS, OT, SC], [r0, r1, r2, r3, w, 256, r6, r7, r8], Lg))) 4 zh4 e (fun n => Eq.refl _)
    obtain ⟨x3, zh5, h⟩ := bnd h
    have zh5 : f_Y_hourOf x2 = some x3 := zh5
    have ze6 := R_f_Y_hourOf_0 (d + 0) Y T H2 H RA RB ST NS I0 I1 I2 BO FI RG GU PU MA MN MS OT SC r0 r1 r2 r3 w 256 r6 r7 r8 L Lg x2 zh5
    suffices e : Ev (d + 1, 0, 0, 199, 19, [.val (.ref 960), .val (.int p1), .val (.int p2)], [.int x3], (126, 120, L, [Y, T, H2, H, RA, RB, ST, NS, I0, I1, I2, BO, FI, RG, GU, PU, MA, MN, MS, OT, SC], [r0, r1, r2, r3, w, 256, r6, r7, r8], Lg)) o from ev_call (fun v μ => (d + 1, 0, 0, 199, 19, [.val (.ref 960), .val (.int p1), .val (.int p2)], v.toList ++ [], μ)) 1 ze6 e (fun n => Eq.refl _)
    by_cases zc7 : x3 < p2
    · have h := itp h zc7
      suffices e : Ev (d + 1, 0, 0, 199, 25, [.val (.ref 960), .val (.int p1), .val (.int p2)], [], (126, 120, L, [Y, T, H2, H, RA, RB, ST, NS, I0, I1, I2, BO, FI, RG, GU, PU, MA, MN, MS, OT, SC], [r0, r1, r2, r3, w, 256, r6, r7, r8], Lg)) o from ev_t (c := x3 < p2) _ _ 2  zc7 e (fun n => Eq.refl _)
      obtain ⟨x4, zh8, h⟩ := bnd h
      have zh8 : rdx (GU 1) 10 p1 = some x4 := zh8
      suffices e : Ev (d + 1, 0, 0, 199, 31, [.val (.ref 960), .val (.int p1), .val (.int p2)], [.int x4], (126, 120, L, [Y, T, H2, H, RA, RB, ST, NS, I0, I1, I2, BO, FI, RG, GU, PU, MA, MN, MS, OT, SC], [r0, r1, r2, r3, w, 256, r6, r7, r8], Lg)) o from ev_opt (fun x4 => (d + 1, 0, 0, 199, 31, [.val (.ref 960), .val (.int p1), .val (.int p2)], [.int x4], (126, 120, L, [Y, T, H2, H, RA, RB, ST, NS, I0, I1, I2, BO, FI, RG, GU, PU, MA, MN, MS, OT, SC], [r0, r1, r2, r3, w, 256, r6, r7, r8], Lg))) 4 zh8 e (fun n => Eq.refl _)
      by_cases zc9 : x4 = (-1)
      · have h := itp h zc9
        suffices e : Ev (d + 1, 0, 0, 199, 56, [.val (.ref 960), .val (.int p1), .val (.int p2)], [], (126, 120, L, [Y, T, H2, H, RA, RB, ST, NS, I0, I1, I2, BO, FI, RG, GU, PU, MA, MN, MS, OT, SC], [r0, r1, r2, r3, w, 256, r6, r7, r8], Lg)) o from ev_t (c := x4 = (-1)) _ _ 2  zc9 e (fun n => Eq.refl _)
        have ze10 := Option.some.inj h
        subst ze10
        exact ev_rete 3 ho (fun n => Eq.refl _)
      · have h := itn h zc9
        suffices e : Ev (d + 1, 0, 0, 199, 35, [.val (.ref 960), .val (.int p1), .val (.int p2)], [], (126, 120, L, [Y, T, H2, H, RA, RB, ST, NS, I0, I1, I2, BO, FI, RG, GU, PU, MA, MN, MS, OT, SC], [r0, r1, r2, r3, w, 256, r6, r7, r8], Lg)) o from ev_f (c := x4 = (-1)) _ _ 2  zc9 e (fun n => Eq.refl _)
        obtain ⟨x5, zh11, h⟩ := bnd h
        have zh11 : rdx (GU 1) 10 p1 = some x5 := zh11
        suffices e : Ev (d + 1, 0, 0, 199, 41, [.val (.ref 960), .val (.int p1), .val (.int p2)], [.int x5], (126, 120, L, [Y, T, H2, H, RA, RB, ST, NS, I0, I1, I2, BO, FI, RG, GU, PU, MA, MN, MS, OT, SC], [r0, r1, r2, r3, w, 256, r6, r7, r8], Lg)) o from ev_opt (fun x5 => (d + 1, 0, 0, 199, 41, [.val (.ref 960), .val (.int p1), .val (.int p2)], [.int x5], (126, 120, L, [Y, T, H2, H, RA, RB, ST, NS, I0, I1, I2, BO, FI, RG, GU, PU, MA, MN, MS, OT, SC], [r0, r1, r2, r3, w, 256, r6, r7, r8], Lg))) 4 zh11 e (fun n => Eq.refl _)
        obtain ⟨x6, zh12, h⟩ := bnd h
        have zh12 : f_Y_hourOf x5 = some x6 := zh12
        have ze13 := R_f_Y_hourOf_0 (d + 0) Y T H2 H RA RB ST NS I0 I1 I2 BO FI RG GU PU MA MN MS OT SC r0 r1 r2 r3 w 256 r6 r7 r8 L Lg x5 zh12
        suffices e : Ev (d + 1, 0, 0, 199, 44, [.val (.ref 960), .val (.int p1), .val (.int p2)], [.int x6], (126, 120, L, [Y, T, H2, H, RA, RB, ST, NS, I0, I1, I2, BO, FI, RG, GU, PU, MA, MN, MS, OT, SC], [r0, r1, r2, r3, w, 256, r6, r7, r8], Lg)) o from ev_call (fun v μ => (d + 1, 0, 0, 199, 44, [.val (.ref 960), .val (.int p1), .val (.int p2)], v.toList ++ [], μ)) 1 ze13 e (fun n => Eq.refl _)
        obtain ⟨x7, zh14, h⟩ := bnd h
        have zh14 : rdx (GU 2) 10 p1 = some x7 := zh14
        suffices e : Ev (d + 1, 0, 0, 199, 50, [.val (.ref 960), .val (.int p1), .val (.int p2)], [.int x7, .int x6], (126, 120, L, [Y, T, H2, H, RA, RB, ST, NS, I0, I1, I2, BO, FI, RG, GU, PU, MA, MN, MS, OT, SC], [r0, r1, r2, r3, w, 256, r6, r7, r8], Lg)) o from ev_opt (fun x7 => (d + 1, 0, 0, 199, 50, [.val (.ref 960), .val (.int p1), .val (.int p2)], [.int x7, .int x6], (126, 120, L, [Y, T, H2, H, RA, RB, ST, NS, I0, I1, I2, BO, FI, RG, GU, PU, MA, MN, MS, OT, SC], [r0, r1, r2, r3, w, 256, r6, r7, r8], Lg))) 4 zh14 e (fun n => Eq.refl _)
        obtain ⟨x8, zh15, h⟩ := bnd h
        have zh15 : f_Y_hourOf x7 = some x8 := zh15
        have ze16 := R_f_Y_hourOf_0 (d + 0) Y T H2 H RA RB ST NS I0 I1 I2 BO FI RG GU PU MA MN MS OT SC r0 r1 r2 r3 w 256 r6 r7 r8 L Lg x7 zh15
        suffices e : Ev (d + 1, 0, 0, 199, 53, [.val (.ref 960), .val (.int p1), .val (.int p2)], [.int x8, .int x6], (126, 120, L, [Y, T, H2, H, RA, RB, ST, NS, I0, I1, I2, BO, FI, RG, GU, PU, MA, MN, MS, OT, SC], [r0, r1, r2, r3, w, 256, r6, r7, r8], Lg)) o from ev_call (fun v μ => (d + 1, 0, 0, 199, 53, [.val (.ref 960), .val (.int p1), .val (.int p2)], v.toList ++ [.int x6], μ)) 1 ze16 e (fun n => Eq.refl _)
        by_cases zc17 : x6 = x8
        · have h := itp h zc17
          suffices e : Ev (d + 1, 0, 0, 199, 60, [.val (.ref 960), .val (.int p1), .val (.int p2)], [], (126, 120, L, [Y, T, H2, H, RA, RB, ST, NS, I0, I1, I2, BO, FI, RG, GU, PU, MA, MN, MS, OT, SC], [r0, r1, r2, r3, w, 256, r6, r7, r8], Lg)) o from ev_t (c := x6 = x8) _ _ 1  zc17 e (fun n => Eq.refl _)
          have ze18 := Option.some.inj h
          subst ze18
          exact ev_rete 2 ho (fun n => Eq.refl _)
        · have h := itn h zc17
          suffices e : Ev (d + 1, 0, 0, 199, 56, [.val (.ref 960), .val (.int p1), .val (.int p2)], [], (126, 120, L, [Y, T, H2, H, RA, RB, ST, NS, I0, I1, I2, BO, FI, RG, GU, PU, MA, MN, MS, OT, SC], [r0, r1, r2, r3, w, 256, r6, r7, r8], Lg)) o from ev_f (c := x6 = x8) _ _ 1  zc17 e (fun n => Eq.refl _)
          have ze19 := Option.some.inj h
          subst ze19
          exact ev_rete 3 ho (fun n => Eq.refl _)
    · have h := itn h zc7
      suffices e : Ev (d + 1, 0, 0, 199, 23, [.val (.ref 960), .val (.int p1), .val (.int p2)], [], (126, 120, L, [Y, T, H2, H, RA, RB, ST, NS, I0, I1, I2, BO, FI, RG, GU, PU, MA, MN, MS, OT, SC], [r0, r1, r2, r3, w, 256, r6, r7, r8], Lg)) o from ev_f (c := x3 < p2) _ _ 2  zc7 e (fun n => Eq.refl _)
      have ze20 := Option.some.inj h
      subst ze20
      exact ev_rete 2 ho (fun n => Eq.refl _)
set_option maxRecDepth 1000000 in
set_option maxHeartbeats 4000000 in
theorem R_f_Guide_missers_1 (d : Nat) (Y T H2 H RA RB ST NS I0 I1 I2 BO FI RG GU PU MA MN MS OT SC : Nat → Nat → Int32) (r0 r1 r2 r3 w r6 r7 r8 : Nat) (L : Nat) (Lg : Int64) (p1 : Int32) {r : Int32} (h : f_Guide_missers H GU p1 = some r) : Ev (d + 2, 0, 0, 198, 0, [.val (.ref 960), .val (.int p1), .val a_unk, .val a_unk, .val a_unk, .val a_unk], [], (126, 120, L, [Y, T, H2, H, RA, RB, ST, NS, I0, I1, I2, BO, FI, RG, GU, PU, MA, MN, MS, OT, SC], [r0, r1, r2, r3, w, 256, r6, r7, r8], Lg)) ((0, some (.int r), (126, 120, L, [Y, T, H2, H, RA, RB, ST, NS, I0, I1, I2, BO, FI, RG, GU, PU, MA, MN, MS, OT, SC], [r0, r1, r2, r3, w, 256, r6, r7, r8], Lg)) : AOut) := by
  suffices key : ∀ o : AOut, ((0, some (.int r), (126, 120, L, [Y, T, H2, H, RA, RB, ST, NS, I0, I1, I2, BO, FI, RG, GU, PU, MA, MN, MS, OT, SC], [r0, r1, r2, r3, w, 256, r6, r7, r8], Lg)) : AOut) = o → Ev (d + 2, 0, 0, 198, 0, [.val (.ref 960), .val (.int p1), .val a_unk, .val a_unk, .val a_unk, .val a_unk], [], (126, 120, L, [Y, T, H2, H, RA, RB, ST, NS, I0, I1, I2, BO, FI, RG, GU, PU, MA, MN, MS, OT, SC], [r0, r1, r2, r3, w, 256, r6, r7, r8], Lg)) o from key _ rfl
  intro o ho
  obtain ⟨v12, zh2, h⟩ := bnd h
  suffices e : Ev (d + 2, 0, 0, 198, 4, [.val (.ref 960), .val (.int p1), .val (.int 0), .val (.int 0), .val a_unk, .val a_unk], [], (126, 120, L, [Y, T, H2, H, RA, RB, ST, NS, I0, I1, I2, BO, FI, RG, GU, PU, MA, MN, MS, OT, SC], [r0, r1, r2, r3, w, 256, r6, r7, r8], Lg)) o from ev_b 4 e (fun n => Eq.refl _)
  refine ev_loop (δ := Value × Value) (fun a j => (d + 2, 0, 0, 198, 4, [.val (.ref 960), .val (.int p1), .val (.int a.1), .val (.int a.2), .val j.1, .val j.2], [], (126, 120, L, [Y, T, H2, H, RA, RB, ST, NS, I0, I1, I2, BO, FI, RG, GU, PU, MA, MN, MS, OT, SC], [r0, r1, r2, r3, w, 256, r6, r7, r8], Lg))) (fun b => ∀ s13 : Value, ∀ s14 : Value, ∀ s15 : Value, Ev (d + 2, 0, 0, 198, 97, [.val (.ref 960), .val (.int p1), .val (.int b), .val s13, .val s14, .val s15], [], (126, 120, L, [Y, T, H2, H, RA, RB, ST, NS, I0, I1, I2, BO, FI, RG, GU, PU, MA, MN, MS, OT, SC], [r0, r1, r2, r3, w, 256, r6, r7, r8], Lg)) o) ?_ a_F (0, 0) v12 zh2 ?_ (a_unk, a_unk)
  · rintro ⟨v1, v2⟩ zr6 zh5 zi3 zx4 ⟨s3, s4⟩
    have zh5 : f_Guide_missers_l4 H GU p1 v1 v2 = some zr6 := zh5
    suffices e : Ev (d + 2, 0, 0, 198, 12, [.val (.ref 960), .val (.int p1), .val (.int v1), .val (.int v2), .val s3, .val s4], [.ref 256, .int v2], (126, 120, L, [Y, T, H2, H, RA, RB, ST, NS, I0, I1, I2, BO, FI, RG, GU, PU, MA, MN, MS, OT, SC], [r0, r1, r2, r3, w, 256, r6, r7, r8], Lg)) o from ev_b 4 e (fun n => Eq.refl _)
    by_cases zc7 : (H 0 2) ≤ v2
    · have zh5 := itp zh5 zc7
      suffices e : Ev (d + 2, 0, 0, 198, 97, [.val (.ref 960), .val (.int p1), .val (.int v1), .val (.int v2), .val s3, .val s4], [], (126, 120, L, [Y, T, H2, H, RA, RB, ST, NS, I0, I1, I2, BO, FI, RG, GU, PU, MA, MN, MS, OT, SC], [r0, r1, r2, r3, w, 256, r6, r7, r8], Lg)) o from ev_t (c := (H 0 2) ≤ v2) _ _ 2  zc7 e (fun n => Eq.refl _)
      exact ev_b 0 (zx4 _ (Option.some.inj zh5).symm (.int v2) s3 s4) (fun n => Eq.refl _)
    · have zh5 := itn zh5 zc7
      suffices e : Ev (d + 2, 0, 0, 198, 18, [.val (.ref 960), .val (.int p1), .val (.int v1), .val (.int v2), .val s3, .val s4], [], (126, 120, L, [Y, T, H2, H, RA, RB, ST, NS, I0, I1, I2, BO, FI, RG, GU, PU, MA, MN, MS, OT, SC], [r0, r1, r2, r3, w, 256, r6, r7, r8], Lg)) o from ev_f (c := (H 0 2) ≤ v2) _ _ 2  zc7 e (fun n => Eq.refl _)
      suffices e : Ev (d + 2, 0, 0, 198, 26, [.val (.ref 960), .val (.int p1), .val (.int v1), .val (.int v2), .val s3, .val s4], [.ref 256, .int p1], (126, 120, L, [Y, T, H2, H, RA, RB, ST, NS, I0, I1, I2, BO, FI, RG, GU, PU, MA, MN, MS, OT, SC], [r0, r1, r2, r3, w, 256, r6, r7, r8], Lg)) o from ev_b 4 e (fun n => Eq.refl _)
      obtain ⟨x5, zh8, zh5⟩ := bnd zh5
      have zh8 : rdx (H 3) 8 v2 = some x5 := zh8
      suffices e : Ev (d + 2, 0, 0, 198, 31, [.val (.ref 960), .val (.int p1), .val (.int v1), .val (.int v2), .val s3, .val s4], [.int x5, .int p1], (126, 120, L, [Y, T, H2, H, RA, RB, ST, NS, I0, I1, I2, BO, FI, RG, GU, PU, MA, MN, MS, OT, SC], [r0, r1, r2, r3, w, 256, r6, r7, r8], Lg)) o from ev_opt (fun x5 => (d + 2, 0, 0, 198, 31, [.val (.ref 960), .val (.int p1), .val (.int v1), .val (.int v2), .val s3, .val s4], [.int x5, .int p1], (126, 120, L, [Y, T, H2, H, RA, RB, ST, NS, I0, I1, I2, BO, FI, RG, GU, PU, MA, MN, MS, OT, SC], [r0, r1, r2, r3, w, 256, r6, r7, r8], Lg))) 3 zh8 e (fun n => Eq.refl _)
      obtain ⟨v10, zh10, zh5⟩ := bnd zh5
      suffices e : Ev (d + 2, 0, 0, 198, 37, [.val (.ref 960), .val (.int p1), .val (.int v1), .val (.int v2), .val (.int (p1 + x5)), .val (.int 0)], [], (126, 120, L, [Y, T, H2, H, RA, RB, ST, NS, I0, I1, I2, BO, FI, RG, GU, PU, MA, MN, MS, OT, SC], [r0, r1, r2, r3, w, 256, r6, r7, r8], Lg)) o from ev_b 4 e (fun n => Eq.refl _)
      refine ev_loop (δ := Unit) (fun a j => (d + 2, 0, 0, 198, 37, [.val (.ref 960), .val (.int p1), .val (.int a.1), .val (.int v2), .val (.int (p1 + x5)), .val (.int a.2)], [], (126, 120, L, [Y, T, H2, H, RA, RB, ST, NS, I0, I1, I2, BO, FI, RG, GU, PU, MA, MN, MS, OT, SC], [r0, r1, r2, r3, w, 256, r6, r7, r8], Lg))) (fun b => ∀ s11 : Value, Ev (d + 2, 0, 0, 198, 91, [.val (.ref 960), .val (.int p1), .val (.int b), .val (.int v2), .val (.int (p1 + x5)), .val s11], [], (126, 120, L, [Y, T, H2, H, RA, RB, ST, NS, I0, I1, I2, BO, FI, RG, GU, PU, MA, MN, MS, OT, SC], [r0, r1, r2, r3, w, 256, r6, r7, r8], Lg)) o) ?_ a_F (v1, 0) v10 zh10 ?_ ()
      · rintro ⟨v6, v7⟩ zr14 zh13 zi11 zx12 ⟨⟩
        have zh13 : f_Guide_missers_l37 H GU v2 p1 x5 v6 v7 = some zr14 := zh13
        suffices e : Ev (d + 2, 0, 0, 198, 46, [.val (.ref 960), .val (.int p1), .val (.int v6), .val (.int v2), .val (.int (p1 + x5)), .val (.int v7)], [.ref 256, .int v7], (126, 120, L, [Y, T, H2, H, RA, RB, ST, NS, I0, I1, I2, BO, FI, RG, GU, PU, MA, MN, MS, OT, SC], [r0, r1, r2, r3, w, 256, r6, r7, r8], Lg)) o from ev_b 4 e (fun n => Eq.refl _)
        by_cases zc15 : (H 0 3) ≤ v7
        · have zh13 := itp zh13 zc15
          suffices e : Ev (d + 2, 0, 0, 198, 91, [.val (.ref 960), .val (.int p1), .val (.int v6), .val (.int v2), .val (.int (p1 + x5)), .val (.int v7)], [], (126, 120, L, [Y, T, H2, H, RA, RB, ST, NS, I0, I1, I2, BO, FI, RG, GU, PU, MA, MN, MS, OT, SC], [r0, r1, r2, r3, w, 256, r6, r7, r8], Lg)) o from ev_t (c := (H 0 3) ≤ v7) _ _ 2  zc15 e (fun n => Eq.refl _)
          exact ev_b 0 (zx12 _ (Option.some.inj zh13).symm (.int v7)) (fun n => Eq.refl _)
        · have zh13 := itn zh13 zc15
          suffices e : Ev (d + 2, 0, 0, 198, 52, [.val (.ref 960), .val (.int p1), .val (.int v6), .val (.int v2), .val (.int (p1 + x5)), .val (.int v7)], [], (126, 120, L, [Y, T, H2, H, RA, RB, ST, NS, I0, I1, I2, BO, FI, RG, GU, PU, MA, MN, MS, OT, SC], [r0, r1, r2, r3, w, 256, r6, r7, r8], Lg)) o from ev_f (c := (H 0 3) ≤ v7) _ _ 2  zc15 e (fun n => Eq.refl _)
          suffices e : Ev (d + 2, 0, 0, 198, 59, [.val (.ref 960), .val (.int p1), .val (.int v6), .val (.int v2), .val (.int (p1 + x5)), .val (.int v7)], [.ref 256], (126, 120, L, [Y, T, H2, H, RA, RB, ST, NS, I0, I1, I2, BO, FI, RG, GU, PU, MA, MN, MS, OT, SC], [r0, r1, r2, r3, w, 256, r6, r7, r8], Lg)) o from ev_b 3 e (fun n => Eq.refl _)
          obtain ⟨x8, zh16, zh13⟩ := bnd zh13
          have zh16 : f_House_isMember H v7 v2 = some x8 := zh16
          have ze17 := R_f_House_isMember_1 (d + 1) Y T H2 H RA RB ST NS I0 I1 I2 BO FI RG GU PU MA MN MS OT SC r0 r1 r2 r3 w 256 r6 r7 r8 L Lg v7 v2 zh16
          suffices e : Ev (d + 2, 0, 0, 198, 65, [.val (.ref 960), .val (.int p1), .val (.int v6), .val (.int v2), .val (.int (p1 + x5)), .val (.int v7)], [.int x8], (126, 120, L, [Y, T, H2, H, RA, RB, ST, NS, I0, I1, I2, BO, FI, RG, GU, PU, MA, MN, MS, OT, SC], [r0, r1, r2, r3, w, 256, r6, r7, r8], Lg)) o from ev_call (fun v μ => (d + 2, 0, 0, 198, 65, [.val (.ref 960), .val (.int p1), .val (.int v6), .val (.int v2), .val (.int (p1 + x5)), .val (.int v7)], v.toList ++ [], μ)) 3 ze17 e (fun n => Eq.refl _)
          by_cases zc18 : x8 = 0
          · have zh13 := itp zh13 zc18
            suffices e : Ev (d + 2, 0, 0, 198, 85, [.val (.ref 960), .val (.int p1), .val (.int v6), .val (.int v2), .val (.int (p1 + x5)), .val (.int v7)], [], (126, 120, L, [Y, T, H2, H, RA, RB, ST, NS, I0, I1, I2, BO, FI, RG, GU, PU, MA, MN, MS, OT, SC], [r0, r1, r2, r3, w, 256, r6, r7, r8], Lg)) o from ev_t (c := x8 = 0) _ _ 1  zc18 e (fun n => Eq.refl _)
            exact ev_b 2 (zi11 _ (Option.some.inj zh13).symm ()) (fun n => Eq.refl _)
          · have zh13 := itn zh13 zc18
            suffices e : Ev (d + 2, 0, 0, 198, 68, [.val (.ref 960), .val (.int p1), .val (.int v6), .val (.int v2), .val (.int (p1 + x5)), .val (.int v7)], [], (126, 120, L, [Y, T, H2, H, RA, RB, ST, NS, I0, I1, I2, BO, FI, RG, GU, PU, MA, MN, MS, OT, SC], [r0, r1, r2, r3, w, 256, r6, r7, r8], Lg)) o from ev_f (c := x8 = 0) _ _ 1  zc18 e (fun n => Eq.refl _)
            obtain ⟨x9, zh19, zh13⟩ := bnd zh13
            have zh19 : f_Guide_isLateFor GU v7 (p1 + x5) = some x9 := zh19
            have ze20 := R_f_Guide_isLateFor_1 (d + 0) Y T H2 H RA RB ST NS I0 I1 I2 BO FI RG GU PU MA MN MS OT SC r0 r1 r2 r3 w r6 r7 r8 L Lg v7 (p1 + x5) zh19
            suffices e : Ev (d + 2, 0, 0, 198, 76, [.val (.ref 960), .val (.int p1), .val (.int v6), .val (.int v2), .val (.int (p1 + x5)), .val (.int v7)], [.int x9], (126, 120, L, [Y, T, H2, H, RA, RB, ST, NS, I0, I1, I2, BO, FI, RG, GU, PU, MA, MN, MS, OT, SC], [r0, r1, r2, r3, w, 256, r6, r7, r8], Lg)) o from ev_call (fun v μ => (d + 2, 0, 0, 198, 76, [.val (.ref 960), .val (.int p1), .val (.int v6), .val (.int v2), .val (.int (p1 + x5)), .val (.int v7)], v.toList ++ [], μ)) 4 ze20 e (fun n => Eq.refl _)
            by_cases zc21 : x9 = 0
            · have zh13 := itp zh13 zc21
              suffices e : Ev (d + 2, 0, 0, 198, 85, [.val (.ref 960), .val (.int p1), .val (.int v6), .val (.int v2), .val (.int (p1 + x5)), .val (.int v7)], [], (126, 120, L, [Y, T, H2, H, RA, RB, ST, NS, I0, I1, I2, BO, FI, RG, GU, PU, MA, MN, MS, OT, SC], [r0, r1, r2, r3, w, 256, r6, r7, r8], Lg)) o from ev_t (c := x9 = 0) _ _ 1  zc21 e (fun n => Eq.refl _)
              exact ev_b 2 (zi11 _ (Option.some.inj zh13).symm ()) (fun n => Eq.refl _)
            · have zh13 := itn zh13 zc21
              suffices e : Ev (d + 2, 0, 0, 198, 79, [.val (.ref 960), .val (.int p1), .val (.int v6), .val (.int v2), .val (.int (p1 + x5)), .val (.int v7)], [], (126, 120, L, [Y, T, H2, H, RA, RB, ST, NS, I0, I1, I2, BO, FI, RG, GU, PU, MA, MN, MS, OT, SC], [r0, r1, r2, r3, w, 256, r6, r7, r8], Lg)) o from ev_f (c := x9 = 0) _ _ 1  zc21 e (fun n => Eq.refl _)
              exact ev_b 8 (zi11 _ (Option.some.inj zh13).symm ()) (fun n => Eq.refl _)
      · skip
        intro s11
        exact ev_b 2 (zi3 _ (Option.some.inj zh5).symm ((.int (p1 + x5)), s11)) (fun n => Eq.refl _)
  · skip
    intro s13 s14 s15
    have ze22 := Option.some.inj h
    subst ze22
    exact ev_rete 2 ho (fun n => Eq.refl _)
