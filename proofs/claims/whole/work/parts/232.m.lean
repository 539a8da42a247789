/-! printed by program (gen/emitm.py): the reference's methods run as their functions say -/
set_option maxRecDepth 1000000 in
set_option maxHeartbeats 4000000 in
theorem R_f_Y_tenfold_0 (d : Nat) (Y T HA HB RA RB ST NS I0 I1 I2 BO FI RG GU PU MA MN MS OT SC : Nat → Nat → Int32) (r0 r1 r2 r3 w r5 r6 r7 r8 : Nat) (L : Nat) (Lg : Int64) (p0 : Int32) {r : Int32} (h : f_Y_tenfold p0 = some r) : Ev (d + 1, 0, 0, 348, 0, [.val (.int p0)], [], (126, 120, L, [Y, T, HA, HB, RA, RB, ST, NS, I0, I1, I2, BO, FI, RG, GU, PU, MA, MN, MS, OT, SC], [r0, r1, r2, r3, w, r5, r6, r7, r8], Lg)) ((0, some (.int r), (126, 120, L, [Y, T, HA, HB, RA, RB, ST, NS, I0, I1, I2, BO, FI, RG, GU, PU, MA, MN, MS, OT, SC], [r0, r1, r2, r3, w, r5, r6, r7, r8], Lg)) : AOut) := by
  suffices key : ∀ o : AOut, ((0, some (.int r), (126, 120, L, [Y, T, HA, HB, RA, RB, ST, NS, I0, I1, I2, BO, FI, RG, GU, PU, MA, MN, MS, OT, SC], [r0, r1, r2, r3, w, r5, r6, r7, r8], Lg)) : AOut) = o → Ev (d + 1, 0, 0, 348, 0, [.val (.int p0)], [], (126, 120, L, [Y, T, HA, HB, RA, RB, ST, NS, I0, I1, I2, BO, FI, RG, GU, PU, MA, MN, MS, OT, SC], [r0, r1, r2, r3, w, r5, r6, r7, r8], Lg)) o from key _ rfl
  intro o ho
  by_cases zc1 : p0 ≠ (-1)
  · have h := itp h zc1
    suffices e : Ev (d + 1, 0, 0, 348, 9, [.val (.int p0)], [], (126, 120, L, [Y, T, HA, HB, RA, RB, ST, NS, I0, I1, I2, BO, FI, RG, GU, PU, MA, MN, MS, OT, SC], [r0, r1, r2, r3, w, r5, r6, r7, r8], Lg)) o from ev_t (c := p0 ≠ (-1)) _ _ 3  zc1 e (fun n => Eq.refl _)
    obtain ⟨x1, zh2, h⟩ := bnd h
    have zh2 : f_Y_roomOf p0 = some x1 := zh2
    have ze3 := R_f_Y_roomOf_0 (d + 0) Y T HA HB RA RB ST NS I0 I1 I2 BO FI RG GU PU MA MN MS OT SC r0 r1 r2 r3 w r5 r6 r7 r8 L Lg p0 zh2
    suffices e : Ev (d + 1, 0, 0, 348, 15, [.val (.int p0)], [.int x1, .int 10], (126, 120, L, [Y, T, HA, HB, RA, RB, ST, NS, I0, I1, I2, BO, FI, RG, GU, PU, MA, MN, MS, OT, SC], [r0, r1, r2, r3, w, r5, r6, r7, r8], Lg)) o from ev_call (fun v μ => (d + 1, 0, 0, 348, 15, [.val (.int p0)], v.toList ++ [.int 10], μ)) 3 ze3 e (fun n => Eq.refl _)
    obtain ⟨x2, zh4, h⟩ := bnd h
    have zh4 : f_Y_hourOf p0 = some x2 := zh4
    have ze5 := R_f_Y_hourOf_0 (d + 0) Y T HA HB RA RB ST NS I0 I1 I2 BO FI RG GU PU MA MN MS OT SC r0 r1 r2 r3 w r5 r6 r7 r8 L Lg p0 zh4
    suffices e : Ev (d + 1, 0, 0, 348, 20, [.val (.int p0)], [.int x2, .int (10 * x1)], (126, 120, L, [Y, T, HA, HB, RA, RB, ST, NS, I0, I1, I2, BO, FI, RG, GU, PU, MA, MN, MS, OT, SC], [r0, r1, r2, r3, w, r5, r6, r7, r8], Lg)) o from ev_call (fun v μ => (d + 1, 0, 0, 348, 20, [.val (.int p0)], v.toList ++ [.int (10 * x1)], μ)) 3 ze5 e (fun n => Eq.refl _)
    have ze6 := Option.some.inj h
    subst ze6
    exact ev_rete 2 ho (fun n => Eq.refl _)
  · have h := itn h zc1
    suffices e : Ev (d + 1, 0, 0, 348, 5, [.val (.int p0)], [], (126, 120, L, [Y, T, HA, HB, RA, RB, ST, NS, I0, I1, I2, BO, FI, RG, GU, PU, MA, MN, MS, OT, SC], [r0, r1, r2, r3, w, r5, r6, r7, r8], Lg)) o from ev_f (c := p0 ≠ (-1)) _ _ 3  zc1 e (fun n => Eq.refl _)
    have ze7 := Option.some.inj h
    subst ze7
    exact ev_rete 3 ho (fun n => Eq.refl _)
set_option maxRecDepth 1000000 in
set_option maxHeartbeats 4000000 in
theorem R_f_Y_goes_0 (d : Nat) (Y T H H2 RU RV ST NS I0 I1 I2 BO FI RG GU PU MA MN MS OT SC : Nat → Nat → Int32) (w r5 : Nat) (L : Nat) (Lg : Int64) (p1 : Int32) (p2 : Int32) (p3 : Int32) {r : Nat × Int32 × (Nat → Nat → Int32) × (Nat → Nat → Int32) × (Nat → Nat → Int32) × Nat} (h : f_Y_goes Y H NS BO FI 192 r5 p1 p2 p3 = some r) : Ev (d + 18, 3, 24, 303, 0, [.val (.ref 64), .val (.int p1), .val (.int p2), .val (.int p3)], [], (126, 120, L, [Y, T, H, H2, RU, RV, ST, NS, I0, I1, I2, BO, FI, RG, GU, PU, MA, MN, MS, OT, SC], [192, 256, 320, 384, w, r5, 576, 640, 704], Lg)) ((r.1, a_ov r.1 (.int r.2.1), (126, 120, L, [r.2.2.1, T, H, H2, RU, RV, ST, NS, I0, I1, I2, r.2.2.2.1, r.2.2.2.2.1, RG, GU, PU, MA, MN, MS, OT, SC], [192, 256, 320, 384, w, r.2.2.2.2.2, 576, 640, 704], Lg)) : AOut) := by
  suffices key : ∀ o : AOut, ((r.1, a_ov r.1 (.int r.2.1), (126, 120, L, [r.2.2.1, T, H, H2, RU, RV, ST, NS, I0, I1, I2, r.2.2.2.1, r.2.2.2.2.1, RG, GU, PU, MA, MN, MS, OT, SC], [192, 256, 320, 384, w, r.2.2.2.2.2, 576, 640, 704], Lg)) : AOut) = o → Ev (d + 18, 3, 24, 303, 0, [.val (.ref 64), .val (.int p1), .val (.int p2), .val (.int p3)], [], (126, 120, L, [Y, T, H, H2, RU, RV, ST, NS, I0, I1, I2, BO, FI, RG, GU, PU, MA, MN, MS, OT, SC], [192, 256, 320, 384, w, r5, 576, 640, 704], Lg)) o from key _ rfl
  intro o ho
  obtain ⟨⟨q1, Y_2⟩, zh1, h⟩ := bnd h
  have zh1 : f_Y_needMeeting Y H p1 = some (q1, Y_2) := zh1
  have ze2 := R_f_Y_needMeeting_0 (d + 16) Y T H H2 RU RV ST NS I0 I1 I2 BO FI RG GU PU MA MN MS OT SC w r5 L Lg p1 zh1
  cases q1 with
  | zero =>
    have h := itp h rfl
    suffices e : Ev (d + 18, 2, 16, 303, 5, [.val (.ref 64), .val (.int p1), .val (.int p2), .val (.int p3)], [], (126, 120, L, [Y_2, T, H, H2, RU, RV, ST, NS, I0, I1, I2, BO, FI, RG, GU, PU, MA, MN, MS, OT, SC], [192, 256, 320, 384, w, r5, 576, 640, 704], Lg)) o from ev_call (fun v μ => (d + 18, 2, 16, 303, 5, [.val (.ref 64), .val (.int p1), .val (.int p2), .val (.int p3)], v.toList ++ [], μ)) 3 ze2 e (fun n => Eq.refl _)
    obtain ⟨⟨q3, Y_4⟩, zh3, h⟩ := bnd h
    have zh3 : f_Y_needMeeting Y_2 H p3 = some (q3, Y_4) := zh3
    have ze4 := R_f_Y_needMeeting_0 (d + 16) Y_2 T H H2 RU RV ST NS I0 I1 I2 BO FI RG GU PU MA MN MS OT SC w r5 L Lg p3 zh3
    cases q3 with
    | zero =>
      have h := itp h rfl
      suffices e : Ev (d + 18, 1, 8, 303, 10, [.val (.ref 64), .val (.int p1), .val (.int p2), .val (.int p3)], [], (126, 120, L, [Y_4, T, H, H2, RU, RV, ST, NS, I0, I1, I2, BO, FI, RG, GU, PU, MA, MN, MS, OT, SC], [192, 256, 320, 384, w, r5, 576, 640, 704], Lg)) o from ev_call (fun v μ => (d + 18, 1, 8, 303, 10, [.val (.ref 64), .val (.int p1), .val (.int p2), .val (.int p3)], v.toList ++ [], μ)) 3 ze4 e (fun n => Eq.refl _)
      obtain ⟨⟨q5, Y_6⟩, zh5, h⟩ := bnd h
      have zh5 : f_Y_needHour Y_4 H p2 = some (q5, Y_6) := zh5
      have ze6 := R_f_Y_needHour_0 (d + 16) Y_4 T H H2 RU RV ST NS I0 I1 I2 BO FI RG GU PU MA MN MS OT SC w r5 L Lg p2 zh5
      cases q5 with
      | zero =>
        have h := itp h rfl
        suffices e : Ev (d + 18, 0, 0, 303, 15, [.val (.ref 64), .val (.int p1), .val (.int p2), .val (.int p3)], [], (126, 120, L, [Y_6, T, H, H2, RU, RV, ST, NS, I0, I1, I2, BO, FI, RG, GU, PU, MA, MN, MS, OT, SC], [192, 256, 320, 384, w, r5, 576, 640, 704], Lg)) o from ev_call (fun v μ => (d + 18, 0, 0, 303, 15, [.val (.ref 64), .val (.int p1), .val (.int p2), .val (.int p3)], v.toList ++ [], μ)) 3 ze6 e (fun n => Eq.refl _)
        obtain ⟨BO_8, zh7, h⟩ := bnd h
        have zh7 : f_Y_lookNow H NS BO = some BO_8 := zh7
        have ze8 := R_f_Y_lookNow_0 (d + 15) Y_6 T H H2 RU RV ST NS I0 I1 I2 BO FI RG GU PU MA MN MS OT SC w r5 L Lg zh7
        suffices e : Ev (d + 18, 0, 0, 303, 19, [.val (.ref 64), .val (.int p1), .val (.int p2), .val (.int p3)], [.ref 768], (126, 120, L, [Y_6, T, H, H2, RU, RV, ST, NS, I0, I1, I2, BO_8, FI, RG, GU, PU, MA, MN, MS, OT, SC], [192, 256, 320, 384, w, 192, 576, 640, 704], Lg)) o from ev_call (fun v μ => (d + 18, 0, 0, 303, 19, [.val (.ref 64), .val (.int p1), .val (.int p2), .val (.int p3)], v.toList ++ [], μ)) 2 ze8 e (fun n => Eq.refl _)
        obtain ⟨⟨BO_9, FI_10⟩, zh9, h⟩ := bnd h
        have zh9 : f_Fitter_search H BO_8 FI p1 p2 = some (BO_9, FI_10) := zh9
        have ze10 := R_f_Fitter_search_0 (d + 0) Y_6 T H H2 RU RV ST NS I0 I1 I2 BO_8 FI RG GU PU MA MN MS OT SC 192 256 320 384 w 576 640 704 L Lg p1 p2 zh9
        suffices e : Ev (d + 18, 0, 0, 303, 29, [.val (.ref 64), .val (.int p1), .val (.int p2), .val (.int p3)], [], (126, 120, L, [Y_6, T, H, H2, RU, RV, ST, NS, I0, I1, I2, BO_9, FI_10, RG, GU, PU, MA, MN, MS, OT, SC], [192, 256, 320, 384, w, 192, 576, 640, 704], Lg)) o from ev_call (fun v μ => (d + 18, 0, 0, 303, 29, [.val (.ref 64), .val (.int p1), .val (.int p2), .val (.int p3)], v.toList ++ [], μ)) 6 ze10 e (fun n => Eq.refl _)
        obtain ⟨x11, zh11, h⟩ := bnd h
        have zh11 : rdx (FI_10 2) 10 p3 = some x11 := zh11
        suffices e : Ev (d + 18, 0, 0, 303, 38, [.val (.ref 64), .val (.int p1), .val (.int p2), .val (.int p3)], [.int x11], (126, 120, L, [Y_6, T, H, H2, RU, RV, ST, NS, I0, I1, I2, BO_9, FI_10, RG, GU, PU, MA, MN, MS, OT, SC], [192, 256, 320, 384, w, 192, 576, 640, 704], Lg)) o from ev_opt (fun x11 => (d + 18, 0, 0, 303, 38, [.val (.ref 64), .val (.int p1), .val (.int p2), .val (.int p3)], [.int x11], (126, 120, L, [Y_6, T, H, H2, RU, RV, ST, NS, I0, I1, I2, BO_9, FI_10, RG, GU, PU, MA, MN, MS, OT, SC], [192, 256, 320, 384, w, 192, 576, 640, 704], Lg))) 5 zh11 e (fun n => Eq.refl _)
        obtain ⟨x12, zh12, h⟩ := bnd h
        have zh12 : f_Y_tenfold x11 = some x12 := zh12
        have ze13 := R_f_Y_tenfold_0 (d + 16) Y_6 T H H2 RU RV ST NS I0 I1 I2 BO_9 FI_10 RG GU PU MA MN MS OT SC 192 256 320 384 w 192 576 640 704 L Lg x11 zh12
        suffices e : Ev (d + 18, 0, 0, 303, 41, [.val (.ref 64), .val (.int p1), .val (.int p2), .val (.int p3)], [.int x12], (126, 120, L, [Y_6, T, H, H2, RU, RV, ST, NS, I0, I1, I2, BO_9, FI_10, RG, GU, PU, MA, MN, MS, OT, SC], [192, 256, 320, 384, w, 192, 576, 640, 704], Lg)) o from ev_call (fun v μ => (d + 18, 0, 0, 303, 41, [.val (.ref 64), .val (.int p1), .val (.int p2), .val (.int p3)], v.toList ++ [], μ)) 1 ze13 e (fun n => Eq.refl _)
        have ze14 := Option.some.inj h
        subst ze14
        exact ev_rete 1 ho (fun n => Eq.refl _)
      | succ q5 =>
        have h := itn h (Nat.succ_ne_zero q5)
        have ze15 := Option.some.inj h
        subst ze15
        subst ho
        exact ev_thr (fun v μ => (d + 18, 0, 0, 303, 15, [.val (.ref 64), .val (.int p1), .val (.int p2), .val (.int p3)], v.toList ++ [], μ)) 3 ze6 (fun n => Eq.refl _) (fun n => rfl)
    | succ q3 =>
      have h := itn h (Nat.succ_ne_zero q3)
      have ze16 := Option.some.inj h
      subst ze16
      subst ho
      exact ev_thr (fun v μ => (d + 18, 1, 8, 303, 10, [.val (.ref 64), .val (.int p1), .val (.int p2), .val (.int p3)], v.toList ++ [], μ)) 3 ze4 (fun n => Eq.refl _) (fun n => rfl)
  | succ q1 =>
    have h := itn h (Nat.succ_ne_zero q1)
    have ze17 := Option.some.inj h
    subst ze17
    subst ho
    exact ev_thr (fun v μ => (d + 18, 2, 16, 303, 5, [.val (.ref 64), .val (.int p1), .val (.int p2), .val (.int p3)], v.toList ++ [], μ)) 3 ze2 (fun n => Eq.refl _) (fun n => rfl)
set_option maxRecDepth 1000000 in
set_option maxHeartbeats 4000000 in
theorem R_f_Y_goes_1 (d : Nat) (Y T H H2 RV RU ST NS I0 I1 I2 BO FI RG GU PU MA MN MS OT SC : Nat → Nat → Int32) (w r5 : Nat) (L : Nat) (Lg : Int64) (p1 : Int32) (p2 : Int32) (p3 : Int32) {r : Nat × Int32 × (Nat → Nat → Int32) × (Nat → Nat → Int32) × (Nat → Nat → Int32) × Nat} (h : f_Y_goes Y H NS BO FI 192 r5 p1 p2 p3 = some r) : Ev (d + 18, 3, 24, 303, 0, [.val (.ref 64), .val (.int p1), .val (.int p2), .val (.int p3)], [], (126, 120, L, [Y, T, H, H2, RV, RU, ST, NS, I0, I1, I2, BO, FI, RG, GU, PU, MA, MN, MS, OT, SC], [192, 256, 384, 320, w, r5, 576, 640, 704], Lg)) ((r.1, a_ov r.1 (.int r.2.1), (126, 120, L, [r.2.2.1, T, H, H2, RV, RU, ST, NS, I0, I1, I2, r.2.2.2.1, r.2.2.2.2.1, RG, GU, PU, MA, MN, MS, OT, SC], [192, 256, 384, 320, w, r.2.2.2.2.2, 576, 640, 704], Lg)) : AOut) := by
  suffices key : ∀ o : AOut, ((r.1, a_ov r.1 (.int r.2.1), (126, 120, L, [r.2.2.1, T, H, H2, RV, RU, ST, NS, I0, I1, I2, r.2.2.2.1, r.2.2.2.2.1, RG, GU, PU, MA, MN, MS, OT, SC], [192, 256, 384, 320, w, r.2.2.2.2.2, 576, 640, 704], Lg)) : AOut) = o → Ev (d + 18, 3, 24, 303, 0, [.val (.ref 64), .val (.int p1), .val (.int p2), .val (.int p3)], [], (126, 120, L, [Y, T, H, H2, RV, RU, ST, NS, I0, I1, I2, BO, FI, RG, GU, PU, MA, MN, MS, OT, SC], [192, 256, 384, 320, w, r5, 576, 640, 704], Lg)) o from key _ rfl
  intro o ho
  obtain ⟨⟨q1, Y_2⟩, zh1, h⟩ := bnd h
  have zh1 : f_Y_needMeeting Y H p1 = some (q1, Y_2) := zh1
  have ze2 := R_f_Y_needMeeting_1 (d + 16) Y T H H2 RV RU ST NS I0 I1 I2 BO FI RG GU PU MA MN MS OT SC w r5 L Lg p1 zh1
  cases q1 with
  | zero =>
    have h := itp h rfl
    suffices e : Ev (d + 18, 2, 16, 303, 5, [.val (.ref 64), .val (.int p1), .val (.int p2), .val (.int p3)], [], (126, 120, L, [Y_2, T, H, H2, RV, RU, ST, NS, I0, I1, I2, BO, FI, RG, GU, PU, MA, MN, MS, OT, SC], [192, 256, 384, 320, w, r5, 576, 640, 704], Lg)) o from ev_call (fun v μ => (d + 18, 2, 16, 303, 5, [.val (.ref 64), .val (.int p1), .val (.int p2), .val (.int p3)], v.toList ++ [], μ)) 3 ze2 e (fun n => Eq.refl _)
    obtain ⟨⟨q3, Y_4⟩, zh3, h⟩ := bnd h
    have zh3 : f_Y_needMeeting Y_2 H p3 = some (q3, Y_4) := zh3
    have ze4 := R_f_Y_needMeeting_1 (d + 16) Y_2 T H H2 RV RU ST NS I0 I1 I2 BO FI RG GU PU MA MN MS OT SC w r5 L Lg p3 zh3
    cases q3 with
    | zero =>
      have h := itp h rfl
      suffices e : Ev (d + 18, 1, 8, 303, 10, [.val (.ref 64), .val (.int p1), .val (.int p2), .val (.int p3)], [], (126, 120, L, [Y_4, T, H, H2, RV, RU, ST, NS, I0, I1, I2, BO, FI, RG, GU, PU, MA, MN, MS, OT, SC], [192, 256, 384, 320, w, r5, 576, 640, 704], Lg)) o from ev_call (fun v μ => (d + 18, 1, 8, 303, 10, [.val (.ref 64), .val (.int p1), .val (.int p2), .val (.int p3)], v.toList ++ [], μ)) 3 ze4 e (fun n => Eq.refl _)
      obtain ⟨⟨q5, Y_6⟩, zh5, h⟩ := bnd h
      have zh5 : f_Y_needHour Y_4 H p2 = some (q5, Y_6) := zh5
      have ze6 := R_f_Y_needHour_1 (d + 16) Y_4 T H H2 RV RU ST NS I0 I1 I2 BO FI RG GU PU MA MN MS OT SC w r5 L Lg p2 zh5
      cases q5 with
      | zero =>
        have h := itp h rfl
        suffices e : Ev (d + 18, 0, 0, 303, 15, [.val (.ref 64), .val (.int p1), .val (.int p2), .val (.int p3)], [], (126, 120, L, [Y_6, T, H, H2, RV, RU, ST, NS, I0, I1, I2, BO, FI, RG, GU, PU, MA, MN, MS, OT, SC], [192, 256, 384, 320, w, r5, 576, 640, 704], Lg)) o from ev_call (fun v μ => (d + 18, 0, 0, 303, 15, [.val (.ref 64), .val (.int p1), .val (.int p2), .val (.int p3)], v.toList ++ [], μ)) 3 ze6 e (fun n => Eq.refl _)
        obtain ⟨BO_8, zh7, h⟩ := bnd h
        have zh7 : f_Y_lookNow H NS BO = some BO_8 := zh7
        have ze8 := R_f_Y_lookNow_1 (d + 15) Y_6 T H H2 RV RU ST NS I0 I1 I2 BO FI RG GU PU MA MN MS OT SC w r5 L Lg zh7
        suffices e : Ev (d + 18, 0, 0, 303, 19, [.val (.ref 64), .val (.int p1), .val (.int p2), .val (.int p3)], [.ref 768], (126, 120, L, [Y_6, T, H, H2, RV, RU, ST, NS, I0, I1, I2, BO_8, FI, RG, GU, PU, MA, MN, MS, OT, SC], [192, 256, 384, 320, w, 192, 576, 640, 704], Lg)) o from ev_call (fun v μ => (d + 18, 0, 0, 303, 19, [.val (.ref 64), .val (.int p1), .val (.int p2), .val (.int p3)], v.toList ++ [], μ)) 2 ze8 e (fun n => Eq.refl _)
        obtain ⟨⟨BO_9, FI_10⟩, zh9, h⟩ := bnd h
        have zh9 : f_Fitter_search H BO_8 FI p1 p2 = some (BO_9, FI_10) := zh9
        have ze10 := R_f_Fitter_search_0 (d + 0) Y_6 T H H2 RV RU ST NS I0 I1 I2 BO_8 FI RG GU PU MA MN MS OT SC 192 256 384 320 w 576 640 704 L Lg p1 p2 zh9
        suffices e : Ev (d + 18, 0, 0, 303, 29, [.val (.ref 64), .val (.int p1), .val (.int p2), .val (.int p3)], [], (126, 120, L, [Y_6, T, H, H2, RV, RU, ST, NS, I0, I1, I2, BO_9, FI_10, RG, GU, PU, MA, MN, MS, OT, SC], [192, 256, 384, 320, w, 192, 576, 640, 704], Lg)) o from ev_call (fun v μ => (d + 18, 0, 0, 303, 29, [.val (.ref 64), .val (.int p1), .val (.int p2), .val (.int p3)], v.toList ++ [], μ)) 6 ze10 e (fun n => Eq.refl _)
        obtain ⟨x11, zh11, h⟩ := bnd h
        have zh11 : rdx (FI_10 2) 10 p3 = some x11 := zh11
        suffices e : Ev (d + 18, 0, 0, 303, 38, [.val (.ref 64), .val (.int p1), .val (.int p2), .val (.int p3)], [.int x11], (126, 120, L, [Y_6, T, H, H2, RV, RU, ST, NS, I0, I1, I2, BO_9, FI_10, RG, GU, PU, MA, MN, MS, OT, SC], [192, 256, 384, 320, w, 192, 576, 640, 704], Lg)) o from ev_opt (fun x11 => (d + 18, 0, 0, 303, 38, [.val (.ref 64), .val (.int p1), .val (.int p2), .val (.int p3)], [.int x11], (126, 120, L, [Y_6, T, H, H2, RV, RU, ST, NS, I0, I1, I2, BO_9, FI_10, RG, GU, PU, MA, MN, MS, OT, SC], [192, 256, 384, 320, w, 192, 576, 640, 704], Lg))) 5 zh11 e (fun n => Eq.refl _)
        obtain ⟨x12, zh12, h⟩ := bnd h
        have zh12 : f_Y_tenfold x11 = some x12 := zh12
        have ze13 := R_f_Y_tenfold_0 (d + 16) Y_6 T H H2 RV RU ST NS I0 I1 I2 BO_9 FI_10 RG GU PU MA MN MS OT SC 192 256 384 320 w 192 576 640 704 L Lg x11 zh12
        suffices e : Ev (d + 18, 0, 0, 303, 41, [.val (.ref 64), .val (.int p1), .val (.int p2), .val (.int p3)], [.int x12], (126, 120, L, [Y_6, T, H, H2, RV, RU, ST, NS, I0, I1, I2, BO_9, FI_10, RG, GU, PU, MA, MN, MS, OT, SC], [192, 256, 384, 320, w, 192, 576, 640, 704], Lg)) o from ev_call (fun v μ => (d + 18, 0, 0, 303, 41, [.val (.ref 64), .val (.int p1), .val (.int p2), .val (.int p3)], v.toList ++ [], μ)) 1 ze13 e (fun n => Eq.refl _)
        have ze14 := Option.some.inj h
        subst ze14
        exact ev_rete 1 ho (fun n => Eq.refl _)
      | succ q5 =>
        have h := itn h (Nat.succ_ne_zero q5)
        have ze15 := Option.some.inj h
        subst ze15
        subst ho
        exact ev_thr (fun v μ => (d + 18, 0, 0, 303, 15, [.val (.ref 64), .val (.int p1), .val (.int p2), .val (.int p3)], v.toList ++ [], μ)) 3 ze6 (fun n => Eq.refl _) (fun n => rfl)
    | succ q3 =>
      have h := itn h (Nat.succ_ne_zero q3)
      have ze16 := Option.some.inj h
      subst ze16
      subst ho
      exact ev_thr (fun v μ => (d + 18, 1, 8, 303, 10, [.val (.ref 64), .val (.int p1), .val (.int p2), .val (.int p3)], v.toList ++ [], μ)) 3 ze4 (fun n => Eq.refl _) (fun n => rfl)
  | succ q1 =>
    have h := itn h (Nat.succ_ne_zero q1)
    have ze17 := Option.some.inj h
    subst ze17
    subst ho
    exact ev_thr (fun v μ => (d + 18, 2, 16, 303, 5, [.val (.ref 64), .val (.int p1), .val (.int p2), .val (.int p3)], v.toList ++ [], μ)) 3 ze2 (fun n => Eq.refl _) (fun n => rfl)
set_option maxRecDepth 1000000 in
set_option maxHeartbeats 4000000 in
theorem R_f_Y_goes_2 (d : Nat) (Y T H2 H RU RV ST NS I0 I1 I2 BO FI RG GU PU MA MN MS OT SC : Nat → Nat → Int32) (w r5 : Nat) (L : Nat) (Lg : Int64) (p1 : Int32) (p2 : Int32) (p3 : Int32) {r : Nat × Int32 × (Nat → Nat → Int32) × (Nat → Nat → Int32) × (Nat → Nat → Int32) × Nat} (h : f_Y_goes Y H NS BO FI 256 r5 p1 p2 p3 = some r) : Ev (d + 18, 3, 24, 303, 0, [.val (.ref 64), .val (.int p1), .val (.int p2), .val (.int p3)], [], (126, 120, L, [Y, T, H2, H, RU, RV, ST, NS, I0, I1, I2, BO, FI, RG, GU, PU, MA, MN, MS, OT, SC], [256, 192, 320, 384, w, r5, 576, 640, 704], Lg)) ((r.1, a_ov r.1 (.int r.2.1), (126, 120, L, [r.2.2.1, T, H2, H, RU, RV, ST, NS, I0, I1, I2, r.2.2.2.1, r.2.2.2.2.1, RG, GU, PU, MA, MN, MS, OT, SC], [256, 192, 320, 384, w, r.2.2.2.2.2, 576, 640, 704], Lg)) : AOut) := by
  suffices key : ∀ o : AOut, ((r.1, a_ov r.1 (.int r.2.1), (126, 120, L, [r.2.2.1, T, H2, H, RU, RV, ST, NS, I0, I1, I2, r.2.2.2.1, r.2.2.2.2.1, RG, GU, PU, MA, MN, MS, OT, SC], [256, 192, 320, 384, w, r.2.2.2.2.2, 576, 640, 704], Lg)) : AOut) = o → Ev (d + 18, 3, 24, 303, 0, [.val (.ref 64), .val (.int p1), .val (.int p2), .val (.int p3)], [], (126, 120, L, [Y, T, H2, H, RU, RV, ST, NS, I0, I1, I2, BO, FI, RG, GU, PU, MA, MN, MS, OT, SC], [256, 192, 320, 384, w, r5, 576, 640, 704], Lg)) o from key _ rfl
  intro o ho
  obtain ⟨⟨q1, Y_2⟩, zh1, h⟩ := bnd h
  have zh1 : f_Y_needMeeting Y H p1 = some (q1, Y_2) := zh1
  have ze2 := R_f_Y_needMeeting_2 (d + 16) Y T H2 H RU RV ST NS I0 I1 I2 BO FI RG GU PU MA MN MS OT SC w r5 L Lg p1 zh1
  cases q1 with
  | zero =>
    have h := itp h rfl
    suffices e : Ev (d + 18, 2, 16, 303, 5, [.val (.ref 64), .val (.int p1), .val (.int p2), .val (.int p3)], [], (126, 120, L, [Y_2, T, H2, H, RU, RV, ST, NS, I0, I1, I2, BO, FI, RG, GU, PU, MA, MN, MS, OT, SC], [256, 192, 320, 384, w, r5, 576, 640, 704], Lg)) o from ev_call (fun v μ => (d + 18, 2, 16, 303, 5, [.val (.ref 64), .val (.int p1), .val (.int p2), .val (.int p3)], v.toList ++ [], μ)) 3 ze2 e (fun n => Eq.refl _)
    obtain ⟨⟨q3, Y_4⟩, zh3, h⟩ := bnd h
    have zh3 : f_Y_needMeeting Y_2 H p3 = some (q3, Y_4) := zh3
    have ze4 := R_f_Y_needMeeting_2 (d + 16) Y_2 T H2 H RU RV ST NS I0 I1 I2 BO FI RG GU PU MA MN MS OT SC w r5 L Lg p3 zh3
    cases q3 with
    | zero =>
      have h := itp h rfl
      suffices e : Ev (d + 18, 1, 8, 303, 10, [.val (.ref 64), .val (.int p1), .val (.int p2), .val (.int p3)], [], (126, 120, L, [Y_4, T, H2, H, RU, RV, ST, NS, I0, I1, I2, BO, FI, RG, GU, PU, MA, MN, MS, OT, SC], [256, 192, 320, 384, w, r5, 576, 640, 704], Lg)) o from ev_call (fun v μ => (d + 18, 1, 8, 303, 10, [.val (.ref 64), .val (.int p1), .val (.int p2), .val (.int p3)], v.toList ++ [], μ)) 3 ze4 e (fun n => Eq.refl _)
      obtain ⟨⟨q5, Y_6⟩, zh5, h⟩ := bnd h
      have zh5 : f_Y_needHour Y_4 H p2 = some (q5, Y_6) := zh5
      have ze6 := R_f_Y_needHour_2 (d + 16) Y_4 T H2 H RU RV ST NS I0 I1 I2 BO FI RG GU PU MA MN MS OT SC w r5 L Lg p2 zh5
      cases q5 with
      | zero =>
        have h := itp h rfl
        suffices e : Ev (d + 18, 0, 0, 303, 15, [.val (.ref 64), .val (.int p1), .val (.int p2), .val (.int p3)], [], (126, 120, L, [Y_6, T, H2, H, RU, RV, ST, NS, I0, I1, I2, BO, FI, RG, GU, PU, MA, MN, MS, OT, SC], [256, 192, 320, 384, w, r5, 576, 640, 704], Lg)) o from ev_call (fun v μ => (d + 18, 0, 0, 303, 15, [.val (.ref 64), .val (.int p1), .val (.int p2), .val (.int p3)], v.toList ++ [], μ)) 3 ze6 e (fun n => Eq.refl _)
        obtain ⟨BO_8, zh7, h⟩ := bnd h
        have zh7 : f_Y_lookNow H NS BO = some BO_8 := zh7
        have ze8 := R_f_Y_lookNow_2 (d + 15) Y_6 T H2 H RU RV ST NS I0 I1 I2 BO FI RG GU PU MA MN MS OT SC w r5 L Lg zh7
        suffices e : Ev (d + 18, 0, 0, 303, 19, [.val (.ref 64), .val (.int p1), .val (.int p2), .val (.int p3)], [.ref 768], (126, 120, L, [Y_6, T, H2, H, RU, RV, ST, NS, I0, I1, I2, BO_8, FI, RG, GU, PU, MA, MN, MS, OT, SC], [256, 192, 320, 384, w, 256, 576, 640, 704], Lg)) o from ev_call (fun v μ => (d + 18, 0, 0, 303, 19, [.val (.ref 64), .val (.int p1), .val (.int p2), .val (.int p3)], v.toList ++ [], μ)) 2 ze8 e (fun n => Eq.refl _)
        obtain ⟨⟨BO_9, FI_10⟩, zh9, h⟩ := bnd h
        have zh9 : f_Fitter_search H BO_8 FI p1 p2 = some (BO_9, FI_10) := zh9
        have ze10 := R_f_Fitter_search_1 (d + 0) Y_6 T H2 H RU RV ST NS I0 I1 I2 BO_8 FI RG GU PU MA MN MS OT SC 256 192 320 384 w 576 640 704 L Lg p1 p2 zh9
        suffices e : Ev (d + 18, 0, 0, 303, 29, [.val (.ref 64), .val (.int p1), .val (.int p2), .val (.int p3)], [], (126, 120, L, [Y_6, T, H2, H, RU, RV, ST, NS, I0, I1, I2, BO_9, FI_10, RG, GU, PU, MA, MN, MS, OT, SC], [256, 192, 320, 384, w, 256, 576, 640, 704], Lg)) o from ev_call (fun v μ => (d + 18, 0, 0, 303, 29, [.val (.ref 64), .val (.int p1), .val (.int p2), .val (.int p3)], v.toList ++ [], μ)) 6 ze10 e (fun n => Eq.refl _)
        obtain ⟨x11, zh11, h⟩ := bnd h
        have zh11 : rdx (FI_10 2) 10 p3 = some x11 := zh11
        suffices e : Ev (d + 18, 0, 0, 303, 38, [.val (.ref 64), .val (.int p1), .val (.int p2), .val (.int p3)], [.int x11], (126, 120, L, [Y_6, T, H2, H, RU, RV, ST, NS, I0, I1, I2, BO_9, FI_10, RG, GU, PU, MA, MN, MS, OT, SC], [256, 192, 320, 384, w, 256, 576, 640, 704], Lg)) o from ev_opt (fun x11 => (d + 18, 0, 0, 303, 38, [.val (.ref 64), .val (.int p1), .val (.int p2), .val (.int p3)], [.int x11], (126, 120, L, [Y_6, T, H2, H, RU, RV, ST, NS, I0, I1, I2, BO_9, FI_10, RG, GU, PU, MA, MN, MS, OT, SC], [256, 192, 320, 384, w, 256, 576, 640, 704], Lg))) 5 zh11 e (fun n => Eq.refl _)
        obtain ⟨x12, zh12, h⟩ := bnd h
        have zh12 : f_Y_tenfold x11 = some x12 := zh12
        have ze13 := R_f_Y_tenfold_0 (d + 16) Y_6 T H2 H RU RV ST NS I0 I1 I2 BO_9 FI_10 RG GU PU MA MN MS OT SC 256 192 320 384 w 256 576 640 704 L Lg x11 zh12
        suffices e : Ev (d + 18, 0, 0, 303, 41, [.val (.ref 64), .val (.int p1), .val (.int p2), .val (.int p3)], [.int x12], (126, 120, L, [Y_6, T, H2, H, RU, RV, ST, NS, I0, I1, I2, BO_9, FI_10, RG, GU, PU, MA, MN, MS, OT, SC], [256, 192, 320, 384, w, 256, 576, 640, 704], Lg)) o from ev_call (fun v μ => (d + 18, 0, 0, 303, 41, [.val (.ref 64), .val (.int p1), .val (.int p2), .val (.int p3)], v.toList ++ [], μ)) 1 ze13 e (fun n => Eq.refl _)
        have ze14 := Option.some.inj h
        subst ze14
        exact ev_rete 1 ho (fun n => Eq.refl _)
      | succ q5 =>
        have h := itn h (Nat.succ_ne_zero q5)
        have ze15 := Option.some.inj h
        subst ze15
        subst ho
        exact ev_thr (fun v μ => (d + 18, 0, 0, 303, 15, [.val (.ref 64), .val (.int p1), .val (.int p2), .val (.int p3)], v.toList ++ [], μ)) 3 ze6 (fun n => Eq.refl _) (fun n => rfl)
    | succ q3 =>
      have h := itn h (Nat.succ_ne_zero q3)
      have ze16 := Option.some.inj h
      subst ze16
      subst ho
      exact ev_thr (fun v μ => (d + 18, 1, 8, 303, 10, [.val (.ref 64), .val (.int p1), .val (.int p2), .val (.int p3)], v.toList ++ [], μ)) 3 ze4 (fun n => Eq.refl _) (fun n => rfl)
  | succ q1 =>
    have h := itn h (Nat.succ_ne_zero q1)
    have ze17 := Option.some.inj h
    subst ze17
    subst ho
    exact ev_thr (fun v μ => (d + 18, 2, 16, 303, 5, [.val (.ref 64), .val (.int p1), .val (.int p2), .val (.int p3)], v.toList ++ [], μ)) 3 ze2 (fun n => Eq.refl _) (fun n => rfl)
set_option maxRecDepth 1000000 in
set_option maxHeartbeats 4000000 in
theorem R_f_Y_goes_3 (d : Nat) (Y T H2 H RV RU ST NS I0 I1 I2 BO FI RG GU PU MA MN MS OT SC : Nat → Nat → Int32) (w r5 : Nat) (L : Nat) (Lg : Int64) (p1 : Int32) (p2 : Int32) (p3 : Int32) {r : Nat × Int32 × (Nat → Nat → Int32) × (Nat → Nat → Int32) × (Nat → Nat → Int32) × Nat} (h : f_Y_goes Y H NS BO FI 256 r5 p1 p2 p3 = some r) : Ev (d + 18, 3, 24, 303, 0, [.val (.ref 64), .val (.int p1), .val (.int p2), .val (.int p3)], [], (126, 120, L, [Y, T, H2, H, RV, RU, ST, NS, I0, I1, I2, BO, FI, RG, GU, PU, MA, MN, MS, OT, SC], [256, 192, 384, 320, w, r5, 576, 640, 704], Lg)) ((r.1, a_ov r.1 (.int r.2.1), (126, 120, L, [r.2.2.1, T, H2, H, RV, RU, ST, NS, I0, I1, I2, r.2.2.2.1, r.2.2.2.2.1, RG, GU, PU, MA, MN, MS, OT, SC], [256, 192, 384, 320, w, r.2.2.2.2.2, 576, 640, 704], Lg)) : AOut) := by
  suffices key : ∀ o : AOut, ((r.1, a_ov r.1 (.int r.2.1), (126, 120, L, [r.2.2.1, T, H2, H, RV, RU, ST, NS, I0, I1, I2, r.2.2.2.1, r.2.2.2.2.1, RG, GU, PU, MA, MN, MS, OT, SC], [256, 192, 384, 320, w, r.2.2.2.2.2, 576, 640, 704], Lg)) : AOut) = o → Ev (d + 18, 3, 24, 303, 0, [.val (.ref 64), .val (.int p1), .val (.int p2), .val (.int p3)], [], (126, 120, L, [Y, T, H2, H, RV, RU, ST, NS, I0, I1, I2, BO, FI, RG, GU, PU, MA, MN, MS, OT, SC], [256, 192, 384, 320, w, r5, 576, 640, 704], Lg)) o from key _ rfl
  intro o ho
  obtain ⟨⟨q1, Y_2⟩, zh1, h⟩ := bnd h
  have zh1 : f_Y_needMeeting Y H p1 = some (q1, Y_2) := zh1
  have ze2 := R_f_Y_needMeeting_3 (d + 16) Y T H2 H RV RU ST NS I0 I1 I2 BO FI RG GU PU MA MN MS OT SC w r5 L Lg p1 zh1
  cases q1 with
  | zero =>
    have h := itp h rfl
    suffices e : Ev (d + 18, 2, 16, 303, 5, [.val (.ref 64), .val (.int p1), .val (.int p2), .val (.int p3)], [], (126, 120, L, [Y_2, T, H2, H, RV, RU, ST, NS, I0, I1, I2, BO, FI, RG, GU, PU, MA, MN, MS, OT, SC], [256, 192, 384, 320, w, r5, 576, 640, 704], Lg)) o from ev_call (fun v μ => (d + 18, 2, 16, 303, 5, [.val (.ref 64), .val (.int p1), .val (.int p2), .val (.int p3)], v.toList ++ [], μ)) 3 ze2 e (fun n => Eq.refl _)
    obtain ⟨⟨q3, Y_4⟩, zh3, h⟩ := bnd h
    have zh3 : f_Y_needMeeting Y_2 H p3 = some (q3, Y_4) := zh3
    have ze4 := R_f_Y_needMeeting_3 (d + 16) Y_2 T H2 H RV RU ST NS I0 I1 I2 BO FI RG GU PU MA MN MS OT SC w r5 L Lg p3 zh3
    cases q3 with
    | zero =>
      have h := itp h rfl
      suffices e : Ev (d + 18, 1, 8, 303, 10, [.val (.ref 64), .val (.int p1), .val (.int p2), .val (.int p3)], [], (126, 120, L, [Y_4, T, H2, H, RV, RU, ST, NS, I0, I1, I2, BO, FI, RG, GU, PU, MA, MN, MS, OT, SC], [256, 192, 384, 320, w, r5, 576, 640, 704], Lg)) o from ev_call (fun v μ => (d + 18, 1, 8, 303, 10, [.val (.ref 64), .val (.int p1), .val (.int p2), .val (.int p3)], v.toList ++ [], μ)) 3 ze4 e (fun n => Eq.refl _)
      obtain ⟨⟨q5, Y_6⟩, zh5, h⟩ := bnd h
      have zh5 : f_Y_needHour Y_4 H p2 = some (q5, Y_6) := zh5
      have ze6 := R_f_Y_needHour_3 (d + 16) Y_4 T H2 H RV RU ST NS I0 I1 I2 BO FI RG GU PU MA MN MS OT SC w r5 L Lg p2 zh5
      cases q5 with
      | zero =>
        have h := itp h rfl
        suffices e : Ev (d + 18, 0, 0, 303, 15, [.val (.ref 64), .val (.int p1), .val (.int p2), .val (.int p3)], [], (126, 120, L, [Y_6, T, H2, H, RV, RU, ST, NS, I0, I1, I2, BO, FI, RG, GU, PU, MA, MN, MS, OT, SC], [256, 192, 384, 320, w, r5, 576, 640, 704], Lg)) o from ev_call (fun v μ => (d + 18, 0, 0, 303, 15, [.val (.ref 64), .val (.int p1), .val (.int p2), .val (.int p3)], v.toList ++ [], μ)) 3 ze6 e (fun n => Eq.refl _)
        obtain ⟨BO_8, zh7, h⟩ := bnd h
        have zh7 : f_Y_lookNow H NS BO = some BO_8 := zh7
        have ze8 := R_f_Y_lookNow_3 (d + 15) Y_6 T H2 H RV RU ST NS I0 I1 I2 BO FI RG GU PU MA MN MS OT SC w r5 L Lg zh7
        suffices e : Ev (d + 18, 0, 0, 303, 19, [.val (.ref 64), .val (.int p1), .val (.int p2), .val (.int p3)], [.ref 768], (126, 120, L, [Y_6, T, H2, H, RV, RU, ST, NS, I0, I1, I2, BO_8, FI, RG, GU, PU, MA, MN, MS, OT, SC], [256, 192, 384, 320, w, 256, 576, 640, 704], Lg)) o from ev_call (fun v μ => (d + 18, 0, 0, 303, 19, [.val (.ref 64), .val (.int p1), .val (.int p2), .val (.int p3)], v.toList ++ [], μ)) 2 ze8 e (fun n => Eq.refl _)
        obtain ⟨⟨BO_9, FI_10⟩, zh9, h⟩ := bnd h
        have zh9 : f_Fitter_search H BO_8 FI p1 p2 = some (BO_9, FI_10) := zh9
        have ze10 := R_f_Fitter_search_1 (d + 0) Y_6 T H2 H RV RU ST NS I0 I1 I2 BO_8 FI RG GU PU MA MN MS OT SC 256 192 384 320 w 576 640 704 L Lg p1 p2 zh9
        suffices e : Ev (d + 18, 0, 0, 303, 29, [.val (.ref 64), .val (.int p1), .val (.int p2), .val (.int p3)], [], (126, 120, L, [Y_6, T, H2, H, RV, RU, ST, NS, I0, I1, I2, BO_9, FI_10, RG, GU, PU, MA, MN, MS, OT, SC], [256, 192, 384, 320, w, 256, 576, 640, 704], Lg)) o from ev_call (fun v μ => (d + 18, 0, 0, 303, 29, [.val (.ref 64), .val (.int p1), .val (.int p2), .val (.int p3)], v.toList ++ [], μ)) 6 ze10 e (fun n => Eq.refl _)
        obtain ⟨x11, zh11, h⟩ := bnd h
        have zh11 : rdx (FI_10 2) 10 p3 = some x11 := zh11
        suffices e : Ev (d + 18, 0, 0, 303, 38, [.val (.ref 64), .val (.int p1), .val (.int p2), .val (.int p3)], [.int x11], (126, 120, L, [Y_6, T, H2, H, RV, RU, ST, NS, I0, I1, I2, BO_9, FI_10, RG, GU, PU, MA, MN, MS, OT, SC], [256, 192, 384, 320, w, 256, 576, 640, 704], Lg)) o from ev_opt (fun x11 => (d + 18, 0, 0, 303, 38, [.val (.ref 64), .val (.int p1), .val (.int p2), .val (.int p3)], [.int x11], (126, 120, L, [Y_6, T, H2, H, RV, RU, ST, NS, I0, I1, I2, BO_9, FI_10, RG, GU, PU, MA, MN, MS, OT, SC], [256, 192, 384, 320, w, 256, 576, 640, 704], Lg))) 5 zh11 e (fun n => Eq.refl _)
        obtain ⟨x12, zh12, h⟩ := bnd h
        have zh12 : f_Y_tenfold x11 = some x12 := zh12
        have ze13 := R_f_Y_tenfold_0 (d + 16) Y_6 T H2 H RV RU ST NS I0 I1 I2 BO_9 FI_10 RG GU PU MA MN MS OT SC 256 192 384 320 w 256 576 640 704 L Lg x11 zh12
        suffices e : Ev (d + 18, 0, 0, 303, 41, [.val (.ref 64), .val (.int p1), .val (.int p2), .val (.int p3)], [.int x12], (126, 120, L, [Y_6, T, H2, H, RV, RU, ST, NS, I0, I1, I2, BO_9, FI_10, RG, GU, PU, MA, MN, MS, OT, SC], [256, 192, 384, 320, w, 256, 576, 640, 704], Lg)) o from ev_call (fun v μ => (d + 18, 0, 0, 303, 41, [.val (.ref 64), .val (.int p1), .val (.int p2), .val (.int p3)], v.toList ++ [], μ)) 1 ze13 e (fun n => Eq.refl _)
        have ze14 := Option.some.inj h
        subst ze14
        exact ev_rete 1 ho (fun n => Eq.refl _)
      | succ q5 =>
        have h := itn h (Nat.succ_ne_zero q5)
        have ze15 := Option.some.inj h
        subst ze15
        subst ho
        exact ev_thr (fun v μ => (d + 18, 0, 0, 303, 15, [.val (.ref 64), .val (.int p1), .val (.int p2), .val (.int p3)], v.toList ++ [], μ)) 3 ze6 (fun n => Eq.refl _) (fun n => rfl)
    | succ q3 =>
      have h := itn h (Nat.succ_ne_zero q3)
      have ze16 := Option.some.inj h
      subst ze16
      subst ho
      exact ev_thr (fun v μ => (d + 18, 1, 8, 303, 10, [.val (.ref 64), .val (.int p1), .val (.int p2), .val (.int p3)], v.toList ++ [], μ)) 3 ze4 (fun n => Eq.refl _) (fun n => rfl)
  | succ q1 =>
    have h := itn h (Nat.succ_ne_zero q1)
    have ze17 := Option.some.inj h
    subst ze17
    subst ho
    exact ev_thr (fun v μ => (d + 18, 2, 16, 303, 5, [.val (.ref 64), .val (.int p1), .val (.int p2), .val (.int p3)], v.toList ++ [], μ)) 3 ze2 (fun n => Eq.refl _) (fun n => rfl)
set_option maxRecDepth 1000000 in
set_option maxHeartbeats 4000000 in
theorem R_f_Y_hours_0 (d : Nat) (Y T H H2 RU RV ST NS I0 I1 I2 BO FI RG GU PU MA MN MS OT SC : Nat → Nat → Int32) (w r5 : Nat) (L : Nat) (Lg : Int64) (p1 : Int32) {r : Nat × Int32 × (Nat → Nat → Int32) × (Nat → Nat → Int32) × (Nat → Nat → Int32) × Nat} (h : f_Y_hours Y H NS BO FI 192 r5 p1 = some r) : Ev (d + 18, 1, 8, 304, 0, [.val (.ref 64), .val (.int p1), .val a_unk, .val a_unk], [], (126, 120, L, [Y, T, H, H2, RU, RV, ST, NS, I0, I1, I2, BO, FI, RG, GU, PU, MA, MN, MS, OT, SC], [192, 256, 320, 384, w, r5, 576, 640, 704], Lg)) ((r.1, a_ov r.1 (.int r.2.1), (126, 120, L, [r.2.2.1, T, H, H2, RU, RV, ST, NS, I0, I1, I2, r.2.2.2.1, r.2.2.2.2.1, RG, GU, PU, MA, MN, MS, OT, SC], [192, 256, 320, 384, w, r.2.2.2.2.2, 576, 640, 704], Lg)) : AOut) := by
  suffices key : ∀ o : AOut, ((r.1, a_ov r.1 (.int r.2.1), (126, 120, L, [r.2.2.1, T, H, H2, RU, RV, ST, NS, I0, I1, I2, r.2.2.2.1, r.2.2.2.2.1, RG, GU, PU, MA, MN, MS, OT, SC], [192, 256, 320, 384, w, r.2.2.2.2.2, 576, 640, 704], Lg)) : AOut) = o → Ev (d + 18, 1, 8, 304, 0, [.val (.ref 64), .val (.int p1), .val a_unk, .val a_unk], [], (126, 120, L, [Y, T, H, H2, RU, RV, ST, NS, I0, I1, I2, BO, FI, RG, GU, PU, MA, MN, MS, OT, SC], [192, 256, 320, 384, w, r5, 576, 640, 704], Lg)) o from key _ rfl
  intro o ho
  obtain ⟨⟨q1, Y_2⟩, zh1, h⟩ := bnd h
  have zh1 : f_Y_needMeeting Y H p1 = some (q1, Y_2) := zh1
  have ze2 := R_f_Y_needMeeting_0 (d + 16) Y T H H2 RU RV ST NS I0 I1 I2 BO FI RG GU PU MA MN MS OT SC w r5 L Lg p1 zh1
  cases q1 with
  | zero =>
    have h := itp h rfl
    suffices e : Ev (d + 18, 0, 0, 304, 5, [.val (.ref 64), .val (.int p1), .val a_unk, .val a_unk], [], (126, 120, L, [Y_2, T, H, H2, RU, RV, ST, NS, I0, I1, I2, BO, FI, RG, GU, PU, MA, MN, MS, OT, SC], [192, 256, 320, 384, w, r5, 576, 640, 704], Lg)) o from ev_call (fun v μ => (d + 18, 0, 0, 304, 5, [.val (.ref 64), .val (.int p1), .val a_unk, .val a_unk], v.toList ++ [], μ)) 3 ze2 e (fun n => Eq.refl _)
    obtain ⟨BO_4, zh3, h⟩ := bnd h
    have zh3 : f_Y_lookNow H NS BO = some BO_4 := zh3
    have ze4 := R_f_Y_lookNow_0 (d + 15) Y_2 T H H2 RU RV ST NS I0 I1 I2 BO FI RG GU PU MA MN MS OT SC w r5 L Lg zh3
    suffices e : Ev (d + 18, 0, 0, 304, 9, [.val (.ref 64), .val (.int p1), .val a_unk, .val a_unk], [.ref 768], (126, 120, L, [Y_2, T, H, H2, RU, RV, ST, NS, I0, I1, I2, BO_4, FI, RG, GU, PU, MA, MN, MS, OT, SC], [192, 256, 320, 384, w, 192, 576, 640, 704], Lg)) o from ev_call (fun v μ => (d + 18, 0, 0, 304, 9, [.val (.ref 64), .val (.int p1), .val a_unk, .val a_unk], v.toList ++ [], μ)) 2 ze4 e (fun n => Eq.refl _)
    obtain ⟨zb5, zh6, h⟩ := bnd h
    suffices e : Ev (d + 18, 0, 0, 304, 14, [.val (.ref 64), .val (.int p1), .val (.int 0), .val (.int 0)], [], (126, 120, L, [Y_2, T, H, H2, RU, RV, ST, NS, I0, I1, I2, BO_4, FI, RG, GU, PU, MA, MN, MS, OT, SC], [192, 256, 320, 384, w, 192, 576, 640, 704], Lg)) o from ev_b 5 e (fun n => Eq.refl _)
    refine ev_loop (δ := Unit) (fun a j => (d + 18, 0, 0, 304, 14, [.val (.ref 64), .val (.int p1), .val (.int a.1), .val (.int a.2.1)], [], (126, 120, L, [Y_2, T, H, H2, RU, RV, ST, NS, I0, I1, I2, a.2.2.1, a.2.2.2, RG, GU, PU, MA, MN, MS, OT, SC], [192, 256, 320, 384, w, 192, 576, 640, 704], Lg))) (fun b => ∀ s12 : Value, Ev (d + 18, 0, 0, 304, 54, [.val (.ref 64), .val (.int p1), .val (.int b.1), .val s12], [], (126, 120, L, [Y_2, T, H, H2, RU, RV, ST, NS, I0, I1, I2, b.2.1, b.2.2, RG, GU, PU, MA, MN, MS, OT, SC], [192, 256, 320, 384, w, 192, 576, 640, 704], Lg)) o) ?_ a_F (0, 0, BO_4, FI) zb5 zh6 ?_ ()
    · rintro ⟨v5, v6, BO_7, FI_8⟩ zr10 zh9 zi7 zx8 ⟨⟩
      have zh9 : f_Y_hours_l14 H p1 v5 v6 BO_7 FI_8 = some zr10 := zh9
      suffices e : Ev (d + 18, 0, 0, 304, 19, [.val (.ref 64), .val (.int p1), .val (.int v5), .val (.int v6)], [.ref 192, .int v6], (126, 120, L, [Y_2, T, H, H2, RU, RV, ST, NS, I0, I1, I2, BO_7, FI_8, RG, GU, PU, MA, MN, MS, OT, SC], [192, 256, 320, 384, w, 192, 576, 640, 704], Lg)) o from ev_b 3 e (fun n => Eq.refl _)
      by_cases zc11 : (H 0 0) ≤ v6
      · have zh9 := itp zh9 zc11
        suffices e : Ev (d + 18, 0, 0, 304, 54, [.val (.ref 64), .val (.int p1), .val (.int v5), .val (.int v6)], [], (126, 120, L, [Y_2, T, H, H2, RU, RV, ST, NS, I0, I1, I2, BO_7, FI_8, RG, GU, PU, MA, MN, MS, OT, SC], [192, 256, 320, 384, w, 192, 576, 640, 704], Lg)) o from ev_t (c := (H 0 0) ≤ v6) _ _ 2  zc11 e (fun n => Eq.refl _)
        exact ev_b 0 (zx8 _ (Option.some.inj zh9).symm (.int v6)) (fun n => Eq.refl _)
      · have zh9 := itn zh9 zc11
        suffices e : Ev (d + 18, 0, 0, 304, 25, [.val (.ref 64), .val (.int p1), .val (.int v5), .val (.int v6)], [], (126, 120, L, [Y_2, T, H, H2, RU, RV, ST, NS, I0, I1, I2, BO_7, FI_8, RG, GU, PU, MA, MN, MS, OT, SC], [192, 256, 320, 384, w, 192, 576, 640, 704], Lg)) o from ev_f (c := (H 0 0) ≤ v6) _ _ 2  zc11 e (fun n => Eq.refl _)
        obtain ⟨⟨BO_9, FI_10⟩, zh12, zh9⟩ := bnd zh9
        have zh12 : f_Fitter_search H BO_7 FI_8 p1 v6 = some (BO_9, FI_10) := zh12
        have ze13 := R_f_Fitter_search_0 (d + 0) Y_2 T H H2 RU RV ST NS I0 I1 I2 BO_7 FI_8 RG GU PU MA MN MS OT SC 192 256 320 384 w 576 640 704 L Lg p1 v6 zh12
        suffices e : Ev (d + 18, 0, 0, 304, 34, [.val (.ref 64), .val (.int p1), .val (.int v5), .val (.int v6)], [], (126, 120, L, [Y_2, T, H, H2, RU, RV, ST, NS, I0, I1, I2, BO_9, FI_10, RG, GU, PU, MA, MN, MS, OT, SC], [192, 256, 320, 384, w, 192, 576, 640, 704], Lg)) o from ev_call (fun v μ => (d + 18, 0, 0, 304, 34, [.val (.ref 64), .val (.int p1), .val (.int v5), .val (.int v6)], v.toList ++ [], μ)) 5 ze13 e (fun n => Eq.refl _)
        by_cases zc14 : (FI_10 0 8) = (-1)
        · have zh9 := itp zh9 zc14
          suffices e : Ev (d + 18, 0, 0, 304, 48, [.val (.ref 64), .val (.int p1), .val (.int v5), .val (.int v6)], [], (126, 120, L, [Y_2, T, H, H2, RU, RV, ST, NS, I0, I1, I2, BO_9, FI_10, RG, GU, PU, MA, MN, MS, OT, SC], [192, 256, 320, 384, w, 192, 576, 640, 704], Lg)) o from ev_t (c := (FI_10 0 8) = (-1)) _ _ 5  zc14 e (fun n => Eq.refl _)
          exact ev_b 2 (zi7 _ (Option.some.inj zh9).symm ()) (fun n => Eq.refl _)
        · have zh9 := itn zh9 zc14
          suffices e : Ev (d + 18, 0, 0, 304, 45, [.val (.ref 64), .val (.int p1), .val (.int v5), .val (.int v6)], [], (126, 120, L, [Y_2, T, H, H2, RU, RV, ST, NS, I0, I1, I2, BO_9, FI_10, RG, GU, PU, MA, MN, MS, OT, SC], [192, 256, 320, 384, w, 192, 576, 640, 704], Lg)) o from ev_f (c := (FI_10 0 8) = (-1)) _ _ 5  zc14 e (fun n => Eq.refl _)
          exact ev_b 3 (zi7 _ (Option.some.inj zh9).symm ()) (fun n => Eq.refl _)
    · obtain ⟨v11, BO_13, FI_14⟩ := zb5
      intro s12
      have ze15 := Option.some.inj h
      subst ze15
      exact ev_rete 2 ho (fun n => Eq.refl _)
  | succ q1 =>
    have h := itn h (Nat.succ_ne_zero q1)
    have ze16 := Option.some.inj h
    subst ze16
    subst ho
    exact ev_thr (fun v μ => (d + 18, 0, 0, 304, 5, [.val (.ref 64), .val (.int p1), .val a_unk, .val a_unk], v.toList ++ [], μ)) 3 ze2 (fun n => Eq.refl _) (fun n => rfl)
set_option maxRecDepth 1000000 in
set_option maxHeartbeats 4000000 in
theorem R_f_Y_hours_1 (d : Nat) (Y T H H2 RV RU ST NS I0 I1 I2 BO FI RG GU PU MA MN MS OT SC : Nat → Nat → Int32) (w r5 : Nat) (L : Nat) (Lg : Int64) (p1 : Int32) {r : Nat × Int32 × (Nat → Nat → Int32) × (Nat → Nat → Int32) × (Nat → Nat → Int32) × Nat} (h : f_Y_hours Y H NS BO FI 192 r5 p1 = some r) : Ev (d + 18, 1, 8, 304, 0, [.val (.ref 64), .val (.int p1), .val a_unk, .val a_unk], [], (126, 120, L, [Y, T, H, H2, RV, RU, ST, NS, I0, I1, I2, BO, FI, RG, GU, PU, MA, MN, MS, OT, SC], [192, 256, 384, 320, w, r5, 576, 640, 704], Lg)) ((r.1, a_ov r.1 (.int r.2.1), (126, 120, L, [r.2.2.1, T, H, H2, RV, RU, ST, NS, I0, I1, I2, r.2.2.2.1, r.2.2.2.2.1, RG, GU, PU, MA, MN, MS, OT, SC], [192, 256, 384, 320, w, r.2.2.2.2.2, 576, 640, 704], Lg)) : AOut) := by
  suffices key : ∀ o : AOut, ((r.1, a_ov r.1 (.int r.2.1), (126, 120, L, [r.2.2.1, T, H, H2, RV, RU, ST, NS, I0, I1, I2, r.2.2.2.1, r.2.2.2.2.1, RG, GU, PU, MA, MN, MS, OT, SC], [192, 256, 384, 320, w, r.2.2.2.2.2, 576, 640, 704], Lg)) : AOut) = o → Ev (d + 18, 1, 8, 304, 0, [.val (.ref 64), .val (.int p1), .val a_unk, .val a_unk], [], (126, 120, L, [Y, T, H, H2, RV, RU, ST, NS, I0, I1, I2, BO, FI, RG, GU, PU, MA, MN, MS, OT, SC], [192, 256, 384, 320, w, r5, 576, 640, 704], Lg)) o from key _ rfl
  intro o ho
  obtain ⟨⟨q1, Y_2⟩, zh1, h⟩ := bnd h
  have zh1 : f_Y_needMeeting Y H p1 = some (q1, Y_2) := zh1
  have ze2 := R_f_Y_needMeeting_1 (d + 16) Y T H H2 RV RU ST NS I0 I1 I2 BO FI RG GU PU MA MN MS OT SC w r5 L Lg p1 zh1
  cases q1 with
  | zero =>
    have h := itp h rfl
    suffices e : Ev (d + 18, 0, 0, 304, 5, [.val (.ref 64), .val (.int p1), .val a_unk, .val a_unk], [], (126, 120, L, [Y_2, T, H, H2, RV, RU, ST, NS, I0, I1, I2, BO, FI, RG, GU, PU, MA, MN, MS, OT, SC], [192, 256, 384, 320, w, r5, 576, 640, 704], Lg)) o from ev_call (fun v μ => (d + 18, 0, 0, 304, 5, [.val (.ref 64), .val (.int p1), .val a_unk, .val a_unk], v.toList ++ [], μ)) 3 ze2 e (fun n => Eq.refl _)
    obtain ⟨BO_4, zh3, h⟩ := bnd h
    have zh3 : f_Y_lookNow H NS BO = some BO_4 := zh3
    have ze4 := R_f_Y_lookNow_1 (d + 15) Y_2 T H H2 RV RU ST NS I0 I1 I2 BO FI RG GU PU MA MN MS OT SC w r5 L Lg zh3
    suffices e : Ev (d + 18, 0, 0, 304, 9, [.val (.ref 64), .val (.int p1), .val a_unk, .val a_unk], [.ref 768], (126, 120, L, [Y_2, T, H, H2, RV, RU, ST, NS, I0, I1, I2, BO_4, FI, RG, GU, PU, MA, MN, MS, OT, SC], [192, 256, 384, 320, w, 192, 576, 640, 704], Lg)) o from ev_call (fun v μ => (d + 18, 0, 0, 304, 9, [.val (.ref 64), .val (.int p1), .val a_unk, .val a_unk], v.toList ++ [], μ)) 2 ze4 e (fun n => Eq.refl _)
    obtain ⟨zb5, zh6, h⟩ := bnd h
    suffices e : Ev (d + 18, 0, 0, 304, 14, [.val (.ref 64), .val (.int p1), .val (.int 0), .val (.int 0)], [], (126, 120, L, [Y_2, T, H, H2, RV, RU, ST, NS, I0, I1, I2, BO_4, FI, RG, GU, PU, MA, MN, MS, OT, SC], [192, 256, 384, 320, w, 192, 576, 640, 704], Lg)) o from ev_b 5 e (fun n => Eq.refl _)
    refine ev_loop (δ := Unit) (fun a j => (d + 18, 0, 0, 304, 14, [.val (.ref 64), .val (.int p1), .val (.int a.1), .val (.int a.2.1)], [], (126, 120, L, [Y_2, T, H, H2, RV, RU, ST, NS, I0, I1, I2, a.2.2.1, a.2.2.2, RG, GU, PU, MA, MN, MS, OT, SC], [192, 256, 384, 320, w, 192, 576, 640, 704], Lg))) (fun b => ∀ s12 : Value, Ev (d + 18, 0, 0, 304, 54, [.val (.ref 64), .val (.int p1), .val (.int b.1), .val s12], [], (126, 120, L, [Y_2, T, H, H2, RV, RU, ST, NS, I0, I1, I2, b.2.1, b.2.2, RG, GU, PU, MA, MN, MS, OT, SC], [192, 256, 384, 320, w, 192, 576, 640, 704], Lg)) o) ?_ a_F (0, 0, BO_4, FI) zb5 zh6 ?_ ()
    · rintro ⟨v5, v6, BO_7, FI_8⟩ zr10 zh9 zi7 zx8 ⟨⟩
      have zh9 : f_Y_hours_l14 H p1 v5 v6 BO_7 FI_8 = some zr10 := zh9
      suffices e : Ev (d + 18, 0, 0, 304, 19, [.val (.ref 64), .val (.int p1), .val (.int v5), .val (.int v6)], [.ref 192, .int v6], (126, 120, L, [Y_2, T, H, H2, RV, RU, ST, NS, I0, I1, I2, BO_7, FI_8, RG, GU, PU, MA, MN, MS, OT, SC], [192, 256, 384, 320, w, 192, 576, 640, 704], Lg)) o from ev_b 3 e (fun n => Eq.refl _)
      by_cases zc11 : (H 0 0) ≤ v6
      · have zh9 := itp zh9 zc11
        suffices e : Ev (d + 18, 0, 0, 304, 54, [.val (.ref 64), .val (.int p1), .val (.int v5), .val (.int v6)], [], (126, 120, L, [Y_2, T, H, H2, RV, RU, ST, NS, I0, I1, I2, BO_7, FI_8, RG, GU, PU, MA, MN, MS, OT, SC], [192, 256, 384, 320, w, 192, 576, 640, 704], Lg)) o from ev_t (c := (H 0 0) ≤ v6) _ _ 2  zc11 e (fun n => Eq.refl _)
        exact ev_b 0 (zx8 _ (Option.some.inj zh9).symm (.int v6)) (fun n => Eq.refl _)
      · have zh9 := itn zh9 zc11
        suffices e : Ev (d + 18, 0, 0, 304, 25, [.val (.ref 64), .val (.int p1), .val (.int v5), .val (.int v6)], [], (126, 120, L, [Y_2, T, H, H2, RV, RU, ST, NS, I0, I1, I2, BO_7, FI_8, RG, GU, PU, MA, MN, MS, OT, SC], [192, 256, 384, 320, w, 192, 576, 640, 704], Lg)) o from ev_f (c := (H 0 0) ≤ v6) _ _ 2  zc11 e (fun n => Eq.refl _)
        obtain ⟨⟨BO_9, FI_10⟩, zh12, zh9⟩ := bnd zh9
        have zh12 : f_Fitter_search H BO_7 FI_8 p1 v6 = some (BO_9, FI_10) := zh12
        have ze13 := R_f_Fitter_search_0 (d + 0) Y_2 T H H2 RV RU ST NS I0 I1 I2 BO_7 FI_8 RG GU PU MA MN MS OT SC 192 256 384 320 w 576 640 704 L Lg p1 v6 zh12
        suffices e : Ev (d + 18, 0, 0, 304, 34, [.val (.ref 64), .val (.int p1), .val (.int v5), .val (.int v6)], [], (126, 120, L, [Y_2, T, H, H2, RV, RU, ST, NS, I0, I1, I2, BO_9, FI_10, RG, GU, PU, MA, MN, MS, OT, SC], [192, 256, 384, 320, w, 192, 576, 640, 704], Lg)) o from ev_call (fun v μ => (d + 18, 0, 0, 304, 34, [.val (.ref 64), .val (.int p1), .val (.int v5), .val (.int v6)], v.toList ++ [], μ)) 5 ze13 e (fun n => Eq.refl _)
        by_cases zc14 : (FI_10 0 8) = (-1)
        · have zh9 := itp zh9 zc14
          suffices e : Ev (d + 18, 0, 0, 304, 48, [.val (.ref 64), .val (.int p1), .val (.int v5), .val (.int v6)], [], (126, 120, L, [Y_2, T, H, H2, RV, RU, ST, NS, I0, I1, I2, BO_9, FI_10, RG, GU, PU, MA, MN, MS, OT, SC], [192, 256, 384, 320, w, 192, 576, 640, 704], Lg)) o from ev_t (c := (FI_10 0 8) = (-1)) _ _ 5  zc14 e (fun n => Eq.refl _)
          exact ev_b 2 (zi7 _ (Option.some.inj zh9).symm ()) (fun n => Eq.refl _)
        · have zh9 := itn zh9 zc14
          suffices e : Ev (d + 18, 0, 0, 304, 45, [.val (.ref 64), .val (.int p1), .val (.int v5), .val (.int v6)], [], (126, 120, L, [Y_2, T, H, H2, RV, RU, ST, NS, I0, I1, I2, BO_9, FI_10, RG, GU, PU, MA, MN, MS, OT, SC], [192, 256, 384, 320, w, 192, 576, 640, 704], Lg)) o from ev_f (c := (FI_10 0 8) = (-1)) _ _ 5  zc14 e (fun n => Eq.refl _)
          exact ev_b 3 (zi7 _ (Option.some.inj zh9).symm ()) (fun n => Eq.refl _)
    · obtain ⟨v11, BO_13, FI_14⟩ := zb5
      intro s12
      have ze15 := Option.some.inj h
      subst ze15
      exact ev_rete 2 ho (fun n => Eq.refl _)
  | succ q1 =>
    have h := itn h (Nat.succ_ne_zero q1)
    have ze16 := Option.some.inj h
    subst ze16
    subst ho
    exact ev_thr (fun v μ => (d + 18, 0, 0, 304, 5, [.val (.ref 64), .val (.int p1), .val a_unk, .val a_unk], v.toList ++ [], μ)) 3 ze2 (fun n => Eq.refl _) (fun n => rfl)
set_option maxRecDepth 1000000 in
set_option maxHeartbeats 4000000 in
theorem R_f_Y_hours_2 (d : Nat) (Y T H2 H RU RV ST NS I0 I1 I2 BO FI RG GU PU MA MN MS OT SC : Nat → Nat → Int32) (w r5 : Nat) (L : Nat) (Lg : Int64) (p1 : Int32) {r : Nat × Int32 × (Nat → Nat → Int32) × (Nat → Nat → Int32) × (Nat → Nat → Int32) × Nat} (h : f_Y_hours Y H NS BO FI 256 r5 p1 = some r) : Ev (d + 18, 1, 8, 304, 0, [.val (.ref 64), .val (.int p1), .val a_unk, .val a_unk], [], (126, 120, L, [Y, T, H2, H, RU, RV, ST, NS, I0, I1, I2, BO, FI, RG, GU, PU, MA, MN, MS, OT, SC], [256, 192, 320, 384, w, r5, 576, 640, 704], Lg)) ((r.1, a_ov r.1 (.int r.2.1), (126, 120, L, [r.2.2.1, T, H2, H, RU, RV, ST, NS, I0, I1, I2, r.2.2.2.1, r.2.2.2.2.1, RG, GU, PU, MA, MN, MS, OT, SC], [256, 192, 320, 384, w, r.2.2.2.2.2, 576, 640, 704], Lg)) : AOut) := by
  suffices key : ∀ o : AOut, ((r.1, a_ov r.1 (.int r.2.1), (126, 120, L, [r.2.2.1, T, H2, H, RU, RV, ST, NS, I0, I1, I2, r.2.2.2.1, r.2.2.2.2.1, RG, GU, PU, MA, MN, MS, OT, SC], [256, 192, 320, 384, w, r.2.2.2.2.2, 576, 640, 704], Lg)) : AOut) = o → Ev (d + 18, 1, 8, 304, 0, [.val (.ref 64), .val (.int p1), .val a_unk, .val a_unk], [], (126, 120, L, [Y, T, H2, H, RU, RV, ST, NS, I0, I1, I2, BO, FI, RG, GU, PU, MA, MN, MS, OT, SC], [256, 192, 320, 384, w, r5, 576, 640, 704], Lg)) o from key _ rfl
  intro o ho
  obtain ⟨⟨q1, Y_2⟩, zh1, h⟩ := bnd h
  have zh1 : f_Y_needMeeting Y H p1 = some (q1, Y_2) := zh1
  have ze2 := R_f_Y_needMeeting_2 (d + 16) Y T H2 H RU RV ST NS I0 I1 I2 BO FI RG GU PU MA MN MS OT SC w r5 L Lg p1 zh1
  cases q1 with
  | zero =>
    have h := itp h rfl
    suffices e : Ev (d + 18, 0, 0, 304, 5, [.val (.ref 64), .val (.int p1), .val a_unk, .val a_unk], [], (126, 120, L, [Y_2, T, H2, H, RU, RV, ST, NS, I0, I1, I2, BO, FI, RG, GU, PU, MA, MN, MS, OT, SC], [256, 192, 320, 384, w, r5, 576, 640, 704], Lg)) o from ev_call (fun v μ => (d + 18, 0, 0, 304, 5, [.val (.ref 64), .val (.int p1), .val a_unk, .val a_unk], v.toList ++ [], μ)) 3 ze2 e (fun n => Eq.refl _)
    obtain ⟨BO_4, zh3, h⟩ := bnd h
    have zh3 : f_Y_lookNow H NS BO = some BO_4 := zh3
    have ze4 := R_f_Y_lookNow_2 (d + 15) Y_2 T H2 H RU RV ST NS I0 I1 I2 BO FI RG GU PU MA MN MS OT SC w r5 L Lg zh3
    suffices e : Ev (d + 18, 0, 0, 304, 9, [.val (.ref 64), .val (.int p1), .val a_unk, .val a_unk], [.ref 768], (126, 120, L, [Y_2, T, H2, H, RU, RV, ST, NS, I0, I1, I2, BO_4, FI, RG, GU, PU, MA, MN, MS, OT, SC], [256, 192, 320, 384, w, 256, 576, 640, 704], Lg)) o from ev_call (fun v μ => (d + 18, 0, 0, 304, 9, [.val (.ref 64), .val (.int p1), .val a_unk, .val a_unk], v.toList ++ [], μ)) 2 ze4 e (fun n => Eq.refl _)
    obtain ⟨zb5, zh6, h⟩ := bnd h
    suffices e : Ev (d + 18, 0, 0, 304, 14, [.val (.ref 64), .val (.int p1), .val (.int 0), .val (.int 0)], [], (126, 120, L, [Y_2, T, H2, H, RU, RV, ST, NS, I0, I1, I2, BO_4, FI, RG, GU, PU, MA, MN, MS, OT, SC], [256, 192, 320, 384, w, 256, 576, 640, 704], Lg)) o from ev_b 5 e (fun n => Eq.refl _)
    refine ev_loop (δ := Unit) (fun a j => (d + 18, 0, 0, 304, 14, [.val (.ref 64), .val (.int p1), .val (.int a.1), .val (.int a.2.1)], [], (126, 120, L, [Y_2, T, H2, H, RU, RV, ST, NS, I0, I1, I2, a.2.2.1, a.2.2.2, RG, GU, PU, MA, MN, MS, OT, SC], [256, 192, 320, 384, w, 256, 576, 640, 704], Lg))) (fun b => ∀ s12 : Value, Ev (d + 18, 0, 0, 304, 54, [.val (.ref 64), .val (.int p1), .val (.int b.1), .val s12], [], (126, 120, L, [Y_2, T, H2, H, RU, RV, ST, NS, I0, I1, I2, b.2.1, b.2.2, RG, GU, PU, MA, MN, MS, OT, SC], [256, 192, 320, 384, w, 256, 576, 640, 704], Lg)) o) ?_ a_F (0, 0, BO_4, FI) zb5 zh6 ?_ ()
    · rintro ⟨v5, v6, BO_7, FI_8⟩ zr10 zh9 zi7 zx8 ⟨⟩
      have zh9 : f_Y_hours_l14 H p1 v5 v6 BO_7 FI_8 = some zr10 := zh9
      suffices e : Ev (d + 18, 0, 0, 304, 19, [.val (.ref 64), .val (.int p1), .val (.int v5), .val (.int v6)], [.ref 256, .int v6], (126, 120, L, [Y_2, T, H2, H, RU, RV, ST, NS, I0, I1, I2, BO_7, FI_8, RG, GU, PU, MA, MN, MS, OT, SC], [256, 192, 320, 384, w, 256, 576, 640, 704], Lg)) o from ev_b 3 e (fun n => Eq.refl _)
      by_cases zc11 : (H 0 0) ≤ v6
      · have zh9 := itp zh9 zc11
        suffices e : Ev (d + 18, 0, 0, 304, 54, [.val (.ref 64), .val (.int p1), .val (.int v5), .val (.int v6)], [], (126, 120, L, [Y_2, T, H2, H, RU, RV, ST, NS, I0, I1, I2, BO_7, FI_8, RG, GU, PU, MA, MN, MS, OT, SC], [256, 192, 320, 384, w, 256, 576, 640, 704], Lg)) o from ev_t (c := (H 0 0) ≤ v6) _ _ 2  zc11 e (fun n => Eq.refl _)
        exact ev_b 0 (zx8 _ (Option.some.inj zh9).symm (.int v6)) (fun n => Eq.refl _)
      · have zh9 := itn zh9 zc11
        suffices e : Ev (d + 18, 0, 0, 304, 25, [.val (.ref 64), .val (.int p1), .val (.int v5), .val (.int v6)], [], (126, 120, L, [Y_2, T, H2, H, RU, RV, ST, NS, I0, I1, I2, BO_7, FI_8, RG, GU, PU, MA, MN, MS, OT, SC], [256, 192, 320, 384, w, 256, 576, 640, 704], Lg)) o from ev_f (c := (H 0 0) ≤ v6) _ _ 2  zc11 e (fun n => Eq.refl _)
        obtain ⟨⟨BO_9, FI_10⟩, zh12, zh9⟩ := bnd zh9
        have zh12 : f_Fitter_search H BO_7 FI_8 p1 v6 = some (BO_9, FI_10) := zh12
        have ze13 := R_f_Fitter_search_1 (d + 0) Y_2 T H2 H RU RV ST NS I0 I1 I2 BO_7 FI_8 RG GU PU MA MN MS OT SC 256 192 320 384 w 576 640 704 L Lg p1 v6 zh12
        suffices e : Ev (d + 18, 0, 0, 304, 34, [.val (.ref 64), .val (.int p1), .val (.int v5), .val (.int v6)], [], (126, 120, L, [Y_2, T, H2, H, RU, RV, ST, NS, I0, I1, I2, BO_9, FI_10, RG, GU, PU, MA, MN, MS, OT, SC], [256, 192, 320, 384, w, 256, 576, 640, 704], Lg)) o from ev_call (fun v μ => (d + 18, 0, 0, 304, 34, [.val (.ref 64), .val (.int p1), .val (.int v5), .val (.int v6)], v.toList ++ [], μ)) 5 ze13 e (fun n => Eq.refl _)
        by_cases zc14 : (FI_10 0 8) = (-1)
        · have zh9 := itp zh9 zc14
          suffices e : Ev (d + 18, 0, 0, 304, 48, [.val (.ref 64), .val (.int p1), .val (.int v5), .val (.int v6)], [], (126, 120, L, [Y_2, T, H2, H, RU, RV, ST, NS, I0, I1, I2, BO_9, FI_10, RG, GU, PU, MA, MN, MS, OT, SC], [256, 192, 320, 384, w, 256, 576, 640, 704], Lg)) o from ev_t (c := (FI_10 0 8) = (-1)) _ _ 5  zc14 e (fun n => Eq.refl _)
          exact ev_b 2 (zi7 _ (Option.some.inj zh9).symm ()) (fun n => Eq.refl _)
        · have zh9 := itn zh9 zc14
          suffices e : Ev (d + 18, 0, 0, 304, 45, [.val (.ref 64), .val (.int p1), .val (.int v5), .val (.int v6)], [], (126, 120, L, [Y_2, T, H2, H, RU, RV, ST, NS, I0, I1, I2, BO_9, FI_10, RG, GU, PU, MA, MN, MS, OT, SC], [256, 192, 320, 384, w, 256, 576, 640, 704], Lg)) o from ev_f (c := (FI_10 0 8) = (-1)) _ _ 5  zc14 e (fun n => Eq.refl _)
          exact ev_b 3 (zi7 _ (Option.some.inj zh9).symm ()) (fun n => Eq.refl _)
    · obtain ⟨v11, BO_13, FI_14⟩ := zb5
      intro s12
      have ze15 := Option.some.inj h
      subst ze15
      exact ev_rete 2 ho (fun n => Eq.refl _)
  | succ q1 =>
    have h := itn h (Nat.succ_ne_zero q1)
    have ze16 := Option.some.inj h
    subst ze16
    subst ho
    exact ev_thr (fun v μ => (d + 18, 0, 0, 304, 5, [.val (.ref 64), .val (.int p1), .val a_unk, .val a_unk], v.toList ++ [], μ)) 3 ze2 (fun n => Eq.refl _) (fun n => rfl)
set_option maxRecDepth 1000000 in
set_option maxHeartbeats 4000000 in
theorem R_f_Y_hours_3 (d : Nat) (Y T H2 H RV RU ST NS I0 I1 I2 BO FI RG GU PU MA MN MS OT SC : Nat → Nat → Int32) (w r5 : Nat) (L : Nat) (Lg : Int64) (p1 : Int32) {r : Nat × Int32 × (Nat → Nat → Int32) × (Nat → Nat → Int32) × (Nat → Nat → Int32) × Nat} (h : f_Y_hours Y H NS BO FI 256 r5 p1 = some r) : Ev (d + 18, 1, 8, 304, 0, [.val (.ref 64), .val (.int p1), .val a_unk, .val a_unk], [], (126, 120, L, [Y, T, H2, H, RV, RU, ST, NS, I0, I1, I2, BO, FI, RG, GU, PU, MA, MN, MS, OT, SC], [256, 192, 384, 320, w, r5, 576, 640, 704], Lg)) ((r.1, a_ov r.1 (.int r.2.1), (126, 120, L, [r.2.2.1, T, H2, H, RV, RU, ST, NS, I0, I1, I2, r.2.2.2.1, r.2.2.2.2.1, RG, GU, PU, MA, MN, MS, OT, SC], [256, 192, 384, 320, w, r.2.2.2.2.2, 576, 640, 704], Lg)) : AOut) := by
  suffices key : ∀ o : AOut, ((r.1, a_ov r.1 (.int r.2.1), (126, 120, L, [r.2.2.1, T, H2, H, RV, RU, ST, NS, I0, I1, I2, r.2.2.2.1, r.2.2.2.2.1, RG, GU, PU, MA, MN, MS, OT, SC], [256, 192, 384, 320, w, r.2.2.2.2.2, 576, 640, 704], Lg)) : AOut) = o → Ev (d + 18, 1, 8, 304, 0, [.val (.ref 64), .val (.int p1), .val a_unk, .val a_unk], [], (126, 120, L, [Y, T, H2, H, RV, RU, ST, NS, I0, I1, I2, BO, FI, RG, GU, PU, MA, MN, MS, OT, SC], [256, 192, 384, 320, w, r5, 576, 640, 704], Lg)) o from key _ rfl
  intro o ho
  obtain ⟨⟨q1, Y_2⟩, zh1, h⟩ := bnd h
  have zh1 : f_Y_needMeeting Y H p1 = some (q1, Y_2) := zh1
  have ze2 := R_f_Y_needMeeting_3 (d + 16) Y T H2 H RV RU ST NS I0 I1 I2 BO FI RG GU PU MA MN MS OT SC w r5 L Lg p1 zh1
  cases q1 with
  | zero =>
    have h := itp h rfl
    suffices e : Ev (d + 18, 0, 0, 304, 5, [.val (.ref 64), .val (.int p1), .val a_unk, .val a_unk], [], (126, 120, L, [Y_2, T, H2, H, RV, RU, ST, NS, I0, I1, I2, BO, FI, RG, GU, PU, MA, MN, MS, OT, SC], [256, 192, 384, 320, w, r5, 576, 640, 704], Lg)) o from ev_call (fun v μ => (d + 18, 0, 0, 304, 5, [.val (.ref 64), .val (.int p1), .val a_unk, .val a_unk], v.toList ++ [], μ)) 3 ze2 e (fun n => Eq.refl _)
    obtain ⟨BO_4, zh3, h⟩ := bnd h
    have zh3 : f_Y_lookNow H NS BO = some BO_4 := zh3
    have ze4 := R_f_Y_lookNow_3 (d + 15) Y_2 T H2 H RV RU ST NS I0 I1 I2 BO FI RG GU PU MA MN MS OT SC w r5 L Lg zh3
    suffices e : Ev (d + 18, 0, 0, 304, 9, [.val (.ref 64), .val (.int p1), .val a_unk, .val a_unk], [.ref 768], (126, 120, L, [Y_2, T, H2, H, RV, RU, ST, NS, I0, I1, I2, BO_4, FI, RG, GU, PU, MA, MN, MS, OT, SC], [256, 192, 384, 320, w, 256, 576, 640, 704], Lg)) o from ev_call (fun v μ => (d + 18, 0, 0, 304, 9, [.val (.ref 64), .val (.int p1), .val a_unk, .val a_unk], v.toList ++ [], μ)) 2 ze4 e (fun n => Eq.refl _)
    obtain ⟨zb5, zh6, h⟩ := bnd h
    suffices e : Ev (d + 18, 0, 0, 304, 14, [.val (.ref 64), .val (.int p1), .val (.int 0), .val (.int 0)], [], (126, 120, L, [Y_2, T, H2, H, RV, RU, ST, NS, I0, I1, I2, BO_4, FI, RG, GU, PU, MA, MN, MS, OT, SC], [256, 192, 384, 320, w, 256, 576, 640, 704], Lg)) o from ev_b 5 e (fun n => Eq.refl _)
    refine ev_loop (δ := Unit) (fun a j => (d + 18, 0, 0, 304, 14, [.val (.ref 64), .val (.int p1), .val (.int a.1), .val (.int a.2.1)], [], (126, 120, L, [Y_2, T, H2, H, RV, RU, ST, NS, I0, I1, I2, a.2.2.1, a.2.2.2, RG, GU, PU, MA, MN, MS, OT, SC], [256, 192, 384, 320, w, 256, 576, 640, 704], Lg))) (fun b => ∀ s12 : Value, Ev (d + 18, 0, 0, 304, 54, [.val (.ref 64), .val (.int p1), .val (.int b.1), .val s12], [], (126, 120, L, [Y_2, T, H2, H, RV, RU, ST, NS, I0, I1, I2, b.2.1, b.2.2, RG, GU, PU, MA, MN, MS, OT, SC], [256, 192, 384, 320, w, 256, 576, 640, 704], Lg)) o) ?_ a_F (0, 0, BO_4, FI) zb5 zh6 ?_ ()
    · rintro ⟨v5, v6, BO_7, FI_8⟩ zr10 zh9 zi7 zx8 ⟨⟩
      have zh9 : f_Y_hours_l14 H p1 v5 v6 BO_7 FI_8 = some zr10 := zh9
      suffices e : Ev (d + 18, 0, 0, 304, 19, [.val (.ref 64), .val (.int p1), .val (.int v5), .val (.int v6)], [.ref 256, .int v6], (126, 120, L, [Y_2, T, H2, H, RV, RU, ST, NS, I0, I1, I2, BO_7, FI_8, RG, GU, PU, MA, MN, MS, OT, SC], [256, 192, 384, 320, w, 256, 576, 640, 704], Lg)) o from ev_b 3 e (fun n => Eq.refl _)
      by_cases zc11 : (H 0 0) ≤ v6
      · have zh9 := itp zh9 zc11
        suffices e : Ev (d + 18, 0, 0, 304, 54, [.val (.ref 64), .val (.int p1), .val (.int v5), .val (.int v6)], [], (126, 120, L, [Y_2, T, H2, H, RV, RU, ST, NS, I0, I1, I2, BO_7, FI_8, RG, GU, PU, MA, MN, MS, OT, SC], [256, 192, 384, 320, w, 256, 576, 640, 704], Lg)) o from ev_t (c := (H 0 0) ≤ v6) _ _ 2  zc11 e (fun n => Eq.refl _)
        exact ev_b 0 (zx8 _ (Option.some.inj zh9).symm (.int v6)) (fun n => Eq.refl _)
      · have zh9 := itn zh9 zc11
        suffices e : Ev (d + 18, 0, 0, 304, 25, [.val (.ref 64), .val (.int p1), .val (.int v5), .val (.int v6)], [], (126, 120, L, [Y_2, T, H2, H, RV, RU, ST, NS, I0, I1, I2, BO_7, FI_8, RG, GU, PU, MA, MN, MS, OT, SC], [256, 192, 384, 320, w, 256, 576, 640, 704], Lg)) o from ev_f (c := (H 0 0) ≤ v6) _ _ 2  zc11 e (fun n => Eq.refl _)
        obtain ⟨⟨BO_9, FI_10⟩, zh12, zh9⟩ := bnd zh9
        have zh12 : f_Fitter_search H BO_7 FI_8 p1 v6 = some (BO_9, FI_10) := zh12
        have ze13 := R_f_Fitter_search_1 (d + 0) Y_2 T H2 H RV RU ST NS I0 I1 I2 BO_7 FI_8 RG GU PU MA MN MS OT SC 256 192 384 320 w 576 640 704 L Lg p1 v6 zh12
        suffices e : Ev (d + 18, 0, 0, 304, 34, [.val (.ref 64), .val (.int p1), .val (.int v5), .val (.int v6)], [], (126, 120, L, [Y_2, T, H2, H, RV, RU, ST, NS, I0, I1, I2, BO_9, FI_10, RG, GU, PU, MA, MN, MS, OT, SC], [256, 192, 384, 320, w, 256, 576, 640, 704], Lg)) o from ev_call (fun v μ => (d + 18, 0, 0, 304, 34, [.val (.ref 64), .val (.int p1), .val (.int v5), .val (.int v6)], v.toList ++ [], μ)) 5 ze13 e (fun n => Eq.refl _)
        by_cases zc14 : (FI_10 0 8) = (-1)
        · have zh9 := itp zh9 zc14
          suffices e : Ev (d + 18, 0, 0, 304, 48, [.val (.ref 64), .val (.int p1), .val (.int v5), .val (.int v6)], [], (126, 120, L, [Y_2, T, H2, H, RV, RU, ST, NS, I0, I1, I2, BO_9, FI_10, RG, GU, PU, MA, MN, MS, OT, SC], [256, 192, 384, 320, w, 256, 576, 640, 704], Lg)) o from ev_t (c := (FI_10 0 8) = (-1)) _ _ 5  zc14 e (fun n => Eq.refl _)
          exact ev_b 2 (zi7 _ (Option.some.inj zh9).symm ()) (fun n => Eq.refl _)
        · have zh9 := itn zh9 zc14
          suffices e : Ev (d + 18, 0, 0, 304, 45, [.val (.ref 64), .val (.int p1), .val (.int v5), .val (.int v6)], [], (126, 120, L, [Y_2, T, H2, H, RV, RU, ST, NS, I0, I1, I2, BO_9, FI_10, RG, GU, PU, MA, MN, MS, OT, SC], [256, 192, 384, 320, w, 256, 576, 640, 704], Lg)) o from ev_f (c := (FI_10 0 8) = (-1)) _ _ 5  zc14 e (fun n => Eq.refl _)
          exact ev_b 3 (zi7 _ (Option.some.inj zh9).symm ()) (fun n => Eq.refl _)
    · obtain ⟨v11, BO_13, FI_14⟩ := zb5
      intro s12
      have ze15 := Option.some.inj h
      subst ze15
      exact ev_rete 2 ho (fun n => Eq.refl _)
  | succ q1 =>
    have h := itn h (Nat.succ_ne_zero q1)
    have ze16 := Option.some.inj h
    subst ze16
    subst ho
    exact ev_thr (fun v μ => (d + 18, 0, 0, 304, 5, [.val (.ref 64), .val (.int p1), .val a_unk, .val a_unk], v.toList ++ [], μ)) 3 ze2 (fun n => Eq.refl _) (fun n => rfl)
set_option maxRecDepth 1000000 in
set_option maxHeartbeats 4000000 in
theorem R_f_Rings_mayTurn_0 (d : Nat) (Y T H H2 RA RB ST NS I0 I1 I2 BO FI RG GU PU MA MN MS OT SC : Nat → Nat → Int32) (r0 r1 r2 r3 w r6 r7 r8 : Nat) (L : Nat) (Lg : Int64) (p1 : Int32) {r : Int32} (h : f_Rings_mayTurn H BO p1 = some r) : Ev (d + 1, 0, 0, 235, 0, [.val (.ref 896), .val (.int p1)], [], (126, 120, L, [Y, T, H, H2, RA, RB, ST, NS, I0, I1, I2, BO, FI, RG, GU, PU, MA, MN, MS, OT, SC], [r0, r1, r2, r3, w, 192, r6, r7, r8], Lg)) ((0, some (.int r), (126, 120, L, [Y, T, H, H2, RA, RB, ST, NS, I0, I1, I2, BO, FI, RG, GU, PU, MA, MN, MS, OT, SC], [r0, r1, r2, r3, w, 192, r6, r7, r8], Lg)) : AOut) := by
  suffices key : ∀ o : AOut, ((0, some (.int r), (126, 120, L, [Y, T, H, H2, RA, RB, ST, NS, I0, I1, I2, BO, FI, RG, GU, PU, MA, MN, MS, OT, SC], [r0, r1, r2, r3, w, 192, r6, r7, r8], Lg)) : AOut) = o → Ev (d + 1, 0, 0, 235, 0, [.val (.ref 896), .val (.int p1)], [], (126, 120, L, [Y, T, H, H2, RA, RB, ST, NS, I0, I1, I2, BO, FI, RG, GU, PU, MA, MN, MS, OT, SC], [r0, r1, r2, r3, w, 192, r6, r7, r8], Lg)) o from key _ rfl
  intro o ho
  obtain ⟨x1, zh1, h⟩ := bnd h
  have zh1 : rdx (BO 1) 10 p1 = some x1 := zh1
  suffices e : Ev (d + 1, 0, 0, 235, 9, [.val (.ref 896), .val (.int p1)], [.int x1], (126, 120, L, [Y, T, H, H2, RA, RB, ST, NS, I0, I1, I2, BO, FI, RG, GU, PU, MA, MN, MS, OT, SC], [r0, r1, r2, r3, w, 192, r6, r7, r8], Lg)) o from ev_opt (fun x1 => (d + 1, 0, 0, 235, 9, [.val (.ref 896), .val (.int p1)], [.int x1], (126, 120, L, [Y, T, H, H2, RA, RB, ST, NS, I0, I1, I2, BO, FI, RG, GU, PU, MA, MN, MS, OT, SC], [r0, r1, r2, r3, w, 192, r6, r7, r8], Lg))) 5 zh1 e (fun n => Eq.refl _)
  by_cases zc2 : x1 = (-1)
  · have h := itp h zc2
    suffices e : Ev (d + 1, 0, 0, 235, 31, [.val (.ref 896), .val (.int p1)], [], (126, 120, L, [Y, T, H, H2, RA, RB, ST, NS, I0, I1, I2, BO, FI, RG, GU, PU, MA, MN, MS, OT, SC], [r0, r1, r2, r3, w, 192, r6, r7, r8], Lg)) o from ev_t (c := x1 = (-1)) _ _ 2  zc2 e (fun n => Eq.refl _)
    have ze3 := Option.some.inj h
    subst ze3
    exact ev_rete 2 ho (fun n => Eq.refl _)
  · have h := itn h zc2
    suffices e : Ev (d + 1, 0, 0, 235, 13, [.val (.ref 896), .val (.int p1)], [], (126, 120, L, [Y, T, H, H2, RA, RB, ST, NS, I0, I1, I2, BO, FI, RG, GU, PU, MA, MN, MS, OT, SC], [r0, r1, r2, r3, w, 192, r6, r7, r8], Lg)) o from ev_f (c := x1 = (-1)) _ _ 2  zc2 e (fun n => Eq.refl _)
    suffices e : Ev (d + 1, 0, 0, 235, 20, [.val (.ref 896), .val (.int p1)], [.ref 192], (126, 120, L, [Y, T, H, H2, RA, RB, ST, NS, I0, I1, I2, BO, FI, RG, GU, PU, MA, MN, MS, OT, SC], [r0, r1, r2, r3, w, 192, r6, r7, r8], Lg)) o from ev_b 3 e (fun n => Eq.refl _)
    obtain ⟨x2, zh4, h⟩ := bnd h
    have zh4 : f_House_isFixed H p1 = some x2 := zh4
    have ze5 := R_f_House_isFixed_0 (d + 0) Y T H H2 RA RB ST NS I0 I1 I2 BO FI RG GU PU MA MN MS OT SC r0 r1 r2 r3 w 192 r6 r7 r8 L Lg p1 zh4
    suffices e : Ev (d + 1, 0, 0, 235, 24, [.val (.ref 896), .val (.int p1)], [.int x2], (126, 120, L, [Y, T, H, H2, RA, RB, ST, NS, I0, I1, I2, BO, FI, RG, GU, PU, MA, MN, MS, OT, SC], [r0, r1, r2, r3, w, 192, r6, r7, r8], Lg)) o from ev_call (fun v μ => (d + 1, 0, 0, 235, 24, [.val (.ref 896), .val (.int p1)], v.toList ++ [], μ)) 2 ze5 e (fun n => Eq.refl _)
    by_cases zc6 : x2 ≠ 0
    · have h := itp h zc6
      suffices e : Ev (d + 1, 0, 0, 235, 31, [.val (.ref 896), .val (.int p1)], [], (126, 120, L, [Y, T, H, H2, RA, RB, ST, NS, I0, I1, I2, BO, FI, RG, GU, PU, MA, MN, MS, OT, SC], [r0, r1, r2, r3, w, 192, r6, r7, r8], Lg)) o from ev_t (c := x2 ≠ 0) _ _ 1  zc6 e (fun n => Eq.refl _)
      have ze7 := Option.some.inj h
      subst ze7
      exact ev_rete 2 ho (fun n => Eq.refl _)
    · have h := itn h zc6
      suffices e : Ev (d + 1, 0, 0, 235, 27, [.val (.ref 896), .val (.int p1)], [], (126, 120, L, [Y, T, H, H2, RA, RB, ST, NS, I0, I1, I2, BO, FI, RG, GU, PU, MA, MN, MS, OT, SC], [r0, r1, r2, r3, w, 192, r6, r7, r8], Lg)) o from ev_f (c := x2 ≠ 0) _ _ 1  zc6 e (fun n => Eq.refl _)
      have ze8 := Option.some.inj h
      subst ze8
      exact ev_rete 3 ho (fun n => Eq.refl _)
set_option maxRecDepth 1000000 in
set_option maxHeartbeats 4000000 in
theorem R_f_Board_isLawful_0 (d : Nat) (Y T H H2 RA RB ST NS I0 I1 I2 BO FI RG GU PU MA MN MS OT SC : Nat → Nat → Int32) (r0 r1 r2 r3 w r6 r7 r8 : Nat) (L : Nat) (Lg : Int64) {r : Int32} (h : f_Board_isLawful H BO = some r) : Ev (d + 3, 0, 0, 167, 0, [.val (.ref 768), .val a_unk], [], (126, 120, L, [Y, T, H, H2, RA, RB, ST, NS, I0, I1, I2, BO, FI, RG, GU, PU, MA, MN, MS, OT, SC], [r0, r1, r2, r3, w, 192, r6, r7, r8], Lg)) ((0, some (.int r), (126, 120, L, [Y, T, H, H2, RA, RB, ST, NS, I0, I1, I2, BO, FI, RG, GU, PU, MA, MN, MS, OT, SC], [r0, r1, r2, r3, w, 192, r6, r7, r8], Lg)) : AOut) := by
  suffices key : ∀ o : AOut, ((0, some (.int r), (126, 120, L, [Y, T, H, H2, RA, RB, ST, NS, I0, I1, I2, BO, FI, RG, GU, PU, MA, MN, MS, OT, SC], [r0, r1, r2, r3, w, 192, r6, r7, r8], Lg)) : AOut) = o → Ev (d + 3, 0, 0, 167, 0, [.val (.ref 768), .val a_unk], [], (126, 120, L, [Y, T, H, H2, RA, RB, ST, NS, I0, I1, I2, BO, FI, RG, GU, PU, MA, MN, MS, OT, SC], [r0, r1, r2, r3, w, 192, r6, r7, r8], Lg)) o from key _ rfl
  intro o ho
  obtain ⟨zb1, zh2, h⟩ := bnd h
  suffices e : Ev (d + 3, 0, 0, 167, 2, [.val (.ref 768), .val (.int 0)], [], (126, 120, L, [Y, T, H, H2, RA, RB, ST, NS, I0, I1, I2, BO, FI, RG, GU, PU, MA, MN, MS, OT, SC], [r0, r1, r2, r3, w, 192, r6, r7, r8], Lg)) o from ev_b 2 e (fun n => Eq.refl _)
  refine ev_loop (δ := Unit) (fun a j => (d + 3, 0, 0, 167, 2, [.val (.ref 768), .val (.int a)], [], (126, 120, L, [Y, T, H, H2, RA, RB, ST, NS, I0, I1, I2, BO, FI, RG, GU, PU, MA, MN, MS, OT, SC], [r0, r1, r2, r3, w, 192, r6, r7, r8], Lg))) (fun b => sumE b (fun b => ∀ s5 : Value, Ev (d + 3, 0, 0, 167, 45, [.val (.ref 768), .val s5], [], (126, 120, L, [Y, T, H, H2, RA, RB, ST, NS, I0, I1, I2, BO, FI, RG, GU, PU, MA, MN, MS, OT, SC], [r0, r1, r2, r3, w, 192, r6, r7, r8], Lg)) o) (fun b => ((0, some (.int b), (126, 120, L, [Y, T, H, H2, RA, RB, ST, NS, I0, I1, I2, BO, FI, RG, GU, PU, MA, MN, MS, OT, SC], [r0, r1, r2, r3, w, 192, r6, r7, r8], Lg)) : AOut) = o)) ?_ a_F 0 zb1 zh2 ?_ ()
  · rintro v1 zr6 zh5 zi3 zx4 ⟨⟩
    have zh5 : f_Board_isLawful_l2 H BO v1 = some zr6 := zh5
    suffices e : Ev (d + 3, 0, 0, 167, 7, [.val (.ref 768), .val (.int v1)], [.ref 192, .int v1], (126, 120, L, [Y, T, H, H2, RA, RB, ST, NS, I0, I1, I2, BO, FI, RG, GU, PU, MA, MN, MS, OT, SC], [r0, r1, r2, r3, w, 192, r6, r7, r8], Lg)) o from ev_b 3 e (fun n => Eq.refl _)
    by_cases zc7 : (H 0 3) ≤ v1
    · have zh5 := itp zh5 zc7
      suffices e : Ev (d + 3, 0, 0, 167, 45, [.val (.ref 768), .val (.int v1)], [], (126, 120, L, [Y, T, H, H2, RA, RB, ST, NS, I0, I1, I2, BO, FI, RG, GU, PU, MA, MN, MS, OT, SC], [r0, r1, r2, r3, w, 192, r6, r7, r8], Lg)) o from ev_t (c := (H 0 3) ≤ v1) _ _ 2  zc7 e (fun n => Eq.refl _)
      exact ev_b 0 (zx4 _ (Option.some.inj zh5).symm (.int v1)) (fun n => Eq.refl _)
    · have zh5 := itn zh5 zc7
      suffices e : Ev (d + 3, 0, 0, 167, 13, [.val (.ref 768), .val (.int v1)], [], (126, 120, L, [Y, T, H, H2, RA, RB, ST, NS, I0, I1, I2, BO, FI, RG, GU, PU, MA, MN, MS, OT, SC], [r0, r1, r2, r3, w, 192, r6, r7, r8], Lg)) o from ev_f (c := (H 0 3) ≤ v1) _ _ 2  zc7 e (fun n => Eq.refl _)
      obtain ⟨x2, zh8, zh5⟩ := bnd zh5
      have zh8 : rdx (BO 1) 10 v1 = some x2 := zh8
      suffices e : Ev (d + 3, 0, 0, 167, 19, [.val (.ref 768), .val (.int v1)], [.int x2], (126, 120, L, [Y, T, H, H2, RA, RB, ST, NS, I0, I1, I2, BO, FI, RG, GU, PU, MA, MN, MS, OT, SC], [r0, r1, r2, r3, w, 192, r6, r7, r8], Lg)) o from ev_opt (fun x2 => (d + 3, 0, 0, 167, 19, [.val (.ref 768), .val (.int v1)], [.int x2], (126, 120, L, [Y, T, H, H2, RA, RB, ST, NS, I0, I1, I2, BO, FI, RG, GU, PU, MA, MN, MS, OT, SC], [r0, r1, r2, r3, w, 192, r6, r7, r8], Lg))) 4 zh8 e (fun n => Eq.refl _)
      by_cases zc9 : x2 = (-1)
      · have zh5 := itp zh5 zc9
        suffices e : Ev (d + 3, 0, 0, 167, 39, [.val (.ref 768), .val (.int v1)], [], (126, 120, L, [Y, T, H, H2, RA, RB, ST, NS, I0, I1, I2, BO, FI, RG, GU, PU, MA, MN, MS, OT, SC], [r0, r1, r2, r3, w, 192, r6, r7, r8], Lg)) o from ev_t (c := x2 = (-1)) _ _ 2  zc9 e (fun n => Eq.refl _)
        exact ev_b 2 (zi3 _ (Option.some.inj zh5).symm ()) (fun n => Eq.refl _)
      · have zh5 := itn zh5 zc9
        suffices e : Ev (d + 3, 0, 0, 167, 23, [.val (.ref 768), .val (.int v1)], [], (126, 120, L, [Y, T, H, H2, RA, RB, ST, NS, I0, I1, I2, BO, FI, RG, GU, PU, MA, MN, MS, OT, SC], [r0, r1, r2, r3, w, 192, r6, r7, r8], Lg)) o from ev_f (c := x2 = (-1)) _ _ 2  zc9 e (fun n => Eq.refl _)
        obtain ⟨x3, zh10, zh5⟩ := bnd zh5
        have zh10 : rdx (BO 1) 10 v1 = some x3 := zh10
        suffices e : Ev (d + 3, 0, 0, 167, 31, [.val (.ref 768), .val (.int v1)], [.int x3, .int v1, .ref 768], (126, 120, L, [Y, T, H, H2, RA, RB, ST, NS, I0, I1, I2, BO, FI, RG, GU, PU, MA, MN, MS, OT, SC], [r0, r1, r2, r3, w, 192, r6, r7, r8], Lg)) o from ev_opt (fun x3 => (d + 3, 0, 0, 167, 31, [.val (.ref 768), .val (.int v1)], [.int x3, .int v1, .ref 768], (126, 120, L, [Y, T, H, H2, RA, RB, ST, NS, I0, I1, I2, BO, FI, RG, GU, PU, MA, MN, MS, OT, SC], [r0, r1, r2, r3, w, 192, r6, r7, r8], Lg))) 6 zh10 e (fun n => Eq.refl _)
        obtain ⟨x4, zh11, zh5⟩ := bnd zh5
        have zh11 : f_Board_isOpen H BO v1 x3 = some x4 := zh11
        have ze12 := R_f_Board_isOpen_0 (d + 0) Y T H H2 RA RB ST NS I0 I1 I2 BO FI RG GU PU MA MN MS OT SC r0 r1 r2 r3 w r6 r7 r8 L Lg v1 x3 zh11
        suffices e : Ev (d + 3, 0, 0, 167, 34, [.val (.ref 768), .val (.int v1)], [.int x4], (126, 120, L, [Y, T, H, H2, RA, RB, ST, NS, I0, I1, I2, BO, FI, RG, GU, PU, MA, MN, MS, OT, SC], [r0, r1, r2, r3, w, 192, r6, r7, r8], Lg)) o from ev_call (fun v μ => (d + 3, 0, 0, 167, 34, [.val (.ref 768), .val (.int v1)], v.toList ++ [], μ)) 1 ze12 e (fun n => Eq.refl _)
        by_cases zc13 : x4 ≠ 0
        · have zh5 := itp zh5 zc13
          suffices e : Ev (d + 3, 0, 0, 167, 39, [.val (.ref 768), .val (.int v1)], [], (126, 120, L, [Y, T, H, H2, RA, RB, ST, NS, I0, I1, I2, BO, FI, RG, GU, PU, MA, MN, MS, OT, SC], [r0, r1, r2, r3, w, 192, r6, r7, r8], Lg)) o from ev_t (c := x4 ≠ 0) _ _ 1  zc13 e (fun n => Eq.refl _)
          exact ev_b 2 (zi3 _ (Option.some.inj zh5).symm ()) (fun n => Eq.refl _)
        · have zh5 := itn zh5 zc13
          suffices e : Ev (d + 3, 0, 0, 167, 37, [.val (.ref 768), .val (.int v1)], [], (126, 120, L, [Y, T, H, H2, RA, RB, ST, NS, I0, I1, I2, BO, FI, RG, GU, PU, MA, MN, MS, OT, SC], [r0, r1, r2, r3, w, 192, r6, r7, r8], Lg)) o from ev_f (c := x4 ≠ 0) _ _ 1  zc13 e (fun n => Eq.refl _)
          exact ev_rete 2 (zx4 _ (Option.some.inj zh5).symm) (fun n => Eq.refl _)
  · rcases zb1 with ⟨⟩ | zr6
    · intro s5
      have ze14 := Option.some.inj h
      subst ze14
      exact ev_rete 2 ho (fun n => Eq.refl _)
    · have zh15 : some zr6 = some r := h
      exact (congrArg (fun q => ((0, some (.int q), (126, 120, L, [Y, T, H, H2, RA, RB, ST, NS, I0, I1, I2, BO, FI, RG, GU, PU, MA, MN, MS, OT, SC], [r0, r1, r2, r3, w, 192, r6, r7, r8], Lg)) : AOut)) (Option.some.inj zh15)).trans ho
set_option maxRecDepth 1000000 in
set_option maxHeartbeats 4000000 in
theorem R_f_Rings_turns_0 (d : Nat) (Y T H H2 RA RB ST NS I0 I1 I2 BO FI RG GU PU MA MN MS OT SC : Nat → Nat → Int32) (r0 r1 r2 r3 w r6 r7 r8 : Nat) (L : Nat) (Lg : Int64) {r : Int32 × (Nat → Nat → Int32) × (Nat → Nat → Int32)} (h : f_Rings_turns H BO RG = some r) : Ev (d + 4, 0, 0, 237, 0, [.val (.ref 896), .val a_unk, .val a_unk], [], (126, 120, L, [Y, T, H, H2, RA, RB, ST, NS, I0, I1, I2, BO, FI, RG, GU, PU, MA, MN, MS, OT, SC], [r0, r1, r2, r3, w, 192, r6, r7, r8], Lg)) ((0, some (.int r.1), (126, 120, L, [Y, T, H, H2, RA, RB, ST, NS, I0, I1, I2, r.2.1, FI, r.2.2, GU, PU, MA, MN, MS, OT, SC], [r0, r1, r2, r3, w, 192, r6, r7, r8], Lg)) : AOut) := by
  suffices key : ∀ o : AOut, ((0, some (.int r.1), (126, 120, L, [Y, T, H, H2, RA, RB, ST, NS, I0, I1, I2, r.2.1, FI, r.2.2, GU, PU, MA, MN, MS, OT, SC], [r0, r1, r2, r3, w, 192, r6, r7, r8], Lg)) : AOut) = o → Ev (d + 4, 0, 0, 237, 0, [.val (.ref 896), .val a_unk, .val a_unk], [], (126, 120, L, [Y, T, H, H2, RA, RB, ST, NS, I0, I1, I2, BO, FI, RG, GU, PU, MA, MN, MS, OT, SC], [r0, r1, r2, r3, w, 192, r6, r7, r8], Lg)) o from key _ rfl
  intro o ho
  by_cases zc1 : ((0 : Int32) < 0 ∨ (0 : Int32) < 0 ∨ (10 : Int32) < 0 ∨ 10 < (0 : Int32).toNatClampNeg + (10 : Int32).toNatClampNeg ∨ 10 < (0 : Int32).toNatClampNeg + (10 : Int32).toNatClampNeg)
  · exact nos (itp h zc1)
  have h := itn h zc1
  suffices e : Ev (d + 4, 0, 0, 237, 18, [.val (.ref 896), .val a_unk, .val a_unk], [], (126, 120, L, [Y, T, H, H2, RA, RB, ST, NS, I0, I1, I2, BO, FI, (u1 RG 2 (a_cpy (BO 1) (RG 2) (0 : Int32).toNatClampNeg (0 : Int32).toNatClampNeg (10 : Int32).toNatClampNeg)), GU, PU, MA, MN, MS, OT, SC], [r0, r1, r2, r3, w, 192, r6, r7, r8], Lg)) o from ev_d (c := ((0 : Int32) < 0 ∨ (0 : Int32) < 0 ∨ (10 : Int32) < 0 ∨ 10 < (0 : Int32).toNatClampNeg + (10 : Int32).toNatClampNeg ∨ 10 < (0 : Int32).toNatClampNeg + (10 : Int32).toNatClampNeg)) _ 9 zc1 e (fun n => Eq.refl _)
  obtain ⟨BO_11, zh3, h⟩ := bnd h
  suffices e : Ev (d + 4, 0, 0, 237, 20, [.val (.ref 896), .val (.int 0), .val a_unk], [], (126, 120, L, [Y, T, H, H2, RA, RB, ST, NS, I0, I1, I2, BO, FI, (u1 RG 2 (a_cpy (BO 1) (RG 2) (0 : Int32).toNatClampNeg (0 : Int32).toNatClampNeg (10 : Int32).toNatClampNeg)), GU, PU, MA, MN, MS, OT, SC], [r0, r1, r2, r3, w, 192, r6, r7, r8], Lg)) o from ev_b 2 e (fun n => Eq.refl _)
  refine ev_loop (δ := Value) (fun a j => (d + 4, 0, 0, 237, 20, [.val (.ref 896), .val (.int a.1), .val j], [], (126, 120, L, [Y, T, H, H2, RA, RB, ST, NS, I0, I1, I2, a.2, FI, (u1 RG 2 (a_cpy (BO 1) (RG 2) (0 : Int32).toNatClampNeg (0 : Int32).toNatClampNeg (10 : Int32).toNatClampNeg)), GU, PU, MA, MN, MS, OT, SC], [r0, r1, r2, r3, w, 192, r6, r7, r8], Lg))) (fun b => ∀ s9 : Value, ∀ s10 : Value, Ev (d + 4, 0, 0, 237, 77, [.val (.ref 896), .val s9, .val s10], [], (126, 120, L, [Y, T, H, H2, RA, RB, ST, NS, I0, I1, I2, b, FI, (u1 RG 2 (a_cpy (BO 1) (RG 2) (0 : Int32).toNatClampNeg (0 : Int32).toNatClampNeg (10 : Int32).toNatClampNeg)), GU, PU, MA, MN, MS, OT, SC], [r0, r1, r2, r3, w, 192, r6, r7, r8], Lg)) o) ?_ a_F (0, BO) BO_11 zh3 ?_ a_unk
  · rintro ⟨v1, BO_3⟩ zr7 zh6 zi4 zx5 s2
    have zh6 : f_Rings_turns_l20 BO RG v1 BO_3 = some zr7 := zh6
    by_cases zc8 : ((u1 RG 2 (a_cpy (BO 1) (RG 2) (0 : Int32).toNatClampNeg (0 : Int32).toNatClampNeg (10 : Int32).toNatClampNeg)) 0 3) ≤ v1
    · have zh6 := itp zh6 zc8
      suffices e : Ev (d + 4, 0, 0, 237, 77, [.val (.ref 896), .val (.int v1), .val s2], [], (126, 120, L, [Y, T, H, H2, RA, RB, ST, NS, I0, I1, I2, BO_3, FI, (u1 RG 2 (a_cpy (BO 1) (RG 2) (0 : Int32).toNatClampNeg (0 : Int32).toNatClampNeg (10 : Int32).toNatClampNeg)), GU, PU, MA, MN, MS, OT, SC], [r0, r1, r2, r3, w, 192, r6, r7, r8], Lg)) o from ev_t (c := ((u1 RG 2 (a_cpy (BO 1) (RG 2) (0 : Int32).toNatClampNeg (0 : Int32).toNatClampNeg (10 : Int32).toNatClampNeg)) 0 3) ≤ v1) _ _ 4  zc8 e (fun n => Eq.refl _)
      exact ev_b 0 (zx5 _ (Option.some.inj zh6).symm (.int v1) s2) (fun n => Eq.refl _)
    · have zh6 := itn zh6 zc8
      suffices e : Ev (d + 4, 0, 0, 237, 28, [.val (.ref 896), .val (.int v1), .val s2], [], (126, 120, L, [Y, T, H, H2, RA, RB, ST, NS, I0, I1, I2, BO_3, FI, (u1 RG 2 (a_cpy (BO 1) (RG 2) (0 : Int32).toNatClampNeg (0 : Int32).toNatClampNeg (10 : Int32).toNatClampNeg)), GU, PU, MA, MN, MS, OT, SC], [r0, r1, r2, r3, w, 192, r6, r7, r8], Lg)) o from ev_f (c := ((u1 RG 2 (a_cpy (BO 1) (RG 2) (0 : Int32).toNatClampNeg (0 : Int32).toNatClampNeg (10 : Int32).toNatClampNeg)) 0 3) ≤ v1) _ _ 4  zc8 e (fun n => Eq.refl _)
      obtain ⟨zt9, zh10, zh6⟩ := bnd zh6
      have zj11 : ∀ (v4 : Int32), v4 = zt9 → Ev (d + 4, 0, 0, 237, 45, [.val (.ref 896), .val (.int v1), .val s2], [.int v4], (126, 120, L, [Y, T, H, H2, RA, RB, ST, NS, I0, I1, I2, BO_3, FI, (u1 RG 2 (a_cpy (BO 1) (RG 2) (0 : Int32).toNatClampNeg (0 : Int32).toNatClampNeg (10 : Int32).toNatClampNeg)), GU, PU, MA, MN, MS, OT, SC], [r0, r1, r2, r3, w, 192, r6, r7, r8], Lg)) o := by
        intro v4 ze12
        subst ze12
        obtain ⟨x5, zh13, zh6⟩ := bnd zh6
        have zh13 : rdx ((u1 RG 2 (a_cpy (BO 1) (RG 2) (0 : Int32).toNatClampNeg (0 : Int32).toNatClampNeg (10 : Int32).toNatClampNeg)) 1) 4 v1 = some x5 := zh13
        suffices e : Ev (d + 4, 0, 0, 237, 59, [.val (.ref 896), .val (.int v1), .val (.int v4)], [.int x5, .ref 769], (126, 120, L, [Y, T, H, H2, RA, RB, ST, NS, I0, I1, I2, BO_3, FI, (u1 RG 2 (a_cpy (BO 1) (RG 2) (0 : Int32).toNatClampNeg (0 : Int32).toNatClampNeg (10 : Int32).toNatClampNeg)), GU, PU, MA, MN, MS, OT, SC], [r0, r1, r2, r3, w, 192, r6, r7, r8], Lg)) o from ev_opt (fun x5 => (d + 4, 0, 0, 237, 59, [.val (.ref 896), .val (.int v1), .val (.int v4)], [.int x5, .ref 769], (126, 120, L, [Y, T, H, H2, RA, RB, ST, NS, I0, I1, I2, BO_3, FI, (u1 RG 2 (a_cpy (BO 1) (RG 2) (0 : Int32).toNatClampNeg (0 : Int32).toNatClampNeg (10 : Int32).toNatClampNeg)), GU, PU, MA, MN, MS, OT, SC], [r0, r1, r2, r3, w, 192, r6, r7, r8], Lg))) 8 zh13 e (fun n => Eq.refl _)
        obtain ⟨x6, zh14, zh6⟩ := bnd zh6
        have zh14 : rdx ((u1 RG 2 (a_cpy (BO 1) (RG 2) (0 : Int32).toNatClampNeg (0 : Int32).toNatClampNeg (10 : Int32).toNatClampNeg)) 1) 4 v4 = some x6 := zh14
        suffices e : Ev (d + 4, 0, 0, 237, 69, [.val (.ref 896), .val (.int v1), .val (.int v4)], [.int x6, .ref 898, .int x5, .ref 769], (126, 120, L, [Y, T, H, H2, RA, RB, ST, NS, I0, I1, I2, BO_3, FI, (u1 RG 2 (a_cpy (BO 1) (RG 2) (0 : Int32).toNatClampNeg (0 : Int32).toNatClampNeg (10 : Int32).toNatClampNeg)), GU, PU, MA, MN, MS, OT, SC], [r0, r1, r2, r3, w, 192, r6, r7, r8], Lg)) o from ev_opt (fun x6 => (d + 4, 0, 0, 237, 69, [.val (.ref 896), .val (.int v1), .val (.int v4)], [.int x6, .ref 898, .int x5, .ref 769], (126, 120, L, [Y, T, H, H2, RA, RB, ST, NS, I0, I1, I2, BO_3, FI, (u1 RG 2 (a_cpy (BO 1) (RG 2) (0 : Int32).toNatClampNeg (0 : Int32).toNatClampNeg (10 : Int32).toNatClampNeg)), GU, PU, MA, MN, MS, OT, SC], [r0, r1, r2, r3, w, 192, r6, r7, r8], Lg))) 6 zh14 e (fun n => Eq.refl _)
        obtain ⟨x7, zh15, zh6⟩ := bnd zh6
        have zh15 : rdx ((u1 RG 2 (a_cpy (BO 1) (RG 2) (0 : Int32).toNatClampNeg (0 : Int32).toNatClampNeg (10 : Int32).toNatClampNeg)) 2) 10 x6 = some x7 := zh15
        suffices e : Ev (d + 4, 0, 0, 237, 70, [.val (.ref 896), .val (.int v1), .val (.int v4)], [.int x7, .int x5, .ref 769], (126, 120, L, [Y, T, H, H2, RA, RB, ST, NS, I0, I1, I2, BO_3, FI, (u1 RG 2 (a_cpy (BO 1) (RG 2) (0 : Int32).toNatClampNeg (0 : Int32).toNatClampNeg (10 : Int32).toNatClampNeg)), GU, PU, MA, MN, MS, OT, SC], [r0, r1, r2, r3, w, 192, r6, r7, r8], Lg)) o from ev_opt (fun x7 => (d + 4, 0, 0, 237, 70, [.val (.ref 896), .val (.int v1), .val (.int v4)], [.int x7, .int x5, .ref 769], (126, 120, L, [Y, T, H, H2, RA, RB, ST, NS, I0, I1, I2, BO_3, FI, (u1 RG 2 (a_cpy (BO 1) (RG 2) (0 : Int32).toNatClampNeg (0 : Int32).toNatClampNeg (10 : Int32).toNatClampNeg)), GU, PU, MA, MN, MS, OT, SC], [r0, r1, r2, r3, w, 192, r6, r7, r8], Lg))) 1 zh15 e (fun n => Eq.refl _)
        obtain ⟨j8, zh16, zh6⟩ := bnd zh6
        have zh16 : ixx 10 x5 = some j8 := zh16
        suffices e : Ev (d + 4, 0, 0, 237, 71, [.val (.ref 896), .val (.int v1), .val (.int v4)], [], (126, 120, L, [Y, T, H, H2, RA, RB, ST, NS, I0, I1, I2, (u2 BO_3 1 j8 x7), FI, (u1 RG 2 (a_cpy (BO 1) (RG 2) (0 : Int32).toNatClampNeg (0 : Int32).toNatClampNeg (10 : Int32).toNatClampNeg)), GU, PU, MA, MN, MS, OT, SC], [r0, r1, r2, r3, w, 192, r6, r7, r8], Lg)) o from ev_opt (fun j8 => (d + 4, 0, 0, 237, 71, [.val (.ref 896), .val (.int v1), .val (.int v4)], [], (126, 120, L, [Y, T, H, H2, RA, RB, ST, NS, I0, I1, I2, (u2 BO_3 1 j8 x7), FI, (u1 RG 2 (a_cpy (BO 1) (RG 2) (0 : Int32).toNatClampNeg (0 : Int32).toNatClampNeg (10 : Int32).toNatClampNeg)), GU, PU, MA, MN, MS, OT, SC], [r0, r1, r2, r3, w, 192, r6, r7, r8], Lg))) 1 zh16 e (fun n => Eq.refl _)
        exact ev_b 2 (zi4 _ (Option.some.inj zh6).symm (.int v4)) (fun n => Eq.refl _)
      by_cases zc17 : ((u1 RG 2 (a_cpy (BO 1) (RG 2) (0 : Int32).toNatClampNeg (0 : Int32).toNatClampNeg (10 : Int32).toNatClampNeg)) 0 3) ≤ (v1 + 1)
      · have zh10 := itp zh10 zc17
        suffices e : Ev (d + 4, 0, 0, 237, 44, [.val (.ref 896), .val (.int v1), .val s2], [], (126, 120, L, [Y, T, H, H2, RA, RB, ST, NS, I0, I1, I2, BO_3, FI, (u1 RG 2 (a_cpy (BO 1) (RG 2) (0 : Int32).toNatClampNeg (0 : Int32).toNatClampNeg (10 : Int32).toNatClampNeg)), GU, PU, MA, MN, MS, OT, SC], [r0, r1, r2, r3, w, 192, r6, r7, r8], Lg)) o from ev_t (c := ((u1 RG 2 (a_cpy (BO 1) (RG 2) (0 : Int32).toNatClampNeg (0 : Int32).toNatClampNeg (10 : Int32).toNatClampNeg)) 0 3) ≤ (v1 + 1)) _ _ 6  zc17 e (fun n => Eq.refl _)
        exact ev_b 1 (zj11 0 (Option.some.inj zh10) ) (fun n => Eq.refl _)
      · have zh10 := itn zh10 zc17
        suffices e : Ev (d + 4, 0, 0, 237, 38, [.val (.ref 896), .val (.int v1), .val s2], [], (126, 120, L, [Y, T, H, H2, RA, RB, ST, NS, I0, I1, I2, BO_3, FI, (u1 RG 2 (a_cpy (BO 1) (RG 2) (0 : Int32).toNatClampNeg (0 : Int32).toNatClampNeg (10 : Int32).toNatClampNeg)), GU, PU, MA, MN, MS, OT, SC], [r0, r1, r2, r3, w, 192, r6, r7, r8], Lg)) o from ev_f (c := ((u1 RG 2 (a_cpy (BO 1) (RG 2) (0 : Int32).toNatClampNeg (0 : Int32).toNatClampNeg (10 : Int32).toNatClampNeg)) 0 3) ≤ (v1 + 1)) _ _ 6  zc17 e (fun n => Eq.refl _)
        exact ev_b 4 (zj11 (v1 + 1) (Option.some.inj zh10) ) (fun n => Eq.refl _)
  · skip
    intro s9 s10
    obtain ⟨x12, zh18, h⟩ := bnd h
    have zh18 : f_Board_isLawful H BO_11 = some x12 := zh18
    have ze19 := R_f_Board_isLawful_0 (d + 0) Y T H H2 RA RB ST NS I0 I1 I2 BO_11 FI (u1 RG 2 (a_cpy (BO 1) (RG 2) (0 : Int32).toNatClampNeg (0 : Int32).toNatClampNeg (10 : Int32).toNatClampNeg)) GU PU MA MN MS OT SC r0 r1 r2 r3 w r6 r7 r8 L Lg zh18
    suffices e : Ev (d + 4, 0, 0, 237, 84, [.val (.ref 896), .val s9, .val s10], [.int x12], (126, 120, L, [Y, T, H, H2, RA, RB, ST, NS, I0, I1, I2, BO_11, FI, (u1 RG 2 (a_cpy (BO 1) (RG 2) (0 : Int32).toNatClampNeg (0 : Int32).toNatClampNeg (10 : Int32).toNatClampNeg)), GU, PU, MA, MN, MS, OT, SC], [r0, r1, r2, r3, w, 192, r6, r7, r8], Lg)) o from ev_call (fun v μ => (d + 4, 0, 0, 237, 84, [.val (.ref 896), .val s9, .val s10], v.toList ++ [], μ)) 3 ze19 e (fun n => Eq.refl _)
    by_cases zc20 : ((0 : Int32) < 0 ∨ (0 : Int32) < 0 ∨ (10 : Int32) < 0 ∨ 10 < (0 : Int32).toNatClampNeg + (10 : Int32).toNatClampNeg ∨ 10 < (0 : Int32).toNatClampNeg + (10 : Int32).toNatClampNeg)
    · exact nos (itp h zc20)
    have h := itn h zc20
    suffices e : Ev (d + 4, 0, 0, 237, 103, [.val (.ref 896), .val (.int x12), .val s10], [], (126, 120, L, [Y, T, H, H2, RA, RB, ST, NS, I0, I1, I2, (u1 BO_11 1 (a_cpy ((u1 RG 2 (a_cpy (BO 1) (RG 2) (0 : Int32).toNatClampNeg (0 : Int32).toNatClampNeg (10 : Int32).toNatClampNeg)) 2) (BO_11 1) (0 : Int32).toNatClampNeg (0 : Int32).toNatClampNeg (10 : Int32).toNatClampNeg)), FI, (u1 RG 2 (a_cpy (BO 1) (RG 2) (0 : Int32).toNatClampNeg (0 : Int32).toNatClampNeg (10 : Int32).toNatClampNeg)), GU, PU, MA, MN, MS, OT, SC], [r0, r1, r2, r3, w, 192, r6, r7, r8], Lg)) o from ev_d (c := ((0 : Int32) < 0 ∨ (0 : Int32) < 0 ∨ (10 : Int32) < 0 ∨ 10 < (0 : Int32).toNatClampNeg + (10 : Int32).toNatClampNeg ∨ 10 < (0 : Int32).toNatClampNeg + (10 : Int32).toNatClampNeg)) _ 10 zc20 e (fun n => Eq.refl _)
    have ze21 := Option.some.inj h
    subst ze21
    exact ev_rete 2 ho (fun n => Eq.refl _)
set_option maxRecDepth 1000000 in
set_option maxHeartbeats 4000000 in
theorem R_f_Rings_couldSwap_0 (d : Nat) (Y T H H2 RA RB ST NS I0 I1 I2 BO FI RG GU PU MA MN MS OT SC : Nat → Nat → Int32) (r0 r1 r2 r3 w r6 r7 r8 : Nat) (L : Nat) (Lg : Int64) (p1 : Int32) (p2 : Int32) {r : Int32 × (Nat → Nat → Int32) × (Nat → Nat → Int32)} (h : f_Rings_couldSwap H BO RG p1 p2 = some r) : Ev (d + 5, 0, 0, 233, 0, [.val (.ref 896), .val (.int p1), .val (.int p2)], [], (126, 120, L, [Y, T, H, H2, RA, RB, ST, NS, I0, I1, I2, BO, FI, RG, GU, PU, MA, MN, MS, OT, SC], [r0, r1, r2, r3, w, 192, r6, r7, r8], Lg)) ((0, some (.int r.1), (126, 120, L, [Y, T, H, H2, RA, RB, ST, NS, I0, I1, I2, r.2.1, FI, r.2.2, GU, PU, MA, MN, MS, OT, SC], [r0, r1, r2, r3, w, 192, r6, r7, r8], Lg)) : AOut) := by
  suffices key : ∀ o : AOut, ((0, some (.int r.1), (126, 120, L, [Y, T, H, H2, RA, RB, ST, NS, I0, I1, I2, r.2.1, FI, r.2.2, GU, PU, MA, MN, MS, OT, SC], [r0, r1, r2, r3, w, 192, r6, r7, r8], Lg)) : AOut) = o → Ev (d + 5, 0, 0, 233, 0, [.val (.ref 896), .val (.int p1), .val (.int p2)], [], (126, 120, L, [Y, T, H, H2, RA, RB, ST, NS, I0, I1, I2, BO, FI, RG, GU, PU, MA, MN, MS, OT, SC], [r0, r1, r2, r3, w, 192, r6, r7, r8], Lg)) o from key _ rfl
  intro o ho
  obtain ⟨j1, zh1, h⟩ := bnd h
  have zh1 : ixx 4 0 = some j1 := zh1
  suffices e : Ev (d + 5, 0, 0, 233, 12, [.val (.ref 896), .val (.int p1), .val (.int p2)], [], (126, 120, L, [Y, T, H, H2, RA, RB, ST, NS, I0, I1, I2, BO, FI, (u2 (u2 RG 0 3 2) 1 j1 p1), GU, PU, MA, MN, MS, OT, SC], [r0, r1, r2, r3, w, 192, r6, r7, r8], Lg)) o from ev_opt (fun j1 => (d + 5, 0, 0, 233, 12, [.val (.ref 896), .val (.int p1), .val (.int p2)], [], (126, 120, L, [Y, T, H, H2, RA, RB, ST, NS, I0, I1, I2, BO, FI, (u2 (u2 RG 0 3 2) 1 j1 p1), GU, PU, MA, MN, MS, OT, SC], [r0, r1, r2, r3, w, 192, r6, r7, r8], Lg))) 8 zh1 e (fun n => Eq.refl _)
  obtain ⟨j2, zh2, h⟩ := bnd h
  have zh2 : ixx 4 1 = some j2 := zh2
  suffices e : Ev (d + 5, 0, 0, 233, 19, [.val (.ref 896), .val (.int p1), .val (.int p2)], [], (126, 120, L, [Y, T, H, H2, RA, RB, ST, NS, I0, I1, I2, BO, FI, (u2 (u2 (u2 RG 0 3 2) 1 j1 p1) 1 j2 p2), GU, PU, MA, MN, MS, OT, SC], [r0, r1, r2, r3, w, 192, r6, r7, r8], Lg)) o from ev_opt (fun j2 => (d + 5, 0, 0, 233, 19, [.val (.ref 896), .val (.int p1), .val (.int p2)], [], (126, 120, L, [Y, T, H, H2, RA, RB, ST, NS, I0, I1, I2, BO, FI, (u2 (u2 (u2 RG 0 3 2) 1 j1 p1) 1 j2 p2), GU, PU, MA, MN, MS, OT, SC], [r0, r1, r2, r3, w, 192, r6, r7, r8], Lg))) 5 zh2 e (fun n => Eq.refl _)
  obtain ⟨x3, zh3, h⟩ := bnd h
  have zh3 : f_Rings_mayTurn H BO p1 = some x3 := zh3
  have ze4 := R_f_Rings_mayTurn_0 (d + 3) Y T H H2 RA RB ST NS I0 I1 I2 BO FI (u2 (u2 (u2 RG 0 3 2) 1 j1 p1) 1 j2 p2) GU PU MA MN MS OT SC r0 r1 r2 r3 w r6 r7 r8 L Lg p1 zh3
  suffices e : Ev (d + 5, 0, 0, 233, 24, [.val (.ref 896), .val (.int p1), .val (.int p2)], [.int x3], (126, 120, L, [Y, T, H, H2, RA, RB, ST, NS, I0, I1, I2, BO, FI, (u2 (u2 (u2 RG 0 3 2) 1 j1 p1) 1 j2 p2), GU, PU, MA, MN, MS, OT, SC], [r0, r1, r2, r3, w, 192, r6, r7, r8], Lg)) o from ev_call (fun v μ => (d + 5, 0, 0, 233, 24, [.val (.ref 896), .val (.int p1), .val (.int p2)], v.toList ++ [], μ)) 3 ze4 e (fun n => Eq.refl _)
  by_cases zc5 : x3 = 0
  · have h := itp h zc5
    suffices e : Ev (d + 5, 0, 0, 233, 46, [.val (.ref 896), .val (.int p1), .val (.int p2)], [], (126, 120, L, [Y, T, H, H2, RA, RB, ST, NS, I0, I1, I2, BO, FI, (u2 (u2 (u2 RG 0 3 2) 1 j1 p1) 1 j2 p2), GU, PU, MA, MN, MS, OT, SC], [r0, r1, r2, r3, w, 192, r6, r7, r8], Lg)) o from ev_t (c := x3 = 0) _ _ 1  zc5 e (fun n => Eq.refl _)
    have ze6 := Option.some.inj h
    subst ze6
    exact ev_rete 2 ho (fun n => Eq.refl _)
  · have h := itn h zc5
    suffices e : Ev (d + 5, 0, 0, 233, 27, [.val (.ref 896), .val (.int p1), .val (.int p2)], [], (126, 120, L, [Y, T, H, H2, RA, RB, ST, NS, I0, I1, I2, BO, FI, (u2 (u2 (u2 RG 0 3 2) 1 j1 p1) 1 j2 p2), GU, PU, MA, MN, MS, OT, SC], [r0, r1, r2, r3, w, 192, r6, r7, r8], Lg)) o from ev_f (c := x3 = 0) _ _ 1  zc5 e (fun n => Eq.refl _)
    obtain ⟨x4, zh7, h⟩ := bnd h
    have zh7 : f_Rings_mayTurn H BO p2 = some x4 := zh7
    have ze8 := R_f_Rings_mayTurn_0 (d + 3) Y T H H2 RA RB ST NS I0 I1 I2 BO FI (u2 (u2 (u2 RG 0 3 2) 1 j1 p1) 1 j2 p2) GU PU MA MN MS OT SC r0 r1 r2 r3 w r6 r7 r8 L Lg p2 zh7
    suffices e : Ev (d + 5, 0, 0, 233, 32, [.val (.ref 896), .val (.int p1), .val (.int p2)], [.int x4], (126, 120, L, [Y, T, H, H2, RA, RB, ST, NS, I0, I1, I2, BO, FI, (u2 (u2 (u2 RG 0 3 2) 1 j1 p1) 1 j2 p2), GU, PU, MA, MN, MS, OT, SC], [r0, r1, r2, r3, w, 192, r6, r7, r8], Lg)) o from ev_call (fun v μ => (d + 5, 0, 0, 233, 32, [.val (.ref 896), .val (.int p1), .val (.int p2)], v.toList ++ [], μ)) 3 ze8 e (fun n => Eq.refl _)
    by_cases zc9 : x4 = 0
    · have h := itp h zc9
      suffices e : Ev (d + 5, 0, 0, 233, 46, [.val (.ref 896), .val (.int p1), .val (.int p2)], [], (126, 120, L, [Y, T, H, H2, RA, RB, ST, NS, I0, I1, I2, BO, FI, (u2 (u2 (u2 RG 0 3 2) 1 j1 p1) 1 j2 p2), GU, PU, MA, MN, MS, OT, SC], [r0, r1, r2, r3, w, 192, r6, r7, r8], Lg)) o from ev_t (c := x4 = 0) _ _ 1  zc9 e (fun n => Eq.refl _)
      have ze10 := Option.some.inj h
      subst ze10
      exact ev_rete 2 ho (fun n => Eq.refl _)
    · have h := itn h zc9
      suffices e : Ev (d + 5, 0, 0, 233, 35, [.val (.ref 896), .val (.int p1), .val (.int p2)], [], (126, 120, L, [Y, T, H, H2, RA, RB, ST, NS, I0, I1, I2, BO, FI, (u2 (u2 (u2 RG 0 3 2) 1 j1 p1) 1 j2 p2), GU, PU, MA, MN, MS, OT, SC], [r0, r1, r2, r3, w, 192, r6, r7, r8], Lg)) o from ev_f (c := x4 = 0) _ _ 1  zc9 e (fun n => Eq.refl _)
      obtain ⟨⟨x5, BO_6, RG_7⟩, zh11, h⟩ := bnd h
      have zh11 : f_Rings_turns H BO (u2 (u2 (u2 RG 0 3 2) 1 j1 p1) 1 j2 p2) = some (x5, BO_6, RG_7) := zh11
      have ze12 := R_f_Rings_turns_0 (d + 0) Y T H H2 RA RB ST NS I0 I1 I2 BO FI (u2 (u2 (u2 RG 0 3 2) 1 j1 p1) 1 j2 p2) GU PU MA MN MS OT SC r0 r1 r2 r3 w r6 r7 r8 L Lg zh11
      suffices e : Ev (d + 5, 0, 0, 233, 39, [.val (.ref 896), .val (.int p1), .val (.int p2)], [.int x5], (126, 120, L, [Y, T, H, H2, RA, RB, ST, NS, I0, I1, I2, BO_6, FI, RG_7, GU, PU, MA, MN, MS, OT, SC], [r0, r1, r2, r3, w, 192, r6, r7, r8], Lg)) o from ev_call (fun v μ => (d + 5, 0, 0, 233, 39, [.val (.ref 896), .val (.int p1), .val (.int p2)], v.toList ++ [], μ)) 2 ze12 e (fun n => Eq.refl _)
      by_cases zc13 : x5 = 0
      · have h := itp h zc13
        suffices e : Ev (d + 5, 0, 0, 233, 46, [.val (.ref 896), .val (.int p1), .val (.int p2)], [], (126, 120, L, [Y, T, H, H2, RA, RB, ST, NS, I0, I1, I2, BO_6, FI, RG_7, GU, PU, MA, MN, MS, OT, SC], [r0, r1, r2, r3, w, 192, r6, r7, r8], Lg)) o from ev_t (c := x5 = 0) _ _ 1  zc13 e (fun n => Eq.refl _)
        have ze14 := Option.some.inj h
        subst ze14
        exact ev_rete 2 ho (fun n => Eq.refl _)
      · have h := itn h zc13
        suffices e : Ev (d + 5, 0, 0, 233, 42, [.val (.ref 896), .val (.int p1), .val (.int p2)], [], (126, 120, L, [Y, T, H, H2, RA, RB, ST, NS, I0, I1, I2, BO_6, FI, RG_7, GU, PU, MA, MN, MS, OT, SC], [r0, r1, r2, r3, w, 192, r6, r7, r8], Lg)) o from ev_f (c := x5 = 0) _ _ 1  zc13 e (fun n => Eq.refl _)
        have ze15 := Option.some.inj h
        subst ze15
        exact ev_rete 3 ho (fun n => Eq.refl _)
set_option maxRecDepth 1000000 in
set_option maxHeartbeats 4000000 in
theorem R_f_Y_swap_0 (d : Nat) (Y T H H2 RU RV ST NS I0 I1 I2 BO FI RG GU PU MA MN MS OT SC : Nat → Nat → Int32) (w r5 : Nat) (L : Nat) (Lg : Int64) (p1 : Int32) (p2 : Int32) {r : Nat × Int32 × (Nat → Nat → Int32) × (Nat → Nat → Int32) × (Nat → Nat → Int32) × Nat} (h : f_Y_swap Y H NS BO RG 192 r5 p1 p2 = some r) : Ev (d + 6, 3, 24, 305, 0, [.val (.ref 64), .val (.int p1), .val (.int p2)], [], (126, 120, L, [Y, T, H, H2, RU, RV, ST, NS, I0, I1, I2, BO, FI, RG, GU, PU, MA, MN, MS, OT, SC], [192, 256, 320, 384, w, r5, 576, 640, 704], Lg)) ((r.1, a_ov r.1 (.int r.2.1), (126, 120, L, [r.2.2.1, T, H, H2, RU, RV, ST, NS, I0, I1, I2, r.2.2.2.1, FI, r.2.2.2.2.1, GU, PU, MA, MN, MS, OT, SC], [192, 256, 320, 384, w, r.2.2.2.2.2, 576, 640, 704], Lg)) : AOut) := by
  suffices key : ∀ o : AOut, ((r.1, a_ov r.1 (.int r.2.1), (126, 120, L, [r.2.2.1, T, H, H2, RU, RV, ST, NS, I0, I1, I2, r.2.2.2.1, FI, r.2.2.2.2.1, GU, PU, MA, MN, MS, OT, SC], [192, 256, 320, 384, w, r.2.2.2.2.2, 576, 640, 704], Lg)) : AOut) = o → Ev (d + 6, 3, 24, 305, 0, [.val (.ref 64), .val (.int p1), .val (.int p2)], [], (126, 120, L, [Y, T, H, H2, RU, RV, ST, NS, I0, I1, I2, BO, FI, RG, GU, PU, MA, MN, MS, OT, SC], [192, 256, 320, 384, w, r5, 576, 640, 704], Lg)) o from key _ rfl
  intro o ho
  obtain ⟨⟨q1, Y_2⟩, zh1, h⟩ := bnd h
  have zh1 : f_Y_needMeeting Y H p1 = some (q1, Y_2) := zh1
  have ze2 := R_f_Y_needMeeting_0 (d + 4) Y T H H2 RU RV ST NS I0 I1 I2 BO FI RG GU PU MA MN MS OT SC w r5 L Lg p1 zh1
  cases q1 with
  | zero =>
    have h := itp h rfl
    suffices e : Ev (d + 6, 2, 16, 305, 5, [.val (.ref 64), .val (.int p1), .val (.int p2)], [], (126, 120, L, [Y_2, T, H, H2, RU, RV, ST, NS, I0, I1, I2, BO, FI, RG, GU, PU, MA, MN, MS, OT, SC], [192, 256, 320, 384, w, r5, 576, 640, 704], Lg)) o from ev_call (fun v μ => (d + 6, 2, 16, 305, 5, [.val (.ref 64), .val (.int p1), .val (.int p2)], v.toList ++ [], μ)) 3 ze2 e (fun n => Eq.refl _)
    obtain ⟨⟨q3, Y_4⟩, zh3, h⟩ := bnd h
    have zh3 : f_Y_needMeeting Y_2 H p2 = some (q3, Y_4) := zh3
    have ze4 := R_f_Y_needMeeting_0 (d + 4) Y_2 T H H2 RU RV ST NS I0 I1 I2 BO FI RG GU PU MA MN MS OT SC w r5 L Lg p2 zh3
    cases q3 with
    | zero =>
      have h := itp h rfl
      suffices e : Ev (d + 6, 1, 8, 305, 10, [.val (.ref 64), .val (.int p1), .val (.int p2)], [], (126, 120, L, [Y_4, T, H, H2, RU, RV, ST, NS, I0, I1, I2, BO, FI, RG, GU, PU, MA, MN, MS, OT, SC], [192, 256, 320, 384, w, r5, 576, 640, 704], Lg)) o from ev_call (fun v μ => (d + 6, 1, 8, 305, 10, [.val (.ref 64), .val (.int p1), .val (.int p2)], v.toList ++ [], μ)) 3 ze4 e (fun n => Eq.refl _)
      obtain ⟨zt5, zh6, h⟩ := bnd h
      have zj7 : ∀ (v5 : Int32), v5 = zt5 → Ev (d + 6, 1, 8, 305, 21, [.val (.ref 64), .val (.int p1), .val (.int p2)], [.int v5, .ref 64], (126, 120, L, [Y_4, T, H, H2, RU, RV, ST, NS, I0, I1, I2, BO, FI, RG, GU, PU, MA, MN, MS, OT, SC], [192, 256, 320, 384, w, r5, 576, 640, 704], Lg)) o := by
        intro v5 ze8
        subst ze8
        obtain ⟨⟨q6, Y_7⟩, zh9, h⟩ := bnd h
        have zh9 : f_Y_refuseUnless Y_4 v5 = some (q6, Y_7) := zh9
        have ze10 := R_f_Y_refuseUnless_0 (d + 5) Y_4 T H H2 RU RV ST NS I0 I1 I2 BO FI RG GU PU MA MN MS OT SC w r5 L Lg v5 zh9
        cases q6 with
        | zero =>
          have h := itp h rfl
          suffices e : Ev (d + 6, 0, 0, 305, 24, [.val (.ref 64), .val (.int p1), .val (.int p2)], [], (126, 120, L, [Y_7, T, H, H2, RU, RV, ST, NS, I0, I1, I2, BO, FI, RG, GU, PU, MA, MN, MS, OT, SC], [192, 256, 320, 384, w, r5, 576, 640, 704], Lg)) o from ev_call (fun v μ => (d + 6, 0, 0, 305, 24, [.val (.ref 64), .val (.int p1), .val (.int p2)], v.toList ++ [], μ)) 1 ze10 e (fun n => Eq.refl _)
          obtain ⟨BO_9, zh11, h⟩ := bnd h
          have zh11 : f_Y_lookNow H NS BO = some BO_9 := zh11
          have ze12 := R_f_Y_lookNow_0 (d + 3) Y_7 T H H2 RU RV ST NS I0 I1 I2 BO FI RG GU PU MA MN MS OT SC w r5 L Lg zh11
          suffices e : Ev (d + 6, 0, 0, 305, 28, [.val (.ref 64), .val (.int p1), .val (.int p2)], [.ref 768], (126, 120, L, [Y_7, T, H, H2, RU, RV, ST, NS, I0, I1, I2, BO_9, FI, RG, GU, PU, MA, MN, MS, OT, SC], [192, 256, 320, 384, w, 192, 576, 640, 704], Lg)) o from ev_call (fun v μ => (d + 6, 0, 0, 305, 28, [.val (.ref 64), .val (.int p1), .val (.int p2)], v.toList ++ [], μ)) 2 ze12 e (fun n => Eq.refl _)
          obtain ⟨⟨x10, BO_11, RG_12⟩, zh13, h⟩ := bnd h
          have zh13 : f_Rings_couldSwap H BO_9 RG p1 p2 = some (x10, BO_11, RG_12) := zh13
          have ze14 := R_f_Rings_couldSwap_0 (d + 0) Y_7 T H H2 RU RV ST NS I0 I1 I2 BO_9 FI RG GU PU MA MN MS OT SC 192 256 320 384 w 576 640 704 L Lg p1 p2 zh13
          suffices e : Ev (d + 6, 0, 0, 305, 38, [.val (.ref 64), .val (.int p1), .val (.int p2)], [.int x10], (126, 120, L, [Y_7, T, H, H2, RU, RV, ST, NS, I0, I1, I2, BO_11, FI, RG_12, GU, PU, MA, MN, MS, OT, SC], [192, 256, 320, 384, w, 192, 576, 640, 704], Lg)) o from ev_call (fun v μ => (d + 6, 0, 0, 305, 38, [.val (.ref 64), .val (.int p1), .val (.int p2)], v.toList ++ [], μ)) 6 ze14 e (fun n => Eq.refl _)
          have ze15 := Option.some.inj h
          subst ze15
          exact ev_rete 1 ho (fun n => Eq.refl _)
        | succ q6 =>
          have h := itn h (Nat.succ_ne_zero q6)
          have ze16 := Option.some.inj h
          subst ze16
          subst ho
          exact ev_thr (fun v μ => (d + 6, 0, 0, 305, 24, [.val (.ref 64), .val (.int p1), .val (.int p2)], v.toList ++ [], μ)) 1 ze10 (fun n => Eq.refl _) (fun n => rfl)
      by_cases zc17 : p1 = p2
      · have zh6 := itp zh6 zc17
        suffices e : Ev (d + 6, 1, 8, 305, 20, [.val (.ref 64), .val (.int p1), .val (.int p2)], [.ref 64], (126, 120, L, [Y_4, T, H, H2, RU, RV, ST, NS, I0, I1, I2, BO, FI, RG, GU, PU, MA, MN, MS, OT, SC], [192, 256, 320, 384, w, r5, 576, 640, 704], Lg)) o from ev_t (c := p1 = p2) _ _ 4  zc17 e (fun n => Eq.refl _)
        exact ev_b 1 (zj7 0 (Option.some.inj zh6) ) (fun n => Eq.refl _)
      · have zh6 := itn zh6 zc17
        suffices e : Ev (d + 6, 1, 8, 305, 16, [.val (.ref 64), .val (.int p1), .val (.int p2)], [.ref 64], (126, 120, L, [Y_4, T, H, H2, RU, RV, ST, NS, I0, I1, I2, BO, FI, RG, GU, PU, MA, MN, MS, OT, SC], [192, 256, 320, 384, w, r5, 576, 640, 704], Lg)) o from ev_f (c := p1 = p2) _ _ 4  zc17 e (fun n => Eq.refl _)
        exact ev_b 2 (zj7 1 (Option.some.inj zh6) ) (fun n => Eq.refl _)
    | succ q3 =>
      have h := itn h (Nat.succ_ne_zero q3)
      have ze18 := Option.some.inj h
      subst ze18
      subst ho
      exact ev_thr (fun v μ => (d + 6, 1, 8, 305, 10, [.val (.ref 64), .val (.int p1), .val (.int p2)], v.toList ++ [], μ)) 3 ze4 (fun n => Eq.refl _) (fun n => rfl)
  | succ q1 =>
    have h := itn h (Nat.succ_ne_zero q1)
    have ze19 := Option.some.inj h
    subst ze19
    subst ho
    exact ev_thr (fun v μ => (d + 6, 2, 16, 305, 5, [.val (.ref 64), .val (.int p1), .val (.int p2)], v.toList ++ [], μ)) 3 ze2 (fun n => Eq.refl _) (fun n => rfl)
set_option maxRecDepth 1000000 in
set_option maxHeartbeats 4000000 in
theorem R_f_Y_swap_1 (d : Nat) (Y T H H2 RV RU ST NS I0 I1 I2 BO FI RG GU PU MA MN MS OT SC : Nat → Nat → Int32) (w r5 : Nat) (L : Nat) (Lg : Int64) (p1 : Int32) (p2 : Int32) {r : Nat × Int32 × (Nat → Nat → Int32) × (Nat → Nat → Int32) × (Nat → Nat → Int32) × Nat} (h : f_Y_swap Y H NS BO RG 192 r5 p1 p2 = some r) : Ev (d + 6, 3, 24, 305, 0, [.val (.ref 64), .val (.int p1), .val (.int p2)], [], (126, 120, L, [Y, T, H, H2, RV, RU, ST, NS, I0, I1, I2, BO, FI, RG, GU, PU, MA, MN, MS, OT, SC], [192, 256, 384, 320, w, r5, 576, 640, 704], Lg)) ((r.1, a_ov r.1 (.int r.2.1), (126, 120, L, [r.2.2.1, T, H, H2, RV, RU, ST, NS, I0, I1, I2, r.2.2.2.1, FI, r.2.2.2.2.1, GU, PU, MA, MN, MS, OT, SC], [192, 256, 384, 320, w, r.2.2.2.2.2, 576, 640, 704], Lg)) : AOut) := by
  suffices key : ∀ o : AOut, ((r.1, a_ov r.1 (.int r.2.1), (126, 120, L, [r.2.2.1, T, H, H2, RV, RU, ST, NS, I0, I1, I2, r.2.2.2.1, FI, r.2.2.2.2.1, GU, PU, MA, MN, MS, OT, SC], [192, 256, 384, 320, w, r.2.2.2.2.2, 576, 640, 704], Lg)) : AOut) = o → Ev (d + 6, 3, 24, 305, 0, [.val (.ref 64), .val (.int p1), .val (.int p2)], [], (126, 120, L, [Y, T, H, H2, RV, RU, ST, NS, I0, I1, I2, BO, FI, RG, GU, PU, MA, MN, MS, OT, SC], [192, 256, 384, 320, w, r5, 576, 640, 704], Lg)) o from key _ rfl
  intro o ho
  obtain ⟨⟨q1, Y_2⟩, zh1, h⟩ := bnd h
  have zh1 : f_Y_needMeeting Y H p1 = some (q1, Y_2) := zh1
  have ze2 := R_f_Y_needMeeting_1 (d + 4) Y T H H2 RV RU ST NS I0 I1 I2 BO FI RG GU PU MA MN MS OT SC w r5 L Lg p1 zh1
  cases q1 with
  | zero =>
    have h := itp h rfl
    suffices e : Ev (d + 6, 2, 16, 305, 5, [.val (.ref 64), .val (.int p1), .val (.int p2)], [], (126, 120, L, [Y_2, T, H, H2, RV, RU, ST, NS, I0, I1, I2, BO, FI, RG, GU, PU, MA, MN, MS, OT, SC], [192, 256, 384, 320, w, r5, 576, 640, 704], Lg)) o from ev_call (fun v μ => (d + 6, 2, 16, 305, 5, [.val (.ref 64), .val (.int p1), .val (.int p2)], v.toList ++ [], μ)) 3 ze2 e (fun n => Eq.refl _)
    obtain ⟨⟨q3, Y_4⟩, zh3, h⟩ := bnd h
    have zh3 : f_Y_needMeeting Y_2 H p2 = some (q3, Y_4) := zh3
    have ze4 := R_f_Y_needMeeting_1 (d + 4) Y_2 T H H2 RV RU ST NS I0 I1 I2 BO FI RG GU PU MA MN MS OT SC w r5 L Lg p2 zh3
    cases q3 with
    | zero =>
      have h := itp h rfl
      suffices e : Ev (d + 6, 1, 8, 305, 10, [.val (.ref 64), .val (.int p1), .val (.int p2)], [], (126, 120, L, [Y_4, T, H, H2, RV, RU, ST, NS, I0, I1, I2, BO, FI, RG, GU, PU, MA, MN, MS, OT, SC], [192, 256, 384, 320, w, r5, 576, 640, 704], Lg)) o from ev_call (fun v μ => (d + 6, 1, 8, 305, 10, [.val (.ref 64), .val (.int p1), .val (.int p2)], v.toList ++ [], μ)) 3 ze4 e (fun n => Eq.refl _)
      obtain ⟨zt5, zh6, h⟩ := bnd h
      have zj7 : ∀ (v5 : Int32), v5 = zt5 → Ev (d + 6, 1, 8, 305, 21, [.val (.ref 64), .val (.int p1), .val (.int p2)], [.int v5, .ref 64], (126, 120, L, [Y_4, T, H, H2, RV, RU, ST, NS, I0, I1, I2, BO, FI, RG, GU, PU, MA, MN, MS, OT, SC], [192, 256, 384, 320, w, r5, 576, 640, 704], Lg)) o := by
        intro v5 ze8
        subst ze8
        obtain ⟨⟨q6, Y_7⟩, zh9, h⟩ := bnd h
        have zh9 : f_Y_refuseUnless Y_4 v5 = some (q6, Y_7) := zh9
        have ze10 := R_f_Y_refuseUnless_1 (d + 5) Y_4 T H H2 RV RU ST NS I0 I1 I2 BO FI RG GU PU MA MN MS OT SC w r5 L Lg v5 zh9
        cases q6 with
        | zero =>
          have h := itp h rfl
          suffices e : Ev (d + 6, 0, 0, 305, 24, [.val (.ref 64), .val (.int p1), .val (.int p2)], [], (126, 120, L, [Y_7, T, H, H2, RV, RU, ST, NS, I0, I1, I2, BO, FI, RG, GU, PU, MA, MN, MS, OT, SC], [192, 256, 384, 320, w, r5, 576, 640, 704], Lg)) o from ev_call (fun v μ => (d + 6, 0, 0, 305, 24, [.val (.ref 64), .val (.int p1), .val (.int p2)], v.toList ++ [], μ)) 1 ze10 e (fun n => Eq.refl _)
          obtain ⟨BO_9, zh11, h⟩ := bnd h
          have zh11 : f_Y_lookNow H NS BO = some BO_9 := zh11
          have ze12 := R_f_Y_lookNow_1 (d + 3) Y_7 T H H2 RV RU ST NS I0 I1 I2 BO FI RG GU PU MA MN MS OT SC w r5 L Lg zh11
          suffices e : Ev (d + 6, 0, 0, 305, 28, [.val (.ref 64), .val (.int p1), .val (.int p2)], [.ref 768], (126, 120, L, [Y_7, T, H, H2, RV, RU, ST, NS, I0, I1, I2, BO_9, FI, RG, GU, PU, MA, MN, MS, OT, SC], [192, 256, 384, 320, w, 192, 576, 640, 704], Lg)) o from ev_call (fun v μ => (d + 6, 0, 0, 305, 28, [.val (.ref 64), .val (.int p1), .val (.int p2)], v.toList ++ [], μ)) 2 ze12 e (fun n => Eq.refl _)
          obtain ⟨⟨x10, BO_11, RG_12⟩, zh13, h⟩ := bnd h
          have zh13 : f_Rings_couldSwap H BO_9 RG p1 p2 = some (x10, BO_11, RG_12) := zh13
          have ze14 := R_f_Rings_couldSwap_0 (d + 0) Y_7 T H H2 RV RU ST NS I0 I1 I2 BO_9 FI RG GU PU MA MN MS OT SC 192 256 384 320 w 576 640 704 L Lg p1 p2 zh13
          suffices e : Ev (d + 6, 0, 0, 305, 38, [.val (.ref 64), .val (.int p1), .val (.int p2)], [.int x10], (126, 120, L, [Y_7, T, H, H2, RV, RU, ST, NS, I0, I1, I2, BO_11, FI, RG_12, GU, PU, MA, MN, MS, OT, SC], [192, 256, 384, 320, w, 192, 576, 640, 704], Lg)) o from ev_call (fun v μ => (d + 6, 0, 0, 305, 38, [.val (.ref 64), .val (.int p1), .val (.int p2)], v.toList ++ [], μ)) 6 ze14 e (fun n => Eq.refl _)
          have ze15 := Option.some.inj h
          subst ze15
          exact ev_rete 1 ho (fun n => Eq.refl _)
        | succ q6 =>
          have h := itn h (Nat.succ_ne_zero q6)
          have ze16 := Option.some.inj h
          subst ze16
          subst ho
          exact ev_thr (fun v μ => (d + 6, 0, 0, 305, 24, [.val (.ref 64), .val (.int p1), .val (.int p2)], v.toList ++ [], μ)) 1 ze10 (fun n => Eq.refl _) (fun n => rfl)
      by_cases zc17 : p1 = p2
      · have zh6 := itp zh6 zc17
        suffices e : Ev (d + 6, 1, 8, 305, 20, [.val (.ref 64), .val (.int p1), .val (.int p2)], [.ref 64], (126, 120, L, [Y_4, T, H, H2, RV, RU, ST, NS, I0, I1, I2, BO, FI, RG, GU, PU, MA, MN, MS, OT, SC], [192, 256, 384, 320, w, r5, 576, 640, 704], Lg)) o from ev_t (c := p1 = p2) _ _ 4  zc17 e (fun n => Eq.refl _)
        exact ev_b 1 (zj7 0 (Option.some.inj zh6) ) (fun n => Eq.refl _)
      · have zh6 := itn zh6 zc17
        suffices e : Ev (d + 6, 1, 8, 305, 16, [.val (.ref 64), .val (.int p1), .val (.int p2)], [.ref 64], (126, 120, L, [Y_4, T, H, H2, RV, RU, ST, NS, I0, I1, I2, BO, FI, RG, GU, PU, MA, MN, MS, OT, SC], [192, 256, 384, 320, w, r5, 576, 640, 704], Lg)) o from ev_f (c := p1 = p2) _ _ 4  zc17 e (fun n => Eq.refl _)
        exact ev_b 2 (zj7 1 (Option.some.inj zh6) ) (fun n => Eq.refl _)
    | succ q3 =>
      have h := itn h (Nat.succ_ne_zero q3)
      have ze18 := Option.some.inj h
      subst ze18
      subst ho
      exact ev_thr (fun v μ => (d + 6, 1, 8, 305, 10, [.val (.ref 64), .val (.int p1), .val (.int p2)], v.toList ++ [], μ)) 3 ze4 (fun n => Eq.refl _) (fun n => rfl)
  | succ q1 =>
    have h := itn h (Nat.succ_ne_zero q1)
    have ze19 := Option.some.inj h
    subst ze19
    subst ho
    exact ev_thr (fun v μ => (d + 6, 2, 16, 305, 5, [.val (.ref 64), .val (.int p1), .val (.int p2)], v.toList ++ [], μ)) 3 ze2 (fun n => Eq.refl _) (fun n => rfl)
set_option maxRecDepth 1000000 in
set_option maxHeartbeats 4000000 in
theorem R_f_Rings_mayTurn_1 (d : Nat) (Y T H2 H RA RB ST NS I0 I1 I2 BO FI RG GU PU MA MN MS OT SC : Nat → Nat → Int32) (r0 r1 r2 r3 w r6 r7 r8 : Nat) (L : Nat) (Lg : Int64) (p1 : Int32) {r : Int32} (h : f_Rings_mayTurn H BO p1 = some r) : Ev (d + 1, 0, 0, 235, 0, [.val (.ref 896), .val (.int p1)], [], (126, 120, L, [Y, T, H2, H, RA, RB, ST, NS, I0, I1, I2, BO, FI, RG, GU, PU, MA, MN, MS, OT, SC], [r0, r1, r2, r3, w, 256, r6, r7, r8], Lg)) ((0, some (.int r), (126, 120, L, [Y, T, H2, H, RA, RB, ST, NS, I0, I1, I2, BO, FI, RG, GU, PU, MA, MN, MS, OT, SC], [r0, r1, r2, r3, w, 256, r6, r7, r8], Lg)) : AOut) := by
  suffices key : ∀ o : AOut, ((0, some (.int r), (126, 120, L, [Y, T, H2, H, RA, RB, ST, NS, I0, I1, I2, BO, FI, RG, GU, PU, MA, MN, MS, OT, SC], [r0, r1, r2, r3, w, 256, r6, r7, r8], Lg)) : AOut) = o → Ev (d + 1, 0, 0, 235, 0, [.val (.ref 896), .val (.int p1)], [], (126, 120, L, [Y, T, H2, H, RA, RB, ST, NS, I0, I1, I2, BO, FI, RG, GU, PU, MA, MN, MS, OT, SC], [r0, r1, r2, r3, w, 256, r6, r7, r8], Lg)) o from key _ rfl
  intro o ho
  obtain ⟨x1, zh1, h⟩ := bnd h
  have zh1 : rdx (BO 1) 10 p1 = some x1 := zh1
  suffices e : Ev (d + 1, 0, 0, 235, 9, [.val (.ref 896), .val (.int p1)], [.int x1], (126, 120, L, [Y, T, H2, H, RA, RB, ST, NS, I0, I1, I2, BO, FI, RG, GU, PU, MA, MN, MS, OT, SC], [r0, r1, r2, r3, w, 256, r6, r7, r8], Lg)) o from ev_opt (fun x1 => (d + 1, 0, 0, 235, 9, [.val (.ref 896), .val (.int p1)], [.int x1], (126, 120, L, [Y, T, H2, H, RA, RB, ST, NS, I0, I1, I2, BO, FI, RG, GU, PU, MA, MN, MS, OT, SC], [r0, r1, r2, r3, w, 256, r6, r7, r8], Lg))) 5 zh1 e (fun n => Eq.refl _)
  by_cases zc2 : x1 = (-1)
  · have h := itp h zc2
    suffices e : Ev (d + 1, 0, 0, 235, 31, [.val (.ref 896), .val (.int p1)], [], (126, 120, L, [Y, T, H2, H, RA, RB, ST, NS, I0, I1, I2, BO, FI, RG, GU, PU, MA, MN, MS, OT, SC], [r0, r1, r2, r3, w, 256, r6, r7, r8], Lg)) o from ev_t (c := x1 = (-1)) _ _ 2  zc2 e (fun n => Eq.refl _)
    have ze3 := Option.some.inj h
    subst ze3
    exact ev_rete 2 ho (fun n => Eq.refl _)
  · have h := itn h zc2
    suffices e : Ev (d + 1, 0, 0, 235, 13, [.val (.ref 896), .val (.int p1)], [], (126, 120, L, [Y, T, H2, H, RA, RB, ST, NS, I0, I1, I2, BO, FI, RG, GU, PU, MA, MN, MS, OT, SC], [r0, r1, r2, r3, w, 256, r6, r7, r8], Lg)) o from ev_f (c := x1 = (-1)) _ _ 2  zc2 e (fun n => Eq.refl _)
    suffices e : Ev (d + 1, 0, 0, 235, 20, [.val (.ref 896), .val (.int p1)], [.ref 256], (126, 120, L, [Y, T, H2, H, RA, RB, ST, NS, I0, I1, I2, BO, FI, RG, GU, PU, MA, MN, MS, OT, SC], [r0, r1, r2, r3, w, 256, r6, r7, r8], Lg)) o from ev_b 3 e (fun n => Eq.refl _)
    obtain ⟨x2, zh4, h⟩ := bnd h
    have zh4 : f_House_isFixed H p1 = some x2 := zh4
    have ze5 := R_f_House_isFixed_1 (d + 0) Y T H2 H RA RB ST NS I0 I1 I2 BO FI RG GU PU MA MN MS OT SC r0 r1 r2 r3 w 256 r6 r7 r8 L Lg p1 zh4
    suffices e : Ev (d + 1, 0, 0, 235, 24, [.val (.ref 896), .val (.int p1)], [.int x2], (126, 120, L, [Y, T, H2, H, RA, RB, ST, NS, I0, I1, I2, BO, FI, RG, GU, PU, MA, MN, MS, OT, SC], [r0, r1, r2, r3, w, 256, r6, r7, r8], Lg)) o from ev_call (fun v μ => (d + 1, 0, 0, 235, 24, [.val (.ref 896), .val (.int p1)], v.toList ++ [], μ)) 2 ze5 e (fun n => Eq.refl _)
    by_cases zc6 : x2 ≠ 0
    · have h := itp h zc6
      suffices e : Ev (d + 1, 0, 0, 235, 31, [.val (.ref 896), .val (.int p1)], [], (126, 120, L, [Y, T, H2, H, RA, RB, ST, NS, I0, I1, I2, BO, FI, RG, GU, PU, MA, MN, MS, OT, SC], [r0, r1, r2, r3, w, 256, r6, r7, r8], Lg)) o from ev_t (c := x2 ≠ 0) _ _ 1  zc6 e (fun n => Eq.refl _)
      have ze7 := Option.some.inj h
      subst ze7
      exact ev_rete 2 ho (fun n => Eq.refl _)
    · have h := itn h zc6
      suffices e : Ev (d + 1, 0, 0, 235, 27, [.val (.ref 896), .val (.int p1)], [], (126, 120, L, [Y, T, H2, H, RA, RB, ST, NS, I0, I1, I2, BO, FI, RG, GU, PU, MA, MN, MS, OT, SC], [r0, r1, r2, r3, w, 256, r6, r7, r8], Lg)) o from ev_f (c := x2 ≠ 0) _ _ 1  zc6 e (fun n => Eq.refl _)
      have ze8 := Option.some.inj h
      subst ze8
      exact ev_rete 3 ho (fun n => Eq.refl _)
set_option maxRecDepth 1000000 in
set_option maxHeartbeats 4000000 in
theorem R_f_Board_isLawful_1 (d : Nat) (Y T H2 H RA RB ST NS I0 I1 I2 BO FI RG GU PU MA MN MS OT SC : Nat → Nat → Int32) (r0 r1 r2 r3 w r6 r7 r8 : Nat) (L : Nat) (Lg : Int64) {r : Int32} (h : f_Board_isLawful H BO = some r) : Ev (d + 3, 0, 0, 167, 0, [.val (.ref 768), .val a_unk], [], (126, 120, L, [Y, T, H2, H, RA, RB, ST, NS, I0, I1, I2, BO, FI, RG, GU, PU, MA, MN, MS, OT, SC], [r0, r1, r2, r3, w, 256, r6, r7, r8], Lg)) ((0, some (.int r), (126, 120, L, [Y, T, H2, H, RA, RB, ST, NS, I0, I1, I2, BO, FI, RG, GU, PU, MA, MN, MS, OT, SC], [r0, r1, r2, r3, w, 256, r6, r7, r8], Lg)) : AOut) := by
  suffices key : ∀ o : AOut, ((0, some (.int r), (126, 120, L, [Y, T, H2, H, RA, RB, ST, NS, I0, I1, I2, BO, FI, RG, GU, PU, MA, MN, MS, OT, SC], [r0, r1, r2, r3, w, 256, r6, r7, r8], Lg)) : AOut) = o → Ev (d + 3, 0, 0, 167, 0, [.val (.ref 768), .val a_unk], [], (126, 120, L, [Y, T, H2, H, RA, RB, ST, NS, I0, I1, I2, BO, FI, RG, GU, PU, MA, MN, MS, OT, SC], [r0, r1, r2, r3, w, 256, r6, r7, r8], Lg)) o from key _ rfl
  intro o ho
  obtain ⟨zb1, zh2, h⟩ := bnd h
  suffices e : Ev (d + 3, 0, 0, 167, 2, [.val (.ref 768), .val (.int 0)], [], (126, 120, L, [Y, T, H2, H, RA, RB, ST, NS, I0, I1, I2, BO, FI, RG, GU, PU, MA, MN, MS, OT, SC], [r0, r1, r2, r3, w, 256, r6, r7, r8], Lg)) o from ev_b 2 e (fun n => Eq.refl _)
  refine ev_loop (δ := Unit) (fun a j => (d + 3, 0, 0, 167, 2, [.val (.ref 768), .val (.int a)], [], (126, 120, L, [Y, T, H2, H, RA, RB, ST, NS, I0, I1, I2, BO, FI, RG, GU, PU, MA, MN, MS, OT, SC], [r0, r1, r2, r3, w, 256, r6, r7, r8], Lg))) (fun b => sumE b (fun b => ∀ s5 : Value, Ev (d + 3, 0, 0, 167, 45, [.val (.ref 768), .val s5], [], (126, 120, L, [Y, T, H2, H, RA, RB, ST, NS, I0, I1, I2, BO, FI, RG, GU, PU, MA, MN, MS, OT, SC], [r0, r1, r2, r3, w, 256, r6, r7, r8], Lg)) o) (fun b => ((0, some (.int b), (126, 120, L, [Y, T, H2, H, RA, RB, ST, NS, I0, I1, I2, BO, FI, RG, GU, PU, MA, MN, MS, OT, SC], [r0, r1, r2, r3, w, 256, r6, r7, r8], Lg)) : AOut) = o)) ?_ a_F 0 zb1 zh2 ?_ ()
  · rintro v1 zr6 zh5 zi3 zx4 ⟨⟩
    have zh5 : f_Board_isLawful_l2 H BO v1 = some zr6 := zh5
    suffices e : Ev (d + 3, 0, 0, 167, 7, [.val (.ref 768), .val (.int v1)], [.ref 256, .int v1], (126, 120, L, [Y, T, H2, H, RA, RB, ST, NS, I0, I1, I2, BO, FI, RG, GU, PU, MA, MN, MS, OT, SC], [r0, r1, r2, r3, w, 256, r6, r7, r8], Lg)) o from ev_b 3 e (fun n => Eq.refl _)
    by_cases zc7 : (H 0 3) ≤ v1
    · have zh5 := itp zh5 zc7
      suffices e : Ev (d + 3, 0, 0, 167, 45, [.val (.ref 768), .val (.int v1)], [], (126, 120, L, [Y, T, H2, H, RA, RB, ST, NS, I0, I1, I2, BO, FI, RG, GU, PU, MA, MN, MS, OT, SC], [r0, r1, r2, r3, w, 256, r6, r7, r8], Lg)) o from ev_t (c := (H 0 3) ≤ v1) _ _ 2  zc7 e (fun n => Eq.refl _)
      exact ev_b 0 (zx4 _ (Option.some.inj zh5).symm (.int v1)) (fun n => Eq.refl _)
    · have zh5 := itn zh5 zc7
      suffices e : Ev (d + 3, 0, 0, 167, 13, [.val (.ref 768), .val (.int v1)], [], (126, 120, L, [Y, T, H2, H, RA, RB, ST, NS, I0, I1, I2, BO, FI, RG, GU, PU, MA, MN, MS, OT, SC], [r0, r1, r2, r3, w, 256, r6, r7, r8], Lg)) o from ev_f (c := (H 0 3) ≤ v1) _ _ 2  zc7 e (fun n => Eq.refl _)
      obtain ⟨x2, zh8, zh5⟩ := bnd zh5
      have zh8 : rdx (BO 1) 10 v1 = some x2 := zh8
      suffices e : Ev (d + 3, 0, 0, 167, 19, [.val (.ref 768), .val (.int v1)], [.int x2], (126, 120, L, [Y, T, H2, H, RA, RB, ST, NS, I0, I1, I2, BO, FI, RG, GU, PU, MA, MN, MS, OT, SC], [r0, r1, r2, r3, w, 256, r6, r7, r8], Lg)) o from ev_opt (fun x2 => (d + 3, 0, 0, 167, 19, [.val (.ref 768), .val (.int v1)], [.int x2], (126, 120, L, [Y, T, H2, H, RA, RB, ST, NS, I0, I1, I2, BO, FI, RG, GU, PU, MA, MN, MS, OT, SC], [r0, r1, r2, r3, w, 256, r6, r7, r8], Lg))) 4 zh8 e (fun n => Eq.refl _)
      by_cases zc9 : x2 = (-1)
      · have zh5 := itp zh5 zc9
        suffices e : Ev (d + 3, 0, 0, 167, 39, [.val (.ref 768), .val (.int v1)], [], (126, 120, L, [Y, T, H2, H, RA, RB, ST, NS, I0, I1, I2, BO, FI, RG, GU, PU, MA, MN, MS, OT, SC], [r0, r1, r2, r3, w, 256, r6, r7, r8], Lg)) o from ev_t (c := x2 = (-1)) _ _ 2  zc9 e (fun n => Eq.refl _)
        exact ev_b 2 (zi3 _ (Option.some.inj zh5).symm ()) (fun n => Eq.refl _)
      · have zh5 := itn zh5 zc9
        suffices e : Ev (d + 3, 0, 0, 167, 23, [.val (.ref 768), .val (.int v1)], [], (126, 120, L, [Y, T, H2, H, RA, RB, ST, NS, I0, I1, I2, BO, FI, RG, GU, PU, MA, MN, MS, OT, SC], [r0, r1, r2, r3, w, 256, r6, r7, r8], Lg)) o from ev_f (c := x2 = (-1)) _ _ 2  zc9 e (fun n => Eq.refl _)
        obtain ⟨x3, zh10, zh5⟩ := bnd zh5
        have zh10 : rdx (BO 1) 10 v1 = some x3 := zh10
        suffices e : Ev (d + 3, 0, 0, 167, 31, [.val (.ref 768), .val (.int v1)], [.int x3, .int v1, .ref 768], (126, 120, L, [Y, T, H2, H, RA, RB, ST, NS, I0, I1, I2, BO, FI, RG, GU, PU, MA, MN, MS, OT, SC], [r0, r1, r2, r3, w, 256, r6, r7, r8], Lg)) o from ev_opt (fun x3 => (d + 3, 0, 0, 167, 31, [.val (.ref 768), .val (.int v1)], [.int x3, .int v1, .ref 768], (126, 120, L, [Y, T, H2, H, RA, RB, ST, NS, I0, I1, I2, BO, FI, RG, GU, PU, MA, MN, MS, OT, SC], [r0, r1, r2, r3, w, 256, r6, r7, r8], Lg))) 6 zh10 e (fun n => Eq.refl _)
        obtain ⟨x4, zh11, zh5⟩ := bnd zh5
        have zh11 : f_Board_isOpen H BO v1 x3 = some x4 := zh11
        have ze12 := R_f_Board_isOpen_1 (d + 0) Y T H2 H RA RB ST NS I0 I1 I2 BO FI RG GU PU MA MN MS OT SC r0 r1 r2 r3 w r6 r7 r8 L Lg v1 x3 zh11
        suffices e : Ev (d + 3, 0, 0, 167, 34, [.val (.ref 768), .val (.int v1)], [.int x4], (126, 120, L, [Y, T, H2, H, RA, RB, ST, NS, I0, I1, I2, BO, FI, RG, GU, PU, MA, MN, MS, OT, SC], [r0, r1, r2, r3, w, 256, r6, r7, r8], Lg)) o from ev_call (fun v μ => (d + 3, 0, 0, 167, 34, [.val (.ref 768), .val (.int v1)], v.toList ++ [], μ)) 1 ze12 e (fun n => Eq.refl _)
        by_cases zc13 : x4 ≠ 0
        · have zh5 := itp zh5 zc13
          suffices e : Ev (d + 3, 0, 0, 167, 39, [.val (.ref 768), .val (.int v1)], [], (126, 120, L, [Y, T, H2, H, RA, RB, ST, NS, I0, I1, I2, BO, FI, RG, GU, PU, MA, MN, MS, OT, SC], [r0, r1, r2, r3, w, 256, r6, r7, r8], Lg)) o from ev_t (c := x4 ≠ 0) _ _ 1  zc13 e (fun n => Eq.refl _)
          exact ev_b 2 (zi3 _ (Option.some.inj zh5).symm ()) (fun n => Eq.refl _)
        · have zh5 := itn zh5 zc13
          suffices e : Ev (d + 3, 0, 0, 167, 37, [.val (.ref 768), .val (.int v1)], [], (126, 120, L, [Y, T, H2, H, RA, RB, ST, NS, I0, I1, I2, BO, FI, RG, GU, PU, MA, MN, MS, OT, SC], [r0, r1, r2, r3, w, 256, r6, r7, r8], Lg)) o from ev_f (c := x4 ≠ 0) _ _ 1  zc13 e (fun n => Eq.refl _)
          exact ev_rete 2 (zx4 _ (Option.some.inj zh5).symm) (fun n => Eq.refl _)
  · rcases zb1 with ⟨⟩ | zr6
    · intro s5
      have ze14 := Option.some.inj h
      subst ze14
      exact ev_rete 2 ho (fun n => Eq.refl _)
    · have zh15 : some zr6 = some r := h
      exact (congrArg (fun q => ((0, some (.int q), (126, 120, L, [Y, T, H2, H, RA, RB, ST, NS, I0, I1, I2, BO, FI, RG, GU, PU, MA, MN, MS, OT, SC], [r0, r1, r2, r3, w, 256, r6, r7, r8], Lg)) : AOut)) (Option.some.inj zh15)).trans ho
