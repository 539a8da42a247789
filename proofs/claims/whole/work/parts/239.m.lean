/-! printed by program (gen/emitm.py): the reference's methods run as their functions say -/
set_option maxRecDepth 1000000 in
set_option maxHeartbeats 4000000 in
theorem R_f_Board_idleHours_1 (d : Nat) (Y T H2 H RA RB ST NS I0 I1 I2 BO FI RG GU PU MA MN MS OT SC : Nat → Nat → Int32) (r0 r1 r2 r3 w r6 r7 r8 : Nat) (L : Nat) (Lg : Int64) (p1 : Int32) {r : Int32} (h : f_Board_idleHours H BO p1 = some r) : Ev (d + 1, 0, 0, 170, 0, [.val (.ref 768), .val (.int p1), .val a_unk, .val a_unk], [], (126, 120, L, [Y, T, H2, H, RA, RB, ST, NS, I0, I1, I2, BO, FI, RG, GU, PU, MA, MN, MS, OT, SC], [r0, r1, r2, r3, w, 256, r6, r7, r8], Lg)) ((0, some (.int r), (126, 120, L, [Y, T, H2, H, RA, RB, ST, NS, I0, I1, I2, BO, FI, RG, GU, PU, MA, MN, MS, OT, SC], [r0, r1, r2, r3, w, 256, r6, r7, r8], Lg)) : AOut) := by
  suffices key : ∀ o : AOut, ((0, some (.int r), (126, 120, L, [Y, T, H2, H, RA, RB, ST, NS, I0, I1, I2, BO, FI, RG, GU, PU, MA, MN, MS, OT, SC], [r0, r1, r2, r3, w, 256, r6, r7, r8], Lg)) : AOut) = o → Ev (d + 1, 0, 0, 170, 0, [.val (.ref 768), .val (.int p1), .val a_unk, .val a_unk], [], (126, 120, L, [Y, T, H2, H, RA, RB, ST, NS, I0, I1, I2, BO, FI, RG, GU, PU, MA, MN, MS, OT, SC], [r0, r1, r2, r3, w, 256, r6, r7, r8], Lg)) o from key _ rfl
  intro o ho
  suffices e : Ev (d + 1, 0, 0, 170, 5, [.val (.ref 768), .val (.int p1), .val a_unk, .val a_unk], [.ref 256, .int 1], (126, 120, L, [Y, T, H2, H, RA, RB, ST, NS, I0, I1, I2, BO, FI, RG, GU, PU, MA, MN, MS, OT, SC], [r0, r1, r2, r3, w, 256, r6, r7, r8], Lg)) o from ev_b 3 e (fun n => Eq.refl _)
  suffices e : Ev (d + 1, 0, 0, 170, 15, [.val (.ref 768), .val (.int p1), .val a_unk, .val a_unk], [.ref 256, .int ((a_shl 1 (H 0 0)) - 1)], (126, 120, L, [Y, T, H2, H, RA, RB, ST, NS, I0, I1, I2, BO, FI, RG, GU, PU, MA, MN, MS, OT, SC], [r0, r1, r2, r3, w, 256, r6, r7, r8], Lg)) o from ev_b 6 e (fun n => Eq.refl _)
  obtain ⟨x1, zh1, h⟩ := bnd h
  have zh1 : f_House_busyHoursOf H p1 = some x1 := zh1
  have ze2 := R_f_House_busyHoursOf_0 (d + 0) Y T H2 H RA RB ST NS I0 I1 I2 BO FI RG GU PU MA MN MS OT SC r0 r1 r2 r3 w 256 r6 r7 r8 L Lg p1 zh1
  suffices e : Ev (d + 1, 0, 0, 170, 19, [.val (.ref 768), .val (.int p1), .val a_unk, .val a_unk], [.int x1, .int ((a_shl 1 (H 0 0)) - 1)], (126, 120, L, [Y, T, H2, H, RA, RB, ST, NS, I0, I1, I2, BO, FI, RG, GU, PU, MA, MN, MS, OT, SC], [r0, r1, r2, r3, w, 256, r6, r7, r8], Lg)) o from ev_call (fun v μ => (d + 1, 0, 0, 170, 19, [.val (.ref 768), .val (.int p1), .val a_unk, .val a_unk], v.toList ++ [.int ((a_shl 1 (H 0 0)) - 1)], μ)) 2 ze2 e (fun n => Eq.refl _)
  obtain ⟨v8, zh4, h⟩ := bnd h
  suffices e : Ev (d + 1, 0, 0, 170, 25, [.val (.ref 768), .val (.int p1), .val (.int (((a_shl 1 (H 0 0)) - 1) &&& (x1 ^^^ (-1)))), .val (.int 0)], [], (126, 120, L, [Y, T, H2, H, RA, RB, ST, NS, I0, I1, I2, BO, FI, RG, GU, PU, MA, MN, MS, OT, SC], [r0, r1, r2, r3, w, 256, r6, r7, r8], Lg)) o from ev_b 6 e (fun n => Eq.refl _)
  refine ev_loop (δ := Unit) (fun a j => (d + 1, 0, 0, 170, 25, [.val (.ref 768), .val (.int p1), .val (.int a.1), .val (.int a.2)], [], (126, 120, L, [Y, T, H2, H, RA, RB, ST, NS, I0, I1, I2, BO, FI, RG, GU, PU, MA, MN, MS, OT, SC], [r0, r1, r2, r3, w, 256, r6, r7, r8], Lg))) (fun b => ∀ s9 : Value, Ev (d + 1, 0, 0, 170, 82, [.val (.ref 768), .val (.int p1), .val (.int b), .val s9], [], (126, 120, L, [Y, T, H2, H, RA, RB, ST, NS, I0, I1, I2, BO, FI, RG, GU, PU, MA, MN, MS, OT, SC], [r0, r1, r2, r3, w, 256, r6, r7, r8], Lg)) o) ?_ a_F ((((a_shl 1 (H 0 0)) - 1) &&& (x1 ^^^ (-1))), 0) v8 zh4 ?_ ()
  · rintro ⟨v2, v3⟩ zr8 zh7 zi5 zx6 ⟨⟩
    have zh7 : f_Board_idleHours_l25 H BO p1 v2 v3 = some zr8 := zh7
    suffices e : Ev (d + 1, 0, 0, 170, 30, [.val (.ref 768), .val (.int p1), .val (.int v2), .val (.int v3)], [.ref 256, .int v3], (126, 120, L, [Y, T, H2, H, RA, RB, ST, NS, I0, I1, I2, BO, FI, RG, GU, PU, MA, MN, MS, OT, SC], [r0, r1, r2, r3, w, 256, r6, r7, r8], Lg)) o from ev_b 3 e (fun n => Eq.refl _)
    by_cases zc9 : (H 0 3) ≤ v3
    · have zh7 := itp zh7 zc9
      suffices e : Ev (d + 1, 0, 0, 170, 82, [.val (.ref 768), .val (.int p1), .val (.int v2), .val (.int v3)], [], (126, 120, L, [Y, T, H2, H, RA, RB, ST, NS, I0, I1, I2, BO, FI, RG, GU, PU, MA, MN, MS, OT, SC], [r0, r1, r2, r3, w, 256, r6, r7, r8], Lg)) o from ev_t (c := (H 0 3) ≤ v3) _ _ 2  zc9 e (fun n => Eq.refl _)
      exact ev_b 0 (zx6 _ (Option.some.inj zh7).symm (.int v3)) (fun n => Eq.refl _)
    · have zh7 := itn zh7 zc9
      suffices e : Ev (d + 1, 0, 0, 170, 36, [.val (.ref 768), .val (.int p1), .val (.int v2), .val (.int v3)], [], (126, 120, L, [Y, T, H2, H, RA, RB, ST, NS, I0, I1, I2, BO, FI, RG, GU, PU, MA, MN, MS, OT, SC], [r0, r1, r2, r3, w, 256, r6, r7, r8], Lg)) o from ev_f (c := (H 0 3) ≤ v3) _ _ 2  zc9 e (fun n => Eq.refl _)
      obtain ⟨x4, zh10, zh7⟩ := bnd zh7
      have zh10 : rdx (BO 1) 10 v3 = some x4 := zh10
      suffices e : Ev (d + 1, 0, 0, 170, 42, [.val (.ref 768), .val (.int p1), .val (.int v2), .val (.int v3)], [.int x4], (126, 120, L, [Y, T, H2, H, RA, RB, ST, NS, I0, I1, I2, BO, FI, RG, GU, PU, MA, MN, MS, OT, SC], [r0, r1, r2, r3, w, 256, r6, r7, r8], Lg)) o from ev_opt (fun x4 => (d + 1, 0, 0, 170, 42, [.val (.ref 768), .val (.int p1), .val (.int v2), .val (.int v3)], [.int x4], (126, 120, L, [Y, T, H2, H, RA, RB, ST, NS, I0, I1, I2, BO, FI, RG, GU, PU, MA, MN, MS, OT, SC], [r0, r1, r2, r3, w, 256, r6, r7, r8], Lg))) 4 zh10 e (fun n => Eq.refl _)
      by_cases zc11 : x4 = (-1)
      · have zh7 := itp zh7 zc11
        suffices e : Ev (d + 1, 0, 0, 170, 76, [.val (.ref 768), .val (.int p1), .val (.int v2), .val (.int v3)], [], (126, 120, L, [Y, T, H2, H, RA, RB, ST, NS, I0, I1, I2, BO, FI, RG, GU, PU, MA, MN, MS, OT, SC], [r0, r1, r2, r3, w, 256, r6, r7, r8], Lg)) o from ev_t (c := x4 = (-1)) _ _ 2  zc11 e (fun n => Eq.refl _)
        exact ev_b 2 (zi5 _ (Option.some.inj zh7).symm ()) (fun n => Eq.refl _)
      · have zh7 := itn zh7 zc11
        suffices e : Ev (d + 1, 0, 0, 170, 46, [.val (.ref 768), .val (.int p1), .val (.int v2), .val (.int v3)], [], (126, 120, L, [Y, T, H2, H, RA, RB, ST, NS, I0, I1, I2, BO, FI, RG, GU, PU, MA, MN, MS, OT, SC], [r0, r1, r2, r3, w, 256, r6, r7, r8], Lg)) o from ev_f (c := x4 = (-1)) _ _ 2  zc11 e (fun n => Eq.refl _)
        suffices e : Ev (d + 1, 0, 0, 170, 50, [.val (.ref 768), .val (.int p1), .val (.int v2), .val (.int v3)], [.ref 256], (126, 120, L, [Y, T, H2, H, RA, RB, ST, NS, I0, I1, I2, BO, FI, RG, GU, PU, MA, MN, MS, OT, SC], [r0, r1, r2, r3, w, 256, r6, r7, r8], Lg)) o from ev_b 2 e (fun n => Eq.refl _)
        obtain ⟨x5, zh12, zh7⟩ := bnd zh7
        have zh12 : rdx (H 8) 10 v3 = some x5 := zh12
        suffices e : Ev (d + 1, 0, 0, 170, 55, [.val (.ref 768), .val (.int p1), .val (.int v2), .val (.int v3)], [.int x5], (126, 120, L, [Y, T, H2, H, RA, RB, ST, NS, I0, I1, I2, BO, FI, RG, GU, PU, MA, MN, MS, OT, SC], [r0, r1, r2, r3, w, 256, r6, r7, r8], Lg)) o from ev_opt (fun x5 => (d + 1, 0, 0, 170, 55, [.val (.ref 768), .val (.int p1), .val (.int v2), .val (.int v3)], [.int x5], (126, 120, L, [Y, T, H2, H, RA, RB, ST, NS, I0, I1, I2, BO, FI, RG, GU, PU, MA, MN, MS, OT, SC], [r0, r1, r2, r3, w, 256, r6, r7, r8], Lg))) 3 zh12 e (fun n => Eq.refl _)
        by_cases zc13 : (x5 &&& p1) = 0
        · have zh7 := itp zh7 zc13
          suffices e : Ev (d + 1, 0, 0, 170, 76, [.val (.ref 768), .val (.int p1), .val (.int v2), .val (.int v3)], [], (126, 120, L, [Y, T, H2, H, RA, RB, ST, NS, I0, I1, I2, BO, FI, RG, GU, PU, MA, MN, MS, OT, SC], [r0, r1, r2, r3, w, 256, r6, r7, r8], Lg)) o from ev_t (c := (x5 &&& p1) = 0) _ _ 3  zc13 e (fun n => Eq.refl _)
          exact ev_b 2 (zi5 _ (Option.some.inj zh7).symm ()) (fun n => Eq.refl _)
        · have zh7 := itn zh7 zc13
          suffices e : Ev (d + 1, 0, 0, 170, 60, [.val (.ref 768), .val (.int p1), .val (.int v2), .val (.int v3)], [], (126, 120, L, [Y, T, H2, H, RA, RB, ST, NS, I0, I1, I2, BO, FI, RG, GU, PU, MA, MN, MS, OT, SC], [r0, r1, r2, r3, w, 256, r6, r7, r8], Lg)) o from ev_f (c := (x5 &&& p1) = 0) _ _ 3  zc13 e (fun n => Eq.refl _)
          obtain ⟨x6, zh14, zh7⟩ := bnd zh7
          have zh14 : rdx (BO 1) 10 v3 = some x6 := zh14
          suffices e : Ev (d + 1, 0, 0, 170, 68, [.val (.ref 768), .val (.int p1), .val (.int v2), .val (.int v3)], [.int x6, .int 1, .int v2], (126, 120, L, [Y, T, H2, H, RA, RB, ST, NS, I0, I1, I2, BO, FI, RG, GU, PU, MA, MN, MS, OT, SC], [r0, r1, r2, r3, w, 256, r6, r7, r8], Lg)) o from ev_opt (fun x6 => (d + 1, 0, 0, 170, 68, [.val (.ref 768), .val (.int p1), .val (.int v2), .val (.int v3)], [.int x6, .int 1, .int v2], (126, 120, L, [Y, T, H2, H, RA, RB, ST, NS, I0, I1, I2, BO, FI, RG, GU, PU, MA, MN, MS, OT, SC], [r0, r1, r2, r3, w, 256, r6, r7, r8], Lg))) 6 zh14 e (fun n => Eq.refl _)
          obtain ⟨x7, zh15, zh7⟩ := bnd zh7
          have zh15 : f_Y_hourOf x6 = some x7 := zh15
          have ze16 := R_f_Y_hourOf_0 (d + 0) Y T H2 H RA RB ST NS I0 I1 I2 BO FI RG GU PU MA MN MS OT SC r0 r1 r2 r3 w 256 r6 r7 r8 L Lg x6 zh15
          suffices e : Ev (d + 1, 0, 0, 170, 71, [.val (.ref 768), .val (.int p1), .val (.int v2), .val (.int v3)], [.int x7, .int 1, .int v2], (126, 120, L, [Y, T, H2, H, RA, RB, ST, NS, I0, I1, I2, BO, FI, RG, GU, PU, MA, MN, MS, OT, SC], [r0, r1, r2, r3, w, 256, r6, r7, r8], Lg)) o from ev_call (fun v μ => (d + 1, 0, 0, 170, 71, [.val (.ref 768), .val (.int p1), .val (.int v2), .val (.int v3)], v.toList ++ [.int 1, .int v2], μ)) 1 ze16 e (fun n => Eq.refl _)
          exact ev_b 7 (zi5 _ (Option.some.inj zh7).symm ()) (fun n => Eq.refl _)
  · skip
    intro s9
    have ze17 := Option.some.inj h
    subst ze17
    exact ev_rete 2 ho (fun n => Eq.refl _)
set_option maxRecDepth 1000000 in
set_option maxHeartbeats 4000000 in
theorem R_f_Y_gap_2 (d : Nat) (Y T H2 H RU RV ST NS I0 I1 I2 BO FI RG GU PU MA MN MS OT SC : Nat → Nat → Int32) (w r5 : Nat) (L : Nat) (Lg : Int64) (p1 : Int32) {r : Nat × Int32 × (Nat → Nat → Int32) × (Nat → Nat → Int32) × Nat} (h : f_Y_gap Y H NS BO 256 r5 p1 = some r) : Ev (d + 3, 1, 8, 319, 0, [.val (.ref 64), .val (.int p1)], [], (126, 120, L, [Y, T, H2, H, RU, RV, ST, NS, I0, I1, I2, BO, FI, RG, GU, PU, MA, MN, MS, OT, SC], [256, 192, 320, 384, w, r5, 576, 640, 704], Lg)) ((r.1, a_ov r.1 (.int r.2.1), (126, 120, L, [r.2.2.1, T, H2, H, RU, RV, ST, NS, I0, I1, I2, r.2.2.2.1, FI, RG, GU, PU, MA, MN, MS, OT, SC], [256, 192, 320, 384, w, r.2.2.2.2, 576, 640, 704], Lg)) : AOut) := by
  suffices key : ∀ o : AOut, ((r.1, a_ov r.1 (.int r.2.1), (126, 120, L, [r.2.2.1, T, H2, H, RU, RV, ST, NS, I0, I1, I2, r.2.2.2.1, FI, RG, GU, PU, MA, MN, MS, OT, SC], [256, 192, 320, 384, w, r.2.2.2.2, 576, 640, 704], Lg)) : AOut) = o → Ev (d + 3, 1, 8, 319, 0, [.val (.ref 64), .val (.int p1)], [], (126, 120, L, [Y, T, H2, H, RU, RV, ST, NS, I0, I1, I2, BO, FI, RG, GU, PU, MA, MN, MS, OT, SC], [256, 192, 320, 384, w, r5, 576, 640, 704], Lg)) o from key _ rfl
  intro o ho
  obtain ⟨⟨q1, Y_2⟩, zh1, h⟩ := bnd h
  have zh1 : f_Y_needPeople Y H p1 = some (q1, Y_2) := zh1
  have ze2 := R_f_Y_needPeople_2 (d + 1) Y T H2 H RU RV ST NS I0 I1 I2 BO FI RG GU PU MA MN MS OT SC w r5 L Lg p1 zh1
  cases q1 with
  | zero =>
    have h := itp h rfl
    suffices e : Ev (d + 3, 0, 0, 319, 5, [.val (.ref 64), .val (.int p1)], [], (126, 120, L, [Y_2, T, H2, H, RU, RV, ST, NS, I0, I1, I2, BO, FI, RG, GU, PU, MA, MN, MS, OT, SC], [256, 192, 320, 384, w, r5, 576, 640, 704], Lg)) o from ev_call (fun v μ => (d + 3, 0, 0, 319, 5, [.val (.ref 64), .val (.int p1)], v.toList ++ [], μ)) 3 ze2 e (fun n => Eq.refl _)
    obtain ⟨BO_4, zh3, h⟩ := bnd h
    have zh3 : f_Y_lookNow H NS BO = some BO_4 := zh3
    have ze4 := R_f_Y_lookNow_2 (d + 0) Y_2 T H2 H RU RV ST NS I0 I1 I2 BO FI RG GU PU MA MN MS OT SC w r5 L Lg zh3
    suffices e : Ev (d + 3, 0, 0, 319, 9, [.val (.ref 64), .val (.int p1)], [.ref 768], (126, 120, L, [Y_2, T, H2, H, RU, RV, ST, NS, I0, I1, I2, BO_4, FI, RG, GU, PU, MA, MN, MS, OT, SC], [256, 192, 320, 384, w, 256, 576, 640, 704], Lg)) o from ev_call (fun v μ => (d + 3, 0, 0, 319, 9, [.val (.ref 64), .val (.int p1)], v.toList ++ [], μ)) 2 ze4 e (fun n => Eq.refl _)
    obtain ⟨x5, zh5, h⟩ := bnd h
    have zh5 : f_Board_idleHours H BO_4 p1 = some x5 := zh5
    have ze6 := R_f_Board_idleHours_1 (d + 1) Y_2 T H2 H RU RV ST NS I0 I1 I2 BO_4 FI RG GU PU MA MN MS OT SC 256 192 320 384 w 576 640 704 L Lg p1 zh5
    suffices e : Ev (d + 3, 0, 0, 319, 13, [.val (.ref 64), .val (.int p1)], [.int x5], (126, 120, L, [Y_2, T, H2, H, RU, RV, ST, NS, I0, I1, I2, BO_4, FI, RG, GU, PU, MA, MN, MS, OT, SC], [256, 192, 320, 384, w, 256, 576, 640, 704], Lg)) o from ev_call (fun v μ => (d + 3, 0, 0, 319, 13, [.val (.ref 64), .val (.int p1)], v.toList ++ [], μ)) 2 ze6 e (fun n => Eq.refl _)
    have ze7 := Option.some.inj h
    subst ze7
    exact ev_rete 1 ho (fun n => Eq.refl _)
  | succ q1 =>
    have h := itn h (Nat.succ_ne_zero q1)
    have ze8 := Option.some.inj h
    subst ze8
    subst ho
    exact ev_thr (fun v μ => (d + 3, 0, 0, 319, 5, [.val (.ref 64), .val (.int p1)], v.toList ++ [], μ)) 3 ze2 (fun n => Eq.refl _) (fun n => rfl)
set_option maxRecDepth 1000000 in
set_option maxHeartbeats 4000000 in
theorem R_f_Y_needPeople_3 (d : Nat) (Y T H2 H RV RU ST NS I0 I1 I2 BO FI RG GU PU MA MN MS OT SC : Nat → Nat → Int32) (w r5 : Nat) (L : Nat) (Lg : Int64) (p1 : Int32) {r : Nat × (Nat → Nat → Int32)} (h : f_Y_needPeople Y H p1 = some r) : Ev (d + 1, 1, 8, 341, 0, [.val (.ref 64), .val (.int p1)], [], (126, 120, L, [Y, T, H2, H, RV, RU, ST, NS, I0, I1, I2, BO, FI, RG, GU, PU, MA, MN, MS, OT, SC], [256, 192, 384, 320, w, r5, 576, 640, 704], Lg)) ((r.1, none, (126, 120, L, [r.2, T, H2, H, RV, RU, ST, NS, I0, I1, I2, BO, FI, RG, GU, PU, MA, MN, MS, OT, SC], [256, 192, 384, 320, w, r5, 576, 640, 704], Lg)) : AOut) := by
  suffices key : ∀ o : AOut, ((r.1, none, (126, 120, L, [r.2, T, H2, H, RV, RU, ST, NS, I0, I1, I2, BO, FI, RG, GU, PU, MA, MN, MS, OT, SC], [256, 192, 384, 320, w, r5, 576, 640, 704], Lg)) : AOut) = o → Ev (d + 1, 1, 8, 341, 0, [.val (.ref 64), .val (.int p1)], [], (126, 120, L, [Y, T, H2, H, RV, RU, ST, NS, I0, I1, I2, BO, FI, RG, GU, PU, MA, MN, MS, OT, SC], [256, 192, 384, 320, w, r5, 576, 640, 704], Lg)) o from key _ rfl
  intro o ho
  suffices e : Ev (d + 1, 1, 8, 341, 6, [.val (.ref 64), .val (.int p1)], [.ref 256, .int p1, .ref 64], (126, 120, L, [Y, T, H2, H, RV, RU, ST, NS, I0, I1, I2, BO, FI, RG, GU, PU, MA, MN, MS, OT, SC], [256, 192, 384, 320, w, r5, 576, 640, 704], Lg)) o from ev_b 4 e (fun n => Eq.refl _)
  obtain ⟨x1, zh1, h⟩ := bnd h
  have zh1 : f_House_allPeople H = some x1 := zh1
  have ze2 := R_f_House_allPeople_1 (d + 0) Y T H2 H RV RU ST NS I0 I1 I2 BO FI RG GU PU MA MN MS OT SC 256 192 384 320 w r5 576 640 704 L Lg zh1
  suffices e : Ev (d + 1, 1, 8, 341, 9, [.val (.ref 64), .val (.int p1)], [.int x1, .int p1, .ref 64], (126, 120, L, [Y, T, H2, H, RV, RU, ST, NS, I0, I1, I2, BO, FI, RG, GU, PU, MA, MN, MS, OT, SC], [256, 192, 384, 320, w, r5, 576, 640, 704], Lg)) o from ev_call (fun v μ => (d + 1, 1, 8, 341, 9, [.val (.ref 64), .val (.int p1)], v.toList ++ [.int p1, .ref 64], μ)) 1 ze2 e (fun n => Eq.refl _)
  obtain ⟨zt3, zh4, h⟩ := bnd h
  have zj5 : ∀ (v2 : Int32), v2 = zt3 → Ev (d + 1, 1, 8, 341, 20, [.val (.ref 64), .val (.int p1)], [.int v2, .ref 64], (126, 120, L, [Y, T, H2, H, RV, RU, ST, NS, I0, I1, I2, BO, FI, RG, GU, PU, MA, MN, MS, OT, SC], [256, 192, 384, 320, w, r5, 576, 640, 704], Lg)) o := by
    intro v2 ze6
    subst ze6
    obtain ⟨⟨q3, Y_4⟩, zh7, h⟩ := bnd h
    have zh7 : f_Y_refuseUnless Y v2 = some (q3, Y_4) := zh7
    have ze8 := R_f_Y_refuseUnless_3 (d + 0) Y T H2 H RV RU ST NS I0 I1 I2 BO FI RG GU PU MA MN MS OT SC w r5 L Lg v2 zh7
    cases q3 with
    | zero =>
      have h := itp h rfl
      suffices e : Ev (d + 1, 0, 0, 341, 23, [.val (.ref 64), .val (.int p1)], [], (126, 120, L, [Y_4, T, H2, H, RV, RU, ST, NS, I0, I1, I2, BO, FI, RG, GU, PU, MA, MN, MS, OT, SC], [256, 192, 384, 320, w, r5, 576, 640, 704], Lg)) o from ev_call (fun v μ => (d + 1, 0, 0, 341, 23, [.val (.ref 64), .val (.int p1)], v.toList ++ [], μ)) 1 ze8 e (fun n => Eq.refl _)
      have ze9 := Option.some.inj h
      subst ze9
      exact ev_rete 1 ho (fun n => Eq.refl _)
    | succ q3 =>
      have h := itn h (Nat.succ_ne_zero q3)
      have ze10 := Option.some.inj h
      subst ze10
      subst ho
      exact ev_thr (fun v μ => (d + 1, 0, 0, 341, 23, [.val (.ref 64), .val (.int p1)], v.toList ++ [], μ)) 1 ze8 (fun n => Eq.refl _) (fun n => rfl)
  by_cases zc11 : (p1 &&& (x1 ^^^ (-1))) ≠ 0
  · have zh4 := itp zh4 zc11
    suffices e : Ev (d + 1, 1, 8, 341, 19, [.val (.ref 64), .val (.int p1)], [.ref 64], (126, 120, L, [Y, T, H2, H, RV, RU, ST, NS, I0, I1, I2, BO, FI, RG, GU, PU, MA, MN, MS, OT, SC], [256, 192, 384, 320, w, r5, 576, 640, 704], Lg)) o from ev_t (c := (p1 &&& (x1 ^^^ (-1))) ≠ 0) _ _ 4  zc11 e (fun n => Eq.refl _)
    exact ev_b 1 (zj5 0 (Option.some.inj zh4) ) (fun n => Eq.refl _)
  · have zh4 := itn zh4 zc11
    suffices e : Ev (d + 1, 1, 8, 341, 15, [.val (.ref 64), .val (.int p1)], [.ref 64], (126, 120, L, [Y, T, H2, H, RV, RU, ST, NS, I0, I1, I2, BO, FI, RG, GU, PU, MA, MN, MS, OT, SC], [256, 192, 384, 320, w, r5, 576, 640, 704], Lg)) o from ev_f (c := (p1 &&& (x1 ^^^ (-1))) ≠ 0) _ _ 4  zc11 e (fun n => Eq.refl _)
    exact ev_b 2 (zj5 1 (Option.some.inj zh4) ) (fun n => Eq.refl _)
set_option maxRecDepth 1000000 in
set_option maxHeartbeats 4000000 in
theorem R_f_Y_gap_3 (d : Nat) (Y T H2 H RV RU ST NS I0 I1 I2 BO FI RG GU PU MA MN MS OT SC : Nat → Nat → Int32) (w r5 : Nat) (L : Nat) (Lg : Int64) (p1 : Int32) {r : Nat × Int32 × (Nat → Nat → Int32) × (Nat → Nat → Int32) × Nat} (h : f_Y_gap Y H NS BO 256 r5 p1 = some r) : Ev (d + 3, 1, 8, 319, 0, [.val (.ref 64), .val (.int p1)], [], (126, 120, L, [Y, T, H2, H, RV, RU, ST, NS, I0, I1, I2, BO, FI, RG, GU, PU, MA, MN, MS, OT, SC], [256, 192, 384, 320, w, r5, 576, 640, 704], Lg)) ((r.1, a_ov r.1 (.int r.2.1), (126, 120, L, [r.2.2.1, T, H2, H, RV, RU, ST, NS, I0, I1, I2, r.2.2.2.1, FI, RG, GU, PU, MA, MN, MS, OT, SC], [256, 192, 384, 320, w, r.2.2.2.2, 576, 640, 704], Lg)) : AOut) := by
  suffices key : ∀ o : AOut, ((r.1, a_ov r.1 (.int r.2.1), (126, 120, L, [r.2.2.1, T, H2, H, RV, RU, ST, NS, I0, I1, I2, r.2.2.2.1, FI, RG, GU, PU, MA, MN, MS, OT, SC], [256, 192, 384, 320, w, r.2.2.2.2, 576, 640, 704], Lg)) : AOut) = o → Ev (d + 3, 1, 8, 319, 0, [.val (.ref 64), .val (.int p1)], [], (126, 120, L, [Y, T, H2, H, RV, RU, ST, NS, I0, I1, I2, BO, FI, RG, GU, PU, MA, MN, MS, OT, SC], [256, 192, 384, 320, w, r5, 576, 640, 704], Lg)) o from key _ rfl
  intro o ho
  obtain ⟨⟨q1, Y_2⟩, zh1, h⟩ := bnd h
  have zh1 : f_Y_needPeople Y H p1 = some (q1, Y_2) := zh1
  have ze2 := R_f_Y_needPeople_3 (d + 1) Y T H2 H RV RU ST NS I0 I1 I2 BO FI RG GU PU MA MN MS OT SC w r5 L Lg p1 zh1
  cases q1 with
  | zero =>
    have h := itp h rfl
    suffices e : Ev (d + 3, 0, 0, 319, 5, [.val (.ref 64), .val (.int p1)], [], (126, 120, L, [Y_2, T, H2, H, RV, RU, ST, NS, I0, I1, I2, BO, FI, RG, GU, PU, MA, MN, MS, OT, SC], [256, 192, 384, 320, w, r5, 576, 640, 704], Lg)) o from ev_call (fun v μ => (d + 3, 0, 0, 319, 5, [.val (.ref 64), .val (.int p1)], v.toList ++ [], μ)) 3 ze2 e (fun n => Eq.refl _)
    obtain ⟨BO_4, zh3, h⟩ := bnd h
    have zh3 : f_Y_lookNow H NS BO = some BO_4 := zh3
    have ze4 := R_f_Y_lookNow_3 (d + 0) Y_2 T H2 H RV RU ST NS I0 I1 I2 BO FI RG GU PU MA MN MS OT SC w r5 L Lg zh3
    suffices e : Ev (d + 3, 0, 0, 319, 9, [.val (.ref 64), .val (.int p1)], [.ref 768], (126, 120, L, [Y_2, T, H2, H, RV, RU, ST, NS, I0, I1, I2, BO_4, FI, RG, GU, PU, MA, MN, MS, OT, SC], [256, 192, 384, 320, w, 256, 576, 640, 704], Lg)) o from ev_call (fun v μ => (d + 3, 0, 0, 319, 9, [.val (.ref 64), .val (.int p1)], v.toList ++ [], μ)) 2 ze4 e (fun n => Eq.refl _)
    obtain ⟨x5, zh5, h⟩ := bnd h
    have zh5 : f_Board_idleHours H BO_4 p1 = some x5 := zh5
    have ze6 := R_f_Board_idleHours_1 (d + 1) Y_2 T H2 H RV RU ST NS I0 I1 I2 BO_4 FI RG GU PU MA MN MS OT SC 256 192 384 320 w 576 640 704 L Lg p1 zh5
    suffices e : Ev (d + 3, 0, 0, 319, 13, [.val (.ref 64), .val (.int p1)], [.int x5], (126, 120, L, [Y_2, T, H2, H, RV, RU, ST, NS, I0, I1, I2, BO_4, FI, RG, GU, PU, MA, MN, MS, OT, SC], [256, 192, 384, 320, w, 256, 576, 640, 704], Lg)) o from ev_call (fun v μ => (d + 3, 0, 0, 319, 13, [.val (.ref 64), .val (.int p1)], v.toList ++ [], μ)) 2 ze6 e (fun n => Eq.refl _)
    have ze7 := Option.some.inj h
    subst ze7
    exact ev_rete 1 ho (fun n => Eq.refl _)
  | succ q1 =>
    have h := itn h (Nat.succ_ne_zero q1)
    have ze8 := Option.some.inj h
    subst ze8
    subst ho
    exact ev_thr (fun v μ => (d + 3, 0, 0, 319, 5, [.val (.ref 64), .val (.int p1)], v.toList ++ [], μ)) 3 ze2 (fun n => Eq.refl _) (fun n => rfl)
set_option maxRecDepth 1000000 in
set_option maxHeartbeats 4000000 in
theorem R_f_Y_together_0 (d : Nat) (Y T H H2 RU RV ST NS I0 I1 I2 BO FI RG GU PU MA MN MS OT SC : Nat → Nat → Int32) (w r5 : Nat) (L : Nat) (Lg : Int64) (p1 : Int32) (p2 : Int32) {r : Nat × Int32 × (Nat → Nat → Int32) × (Nat → Nat → Int32) × Nat} (h : f_Y_together Y H NS BO 192 r5 p1 p2 = some r) : Ev (d + 3, 2, 16, 320, 0, [.val (.ref 64), .val (.int p1), .val (.int p2), .val a_unk, .val a_unk, .val a_unk], [], (126, 120, L, [Y, T, H, H2, RU, RV, ST, NS, I0, I1, I2, BO, FI, RG, GU, PU, MA, MN, MS, OT, SC], [192, 256, 320, 384, w, r5, 576, 640, 704], Lg)) ((r.1, a_ov r.1 (.int r.2.1), (126, 120, L, [r.2.2.1, T, H, H2, RU, RV, ST, NS, I0, I1, I2, r.2.2.2.1, FI, RG, GU, PU, MA, MN, MS, OT, SC], [192, 256, 320, 384, w, r.2.2.2.2, 576, 640, 704], Lg)) : AOut) := by
  suffices key : ∀ o : AOut, ((r.1, a_ov r.1 (.int r.2.1), (126, 120, L, [r.2.2.1, T, H, H2, RU, RV, ST, NS, I0, I1, I2, r.2.2.2.1, FI, RG, GU, PU, MA, MN, MS, OT, SC], [192, 256, 320, 384, w, r.2.2.2.2, 576, 640, 704], Lg)) : AOut) = o → Ev (d + 3, 2, 16, 320, 0, [.val (.ref 64), .val (.int p1), .val (.int p2), .val a_unk, .val a_unk, .val a_unk], [], (126, 120, L, [Y, T, H, H2, RU, RV, ST, NS, I0, I1, I2, BO, FI, RG, GU, PU, MA, MN, MS, OT, SC], [192, 256, 320, 384, w, r5, 576, 640, 704], Lg)) o from key _ rfl
  intro o ho
  obtain ⟨⟨q1, Y_2⟩, zh1, h⟩ := bnd h
  have zh1 : f_Y_needPeople Y H p1 = some (q1, Y_2) := zh1
  have ze2 := R_f_Y_needPeople_0 (d + 1) Y T H H2 RU RV ST NS I0 I1 I2 BO FI RG GU PU MA MN MS OT SC w r5 L Lg p1 zh1
  cases q1 with
  | zero =>
    have h := itp h rfl
    suffices e : Ev (d + 3, 1, 8, 320, 5, [.val (.ref 64), .val (.int p1), .val (.int p2), .val a_unk, .val a_unk, .val a_unk], [], (126, 120, L, [Y_2, T, H, H2, RU, RV, ST, NS, I0, I1, I2, BO, FI, RG, GU, PU, MA, MN, MS, OT, SC], [192, 256, 320, 384, w, r5, 576, 640, 704], Lg)) o from ev_call (fun v μ => (d + 3, 1, 8, 320, 5, [.val (.ref 64), .val (.int p1), .val (.int p2), .val a_unk, .val a_unk, .val a_unk], v.toList ++ [], μ)) 3 ze2 e (fun n => Eq.refl _)
    obtain ⟨zt3, zh4, h⟩ := bnd h
    have zj5 : ∀ (v3 : Int32), v3 = zt3 → Ev (d + 3, 1, 8, 320, 22, [.val (.ref 64), .val (.int p1), .val (.int p2), .val a_unk, .val a_unk, .val a_unk], [.int v3, .ref 64], (126, 120, L, [Y_2, T, H, H2, RU, RV, ST, NS, I0, I1, I2, BO, FI, RG, GU, PU, MA, MN, MS, OT, SC], [192, 256, 320, 384, w, r5, 576, 640, 704], Lg)) o := by
      intro v3 ze6
      subst ze6
      obtain ⟨⟨q4, Y_5⟩, zh7, h⟩ := bnd h
      have zh7 : f_Y_refuseUnless Y_2 v3 = some (q4, Y_5) := zh7
      have ze8 := R_f_Y_refuseUnless_0 (d + 2) Y_2 T H H2 RU RV ST NS I0 I1 I2 BO FI RG GU PU MA MN MS OT SC w r5 L Lg v3 zh7
      cases q4 with
      | zero =>
        have h := itp h rfl
        suffices e : Ev (d + 3, 0, 0, 320, 25, [.val (.ref 64), .val (.int p1), .val (.int p2), .val a_unk, .val a_unk, .val a_unk], [], (126, 120, L, [Y_5, T, H, H2, RU, RV, ST, NS, I0, I1, I2, BO, FI, RG, GU, PU, MA, MN, MS, OT, SC], [192, 256, 320, 384, w, r5, 576, 640, 704], Lg)) o from ev_call (fun v μ => (d + 3, 0, 0, 320, 25, [.val (.ref 64), .val (.int p1), .val (.int p2), .val a_unk, .val a_unk, .val a_unk], v.toList ++ [], μ)) 1 ze8 e (fun n => Eq.refl _)
        obtain ⟨BO_7, zh9, h⟩ := bnd h
        have zh9 : f_Y_lookNow H NS BO = some BO_7 := zh9
        have ze10 := R_f_Y_lookNow_0 (d + 0) Y_5 T H H2 RU RV ST NS I0 I1 I2 BO FI RG GU PU MA MN MS OT SC w r5 L Lg zh9
        suffices e : Ev (d + 3, 0, 0, 320, 29, [.val (.ref 64), .val (.int p1), .val (.int p2), .val a_unk, .val a_unk, .val a_unk], [.ref 768], (126, 120, L, [Y_5, T, H, H2, RU, RV, ST, NS, I0, I1, I2, BO_7, FI, RG, GU, PU, MA, MN, MS, OT, SC], [192, 256, 320, 384, w, 192, 576, 640, 704], Lg)) o from ev_call (fun v μ => (d + 3, 0, 0, 320, 29, [.val (.ref 64), .val (.int p1), .val (.int p2), .val a_unk, .val a_unk, .val a_unk], v.toList ++ [], μ)) 2 ze10 e (fun n => Eq.refl _)
        obtain ⟨x8, zh11, h⟩ := bnd h
        have zh11 : f_Board_idleHours H BO_7 p1 = some x8 := zh11
        have ze12 := R_f_Board_idleHours_0 (d + 1) Y_5 T H H2 RU RV ST NS I0 I1 I2 BO_7 FI RG GU PU MA MN MS OT SC 192 256 320 384 w 576 640 704 L Lg p1 zh11
        suffices e : Ev (d + 3, 0, 0, 320, 33, [.val (.ref 64), .val (.int p1), .val (.int p2), .val a_unk, .val a_unk, .val a_unk], [.int x8], (126, 120, L, [Y_5, T, H, H2, RU, RV, ST, NS, I0, I1, I2, BO_7, FI, RG, GU, PU, MA, MN, MS, OT, SC], [192, 256, 320, 384, w, 192, 576, 640, 704], Lg)) o from ev_call (fun v μ => (d + 3, 0, 0, 320, 33, [.val (.ref 64), .val (.int p1), .val (.int p2), .val a_unk, .val a_unk, .val a_unk], v.toList ++ [], μ)) 2 ze12 e (fun n => Eq.refl _)
        obtain ⟨zb13, zh14, h⟩ := bnd h
        suffices e : Ev (d + 3, 0, 0, 320, 44, [.val (.ref 64), .val (.int p1), .val (.int p2), .val (.int x8), .val (.int ((a_shl 1 p2) - 1)), .val (.int 0)], [], (126, 120, L, [Y_5, T, H, H2, RU, RV, ST, NS, I0, I1, I2, BO_7, FI, RG, GU, PU, MA, MN, MS, OT, SC], [192, 256, 320, 384, w, 192, 576, 640, 704], Lg)) o from ev_b 9 e (fun n => Eq.refl _)
        refine ev_loop (δ := Unit) (fun a j => (d + 3, 0, 0, 320, 44, [.val (.ref 64), .val (.int p1), .val (.int p2), .val (.int x8), .val (.int ((a_shl 1 p2) - 1)), .val (.int a)], [], (126, 120, L, [Y_5, T, H, H2, RU, RV, ST, NS, I0, I1, I2, BO_7, FI, RG, GU, PU, MA, MN, MS, OT, SC], [192, 256, 320, 384, w, 192, 576, 640, 704], Lg))) (fun b => sumE b (fun b => ∀ s10 : Value, Ev (d + 3, 0, 0, 320, 79, [.val (.ref 64), .val (.int p1), .val (.int p2), .val (.int x8), .val (.int ((a_shl 1 p2) - 1)), .val s10], [], (126, 120, L, [Y_5, T, H, H2, RU, RV, ST, NS, I0, I1, I2, BO_7, FI, RG, GU, PU, MA, MN, MS, OT, SC], [192, 256, 320, 384, w, 192, 576, 640, 704], Lg)) o) (fun b => ((b.1, a_ov b.1 (.int b.2.1), (126, 120, L, [b.2.2.1, T, H, H2, RU, RV, ST, NS, I0, I1, I2, b.2.2.2.1, FI, RG, GU, PU, MA, MN, MS, OT, SC], [192, 256, 320, 384, w, b.2.2.2.2, 576, 640, 704], Lg)) : AOut) = o)) ?_ a_F 0 zb13 zh14 ?_ ()
        · rintro v9 zr18 zh17 zi15 zx16 ⟨⟩
          have zh17 : f_Y_together_l44 H p2 x8 Y_5 BO_7 192 v9 = some zr18 := zh17
          suffices e : Ev (d + 3, 0, 0, 320, 52, [.val (.ref 64), .val (.int p1), .val (.int p2), .val (.int x8), .val (.int ((a_shl 1 p2) - 1)), .val (.int v9)], [.ref 192, .int (v9 + p2)], (126, 120, L, [Y_5, T, H, H2, RU, RV, ST, NS, I0, I1, I2, BO_7, FI, RG, GU, PU, MA, MN, MS, OT, SC], [192, 256, 320, 384, w, 192, 576, 640, 704], Lg)) o from ev_b 5 e (fun n => Eq.refl _)
          by_cases zc19 : (H 0 0) < (v9 + p2)
          · have zh17 := itp zh17 zc19
            suffices e : Ev (d + 3, 0, 0, 320, 79, [.val (.ref 64), .val (.int p1), .val (.int p2), .val (.int x8), .val (.int ((a_shl 1 p2) - 1)), .val (.int v9)], [], (126, 120, L, [Y_5, T, H, H2, RU, RV, ST, NS, I0, I1, I2, BO_7, FI, RG, GU, PU, MA, MN, MS, OT, SC], [192, 256, 320, 384, w, 192, 576, 640, 704], Lg)) o from ev_t (c := (H 0 0) < (v9 + p2)) _ _ 2  zc19 e (fun n => Eq.refl _)
            exact ev_b 0 (zx16 _ (Option.some.inj zh17).symm (.int v9)) (fun n => Eq.refl _)
          · have zh17 := itn zh17 zc19
            suffices e : Ev (d + 3, 0, 0, 320, 58, [.val (.ref 64), .val (.int p1), .val (.int p2), .val (.int x8), .val (.int ((a_shl 1 p2) - 1)), .val (.int v9)], [], (126, 120, L, [Y_5, T, H, H2, RU, RV, ST, NS, I0, I1, I2, BO_7, FI, RG, GU, PU, MA, MN, MS, OT, SC], [192, 256, 320, 384, w, 192, 576, 640, 704], Lg)) o from ev_f (c := (H 0 0) < (v9 + p2)) _ _ 2  zc19 e (fun n => Eq.refl _)
            by_cases zc20 : ((a_shr x8 v9) &&& ((a_shl 1 p2) - 1)) ≠ ((a_shl 1 p2) - 1)
            · have zh17 := itp zh17 zc20
              suffices e : Ev (d + 3, 0, 0, 320, 73, [.val (.ref 64), .val (.int p1), .val (.int p2), .val (.int x8), .val (.int ((a_shl 1 p2) - 1)), .val (.int v9)], [], (126, 120, L, [Y_5, T, H, H2, RU, RV, ST, NS, I0, I1, I2, BO_7, FI, RG, GU, PU, MA, MN, MS, OT, SC], [192, 256, 320, 384, w, 192, 576, 640, 704], Lg)) o from ev_t (c := ((a_shr x8 v9) &&& ((a_shl 1 p2) - 1)) ≠ ((a_shl 1 p2) - 1)) _ _ 7  zc20 e (fun n => Eq.refl _)
              exact ev_b 2 (zi15 _ (Option.some.inj zh17).symm ()) (fun n => Eq.refl _)
            · have zh17 := itn zh17 zc20
              suffices e : Ev (d + 3, 0, 0, 320, 70, [.val (.ref 64), .val (.int p1), .val (.int p2), .val (.int x8), .val (.int ((a_shl 1 p2) - 1)), .val (.int v9)], [], (126, 120, L, [Y_5, T, H, H2, RU, RV, ST, NS, I0, I1, I2, BO_7, FI, RG, GU, PU, MA, MN, MS, OT, SC], [192, 256, 320, 384, w, 192, 576, 640, 704], Lg)) o from ev_f (c := ((a_shr x8 v9) &&& ((a_shl 1 p2) - 1)) ≠ ((a_shl 1 p2) - 1)) _ _ 7  zc20 e (fun n => Eq.refl _)
              exact ev_rete 2 (zx16 _ (Option.some.inj zh17).symm) (fun n => Eq.refl _)
        · rcases zb13 with ⟨⟩ | zr18
          · intro s10
            have ze21 := Option.some.inj h
            subst ze21
            exact ev_rete 2 ho (fun n => Eq.refl _)
          · have zh22 : some zr18 = some r := h
            exact (congrArg (fun q => ((q.1, a_ov q.1 (.int q.2.1), (126, 120, L, [q.2.2.1, T, H, H2, RU, RV, ST, NS, I0, I1, I2, q.2.2.2.1, FI, RG, GU, PU, MA, MN, MS, OT, SC], [192, 256, 320, 384, w, q.2.2.2.2, 576, 640, 704], Lg)) : AOut)) (Option.some.inj zh22)).trans ho
      | succ q4 =>
        have h := itn h (Nat.succ_ne_zero q4)
        have ze24 := Option.some.inj h
        subst ze24
        subst ho
        exact ev_thr (fun v μ => (d + 3, 0, 0, 320, 25, [.val (.ref 64), .val (.int p1), .val (.int p2), .val a_unk, .val a_unk, .val a_unk], v.toList ++ [], μ)) 1 ze8 (fun n => Eq.refl _) (fun n => rfl)
    obtain ⟨zt25, zh26, zh4⟩ := bnd zh4
    have zj27 : zt25 = .inl () → Ev (d + 3, 1, 8, 320, 21, [.val (.ref 64), .val (.int p1), .val (.int p2), .val a_unk, .val a_unk, .val a_unk], [.ref 64], (126, 120, L, [Y_2, T, H, H2, RU, RV, ST, NS, I0, I1, I2, BO, FI, RG, GU, PU, MA, MN, MS, OT, SC], [192, 256, 320, 384, w, r5, 576, 640, 704], Lg)) o := by
      intro ze28
      have zh4 := sum_l zh4 ze28
      exact ev_b 1 (zj5 0 (Option.some.inj zh4) ) (fun n => Eq.refl _)
    by_cases zc29 : p2 < 1
    · have zh26 := itp zh26 zc29
      suffices e : Ev (d + 3, 1, 8, 320, 21, [.val (.ref 64), .val (.int p1), .val (.int p2), .val a_unk, .val a_unk, .val a_unk], [.ref 64], (126, 120, L, [Y_2, T, H, H2, RU, RV, ST, NS, I0, I1, I2, BO, FI, RG, GU, PU, MA, MN, MS, OT, SC], [192, 256, 320, 384, w, r5, 576, 640, 704], Lg)) o from ev_t (c := p2 < 1) _ _ 4  zc29 e (fun n => Eq.refl _)
      exact ev_b 0 (zj27  (Option.some.inj zh26).symm ) (fun n => Eq.refl _)
    · have zh26 := itn zh26 zc29
      suffices e : Ev (d + 3, 1, 8, 320, 11, [.val (.ref 64), .val (.int p1), .val (.int p2), .val a_unk, .val a_unk, .val a_unk], [.ref 64], (126, 120, L, [Y_2, T, H, H2, RU, RV, ST, NS, I0, I1, I2, BO, FI, RG, GU, PU, MA, MN, MS, OT, SC], [192, 256, 320, 384, w, r5, 576, 640, 704], Lg)) o from ev_f (c := p2 < 1) _ _ 4  zc29 e (fun n => Eq.refl _)
      by_cases zc30 : 10 < p2
      · have zh26 := itp zh26 zc30
        suffices e : Ev (d + 3, 1, 8, 320, 21, [.val (.ref 64), .val (.int p1), .val (.int p2), .val a_unk, .val a_unk, .val a_unk], [.ref 64], (126, 120, L, [Y_2, T, H, H2, RU, RV, ST, NS, I0, I1, I2, BO, FI, RG, GU, PU, MA, MN, MS, OT, SC], [192, 256, 320, 384, w, r5, 576, 640, 704], Lg)) o from ev_t (c := 10 < p2) _ _ 3  zc30 e (fun n => Eq.refl _)
        exact ev_b 0 (zj27  (Option.some.inj zh26).symm ) (fun n => Eq.refl _)
      · have zh26 := itn zh26 zc30
        suffices e : Ev (d + 3, 1, 8, 320, 17, [.val (.ref 64), .val (.int p1), .val (.int p2), .val a_unk, .val a_unk, .val a_unk], [.ref 64], (126, 120, L, [Y_2, T, H, H2, RU, RV, ST, NS, I0, I1, I2, BO, FI, RG, GU, PU, MA, MN, MS, OT, SC], [192, 256, 320, 384, w, r5, 576, 640, 704], Lg)) o from ev_f (c := 10 < p2) _ _ 3  zc30 e (fun n => Eq.refl _)
        have zh31 := sum_r zh4 (Option.some.inj zh26).symm
        exact ev_b 2 (zj5 1 (Option.some.inj zh31) ) (fun n => Eq.refl _)
  | succ q1 =>
    have h := itn h (Nat.succ_ne_zero q1)
    have ze32 := Option.some.inj h
    subst ze32
    subst ho
    exact ev_thr (fun v μ => (d + 3, 1, 8, 320, 5, [.val (.ref 64), .val (.int p1), .val (.int p2), .val a_unk, .val a_unk, .val a_unk], v.toList ++ [], μ)) 3 ze2 (fun n => Eq.refl _) (fun n => rfl)
set_option maxRecDepth 1000000 in
set_option maxHeartbeats 4000000 in
theorem R_f_Y_together_1 (d : Nat) (Y T H H2 RV RU ST NS I0 I1 I2 BO FI RG GU PU MA MN MS OT SC : Nat → Nat → Int32) (w r5 : Nat) (L : Nat) (Lg : Int64) (p1 : Int32) (p2 : Int32) {r : Nat × Int32 × (Nat → Nat → Int32) × (Nat → Nat → Int32) × Nat} (h : f_Y_together Y H NS BO 192 r5 p1 p2 = some r) : Ev (d + 3, 2, 16, 320, 0, [.val (.ref 64), .val (.int p1), .val (.int p2), .val a_unk, .val a_unk, .val a_unk], [], (126, 120, L, [Y, T, H, H2, RV, RU, ST, NS, I0, I1, I2, BO, FI, RG, GU, PU, MA, MN, MS, OT, SC], [192, 256, 384, 320, w, r5, 576, 640, 704], Lg)) ((r.1, a_ov r.1 (.int r.2.1), (126, 120, L, [r.2.2.1, T, H, H2, RV, RU, ST, NS, I0, I1, I2, r.2.2.2.1, FI, RG, GU, PU, MA, MN, MS, OT, SC], [192, 256, 384, 320, w, r.2.2.2.2, 576, 640, 704], Lg)) : AOut) := by
  suffices key : ∀ o : AOut, ((r.1, a_ov r.1 (.int r.2.1), (126, 120, L, [r.2.2.1, T, H, H2, RV, RU, ST, NS, I0, I1, I2, r.2.2.2.1, FI, RG, GU, PU, MA, MN, MS, OT, SC], [192, 256, 384, 320, w, r.2.2.2.2, 576, 640, 704], Lg)) : AOut) = o → Ev (d + 3, 2, 16, 320, 0, [.val (.ref 64), .val (.int p1), .val (.int p2), .val a_unk, .val a_unk, .val a_unk], [], (126, 120, L, [Y, T, H, H2, RV, RU, ST, NS, I0, I1, I2, BO, FI, RG, GU, PU, MA, MN, MS, OT, SC], [192, 256, 384, 320, w, r5, 576, 640, 704], Lg)) o from key _ rfl
  intro o ho
  obtain ⟨⟨q1, Y_2⟩, zh1, h⟩ := bnd h
  have zh1 : f_Y_needPeople Y H p1 = some (q1, Y_2) := zh1
  have ze2 := R_f_Y_needPeople_1 (d + 1) Y T H H2 RV RU ST NS I0 I1 I2 BO FI RG GU PU MA MN MS OT SC w r5 L Lg p1 zh1
  cases q1 with
  | zero =>
    have h := itp h rfl
    suffices e : Ev (d + 3, 1, 8, 320, 5, [.val (.ref 64), .val (.int p1), .val (.int p2), .val a_unk, .val a_unk, .val a_unk], [], (126, 120, L, [Y_2, T, H, H2, RV, RU, ST, NS, I0, I1, I2, BO, FI, RG, GU, PU, MA, MN, MS, OT, SC], [192, 256, 384, 320, w, r5, 576, 640, 704], Lg)) o from ev_call (fun v μ => (d + 3, 1, 8, 320, 5, [.val (.ref 64), .val (.int p1), .val (.int p2), .val a_unk, .val a_unk, .val a_unk], v.toList ++ [], μ)) 3 ze2 e (fun n => Eq.refl _)
    obtain ⟨zt3, zh4, h⟩ := bnd h
    have zj5 : ∀ (v3 : Int32), v3 = zt3 → Ev (d + 3, 1, 8, 320, 22, [.val (.ref 64), .val (.int p1), .val (.int p2), .val a_unk, .val a_unk, .val a_unk], [.int v3, .ref 64], (126, 120, L, [Y_2, T, H, H2, RV, RU, ST, NS, I0, I1, I2, BO, FI, RG, GU, PU, MA, MN, MS, OT, SC], [192, 256, 384, 320, w, r5, 576, 640, 704], Lg)) o := by
      intro v3 ze6
      subst ze6
      obtain ⟨⟨q4, Y_5⟩, zh7, h⟩ := bnd h
      have zh7 : f_Y_refuseUnless Y_2 v3 = some (q4, Y_5) := zh7
      have ze8 := R_f_Y_refuseUnless_1 (d + 2) Y_2 T H H2 RV RU ST NS I0 I1 I2 BO FI RG GU PU MA MN MS OT SC w r5 L Lg v3 zh7
      cases q4 with
      | zero =>
        have h := itp h rfl
        suffices e : Ev (d + 3, 0, 0, 320, 25, [.val (.ref 64), .val (.int p1), .val (.int p2), .val a_unk, .val a_unk, .val a_unk], [], (126, 120, L, [Y_5, T, H, H2, RV, RU, ST, NS, I0, I1, I2, BO, FI, RG, GU, PU, MA, MN, MS, OT, SC], [192, 256, 384, 320, w, r5, 576, 640, 704], Lg)) o from ev_call (fun v μ => (d + 3, 0, 0, 320, 25, [.val (.ref 64), .val (.int p1), .val (.int p2), .val a_unk, .val a_unk, .val a_unk], v.toList ++ [], μ)) 1 ze8 e (fun n => Eq.refl _)
        obtain ⟨BO_7, zh9, h⟩ := bnd h
        have zh9 : f_Y_lookNow H NS BO = some BO_7 := zh9
        have ze10 := R_f_Y_lookNow_1 (d + 0) Y_5 T H H2 RV RU ST NS I0 I1 I2 BO FI RG GU PU MA MN MS OT SC w r5 L Lg zh9
        suffices e : Ev (d + 3, 0, 0, 320, 29, [.val (.ref 64), .val (.int p1), .val (.int p2), .val a_unk, .val a_unk, .val a_unk], [.ref 768], (126, 120, L, [Y_5, T, H, H2, RV, RU, ST, NS, I0, I1, I2, BO_7, FI, RG, GU, PU, MA, MN, MS, OT, SC], [192, 256, 384, 320, w, 192, 576, 640, 704], Lg)) o from ev_call (fun v μ => (d + 3, 0, 0, 320, 29, [.val (.ref 64), .val (.int p1), .val (.int p2), .val a_unk, .val a_unk, .val a_unk], v.toList ++ [], μ)) 2 ze10 e (fun n => Eq.refl _)
        obtain ⟨x8, zh11, h⟩ := bnd h
        have zh11 : f_Board_idleHours H BO_7 p1 = some x8 := zh11
        have ze12 := R_f_Board_idleHours_0 (d + 1) Y_5 T H H2 RV RU ST NS I0 I1 I2 BO_7 FI RG GU PU MA MN MS OT SC 192 256 384 320 w 576 640 704 L Lg p1 zh11
        suffices e : Ev (d + 3, 0, 0, 320, 33, [.val (.ref 64), .val (.int p1), .val (.int p2), .val a_unk, .val a_unk, .val a_unk], [.int x8], (126, 120, L, [Y_5, T, H, H2, RV, RU, ST, NS, I0, I1, I2, BO_7, FI, RG, GU, PU, MA, MN, MS, OT, SC], [192, 256, 384, 320, w, 192, 576, 640, 704], Lg)) o from ev_call (fun v μ => (d + 3, 0, 0, 320, 33, [.val (.ref 64), .val (.int p1), .val (.int p2), .val a_unk, .val a_unk, .val a_unk], v.toList ++ [], μ)) 2 ze12 e (fun n => Eq.refl _)
        obtain ⟨zb13, zh14, h⟩ := bnd h
        suffices e : Ev (d + 3, 0, 0, 320, 44, [.val (.ref 64), .val (.int p1), .val (.int p2), .val (.int x8), .val (.int ((a_shl 1 p2) - 1)), .val (.int 0)], [], (126, 120, L, [Y_5, T, H, H2, RV, RU, ST, NS, I0, I1, I2, BO_7, FI, RG, GU, PU, MA, MN, MS, OT, SC], [192, 256, 384, 320, w, 192, 576, 640, 704], Lg)) o from ev_b 9 e (fun n => Eq.refl _)
        refine ev_loop (δ := Unit) (fun a j => (d + 3, 0, 0, 320, 44, [.val (.ref 64), .val (.int p1), .val (.int p2), .val (.int x8), .val (.int ((a_shl 1 p2) - 1)), .val (.int a)], [], (126, 120, L, [Y_5, T, H, H2, RV, RU, ST, NS, I0, I1, I2, BO_7, FI, RG, GU, PU, MA, MN, MS, OT, SC], [192, 256, 384, 320, w, 192, 576, 640, 704], Lg))) (fun b => sumE b (fun b => ∀ s10 : Value, Ev (d + 3, 0, 0, 320, 79, [.val (.ref 64), .val (.int p1), .val (.int p2), .val (.int x8), .val (.int ((a_shl 1 p2) - 1)), .val s10], [], (126, 120, L, [Y_5, T, H, H2, RV, RU, ST, NS, I0, I1, I2, BO_7, FI, RG, GU, PU, MA, MN, MS, OT, SC], [192, 256, 384, 320, w, 192, 576, 640, 704], Lg)) o) (fun b => ((b.1, a_ov b.1 (.int b.2.1), (126, 120, L, [b.2.2.1, T, H, H2, RV, RU, ST, NS, I0, I1, I2, b.2.2.2.1, FI, RG, GU, PU, MA, MN, MS, OT, SC], [192, 256, 384, 320, w, b.2.2.2.2, 576, 640, 704], Lg)) : AOut) = o)) ?_ a_F 0 zb13 zh14 ?_ ()
        · rintro v9 zr18 zh17 zi15 zx16 ⟨⟩
          have zh17 : f_Y_together_l44 H p2 x8 Y_5 BO_7 192 v9 = some zr18 := zh17
          suffices e : Ev (d + 3, 0, 0, 320, 52, [.val (.ref 64), .val (.int p1), .val (.int p2), .val (.int x8), .val (.int ((a_shl 1 p2) - 1)), .val (.int v9)], [.ref 192, .int (v9 + p2)], (126, 120, L, [Y_5, T, H, H2, RV, RU, ST, NS, I0, I1, I2, BO_7, FI, RG, GU, PU, MA, MN, MS, OT, SC], [192, 256, 384, 320, w, 192, 576, 640, 704], Lg)) o from ev_b 5 e (fun n => Eq.refl _)
          by_cases zc19 : (H 0 0) < (v9 + p2)
          · have zh17 := itp zh17 zc19
            suffices e : Ev (d + 3, 0, 0, 320, 79, [.val (.ref 64), .val (.int p1), .val (.int p2), .val (.int x8), .val (.int ((a_shl 1 p2) - 1)), .val (.int v9)], [], (126, 120, L, [Y_5, T, H, H2, RV, RU, ST, NS, I0, I1, I2, BO_7, FI, RG, GU, PU, MA, MN, MS, OT, SC], [192, 256, 384, 320, w, 192, 576, 640, 704], Lg)) o from ev_t (c := (H 0 0) < (v9 + p2)) _ _ 2  zc19 e (fun n => Eq.refl _)
            exact ev_b 0 (zx16 _ (Option.some.inj zh17).symm (.int v9)) (fun n => Eq.refl _)
          · have zh17 := itn zh17 zc19
            suffices e : Ev (d + 3, 0, 0, 320, 58, [.val (.ref 64), .val (.int p1), .val (.int p2), .val (.int x8), .val (.int ((a_shl 1 p2) - 1)), .val (.int v9)], [], (126, 120, L, [Y_5, T, H, H2, RV, RU, ST, NS, I0, I1, I2, BO_7, FI, RG, GU, PU, MA, MN, MS, OT, SC], [192, 256, 384, 320, w, 192, 576, 640, 704], Lg)) o from ev_f (c := (H 0 0) < (v9 + p2)) _ _ 2  zc19 e (fun n => Eq.refl _)
            by_cases zc20 : ((a_shr x8 v9) &&& ((a_shl 1 p2) - 1)) ≠ ((a_shl 1 p2) - 1)
            · have zh17 := itp zh17 zc20
              suffices e : Ev (d + 3, 0, 0, 320, 73, [.val (.ref 64), .val (.int p1), .val (.int p2), .val (.int x8), .val (.int ((a_shl 1 p2) - 1)), .val (.int v9)], [], (126, 120, L, [Y_5, T, H, H2, RV, RU, ST, NS, I0, I1, I2, BO_7, FI, RG, GU, PU, MA, MN, MS, OT, SC], [192, 256, 384, 320, w, 192, 576, 640, 704], Lg)) o from ev_t (c := ((a_shr x8 v9) &&& ((a_shl 1 p2) - 1)) ≠ ((a_shl 1 p2) - 1)) _ _ 7  zc20 e (fun n => Eq.refl _)
              exact ev_b 2 (zi15 _ (Option.some.inj zh17).symm ()) (fun n => Eq.refl _)
            · have zh17 := itn zh17 zc20
              suffices e : Ev (d + 3, 0, 0, 320, 70, [.val (.ref 64), .val (.int p1), .val (.int p2), .val (.int x8), .val (.int ((a_shl 1 p2) - 1)), .val (.int v9)], [], (126, 120, L, [Y_5, T, H, H2, RV, RU, ST, NS, I0, I1, I2, BO_7, FI, RG, GU, PU, MA, MN, MS, OT, SC], [192, 256, 384, 320, w, 192, 576, 640, 704], Lg)) o from ev_f (c := ((a_shr x8 v9) &&& ((a_shl 1 p2) - 1)) ≠ ((a_shl 1 p2) - 1)) _ _ 7  zc20 e (fun n => Eq.refl _)
              exact ev_rete 2 (zx16 _ (Option.some.inj zh17).symm) (fun n => Eq.refl _)
        · rcases zb13 with ⟨⟩ | zr18
          · intro s10
            have ze21 := Option.some.inj h
            subst ze21
            exact ev_rete 2 ho (fun n => Eq.refl _)
          · have zh22 : some zr18 = some r := h
            exact (congrArg (fun q => ((q.1, a_ov q.1 (.int q.2.1), (126, 120, L, [q.2.2.1, T, H, H2, RV, RU, ST, NS, I0, I1, I2, q.2.2.2.1, FI, RG, GU, PU, MA, MN, MS, OT, SC], [192, 256, 384, 320, w, q.2.2.2.2, 576, 640, 704], Lg)) : AOut)) (Option.some.inj zh22)).trans ho
      | succ q4 =>
        have h := itn h (Nat.succ_ne_zero q4)
        have ze24 := Option.some.inj h
        subst ze24
        subst ho
        exact ev_thr (fun v μ => (d + 3, 0, 0, 320, 25, [.val (.ref 64), .val (.int p1), .val (.int p2), .val a_unk, .val a_unk, .val a_unk], v.toList ++ [], μ)) 1 ze8 (fun n => Eq.refl _) (fun n => rfl)
    obtain ⟨zt25, zh26, zh4⟩ := bnd zh4
    have zj27 : zt25 = .inl () → Ev (d + 3, 1, 8, 320, 21, [.val (.ref 64), .val (.int p1), .val (.int p2), .val a_unk, .val a_unk, .val a_unk], [.ref 64], (126, 120, L, [Y_2, T, H, H2, RV, RU, ST, NS, I0, I1, I2, BO, FI, RG, GU, PU, MA, MN, MS, OT, SC], [192, 256, 384, 320, w, r5, 576, 640, 704], Lg)) o := by
      intro ze28
      have zh4 := sum_l zh4 ze28
      exact ev_b 1 (zj5 0 (Option.some.inj zh4) ) (fun n => Eq.refl _)
    by_cases zc29 : p2 < 1
    · have zh26 := itp zh26 zc29
      suffices e : Ev (d + 3, 1, 8, 320, 21, [.val (.ref 64), .val (.int p1), .val (.int p2), .val a_unk, .val a_unk, .val a_unk], [.ref 64], (126, 120, L, [Y_2, T, H, H2, RV, RU, ST, NS, I0, I1, I2, BO, FI, RG, GU, PU, MA, MN, MS, OT, SC], [192, 256, 384, 320, w, r5, 576, 640, 704], Lg)) o from ev_t (c := p2 < 1) _ _ 4  zc29 e (fun n => Eq.refl _)
      exact ev_b 0 (zj27  (Option.some.inj zh26).symm ) (fun n => Eq.refl _)
    · have zh26 := itn zh26 zc29
      suffices e : Ev (d + 3, 1, 8, 320, 11, [.val (.ref 64), .val (.int p1), .val (.int p2), .val a_unk, .val a_unk, .val a_unk], [.ref 64], (126, 120, L, [Y_2, T, H, H2, RV, RU, ST, NS, I0, I1, I2, BO, FI, RG, GU, PU, MA, MN, MS, OT, SC], [192, 256, 384, 320, w, r5, 576, 640, 704], Lg)) o from ev_f (c := p2 < 1) _ _ 4  zc29 e (fun n => Eq.refl _)
      by_cases zc30 : 10 < p2
      · have zh26 := itp zh26 zc30
        suffices e : Ev (d + 3, 1, 8, 320, 21, [.val (.ref 64), .val (.int p1), .val (.int p2), .val a_unk, .val a_unk, .val a_unk], [.ref 64], (126, 120, L, [Y_2, T, H, H2, RV, RU, ST, NS, I0, I1, I2, BO, FI, RG, GU, PU, MA, MN, MS, OT, SC], [192, 256, 384, 320, w, r5, 576, 640, 704], Lg)) o from ev_t (c := 10 < p2) _ _ 3  zc30 e (fun n => Eq.refl _)
        exact ev_b 0 (zj27  (Option.some.inj zh26).symm ) (fun n => Eq.refl _)
      · have zh26 := itn zh26 zc30
        suffices e : Ev (d + 3, 1, 8, 320, 17, [.val (.ref 64), .val (.int p1), .val (.int p2), .val a_unk, .val a_unk, .val a_unk], [.ref 64], (126, 120, L, [Y_2, T, H, H2, RV, RU, ST, NS, I0, I1, I2, BO, FI, RG, GU, PU, MA, MN, MS, OT, SC], [192, 256, 384, 320, w, r5, 576, 640, 704], Lg)) o from ev_f (c := 10 < p2) _ _ 3  zc30 e (fun n => Eq.refl _)
        have zh31 := sum_r zh4 (Option.some.inj zh26).symm
        exact ev_b 2 (zj5 1 (Option.some.inj zh31) ) (fun n => Eq.refl _)
  | succ q1 =>
    have h := itn h (Nat.succ_ne_zero q1)
    have ze32 := Option.some.inj h
    subst ze32
    subst ho
    exact ev_thr (fun v μ => (d + 3, 1, 8, 320, 5, [.val (.ref 64), .val (.int p1), .val (.int p2), .val a_unk, .val a_unk, .val a_unk], v.toList ++ [], μ)) 3 ze2 (fun n => Eq.refl _) (fun n => rfl)
set_option maxRecDepth 1000000 in
set_option maxHeartbeats 4000000 in
theorem R_f_Y_together_2 (d : Nat) (Y T H2 H RU RV ST NS I0 I1 I2 BO FI RG GU PU MA MN MS OT SC : Nat → Nat → Int32) (w r5 : Nat) (L : Nat) (Lg : Int64) (p1 : Int32) (p2 : Int32) {r : Nat × Int32 × (Nat → Nat → Int32) × (Nat → Nat → Int32) × Nat} (h : f_Y_together Y H NS BO 256 r5 p1 p2 = some r) : Ev (d + 3, 2, 16, 320, 0, [.val (.ref 64), .val (.int p1), .val (.int p2), .val a_unk, .val a_unk, .val a_unk], [], (126, 120, L, [Y, T, H2, H, RU, RV, ST, NS, I0, I1, I2, BO, FI, RG, GU, PU, MA, MN, MS, OT, SC], [256, 192, 320, 384, w, r5, 576, 640, 704], Lg)) ((r.1, a_ov r.1 (.int r.2.1), (126, 120, L, [r.2.2.1, T, H2, H, RU, RV, ST, NS, I0, I1, I2, r.2.2.2.1, FI, RG, GU, PU, MA, MN, MS, OT, SC], [256, 192, 320, 384, w, r.2.2.2.2, 576, 640, 704], Lg)) : AOut) := by
  suffices key : ∀ o : AOut, ((r.1, a_ov r.1 (.int r.2.1), (126, 120, L, [r.2.2.1, T, H2, H, RU, RV, ST, NS, I0, I1, I2, r.2.2.2.1, FI, RG, GU, PU, MA, MN, MS, OT, SC], [256, 192, 320, 384, w, r.2.2.2.2, 576, 640, 704], Lg)) : AOut) = o → Ev (d + 3, 2, 16, 320, 0, [.val (.ref 64), .val (.int p1), .val (.int p2), .val a_unk, .val a_unk, .val a_unk], [], (126, 120, L, [Y, T, H2, H, RU, RV, ST, NS, I0, I1, I2, BO, FI, RG, GU, PU, MA, MN, MS, OT, SC], [256, 192, 320, 384, w, r5, 576, 640, 704], Lg)) o from key _ rfl
  intro o ho
  obtain ⟨⟨q1, Y_2⟩, zh1, h⟩ := bnd h
  have zh1 : f_Y_needPeople Y H p1 = some (q1, Y_2) := zh1
  have ze2 := R_f_Y_needPeople_2 (d + 1) Y T H2 H RU RV ST NS I0 I1 I2 BO FI RG GU PU MA MN MS OT SC w r5 L Lg p1 zh1
  cases q1 with
  | zero =>
    have h := itp h rfl
    suffices e : Ev (d + 3, 1, 8, 320, 5, [.val (.ref 64), .val (.int p1), .val (.int p2), .val a_unk, .val a_unk, .val a_unk], [], (126, 120, L, [Y_2, T, H2, H, RU, RV, ST, NS, I0, I1, I2, BO, FI, RG, GU, PU, MA, MN, MS, OT, SC], [256, 192, 320, 384, w, r5, 576, 640, 704], Lg)) o from ev_call (fun v μ => (d + 3, 1, 8, 320, 5, [.val (.ref 64), .val (.int p1), .val (.int p2), .val a_unk, .val a_unk, .val a_unk], v.toList ++ [], μ)) 3 ze2 e (fun n => Eq.refl _)
    obtain ⟨zt3, zh4, h⟩ := bnd h
    have zj5 : ∀ (v3 : Int32), v3 = zt3 → Ev (d + 3, 1, 8, 320, 22, [.val (.ref 64), .val (.int p1), .val (.int p2), .val a_unk, .val a_unk, .val a_unk], [.int v3, .ref 64], (126, 120, L, [Y_2, T, H2, H, RU, RV, ST, NS, I0, I1, I2, BO, FI, RG, GU, PU, MA, MN, MS, OT, SC], [256, 192, 320, 384, w, r5, 576, 640, 704], Lg)) o := by
      intro v3 ze6
      subst ze6
      obtain ⟨⟨q4, Y_5⟩, zh7, h⟩ := bnd h
      have zh7 : f_Y_refuseUnless Y_2 v3 = some (q4, Y_5) := zh7
      have ze8 := R_f_Y_refuseUnless_2 (d + 2) Y_2 T H2 H RU RV ST NS I0 I1 I2 BO FI RG GU PU MA MN MS OT SC w r5 L Lg v3 zh7
      cases q4 with
      | zero =>
        have h := itp h rfl
        suffices e : Ev (d + 3, 0, 0, 320, 25, [.val (.ref 64), .val (.int p1), .val (.int p2), .val a_unk, .val a_unk, .val a_unk], [], (126, 120, L, [Y_5, T, H2, H, RU, RV, ST, NS, I0, I1, I2, BO, FI, RG, GU, PU, MA, MN, MS, OT, SC], [256, 192, 320, 384, w, r5, 576, 640, 704], Lg)) o from ev_call (fun v μ => (d + 3, 0, 0, 320, 25, [.val (.ref 64), .val (.int p1), .val (.int p2), .val a_unk, .val a_unk, .val a_unk], v.toList ++ [], μ)) 1 ze8 e (fun n => Eq.refl _)
        obtain ⟨BO_7, zh9, h⟩ := bnd h
        have zh9 : f_Y_lookNow H NS BO = some BO_7 := zh9
        have ze10 := R_f_Y_lookNow_2 (d + 0) Y_5 T H2 H RU RV ST NS I0 I1 I2 BO FI RG GU PU MA MN MS OT SC w r5 L Lg zh9
        suffices e : Ev (d + 3, 0, 0, 320, 29, [.val (.ref 64), .val (.int p1), .val (.int p2), .val a_unk, .val a_unk, .val a_unk], [.ref 768], (126, 120, L, [Y_5, T, H2, H, RU, RV, ST, NS, I0, I1, I2, BO_7, FI, RG, GU, PU, MA, MN, MS, OT, SC], [256, 192, 320, 384, w, 256, 576, 640, 704], Lg)) o from ev_call (fun v μ => (d + 3, 0, 0, 320, 29, [.val (.ref 64), .val (.int p1), .val (.int p2), .val a_unk, .val a_unk, .val a_unk], v.toList ++ [], μ)) 2 ze10 e (fun n => Eq.refl _)
        obtain ⟨x8, zh11, h⟩ := bnd h
        have zh11 : f_Board_idleHours H BO_7 p1 = some x8 := zh11
        have ze12 := R_f_Board_idleHours_1 (d + 1) Y_5 T H2 H RU RV ST NS I0 I1 I2 BO_7 FI RG GU PU MA MN MS OT SC 256 192 320 384 w 576 640 704 L Lg p1 zh11
        suffices e : Ev (d + 3, 0, 0, 320, 33, [.val (.ref 64), .val (.int p1), .val (.int p2), .val a_unk, .val a_unk, .val a_unk], [.int x8], (126, 120, L, [Y_5, T, H2, H, RU, RV, ST, NS, I0, I1, I2, BO_7, FI, RG, GU, PU, MA, MN, MS, OT, SC], [256, 192, 320, 384, w, 256, 576, 640, 704], Lg)) o from ev_call (fun v μ => (d + 3, 0, 0, 320, 33, [.val (.ref 64), .val (.int p1), .val (.int p2), .val a_unk, .val a_unk, .val a_unk], v.toList ++ [], μ)) 2 ze12 e (fun n => Eq.refl _)
        obtain ⟨zb13, zh14, h⟩ := bnd h
        suffices e : Ev (d + 3, 0, 0, 320, 44, [.val (.ref 64), .val (.int p1), .val (.int p2), .val (.int x8), .val (.int ((a_shl 1 p2) - 1)), .val (.int 0)], [], (126, 120, L, [Y_5, T, H2, H, RU, RV, ST, NS, I0, I1, I2, BO_7, FI, RG, GU, PU, MA, MN, MS, OT, SC], [256, 192, 320, 384, w, 256, 576, 640, 704], Lg)) o from ev_b 9 e (fun n => Eq.refl _)
        refine ev_loop (δ := Unit) (fun a j => (d + 3, 0, 0, 320, 44, [.val (.ref 64), .val (.int p1), .val (.int p2), .val (.int x8), .val (.int ((a_shl 1 p2) - 1)), .val (.int a)], [], (126, 120, L, [Y_5, T, H2, H, RU, RV, ST, NS, I0, I1, I2, BO_7, FI, RG, GU, PU, MA, MN, MS, OT, SC], [256, 192, 320, 384, w, 256, 576, 640, 704], Lg))) (fun b => sumE b (fun b => ∀ s10 : Value, Ev (d + 3, 0, 0, 320, 79, [.val (.ref 64), .val (.int p1), .val (.int p2), .val (.int x8), .val (.int ((a_shl 1 p2) - 1)), .val s10], [], (126, 120, L, [Y_5, T, H2, H, RU, RV, ST, NS, I0, I1, I2, BO_7, FI, RG, GU, PU, MA, MN, MS, OT, SC], [256, 192, 320, 384, w, 256, 576, 640, 704], Lg)) o) (fun b => ((b.1, a_ov b.1 (.int b.2.1), (126, 120, L, [b.2.2.1, T, H2, H, RU, RV, ST, NS, I0, I1, I2, b.2.2.2.1, FI, RG, GU, PU, MA, MN, MS, OT, SC], [256, 192, 320, 384, w, b.2.2.2.2, 576, 640, 704], Lg)) : AOut) = o)) ?_ a_F 0 zb13 zh14 ?_ ()
        · rintro v9 zr18 zh17 zi15 zx16 ⟨⟩
          have zh17 : f_Y_together_l44 H p2 x8 Y_5 BO_7 256 v9 = some zr18 := zh17
          suffices e : Ev (d + 3, 0, 0, 320, 52, [.val (.ref 64), .val (.int p1), .val (.int p2), .val (.int x8), .val (.int ((a_shl 1 p2) - 1)), .val (.int v9)], [.ref 256, .int (v9 + p2)], (126, 120, L, [Y_5, T, H2, H, RU, RV, ST, NS, I0, I1, I2, BO_7, FI, RG, GU, PU, MA, MN, MS, OT, SC], [256, 192, 320, 384, w, 256, 576, 640, 704], Lg)) o from ev_b 5 e (fun n => Eq.refl _)
          by_cases zc19 : (H 0 0) < (v9 + p2)
          · have zh17 := itp zh17 zc19
            suffices e : Ev (d + 3, 0, 0, 320, 79, [.val (.ref 64), .val (.int p1), .val (.int p2), .val (.int x8), .val (.int ((a_shl 1 p2) - 1)), .val (.int v9)], [], (126, 120, L, [Y_5, T, H2, H, RU, RV, ST, NS, I0, I1, I2, BO_7, FI, RG, GU, PU, MA, MN, MS, OT, SC], [256, 192, 320, 384, w, 256, 576, 640, 704], Lg)) o from ev_t (c := (H 0 0) < (v9 + p2)) _ _ 2  zc19 e (fun n => Eq.refl _)
            exact ev_b 0 (zx16 _ (Option.some.inj zh17).symm (.int v9)) (fun n => Eq.refl _)
          · have zh17 := itn zh17 zc19
            suffices e : Ev (d + 3, 0, 0, 320, 58, [.val (.ref 64), .val (.int p1), .val (.int p2), .val (.int x8), .val (.int ((a_shl 1 p2) - 1)), .val (.int v9)], [], (126, 120, L, [Y_5, T, H2, H, RU, RV, ST, NS, I0, I1, I2, BO_7, FI, RG, GU, PU, MA, MN, MS, OT, SC], [256, 192, 320, 384, w, 256, 576, 640, 704], Lg)) o from ev_f (c := (H 0 0) < (v9 + p2)) _ _ 2  zc19 e (fun n => Eq.refl _)
            by_cases zc20 : ((a_shr x8 v9) &&& ((a_shl 1 p2) - 1)) ≠ ((a_shl 1 p2) - 1)
            · have zh17 := itp zh17 zc20
              suffices e : Ev (d + 3, 0, 0, 320, 73, [.val (.ref 64), .val (.int p1), .val (.int p2), .val (.int x8), .val (.int ((a_shl 1 p2) - 1)), .val (.int v9)], [], (126, 120, L, [Y_5, T, H2, H, RU, RV, ST, NS, I0, I1, I2, BO_7, FI, RG, GU, PU, MA, MN, MS, OT, SC], [256, 192, 320, 384, w, 256, 576, 640, 704], Lg)) o from ev_t (c := ((a_shr x8 v9) &&& ((a_shl 1 p2) - 1)) ≠ ((a_shl 1 p2) - 1)) _ _ 7  zc20 e (fun n => Eq.refl _)
              exact ev_b 2 (zi15 _ (Option.some.inj zh17).symm ()) (fun n => Eq.refl _)
            · have zh17 := itn zh17 zc20
              suffices e : Ev (d + 3, 0, 0, 320, 70, [.val (.ref 64), .val (.int p1), .val (.int p2), .val (.int x8), .val (.int ((a_shl 1 p2) - 1)), .val (.int v9)], [], (126, 120, L, [Y_5, T, H2, H, RU, RV, ST, NS, I0, I1, I2, BO_7, FI, RG, GU, PU, MA, MN, MS, OT, SC], [256, 192, 320, 384, w, 256, 576, 640, 704], Lg)) o from ev_f (c := ((a_shr x8 v9) &&& ((a_shl 1 p2) - 1)) ≠ ((a_shl 1 p2) - 1)) _ _ 7  zc20 e (fun n => Eq.refl _)
              exact ev_rete 2 (zx16 _ (Option.some.inj zh17).symm) (fun n => Eq.refl _)
        · rcases zb13 with ⟨⟩ | zr18
          · intro s10
            have ze21 := Option.some.inj h
            subst ze21
            exact ev_rete 2 ho (fun n => Eq.refl _)
          · have zh22 : some zr18 = some r := h
            exact (congrArg (fun q => ((q.1, a_ov q.1 (.int q.2.1), (126, 120, L, [q.2.2.1, T, H2, H, RU, RV, ST, NS, I0, I1, I2, q.2.2.2.1, FI, RG, GU, PU, MA, MN, MS, OT, SC], [256, 192, 320, 384, w, q.2.2.2.2, 576, 640, 704], Lg)) : AOut)) (Option.some.inj zh22)).trans ho
      | succ q4 =>
        have h := itn h (Nat.succ_ne_zero q4)
        have ze24 := Option.some.inj h
        subst ze24
        subst ho
        exact ev_thr (fun v μ => (d + 3, 0, 0, 320, 25, [.val (.ref 64), .val (.int p1), .val (.int p2), .val a_unk, .val a_unk, .val a_unk], v.toList ++ [], μ)) 1 ze8 (fun n => Eq.refl _) (fun n => rfl)
    obtain ⟨zt25, zh26, zh4⟩ := bnd zh4
    have zj27 : zt25 = .inl () → Ev (d + 3, 1, 8, 320, 21, [.val (.ref 64), .val (.int p1), .val (.int p2), .val a_unk, .val a_unk, .val a_unk], [.ref 64], (126, 120, L, [Y_2, T, H2, H, RU, RV, ST, NS, I0, I1, I2, BO, FI, RG, GU, PU, MA, MN, MS, OT, SC], [256, 192, 320, 384, w, r5, 576, 640, 704], Lg)) o := by
      intro ze28
      have zh4 := sum_l zh4 ze28
      exact ev_b 1 (zj5 0 (Option.some.inj zh4) ) (fun n => Eq.refl _)
    by_cases zc29 : p2 < 1
    · have zh26 := itp zh26 zc29
      suffices e : Ev (d + 3, 1, 8, 320, 21, [.val (.ref 64), .val (.int p1), .val (.int p2), .val a_unk, .val a_unk, .val a_unk], [.ref 64], (126, 120, L, [Y_2, T, H2, H, RU, RV, ST, NS, I0, I1, I2, BO, FI, RG, GU, PU, MA, MN, MS, OT, SC], [256, 192, 320, 384, w, r5, 576, 640, 704], Lg)) o from ev_t (c := p2 < 1) _ _ 4  zc29 e (fun n => Eq.refl _)
      exact ev_b 0 (zj27  (Option.some.inj zh26).symm ) (fun n => Eq.refl _)
    · have zh26 := itn zh26 zc29
      suffices e : Ev (d + 3, 1, 8, 320, 11, [.val (.ref 64), .val (.int p1), .val (.int p2), .val a_unk, .val a_unk, .val a_unk], [.ref 64], (126, 120, L, [Y_2, T, H2, H, RU, RV, ST, NS, I0, I1, I2, BO, FI, RG, GU, PU, MA, MN, MS, OT, SC], [256, 192, 320, 384, w, r5, 576, 640, 704], Lg)) o from ev_f (c := p2 < 1) _ _ 4  zc29 e (fun n => Eq.refl _)
      by_cases zc30 : 10 < p2
      · have zh26 := itp zh26 zc30
        suffices e : Ev (d + 3, 1, 8, 320, 21, [.val (.ref 64), .val (.int p1), .val (.int p2), .val a_unk, .val a_unk, .val a_unk], [.ref 64], (126, 120, L, [Y_2, T, H2, H, RU, RV, ST, NS, I0, I1, I2, BO, FI, RG, GU, PU, MA, MN, MS, OT, SC], [256, 192, 320, 384, w, r5, 576, 640, 704], Lg)) o from ev_t (c := 10 < p2) _ _ 3  zc30 e (fun n => Eq.refl _)
        exact ev_b 0 (zj27  (Option.some.inj zh26).symm ) (fun n => Eq.refl _)
      · have zh26 := itn zh26 zc30
        suffices e : Ev (d + 3, 1, 8, 320, 17, [.val (.ref 64), .val (.int p1), .val (.int p2), .val a_unk, .val a_unk, .val a_unk], [.ref 64], (126, 120, L, [Y_2, T, H2, H, RU, RV, ST, NS, I0, I1, I2, BO, FI, RG, GU, PU, MA, MN, MS, OT, SC], [256, 192, 320, 384, w, r5, 576, 640, 704], Lg)) o from ev_f (c := 10 < p2) _ _ 3  zc30 e (fun n => Eq.refl _)
        have zh31 := sum_r zh4 (Option.some.inj zh26).symm
        exact ev_b 2 (zj5 1 (Option.some.inj zh31) ) (fun n => Eq.refl _)
  | succ q1 =>
    have h := itn h (Nat.succ_ne_zero q1)
    have ze32 := Option.some.inj h
    subst ze32
    subst ho
    exact ev_thr (fun v μ => (d + 3, 1, 8, 320, 5, [.val (.ref 64), .val (.int p1), .val (.int p2), .val a_unk, .val a_unk, .val a_unk], v.toList ++ [], μ)) 3 ze2 (fun n => Eq.refl _) (fun n => rfl)
set_option maxRecDepth 1000000 in
set_option maxHeartbeats 4000000 in
theorem R_f_Y_together_3 (d : Nat) (Y T H2 H RV RU ST NS I0 I1 I2 BO FI RG GU PU MA MN MS OT SC : Nat → Nat → Int32) (w r5 : Nat) (L : Nat) (Lg : Int64) (p1 : Int32) (p2 : Int32) {r : Nat × Int32 × (Nat → Nat → Int32) × (Nat → Nat → Int32) × Nat} (h : f_Y_together Y H NS BO 256 r5 p1 p2 = some r) : Ev (d + 3, 2, 16, 320, 0, [.val (.ref 64), .val (.int p1), .val (.int p2), .val a_unk, .val a_unk, .val a_unk], [], (126, 120, L, [Y, T, H2, H, RV, RU, ST, NS, I0, I1, I2, BO, FI, RG, GU, PU, MA, MN, MS, OT, SC], [256, 192, 384, 320, w, r5, 576, 640, 704], Lg)) ((r.1, a_ov r.1 (.int r.2.1), (126, 120, L, [r.2.2.1, T, H2, H, RV, RU, ST, NS, I0, I1, I2, r.2.2.2.1, FI, RG, GU, PU, MA, MN, MS, OT, SC], [256, 192, 384, 320, w, r.2.2.2.2, 576, 640, 704], Lg)) : AOut) := by
  suffices key : ∀ o : AOut, ((r.1, a_ov r.1 (.int r.2.1), (126, 120, L, [r.2.2.1, T, H2, H, RV, RU, ST, NS, I0, I1, I2, r.2.2.2.1, FI, RG, GU, PU, MA, MN, MS, OT, SC], [256, 192, 384, 320, w, r.2.2.2.2, 576, 640, 704], Lg)) : AOut) = o → Ev (d + 3, 2, 16, 320, 0, [.val (.ref 64), .val (.int p1), .val (.int p2), .val a_unk, .val a_unk, .val a_unk], [], (126, 120, L, [Y, T, H2, H, RV, RU, ST, NS, I0, I1, I2, BO, FI, RG, GU, PU, MA, MN, MS, OT, SC], [256, 192, 384, 320, w, r5, 576, 640, 704], Lg)) o from key _ rfl
  intro o ho
  obtain ⟨⟨q1, Y_2⟩, zh1, h⟩ := bnd h
  have zh1 : f_Y_needPeople Y H p1 = some (q1, Y_2) := zh1
  have ze2 := R_f_Y_needPeople_3 (d + 1) Y T H2 H RV RU ST NS I0 I1 I2 BO FI RG GU PU MA MN MS OT SC w r5 L Lg p1 zh1
  cases q1 with
  | zero =>
    have h := itp h rfl
    suffices e : Ev (d + 3, 1, 8, 320, 5, [.val (.ref 64), .val (.int p1), .val (.int p2), .val a_unk, .val a_unk, .val a_unk], [], (126, 120, L, [Y_2, T, H2, H, RV, RU, ST, NS, I0, I1, I2, BO, FI, RG, GU, PU, MA, MN, MS, OT, SC], [256, 192, 384, 320, w, r5, 576, 640, 704], Lg)) o from ev_call (fun v μ => (d + 3, 1, 8, 320, 5, [.val (.ref 64), .val (.int p1), .val (.int p2), .val a_unk, .val a_unk, .val a_unk], v.toList ++ [], μ)) 3 ze2 e (fun n => Eq.refl _)
    obtain ⟨zt3, zh4, h⟩ := bnd h
    have zj5 : ∀ (v3 : Int32), v3 = zt3 → Ev (d + 3, 1, 8, 320, 22, [.val (.ref 64), .val (.int p1), .val (.int p2), .val a_unk, .val a_unk, .val a_unk], [.int v3, .ref 64], (126, 120, L, [Y_2, T, H2, H, RV, RU, ST, NS, I0, I1, I2, BO, FI, RG, GU, PU, MA, MN, MS, OT, SC], [256, 192, 384, 320, w, r5, 576, 640, 704], Lg)) o := by
      intro v3 ze6
      subst ze6
      obtain ⟨⟨q4, Y_5⟩, zh7, h⟩ := bnd h
      have zh7 : f_Y_refuseUnless Y_2 v3 = some (q4, Y_5) := zh7
      have ze8 := R_f_Y_refuseUnless_3 (d + 2) Y_2 T H2 H RV RU ST NS I0 I1 I2 BO FI RG GU PU MA MN MS OT SC w r5 L Lg v3 zh7
      cases q4 with
      | zero =>
        have h := itp h rfl
        suffices e : Ev (d + 3, 0, 0, 320, 25, [.val (.ref 64), .val (.int p1), .val (.int p2), .val a_unk, .val a_unk, .val a_unk], [], (126, 120, L, [Y_5, T, H2, H, RV, RU, ST, NS, I0, I1, I2, BO, FI, RG, GU, PU, MA, MN, MS, OT, SC], [256, 192, 384, 320, w, r5, 576, 640, 704], Lg)) o from ev_call (fun v μ => (d + 3, 0, 0, 320, 25, [.val (.ref 64), .val (.int p1), .val (.int p2), .val a_unk, .val a_unk, .val a_unk], v.toList ++ [], μ)) 1 ze8 e (fun n => Eq.refl _)
        obtain ⟨BO_7, zh9, h⟩ := bnd h
        have zh9 : f_Y_lookNow H NS BO = some BO_7 := zh9
        have ze10 := R_f_Y_lookNow_3 (d + 0) Y_5 T H2 H RV RU ST NS I0 I1 I2 BO FI RG GU PU MA MN MS OT SC w r5 L Lg zh9
        suffices e : Ev (d + 3, 0, 0, 320, 29, [.val (.ref 64), .val (.int p1), .val (.int p2), .val a_unk, .val a_unk, .val a_unk], [.ref 768], (126, 120, L, [Y_5, T, H2, H, RV, RU, ST, NS, I0, I1, I2, BO_7, FI, RG, GU, PU, MA, MN, MS, OT, SC], [256, 192, 384, 320, w, 256, 576, 640, 704], Lg)) o from ev_call (fun v μ => (d + 3, 0, 0, 320, 29, [.val (.ref 64), .val (.int p1), .val (.int p2), .val a_unk, .val a_unk, .val a_unk], v.toList ++ [], μ)) 2 ze10 e (fun n => Eq.refl _)
        obtain ⟨x8, zh11, h⟩ := bnd h
        have zh11 : f_Board_idleHours H BO_7 p1 = some x8 := zh11
        have ze12 := R_f_Board_idleHours_1 (d + 1) Y_5 T H2 H RV RU ST NS I0 I1 I2 BO_7 FI RG GU PU MA MN MS OT SC 256 192 384 320 w 576 640 704 L Lg p1 zh11
        suffices e : Ev (d + 3, 0, 0, 320, 33, [.val (.ref 64), .val (.int p1), .val (.int p2), .val a_unk, .val a_unk, .val a_unk], [.int x8], (126, 120, L, [Y_5, T, H2, H, RV, RU, ST, NS, I0, I1, I2, BO_7, FI, RG, GU, PU, MA, MN, MS, OT, SC], [256, 192, 384, 320, w, 256, 576, 640, 704], Lg)) o from ev_call (fun v μ => (d + 3, 0, 0, 320, 33, [.val (.ref 64), .val (.int p1), .val (.int p2), .val a_unk, .val a_unk, .val a_unk], v.toList ++ [], μ)) 2 ze12 e (fun n => Eq.refl _)
        obtain ⟨zb13, zh14, h⟩ := bnd h
        suffices e : Ev (d + 3, 0, 0, 320, 44, [.val (.ref 64), .val (.int p1), .val (.int p2), .val (.int x8), .val (.int ((a_shl 1 p2) - 1)), .val (.int 0)], [], (126, 120, L, [Y_5, T, H2, H, RV, RU, ST, NS, I0, I1, I2, BO_7, FI, RG, GU, PU, MA, MN, MS, OT, SC], [256, 192, 384, 320, w, 256, 576, 640, 704], Lg)) o from ev_b 9 e (fun n => Eq.refl _)
        refine ev_loop (δ := Unit) (fun a j => (d + 3, 0, 0, 320, 44, [.val (.ref 64), .val (.int p1), .val (.int p2), .val (.int x8), .val (.int ((a_shl 1 p2) - 1)), .val (.int a)], [], (126, 120, L, [Y_5, T, H2, H, RV, RU, ST, NS, I0, I1, I2, BO_7, FI, RG, GU, PU, MA, MN, MS, OT, SC], [256, 192, 384, 320, w, 256, 576, 640, 704], Lg))) (fun b => sumE b (fun b => ∀ s10 : Value, Ev (d + 3, 0, 0, 320, 79, [.val (.ref 64), .val (.int p1), .val (.int p2), .val (.int x8), .val (.int ((a_shl 1 p2) - 1)), .val s10], [], (126, 120, L, [Y_5, T, H2, H, RV, RU, ST, NS, I0, I1, I2, BO_7, FI, RG, GU, PU, MA, MN, MS, OT, SC], [256, 192, 384, 320, w, 256, 576, 640, 704], Lg)) o) (fun b => ((b.1, a_ov b.1 (.int b.2.1), (126, 120, L, [b.2.2.1, T, H2, H, RV, RU, ST, NS, I0, I1, I2, b.2.2.2.1, FI, RG, GU, PU, MA, MN, MS, OT, SC], [256, 192, 384, 320, w, b.2.2.2.2, 576, 640, 704], Lg)) : AOut) = o)) ?_ a_F 0 zb13 zh14 ?_ ()
        · rintro v9 zr18 zh17 zi15 zx16 ⟨⟩
          have zh17 : f_Y_together_l44 H p2 x8 Y_5 BO_7 256 v9 = some zr18 := zh17
          suffices e : Ev (d + 3, 0, 0, 320, 52, [.val (.ref 64), .val (.int p1), .val (.int p2), .val (.int x8), .val (.int ((a_shl 1 p2) - 1)), .val (.int v9)], [.ref 256, .int (v9 + p2)], (126, 120, L, [Y_5, T, H2, H, RV, RU, ST, NS, I0, I1, I2, BO_7, FI, RG, GU, PU, MA, MN, MS, OT, SC], [256, 192, 384, 320, w, 256, 576, 640, 704], Lg)) o from ev_b 5 e (fun n => Eq.refl _)
          by_cases zc19 : (H 0 0) < (v9 + p2)
          · have zh17 := itp zh17 zc19
            suffices e : Ev (d + 3, 0, 0, 320, 79, [.val (.ref 64), .val (.int p1), .val (.int p2), .val (.int x8), .val (.int ((a_shl 1 p2) - 1)), .val (.int v9)], [], (126, 120, L, [Y_5, T, H2, H, RV, RU, ST, NS, I0, I1, I2, BO_7, FI, RG, GU, PU, MA, MN, MS, OT, SC], [256, 192, 384, 320, w, 256, 576, 640, 704], Lg)) o from ev_t (c := (H 0 0) < (v9 + p2)) _ _ 2  zc19 e (fun n => Eq.refl _)
            exact ev_b 0 (zx16 _ (Option.some.inj zh17).symm (.int v9)) (fun n => Eq.refl _)
          · have zh17 := itn zh17 zc19
            suffices e : Ev (d + 3, 0, 0, 320, 58, [.val (.ref 64), .val (.int p1), .val (.int p2), .val (.int x8), .val (.int ((a_shl 1 p2) - 1)), .val (.int v9)], [], (126, 120, L, [Y_5, T, H2, H, RV, RU, ST, NS, I0, I1, I2, BO_7, FI, RG, GU, PU, MA, MN, MS, OT, SC], [256, 192, 384, 320, w, 256, 576, 640, 704], Lg)) o from ev_f (c := (H 0 0) < (v9 + p2)) _ _ 2  zc19 e (fun n => Eq.refl _)
            by_cases zc20 : ((a_shr x8 v9) &&& ((a_shl 1 p2) - 1)) ≠ ((a_shl 1 p2) - 1)
            · have zh17 := itp zh17 zc20
              suffices e : Ev (d + 3, 0, 0, 320, 73, [.val (.ref 64), .val (.int p1), .val (.int p2), .val (.int x8), .val (.int ((a_shl 1 p2) - 1)), .val (.int v9)], [], (126, 120, L, [Y_5, T, H2, H, RV, RU, ST, NS, I0, I1, I2, BO_7, FI, RG, GU, PU, MA, MN, MS, OT, SC], [256, 192, 384, 320, w, 256, 576, 640, 704], Lg)) o from ev_t (c := ((a_shr x8 v9) &&& ((a_shl 1 p2) - 1)) ≠ ((a_shl 1 p2) - 1)) _ _ 7  zc20 e (fun n => Eq.refl _)
              exact ev_b 2 (zi15 _ (Option.some.inj zh17).symm ()) (fun n => Eq.refl _)
            · have zh17 := itn zh17 zc20
              suffices e : Ev (d + 3, 0, 0, 320, 70, [.val (.ref 64), .val (.int p1), .val (.int p2), .val (.int x8), .val (.int ((a_shl 1 p2) - 1)), .val (.int v9)], [], (126, 120, L, [Y_5, T, H2, H, RV, RU, ST, NS, I0, I1, I2, BO_7, FI, RG, GU, PU, MA, MN, MS, OT, SC], [256, 192, 384, 320, w, 256, 576, 640, 704], Lg)) o from ev_f (c := ((a_shr x8 v9) &&& ((a_shl 1 p2) - 1)) ≠ ((a_shl 1 p2) - 1)) _ _ 7  zc20 e (fun n => Eq.refl _)
              exact ev_rete 2 (zx16 _ (Option.some.inj zh17).symm) (fun n => Eq.refl _)
        · rcases zb13 with ⟨⟩ | zr18
          · intro s10
            have ze21 := Option.some.inj h
            subst ze21
            exact ev_rete 2 ho (fun n => Eq.refl _)
          · have zh22 : some zr18 = some r := h
            exact (congrArg (fun q => ((q.1, a_ov q.1 (.int q.2.1), (126, 120, L, [q.2.2.1, T, H2, H, RV, RU, ST, NS, I0, I1, I2, q.2.2.2.1, FI, RG, GU, PU, MA, MN, MS, OT, SC], [256, 192, 384, 320, w, q.2.2.2.2, 576, 640, 704], Lg)) : AOut)) (Option.some.inj zh22)).trans ho
      | succ q4 =>
        have h := itn h (Nat.succ_ne_zero q4)
        have ze24 := Option.some.inj h
        subst ze24
        subst ho
        exact ev_thr (fun v μ => (d + 3, 0, 0, 320, 25, [.val (.ref 64), .val (.int p1), .val (.int p2), .val a_unk, .val a_unk, .val a_unk], v.toList ++ [], μ)) 1 ze8 (fun n => Eq.refl _) (fun n => rfl)
    obtain ⟨zt25, zh26, zh4⟩ := bnd zh4
    have zj27 : zt25 = .inl () → Ev (d + 3, 1, 8, 320, 21, [.val (.ref 64), .val (.int p1), .val (.int p2), .val a_unk, .val a_unk, .val a_unk], [.ref 64], (126, 120, L, [Y_2, T, H2, H, RV, RU, ST, NS, I0, I1, I2, BO, FI, RG, GU, PU, MA, MN, MS, OT, SC], [256, 192, 384, 320, w, r5, 576, 640, 704], Lg)) o := by
      intro ze28
      have zh4 := sum_l zh4 ze28
      exact ev_b 1 (zj5 0 (Option.some.inj zh4) ) (fun n => Eq.refl _)
    by_cases zc29 : p2 < 1
    · have zh26 := itp zh26 zc29
      suffices e : Ev (d + 3, 1, 8, 320, 21, [.val (.ref 64), .val (.int p1), .val (.int p2), .val a_unk, .val a_unk, .val a_unk], [.ref 64], (126, 120, L, [Y_2, T, H2, H, RV, RU, ST, NS, I0, I1, I2, BO, FI, RG, GU, PU, MA, MN, MS, OT, SC], [256, 192, 384, 320, w, r5, 576, 640, 704], Lg)) o from ev_t (c := p2 < 1) _ _ 4  zc29 e (fun n => Eq.refl _)
      exact ev_b 0 (zj27  (Option.some.inj zh26).symm ) (fun n => Eq.refl _)
    · have zh26 := itn zh26 zc29
      suffices e : Ev (d + 3, 1, 8, 320, 11, [.val (.ref 64), .val (.int p1), .val (.int p2), .val a_unk, .val a_unk, .val a_unk], [.ref 64], (126, 120, L, [Y_2, T, H2, H, RV, RU, ST, NS, I0, I1, I2, BO, FI, RG, GU, PU, MA, MN, MS, OT, SC], [256, 192, 384, 320, w, r5, 576, 640, 704], Lg)) o from ev_f (c := p2 < 1) _ _ 4  zc29 e (fun n => Eq.refl _)
      by_cases zc30 : 10 < p2
      · have zh26 := itp zh26 zc30
        suffices e : Ev (d + 3, 1, 8, 320, 21, [.val (.ref 64), .val (.int p1), .val (.int p2), .val a_unk, .val a_unk, .val a_unk], [.ref 64], (126, 120, L, [Y_2, T, H2, H, RV, RU, ST, NS, I0, I1, I2, BO, FI, RG, GU, PU, MA, MN, MS, OT, SC], [256, 192, 384, 320, w, r5, 576, 640, 704], Lg)) o from ev_t (c := 10 < p2) _ _ 3  zc30 e (fun n => Eq.refl _)
        exact ev_b 0 (zj27  (Option.some.inj zh26).symm ) (fun n => Eq.refl _)
      · have zh26 := itn zh26 zc30
        suffices e : Ev (d + 3, 1, 8, 320, 17, [.val (.ref 64), .val (.int p1), .val (.int p2), .val a_unk, .val a_unk, .val a_unk], [.ref 64], (126, 120, L, [Y_2, T, H2, H, RV, RU, ST, NS, I0, I1, I2, BO, FI, RG, GU, PU, MA, MN, MS, OT, SC], [256, 192, 384, 320, w, r5, 576, 640, 704], Lg)) o from ev_f (c := 10 < p2) _ _ 3  zc30 e (fun n => Eq.refl _)
        have zh31 := sum_r zh4 (Option.some.inj zh26).symm
        exact ev_b 2 (zj5 1 (Option.some.inj zh31) ) (fun n => Eq.refl _)
  | succ q1 =>
    have h := itn h (Nat.succ_ne_zero q1)
    have ze32 := Option.some.inj h
    subst ze32
    subst ho
    exact ev_thr (fun v μ => (d + 3, 1, 8, 320, 5, [.val (.ref 64), .val (.int p1), .val (.int p2), .val a_unk, .val a_unk, .val a_unk], v.toList ++ [], μ)) 3 ze2 (fun n => Eq.refl _) (fun n => rfl)
set_option maxRecDepth 1000000 in
set_option maxHeartbeats 4000000 in
theorem R_f_Math_max_0 (d : Nat) (Y T HA HB RA RB ST NS I0 I1 I2 BO FI RG GU PU MA MN MS OT SC : Nat → Nat → Int32) (r0 r1 r2 r3 w r5 r6 r7 r8 : Nat) (L : Nat) (Lg : Int64) (p0 : Int32) (p1 : Int32) {r : Int32} (h : f_Math_max p0 p1 = some r) : Ev (d + 0, 0, 0, 2, 0, [.val (.int p0), .val (.int p1)], [], (126, 120, L, [Y, T, HA, HB, RA, RB, ST, NS, I0, I1, I2, BO, FI, RG, GU, PU, MA, MN, MS, OT, SC], [r0, r1, r2, r3, w, r5, r6, r7, r8], Lg)) ((0, some (.int r), (126, 120, L, [Y, T, HA, HB, RA, RB, ST, NS, I0, I1, I2, BO, FI, RG, GU, PU, MA, MN, MS, OT, SC], [r0, r1, r2, r3, w, r5, r6, r7, r8], Lg)) : AOut) := by
  suffices key : ∀ o : AOut, ((0, some (.int r), (126, 120, L, [Y, T, HA, HB, RA, RB, ST, NS, I0, I1, I2, BO, FI, RG, GU, PU, MA, MN, MS, OT, SC], [r0, r1, r2, r3, w, r5, r6, r7, r8], Lg)) : AOut) = o → Ev (d + 0, 0, 0, 2, 0, [.val (.int p0), .val (.int p1)], [], (126, 120, L, [Y, T, HA, HB, RA, RB, ST, NS, I0, I1, I2, BO, FI, RG, GU, PU, MA, MN, MS, OT, SC], [r0, r1, r2, r3, w, r5, r6, r7, r8], Lg)) o from key _ rfl
  intro o ho
  by_cases zc1 : p0 < p1
  · have h := itp h zc1
    suffices e : Ev (d + 0, 0, 0, 2, 9, [.val (.int p0), .val (.int p1)], [], (126, 120, L, [Y, T, HA, HB, RA, RB, ST, NS, I0, I1, I2, BO, FI, RG, GU, PU, MA, MN, MS, OT, SC], [r0, r1, r2, r3, w, r5, r6, r7, r8], Lg)) o from ev_t (c := p0 < p1) _ _ 3  zc1 e (fun n => Eq.refl _)
    have ze2 := Option.some.inj h
    subst ze2
    exact ev_rete 2 ho (fun n => Eq.refl _)
  · have h := itn h zc1
    suffices e : Ev (d + 0, 0, 0, 2, 5, [.val (.int p0), .val (.int p1)], [], (126, 120, L, [Y, T, HA, HB, RA, RB, ST, NS, I0, I1, I2, BO, FI, RG, GU, PU, MA, MN, MS, OT, SC], [r0, r1, r2, r3, w, r5, r6, r7, r8], Lg)) o from ev_f (c := p0 < p1) _ _ 3  zc1 e (fun n => Eq.refl _)
    have ze3 := Option.some.inj h
    subst ze3
    exact ev_rete 3 ho (fun n => Eq.refl _)
set_option maxRecDepth 1000000 in
set_option maxHeartbeats 4000000 in
theorem R_f_Board_mostBorne_0 (d : Nat) (Y T H H2 RA RB ST NS I0 I1 I2 BO FI RG GU PU MA MN MS OT SC : Nat → Nat → Int32) (r0 r1 r2 r3 w r6 r7 r8 : Nat) (L : Nat) (Lg : Int64) {r : Int32} (h : f_Board_mostBorne H BO = some r) : Ev (d + 2, 0, 0, 169, 0, [.val (.ref 768), .val a_unk, .val a_unk], [], (126, 120, L, [Y, T, H, H2, RA, RB, ST, NS, I0, I1, I2, BO, FI, RG, GU, PU, MA, MN, MS, OT, SC], [r0, r1, r2, r3, w, 192, r6, r7, r8], Lg)) ((0, some (.int r), (126, 120, L, [Y, T, H, H2, RA, RB, ST, NS, I0, I1, I2, BO, FI, RG, GU, PU, MA, MN, MS, OT, SC], [r0, r1, r2, r3, w, 192, r6, r7, r8], Lg)) : AOut) := by
  suffices key : ∀ o : AOut, ((0, some (.int r), (126, 120, L, [Y, T, H, H2, RA, RB, ST, NS, I0, I1, I2, BO, FI, RG, GU, PU, MA, MN, MS, OT, SC], [r0, r1, r2, r3, w, 192, r6, r7, r8], Lg)) : AOut) = o → Ev (d + 2, 0, 0, 169, 0, [.val (.ref 768), .val a_unk, .val a_unk], [], (126, 120, L, [Y, T, H, H2, RA, RB, ST, NS, I0, I1, I2, BO, FI, RG, GU, PU, MA, MN, MS, OT, SC], [r0, r1, r2, r3, w, 192, r6, r7, r8], Lg)) o from key _ rfl
  intro o ho
  obtain ⟨v5, zh2, h⟩ := bnd h
  suffices e : Ev (d + 2, 0, 0, 169, 4, [.val (.ref 768), .val (.int 0), .val (.int 0)], [], (126, 120, L, [Y, T, H, H2, RA, RB, ST, NS, I0, I1, I2, BO, FI, RG, GU, PU, MA, MN, MS, OT, SC], [r0, r1, r2, r3, w, 192, r6, r7, r8], Lg)) o from ev_b 4 e (fun n => Eq.refl _)
  refine ev_loop (δ := Unit) (fun a j => (d + 2, 0, 0, 169, 4, [.val (.ref 768), .val (.int a.1), .val (.int a.2)], [], (126, 120, L, [Y, T, H, H2, RA, RB, ST, NS, I0, I1, I2, BO, FI, RG, GU, PU, MA, MN, MS, OT, SC], [r0, r1, r2, r3, w, 192, r6, r7, r8], Lg))) (fun b => ∀ s6 : Value, Ev (d + 2, 0, 0, 169, 31, [.val (.ref 768), .val (.int b), .val s6], [], (126, 120, L, [Y, T, H, H2, RA, RB, ST, NS, I0, I1, I2, BO, FI, RG, GU, PU, MA, MN, MS, OT, SC], [r0, r1, r2, r3, w, 192, r6, r7, r8], Lg)) o) ?_ a_F (0, 0) v5 zh2 ?_ ()
  · rintro ⟨v1, v2⟩ zr6 zh5 zi3 zx4 ⟨⟩
    have zh5 : f_Board_mostBorne_l4 H BO v1 v2 = some zr6 := zh5
    suffices e : Ev (d + 2, 0, 0, 169, 9, [.val (.ref 768), .val (.int v1), .val (.int v2)], [.ref 192, .int v2], (126, 120, L, [Y, T, H, H2, RA, RB, ST, NS, I0, I1, I2, BO, FI, RG, GU, PU, MA, MN, MS, OT, SC], [r0, r1, r2, r3, w, 192, r6, r7, r8], Lg)) o from ev_b 3 e (fun n => Eq.refl _)
    by_cases zc7 : (H 0 2) ≤ v2
    · have zh5 := itp zh5 zc7
      suffices e : Ev (d + 2, 0, 0, 169, 31, [.val (.ref 768), .val (.int v1), .val (.int v2)], [], (126, 120, L, [Y, T, H, H2, RA, RB, ST, NS, I0, I1, I2, BO, FI, RG, GU, PU, MA, MN, MS, OT, SC], [r0, r1, r2, r3, w, 192, r6, r7, r8], Lg)) o from ev_t (c := (H 0 2) ≤ v2) _ _ 2  zc7 e (fun n => Eq.refl _)
      exact ev_b 0 (zx4 _ (Option.some.inj zh5).symm (.int v2)) (fun n => Eq.refl _)
    · have zh5 := itn zh5 zc7
      suffices e : Ev (d + 2, 0, 0, 169, 15, [.val (.ref 768), .val (.int v1), .val (.int v2)], [], (126, 120, L, [Y, T, H, H2, RA, RB, ST, NS, I0, I1, I2, BO, FI, RG, GU, PU, MA, MN, MS, OT, SC], [r0, r1, r2, r3, w, 192, r6, r7, r8], Lg)) o from ev_f (c := (H 0 2) ≤ v2) _ _ 2  zc7 e (fun n => Eq.refl _)
      obtain ⟨x3, zh8, zh5⟩ := bnd zh5
      have zh8 : f_Board_bears H BO v2 = some x3 := zh8
      have ze9 := R_f_Board_bears_0 (d + 0) Y T H H2 RA RB ST NS I0 I1 I2 BO FI RG GU PU MA MN MS OT SC r0 r1 r2 r3 w r6 r7 r8 L Lg v2 zh8
      suffices e : Ev (d + 2, 0, 0, 169, 21, [.val (.ref 768), .val (.int v1), .val (.int v2)], [.int x3, .int v1], (126, 120, L, [Y, T, H, H2, RA, RB, ST, NS, I0, I1, I2, BO, FI, RG, GU, PU, MA, MN, MS, OT, SC], [r0, r1, r2, r3, w, 192, r6, r7, r8], Lg)) o from ev_call (fun v μ => (d + 2, 0, 0, 169, 21, [.val (.ref 768), .val (.int v1), .val (.int v2)], v.toList ++ [.int v1], μ)) 4 ze9 e (fun n => Eq.refl _)
      obtain ⟨x4, zh10, zh5⟩ := bnd zh5
      have zh10 : f_Math_max v1 x3 = some x4 := zh10
      have ze11 := R_f_Math_max_0 (d + 1) Y T H H2 RA RB ST NS I0 I1 I2 BO FI RG GU PU MA MN MS OT SC r0 r1 r2 r3 w 192 r6 r7 r8 L Lg v1 x3 zh10
      suffices e : Ev (d + 2, 0, 0, 169, 24, [.val (.ref 768), .val (.int v1), .val (.int v2)], [.int x4], (126, 120, L, [Y, T, H, H2, RA, RB, ST, NS, I0, I1, I2, BO, FI, RG, GU, PU, MA, MN, MS, OT, SC], [r0, r1, r2, r3, w, 192, r6, r7, r8], Lg)) o from ev_call (fun v μ => (d + 2, 0, 0, 169, 24, [.val (.ref 768), .val (.int v1), .val (.int v2)], v.toList ++ [], μ)) 1 ze11 e (fun n => Eq.refl _)
      exact ev_b 3 (zi3 _ (Option.some.inj zh5).symm ()) (fun n => Eq.refl _)
  · skip
    intro s6
    have ze12 := Option.some.inj h
    subst ze12
    exact ev_rete 2 ho (fun n => Eq.refl _)
set_option maxRecDepth 1000000 in
set_option maxHeartbeats 4000000 in
theorem R_f_Y_fair_0 (d : Nat) (Y T H H2 RU RV ST NS I0 I1 I2 BO FI RG GU PU MA MN MS OT SC : Nat → Nat → Int32) (w r5 : Nat) (L : Nat) (Lg : Int64) (p1 : Int32) {r : Nat × Int32 × (Nat → Nat → Int32) × (Nat → Nat → Int32) × Nat} (h : f_Y_fair Y H NS BO 192 r5 p1 = some r) : Ev (d + 3, 1, 8, 321, 0, [.val (.ref 64), .val (.int p1), .val a_unk, .val a_unk, .val a_unk, .val a_unk, .val a_unk, .val a_unk], [], (126, 120, L, [Y, T, H, H2, RU, RV, ST, NS, I0, I1, I2, BO, FI, RG, GU, PU, MA, MN, MS, OT, SC], [192, 256, 320, 384, w, r5, 576, 640, 704], Lg)) ((r.1, a_ov r.1 (.int r.2.1), (126, 120, L, [r.2.2.1, T, H, H2, RU, RV, ST, NS, I0, I1, I2, r.2.2.2.1, FI, RG, GU, PU, MA, MN, MS, OT, SC], [192, 256, 320, 384, w, r.2.2.2.2, 576, 640, 704], Lg)) : AOut) := by
  suffices key : ∀ o : AOut, ((r.1, a_ov r.1 (.int r.2.1), (126, 120, L, [r.2.2.1, T, H, H2, RU, RV, ST, NS, I0, I1, I2, r.2.2.2.1, FI, RG, GU, PU, MA, MN, MS, OT, SC], [192, 256, 320, 384, w, r.2.2.2.2, 576, 640, 704], Lg)) : AOut) = o → Ev (d + 3, 1, 8, 321, 0, [.val (.ref 64), .val (.int p1), .val a_unk, .val a_unk, .val a_unk, .val a_unk, .val a_unk, .val a_unk], [], (126, 120, L, [Y, T, H, H2, RU, RV, ST, NS, I0, I1, I2, BO, FI, RG, GU, PU, MA, MN, MS, OT, SC], [192, 256, 320, 384, w, r5, 576, 640, 704], Lg)) o from key _ rfl
  intro o ho
  obtain ⟨zt1, zh2, h⟩ := bnd h
  have zj3 : ∀ (v1 : Int32), v1 = zt1 → Ev (d + 3, 1, 8, 321, 15, [.val (.ref 64), .val (.int p1), .val a_unk, .val a_unk, .val a_unk, .val a_unk, .val a_unk, .val a_unk], [.int v1, .ref 64], (126, 120, L, [Y, T, H, H2, RU, RV, ST, NS, I0, I1, I2, BO, FI, RG, GU, PU, MA, MN, MS, OT, SC], [192, 256, 320, 384, w, r5, 576, 640, 704], Lg)) o := by
    intro v1 ze4
    subst ze4
    obtain ⟨⟨q2, Y_3⟩, zh5, h⟩ := bnd h
    have zh5 : f_Y_refuseUnless Y v1 = some (q2, Y_3) := zh5
    have ze6 := R_f_Y_refuseUnless_0 (d + 2) Y T H H2 RU RV ST NS I0 I1 I2 BO FI RG GU PU MA MN MS OT SC w r5 L Lg v1 zh5
    cases q2 with
    | zero =>
      have h := itp h rfl
      suffices e : Ev (d + 3, 0, 0, 321, 18, [.val (.ref 64), .val (.int p1), .val a_unk, .val a_unk, .val a_unk, .val a_unk, .val a_unk, .val a_unk], [], (126, 120, L, [Y_3, T, H, H2, RU, RV, ST, NS, I0, I1, I2, BO, FI, RG, GU, PU, MA, MN, MS, OT, SC], [192, 256, 320, 384, w, r5, 576, 640, 704], Lg)) o from ev_call (fun v μ => (d + 3, 0, 0, 321, 18, [.val (.ref 64), .val (.int p1), .val a_unk, .val a_unk, .val a_unk, .val a_unk, .val a_unk, .val a_unk], v.toList ++ [], μ)) 1 ze6 e (fun n => Eq.refl _)
      obtain ⟨BO_5, zh7, h⟩ := bnd h
      have zh7 : f_Y_lookNow H NS BO = some BO_5 := zh7
      have ze8 := R_f_Y_lookNow_0 (d + 0) Y_3 T H H2 RU RV ST NS I0 I1 I2 BO FI RG GU PU MA MN MS OT SC w r5 L Lg zh7
      suffices e : Ev (d + 3, 0, 0, 321, 22, [.val (.ref 64), .val (.int p1), .val a_unk, .val a_unk, .val a_unk, .val a_unk, .val a_unk, .val a_unk], [.ref 768], (126, 120, L, [Y_3, T, H, H2, RU, RV, ST, NS, I0, I1, I2, BO_5, FI, RG, GU, PU, MA, MN, MS, OT, SC], [192, 256, 320, 384, w, 192, 576, 640, 704], Lg)) o from ev_call (fun v μ => (d + 3, 0, 0, 321, 22, [.val (.ref 64), .val (.int p1), .val a_unk, .val a_unk, .val a_unk, .val a_unk, .val a_unk, .val a_unk], v.toList ++ [], μ)) 2 ze8 e (fun n => Eq.refl _)
      obtain ⟨x6, zh9, h⟩ := bnd h
      have zh9 : f_Board_mostBorne H BO_5 = some x6 := zh9
      have ze10 := R_f_Board_mostBorne_0 (d + 0) Y_3 T H H2 RU RV ST NS I0 I1 I2 BO_5 FI RG GU PU MA MN MS OT SC 192 256 320 384 w 576 640 704 L Lg zh9
      suffices e : Ev (d + 3, 0, 0, 321, 27, [.val (.ref 64), .val (.int p1), .val (.ref 768), .val a_unk, .val a_unk, .val a_unk, .val a_unk, .val a_unk], [.int x6], (126, 120, L, [Y_3, T, H, H2, RU, RV, ST, NS, I0, I1, I2, BO_5, FI, RG, GU, PU, MA, MN, MS, OT, SC], [192, 256, 320, 384, w, 192, 576, 640, 704], Lg)) o from ev_call (fun v μ => (d + 3, 0, 0, 321, 27, [.val (.ref 64), .val (.int p1), .val (.ref 768), .val a_unk, .val a_unk, .val a_unk, .val a_unk, .val a_unk], v.toList ++ [], μ)) 3 ze10 e (fun n => Eq.refl _)
      obtain ⟨zb11, zh12, h⟩ := bnd h
      suffices e : Ev (d + 3, 0, 0, 321, 37, [.val (.ref 64), .val (.int p1), .val (.ref 768), .val (.int x6), .val (.int x6), .val (.int (-1)), .val (.int 0), .val a_unk], [], (126, 120, L, [Y_3, T, H, H2, RU, RV, ST, NS, I0, I1, I2, BO_5, FI, RG, GU, PU, MA, MN, MS, OT, SC], [192, 256, 320, 384, w, 192, 576, 640, 704], Lg)) o from ev_b 7 e (fun n => Eq.refl _)
      refine ev_loop (δ := Value) (fun a j => (d + 3, 0, 0, 321, 37, [.val (.ref 64), .val (.int p1), .val (.ref 768), .val (.int x6), .val (.int a.1), .val (.int a.2.1), .val (.int a.2.2), .val j], [], (126, 120, L, [Y_3, T, H, H2, RU, RV, ST, NS, I0, I1, I2, BO_5, FI, RG, GU, PU, MA, MN, MS, OT, SC], [192, 256, 320, 384, w, 192, 576, 640, 704], Lg))) (fun b => ∀ s15 : Value, ∀ s16 : Value, Ev (d + 3, 0, 0, 321, 88, [.val (.ref 64), .val (.int p1), .val (.ref 768), .val (.int x6), .val (.int b.1), .val (.int b.2), .val s15, .val s16], [], (126, 120, L, [Y_3, T, H, H2, RU, RV, ST, NS, I0, I1, I2, BO_5, FI, RG, GU, PU, MA, MN, MS, OT, SC], [192, 256, 320, 384, w, 192, 576, 640, 704], Lg)) o) ?_ a_F (x6, (-1), 0) zb11 zh12 ?_ a_unk
      · rintro ⟨v7, v8, v9⟩ zr16 zh15 zi13 zx14 s10
        have zh15 : f_Y_fair_l37 H BO_5 x6 v7 v8 v9 = some zr16 := zh15
        suffices e : Ev (d + 3, 0, 0, 321, 43, [.val (.ref 64), .val (.int p1), .val (.ref 768), .val (.int x6), .val (.int v7), .val (.int v8), .val (.int v9), .val s10], [.ref 192, .int v9], (126, 120, L, [Y_3, T, H, H2, RU, RV, ST, NS, I0, I1, I2, BO_5, FI, RG, GU, PU, MA, MN, MS, OT, SC], [192, 256, 320, 384, w, 192, 576, 640, 704], Lg)) o from ev_b 3 e (fun n => Eq.refl _)
        by_cases zc17 : (H 0 2) ≤ v9
        · have zh15 := itp zh15 zc17
          suffices e : Ev (d + 3, 0, 0, 321, 88, [.val (.ref 64), .val (.int p1), .val (.ref 768), .val (.int x6), .val (.int v7), .val (.int v8), .val (.int v9), .val s10], [], (126, 120, L, [Y_3, T, H, H2, RU, RV, ST, NS, I0, I1, I2, BO_5, FI, RG, GU, PU, MA, MN, MS, OT, SC], [192, 256, 320, 384, w, 192, 576, 640, 704], Lg)) o from ev_t (c := (H 0 2) ≤ v9) _ _ 2  zc17 e (fun n => Eq.refl _)
          exact ev_b 0 (zx14 _ (Option.some.inj zh15).symm (.int v9) s10) (fun n => Eq.refl _)
        · have zh15 := itn zh15 zc17
          suffices e : Ev (d + 3, 0, 0, 321, 49, [.val (.ref 64), .val (.int p1), .val (.ref 768), .val (.int x6), .val (.int v7), .val (.int v8), .val (.int v9), .val s10], [], (126, 120, L, [Y_3, T, H, H2, RU, RV, ST, NS, I0, I1, I2, BO_5, FI, RG, GU, PU, MA, MN, MS, OT, SC], [192, 256, 320, 384, w, 192, 576, 640, 704], Lg)) o from ev_f (c := (H 0 2) ≤ v9) _ _ 2  zc17 e (fun n => Eq.refl _)
          obtain ⟨x11, zh18, zh15⟩ := bnd zh15
          have zh18 : f_Board_bears H BO_5 v9 = some x11 := zh18
          have ze19 := R_f_Board_bears_0 (d + 1) Y_3 T H H2 RU RV ST NS I0 I1 I2 BO_5 FI RG GU PU MA MN MS OT SC 192 256 320 384 w 576 640 704 L Lg v9 zh18
          suffices e : Ev (d + 3, 0, 0, 321, 55, [.val (.ref 64), .val (.int p1), .val (.ref 768), .val (.int x6), .val (.int v7), .val (.int v8), .val (.int v9), .val s10], [.int x11], (126, 120, L, [Y_3, T, H, H2, RU, RV, ST, NS, I0, I1, I2, BO_5, FI, RG, GU, PU, MA, MN, MS, OT, SC], [192, 256, 320, 384, w, 192, 576, 640, 704], Lg)) o from ev_call (fun v μ => (d + 3, 0, 0, 321, 55, [.val (.ref 64), .val (.int p1), .val (.ref 768), .val (.int x6), .val (.int v7), .val (.int v8), .val (.int v9), .val s10], v.toList ++ [], μ)) 3 ze19 e (fun n => Eq.refl _)
          obtain ⟨x12, zh20, zh15⟩ := bnd zh15
          have zh20 : f_Math_min v7 x11 = some x12 := zh20
          have ze21 := R_f_Math_min_0 (d + 2) Y_3 T H H2 RU RV ST NS I0 I1 I2 BO_5 FI RG GU PU MA MN MS OT SC 192 256 320 384 w 192 576 640 704 L Lg v7 x11 zh20
          suffices e : Ev (d + 3, 0, 0, 321, 64, [.val (.ref 64), .val (.int p1), .val (.ref 768), .val (.int x6), .val (.int v7), .val (.int v8), .val (.int v9), .val (.int x11)], [.int x12], (126, 120, L, [Y_3, T, H, H2, RU, RV, ST, NS, I0, I1, I2, BO_5, FI, RG, GU, PU, MA, MN, MS, OT, SC], [192, 256, 320, 384, w, 192, 576, 640, 704], Lg)) o from ev_call (fun v μ => (d + 3, 0, 0, 321, 64, [.val (.ref 64), .val (.int p1), .val (.ref 768), .val (.int x6), .val (.int v7), .val (.int v8), .val (.int v9), .val (.int x11)], v.toList ++ [], μ)) 4 ze21 e (fun n => Eq.refl _)
          by_cases zc22 : v8 ≠ (-1)
          · have zh15 := itp zh15 zc22
            suffices e : Ev (d + 3, 0, 0, 321, 82, [.val (.ref 64), .val (.int p1), .val (.ref 768), .val (.int x6), .val (.int x12), .val (.int v8), .val (.int v9), .val (.int x11)], [], (126, 120, L, [Y_3, T, H, H2, RU, RV, ST, NS, I0, I1, I2, BO_5, FI, RG, GU, PU, MA, MN, MS, OT, SC], [192, 256, 320, 384, w, 192, 576, 640, 704], Lg)) o from ev_t (c := v8 ≠ (-1)) _ _ 4  zc22 e (fun n => Eq.refl _)
            exact ev_b 2 (zi13 _ (Option.some.inj zh15).symm (.int x11)) (fun n => Eq.refl _)
          · have zh15 := itn zh15 zc22
            suffices e : Ev (d + 3, 0, 0, 321, 72, [.val (.ref 64), .val (.int p1), .val (.ref 768), .val (.int x6), .val (.int x12), .val (.int v8), .val (.int v9), .val (.int x11)], [], (126, 120, L, [Y_3, T, H, H2, RU, RV, ST, NS, I0, I1, I2, BO_5, FI, RG, GU, PU, MA, MN, MS, OT, SC], [192, 256, 320, 384, w, 192, 576, 640, 704], Lg)) o from ev_f (c := v8 ≠ (-1)) _ _ 4  zc22 e (fun n => Eq.refl _)
            by_cases zc23 : x11 ≠ x6
            · have zh15 := itp zh15 zc23
              suffices e : Ev (d + 3, 0, 0, 321, 82, [.val (.ref 64), .val (.int p1), .val (.ref 768), .val (.int x6), .val (.int x12), .val (.int v8), .val (.int v9), .val (.int x11)], [], (126, 120, L, [Y_3, T, H, H2, RU, RV, ST, NS, I0, I1, I2, BO_5, FI, RG, GU, PU, MA, MN, MS, OT, SC], [192, 256, 320, 384, w, 192, 576, 640, 704], Lg)) o from ev_t (c := x11 ≠ x6) _ _ 3  zc23 e (fun n => Eq.refl _)
              exact ev_b 2 (zi13 _ (Option.some.inj zh15).symm (.int x11)) (fun n => Eq.refl _)
            · have zh15 := itn zh15 zc23
              suffices e : Ev (d + 3, 0, 0, 321, 78, [.val (.ref 64), .val (.int p1), .val (.ref 768), .val (.int x6), .val (.int x12), .val (.int v8), .val (.int v9), .val (.int x11)], [], (126, 120, L, [Y_3, T, H, H2, RU, RV, ST, NS, I0, I1, I2, BO_5, FI, RG, GU, PU, MA, MN, MS, OT, SC], [192, 256, 320, 384, w, 192, 576, 640, 704], Lg)) o from ev_f (c := x11 ≠ x6) _ _ 3  zc23 e (fun n => Eq.refl _)
              exact ev_b 4 (zi13 _ (Option.some.inj zh15).symm (.int x11)) (fun n => Eq.refl _)
      · obtain ⟨v13, v14⟩ := zb11
        intro s15 s16
        by_cases zc24 : p1 ≠ 0
        · have h := itp h zc24
          suffices e : Ev (d + 3, 0, 0, 321, 99, [.val (.ref 64), .val (.int p1), .val (.ref 768), .val (.int x6), .val (.int v13), .val (.int v14), .val s15, .val s16], [], (126, 120, L, [Y_3, T, H, H2, RU, RV, ST, NS, I0, I1, I2, BO_5, FI, RG, GU, PU, MA, MN, MS, OT, SC], [192, 256, 320, 384, w, 192, 576, 640, 704], Lg)) o from ev_t (c := p1 ≠ 0) _ _ 2  zc24 e (fun n => Eq.refl _)
          have ze25 := Option.some.inj h
          subst ze25
          exact ev_rete 2 ho (fun n => Eq.refl _)
        · have h := itn h zc24
          suffices e : Ev (d + 3, 0, 0, 321, 92, [.val (.ref 64), .val (.int p1), .val (.ref 768), .val (.int x6), .val (.int v13), .val (.int v14), .val s15, .val s16], [], (126, 120, L, [Y_3, T, H, H2, RU, RV, ST, NS, I0, I1, I2, BO_5, FI, RG, GU, PU, MA, MN, MS, OT, SC], [192, 256, 320, 384, w, 192, 576, 640, 704], Lg)) o from ev_f (c := p1 ≠ 0) _ _ 2  zc24 e (fun n => Eq.refl _)
          have ze26 := Option.some.inj h
          subst ze26
          exact ev_rete 5 ho (fun n => Eq.refl _)
    | succ q2 =>
      have h := itn h (Nat.succ_ne_zero q2)
      have ze27 := Option.some.inj h
      subst ze27
      subst ho
      exact ev_thr (fun v μ => (d + 3, 0, 0, 321, 18, [.val (.ref 64), .val (.int p1), .val a_unk, .val a_unk, .val a_unk, .val a_unk, .val a_unk, .val a_unk], v.toList ++ [], μ)) 1 ze6 (fun n => Eq.refl _) (fun n => rfl)
  obtain ⟨zt28, zh29, zh2⟩ := bnd zh2
  have zj30 : zt28 = .inl () → Ev (d + 3, 1, 8, 321, 14, [.val (.ref 64), .val (.int p1), .val a_unk, .val a_unk, .val a_unk, .val a_unk, .val a_unk, .val a_unk], [.ref 64], (126, 120, L, [Y, T, H, H2, RU, RV, ST, NS, I0, I1, I2, BO, FI, RG, GU, PU, MA, MN, MS, OT, SC], [192, 256, 320, 384, w, r5, 576, 640, 704], Lg)) o := by
    intro ze31
    have zh2 := sum_l zh2 ze31
    exact ev_b 1 (zj3 0 (Option.some.inj zh2) ) (fun n => Eq.refl _)
  by_cases zc32 : p1 < 0
  · have zh29 := itp zh29 zc32
    suffices e : Ev (d + 3, 1, 8, 321, 14, [.val (.ref 64), .val (.int p1), .val a_unk, .val a_unk, .val a_unk, .val a_unk, .val a_unk, .val a_unk], [.ref 64], (126, 120, L, [Y, T, H, H2, RU, RV, ST, NS, I0, I1, I2, BO, FI, RG, GU, PU, MA, MN, MS, OT, SC], [192, 256, 320, 384, w, r5, 576, 640, 704], Lg)) o from ev_t (c := p1 < 0) _ _ 3  zc32 e (fun n => Eq.refl _)
    exact ev_b 0 (zj30  (Option.some.inj zh29).symm ) (fun n => Eq.refl _)
  · have zh29 := itn zh29 zc32
    suffices e : Ev (d + 3, 1, 8, 321, 5, [.val (.ref 64), .val (.int p1), .val a_unk, .val a_unk, .val a_unk, .val a_unk, .val a_unk, .val a_unk], [.ref 64], (126, 120, L, [Y, T, H, H2, RU, RV, ST, NS, I0, I1, I2, BO, FI, RG, GU, PU, MA, MN, MS, OT, SC], [192, 256, 320, 384, w, r5, 576, 640, 704], Lg)) o from ev_f (c := p1 < 0) _ _ 3  zc32 e (fun n => Eq.refl _)
    by_cases zc33 : 1 < p1
    · have zh29 := itp zh29 zc33
      suffices e : Ev (d + 3, 1, 8, 321, 14, [.val (.ref 64), .val (.int p1), .val a_unk, .val a_unk, .val a_unk, .val a_unk, .val a_unk, .val a_unk], [.ref 64], (126, 120, L, [Y, T, H, H2, RU, RV, ST, NS, I0, I1, I2, BO, FI, RG, GU, PU, MA, MN, MS, OT, SC], [192, 256, 320, 384, w, r5, 576, 640, 704], Lg)) o from ev_t (c := 1 < p1) _ _ 3  zc33 e (fun n => Eq.refl _)
      exact ev_b 0 (zj30  (Option.some.inj zh29).symm ) (fun n => Eq.refl _)
    · have zh29 := itn zh29 zc33
      suffices e : Ev (d + 3, 1, 8, 321, 10, [.val (.ref 64), .val (.int p1), .val a_unk, .val a_unk, .val a_unk, .val a_unk, .val a_unk, .val a_unk], [.ref 64], (126, 120, L, [Y, T, H, H2, RU, RV, ST, NS, I0, I1, I2, BO, FI, RG, GU, PU, MA, MN, MS, OT, SC], [192, 256, 320, 384, w, r5, 576, 640, 704], Lg)) o from ev_f (c := 1 < p1) _ _ 3  zc33 e (fun n => Eq.refl _)
      have zh34 := sum_r zh2 (Option.some.inj zh29).symm
      exact ev_b 2 (zj3 1 (Option.some.inj zh34) ) (fun n => Eq.refl _)
set_option maxRecDepth 1000000 in
set_option maxHeartbeats 4000000 in
theorem R_f_Y_fair_1 (d : Nat) (Y T H H2 RV RU ST NS I0 I1 I2 BO FI RG GU PU MA MN MS OT SC : Nat → Nat → Int32) (w r5 : Nat) (L : Nat) (Lg : Int64) (p1 : Int32) {r : Nat × Int32 × (Nat → Nat → Int32) × (Nat → Nat → Int32) × Nat} (h : f_Y_fair Y H NS BO 192 r5 p1 = some r) : Ev (d + 3, 1, 8, 321, 0, [.val (.ref 64), .val (.int p1), .val a_unk, .val a_unk, .val a_unk, .val a_unk, .val a_unk, .val a_unk], [], (126, 120, L, [Y, T, H, H2, RV, RU, ST, NS, I0, I1, I2, BO, FI, RG, GU, PU, MA, MN, MS, OT, SC], [192, 256, 384, 320, w, r5, 576, 640, 704], Lg)) ((r.1, a_ov r.1 (.int r.2.1), (126, 120, L, [r.2.2.1, T, H, H2, RV, RU, ST, NS, I0, I1, I2, r.2.2.2.1, FI, RG, GU, PU, MA, MN, MS, OT, SC], [192, 256, 384, 320, w, r.2.2.2.2, 576, 640, 704], Lg)) : AOut) := by
  suffices key : ∀ o : AOut, ((r.1, a_ov r.1 (.int r.2.1), (126, 120, L, [r.2.2.1, T, H, H2, RV, RU, ST, NS, I0, I1, I2, r.2.2.2.1, FI, RG, GU, PU, MA, MN, MS, OT, SC], [192, 256, 384, 320, w, r.2.2.2.2, 576, 640, 704], Lg)) : AOut) = o → Ev (d + 3, 1, 8, 321, 0, [.val (.ref 64), .val (.int p1), .val a_unk, .val a_unk, .val a_unk, .val a_unk, .val a_unk, .val a_unk], [], (126, 120, L, [Y, T, H, H2, RV, RU, ST, NS, I0, I1, I2, BO, FI, RG, GU, PU, MA, MN, MS, OT, SC], [192, 256, 384, 320, w, r5, 576, 640, 704], Lg)) o from key _ rfl
  intro o ho
  obtain ⟨zt1, zh2, h⟩ := bnd h
  have zj3 : ∀ (v1 : Int32), v1 = zt1 → Ev (d + 3, 1, 8, 321, 15, [.val (.ref 64), .val (.int p1), .val a_unk, .val a_unk, .val a_unk, .val a_unk, .val a_unk, .val a_unk], [.int v1, .ref 64], (126, 120, L, [Y, T, H, H2, RV, RU, ST, NS, I0, I1, I2, BO, FI, RG, GU, PU, MA, MN, MS, OT, SC], [192, 256, 384, 320, w, r5, 576, 640, 704], Lg)) o := by
    intro v1 ze4
    subst ze4
    obtain ⟨⟨q2, Y_3⟩, zh5, h⟩ := bnd h
    have zh5 : f_Y_refuseUnless Y v1 = some (q2, Y_3) := zh5
    have ze6 := R_f_Y_refuseUnless_1 (d + 2) Y T H H2 RV RU ST NS I0 I1 I2 BO FI RG GU PU MA MN MS OT SC w r5 L Lg v1 zh5
    cases q2 with
    | zero =>
      have h := itp h rfl
      suffices e : Ev (d + 3, 0, 0, 321, 18, [.val (.ref 64), .val (.int p1), .val a_unk, .val a_unk, .val a_unk, .val a_unk, .val a_unk, .val a_unk], [], (126, 120, L, [Y_3, T, H, H2, RV, RU, ST, NS, I0, I1, I2, BO, FI, RG, GU, PU, MA, MN, MS, OT, SC], [192, 256, 384, 320, w, r5, 576, 640, 704], Lg)) o from ev_call (fun v μ => (d + 3, 0, 0, 321, 18, [.val (.ref 64), .val (.int p1), .val a_unk, .val a_unk, .val a_unk, .val a_unk, .val a_unk, .val a_unk], v.toList ++ [], μ)) 1 ze6 e (fun n => Eq.refl _)
      obtain ⟨BO_5, zh7, h⟩ := bnd h
      have zh7 : f_Y_lookNow H NS BO = some BO_5 := zh7
      have ze8 := R_f_Y_lookNow_1 (d + 0) Y_3 T H H2 RV RU ST NS I0 I1 I2 BO FI RG GU PU MA MN MS OT SC w r5 L Lg zh7
      suffices e : Ev (d + 3, 0, 0, 321, 22, [.val (.ref 64), .val (.int p1), .val a_unk, .val a_unk, .val a_unk, .val a_unk, .val a_unk, .val a_unk], [.ref 768], (126, 120, L, [Y_3, T, H, H2, RV, RU, ST, NS, I0, I1, I2, BO_5, FI, RG, GU, PU, MA, MN, MS, OT, SC], [192, 256, 384, 320, w, 192, 576, 640, 704], Lg)) o from ev_call (fun v μ => (d + 3, 0, 0, 321, 22, [.val (.ref 64), .val (.int p1), .val a_unk, .val a_unk, .val a_unk, .val a_unk, .val a_unk, .val a_unk], v.toList ++ [], μ)) 2 ze8 e (fun n => Eq.refl _)
      obtain ⟨x6, zh9, h⟩ := bnd h
      have zh9 : f_Board_mostBorne H BO_5 = some x6 := zh9
      have ze10 := R_f_Board_mostBorne_0 (d + 0) Y_3 T H H2 RV RU ST NS I0 I1 I2 BO_5 FI RG GU PU MA MN MS OT SC 192 256 384 320 w 576 640 704 L Lg zh9
      suffices e : Ev (d + 3, 0, 0, 321, 27, [.val (.ref 64), .val (.int p1), .val (.ref 768), .val a_unk, .val a_unk, .val a_unk, .val a_unk, .val a_unk], [.int x6], (126, 120, L, [Y_3, T, H, H2, RV, RU, ST, NS, I0, I1, I2, BO_5, FI, RG, GU, PU, MA, MN, MS, OT, SC], [192, 256, 384, 320, w, 192, 576, 640, 704], Lg)) o from ev_call (fun v μ => (d + 3, 0, 0, 321, 27, [.val (.ref 64), .val (.int p1), .val (.ref 768), .val a_unk, .val a_unk, .val a_unk, .val a_unk, .val a_unk], v.toList ++ [], μ)) 3 ze10 e (fun n => Eq.refl _)
      obtain ⟨zb11, zh12, h⟩ := bnd h
      suffices e : Ev (d + 3, 0, 0, 321, 37, [.val (.ref 64), .val (.int p1), .val (.ref 768), .val (.int x6), .val (.int x6), .val (.int (-1)), .val (.int 0), .val a_unk], [], (126, 120, L, [Y_3, T, H, H2, RV, RU, ST, NS, I0, I1, I2, BO_5, FI, RG, GU, PU, MA, MN, MS, OT, SC], [192, 256, 384, 320, w, 192, 576, 640, 704], Lg)) o from ev_b 7 e (fun n => Eq.refl _)
      refine ev_loop (δ := Value) (fun a j => (d + 3, 0, 0, 321, 37, [.val (.ref 64), .val (.int p1), .val (.ref 768), .val (.int x6), .val (.int a.1), .val (.int a.2.1), .val (.int a.2.2), .val j], [], (126, 120, L, [Y_3, T, H, H2, RV, RU, ST, NS, I0, I1, I2, BO_5, FI, RG, GU, PU, MA, MN, MS, OT, SC], [192, 256, 384, 320, w, 192, 576, 640, 704], Lg))) (fun b => ∀ s15 : Value, ∀ s16 : Value, Ev (d + 3, 0, 0, 321, 88, [.val (.ref 64), .val (.int p1), .val (.ref 768), .val (.int x6), .val (.int b.1), .val (.int b.2), .val s15, .val s16], [], (126, 120, L, [Y_3, T, H, H2, RV, RU, ST, NS, I0, I1, I2, BO_5, FI, RG, GU, PU, MA, MN, MS, OT, SC], [192, 256, 384, 320, w, 192, 576, 640, 704], Lg)) o) ?_ a_F (x6, (-1), 0) zb11 zh12 ?_ a_unk
      · rintro ⟨v7, v8, v9⟩ zr16 zh15 zi13 zx14 s10
        have zh15 : f_Y_fair_l37 H BO_5 x6 v7 v8 v9 = some zr16 := zh15
        suffices e : Ev (d + 3, 0, 0, 321, 43, [.val (.ref 64), .val (.int p1), .val (.ref 768), .val (.int x6), .val (.int v7), .val (.int v8), .val (.int v9), .val s10], [.ref 192, .int v9], (126, 120, L, [Y_3, T, H, H2, RV, RU, ST, NS, I0, I1, I2, BO_5, FI, RG, GU, PU, MA, MN, MS, OT, SC], [192, 256, 384, 320, w, 192, 576, 640, 704], Lg)) o from ev_b 3 e (fun n => Eq.refl _)
        by_cases zc17 : (H 0 2) ≤ v9
        · have zh15 := itp zh15 zc17
          suffices e : Ev (d + 3, 0, 0, 321, 88, [.val (.ref 64), .val (.int p1), .val (.ref 768), .val (.int x6), .val (.int v7), .val (.int v8), .val (.int v9), .val s10], [], (126, 120, L, [Y_3, T, H, H2, RV, RU, ST, NS, I0, I1, I2, BO_5, FI, RG, GU, PU, MA, MN, MS, OT, SC], [192, 256, 384, 320, w, 192, 576, 640, 704], Lg)) o from ev_t (c := (H 0 2) ≤ v9) _ _ 2  zc17 e (fun n => Eq.refl _)
          exact ev_b 0 (zx14 _ (Option.some.inj zh15).symm (.int v9) s10) (fun n => Eq.refl _)
        · have zh15 := itn zh15 zc17
          suffices e : Ev (d + 3, 0, 0, 321, 49, [.val (.ref 64), .val (.int p1), .val (.ref 768), .val (.int x6), .val (.int v7), .val (.int v8), .val (.int v9), .val s10], [], (126, 120, L, [Y_3, T, H, H2, RV, RU, ST, NS, I0, I1, I2, BO_5, FI, RG, GU, PU, MA, MN, MS, OT, SC], [192, 256, 384, 320, w, 192, 576, 640, 704], Lg)) o from ev_f (c := (H 0 2) ≤ v9) _ _ 2  zc17 e (fun n => Eq.refl _)
          obtain ⟨x11, zh18, zh15⟩ := bnd zh15
          have zh18 : f_Board_bears H BO_5 v9 = some x11 := zh18
          have ze19 := R_f_Board_bears_0 (d + 1) Y_3 T H H2 RV RU ST NS I0 I1 I2 BO_5 FI RG GU PU MA MN MS OT SC 192 256 384 320 w 576 640 704 L Lg v9 zh18
          suffices e : Ev (d + 3, 0, 0, 321, 55, [.val (.ref 64), .val (.int p1), .val (.ref 768), .val (.int x6), .val (.int v7), .val (.int v8), .val (.int v9), .val s10], [.int x11], (126, 120, L, [Y_3, T, H, H2, RV, RU, ST, NS, I0, I1, I2, BO_5, FI, RG, GU, PU, MA, MN, MS, OT, SC], [192, 256, 384, 320, w, 192, 576, 640, 704], Lg)) o from ev_call (fun v μ => (d + 3, 0, 0, 321, 55, [.val (.ref 64), .val (.int p1), .val (.ref 768), .val (.int x6), .val (.int v7), .val (.int v8), .val (.int v9), .val s10], v.toList ++ [], μ)) 3 ze19 e (fun n => Eq.refl _)
          obtain ⟨x12, zh20, zh15⟩ := bnd zh15
          have zh20 : f_Math_min v7 x11 = some x12 := zh20
          have ze21 := R_f_Math_min_0 (d + 2) Y_3 T H H2 RV RU ST NS I0 I1 I2 BO_5 FI RG GU PU MA MN MS OT SC 192 256 384 320 w 192 576 640 704 L Lg v7 x11 zh20
          suffices e : Ev (d + 3, 0, 0, 321, 64, [.val (.ref 64), .val (.int p1), .val (.ref 768), .val (.int x6), .val (.int v7), .val (.int v8), .val (.int v9), .val (.int x11)], [.int x12], (126, 120, L, [Y_3, T, H, H2, RV, RU, ST, NS, I0, I1, I2, BO_5, FI, RG, GU, PU, MA, MN, MS, OT, SC], [192, 256, 384, 320, w, 192, 576, 640, 704], Lg)) o from ev_call (fun v μ => (d + 3, 0, 0, 321, 64, [.val (.ref 64), .val (.int p1), .val (.ref 768), .val (.int x6), .val (.int v7), .val (.int v8), .val (.int v9), .val (.int x11)], v.toList ++ [], μ)) 4 ze21 e (fun n => Eq.refl _)
          by_cases zc22 : v8 ≠ (-1)
          · have zh15 := itp zh15 zc22
            suffices e : Ev (d + 3, 0, 0, 321, 82, [.val (.ref 64), .val (.int p1), .val (.ref 768), .val (.int x6), .val (.int x12), .val (.int v8), .val (.int v9), .val (.int x11)], [], (126, 120, L, [Y_3, T, H, H2, RV, RU, ST, NS, I0, I1, I2, BO_5, FI, RG, GU, PU, MA, MN, MS, OT, SC], [192, 256, 384, 320, w, 192, 576, 640, 704], Lg)) o from ev_t (c := v8 ≠ (-1)) _ _ 4  zc22 e (fun n => Eq.refl _)
            exact ev_b 2 (zi13 _ (Option.some.inj zh15).symm (.int x11)) (fun n => Eq.refl _)
          · have zh15 := itn zh15 zc22
            suffices e : Ev (d + 3, 0, 0, 321, 72, [.val (.ref 64), .val (.int p1), .val (.ref 768), .val (.int x6), .val (.int x12), .val (.int v8), .val (.int v9), .val (.int x11)], [], (126, 120, L, [Y_3, T, H, H2, RV, RU, ST, NS, I0, I1, I2, BO_5, FI, RG, GU, PU, MA, MN, MS, OT, SC], [192, 256, 384, 320, w, 192, 576, 640, 704], Lg)) o from ev_f (c := v8 ≠ (-1)) _ _ 4  zc22 e (fun n => Eq.refl _)
            by_cases zc23 : x11 ≠ x6
            · have zh15 := itp zh15 zc23
              suffices e : Ev (d + 3, 0, 0, 321, 82, [.val (.ref 64), .val (.int p1), .val (.ref 768), .val (.int x6), .val (.int x12), .val (.int v8), .val (.int v9), .val (.int x11)], [], (126, 120, L, [Y_3, T, H, H2, RV, RU, ST, NS, I0, I1, I2, BO_5, FI, RG, GU, PU, MA, MN, MS, OT, SC], [192, 256, 384, 320, w, 192, 576, 640, 704], Lg)) o from ev_t (c := x11 ≠ x6) _ _ 3  zc23 e (fun n => Eq.refl _)
              exact ev_b 2 (zi13 _ (Option.some.inj zh15).symm (.int x11)) (fun n => Eq.refl _)
            · have zh15 := itn zh15 zc23
              suffices e : Ev (d + 3, 0, 0, 321, 78, [.val (.ref 64), .val (.int p1), .val (.ref 768), .val (.int x6), .val (.int x12), .val (.int v8), .val (.int v9), .val (.int x11)], [], (126, 120, L, [Y_3, T, H, H2, RV, RU, ST, NS, I0, I1, I2, BO_5, FI, RG, GU, PU, MA, MN, MS, OT, SC], [192, 256, 384, 320, w, 192, 576, 640, 704], Lg)) o from ev_f (c := x11 ≠ x6) _ _ 3  zc23 e (fun n => Eq.refl _)
              exact ev_b 4 (zi13 _ (Option.some.inj zh15).symm (.int x11)) (fun n => Eq.refl _)
      · obtain ⟨v13, v14⟩ := zb11
        intro s15 s16
        by_cases zc24 : p1 ≠ 0
        · have h := itp h zc24
          suffices e : Ev (d + 3, 0, 0, 321, 99, [.val (.ref 64), .val (.int p1), .val (.ref 768), .val (.int x6), .val (.int v13), .val (.int v14), .val s15, .val s16], [], (126, 120, L, [Y_3, T, H, H2, RV, RU, ST, NS, I0, I1, I2, BO_5, FI, RG, GU, PU, MA, MN, MS, OT, SC], [192, 256, 384, 320, w, 192, 576, 640, 704], Lg)) o from ev_t (c := p1 ≠ 0) _ _ 2  zc24 e (fun n => Eq.refl _)
          have ze25 := Option.some.inj h
          subst ze25
          exact ev_rete 2 ho (fun n => Eq.refl _)
        · have h := itn h zc24
          suffices e : Ev (d + 3, 0, 0, 321, 92, [.val (.ref 64), .val (.int p1), .val (.ref 768), .val (.int x6), .val (.int v13), .val (.int v14), .val s15, .val s16], [], (126, 120, L, [Y_3, T, H, H2, RV, RU, ST, NS, I0, I1, I2, BO_5, FI, RG, GU, PU, MA, MN, MS, OT, SC], [192, 256, 384, 320, w, 192, 576, 640, 704], Lg)) o from ev_f (c := p1 ≠ 0) _ _ 2  zc24 e (fun n => Eq.refl _)
          have ze26 := Option.some.inj h
          subst ze26
          exact ev_rete 5 ho (fun n => Eq.refl _)
    | succ q2 =>
      have h := itn h (Nat.succ_ne_zero q2)
      have ze27 := Option.some.inj h
      subst ze27
      subst ho
      exact ev_thr (fun v μ => (d + 3, 0, 0, 321, 18, [.val (.ref 64), .val (.int p1), .val a_unk, .val a_unk, .val a_unk, .val a_unk, .val a_unk, .val a_unk], v.toList ++ [], μ)) 1 ze6 (fun n => Eq.refl _) (fun n => rfl)
  obtain ⟨zt28, zh29, zh2⟩ := bnd zh2
  have zj30 : zt28 = .inl () → Ev (d + 3, 1, 8, 321, 14, [.val (.ref 64), .val (.int p1), .val a_unk, .val a_unk, .val a_unk, .val a_unk, .val a_unk, .val a_unk], [.ref 64], (126, 120, L, [Y, T, H, H2, RV, RU, ST, NS, I0, I1, I2, BO, FI, RG, GU, PU, MA, MN, MS, OT, SC], [192, 256, 384, 320, w, r5, 576, 640, 704], Lg)) o := by
    intro ze31
    have zh2 := sum_l zh2 ze31
    exact ev_b 1 (zj3 0 (Option.some.inj zh2) ) (fun n => Eq.refl _)
  by_cases zc32 : p1 < 0
  · have zh29 := itp zh29 zc32
    suffices e : Ev (d + 3, 1, 8, 321, 14, [.val (.ref 64), .val (.int p1), .val a_unk, .val a_unk, .val a_unk, .val a_unk, .val a_unk, .val a_unk], [.ref 64], (126, 120, L, [Y, T, H, H2, RV, RU, ST, NS, I0, I1, I2, BO, FI, RG, GU, PU, MA, MN, MS, OT, SC], [192, 256, 384, 320, w, r5, 576, 640, 704], Lg)) o from ev_t (c := p1 < 0) _ _ 3  zc32 e (fun n => Eq.refl _)
    exact ev_b 0 (zj30  (Option.some.inj zh29).symm ) (fun n => Eq.refl _)
  · have zh29 := itn zh29 zc32
    suffices e : Ev (d + 3, 1, 8, 321, 5, [.val (.ref 64), .val (.int p1), .val a_unk, .val a_unk, .val a_unk, .val a_unk, .val a_unk, .val a_unk], [.ref 64], (126, 120, L, [Y, T, H, H2, RV, RU, ST, NS, I0, I1, I2, BO, FI, RG, GU, PU, MA, MN, MS, OT, SC], [192, 256, 384, 320, w, r5, 576, 640, 704], Lg)) o from ev_f (c := p1 < 0) _ _ 3  zc32 e (fun n => Eq.refl _)
    by_cases zc33 : 1 < p1
    · have zh29 := itp zh29 zc33
      suffices e : Ev (d + 3, 1, 8, 321, 14, [.val (.ref 64), .val (.int p1), .val a_unk, .val a_unk, .val a_unk, .val a_unk, .val a_unk, .val a_unk], [.ref 64], (126, 120, L, [Y, T, H, H2, RV, RU, ST, NS, I0, I1, I2, BO, FI, RG, GU, PU, MA, MN, MS, OT, SC], [192, 256, 384, 320, w, r5, 576, 640, 704], Lg)) o from ev_t (c := 1 < p1) _ _ 3  zc33 e (fun n => Eq.refl _)
      exact ev_b 0 (zj30  (Option.some.inj zh29).symm ) (fun n => Eq.refl _)
    · have zh29 := itn zh29 zc33
      suffices e : Ev (d + 3, 1, 8, 321, 10, [.val (.ref 64), .val (.int p1), .val a_unk, .val a_unk, .val a_unk, .val a_unk, .val a_unk, .val a_unk], [.ref 64], (126, 120, L, [Y, T, H, H2, RV, RU, ST, NS, I0, I1, I2, BO, FI, RG, GU, PU, MA, MN, MS, OT, SC], [192, 256, 384, 320, w, r5, 576, 640, 704], Lg)) o from ev_f (c := 1 < p1) _ _ 3  zc33 e (fun n => Eq.refl _)
      have zh34 := sum_r zh2 (Option.some.inj zh29).symm
      exact ev_b 2 (zj3 1 (Option.some.inj zh34) ) (fun n => Eq.refl _)
set_option maxRecDepth 1000000 in
set_option maxHeartbeats 4000000 in
theorem R_f_Board_mostBorne_1 (d : Nat) (Y T H2 H RA RB ST NS I0 I1 I2 BO FI RG GU PU MA MN MS OT SC : Nat → Nat → Int32) (r0 r1 r2 r3 w r6 r7 r8 : Nat) (L : Nat) (Lg : Int64) {r : Int32} (h : f_Board_mostBorne H BO = some r) : Ev (d + 2, 0, 0, 169, 0, [.val (.ref 768), .val a_unk, .val a_unk], [], (126, 120, L, [Y, T, H2, H, RA, RB, ST, NS, I0, I1, I2, BO, FI, RG, GU, PU, MA, MN, MS, OT, SC], [r0, r1, r2, r3, w, 256, r6, r7, r8], Lg)) ((0, some (.int r), (126, 120, L, [Y, T, H2, H, RA, RB, ST, NS, I0, I1, I2, BO, FI, RG, GU, PU, MA, MN, MS, OT, SC], [r0, r1, r2, r3, w, 256, r6, r7, r8], Lg)) : AOut) := by
  suffices key : ∀ o : AOut, ((0, some (.int r), (126, 120, L, [Y, T, H2, H, RA, RB, ST, NS, I0, I1, I2, BO, FI, RG, GU, PU, MA, MN, MS, OT, SC], [r0, r1, r2, r3, w, 256, r6, r7, r8], Lg)) : AOut) = o → Ev (d + 2, 0, 0, 169, 0, [.val (.ref 768), .val a_unk, .val a_unk], [], (126, 120, L, [Y, T, H2, H, RA, RB, ST, NS, I0, I1, I2, BO, FI, RG, GU, PU, MA, MN, MS, OT, SC], [r0, r1, r2, r3, w, 256, r6, r7, r8], Lg)) o from key _ rfl
  intro o ho
  obtain ⟨v5, zh2, h⟩ := bnd h
  suffices e : Ev (d + 2, 0, 0, 169, 4, [.val (.ref 768), .val (.int 0), .val (.int 0)], [], (126, 120, L, [Y, T, H2, H, RA, RB, ST, NS, I0, I1, I2, BO, FI, RG, GU, PU, MA, MN, MS, OT, SC], [r0, r1, r2, r3, w, 256, r6, r7, r8], Lg)) o from ev_b 4 e (fun n => Eq.refl _)
  refine ev_loop (δ := Unit) (fun a j => (d + 2, 0, 0, 169, 4, [.val (.ref 768), .val (.int a.1), .val (.int a.2)], [], (126, 120, L, [Y, T, H2, H, RA, RB, ST, NS, I0, I1, I2, BO, FI, RG, GU, PU, MA, MN, MS, OT, SC], [r0, r1, r2, r3, w, 256, r6, r7, r8], Lg))) (fun b => ∀ s6 : Value, Ev (d + 2, 0, 0, 169, 31, [.val (.ref 768), .val (.int b), .val s6], [], (126, 120, L, [Y, T, H2, H, RA, RB, ST, NS, I0, I1, I2, BO, FI, RG, GU, PU, MA, MN, MS, OT, SC], [r0, r1, r2, r3, w, 256, r6, r7, r8], Lg)) o) ?_ a_F (0, 0) v5 zh2 ?_ ()
  · rintro ⟨v1, v2⟩ zr6 zh5 zi3 zx4 ⟨⟩
    have zh5 : f_Board_mostBorne_l4 H BO v1 v2 = some zr6 := zh5
    suffices e : Ev (d + 2, 0, 0, 169, 9, [.val (.ref 768), .val (.int v1), .val (.int v2)], [.ref 256, .int v2], (126, 120, L, [Y, T, H2, H, RA, RB, ST, NS, I0, I1, I2, BO, FI, RG, GU, PU, MA, MN, MS, OT, SC], [r0, r1, r2, r3, w, 256, r6, r7, r8], Lg)) o from ev_b 3 e (fun n => Eq.refl _)
    by_cases zc7 : (H 0 2) ≤ v2
    · have zh5 := itp zh5 zc7
      suffices e : Ev (d + 2, 0, 0, 169, 31, [.val (.ref 768), .val (.int v1), .val (.int v2)], [], (126, 120, L, [Y, T, H2, H, RA, RB, ST, NS, I0, I1, I2, BO, FI, RG, GU, PU, MA, MN, MS, OT, SC], [r0, r1, r2, r3, w, 256, r6, r7, r8], Lg)) o from ev_t (c := (H 0 2) ≤ v2) _ _ 2  zc7 e (fun n => Eq.refl _)
      exact ev_b 0 (zx4 _ (Option.some.inj zh5).symm (.int v2)) (fun n => Eq.refl _)
    · have zh5 := itn zh5 zc7
      suffices e : Ev (d + 2, 0, 0, 169, 15, [.val (.ref 768), .val (.int v1), .val (.int v2)], [], (126, 120, L, [Y, T, H2, H, RA, RB, ST, NS, I0, I1, I2, BO, FI, RG, GU, PU, MA, MN, MS, OT, SC], [r0, r1, r2, r3, w, 256, r6, r7, r8], Lg)) o from ev_f (c := (H 0 2) ≤ v2) _ _ 2  zc7 e (fun n => Eq.refl _)
      obtain ⟨x3, zh8, zh5⟩ := bnd zh5
      have zh8 : f_Board_bears H BO v2 = some x3 := zh8
      have ze9 := R_f_Board_bears_1 (d + 0) Y T H2 H RA RB ST NS I0 I1 I2 BO FI RG GU PU MA MN MS OT SC r0 r1 r2 r3 w r6 r7 r8 L Lg v2 zh8
      suffices e : Ev (d + 2, 0, 0, 169, 21, [.val (.ref 768), .val (.int v1), .val (.int v2)], [.int x3, .int v1], (126, 120, L, [Y, T, H2, H, RA, RB, ST, NS, I0, I1, I2, BO, FI, RG, GU, PU, MA, MN, MS, OT, SC], [r0, r1, r2, r3, w, 256, r6, r7, r8], Lg)) o from ev_call (fun v μ => (d + 2, 0, 0, 169, 21, [.val (.ref 768), .val (.int v1), .val (.int v2)], v.toList ++ [.int v1], μ)) 4 ze9 e (fun n => Eq.refl _)
      obtain ⟨x4, zh10, zh5⟩ := bnd zh5
      have zh10 : f_Math_max v1 x3 = some x4 := zh10
      have ze11 := R_f_Math_max_0 (d + 1) Y T H2 H RA RB ST NS I0 I1 I2 BO FI RG GU PU MA MN MS OT SC r0 r1 r2 r3 w 256 r6 r7 r8 L Lg v1 x3 zh10
      suffices e : Ev (d + 2, 0, 0, 169, 24, [.val (.ref 768), .val (.int v1), .val (.int v2)], [.int x4], (126, 120, L, [Y, T, H2, H, RA, RB, ST, NS, I0, I1, I2, BO, FI, RG, GU, PU, MA, MN, MS, OT, SC], [r0, r1, r2, r3, w, 256, r6, r7, r8], Lg)) o from ev_call (fun v μ => (d + 2, 0, 0, 169, 24, [.val (.ref 768), .val (.int v1), .val (.int v2)], v.toList ++ [], μ)) 1 ze11 e (fun n => Eq.refl _)
      exact ev_b 3 (zi3 _ (Option.some.inj zh5).symm ()) (fun n => Eq.refl _)
  · skip
    intro s6
    have ze12 := Option.some.inj h
    subst ze12
    exact ev_rete 2 ho (fun n => Eq.refl _)
set_option maxRecDepth 1000000 in
set_option maxHeartbeats 4000000 in
theorem R_f_Y_fair_2 (d : Nat) (Y T H2 H RU RV ST NS I0 I1 I2 BO FI RG GU PU MA MN MS OT SC : Nat → Nat → Int32) (w r5 : Nat) (L : Nat) (Lg : Int64) (p1 : Int32) {r : Nat × Int32 × (Nat → Nat → Int32) × (Nat → Nat → Int32) × Nat} (h : f_Y_fair Y H NS BO 256 r5 p1 = some r) : Ev (d + 3, 1, 8, 321, 0, [.val (.ref 64), .val (.int p1), .val a_unk, .val a_unk, .val a_unk, .val a_unk, .val a_unk, .val a_unk], [], (126, 120, L, [Y, T, H2, H, RU, RV, ST, NS, I0, I1, I2, BO, FI, RG, GU, PU, MA, MN, MS, OT, SC], [256, 192, 320, 384, w, r5, 576, 640, 704], Lg)) ((r.1, a_ov r.1 (.int r.2.1), (126, 120, L, [r.2.2.1, T, H2, H, RU, RV, ST, NS, I0, I1, I2, r.2.2.2.1, FI, RG, GU, PU, MA, MN, MS, OT, SC], [256, 192, 320, 384, w, r.2.2.2.2, 576, 640, 704], Lg)) : AOut) := by
  suffices key : ∀ o : AOut, ((r.1, a_ov r.1 (.int r.2.1), (126, 120, L, [r.2.2.1, T, H2, H, RU, RV, ST, NS, I0, I1, I2, r.2.2.2.1, FI, RG, GU, PU, MA, MN, MS, OT, SC], [256, 192, 320, 384, w, r.2.2.2.2, 576, 640, 704], Lg)) : AOut) = o → Ev (d + 3, 1, 8, 321, 0, [.val (.ref 64), .val (.int p1), .val a_unk, .val a_unk, .val a_unk, .val a_unk, .val a_unk, .val a_unk], [], (126, 120, L, [Y, T, H2, H, RU, RV, ST, NS, I0, I1, I2, BO, FI, RG, GU, PU, MA, MN, MS, OT, SC], [256, 192, 320, 384, w, r5, 576, 640, 704], Lg)) o from key _ rfl
  intro o ho
  obtain ⟨zt1, zh2, h⟩ := bnd h
  have zj3 : ∀ (v1 : Int32), v1 = zt1 → Ev (d + 3, 1, 8, 321, 15, [.val (.ref 64), .val (.int p1), .val a_unk, .val a_unk, .val a_unk, .val a_unk, .val a_unk, .val a_unk], [.int v1, .ref 64], (126, 120, L, [Y, T, H2, H, RU, RV, ST, NS, I0, I1, I2, BO, FI, RG, GU, PU, MA, MN, MS, OT, SC], [256, 192, 320, 384, w, r5, 576, 640, 704], Lg)) o := by
    intro v1 ze4
    subst ze4
    obtain ⟨⟨q2, Y_3⟩, zh5, h⟩ := bnd h
    have zh5 : f_Y_refuseUnless Y v1 = some (q2, Y_3) := zh5
    have ze6 := R_f_Y_refuseUnless_2 (d + 2) Y T H2 H RU RV ST NS I0 I1 I2 BO FI RG GU PU MA MN MS OT SC w r5 L Lg v1 zh5
    cases q2 with
    | zero =>
      have h := itp h rfl
      suffices e : Ev (d + 3, 0, 0, 321, 18, [.val (.ref 64), .val (.int p1), .val a_unk, .val a_unk, .val a_unk, .val a_unk, .val a_unk, .val a_unk], [], (126, 120, L, [Y_3, T, H2, H, RU, RV, ST, NS, I0, I1, I2, BO, FI, RG, GU, PU, MA, MN, MS, OT, SC], [256, 192, 320, 384, w, r5, 576, 640, 704], Lg)) o from ev_call (fun v μ => (d + 3, 0, 0, 321, 18, [.val (.ref 64), .val (.int p1), .val a_unk, .val a_unk, .val a_unk, .val a_unk, .val a_unk, .val a_unk], v.toList ++ [], μ)) 1 ze6 e (fun n => Eq.refl _)
      obtain ⟨BO_5, zh7, h⟩ := bnd h
      have zh7 : f_Y_lookNow H NS BO = some BO_5 := zh7
      have ze8 := R_f_Y_lookNow_2 (d + 0) Y_3 T H2 H RU RV ST NS I0 I1 I2 BO FI RG GU PU MA MN MS OT SC w r5 L Lg zh7
      suffices e : Ev (d + 3, 0, 0, 321, 22, [.val (.ref 64), .val (.int p1), .val a_unk, .val a_unk, .val a_unk, .val a_unk, .val a_unk, .val a_unk], [.ref 768], (126, 120, L, [Y_3, T, H2, H, RU, RV, ST, NS, I0, I1, I2, BO_5, FI, RG, GU, PU, MA, MN, MS, OT, SC], [256, 192, 320, 384, w, 256, 576, 640, 704], Lg)) o from ev_call (fun v μ => (d + 3, 0, 0, 321, 22, [.val (.ref 64), .val (.int p1), .val a_unk, .val a_unk, .val a_unk, .val a_unk, .val a_unk, .val a_unk], v.toList ++ [], μ)) 2 ze8 e (fun n => Eq.refl _)
      obtain ⟨x6, zh9, h⟩ := bnd h
      have zh9 : f_Board_mostBorne H BO_5 = some x6 := zh9
      have ze10 := R_f_Board_mostBorne_1 (d + 0) Y_3 T H2 H RU RV ST NS I0 I1 I2 BO_5 FI RG GU PU MA MN MS OT SC 256 192 320 384 w 576 640 704 L Lg zh9
      suffices e : Ev (d + 3, 0, 0, 321, 27, [.val (.ref 64), .val (.int p1), .val (.ref 768), .val a_unk, .val a_unk, .val a_unk, .val a_unk, .val a_unk], [.int x6], (126, 120, L, [Y_3, T, H2, H, RU, RV, ST, NS, I0, I1, I2, BO_5, FI, RG, GU, PU, MA, MN, MS, OT, SC], [256, 192, 320, 384, w, 256, 576, 640, 704], Lg)) o from ev_call (fun v μ => (d + 3, 0, 0, 321, 27, [.val (.ref 64), .val (.int p1), .val (.ref 768), .val a_unk, .val a_unk, .val a_unk, .val a_unk, .val a_unk], v.toList ++ [], μ)) 3 ze10 e (fun n => Eq.refl _)
      obtain ⟨zb11, zh12, h⟩ := bnd h
      suffices e : Ev (d + 3, 0, 0, 321, 37, [.val (.ref 64), .val (.int p1), .val (.ref 768), .val (.int x6), .val (.int x6), .val (.int (-1)), .val (.int 0), .val a_unk], [], (126, 120, L, [Y_3, T, H2, H, RU, RV, ST, NS, I0, I1, I2, BO_5, FI, RG, GU, PU, MA, MN, MS, OT, SC], [256, 192, 320, 384, w, 256, 576, 640, 704], Lg)) o from ev_b 7 e (fun n => Eq.refl _)
      refine ev_loop (δ := Value) (fun a j => (d + 3, 0, 0, 321, 37, [.val (.ref 64), .val (.int p1), .val (.ref 768), .val (.int x6), .val (.int a.1), .val (.int a.2.1), .val (.int a.2.2), .val j], [], (126, 120, L, [Y_3, T, H2, H, RU, RV, ST, NS, I0, I1, I2, BO_5, FI, RG, GU, PU, MA, MN, MS, OT, SC], [256, 192, 320, 384, w, 256, 576, 640, 704], Lg))) (fun b => ∀ s15 : Value, ∀ s16 : Value, Ev (d + 3, 0, 0, 321, 88, [.val (.ref 64), .val (.int p1), .val (.ref 768), .val (.int x6), .val (.int b.1), .val (.int b.2), .val s15, .val s16], [], (126, 120, L, [Y_3, T, H2, H, RU, RV, ST, NS, I0, I1, I2, BO_5, FI, RG, GU, PU, MA, MN, MS, OT, SC], [256, 192, 320, 384, w, 256, 576, 640, 704], Lg)) o) ?_ a_F (x6, (-1), 0) zb11 zh12 ?_ a_unk
      · rintro ⟨v7, v8, v9⟩ zr16 zh15 zi13 zx14 s10
        have zh15 : f_Y_fair_l37 H BO_5 x6 v7 v8 v9 = some zr16 := zh15
        suffices e : Ev (d + 3, 0, 0, 321, 43, [.val (.ref 64), .val (.int p1), .val (.ref 768), .val (.int x6), .val (.int v7), .val (.int v8), .val (.int v9), .val s10], [.ref 256, .int v9], (126, 120, L, [Y_3, T, H2, H, RU, RV, ST, NS, I0, I1, I2, BO_5, FI, RG, GU, PU, MA, MN, MS, OT, SC], [256, 192, 320, 384, w, 256, 576, 640, 704], Lg)) o from ev_b 3 e (fun n => Eq.refl _)
        by_cases zc17 : (H 0 2) ≤ v9
        · have zh15 := itp zh15 zc17
          suffices e : Ev (d + 3, 0, 0, 321, 88, [.val (.ref 64), .val (.int p1), .val (.ref 768), .val (.int x6), .val (.int v7), .val (.int v8), .val (.int v9), .val s10], [], (126, 120, L, [Y_3, T, H2, H, RU, RV, ST, NS, I0, I1, I2, BO_5, FI, RG, GU, PU, MA, MN, MS, OT, SC], [256, 192, 320, 384, w, 256, 576, 640, 704], Lg)) o from ev_t (c := (H 0 2) ≤ v9) _ _ 2  zc17 e (fun n => Eq.refl _)
          exact ev_b 0 (zx14 _ (Option.some.inj zh15).symm (.int v9) s10) (fun n => Eq.refl _)
        · have zh15 := itn zh15 zc17
          suffices e : Ev (d + 3, 0, 0, 321, 49, [.val (.ref 64), .val (.int p1), .val (.ref 768), .val (.int x6), .val (.int v7), .val (.int v8), .val (.int v9), .val s10], [], (126, 120, L, [Y_3, T, H2, H, RU, RV, ST, NS, I0, I1, I2, BO_5, FI, RG, GU, PU, MA, MN, MS, OT, SC], [256, 192, 320, 384, w, 256, 576, 640, 704], Lg)) o from ev_f (c := (H 0 2) ≤ v9) _ _ 2  zc17 e (fun n => Eq.refl _)
          obtain ⟨x11, zh18, zh15⟩ := bnd zh15
          have zh18 : f_Board_bears H BO_5 v9 = some x11 := zh18
          have ze19 := R_f_Board_bears_1 (d + 1) Y_3 T H2 H RU RV ST NS I0 I1 I2 BO_5 FI RG GU PU MA MN MS OT SC 256 192 320 384 w 576 640 704 L Lg v9 zh18
          suffices e : Ev (d + 3, 0, 0, 321, 55, [.val (.ref 64), .val (.int p1), .val (.ref 768), .val (.int x6), .val (.int v7), .val (.int v8), .val (.int v9), .val s10], [.int x11], (126, 120, L, [Y_3, T, H2, H, RU, RV, ST, NS, I0, I1, I2, BO_5, FI, RG, GU, PU, MA, MN, MS, OT, SC], [256, 192, 320, 384, w, 256, 576, 640, 704], Lg)) o from ev_call (fun v μ => (d + 3, 0, 0, 321, 55, [.val (.ref 64), .val (.int p1), .val (.ref 768), .val (.int x6), .val (.int v7), .val (.int v8), .val (.int v9), .val s10], v.toList ++ [], μ)) 3 ze19 e (fun n => Eq.refl _)
          obtain ⟨x12, zh20, zh15⟩ := bnd zh15
          have zh20 : f_Math_min v7 x11 = some x12 := zh20
          have ze21 := R_f_Math_min_0 (d + 2) Y_3 T H2 H RU RV ST NS I0 I1 I2 BO_5 FI RG GU PU MA MN MS OT SC 256 192 320 384 w 256 576 640 704 L Lg v7 x11 zh20
          suffices e : Ev (d + 3, 0, 0, 321, 64, [.val (.ref 64), .val (.int p1), .val (.ref 768), .val (.int x6), .val (.int v7), .val (.int v8), .val (.int v9), .val (.int x11)], [.int x12], (126, 120, L, [Y_3, T, H2, H, RU, RV, ST, NS, I0, I1, I2, BO_5, FI, RG, GU, PU, MA, MN, MS, OT, SC], [256, 192, 320, 384, w, 256, 576, 640, 704], Lg)) o from ev_call (fun v μ => (d + 3, 0, 0, 321, 64, [.val (.ref 64), .val (.int p1), .val (.ref 768), .val (.int x6), .val (.int v7), .val (.int v8), .val (.int v9), .val (.int x11)], v.toList ++ [], μ)) 4 ze21 e (fun n => Eq.refl _)
          by_cases zc22 : v8 ≠ (-1)
          · have zh15 := itp zh15 zc22
            suffices e : Ev (d + 3, 0, 0, 321, 82, [.val (.ref 64), .val (.int p1), .val (.ref 768), .val (.int x6), .val (.int x12), .val (.int v8), .val (.int v9), .val (.int x11)], [], (126, 120, L, [Y_3, T, H2, H, RU, RV, ST, NS, I0, I1, I2, BO_5, FI, RG, GU, PU, MA, MN, MS, OT, SC], [256, 192, 320, 384, w, 256, 576, 640, 704], Lg)) o from ev_t (c := v8 ≠ (-1)) _ _ 4  zc22 e (fun n => Eq.refl _)
            exact ev_b 2 (zi13 _ (Option.some.inj zh15).symm (.int x11)) (fun n => Eq.refl _)
          · have zh15 := itn zh15 zc22
            suffices e : Ev (d + 3, 0, 0, 321, 72, [.val (.ref 64), .val (.int p1), .val (.ref 768), .val (.int x6), .val (.int x12), .val (.int v8), .val (.int v9), .val (.int x11)], [], (126, 120, L, [Y_3, T, H2, H, RU, RV, ST, NS, I0, I1, I2, BO_5, FI, RG, GU, PU, MA, MN, MS, OT, SC], [256, 192, 320, 384, w, 256, 576, 640, 704], Lg)) o from ev_f (c := v8 ≠ (-1)) _ _ 4  zc22 e (fun n => Eq.refl _)
            by_cases zc23 : x11 ≠ x6
            · have zh15 := itp zh15 zc23
              suffices e : Ev (d + 3, 0, 0, 321, 82, [.val (.ref 64), .val (.int p1), .val (.ref 768), .val (.int x6), .val (.int x12), .val (.int v8), .val (.int v9), .val (.int x11)], [], (126, 120, L, [Y_3, T, H2, H, RU, RV, ST, NS, I0, I1, I2, BO_5, FI, RG, GU, PU, MA, MN, MS, OT, SC], [256, 192, 320, 384, w, 256, 576, 640, 704], Lg)) o from ev_t (c := x11 ≠ x6) _ _ 3  zc23 e (fun n => Eq.refl _)
              exact ev_b 2 (zi13 _ (Option.some.inj zh15).symm (.int x11)) (fun n => Eq.refl _)
            · have zh15 := itn zh15 zc23
              suffices e : Ev (d + 3, 0, 0, 321, 78, [.val (.ref 64), .val (.int p1), .val (.ref 768), .val (.int x6), .val (.int x12), .val (.int v8), .val (.int v9), .val (.int x11)], [], (126, 120, L, [Y_3, T, H2, H, RU, RV, ST, NS, I0, I1, I2, BO_5, FI, RG, GU, PU, MA, MN, MS, OT, SC], [256, 192, 320, 384, w, 256, 576, 640, 704], Lg)) o from ev_f (c := x11 ≠ x6) _ _ 3  zc23 e (fun n => Eq.refl _)
              exact ev_b 4 (zi13 _ (Option.some.inj zh15).symm (.int x11)) (fun n => Eq.refl _)
      · obtain ⟨v13, v14⟩ := zb11
        intro s15 s16
        by_cases zc24 : p1 ≠ 0
        · have h := itp h zc24
          suffices e : Ev (d + 3, 0, 0, 321, 99, [.val (.ref 64), .val (.int p1), .val (.ref 768), .val (.int x6), .val (.int v13), .val (.int v14), .val s15, .val s16], [], (126, 120, L, [Y_3, T, H2, H, RU, RV, ST, NS, I0, I1, I2, BO_5, FI, RG, GU, PU, MA, MN, MS, OT, SC], [256, 192, 320, 384, w, 256, 576, 640, 704], Lg)) o from ev_t (c := p1 ≠ 0) _ _ 2  zc24 e (fun n => Eq.refl _)
          have ze25 := Option.some.inj h
          subst ze25
          exact ev_rete 2 ho (fun n => Eq.refl _)
        · have h := itn h zc24
          suffices e : Ev (d + 3, 0, 0, 321, 92, [.val (.ref 64), .val (.int p1), .val (.ref 768), .val (.int x6), .val (.int v13), .val (.int v14), .val s15, .val s16], [], (126, 120, L, [Y_3, T, H2, H, RU, RV, ST, NS, I0, I1, I2, BO_5, FI, RG, GU, PU, MA, MN, MS, OT, SC], [256, 192, 320, 384, w, 256, 576, 640, 704], Lg)) o from ev_f (c := p1 ≠ 0) _ _ 2  zc24 e (fun n => Eq.refl _)
          have ze26 := Option.some.inj h
          subst ze26
          exact ev_rete 5 ho (fun n => Eq.refl _)
    | succ q2 =>
      have h := itn h (Nat.succ_ne_zero q2)
      have ze27 := Option.some.inj h
      subst ze27
      subst ho
      exact ev_thr (fun v μ => (d + 3, 0, 0, 321, 18, [.val (.ref 64), .val (.int p1), .val a_unk, .val a_unk, .val a_unk, .val a_unk, .val a_unk, .val a_unk], v.toList ++ [], μ)) 1 ze6 (fun n => Eq.refl _) (fun n => rfl)
  obtain ⟨zt28, zh29, zh2⟩ := bnd zh2
  have zj30 : zt28 = .inl () → Ev (d + 3, 1, 8, 321, 14, [.val (.ref 64), .val (.int p1), .val a_unk, .val a_unk, .val a_unk, .val a_unk, .val a_unk, .val a_unk], [.ref 64], (126, 120, L, [Y, T, H2, H, RU, RV, ST, NS, I0, I1, I2, BO, FI, RG, GU, PU, MA, MN, MS, OT, SC], [256, 192, 320, 384, w, r5, 576, 640, 704], Lg)) o := by
    intro ze31
    have zh2 := sum_l zh2 ze31
    exact ev_b 1 (zj3 0 (Option.some.inj zh2) ) (fun n => Eq.refl _)
  by_cases zc32 : p1 < 0
  · have zh29 := itp zh29 zc32
    suffices e : Ev (d + 3, 1, 8, 321, 14, [.val (.ref 64), .val (.int p1), .val a_unk, .val a_unk, .val a_unk, .val a_unk, .val a_unk, .val a_unk], [.ref 64], (126, 120, L, [Y, T, H2, H, RU, RV, ST, NS, I0, I1, I2, BO, FI, RG, GU, PU, MA, MN, MS, OT, SC], [256, 192, 320, 384, w, r5, 576, 640, 704], Lg)) o from ev_t (c := p1 < 0) _ _ 3  zc32 e (fun n => Eq.refl _)
    exact ev_b 0 (zj30  (Option.some.inj zh29).symm ) (fun n => Eq.refl _)
  · have zh29 := itn zh29 zc32
    suffices e : Ev (d + 3, 1, 8, 321, 5, [.val (.ref 64), .val (.int p1), .val a_unk, .val a_unk, .val a_unk, .val a_unk, .val a_unk, .val a_unk], [.ref 64], (126, 120, L, [Y, T, H2, H, RU, RV, ST, NS, I0, I1, I2, BO, FI, RG, GU, PU, MA, MN, MS, OT, SC], [256, 192, 320, 384, w, r5, 576, 640, 704], Lg)) o from ev_f (c := p1 < 0) _ _ 3  zc32 e (fun n => Eq.refl _)
    by_cases zc33 : 1 < p1
    · have zh29 := itp zh29 zc33
      suffices e : Ev (d + 3, 1, 8, 321, 14, [.val (.ref 64), .val (.int p1), .val a_unk, .val a_unk, .val a_unk, .val a_unk, .val a_unk, .val a_unk], [.ref 64], (126, 120, L, [Y, T, H2, H, RU, RV, ST, NS, I0, I1, I2, BO, FI, RG, GU, PU, MA, MN, MS, OT, SC], [256, 192, 320, 384, w, r5, 576, 640, 704], Lg)) o from ev_t (c := 1 < p1) _ _ 3  zc33 e (fun n => Eq.refl _)
      exact ev_b 0 (zj30  (Option.some.inj zh29).symm ) (fun n => Eq.refl _)
    · have zh29 := itn zh29 zc33
      suffices e : Ev (d + 3, 1, 8, 321, 10, [.val (.ref 64), .val (.int p1), .val a_unk, .val a_unk, .val a_unk, .val a_unk, .val a_unk, .val a_unk], [.ref 64], (126, 120, L, [Y, T, H2, H, RU, RV, ST, NS, I0, I1, I2, BO, FI, RG, GU, PU, MA, MN, MS, OT, SC], [256, 192, 320, 384, w, r5, 576, 640, 704], Lg)) o from ev_f (c := 1 < p1) _ _ 3  zc33 e (fun n => Eq.refl _)
      have zh34 := sum_r zh2 (Option.some.inj zh29).symm
      exact ev_b 2 (zj3 1 (Option.some.inj zh34) ) (fun n => Eq.refl _)
