/-! printed by program (gen/emitm.py): the reference's methods run as their functions say -/
set_option maxRecDepth 1000000 in
set_option maxHeartbeats 4000000 in
theorem R_f_Board_isOpen_0 (d : Nat) (Y T H H2 RA RB ST NS I0 I1 I2 BO FI RG GU PU MA MN MS OT SC : Nat → Nat → Int32) (r0 r1 r2 r3 w r6 r7 r8 : Nat) (L : Nat) (Lg : Int64) (p1 : Int32) (p2 : Int32) {r : Int32} (h : f_Board_isOpen H BO p1 p2 = some r) : Ev (d + 2, 0, 0, 166, 0, [.val (.ref 768), .val (.int p1), .val (.int p2)], [], (126, 120, L, [Y, T, H, H2, RA, RB, ST, NS, I0, I1, I2, BO, FI, RG, GU, PU, MA, MN, MS, OT, SC], [r0, r1, r2, r3, w, 192, r6, r7, r8], Lg)) ((0, some (.int r), (126, 120, L, [Y, T, H, H2, RA, RB, ST, NS, I0, I1, I2, BO, FI, RG, GU, PU, MA, MN, MS, OT, SC], [r0, r1, r2, r3, w, 192, r6, r7, r8], Lg)) : AOut) := by
  suffices key : ∀ o : AOut, ((0, some (.int r), (126, 120, L, [Y, T, H, H2, RA, RB, ST, NS, I0, I1, I2, BO, FI, RG, GU, PU, MA, MN, MS, OT, SC], [r0, r1, r2, r3, w, 192, r6, r7, r8], Lg)) : AOut) = o → Ev (d + 2, 0, 0, 166, 0, [.val (.ref 768), .val (.int p1), .val (.int p2)], [], (126, 120, L, [Y, T, H, H2, RA, RB, ST, NS, I0, I1, I2, BO, FI, RG, GU, PU, MA, MN, MS, OT, SC], [r0, r1, r2, r3, w, 192, r6, r7, r8], Lg)) o from key _ rfl
  intro o ho
  obtain ⟨x1, zh1, h⟩ := bnd h
  have zh1 : f_Y_roomOf p2 = some x1 := zh1
  have ze2 := R_f_Y_roomOf_0 (d + 1) Y T H H2 RA RB ST NS I0 I1 I2 BO FI RG GU PU MA MN MS OT SC r0 r1 r2 r3 w 192 r6 r7 r8 L Lg p2 zh1
  suffices e : Ev (d + 2, 0, 0, 166, 6, [.val (.ref 768), .val (.int p1), .val (.int p2)], [.int x1, .int p1, .ref 768], (126, 120, L, [Y, T, H, H2, RA, RB, ST, NS, I0, I1, I2, BO, FI, RG, GU, PU, MA, MN, MS, OT, SC], [r0, r1, r2, r3, w, 192, r6, r7, r8], Lg)) o from ev_call (fun v μ => (d + 2, 0, 0, 166, 6, [.val (.ref 768), .val (.int p1), .val (.int p2)], v.toList ++ [.int p1, .ref 768], μ)) 4 ze2 e (fun n => Eq.refl _)
  obtain ⟨x2, zh3, h⟩ := bnd h
  have zh3 : f_Board_openHours H BO p1 x1 = some x2 := zh3
  have ze4 := R_f_Board_openHours_0 (d + 0) Y T H H2 RA RB ST NS I0 I1 I2 BO FI RG GU PU MA MN MS OT SC r0 r1 r2 r3 w r6 r7 r8 L Lg p1 x1 zh3
  suffices e : Ev (d + 2, 0, 0, 166, 9, [.val (.ref 768), .val (.int p1), .val (.int p2)], [.int x2], (126, 120, L, [Y, T, H, H2, RA, RB, ST, NS, I0, I1, I2, BO, FI, RG, GU, PU, MA, MN, MS, OT, SC], [r0, r1, r2, r3, w, 192, r6, r7, r8], Lg)) o from ev_call (fun v μ => (d + 2, 0, 0, 166, 9, [.val (.ref 768), .val (.int p1), .val (.int p2)], v.toList ++ [], μ)) 1 ze4 e (fun n => Eq.refl _)
  obtain ⟨x3, zh5, h⟩ := bnd h
  have zh5 : f_Y_hourOf p2 = some x3 := zh5
  have ze6 := R_f_Y_hourOf_0 (d + 1) Y T H H2 RA RB ST NS I0 I1 I2 BO FI RG GU PU MA MN MS OT SC r0 r1 r2 r3 w 192 r6 r7 r8 L Lg p2 zh5
  suffices e : Ev (d + 2, 0, 0, 166, 13, [.val (.ref 768), .val (.int p1), .val (.int p2)], [.int x3, .int x2], (126, 120, L, [Y, T, H, H2, RA, RB, ST, NS, I0, I1, I2, BO, FI, RG, GU, PU, MA, MN, MS, OT, SC], [r0, r1, r2, r3, w, 192, r6, r7, r8], Lg)) o from ev_call (fun v μ => (d + 2, 0, 0, 166, 13, [.val (.ref 768), .val (.int p1), .val (.int p2)], v.toList ++ [.int x2], μ)) 2 ze6 e (fun n => Eq.refl _)
  by_cases zc7 : ((a_shr x2 x3) &&& 1) = 0
  · have h := itp h zc7
    suffices e : Ev (d + 2, 0, 0, 166, 23, [.val (.ref 768), .val (.int p1), .val (.int p2)], [], (126, 120, L, [Y, T, H, H2, RA, RB, ST, NS, I0, I1, I2, BO, FI, RG, GU, PU, MA, MN, MS, OT, SC], [r0, r1, r2, r3, w, 192, r6, r7, r8], Lg)) o from ev_t (c := ((a_shr x2 x3) &&& 1) = 0) _ _ 4  zc7 e (fun n => Eq.refl _)
    have ze8 := Option.some.inj h
    subst ze8
    exact ev_rete 2 ho (fun n => Eq.refl _)
  · have h := itn h zc7
    suffices e : Ev (d + 2, 0, 0, 166, 19, [.val (.ref 768), .val (.int p1), .val (.int p2)], [], (126, 120, L, [Y, T, H, H2, RA, RB, ST, NS, I0, I1, I2, BO, FI, RG, GU, PU, MA, MN, MS, OT, SC], [r0, r1, r2, r3, w, 192, r6, r7, r8], Lg)) o from ev_f (c := ((a_shr x2 x3) &&& 1) = 0) _ _ 4  zc7 e (fun n => Eq.refl _)
    have ze9 := Option.some.inj h
    subst ze9
    exact ev_rete 3 ho (fun n => Eq.refl _)
set_option maxRecDepth 1000000 in
set_option maxHeartbeats 4000000 in
theorem R_f_Y_clashing_0 (d : Nat) (Y T H H2 RU RV ST NS I0 I1 I2 BO FI RG GU PU MA MN MS OT SC : Nat → Nat → Int32) (w r5 : Nat) (L : Nat) (Lg : Int64) {r : Int32 × (Nat → Nat → Int32)} (h : f_Y_clashing H NS BO = some r) : Ev (d + 3, 0, 0, 294, 0, [.val (.ref 64), .val a_unk, .val a_unk, .val a_unk], [], (126, 120, L, [Y, T, H, H2, RU, RV, ST, NS, I0, I1, I2, BO, FI, RG, GU, PU, MA, MN, MS, OT, SC], [192, 256, 320, 384, w, r5, 576, 640, 704], Lg)) ((0, some (.int r.1), (126, 120, L, [Y, T, H, H2, RU, RV, ST, NS, I0, I1, I2, r.2, FI, RG, GU, PU, MA, MN, MS, OT, SC], [192, 256, 320, 384, w, 192, 576, 640, 704], Lg)) : AOut) := by
  suffices key : ∀ o : AOut, ((0, some (.int r.1), (126, 120, L, [Y, T, H, H2, RU, RV, ST, NS, I0, I1, I2, r.2, FI, RG, GU, PU, MA, MN, MS, OT, SC], [192, 256, 320, 384, w, 192, 576, 640, 704], Lg)) : AOut) = o → Ev (d + 3, 0, 0, 294, 0, [.val (.ref 64), .val a_unk, .val a_unk, .val a_unk], [], (126, 120, L, [Y, T, H, H2, RU, RV, ST, NS, I0, I1, I2, BO, FI, RG, GU, PU, MA, MN, MS, OT, SC], [192, 256, 320, 384, w, r5, 576, 640, 704], Lg)) o from key _ rfl
  intro o ho
  obtain ⟨BO_2, zh1, h⟩ := bnd h
  have zh1 : f_Y_lookNow H NS BO = some BO_2 := zh1
  have ze2 := R_f_Y_lookNow_0 (d + 0) Y T H H2 RU RV ST NS I0 I1 I2 BO FI RG GU PU MA MN MS OT SC w r5 L Lg zh1
  suffices e : Ev (d + 3, 0, 0, 294, 4, [.val (.ref 64), .val a_unk, .val a_unk, .val a_unk], [.ref 768], (126, 120, L, [Y, T, H, H2, RU, RV, ST, NS, I0, I1, I2, BO_2, FI, RG, GU, PU, MA, MN, MS, OT, SC], [192, 256, 320, 384, w, 192, 576, 640, 704], Lg)) o from ev_call (fun v μ => (d + 3, 0, 0, 294, 4, [.val (.ref 64), .val a_unk, .val a_unk, .val a_unk], v.toList ++ [], μ)) 2 ze2 e (fun n => Eq.refl _)
  obtain ⟨v8, zh4, h⟩ := bnd h
  suffices e : Ev (d + 3, 0, 0, 294, 9, [.val (.ref 64), .val (.ref 768), .val (.int 0), .val (.int 0)], [], (126, 120, L, [Y, T, H, H2, RU, RV, ST, NS, I0, I1, I2, BO_2, FI, RG, GU, PU, MA, MN, MS, OT, SC], [192, 256, 320, 384, w, 192, 576, 640, 704], Lg)) o from ev_b 5 e (fun n => Eq.refl _)
  refine ev_loop (δ := Unit) (fun a j => (d + 3, 0, 0, 294, 9, [.val (.ref 64), .val (.ref 768), .val (.int a.1), .val (.int a.2)], [], (126, 120, L, [Y, T, H, H2, RU, RV, ST, NS, I0, I1, I2, BO_2, FI, RG, GU, PU, MA, MN, MS, OT, SC], [192, 256, 320, 384, w, 192, 576, 640, 704], Lg))) (fun b => ∀ s9 : Value, Ev (d + 3, 0, 0, 294, 56, [.val (.ref 64), .val (.ref 768), .val (.int b), .val s9], [], (126, 120, L, [Y, T, H, H2, RU, RV, ST, NS, I0, I1, I2, BO_2, FI, RG, GU, PU, MA, MN, MS, OT, SC], [192, 256, 320, 384, w, 192, 576, 640, 704], Lg)) o) ?_ a_F (0, 0) v8 zh4 ?_ ()
  · rintro ⟨v3, v4⟩ zr8 zh7 zi5 zx6 ⟨⟩
    have zh7 : f_Y_clashing_l9 H BO_2 v3 v4 = some zr8 := zh7
    suffices e : Ev (d + 3, 0, 0, 294, 14, [.val (.ref 64), .val (.ref 768), .val (.int v3), .val (.int v4)], [.ref 192, .int v4], (126, 120, L, [Y, T, H, H2, RU, RV, ST, NS, I0, I1, I2, BO_2, FI, RG, GU, PU, MA, MN, MS, OT, SC], [192, 256, 320, 384, w, 192, 576, 640, 704], Lg)) o from ev_b 3 e (fun n => Eq.refl _)
    by_cases zc9 : (H 0 3) ≤ v4
    · have zh7 := itp zh7 zc9
      suffices e : Ev (d + 3, 0, 0, 294, 56, [.val (.ref 64), .val (.ref 768), .val (.int v3), .val (.int v4)], [], (126, 120, L, [Y, T, H, H2, RU, RV, ST, NS, I0, I1, I2, BO_2, FI, RG, GU, PU, MA, MN, MS, OT, SC], [192, 256, 320, 384, w, 192, 576, 640, 704], Lg)) o from ev_t (c := (H 0 3) ≤ v4) _ _ 2  zc9 e (fun n => Eq.refl _)
      exact ev_b 0 (zx6 _ (Option.some.inj zh7).symm (.int v4)) (fun n => Eq.refl _)
    · have zh7 := itn zh7 zc9
      suffices e : Ev (d + 3, 0, 0, 294, 20, [.val (.ref 64), .val (.ref 768), .val (.int v3), .val (.int v4)], [], (126, 120, L, [Y, T, H, H2, RU, RV, ST, NS, I0, I1, I2, BO_2, FI, RG, GU, PU, MA, MN, MS, OT, SC], [192, 256, 320, 384, w, 192, 576, 640, 704], Lg)) o from ev_f (c := (H 0 3) ≤ v4) _ _ 2  zc9 e (fun n => Eq.refl _)
      obtain ⟨x5, zh10, zh7⟩ := bnd zh7
      have zh10 : rdx (BO_2 1) 10 v4 = some x5 := zh10
      suffices e : Ev (d + 3, 0, 0, 294, 26, [.val (.ref 64), .val (.ref 768), .val (.int v3), .val (.int v4)], [.int x5], (126, 120, L, [Y, T, H, H2, RU, RV, ST, NS, I0, I1, I2, BO_2, FI, RG, GU, PU, MA, MN, MS, OT, SC], [192, 256, 320, 384, w, 192, 576, 640, 704], Lg)) o from ev_opt (fun x5 => (d + 3, 0, 0, 294, 26, [.val (.ref 64), .val (.ref 768), .val (.int v3), .val (.int v4)], [.int x5], (126, 120, L, [Y, T, H, H2, RU, RV, ST, NS, I0, I1, I2, BO_2, FI, RG, GU, PU, MA, MN, MS, OT, SC], [192, 256, 320, 384, w, 192, 576, 640, 704], Lg))) 4 zh10 e (fun n => Eq.refl _)
      by_cases zc11 : x5 = (-1)
      · have zh7 := itp zh7 zc11
        suffices e : Ev (d + 3, 0, 0, 294, 50, [.val (.ref 64), .val (.ref 768), .val (.int v3), .val (.int v4)], [], (126, 120, L, [Y, T, H, H2, RU, RV, ST, NS, I0, I1, I2, BO_2, FI, RG, GU, PU, MA, MN, MS, OT, SC], [192, 256, 320, 384, w, 192, 576, 640, 704], Lg)) o from ev_t (c := x5 = (-1)) _ _ 2  zc11 e (fun n => Eq.refl _)
        exact ev_b 2 (zi5 _ (Option.some.inj zh7).symm ()) (fun n => Eq.refl _)
      · have zh7 := itn zh7 zc11
        suffices e : Ev (d + 3, 0, 0, 294, 30, [.val (.ref 64), .val (.ref 768), .val (.int v3), .val (.int v4)], [], (126, 120, L, [Y, T, H, H2, RU, RV, ST, NS, I0, I1, I2, BO_2, FI, RG, GU, PU, MA, MN, MS, OT, SC], [192, 256, 320, 384, w, 192, 576, 640, 704], Lg)) o from ev_f (c := x5 = (-1)) _ _ 2  zc11 e (fun n => Eq.refl _)
        obtain ⟨x6, zh12, zh7⟩ := bnd zh7
        have zh12 : rdx (BO_2 1) 10 v4 = some x6 := zh12
        suffices e : Ev (d + 3, 0, 0, 294, 38, [.val (.ref 64), .val (.ref 768), .val (.int v3), .val (.int v4)], [.int x6, .int v4, .ref 768], (126, 120, L, [Y, T, H, H2, RU, RV, ST, NS, I0, I1, I2, BO_2, FI, RG, GU, PU, MA, MN, MS, OT, SC], [192, 256, 320, 384, w, 192, 576, 640, 704], Lg)) o from ev_opt (fun x6 => (d + 3, 0, 0, 294, 38, [.val (.ref 64), .val (.ref 768), .val (.int v3), .val (.int v4)], [.int x6, .int v4, .ref 768], (126, 120, L, [Y, T, H, H2, RU, RV, ST, NS, I0, I1, I2, BO_2, FI, RG, GU, PU, MA, MN, MS, OT, SC], [192, 256, 320, 384, w, 192, 576, 640, 704], Lg))) 6 zh12 e (fun n => Eq.refl _)
        obtain ⟨x7, zh13, zh7⟩ := bnd zh7
        have zh13 : f_Board_isOpen H BO_2 v4 x6 = some x7 := zh13
        have ze14 := R_f_Board_isOpen_0 (d + 0) Y T H H2 RU RV ST NS I0 I1 I2 BO_2 FI RG GU PU MA MN MS OT SC 192 256 320 384 w 576 640 704 L Lg v4 x6 zh13
        suffices e : Ev (d + 3, 0, 0, 294, 41, [.val (.ref 64), .val (.ref 768), .val (.int v3), .val (.int v4)], [.int x7], (126, 120, L, [Y, T, H, H2, RU, RV, ST, NS, I0, I1, I2, BO_2, FI, RG, GU, PU, MA, MN, MS, OT, SC], [192, 256, 320, 384, w, 192, 576, 640, 704], Lg)) o from ev_call (fun v μ => (d + 3, 0, 0, 294, 41, [.val (.ref 64), .val (.ref 768), .val (.int v3), .val (.int v4)], v.toList ++ [], μ)) 1 ze14 e (fun n => Eq.refl _)
        by_cases zc15 : x7 ≠ 0
        · have zh7 := itp zh7 zc15
          suffices e : Ev (d + 3, 0, 0, 294, 50, [.val (.ref 64), .val (.ref 768), .val (.int v3), .val (.int v4)], [], (126, 120, L, [Y, T, H, H2, RU, RV, ST, NS, I0, I1, I2, BO_2, FI, RG, GU, PU, MA, MN, MS, OT, SC], [192, 256, 320, 384, w, 192, 576, 640, 704], Lg)) o from ev_t (c := x7 ≠ 0) _ _ 1  zc15 e (fun n => Eq.refl _)
          exact ev_b 2 (zi5 _ (Option.some.inj zh7).symm ()) (fun n => Eq.refl _)
        · have zh7 := itn zh7 zc15
          suffices e : Ev (d + 3, 0, 0, 294, 44, [.val (.ref 64), .val (.ref 768), .val (.int v3), .val (.int v4)], [], (126, 120, L, [Y, T, H, H2, RU, RV, ST, NS, I0, I1, I2, BO_2, FI, RG, GU, PU, MA, MN, MS, OT, SC], [192, 256, 320, 384, w, 192, 576, 640, 704], Lg)) o from ev_f (c := x7 ≠ 0) _ _ 1  zc15 e (fun n => Eq.refl _)
          exact ev_b 8 (zi5 _ (Option.some.inj zh7).symm ()) (fun n => Eq.refl _)
  · skip
    intro s9
    have ze16 := Option.some.inj h
    subst ze16
    exact ev_rete 2 ho (fun n => Eq.refl _)
set_option maxRecDepth 1000000 in
set_option maxHeartbeats 4000000 in
theorem R_f_Y_clashing_1 (d : Nat) (Y T H H2 RV RU ST NS I0 I1 I2 BO FI RG GU PU MA MN MS OT SC : Nat → Nat → Int32) (w r5 : Nat) (L : Nat) (Lg : Int64) {r : Int32 × (Nat → Nat → Int32)} (h : f_Y_clashing H NS BO = some r) : Ev (d + 3, 0, 0, 294, 0, [.val (.ref 64), .val a_unk, .val a_unk, .val a_unk], [], (126, 120, L, [Y, T, H, H2, RV, RU, ST, NS, I0, I1, I2, BO, FI, RG, GU, PU, MA, MN, MS, OT, SC], [192, 256, 384, 320, w, r5, 576, 640, 704], Lg)) ((0, some (.int r.1), (126, 120, L, [Y, T, H, H2, RV, RU, ST, NS, I0, I1, I2, r.2, FI, RG, GU, PU, MA, MN, MS, OT, SC], [192, 256, 384, 320, w, 192, 576, 640, 704], Lg)) : AOut) := by
  suffices key : ∀ o : AOut, ((0, some (.int r.1), (126, 120, L, [Y, T, H, H2, RV, RU, ST, NS, I0, I1, I2, r.2, FI, RG, GU, PU, MA, MN, MS, OT, SC], [192, 256, 384, 320, w, 192, 576, 640, 704], Lg)) : AOut) = o → Ev (d + 3, 0, 0, 294, 0, [.val (.ref 64), .val a_unk, .val a_unk, .val a_unk], [], (126, 120, L, [Y, T, H, H2, RV, RU, ST, NS, I0, I1, I2, BO, FI, RG, GU, PU, MA, MN, MS, OT, SC], [192, 256, 384, 320, w, r5, 576, 640, 704], Lg)) o from key _ rfl
  intro o ho
  obtain ⟨BO_2, zh1, h⟩ := bnd h
  have zh1 : f_Y_lookNow H NS BO = some BO_2 := zh1
  have ze2 := R_f_Y_lookNow_1 (d + 0) Y T H H2 RV RU ST NS I0 I1 I2 BO FI RG GU PU MA MN MS OT SC w r5 L Lg zh1
  suffices e : Ev (d + 3, 0, 0, 294, 4, [.val (.ref 64), .val a_unk, .val a_unk, .val a_unk], [.ref 768], (126, 120, L, [Y, T, H, H2, RV, RU, ST, NS, I0, I1, I2, BO_2, FI, RG, GU, PU, MA, MN, MS, OT, SC], [192, 256, 384, 320, w, 192, 576, 640, 704], Lg)) o from ev_call (fun v μ => (d + 3, 0, 0, 294, 4, [.val (.ref 64), .val a_unk, .val a_unk, .val a_unk], v.toList ++ [], μ)) 2 ze2 e (fun n => Eq.refl _)
  obtain ⟨v8, zh4, h⟩ := bnd h
  suffices e : Ev (d + 3, 0, 0, 294, 9, [.val (.ref 64), .val (.ref 768), .val (.int 0), .val (.int 0)], [], (126, 120, L, [Y, T, H, H2, RV, RU, ST, NS, I0, I1, I2, BO_2, FI, RG, GU, PU, MA, MN, MS, OT, SC], [192, 256, 384, 320, w, 192, 576, 640, 704], Lg)) o from ev_b 5 e (fun n => Eq.refl _)
  refine ev_loop (δ := Unit) (fun a j => (d + 3, 0, 0, 294, 9, [.val (.ref 64), .val (.ref 768), .val (.int a.1), .val (.int a.2)], [], (126, 120, L, [Y, T, H, H2, RV, RU, ST, NS, I0, I1, I2, BO_2, FI, RG, GU, PU, MA, MN, MS, OT, SC], [192, 256, 384, 320, w, 192, 576, 640, 704], Lg))) (fun b => ∀ s9 : Value, Ev (d + 3, 0, 0, 294, 56, [.val (.ref 64), .val (.ref 768), .val (.int b), .val s9], [], (126, 120, L, [Y, T, H, H2, RV, RU, ST, NS, I0, I1, I2, BO_2, FI, RG, GU, PU, MA, MN, MS, OT, SC], [192, 256, 384, 320, w, 192, 576, 640, 704], Lg)) o) ?_ a_F (0, 0) v8 zh4 ?_ ()
  · rintro ⟨v3, v4⟩ zr8 zh7 zi5 zx6 ⟨⟩
    have zh7 : f_Y_clashing_l9 H BO_2 v3 v4 = some zr8 := zh7
    suffices e : Ev (d + 3, 0, 0, 294, 14, [.val (.ref 64), .val (.ref 768), .val (.int v3), .val (.int v4)], [.ref 192, .int v4], (126, 120, L, [Y, T, H, H2, RV, RU, ST, NS, I0, I1, I2, BO_2, FI, RG, GU, PU, MA, MN, MS, OT, SC], [192, 256, 384, 320, w, 192, 576, 640, 704], Lg)) o from ev_b 3 e (fun n => Eq.refl _)
    by_cases zc9 : (H 0 3) ≤ v4
    · have zh7 := itp zh7 zc9
      suffices e : Ev (d + 3, 0, 0, 294, 56, [.val (.ref 64), .val (.ref 768), .val (.int v3), .val (.int v4)], [], (126, 120, L, [Y, T, H, H2, RV, RU, ST, NS, I0, I1, I2, BO_2, FI, RG, GU, PU, MA, MN, MS, OT, SC], [192, 256, 384, 320, w, 192, 576, 640, 704], Lg)) o from ev_t (c := (H 0 3) ≤ v4) _ _ 2  zc9 e (fun n => Eq.refl _)
      exact ev_b 0 (zx6 _ (Option.some.inj zh7).symm (.int v4)) (fun n => Eq.refl _)
    · have zh7 := itn zh7 zc9
      suffices e : Ev (d + 3, 0, 0, 294, 20, [.val (.ref 64), .val (.ref 768), .val (.int v3), .val (.int v4)], [], (126, 120, L, [Y, T, H, H2, RV, RU, ST, NS, I0, I1, I2, BO_2, FI, RG, GU, PU, MA, MN, MS, OT, SC], [192, 256, 384, 320, w, 192, 576, 640, 704], Lg)) o from ev_f (c := (H 0 3) ≤ v4) _ _ 2  zc9 e (fun n => Eq.refl _)
      obtain ⟨x5, zh10, zh7⟩ := bnd zh7
      have zh10 : rdx (BO_2 1) 10 v4 = some x5 := zh10
      suffices e : Ev (d + 3, 0, 0, 294, 26, [.val (.ref 64), .val (.ref 768), .val (.int v3), .val (.int v4)], [.int x5], (126, 120, L, [Y, T, H, H2, RV, RU, ST, NS, I0, I1, I2, BO_2, FI, RG, GU, PU, MA, MN, MS, OT, SC], [192, 256, 384, 320, w, 192, 576, 640, 704], Lg)) o from ev_opt (fun x5 => (d + 3, 0, 0, 294, 26, [.val (.ref 64), .val (.ref 768), .val (.int v3), .val (.int v4)], [.int x5], (126, 120, L, [Y, T, H, H2, RV, RU, ST, NS, I0, I1, I2, BO_2, FI, RG, GU, PU, MA, MN, MS, OT, SC], [192, 256, 384, 320, w, 192, 576, 640, 704], Lg))) 4 zh10 e (fun n => Eq.refl _)
      by_cases zc11 : x5 = (-1)
      · have zh7 := itp zh7 zc11
        suffices e : Ev (d + 3, 0, 0, 294, 50, [.val (.ref 64), .val (.ref 768), .val (.int v3), .val (.int v4)], [], (126, 120, L, [Y, T, H, H2, RV, RU, ST, NS, I0, I1, I2, BO_2, FI, RG, GU, PU, MA, MN, MS, OT, SC], [192, 256, 384, 320, w, 192, 576, 640, 704], Lg)) o from ev_t (c := x5 = (-1)) _ _ 2  zc11 e (fun n => Eq.refl _)
        exact ev_b 2 (zi5 _ (Option.some.inj zh7).symm ()) (fun n => Eq.refl _)
      · have zh7 := itn zh7 zc11
        suffices e : Ev (d + 3, 0, 0, 294, 30, [.val (.ref 64), .val (.ref 768), .val (.int v3), .val (.int v4)], [], (126, 120, L, [Y, T, H, H2, RV, RU, ST, NS, I0, I1, I2, BO_2, FI, RG, GU, PU, MA, MN, MS, OT, SC], [192, 256, 384, 320, w, 192, 576, 640, 704], Lg)) o from ev_f (c := x5 = (-1)) _ _ 2  zc11 e (fun n => Eq.refl _)
        obtain ⟨x6, zh12, zh7⟩ := bnd zh7
        have zh12 : rdx (BO_2 1) 10 v4 = some x6 := zh12
        suffices e : Ev (d + 3, 0, 0, 294, 38, [.val (.ref 64), .val (.ref 768), .val (.int v3), .val (.int v4)], [.int x6, .int v4, .ref 768], (126, 120, L, [Y, T, H, H2, RV, RU, ST, NS, I0, I1, I2, BO_2, FI, RG, GU, PU, MA, MN, MS, OT, SC], [192, 256, 384, 320, w, 192, 576, 640, 704], Lg)) o from ev_opt (fun x6 => (d + 3, 0, 0, 294, 38, [.val (.ref 64), .val (.ref 768), .val (.int v3), .val (.int v4)], [.int x6, .int v4, .ref 768], (126, 120, L, [Y, T, H, H2, RV, RU, ST, NS, I0, I1, I2, BO_2, FI, RG, GU, PU, MA, MN, MS, OT, SC], [192, 256, 384, 320, w, 192, 576, 640, 704], Lg))) 6 zh12 e (fun n => Eq.refl _)
        obtain ⟨x7, zh13, zh7⟩ := bnd zh7
        have zh13 : f_Board_isOpen H BO_2 v4 x6 = some x7 := zh13
        have ze14 := R_f_Board_isOpen_0 (d + 0) Y T H H2 RV RU ST NS I0 I1 I2 BO_2 FI RG GU PU MA MN MS OT SC 192 256 384 320 w 576 640 704 L Lg v4 x6 zh13
        suffices e : Ev (d + 3, 0, 0, 294, 41, [.val (.ref 64), .val (.ref 768), .val (.int v3), .val (.int v4)], [.int x7], (126, 120, L, [Y, T, H, H2, RV, RU, ST, NS, I0, I1, I2, BO_2, FI, RG, GU, PU, MA, MN, MS, OT, SC], [192, 256, 384, 320, w, 192, 576, 640, 704], Lg)) o from ev_call (fun v μ => (d + 3, 0, 0, 294, 41, [.val (.ref 64), .val (.ref 768), .val (.int v3), .val (.int v4)], v.toList ++ [], μ)) 1 ze14 e (fun n => Eq.refl _)
        by_cases zc15 : x7 ≠ 0
        · have zh7 := itp zh7 zc15
          suffices e : Ev (d + 3, 0, 0, 294, 50, [.val (.ref 64), .val (.ref 768), .val (.int v3), .val (.int v4)], [], (126, 120, L, [Y, T, H, H2, RV, RU, ST, NS, I0, I1, I2, BO_2, FI, RG, GU, PU, MA, MN, MS, OT, SC], [192, 256, 384, 320, w, 192, 576, 640, 704], Lg)) o from ev_t (c := x7 ≠ 0) _ _ 1  zc15 e (fun n => Eq.refl _)
          exact ev_b 2 (zi5 _ (Option.some.inj zh7).symm ()) (fun n => Eq.refl _)
        · have zh7 := itn zh7 zc15
          suffices e : Ev (d + 3, 0, 0, 294, 44, [.val (.ref 64), .val (.ref 768), .val (.int v3), .val (.int v4)], [], (126, 120, L, [Y, T, H, H2, RV, RU, ST, NS, I0, I1, I2, BO_2, FI, RG, GU, PU, MA, MN, MS, OT, SC], [192, 256, 384, 320, w, 192, 576, 640, 704], Lg)) o from ev_f (c := x7 ≠ 0) _ _ 1  zc15 e (fun n => Eq.refl _)
          exact ev_b 8 (zi5 _ (Option.some.inj zh7).symm ()) (fun n => Eq.refl _)
  · skip
    intro s9
    have ze16 := Option.some.inj h
    subst ze16
    exact ev_rete 2 ho (fun n => Eq.refl _)
set_option maxRecDepth 1000000 in
set_option maxHeartbeats 4000000 in
theorem R_f_Board_openHours_1 (d : Nat) (Y T H2 H RA RB ST NS I0 I1 I2 BO FI RG GU PU MA MN MS OT SC : Nat → Nat → Int32) (r0 r1 r2 r3 w r6 r7 r8 : Nat) (L : Nat) (Lg : Int64) (p1 : Int32) (p2 : Int32) {r : Int32} (h : f_Board_openHours H BO p1 p2 = some r) : Ev (d + 1, 0, 0, 165, 0, [.val (.ref 768), .val (.int p1), .val (.int p2), .val a_unk, .val a_unk, .val a_unk], [], (126, 120, L, [Y, T, H2, H, RA, RB, ST, NS, I0, I1, I2, BO, FI, RG, GU, PU, MA, MN, MS, OT, SC], [r0, r1, r2, r3, w, 256, r6, r7, r8], Lg)) ((0, some (.int r), (126, 120, L, [Y, T, H2, H, RA, RB, ST, NS, I0, I1, I2, BO, FI, RG, GU, PU, MA, MN, MS, OT, SC], [r0, r1, r2, r3, w, 256, r6, r7, r8], Lg)) : AOut) := by
  suffices key : ∀ o : AOut, ((0, some (.int r), (126, 120, L, [Y, T, H2, H, RA, RB, ST, NS, I0, I1, I2, BO, FI, RG, GU, PU, MA, MN, MS, OT, SC], [r0, r1, r2, r3, w, 256, r6, r7, r8], Lg)) : AOut) = o → Ev (d + 1, 0, 0, 165, 0, [.val (.ref 768), .val (.int p1), .val (.int p2), .val a_unk, .val a_unk, .val a_unk], [], (126, 120, L, [Y, T, H2, H, RA, RB, ST, NS, I0, I1, I2, BO, FI, RG, GU, PU, MA, MN, MS, OT, SC], [r0, r1, r2, r3, w, 256, r6, r7, r8], Lg)) o from key _ rfl
  intro o ho
  suffices e : Ev (d + 1, 0, 0, 165, 4, [.val (.ref 768), .val (.int p1), .val (.int p2), .val a_unk, .val a_unk, .val a_unk], [.ref 256], (126, 120, L, [Y, T, H2, H, RA, RB, ST, NS, I0, I1, I2, BO, FI, RG, GU, PU, MA, MN, MS, OT, SC], [r0, r1, r2, r3, w, 256, r6, r7, r8], Lg)) o from ev_b 2 e (fun n => Eq.refl _)
  obtain ⟨x1, zh1, h⟩ := bnd h
  have zh1 : rdx (H 8) 10 p1 = some x1 := zh1
  suffices e : Ev (d + 1, 0, 0, 165, 9, [.val (.ref 768), .val (.int p1), .val (.int p2), .val a_unk, .val a_unk, .val a_unk], [.int x1], (126, 120, L, [Y, T, H2, H, RA, RB, ST, NS, I0, I1, I2, BO, FI, RG, GU, PU, MA, MN, MS, OT, SC], [r0, r1, r2, r3, w, 256, r6, r7, r8], Lg)) o from ev_opt (fun x1 => (d + 1, 0, 0, 165, 9, [.val (.ref 768), .val (.int p1), .val (.int p2), .val a_unk, .val a_unk, .val a_unk], [.int x1], (126, 120, L, [Y, T, H2, H, RA, RB, ST, NS, I0, I1, I2, BO, FI, RG, GU, PU, MA, MN, MS, OT, SC], [r0, r1, r2, r3, w, 256, r6, r7, r8], Lg))) 3 zh1 e (fun n => Eq.refl _)
  obtain ⟨x2, zh2, h⟩ := bnd h
  have zh2 : f_Integer_bitCount x1 = some x2 := zh2
  have ze3 := R_f_Integer_bitCount_0 (d + 0) Y T H2 H RA RB ST NS I0 I1 I2 BO FI RG GU PU MA MN MS OT SC r0 r1 r2 r3 w 256 r6 r7 r8 L Lg x1 zh2
  suffices e : Ev (d + 1, 0, 0, 165, 12, [.val (.ref 768), .val (.int p1), .val (.int p2), .val a_unk, .val a_unk, .val a_unk], [.int x2], (126, 120, L, [Y, T, H2, H, RA, RB, ST, NS, I0, I1, I2, BO, FI, RG, GU, PU, MA, MN, MS, OT, SC], [r0, r1, r2, r3, w, 256, r6, r7, r8], Lg)) o from ev_call (fun v μ => (d + 1, 0, 0, 165, 12, [.val (.ref 768), .val (.int p1), .val (.int p2), .val a_unk, .val a_unk, .val a_unk], v.toList ++ [], μ)) 1 ze3 e (fun n => Eq.refl _)
  suffices e : Ev (d + 1, 0, 0, 165, 16, [.val (.ref 768), .val (.int p1), .val (.int p2), .val a_unk, .val a_unk, .val a_unk], [.ref 256, .int x2], (126, 120, L, [Y, T, H2, H, RA, RB, ST, NS, I0, I1, I2, BO, FI, RG, GU, PU, MA, MN, MS, OT, SC], [r0, r1, r2, r3, w, 256, r6, r7, r8], Lg)) o from ev_b 2 e (fun n => Eq.refl _)
  obtain ⟨x3, zh4, h⟩ := bnd h
  have zh4 : rdx (H 1) 3 p2 = some x3 := zh4
  suffices e : Ev (d + 1, 0, 0, 165, 21, [.val (.ref 768), .val (.int p1), .val (.int p2), .val a_unk, .val a_unk, .val a_unk], [.int x3, .int x2], (126, 120, L, [Y, T, H2, H, RA, RB, ST, NS, I0, I1, I2, BO, FI, RG, GU, PU, MA, MN, MS, OT, SC], [r0, r1, r2, r3, w, 256, r6, r7, r8], Lg)) o from ev_opt (fun x3 => (d + 1, 0, 0, 165, 21, [.val (.ref 768), .val (.int p1), .val (.int p2), .val a_unk, .val a_unk, .val a_unk], [.int x3, .int x2], (126, 120, L, [Y, T, H2, H, RA, RB, ST, NS, I0, I1, I2, BO, FI, RG, GU, PU, MA, MN, MS, OT, SC], [r0, r1, r2, r3, w, 256, r6, r7, r8], Lg))) 3 zh4 e (fun n => Eq.refl _)
  by_cases zc5 : x2 ≤ x3
  · have h := itp h zc5
    suffices e : Ev (d + 1, 0, 0, 165, 26, [.val (.ref 768), .val (.int p1), .val (.int p2), .val a_unk, .val a_unk, .val a_unk], [], (126, 120, L, [Y, T, H2, H, RA, RB, ST, NS, I0, I1, I2, BO, FI, RG, GU, PU, MA, MN, MS, OT, SC], [r0, r1, r2, r3, w, 256, r6, r7, r8], Lg)) o from ev_t (c := x2 ≤ x3) _ _ 1  zc5 e (fun n => Eq.refl _)
    suffices e : Ev (d + 1, 0, 0, 165, 30, [.val (.ref 768), .val (.int p1), .val (.int p2), .val a_unk, .val a_unk, .val a_unk], [.ref 256], (126, 120, L, [Y, T, H2, H, RA, RB, ST, NS, I0, I1, I2, BO, FI, RG, GU, PU, MA, MN, MS, OT, SC], [r0, r1, r2, r3, w, 256, r6, r7, r8], Lg)) o from ev_b 2 e (fun n => Eq.refl _)
    obtain ⟨x4, zh6, h⟩ := bnd h
    have zh6 : rdx (H 10) 10 p1 = some x4 := zh6
    suffices e : Ev (d + 1, 0, 0, 165, 35, [.val (.ref 768), .val (.int p1), .val (.int p2), .val a_unk, .val a_unk, .val a_unk], [.int x4], (126, 120, L, [Y, T, H2, H, RA, RB, ST, NS, I0, I1, I2, BO, FI, RG, GU, PU, MA, MN, MS, OT, SC], [r0, r1, r2, r3, w, 256, r6, r7, r8], Lg)) o from ev_opt (fun x4 => (d + 1, 0, 0, 165, 35, [.val (.ref 768), .val (.int p1), .val (.int p2), .val a_unk, .val a_unk, .val a_unk], [.int x4], (126, 120, L, [Y, T, H2, H, RA, RB, ST, NS, I0, I1, I2, BO, FI, RG, GU, PU, MA, MN, MS, OT, SC], [r0, r1, r2, r3, w, 256, r6, r7, r8], Lg))) 3 zh6 e (fun n => Eq.refl _)
    obtain ⟨x5, zh7, h⟩ := bnd h
    have zh7 : rdx (BO 3) 3 p2 = some x5 := zh7
    suffices e : Ev (d + 1, 0, 0, 165, 41, [.val (.ref 768), .val (.int p1), .val (.int p2), .val a_unk, .val a_unk, .val a_unk], [.int x5, .int x4], (126, 120, L, [Y, T, H2, H, RA, RB, ST, NS, I0, I1, I2, BO, FI, RG, GU, PU, MA, MN, MS, OT, SC], [r0, r1, r2, r3, w, 256, r6, r7, r8], Lg)) o from ev_opt (fun x5 => (d + 1, 0, 0, 165, 41, [.val (.ref 768), .val (.int p1), .val (.int p2), .val a_unk, .val a_unk, .val a_unk], [.int x5, .int x4], (126, 120, L, [Y, T, H2, H, RA, RB, ST, NS, I0, I1, I2, BO, FI, RG, GU, PU, MA, MN, MS, OT, SC], [r0, r1, r2, r3, w, 256, r6, r7, r8], Lg))) 4 zh7 e (fun n => Eq.refl _)
    obtain ⟨v13, zh9, h⟩ := bnd h
    suffices e : Ev (d + 1, 0, 0, 165, 48, [.val (.ref 768), .val (.int p1), .val (.int p2), .val (.int (x4 &&& (x5 ^^^ (-1)))), .val (.int 0), .val a_unk], [], (126, 120, L, [Y, T, H2, H, RA, RB, ST, NS, I0, I1, I2, BO, FI, RG, GU, PU, MA, MN, MS, OT, SC], [r0, r1, r2, r3, w, 256, r6, r7, r8], Lg)) o from ev_b 6 e (fun n => Eq.refl _)
    refine ev_loop (δ := Value) (fun a j => (d + 1, 0, 0, 165, 48, [.val (.ref 768), .val (.int p1), .val (.int p2), .val (.int a.1), .val (.int a.2), .val j], [], (126, 120, L, [Y, T, H2, H, RA, RB, ST, NS, I0, I1, I2, BO, FI, RG, GU, PU, MA, MN, MS, OT, SC], [r0, r1, r2, r3, w, 256, r6, r7, r8], Lg))) (fun b => ∀ s14 : Value, ∀ s15 : Value, Ev (d + 1, 0, 0, 165, 118, [.val (.ref 768), .val (.int p1), .val (.int p2), .val (.int b), .val s14, .val s15], [], (126, 120, L, [Y, T, H2, H, RA, RB, ST, NS, I0, I1, I2, BO, FI, RG, GU, PU, MA, MN, MS, OT, SC], [r0, r1, r2, r3, w, 256, r6, r7, r8], Lg)) o) ?_ a_F ((x4 &&& (x5 ^^^ (-1))), 0) v13 zh9 ?_ a_unk
    · rintro ⟨v6, v7⟩ zr13 zh12 zi10 zx11 s8
      have zh12 : f_Board_openHours_l48 H BO p1 p2 v6 v7 = some zr13 := zh12
      suffices e : Ev (d + 1, 0, 0, 165, 54, [.val (.ref 768), .val (.int p1), .val (.int p2), .val (.int v6), .val (.int v7), .val s8], [.ref 256, .int v7], (126, 120, L, [Y, T, H2, H, RA, RB, ST, NS, I0, I1, I2, BO, FI, RG, GU, PU, MA, MN, MS, OT, SC], [r0, r1, r2, r3, w, 256, r6, r7, r8], Lg)) o from ev_b 3 e (fun n => Eq.refl _)
      by_cases zc14 : (H 0 3) ≤ v7
      · have zh12 := itp zh12 zc14
        suffices e : Ev (d + 1, 0, 0, 165, 118, [.val (.ref 768), .val (.int p1), .val (.int p2), .val (.int v6), .val (.int v7), .val s8], [], (126, 120, L, [Y, T, H2, H, RA, RB, ST, NS, I0, I1, I2, BO, FI, RG, GU, PU, MA, MN, MS, OT, SC], [r0, r1, r2, r3, w, 256, r6, r7, r8], Lg)) o from ev_t (c := (H 0 3) ≤ v7) _ _ 2  zc14 e (fun n => Eq.refl _)
        exact ev_b 0 (zx11 _ (Option.some.inj zh12).symm (.int v7) s8) (fun n => Eq.refl _)
      · have zh12 := itn zh12 zc14
        suffices e : Ev (d + 1, 0, 0, 165, 60, [.val (.ref 768), .val (.int p1), .val (.int p2), .val (.int v6), .val (.int v7), .val s8], [], (126, 120, L, [Y, T, H2, H, RA, RB, ST, NS, I0, I1, I2, BO, FI, RG, GU, PU, MA, MN, MS, OT, SC], [r0, r1, r2, r3, w, 256, r6, r7, r8], Lg)) o from ev_f (c := (H 0 3) ≤ v7) _ _ 2  zc14 e (fun n => Eq.refl _)
        obtain ⟨x9, zh15, zh12⟩ := bnd zh12
        have zh15 : rdx (BO 1) 10 v7 = some x9 := zh15
        suffices e : Ev (d + 1, 0, 0, 165, 67, [.val (.ref 768), .val (.int p1), .val (.int p2), .val (.int v6), .val (.int v7), .val s8], [.int x9], (126, 120, L, [Y, T, H2, H, RA, RB, ST, NS, I0, I1, I2, BO, FI, RG, GU, PU, MA, MN, MS, OT, SC], [r0, r1, r2, r3, w, 256, r6, r7, r8], Lg)) o from ev_opt (fun x9 => (d + 1, 0, 0, 165, 67, [.val (.ref 768), .val (.int p1), .val (.int p2), .val (.int v6), .val (.int v7), .val s8], [.int x9], (126, 120, L, [Y, T, H2, H, RA, RB, ST, NS, I0, I1, I2, BO, FI, RG, GU, PU, MA, MN, MS, OT, SC], [r0, r1, r2, r3, w, 256, r6, r7, r8], Lg))) 4 zh15 e (fun n => Eq.refl _)
        by_cases zc16 : v7 = p1
        · have zh12 := itp zh12 zc16
          suffices e : Ev (d + 1, 0, 0, 165, 112, [.val (.ref 768), .val (.int p1), .val (.int p2), .val (.int v6), .val (.int v7), .val (.int x9)], [], (126, 120, L, [Y, T, H2, H, RA, RB, ST, NS, I0, I1, I2, BO, FI, RG, GU, PU, MA, MN, MS, OT, SC], [r0, r1, r2, r3, w, 256, r6, r7, r8], Lg)) o from ev_t (c := v7 = p1) _ _ 4  zc16 e (fun n => Eq.refl _)
          exact ev_b 2 (zi10 _ (Option.some.inj zh12).symm (.int x9)) (fun n => Eq.refl _)
        · have zh12 := itn zh12 zc16
          suffices e : Ev (d + 1, 0, 0, 165, 75, [.val (.ref 768), .val (.int p1), .val (.int p2), .val (.int v6), .val (.int v7), .val (.int x9)], [], (126, 120, L, [Y, T, H2, H, RA, RB, ST, NS, I0, I1, I2, BO, FI, RG, GU, PU, MA, MN, MS, OT, SC], [r0, r1, r2, r3, w, 256, r6, r7, r8], Lg)) o from ev_f (c := v7 = p1) _ _ 4  zc16 e (fun n => Eq.refl _)
          by_cases zc17 : x9 = (-1)
          · have zh12 := itp zh12 zc17
            suffices e : Ev (d + 1, 0, 0, 165, 112, [.val (.ref 768), .val (.int p1), .val (.int p2), .val (.int v6), .val (.int v7), .val (.int x9)], [], (126, 120, L, [Y, T, H2, H, RA, RB, ST, NS, I0, I1, I2, BO, FI, RG, GU, PU, MA, MN, MS, OT, SC], [r0, r1, r2, r3, w, 256, r6, r7, r8], Lg)) o from ev_t (c := x9 = (-1)) _ _ 3  zc17 e (fun n => Eq.refl _)
            exact ev_b 2 (zi10 _ (Option.some.inj zh12).symm (.int x9)) (fun n => Eq.refl _)
          · have zh12 := itn zh12 zc17
            suffices e : Ev (d + 1, 0, 0, 165, 81, [.val (.ref 768), .val (.int p1), .val (.int p2), .val (.int v6), .val (.int v7), .val (.int x9)], [], (126, 120, L, [Y, T, H2, H, RA, RB, ST, NS, I0, I1, I2, BO, FI, RG, GU, PU, MA, MN, MS, OT, SC], [r0, r1, r2, r3, w, 256, r6, r7, r8], Lg)) o from ev_f (c := x9 = (-1)) _ _ 3  zc17 e (fun n => Eq.refl _)
            obtain ⟨x10, zh18, zh12⟩ := bnd zh12
            have zh18 : f_Y_roomOf x9 = some x10 := zh18
            have ze19 := R_f_Y_roomOf_0 (d + 0) Y T H2 H RA RB ST NS I0 I1 I2 BO FI RG GU PU MA MN MS OT SC r0 r1 r2 r3 w 256 r6 r7 r8 L Lg x9 zh18
            suffices e : Ev (d + 1, 0, 0, 165, 86, [.val (.ref 768), .val (.int p1), .val (.int p2), .val (.int v6), .val (.int v7), .val (.int x9)], [.int x10], (126, 120, L, [Y, T, H2, H, RA, RB, ST, NS, I0, I1, I2, BO, FI, RG, GU, PU, MA, MN, MS, OT, SC], [r0, r1, r2, r3, w, 256, r6, r7, r8], Lg)) o from ev_call (fun v μ => (d + 1, 0, 0, 165, 86, [.val (.ref 768), .val (.int p1), .val (.int p2), .val (.int v6), .val (.int v7), .val (.int x9)], v.toList ++ [], μ)) 2 ze19 e (fun n => Eq.refl _)
            obtain ⟨zt20, zh21, zh12⟩ := bnd zh12
            have zj22 : zt20 = .inl () → Ev (d + 1, 0, 0, 165, 100, [.val (.ref 768), .val (.int p1), .val (.int p2), .val (.int v6), .val (.int v7), .val (.int x9)], [], (126, 120, L, [Y, T, H2, H, RA, RB, ST, NS, I0, I1, I2, BO, FI, RG, GU, PU, MA, MN, MS, OT, SC], [r0, r1, r2, r3, w, 256, r6, r7, r8], Lg)) o := by
              intro ze23
              have zh12 := sum_l zh12 ze23
              obtain ⟨x12, zh24, zh12⟩ := bnd zh12
              have zh24 : f_Y_hourOf x9 = some x12 := zh24
              have ze25 := R_f_Y_hourOf_0 (d + 0) Y T H2 H RA RB ST NS I0 I1 I2 BO FI RG GU PU MA MN MS OT SC r0 r1 r2 r3 w 256 r6 r7 r8 L Lg x9 zh24
              suffices e : Ev (d + 1, 0, 0, 165, 107, [.val (.ref 768), .val (.int p1), .val (.int p2), .val (.int v6), .val (.int v7), .val (.int x9)], [.int x12, .int 1, .int v6], (126, 120, L, [Y, T, H2, H, RA, RB, ST, NS, I0, I1, I2, BO, FI, RG, GU, PU, MA, MN, MS, OT, SC], [r0, r1, r2, r3, w, 256, r6, r7, r8], Lg)) o from ev_call (fun v μ => (d + 1, 0, 0, 165, 107, [.val (.ref 768), .val (.int p1), .val (.int p2), .val (.int v6), .val (.int v7), .val (.int x9)], v.toList ++ [.int 1, .int v6], μ)) 4 ze25 e (fun n => Eq.refl _)
              exact ev_b 7 (zi10 _ (Option.some.inj zh12).symm (.int x9)) (fun n => Eq.refl _)
            by_cases zc26 : x10 = p2
            · have zh21 := itp zh21 zc26
              suffices e : Ev (d + 1, 0, 0, 165, 100, [.val (.ref 768), .val (.int p1), .val (.int p2), .val (.int v6), .val (.int v7), .val (.int x9)], [], (126, 120, L, [Y, T, H2, H, RA, RB, ST, NS, I0, I1, I2, BO, FI, RG, GU, PU, MA, MN, MS, OT, SC], [r0, r1, r2, r3, w, 256, r6, r7, r8], Lg)) o from ev_t (c := x10 = p2) _ _ 2  zc26 e (fun n => Eq.refl _)
              exact ev_b 0 (zj22  (Option.some.inj zh21).symm ) (fun n => Eq.refl _)
            · have zh21 := itn zh21 zc26
              suffices e : Ev (d + 1, 0, 0, 165, 90, [.val (.ref 768), .val (.int p1), .val (.int p2), .val (.int v6), .val (.int v7), .val (.int x9)], [], (126, 120, L, [Y, T, H2, H, RA, RB, ST, NS, I0, I1, I2, BO, FI, RG, GU, PU, MA, MN, MS, OT, SC], [r0, r1, r2, r3, w, 256, r6, r7, r8], Lg)) o from ev_f (c := x10 = p2) _ _ 2  zc26 e (fun n => Eq.refl _)
              obtain ⟨x11, zh27, zh21⟩ := bnd zh21
              have zh27 : f_Board_sharesPerson H p1 v7 = some x11 := zh27
              have ze28 := R_f_Board_sharesPerson_1 (d + 0) Y T H2 H RA RB ST NS I0 I1 I2 BO FI RG GU PU MA MN MS OT SC r0 r1 r2 r3 w r6 r7 r8 L Lg p1 v7 zh27
              suffices e : Ev (d + 1, 0, 0, 165, 97, [.val (.ref 768), .val (.int p1), .val (.int p2), .val (.int v6), .val (.int v7), .val (.int x9)], [.int x11], (126, 120, L, [Y, T, H2, H, RA, RB, ST, NS, I0, I1, I2, BO, FI, RG, GU, PU, MA, MN, MS, OT, SC], [r0, r1, r2, r3, w, 256, r6, r7, r8], Lg)) o from ev_call (fun v μ => (d + 1, 0, 0, 165, 97, [.val (.ref 768), .val (.int p1), .val (.int p2), .val (.int v6), .val (.int v7), .val (.int x9)], v.toList ++ [], μ)) 4 ze28 e (fun n => Eq.refl _)
              by_cases zc29 : x11 = 0
              · have zh21 := itp zh21 zc29
                suffices e : Ev (d + 1, 0, 0, 165, 112, [.val (.ref 768), .val (.int p1), .val (.int p2), .val (.int v6), .val (.int v7), .val (.int x9)], [], (126, 120, L, [Y, T, H2, H, RA, RB, ST, NS, I0, I1, I2, BO, FI, RG, GU, PU, MA, MN, MS, OT, SC], [r0, r1, r2, r3, w, 256, r6, r7, r8], Lg)) o from ev_t (c := x11 = 0) _ _ 1  zc29 e (fun n => Eq.refl _)
                have zh30 := sum_r zh12 (Option.some.inj zh21).symm
                exact ev_b 2 (zi10 _ (Option.some.inj zh30).symm (.int x9)) (fun n => Eq.refl _)
              · have zh21 := itn zh21 zc29
                suffices e : Ev (d + 1, 0, 0, 165, 100, [.val (.ref 768), .val (.int p1), .val (.int p2), .val (.int v6), .val (.int v7), .val (.int x9)], [], (126, 120, L, [Y, T, H2, H, RA, RB, ST, NS, I0, I1, I2, BO, FI, RG, GU, PU, MA, MN, MS, OT, SC], [r0, r1, r2, r3, w, 256, r6, r7, r8], Lg)) o from ev_f (c := x11 = 0) _ _ 1  zc29 e (fun n => Eq.refl _)
                exact ev_b 0 (zj22  (Option.some.inj zh21).symm ) (fun n => Eq.refl _)
    · skip
      intro s14 s15
      have ze31 := Option.some.inj h
      subst ze31
      exact ev_rete 2 ho (fun n => Eq.refl _)
  · have h := itn h zc5
    suffices e : Ev (d + 1, 0, 0, 165, 24, [.val (.ref 768), .val (.int p1), .val (.int p2), .val a_unk, .val a_unk, .val a_unk], [], (126, 120, L, [Y, T, H2, H, RA, RB, ST, NS, I0, I1, I2, BO, FI, RG, GU, PU, MA, MN, MS, OT, SC], [r0, r1, r2, r3, w, 256, r6, r7, r8], Lg)) o from ev_f (c := x2 ≤ x3) _ _ 1  zc5 e (fun n => Eq.refl _)
    have ze32 := Option.some.inj h
    subst ze32
    exact ev_rete 2 ho (fun n => Eq.refl _)
set_option maxRecDepth 1000000 in
set_option maxHeartbeats 4000000 in
theorem R_f_Board_isOpen_1 (d : Nat) (Y T H2 H RA RB ST NS I0 I1 I2 BO FI RG GU PU MA MN MS OT SC : Nat → Nat → Int32) (r0 r1 r2 r3 w r6 r7 r8 : Nat) (L : Nat) (Lg : Int64) (p1 : Int32) (p2 : Int32) {r : Int32} (h : f_Board_isOpen H BO p1 p2 = some r) : Ev (d + 2, 0, 0, 166, 0, [.val (.ref 768), .val (.int p1), .val (.int p2)], [], (126, 120, L, [Y, T, H2, H, RA, RB, ST, NS, I0, I1, I2, BO, FI, RG, GU, PU, MA, MN, MS, OT, SC], [r0, r1, r2, r3, w, 256, r6, r7, r8], Lg)) ((0, some (.int r), (126, 120, L, [Y, T, H2, H, RA, RB, ST, NS, I0, I1, I2, BO, FI, RG, GU, PU, MA, MN, MS, OT, SC], [r0, r1, r2, r3, w, 256, r6, r7, r8], Lg)) : AOut) := by
  suffices key : ∀ o : AOut, ((0, some (.int r), (126, 120, L, [Y, T, H2, H, RA, RB, ST, NS, I0, I1, I2, BO, FI, RG, GU, PU, MA, MN, MS, OT, SC], [r0, r1, r2, r3, w, 256, r6, r7, r8], Lg)) : AOut) = o → Ev (d + 2, 0, 0, 166, 0, [.val (.ref 768), .val (.int p1), .val (.int p2)], [], (126, 120, L, [Y, T, H2, H, RA, RB, ST, NS, I0, I1, I2, BO, FI, RG, GU, PU, MA, MN, MS, OT, SC], [r0, r1, r2, r3, w, 256, r6, r7, r8], Lg)) o from key _ rfl
  intro o ho
  obtain ⟨x1, zh1, h⟩ := bnd h
  have zh1 : f_Y_roomOf p2 = some x1 := zh1
  have ze2 := R_f_Y_roomOf_0 (d + 1) Y T H2 H RA RB ST NS I0 I1 I2 BO FI RG GU PU MA MN MS OT SC r0 r1 r2 r3 w 256 r6 r7 r8 L Lg p2 zh1
  suffices e : Ev (d + 2, 0, 0, 166, 6, [.val (.ref 768), .val (.int p1), .val (.int p2)], [.int x1, .int p1, .ref 768], (126, 120, L, [Y, T, H2, H, RA, RB, ST, NS, I0, I1, I2, BO, FI, RG, GU, PU, MA, MN, MS, OT, SC], [r0, r1, r2, r3, w, 256, r6, r7, r8], Lg)) o from ev_call (fun v μ => (d + 2, 0, 0, 166, 6, [.val (.ref 768), .val (.int p1), .val (.int p2)], v.toList ++ [.int p1, .ref 768], μ)) 4 ze2 e (fun n => Eq.refl _)
  obtain ⟨x2, zh3, h⟩ := bnd h
  have zh3 : f_Board_openHours H BO p1 x1 = some x2 := zh3
  have ze4 := R_f_Board_openHours_1 (d + 0) Y T H2 H RA RB ST NS I0 I1 I2 BO FI RG GU PU MA MN MS OT SC r0 r1 r2 r3 w r6 r7 r8 L Lg p1 x1 zh3
  suffices e : Ev (d + 2, 0, 0, 166, 9, [.val (.ref 768), .val (.int p1), .val (.int p2)], [.int x2], (126, 120, L, [Y, T, H2, H, RA, RB, ST, NS, I0, I1, I2, BO, FI, RG, GU, PU, MA, MN, MS, OT, SC], [r0, r1, r2, r3, w, 256, r6, r7, r8], Lg)) o from ev_call (fun v μ => (d + 2, 0, 0, 166, 9, [.val (.ref 768), .val (.int p1), .val (.int p2)], v.toList ++ [], μ)) 1 ze4 e (fun n => Eq.refl _)
  obtain ⟨x3, zh5, h⟩ := bnd h
  have zh5 : f_Y_hourOf p2 = some x3 := zh5
  have ze6 := R_f_Y_hourOf_0 (d + 1) Y T H2 H RA RB ST NS I0 I1 I2 BO FI RG GU PU MA MN MS OT SC r0 r1 r2 r3 w 256 r6 r7 r8 L Lg p2 zh5
  suffices e : Ev (d + 2, 0, 0, 166, 13, [.val (.ref 768), .val (.int p1), .val (.int p2)], [.int x3, .int x2], (126, 120, L, [Y, T, H2, H, RA, RB, ST, NS, I0, I1, I2, BO, FI, RG, GU, PU, MA, MN, MS, OT, SC], [r0, r1, r2, r3, w, 256, r6, r7, r8], Lg)) o from ev_call (fun v μ => (d + 2, 0, 0, 166, 13, [.val (.ref 768), .val (.int p1), .val (.int p2)], v.toList ++ [.int x2], μ)) 2 ze6 e (fun n => Eq.refl _)
  by_cases zc7 : ((a_shr x2 x3) &&& 1) = 0
  · have h := itp h zc7
    suffices e : Ev (d + 2, 0, 0, 166, 23, [.val (.ref 768), .val (.int p1), .val (.int p2)], [], (126, 120, L, [Y, T, H2, H, RA, RB, ST, NS, I0, I1, I2, BO, FI, RG, GU, PU, MA, MN, MS, OT, SC], [r0, r1, r2, r3, w, 256, r6, r7, r8], Lg)) o from ev_t (c := ((a_shr x2 x3) &&& 1) = 0) _ _ 4  zc7 e (fun n => Eq.refl _)
    have ze8 := Option.some.inj h
    subst ze8
    exact ev_rete 2 ho (fun n => Eq.refl _)
  · have h := itn h zc7
    suffices e : Ev (d + 2, 0, 0, 166, 19, [.val (.ref 768), .val (.int p1), .val (.int p2)], [], (126, 120, L, [Y, T, H2, H, RA, RB, ST, NS, I0, I1, I2, BO, FI, RG, GU, PU, MA, MN, MS, OT, SC], [r0, r1, r2, r3, w, 256, r6, r7, r8], Lg)) o from ev_f (c := ((a_shr x2 x3) &&& 1) = 0) _ _ 4  zc7 e (fun n => Eq.refl _)
    have ze9 := Option.some.inj h
    subst ze9
    exact ev_rete 3 ho (fun n => Eq.refl _)
set_option maxRecDepth 1000000 in
set_option maxHeartbeats 4000000 in
theorem R_f_Y_clashing_2 (d : Nat) (Y T H2 H RU RV ST NS I0 I1 I2 BO FI RG GU PU MA MN MS OT SC : Nat → Nat → Int32) (w r5 : Nat) (L : Nat) (Lg : Int64) {r : Int32 × (Nat → Nat → Int32)} (h : f_Y_clashing H NS BO = some r) : Ev (d + 3, 0, 0, 294, 0, [.val (.ref 64), .val a_unk, .val a_unk, .val a_unk], [], (126, 120, L, [Y, T, H2, H, RU, RV, ST, NS, I0, I1, I2, BO, FI, RG, GU, PU, MA, MN, MS, OT, SC], [256, 192, 320, 384, w, r5, 576, 640, 704], Lg)) ((0, some (.int r.1), (126, 120, L, [Y, T, H2, H, RU, RV, ST, NS, I0, I1, I2, r.2, FI, RG, GU, PU, MA, MN, MS, OT, SC], [256, 192, 320, 384, w, 256, 576, 640, 704], Lg)) : AOut) := by
  suffices key : ∀ o : AOut, ((0, some (.int r.1), (126, 120, L, [Y, T, H2, H, RU, RV, ST, NS, I0, I1, I2, r.2, FI, RG, GU, PU, MA, MN, MS, OT, SC], [256, 192, 320, 384, w, 256, 576, 640, 704], Lg)) : AOut) = o → Ev (d + 3, 0, 0, 294, 0, [.val (.ref 64), .val a_unk, .val a_unk, .val a_unk], [], (126, 120, L, [Y, T, H2, H, RU, RV, ST, NS, I0, I1, I2, BO, FI, RG, GU, PU, MA, MN, MS, OT, SC], [256, 192, 320, 384, w, r5, 576, 640, 704], Lg)) o from key _ rfl
  intro o ho
  obtain ⟨BO_2, zh1, h⟩ := bnd h
  have zh1 : f_Y_lookNow H NS BO = some BO_2 := zh1
  have ze2 := R_f_Y_lookNow_2 (d + 0) Y T H2 H RU RV ST NS I0 I1 I2 BO FI RG GU PU MA MN MS OT SC w r5 L Lg zh1
  suffices e : Ev (d + 3, 0, 0, 294, 4, [.val (.ref 64), .val a_unk, .val a_unk, .val a_unk], [.ref 768], (126, 120, L, [Y, T, H2, H, RU, RV, ST, NS, I0, I1, I2, BO_2, FI, RG, GU, PU, MA, MN, MS, OT, SC], [256, 192, 320, 384, w, 256, 576, 640, 704], Lg)) o from ev_call (fun v μ => (d + 3, 0, 0, 294, 4, [.val (.ref 64), .val a_unk, .val a_unk, .val a_unk], v.toList ++ [], μ)) 2 ze2 e (fun n => Eq.refl _)
  obtain ⟨v8, zh4, h⟩ := bnd h
  suffices e : Ev (d + 3, 0, 0, 294, 9, [.val (.ref 64), .val (.ref 768), .val (.int 0), .val (.int 0)], [], (126, 120, L, [Y, T, H2, H, RU, RV, ST, NS, I0, I1, I2, BO_2, FI, RG, GU, PU, MA, MN, MS, OT, SC], [256, 192, 320, 384, w, 256, 576, 640, 704], Lg)) o from ev_b 5 e (fun n => Eq.refl _)
  refine ev_loop (δ := Unit) (fun a j => (d + 3, 0, 0, 294, 9, [.val (.ref 64), .val (.ref 768), .val (.int a.1), .val (.int a.2)], [], (126, 120, L, [Y, T, H2, H, RU, RV, ST, NS, I0, I1, I2, BO_2, FI, RG, GU, PU, MA, MN, MS, OT, SC], [256, 192, 320, 384, w, 256, 576, 640, 704], Lg))) (fun b => ∀ s9 : Value, Ev (d + 3, 0, 0, 294, 56, [.val (.ref 64), .val (.ref 768), .val (.int b), .val s9], [], (126, 120, L, [Y, T, H2, H, RU, RV, ST, NS, I0, I1, I2, BO_2, FI, RG, GU, PU, MA, MN, MS, OT, SC], [256, 192, 320, 384, w, 256, 576, 640, 704], Lg)) o) ?_ a_F (0, 0) v8 zh4 ?_ ()
  · rintro ⟨v3, v4⟩ zr8 zh7 zi5 zx6 ⟨⟩
    have zh7 : f_Y_clashing_l9 H BO_2 v3 v4 = some zr8 := zh7
    suffices e : Ev (d + 3, 0, 0, 294, 14, [.val (.ref 64), .val (.ref 768), .val (.int v3), .val (.int v4)], [.ref 256, .int v4], (126, 120, L, [Y, T, H2, H, RU, RV, ST, NS, I0, I1, I2, BO_2, FI, RG, GU, PU, MA, MN, MS, OT, SC], [256, 192, 320, 384, w, 256, 576, 640, 704], Lg)) o from ev_b 3 e (fun n => Eq.refl _)
    by_cases zc9 : (H 0 3) ≤ v4
    · have zh7 := itp zh7 zc9
      suffices e : Ev (d + 3, 0, 0, 294, 56, [.val (.ref 64), .val (.ref 768), .val (.int v3), .val (.int v4)], [], (126, 120, L, [Y, T, H2, H, RU, RV, ST, NS, I0, I1, I2, BO_2, FI, RG, GU, PU, MA, MN, MS, OT, SC], [256, 192, 320, 384, w, 256, 576, 640, 704], Lg)) o from ev_t (c := (H 0 3) ≤ v4) _ _ 2  zc9 e (fun n => Eq.refl _)
      exact ev_b 0 (zx6 _ (Option.some.inj zh7).symm (.int v4)) (fun n => Eq.refl _)
    · have zh7 := itn zh7 zc9
      suffices e : Ev (d + 3, 0, 0, 294, 20, [.val (.ref 64), .val (.ref 768), .val (.int v3), .val (.int v4)], [], (126, 120, L, [Y, T, H2, H, RU, RV, ST, NS, I0, I1, I2, BO_2, FI, RG, GU, PU, MA, MN, MS, OT, SC], [256, 192, 320, 384, w, 256, 576, 640, 704], Lg)) o from ev_f (c := (H 0 3) ≤ v4) _ _ 2  zc9 e (fun n => Eq.refl _)
      obtain ⟨x5, zh10, zh7⟩ := bnd zh7
      have zh10 : rdx (BO_2 1) 10 v4 = some x5 := zh10
      suffices e : Ev (d + 3, 0, 0, 294, 26, [.val (.ref 64), .val (.ref 768), .val (.int v3), .val (.int v4)], [.int x5], (126, 120, L, [Y, T, H2, H, RU, RV, ST, NS, I0, I1, I2, BO_2, FI, RG, GU, PU, MA, MN, MS, OT, SC], [256, 192, 320, 384, w, 256, 576, 640, 704], Lg)) o from ev_opt (fun x5 => (d + 3, 0, 0, 294, 26, [.val (.ref 64), .val (.ref 768), .val (.int v3), .val (.int v4)], [.int x5], (126, 120, L, [Y, T, H2, H, RU, RV, ST, NS, I0, I1, I2, BO_2, FI, RG, GU, PU, MA, MN, MS, OT, SC], [256, 192, 320, 384, w, 256, 576, 640, 704], Lg))) 4 zh10 e (fun n => Eq.refl _)
      by_cases zc11 : x5 = (-1)
      · have zh7 := itp zh7 zc11
        suffices e : Ev (d + 3, 0, 0, 294, 50, [.val (.ref 64), .val (.ref 768), .val (.int v3), .val (.int v4)], [], (126, 120, L, [Y, T, H2, H, RU, RV, ST, NS, I0, I1, I2, BO_2, FI, RG, GU, PU, MA, MN, MS, OT, SC], [256, 192, 320, 384, w, 256, 576, 640, 704], Lg)) o from ev_t (c := x5 = (-1)) _ _ 2  zc11 e (fun n => Eq.refl _)
        exact ev_b 2 (zi5 _ (Option.some.inj zh7).symm ()) (fun n => Eq.refl _)
      · have zh7 := itn zh7 zc11
        suffices e : Ev (d + 3, 0, 0, 294, 30, [.val (.ref 64), .val (.ref 768), .val (.int v3), .val (.int v4)], [], (126, 120, L, [Y, T, H2, H, RU, RV, ST, NS, I0, I1, I2, BO_2, FI, RG, GU, PU, MA, MN, MS, OT, SC], [256, 192, 320, 384, w, 256, 576, 640, 704], Lg)) o from ev_f (c := x5 = (-1)) _ _ 2  zc11 e (fun n => Eq.refl _)
        obtain ⟨x6, zh12, zh7⟩ := bnd zh7
        have zh12 : rdx (BO_2 1) 10 v4 = some x6 := zh12
        suffices e : Ev (d + 3, 0, 0, 294, 38, [.val (.ref 64), .val (.ref 768), .val (.int v3), .val (.int v4)], [.int x6, .int v4, .ref 768], (126, 120, L, [Y, T, H2, H, RU, RV, ST, NS, I0, I1, I2, BO_2, FI, RG, GU, PU, MA, MN, MS, OT, SC], [256, 192, 320, 384, w, 256, 576, 640, 704], Lg)) o from ev_opt (fun x6 => (d + 3, 0, 0, 294, 38, [.val (.ref 64), .val (.ref 768), .val (.int v3), .val (.int v4)], [.int x6, .int v4, .ref 768], (126, 120, L, [Y, T, H2, H, RU, RV, ST, NS, I0, I1, I2, BO_2, FI, RG, GU, PU, MA, MN, MS, OT, SC], [256, 192, 320, 384, w, 256, 576, 640, 704], Lg))) 6 zh12 e (fun n => Eq.refl _)
        obtain ⟨x7, zh13, zh7⟩ := bnd zh7
        have zh13 : f_Board_isOpen H BO_2 v4 x6 = some x7 := zh13
        have ze14 := R_f_Board_isOpen_1 (d + 0) Y T H2 H RU RV ST NS I0 I1 I2 BO_2 FI RG GU PU MA MN MS OT SC 256 192 320 384 w 576 640 704 L Lg v4 x6 zh13
        suffices e : Ev (d + 3, 0, 0, 294, 41, [.val (.ref 64), .val (.ref 768), .val (.int v3), .val (.int v4)], [.int x7], (126, 120, L, [Y, T, H2, H, RU, RV, ST, NS, I0, I1, I2, BO_2, FI, RG, GU, PU, MA, MN, MS, OT, SC], [256, 192, 320, 384, w, 256, 576, 640, 704], Lg)) o from ev_call (fun v μ => (d + 3, 0, 0, 294, 41, [.val (.ref 64), .val (.ref 768), .val (.int v3), .val (.int v4)], v.toList ++ [], μ)) 1 ze14 e (fun n => Eq.refl _)
        by_cases zc15 : x7 ≠ 0
        · have zh7 := itp zh7 zc15
          suffices e : Ev (d + 3, 0, 0, 294, 50, [.val (.ref 64), .val (.ref 768), .val (.int v3), .val (.int v4)], [], (126, 120, L, [Y, T, H2, H, RU, RV, ST, NS, I0, I1, I2, BO_2, FI, RG, GU, PU, MA, MN, MS, OT, SC], [256, 192, 320, 384, w, 256, 576, 640, 704], Lg)) o from ev_t (c := x7 ≠ 0) _ _ 1  zc15 e (fun n => Eq.refl _)
          exact ev_b 2 (zi5 _ (Option.some.inj zh7).symm ()) (fun n => Eq.refl _)
        · have zh7 := itn zh7 zc15
          suffices e : Ev (d + 3, 0, 0, 294, 44, [.val (.ref 64), .val (.ref 768), .val (.int v3), .val (.int v4)], [], (126, 120, L, [Y, T, H2, H, RU, RV, ST, NS, I0, I1, I2, BO_2, FI, RG, GU, PU, MA, MN, MS, OT, SC], [256, 192, 320, 384, w, 256, 576, 640, 704], Lg)) o from ev_f (c := x7 ≠ 0) _ _ 1  zc15 e (fun n => Eq.refl _)
          exact ev_b 8 (zi5 _ (Option.some.inj zh7).symm ()) (fun n => Eq.refl _)
  · skip
    intro s9
    have ze16 := Option.some.inj h
    subst ze16
    exact ev_rete 2 ho (fun n => Eq.refl _)
set_option maxRecDepth 1000000 in
set_option maxHeartbeats 4000000 in
theorem R_f_Y_clashing_3 (d : Nat) (Y T H2 H RV RU ST NS I0 I1 I2 BO FI RG GU PU MA MN MS OT SC : Nat → Nat → Int32) (w r5 : Nat) (L : Nat) (Lg : Int64) {r : Int32 × (Nat → Nat → Int32)} (h : f_Y_clashing H NS BO = some r) : Ev (d + 3, 0, 0, 294, 0, [.val (.ref 64), .val a_unk, .val a_unk, .val a_unk], [], (126, 120, L, [Y, T, H2, H, RV, RU, ST, NS, I0, I1, I2, BO, FI, RG, GU, PU, MA, MN, MS, OT, SC], [256, 192, 384, 320, w, r5, 576, 640, 704], Lg)) ((0, some (.int r.1), (126, 120, L, [Y, T, H2, H, RV, RU, ST, NS, I0, I1, I2, r.2, FI, RG, GU, PU, MA, MN, MS, OT, SC], [256, 192, 384, 320, w, 256, 576, 640, 704], Lg)) : AOut) := by
  suffices key : ∀ o : AOut, ((0, some (.int r.1), (126, 120, L, [Y, T, H2, H, RV, RU, ST, NS, I0, I1, I2, r.2, FI, RG, GU, PU, MA, MN, MS, OT, SC], [256, 192, 384, 320, w, 256, 576, 640, 704], Lg)) : AOut) = o → Ev (d + 3, 0, 0, 294, 0, [.val (.ref 64), .val a_unk, .val a_unk, .val a_unk], [], (126, 120, L, [Y, T, H2, H, RV, RU, ST, NS, I0, I1, I2, BO, FI, RG, GU, PU, MA, MN, MS, OT, SC], [256, 192, 384, 320, w, r5, 576, 640, 704], Lg)) o from key _ rfl
  intro o ho
  obtain ⟨BO_2, zh1, h⟩ := bnd h
  have zh1 : f_Y_lookNow H NS BO = some BO_2 := zh1
  have ze2 := R_f_Y_lookNow_3 (d + 0) Y T H2 H RV RU ST NS I0 I1 I2 BO FI RG GU PU MA MN MS OT SC w r5 L Lg zh1
  suffices e : Ev (d + 3, 0, 0, 294, 4, [.val (.ref 64), .val a_unk, .val a_unk, .val a_unk], [.ref 768], (126, 120, L, [Y, T, H2, H, RV, RU, ST, NS, I0, I1, I2, BO_2, FI, RG, GU, PU, MA, MN, MS, OT, SC], [256, 192, 384, 320, w, 256, 576, 640, 704], Lg)) o from ev_call (fun v μ => (d + 3, 0, 0, 294, 4, [.val (.ref 64), .val a_unk, .val a_unk, .val a_unk], v.toList ++ [], μ)) 2 ze2 e (fun n => Eq.refl _)
  obtain ⟨v8, zh4, h⟩ := bnd h
  suffices e : Ev (d + 3, 0, 0, 294, 9, [.val (.ref 64), .val (.ref 768), .val (.int 0), .val (.int 0)], [], (126, 120, L, [Y, T, H2, H, RV, RU, ST, NS, I0, I1, I2, BO_2, FI, RG, GU, PU, MA, MN, MS, OT, SC], [256, 192, 384, 320, w, 256, 576, 640, 704], Lg)) o from ev_b 5 e (fun n => Eq.refl _)
  refine ev_loop (δ := Unit) (fun a j => (d + 3, 0, 0, 294, 9, [.val (.ref 64), .val (.ref 768), .val (.int a.1), .val (.int a.2)], [], (126, 120, L, [Y, T, H2, H, RV, RU, ST, NS, I0, I1, I2, BO_2, FI, RG, GU, PU, MA, MN, MS, OT, SC], [256, 192, 384, 320, w, 256, 576, 640, 704], Lg))) (fun b => ∀ s9 : Value, Ev (d + 3, 0, 0, 294, 56, [.val (.ref 64), .val (.ref 768), .val (.int b), .val s9], [], (126, 120, L, [Y, T, H2, H, RV, RU, ST, NS, I0, I1, I2, BO_2, FI, RG, GU, PU, MA, MN, MS, OT, SC], [256, 192, 384, 320, w, 256, 576, 640, 704], Lg)) o) ?_ a_F (0, 0) v8 zh4 ?_ ()
  · rintro ⟨v3, v4⟩ zr8 zh7 zi5 zx6 ⟨⟩
    have zh7 : f_Y_clashing_l9 H BO_2 v3 v4 = some zr8 := zh7
    suffices e : Ev (d + 3, 0, 0, 294, 14, [.val (.ref 64), .val (.ref 768), .val (.int v3), .val (.int v4)], [.ref 256, .int v4], (126, 120, L, [Y, T, H2, H, RV, RU, ST, NS, I0, I1, I2, BO_2, FI, RG, GU, PU, MA, MN, MS, OT, SC], [256, 192, 384, 320, w, 256, 576, 640, 704], Lg)) o from ev_b 3 e (fun n => Eq.refl _)
    by_cases zc9 : (H 0 3) ≤ v4
    · have zh7 := itp zh7 zc9
      suffices e : Ev (d + 3, 0, 0, 294, 56, [.val (.ref 64), .val (.ref 768), .val (.int v3), .val (.int v4)], [], (126, 120, L, [Y, T, H2, H, RV, RU, ST, NS, I0, I1, I2, BO_2, FI, RG, GU, PU, MA, MN, MS, OT, SC], [256, 192, 384, 320, w, 256, 576, 640, 704], Lg)) o from ev_t (c := (H 0 3) ≤ v4) _ _ 2  zc9 e (fun n => Eq.refl _)
      exact ev_b 0 (zx6 _ (Option.some.inj zh7).symm (.int v4)) (fun n => Eq.refl _)
    · have zh7 := itn zh7 zc9
      suffices e : Ev (d + 3, 0, 0, 294, 20, [.val (.ref 64), .val (.ref 768), .val (.int v3), .val (.int v4)], [], (126, 120, L, [Y, T, H2, H, RV, RU, ST, NS, I0, I1, I2, BO_2, FI, RG, GU, PU, MA, MN, MS, OT, SC], [256, 192, 384, 320, w, 256, 576, 640, 704], Lg)) o from ev_f (c := (H 0 3) ≤ v4) _ _ 2  zc9 e (fun n => Eq.refl _)
      obtain ⟨x5, zh10, zh7⟩ := bnd zh7
      have zh10 : rdx (BO_2 1) 10 v4 = some x5 := zh10
      suffices e : Ev (d + 3, 0, 0, 294, 26, [.val (.ref 64), .val (.ref 768), .val (.int v3), .val (.int v4)], [.int x5], (126, 120, L, [Y, T, H2, H, RV, RU, ST, NS, I0, I1, I2, BO_2, FI, RG, GU, PU, MA, MN, MS, OT, SC], [256, 192, 384, 320, w, 256, 576, 640, 704], Lg)) o from ev_opt (fun x5 => (d + 3, 0, 0, 294, 26, [.val (.ref 64), .val (.ref 768), .val (.int v3), .val (.int v4)], [.int x5], (126, 120, L, [Y, T, H2, H, RV, RU, ST, NS, I0, I1, I2, BO_2, FI, RG, GU, PU, MA, MN, MS, OT, SC], [256, 192, 384, 320, w, 256, 576, 640, 704], Lg))) 4 zh10 e (fun n => Eq.refl _)
      by_cases zc11 : x5 = (-1)
      · have zh7 := itp zh7 zc11
        suffices e : Ev (d + 3, 0, 0, 294, 50, [.val (.ref 64), .val (.ref 768), .val (.int v3), .val (.int v4)], [], (126, 120, L, [Y, T, H2, H, RV, RU, ST, NS, I0, I1, I2, BO_2, FI, RG, GU, PU, MA, MN, MS, OT, SC], [256, 192, 384, 320, w, 256, 576, 640, 704], Lg)) o from ev_t (c := x5 = (-1)) _ _ 2  zc11 e (fun n => Eq.refl _)
        exact ev_b 2 (zi5 _ (Option.some.inj zh7).symm ()) (fun n => Eq.refl _)
      · have zh7 := itn zh7 zc11
        suffices e : Ev (d + 3, 0, 0, 294, 30, [.val (.ref 64), .val (.ref 768), .val (.int v3), .val (.int v4)], [], (126, 120, L, [Y, T, H2, H, RV, RU, ST, NS, I0, I1, I2, BO_2, FI, RG, GU, PU, MA, MN, MS, OT, SC], [256, 192, 384, 320, w, 256, 576, 640, 704], Lg)) o from ev_f (c := x5 = (-1)) _ _ 2  zc11 e (fun n => Eq.refl _)
        obtain ⟨x6, zh12, zh7⟩ := bnd zh7
        have zh12 : rdx (BO_2 1) 10 v4 = some x6 := zh12
        suffices e : Ev (d + 3, 0, 0, 294, 38, [.val (.ref 64), .val (.ref 768), .val (.int v3), .val (.int v4)], [.int x6, .int v4, .ref 768], (126, 120, L, [Y, T, H2, H, RV, RU, ST, NS, I0, I1, I2, BO_2, FI, RG, GU, PU, MA, MN, MS, OT, SC], [256, 192, 384, 320, w, 256, 576, 640, 704], Lg)) o from ev_opt (fun x6 => (d + 3, 0, 0, 294, 38, [.val (.ref 64), .val (.ref 768), .val (.int v3), .val (.int v4)], [.int x6, .int v4, .ref 768], (126, 120, L, [Y, T, H2, H, RV, RU, ST, NS, I0, I1, I2, BO_2, FI, RG, GU, PU, MA, MN, MS, OT, SC], [256, 192, 384, 320, w, 256, 576, 640, 704], Lg))) 6 zh12 e (fun n => Eq.refl _)
        obtain ⟨x7, zh13, zh7⟩ := bnd zh7
        have zh13 : f_Board_isOpen H BO_2 v4 x6 = some x7 := zh13
        have ze14 := R_f_Board_isOpen_1 (d + 0) Y T H2 H RV RU ST NS I0 I1 I2 BO_2 FI RG GU PU MA MN MS OT SC 256 192 384 320 w 576 640 704 L Lg v4 x6 zh13
        suffices e : Ev (d + 3, 0, 0, 294, 41, [.val (.ref 64), .val (.ref 768), .val (.int v3), .val (.int v4)], [.int x7], (126, 120, L, [Y, T, H2, H, RV, RU, ST, NS, I0, I1, I2, BO_2, FI, RG, GU, PU, MA, MN, MS, OT, SC], [256, 192, 384, 320, w, 256, 576, 640, 704], Lg)) o from ev_call (fun v μ => (d + 3, 0, 0, 294, 41, [.val (.ref 64), .val (.ref 768), .val (.int v3), .val (.int v4)], v.toList ++ [], μ)) 1 ze14 e (fun n => Eq.refl _)
        by_cases zc15 : x7 ≠ 0
        · have zh7 := itp zh7 zc15
          suffices e : Ev (d + 3, 0, 0, 294, 50, [.val (.ref 64), .val (.ref 768), .val (.int v3), .val (.int v4)], [], (126, 120, L, [Y, T, H2, H, RV, RU, ST, NS, I0, I1, I2, BO_2, FI, RG, GU, PU, MA, MN, MS, OT, SC], [256, 192, 384, 320, w, 256, 576, 640, 704], Lg)) o from ev_t (c := x7 ≠ 0) _ _ 1  zc15 e (fun n => Eq.refl _)
          exact ev_b 2 (zi5 _ (Option.some.inj zh7).symm ()) (fun n => Eq.refl _)
        · have zh7 := itn zh7 zc15
          suffices e : Ev (d + 3, 0, 0, 294, 44, [.val (.ref 64), .val (.ref 768), .val (.int v3), .val (.int v4)], [], (126, 120, L, [Y, T, H2, H, RV, RU, ST, NS, I0, I1, I2, BO_2, FI, RG, GU, PU, MA, MN, MS, OT, SC], [256, 192, 384, 320, w, 256, 576, 640, 704], Lg)) o from ev_f (c := x7 ≠ 0) _ _ 1  zc15 e (fun n => Eq.refl _)
          exact ev_b 8 (zi5 _ (Option.some.inj zh7).symm ()) (fun n => Eq.refl _)
  · skip
    intro s9
    have ze16 := Option.some.inj h
    subst ze16
    exact ev_rete 2 ho (fun n => Eq.refl _)
set_option maxRecDepth 1000000 in
set_option maxHeartbeats 4000000 in
theorem R_f_Y_free_0 (d : Nat) (Y T H H2 RU RV ST NS I0 I1 I2 BO FI RG GU PU MA MN MS OT SC : Nat → Nat → Int32) (w r5 : Nat) (L : Nat) (Lg : Int64) (p1 : Int32) {r : Nat × Int32 × (Nat → Nat → Int32) × (Nat → Nat → Int32) × Nat} (h : f_Y_free Y H NS BO 192 r5 p1 = some r) : Ev (d + 3, 1, 8, 295, 0, [.val (.ref 64), .val (.int p1), .val a_unk, .val a_unk, .val a_unk], [], (126, 120, L, [Y, T, H, H2, RU, RV, ST, NS, I0, I1, I2, BO, FI, RG, GU, PU, MA, MN, MS, OT, SC], [192, 256, 320, 384, w, r5, 576, 640, 704], Lg)) ((r.1, a_ov r.1 (.int r.2.1), (126, 120, L, [r.2.2.1, T, H, H2, RU, RV, ST, NS, I0, I1, I2, r.2.2.2.1, FI, RG, GU, PU, MA, MN, MS, OT, SC], [192, 256, 320, 384, w, r.2.2.2.2, 576, 640, 704], Lg)) : AOut) := by
  suffices key : ∀ o : AOut, ((r.1, a_ov r.1 (.int r.2.1), (126, 120, L, [r.2.2.1, T, H, H2, RU, RV, ST, NS, I0, I1, I2, r.2.2.2.1, FI, RG, GU, PU, MA, MN, MS, OT, SC], [192, 256, 320, 384, w, r.2.2.2.2, 576, 640, 704], Lg)) : AOut) = o → Ev (d + 3, 1, 8, 295, 0, [.val (.ref 64), .val (.int p1), .val a_unk, .val a_unk, .val a_unk], [], (126, 120, L, [Y, T, H, H2, RU, RV, ST, NS, I0, I1, I2, BO, FI, RG, GU, PU, MA, MN, MS, OT, SC], [192, 256, 320, 384, w, r5, 576, 640, 704], Lg)) o from key _ rfl
  intro o ho
  obtain ⟨⟨q1, Y_2⟩, zh1, h⟩ := bnd h
  have zh1 : f_Y_needMeeting Y H p1 = some (q1, Y_2) := zh1
  have ze2 := R_f_Y_needMeeting_0 (d + 1) Y T H H2 RU RV ST NS I0 I1 I2 BO FI RG GU PU MA MN MS OT SC w r5 L Lg p1 zh1
  cases q1 with
  | zero =>
    have h := itp h rfl
    suffices e : Ev (d + 3, 0, 0, 295, 5, [.val (.ref 64), .val (.int p1), .val a_unk, .val a_unk, .val a_unk], [], (126, 120, L, [Y_2, T, H, H2, RU, RV, ST, NS, I0, I1, I2, BO, FI, RG, GU, PU, MA, MN, MS, OT, SC], [192, 256, 320, 384, w, r5, 576, 640, 704], Lg)) o from ev_call (fun v μ => (d + 3, 0, 0, 295, 5, [.val (.ref 64), .val (.int p1), .val a_unk, .val a_unk, .val a_unk], v.toList ++ [], μ)) 3 ze2 e (fun n => Eq.refl _)
    obtain ⟨BO_4, zh3, h⟩ := bnd h
    have zh3 : f_Y_lookNow H NS BO = some BO_4 := zh3
    have ze4 := R_f_Y_lookNow_0 (d + 0) Y_2 T H H2 RU RV ST NS I0 I1 I2 BO FI RG GU PU MA MN MS OT SC w r5 L Lg zh3
    suffices e : Ev (d + 3, 0, 0, 295, 9, [.val (.ref 64), .val (.int p1), .val a_unk, .val a_unk, .val a_unk], [.ref 768], (126, 120, L, [Y_2, T, H, H2, RU, RV, ST, NS, I0, I1, I2, BO_4, FI, RG, GU, PU, MA, MN, MS, OT, SC], [192, 256, 320, 384, w, 192, 576, 640, 704], Lg)) o from ev_call (fun v μ => (d + 3, 0, 0, 295, 9, [.val (.ref 64), .val (.int p1), .val a_unk, .val a_unk, .val a_unk], v.toList ++ [], μ)) 2 ze4 e (fun n => Eq.refl _)
    obtain ⟨v9, zh6, h⟩ := bnd h
    suffices e : Ev (d + 3, 0, 0, 295, 15, [.val (.ref 64), .val (.int p1), .val (.ref 768), .val (.int 0), .val (.int 0)], [], (126, 120, L, [Y_2, T, H, H2, RU, RV, ST, NS, I0, I1, I2, BO_4, FI, RG, GU, PU, MA, MN, MS, OT, SC], [192, 256, 320, 384, w, 192, 576, 640, 704], Lg)) o from ev_b 5 e (fun n => Eq.refl _)
    refine ev_loop (δ := Unit) (fun a j => (d + 3, 0, 0, 295, 15, [.val (.ref 64), .val (.int p1), .val (.ref 768), .val (.int a.1), .val (.int a.2)], [], (126, 120, L, [Y_2, T, H, H2, RU, RV, ST, NS, I0, I1, I2, BO_4, FI, RG, GU, PU, MA, MN, MS, OT, SC], [192, 256, 320, 384, w, 192, 576, 640, 704], Lg))) (fun b => ∀ s10 : Value, Ev (d + 3, 0, 0, 295, 46, [.val (.ref 64), .val (.int p1), .val (.ref 768), .val (.int b), .val s10], [], (126, 120, L, [Y_2, T, H, H2, RU, RV, ST, NS, I0, I1, I2, BO_4, FI, RG, GU, PU, MA, MN, MS, OT, SC], [192, 256, 320, 384, w, 192, 576, 640, 704], Lg)) o) ?_ a_F (0, 0) v9 zh6 ?_ ()
    · rintro ⟨v5, v6⟩ zr10 zh9 zi7 zx8 ⟨⟩
      have zh9 : f_Y_free_l15 H BO_4 p1 v5 v6 = some zr10 := zh9
      suffices e : Ev (d + 3, 0, 0, 295, 21, [.val (.ref 64), .val (.int p1), .val (.ref 768), .val (.int v5), .val (.int v6)], [.ref 192, .int v6], (126, 120, L, [Y_2, T, H, H2, RU, RV, ST, NS, I0, I1, I2, BO_4, FI, RG, GU, PU, MA, MN, MS, OT, SC], [192, 256, 320, 384, w, 192, 576, 640, 704], Lg)) o from ev_b 3 e (fun n => Eq.refl _)
      by_cases zc11 : (H 0 1) ≤ v6
      · have zh9 := itp zh9 zc11
        suffices e : Ev (d + 3, 0, 0, 295, 46, [.val (.ref 64), .val (.int p1), .val (.ref 768), .val (.int v5), .val (.int v6)], [], (126, 120, L, [Y_2, T, H, H2, RU, RV, ST, NS, I0, I1, I2, BO_4, FI, RG, GU, PU, MA, MN, MS, OT, SC], [192, 256, 320, 384, w, 192, 576, 640, 704], Lg)) o from ev_t (c := (H 0 1) ≤ v6) _ _ 2  zc11 e (fun n => Eq.refl _)
        exact ev_b 0 (zx8 _ (Option.some.inj zh9).symm (.int v6)) (fun n => Eq.refl _)
      · have zh9 := itn zh9 zc11
        suffices e : Ev (d + 3, 0, 0, 295, 27, [.val (.ref 64), .val (.int p1), .val (.ref 768), .val (.int v5), .val (.int v6)], [], (126, 120, L, [Y_2, T, H, H2, RU, RV, ST, NS, I0, I1, I2, BO_4, FI, RG, GU, PU, MA, MN, MS, OT, SC], [192, 256, 320, 384, w, 192, 576, 640, 704], Lg)) o from ev_f (c := (H 0 1) ≤ v6) _ _ 2  zc11 e (fun n => Eq.refl _)
        obtain ⟨x7, zh12, zh9⟩ := bnd zh9
        have zh12 : f_Board_openHours H BO_4 p1 v6 = some x7 := zh12
        have ze13 := R_f_Board_openHours_0 (d + 1) Y_2 T H H2 RU RV ST NS I0 I1 I2 BO_4 FI RG GU PU MA MN MS OT SC 192 256 320 384 w 576 640 704 L Lg p1 v6 zh12
        suffices e : Ev (d + 3, 0, 0, 295, 35, [.val (.ref 64), .val (.int p1), .val (.ref 768), .val (.int v5), .val (.int v6)], [.int x7, .int v5], (126, 120, L, [Y_2, T, H, H2, RU, RV, ST, NS, I0, I1, I2, BO_4, FI, RG, GU, PU, MA, MN, MS, OT, SC], [192, 256, 320, 384, w, 192, 576, 640, 704], Lg)) o from ev_call (fun v μ => (d + 3, 0, 0, 295, 35, [.val (.ref 64), .val (.int p1), .val (.ref 768), .val (.int v5), .val (.int v6)], v.toList ++ [.int v5], μ)) 5 ze13 e (fun n => Eq.refl _)
        obtain ⟨x8, zh14, zh9⟩ := bnd zh9
        have zh14 : f_Integer_bitCount x7 = some x8 := zh14
        have ze15 := R_f_Integer_bitCount_0 (d + 2) Y_2 T H H2 RU RV ST NS I0 I1 I2 BO_4 FI RG GU PU MA MN MS OT SC 192 256 320 384 w 192 576 640 704 L Lg x7 zh14
        suffices e : Ev (d + 3, 0, 0, 295, 38, [.val (.ref 64), .val (.int p1), .val (.ref 768), .val (.int v5), .val (.int v6)], [.int x8, .int v5], (126, 120, L, [Y_2, T, H, H2, RU, RV, ST, NS, I0, I1, I2, BO_4, FI, RG, GU, PU, MA, MN, MS, OT, SC], [192, 256, 320, 384, w, 192, 576, 640, 704], Lg)) o from ev_call (fun v μ => (d + 3, 0, 0, 295, 38, [.val (.ref 64), .val (.int p1), .val (.ref 768), .val (.int v5), .val (.int v6)], v.toList ++ [.int v5], μ)) 1 ze15 e (fun n => Eq.refl _)
        exact ev_b 4 (zi7 _ (Option.some.inj zh9).symm ()) (fun n => Eq.refl _)
    · skip
      intro s10
      have ze16 := Option.some.inj h
      subst ze16
      exact ev_rete 2 ho (fun n => Eq.refl _)
  | succ q1 =>
    have h := itn h (Nat.succ_ne_zero q1)
    have ze17 := Option.some.inj h
    subst ze17
    subst ho
    exact ev_thr (fun v μ => (d + 3, 0, 0, 295, 5, [.val (.ref 64), .val (.int p1), .val a_unk, .val a_unk, .val a_unk], v.toList ++ [], μ)) 3 ze2 (fun n => Eq.refl _) (fun n => rfl)
set_option maxRecDepth 1000000 in
set_option maxHeartbeats 4000000 in
theorem R_f_Y_free_1 (d : Nat) (Y T H H2 RV RU ST NS I0 I1 I2 BO FI RG GU PU MA MN MS OT SC : Nat → Nat → Int32) (w r5 : Nat) (L : Nat) (Lg : Int64) (p1 : Int32) {r : Nat × Int32 × (Nat → Nat → Int32) × (Nat → Nat → Int32) × Nat} (h : f_Y_free Y H NS BO 192 r5 p1 = some r) : Ev (d + 3, 1, 8, 295, 0, [.val (.ref 64), .val (.int p1), .val a_unk, .val a_unk, .val a_unk], [], (126, 120, L, [Y, T, H, H2, RV, RU, ST, NS, I0, I1, I2, BO, FI, RG, GU, PU, MA, MN, MS, OT, SC], [192, 256, 384, 320, w, r5, 576, 640, 704], Lg)) ((r.1, a_ov r.1 (.int r.2.1), (126, 120, L, [r.2.2.1, T, H, H2, RV, RU, ST, NS, I0, I1, I2, r.2.2.2.1, FI, RG, GU, PU, MA, MN, MS, OT, SC], [192, 256, 384, 320, w, r.2.2.2.2, 576, 640, 704], Lg)) : AOut) := by
  suffices key : ∀ o : AOut, ((r.1, a_ov r.1 (.int r.2.1), (126, 120, L, [r.2.2.1, T, H, H2, RV, RU, ST, NS, I0, I1, I2, r.2.2.2.1, FI, RG, GU, PU, MA, MN, MS, OT, SC], [192, 256, 384, 320, w, r.2.2.2.2, 576, 640, 704], Lg)) : AOut) = o → Ev (d + 3, 1, 8, 295, 0, [.val (.ref 64), .val (.int p1), .val a_unk, .val a_unk, .val a_unk], [], (126, 120, L, [Y, T, H, H2, RV, RU, ST, NS, I0, I1, I2, BO, FI, RG, GU, PU, MA, MN, MS, OT, SC], [192, 256, 384, 320, w, r5, 576, 640, 704], Lg)) o from key _ rfl
  intro o ho
  obtain ⟨⟨q1, Y_2⟩, zh1, h⟩ := bnd h
  have zh1 : f_Y_needMeeting Y H p1 = some (q1, Y_2) := zh1
  have ze2 := R_f_Y_needMeeting_1 (d + 1) Y T H H2 RV RU ST NS I0 I1 I2 BO FI RG GU PU MA MN MS OT SC w r5 L Lg p1 zh1
  cases q1 with
  | zero =>
    have h := itp h rfl
    suffices e : Ev (d + 3, 0, 0, 295, 5, [.val (.ref 64), .val (.int p1), .val a_unk, .val a_unk, .val a_unk], [], (126, 120, L, [Y_2, T, H, H2, RV, RU, ST, NS, I0, I1, I2, BO, FI, RG, GU, PU, MA, MN, MS, OT, SC], [192, 256, 384, 320, w, r5, 576, 640, 704], Lg)) o from ev_call (fun v μ => (d + 3, 0, 0, 295, 5, [.val (.ref 64), .val (.int p1), .val a_unk, .val a_unk, .val a_unk], v.toList ++ [], μ)) 3 ze2 e (fun n => Eq.refl _)
    obtain ⟨BO_4, zh3, h⟩ := bnd h
    have zh3 : f_Y_lookNow H NS BO = some BO_4 := zh3
    have ze4 := R_f_Y_lookNow_1 (d + 0) Y_2 T H H2 RV RU ST NS I0 I1 I2 BO FI RG GU PU MA MN MS OT SC w r5 L Lg zh3
    suffices e : Ev (d + 3, 0, 0, 295, 9, [.val (.ref 64), .val (.int p1), .val a_unk, .val a_unk, .val a_unk], [.ref 768], (126, 120, L, [Y_2, T, H, H2, RV, RU, ST, NS, I0, I1, I2, BO_4, FI, RG, GU, PU, MA, MN, MS, OT, SC], [192, 256, 384, 320, w, 192, 576, 640, 704], Lg)) o from ev_call (fun v μ => (d + 3, 0, 0, 295, 9, [.val (.ref 64), .val (.int p1), .val a_unk, .val a_unk, .val a_unk], v.toList ++ [], μ)) 2 ze4 e (fun n => Eq.refl _)
    obtain ⟨v9, zh6, h⟩ := bnd h
    suffices e : Ev (d + 3, 0, 0, 295, 15, [.val (.ref 64), .val (.int p1), .val (.ref 768), .val (.int 0), .val (.int 0)], [], (126, 120, L, [Y_2, T, H, H2, RV, RU, ST, NS, I0, I1, I2, BO_4, FI, RG, GU, PU, MA, MN, MS, OT, SC], [192, 256, 384, 320, w, 192, 576, 640, 704], Lg)) o from ev_b 5 e (fun n => Eq.refl _)
    refine ev_loop (δ := Unit) (fun a j => (d + 3, 0, 0, 295, 15, [.val (.ref 64), .val (.int p1), .val (.ref 768), .val (.int a.1), .val (.int a.2)], [], (126, 120, L, [Y_2, T, H, H2, RV, RU, ST, NS, I0, I1, I2, BO_4, FI, RG, GU, PU, MA, MN, MS, OT, SC], [192, 256, 384, 320, w, 192, 576, 640, 704], Lg))) (fun b => ∀ s10 : Value, Ev (d + 3, 0, 0, 295, 46, [.val (.ref 64), .val (.int p1), .val (.ref 768), .val (.int b), .val s10], [], (126, 120, L, [Y_2, T, H, H2, RV, RU, ST, NS, I0, I1, I2, BO_4, FI, RG, GU, PU, MA, MN, MS, OT, SC], [192, 256, 384, 320, w, 192, 576, 640, 704], Lg)) o) ?_ a_F (0, 0) v9 zh6 ?_ ()
    · rintro ⟨v5, v6⟩ zr10 zh9 zi7 zx8 ⟨⟩
      have zh9 : f_Y_free_l15 H BO_4 p1 v5 v6 = some zr10 := zh9
      suffices e : Ev (d + 3, 0, 0, 295, 21, [.val (.ref 64), .val (.int p1), .val (.ref 768), .val (.int v5), .val (.int v6)], [.ref 192, .int v6], (126, 120, L, [Y_2, T, H, H2, RV, RU, ST, NS, I0, I1, I2, BO_4, FI, RG, GU, PU, MA, MN, MS, OT, SC], [192, 256, 384, 320, w, 192, 576, 640, 704], Lg)) o from ev_b 3 e (fun n => Eq.refl _)
      by_cases zc11 : (H 0 1) ≤ v6
      · have zh9 := itp zh9 zc11
        suffices e : Ev (d + 3, 0, 0, 295, 46, [.val (.ref 64), .val (.int p1), .val (.ref 768), .val (.int v5), .val (.int v6)], [], (126, 120, L, [Y_2, T, H, H2, RV, RU, ST, NS, I0, I1, I2, BO_4, FI, RG, GU, PU, MA, MN, MS, OT, SC], [192, 256, 384, 320, w, 192, 576, 640, 704], Lg)) o from ev_t (c := (H 0 1) ≤ v6) _ _ 2  zc11 e (fun n => Eq.refl _)
        exact ev_b 0 (zx8 _ (Option.some.inj zh9).symm (.int v6)) (fun n => Eq.refl _)
      · have zh9 := itn zh9 zc11
        suffices e : Ev (d + 3, 0, 0, 295, 27, [.val (.ref 64), .val (.int p1), .val (.ref 768), .val (.int v5), .val (.int v6)], [], (126, 120, L, [Y_2, T, H, H2, RV, RU, ST, NS, I0, I1, I2, BO_4, FI, RG, GU, PU, MA, MN, MS, OT, SC], [192, 256, 384, 320, w, 192, 576, 640, 704], Lg)) o from ev_f (c := (H 0 1) ≤ v6) _ _ 2  zc11 e (fun n => Eq.refl _)
        obtain ⟨x7, zh12, zh9⟩ := bnd zh9
        have zh12 : f_Board_openHours H BO_4 p1 v6 = some x7 := zh12
        have ze13 := R_f_Board_openHours_0 (d + 1) Y_2 T H H2 RV RU ST NS I0 I1 I2 BO_4 FI RG GU PU MA MN MS OT SC 192 256 384 320 w 576 640 704 L Lg p1 v6 zh12
        suffices e : Ev (d + 3, 0, 0, 295, 35, [.val (.ref 64), .val (.int p1), .val (.ref 768), .val (.int v5), .val (.int v6)], [.int x7, .int v5], (126, 120, L, [Y_2, T, H, H2, RV, RU, ST, NS, I0, I1, I2, BO_4, FI, RG, GU, PU, MA, MN, MS, OT, SC], [192, 256, 384, 320, w, 192, 576, 640, 704], Lg)) o from ev_call (fun v μ => (d + 3, 0, 0, 295, 35, [.val (.ref 64), .val (.int p1), .val (.ref 768), .val (.int v5), .val (.int v6)], v.toList ++ [.int v5], μ)) 5 ze13 e (fun n => Eq.refl _)
        obtain ⟨x8, zh14, zh9⟩ := bnd zh9
        have zh14 : f_Integer_bitCount x7 = some x8 := zh14
        have ze15 := R_f_Integer_bitCount_0 (d + 2) Y_2 T H H2 RV RU ST NS I0 I1 I2 BO_4 FI RG GU PU MA MN MS OT SC 192 256 384 320 w 192 576 640 704 L Lg x7 zh14
        suffices e : Ev (d + 3, 0, 0, 295, 38, [.val (.ref 64), .val (.int p1), .val (.ref 768), .val (.int v5), .val (.int v6)], [.int x8, .int v5], (126, 120, L, [Y_2, T, H, H2, RV, RU, ST, NS, I0, I1, I2, BO_4, FI, RG, GU, PU, MA, MN, MS, OT, SC], [192, 256, 384, 320, w, 192, 576, 640, 704], Lg)) o from ev_call (fun v μ => (d + 3, 0, 0, 295, 38, [.val (.ref 64), .val (.int p1), .val (.ref 768), .val (.int v5), .val (.int v6)], v.toList ++ [.int v5], μ)) 1 ze15 e (fun n => Eq.refl _)
        exact ev_b 4 (zi7 _ (Option.some.inj zh9).symm ()) (fun n => Eq.refl _)
    · skip
      intro s10
      have ze16 := Option.some.inj h
      subst ze16
      exact ev_rete 2 ho (fun n => Eq.refl _)
  | succ q1 =>
    have h := itn h (Nat.succ_ne_zero q1)
    have ze17 := Option.some.inj h
    subst ze17
    subst ho
    exact ev_thr (fun v μ => (d + 3, 0, 0, 295, 5, [.val (.ref 64), .val (.int p1), .val a_unk, .val a_unk, .val a_unk], v.toList ++ [], μ)) 3 ze2 (fun n => Eq.refl _) (fun n => rfl)
set_option maxRecDepth 1000000 in
set_option maxHeartbeats 4000000 in
theorem R_f_Y_free_2 (d : Nat) (Y T H2 H RU RV ST NS I0 I1 I2 BO FI RG GU PU MA MN MS OT SC : Nat → Nat → Int32) (w r5 : Nat) (L : Nat) (Lg : Int64) (p1 : Int32) {r : Nat × Int32 × (Nat → Nat → Int32) × (Nat → Nat → Int32) × Nat} (h : f_Y_free Y H NS BO 256 r5 p1 = some r) : Ev (d + 3, 1, 8, 295, 0, [.val (.ref 64), .val (.int p1), .val a_unk, .val a_unk, .val a_unk], [], (126, 120, L, [Y, T, H2, H, RU, RV, ST, NS, I0, I1, I2, BO, FI, RG, GU, PU, MA, MN, MS, OT, SC], [256, 192, 320, 384, w, r5, 576, 640, 704], Lg)) ((r.1, a_ov r.1 (.int r.2.1), (126, 120, L, [r.2.2.1, T, H2, H, RU, RV, ST, NS, I0, I1, I2, r.2.2.2.1, FI, RG, GU, PU, MA, MN, MS, OT, SC], [256, 192, 320, 384, w, r.2.2.2.2, 576, 640, 704], Lg)) : AOut) := by
  suffices key : ∀ o : AOut, ((r.1, a_ov r.1 (.int r.2.1), (126, 120, L, [r.2.2.1, T, H2, H, RU, RV, ST, NS, I0, I1, I2, r.2.2.2.1, FI, RG, GU, PU, MA, MN, MS, OT, SC], [256, 192, 320, 384, w, r.2.2.2.2, 576, 640, 704], Lg)) : AOut) = o → Ev (d + 3, 1, 8, 295, 0, [.val (.ref 64), .val (.int p1), .val a_unk, .val a_unk, .val a_unk], [], (126, 120, L, [Y, T, H2, H, RU, RV, ST, NS, I0, I1, I2, BO, FI, RG, GU, PU, MA, MN, MS, OT, SC], [256, 192, 320, 384, w, r5, 576, 640, 704], Lg)) o from key _ rfl
  intro o ho
  obtain ⟨⟨q1, Y_2⟩, zh1, h⟩ := bnd h
  have zh1 : f_Y_needMeeting Y H p1 = some (q1, Y_2) := zh1
  have ze2 := R_f_Y_needMeeting_2 (d + 1) Y T H2 H RU RV ST NS I0 I1 I2 BO FI RG GU PU MA MN MS OT SC w r5 L Lg p1 zh1
  cases q1 with
  | zero =>
    have h := itp h rfl
    suffices e : Ev (d + 3, 0, 0, 295, 5, [.val (.ref 64), .val (.int p1), .val a_unk, .val a_unk, .val a_unk], [], (126, 120, L, [Y_2, T, H2, H, RU, RV, ST, NS, I0, I1, I2, BO, FI, RG, GU, PU, MA, MN, MS, OT, SC], [256, 192, 320, 384, w, r5, 576, 640, 704], Lg)) o from ev_call (fun v μ => (d + 3, 0, 0, 295, 5, [.val (.ref 64), .val (.int p1), .val a_unk, .val a_unk, .val a_unk], v.toList ++ [], μ)) 3 ze2 e (fun n => Eq.refl _)
    obtain ⟨BO_4, zh3, h⟩ := bnd h
    have zh3 : f_Y_lookNow H NS BO = some BO_4 := zh3
    have ze4 := R_f_Y_lookNow_2 (d + 0) Y_2 T H2 H RU RV ST NS I0 I1 I2 BO FI RG GU PU MA MN MS OT SC w r5 L Lg zh3
    suffices e : Ev (d + 3, 0, 0, 295, 9, [.val (.ref 64), .val (.int p1), .val a_unk, .val a_unk, .val a_unk], [.ref 768], (126, 120, L, [Y_2, T, H2, H, RU, RV, ST, NS, I0, I1, I2, BO_4, FI, RG, GU, PU, MA, MN, MS, OT, SC], [256, 192, 320, 384, w, 256, 576, 640, 704], Lg)) o from ev_call (fun v μ => (d + 3, 0, 0, 295, 9, [.val (.ref 64), .val (.int p1), .val a_unk, .val a_unk, .val a_unk], v.toList ++ [], μ)) 2 ze4 e (fun n => Eq.refl _)
    obtain ⟨v9, zh6, h⟩ := bnd h
    suffices e : Ev (d + 3, 0, 0, 295, 15, [.val (.ref 64), .val (.int p1), .val (.ref 768), .val (.int 0), .val (.int 0)], [], (126, 120, L, [Y_2, T, H2, H, RU, RV, ST, NS, I0, I1, I2, BO_4, FI, RG, GU, PU, MA, MN, MS, OT, SC], [256, 192, 320, 384, w, 256, 576, 640, 704], Lg)) o from ev_b 5 e (fun n => Eq.refl _)
    refine ev_loop (δ := Unit) (fun a j => (d + 3, 0, 0, 295, 15, [.val (.ref 64), .val (.int p1), .val (.ref 768), .val (.int a.1), .val (.int a.2)], [], (126, 120, L, [Y_2, T, H2, H, RU, RV, ST, NS, I0, I1, I2, BO_4, FI, RG, GU, PU, MA, MN, MS, OT, SC], [256, 192, 320, 384, w, 256, 576, 640, 704], Lg))) (fun b => ∀ s10 : Value, Ev (d + 3, 0, 0, 295, 46, [.val (.ref 64), .val (.int p1), .val (.ref 768), .val (.int b), .val s10], [], (126, 120, L, [Y_2, T, H2, H, RU, RV, ST, NS, I0, I1, I2, BO_4, FI, RG, GU, PU, MA, MN, MS, OT, SC], [256, 192, 320, 384, w, 256, 576, 640, 704], Lg)) o) ?_ a_F (0, 0) v9 zh6 ?_ ()
    · rintro ⟨v5, v6⟩ zr10 zh9 zi7 zx8 ⟨⟩
      have zh9 : f_Y_free_l15 H BO_4 p1 v5 v6 = some zr10 := zh9
      suffices e : Ev (d + 3, 0, 0, 295, 21, [.val (.ref 64), .val (.int p1), .val (.ref 768), .val (.int v5), .val (.int v6)], [.ref 256, .int v6], (126, 120, L, [Y_2, T, H2, H, RU, RV, ST, NS, I0, I1, I2, BO_4, FI, RG, GU, PU, MA, MN, MS, OT, SC], [256, 192, 320, 384, w, 256, 576, 640, 704], Lg)) o from ev_b 3 e (fun n => Eq.refl _)
      by_cases zc11 : (H 0 1) ≤ v6
      · have zh9 := itp zh9 zc11
        suffices e : Ev (d + 3, 0, 0, 295, 46, [.val (.ref 64), .val (.int p1), .val (.ref 768), .val (.int v5), .val (.int v6)], [], (126, 120, L, [Y_2, T, H2, H, RU, RV, ST, NS, I0, I1, I2, BO_4, FI, RG, GU, PU, MA, MN, MS, OT, SC], [256, 192, 320, 384, w, 256, 576, 640, 704], Lg)) o from ev_t (c := (H 0 1) ≤ v6) _ _ 2  zc11 e (fun n => Eq.refl _)
        exact ev_b 0 (zx8 _ (Option.some.inj zh9).symm (.int v6)) (fun n => Eq.refl _)
      · have zh9 := itn zh9 zc11
        suffices e : Ev (d + 3, 0, 0, 295, 27, [.val (.ref 64), .val (.int p1), .val (.ref 768), .val (.int v5), .val (.int v6)], [], (126, 120, L, [Y_2, T, H2, H, RU, RV, ST, NS, I0, I1, I2, BO_4, FI, RG, GU, PU, MA, MN, MS, OT, SC], [256, 192, 320, 384, w, 256, 576, 640, 704], Lg)) o from ev_f (c := (H 0 1) ≤ v6) _ _ 2  zc11 e (fun n => Eq.refl _)
        obtain ⟨x7, zh12, zh9⟩ := bnd zh9
        have zh12 : f_Board_openHours H BO_4 p1 v6 = some x7 := zh12
        have ze13 := R_f_Board_openHours_1 (d + 1) Y_2 T H2 H RU RV ST NS I0 I1 I2 BO_4 FI RG GU PU MA MN MS OT SC 256 192 320 384 w 576 640 704 L Lg p1 v6 zh12
        suffices e : Ev (d + 3, 0, 0, 295, 35, [.val (.ref 64), .val (.int p1), .val (.ref 768), .val (.int v5), .val (.int v6)], [.int x7, .int v5], (126, 120, L, [Y_2, T, H2, H, RU, RV, ST, NS, I0, I1, I2, BO_4, FI, RG, GU, PU, MA, MN, MS, OT, SC], [256, 192, 320, 384, w, 256, 576, 640, 704], Lg)) o from ev_call (fun v μ => (d + 3, 0, 0, 295, 35, [.val (.ref 64), .val (.int p1), .val (.ref 768), .val (.int v5), .val (.int v6)], v.toList ++ [.int v5], μ)) 5 ze13 e (fun n => Eq.refl _)
        obtain ⟨x8, zh14, zh9⟩ := bnd zh9
        have zh14 : f_Integer_bitCount x7 = some x8 := zh14
        have ze15 := R_f_Integer_bitCount_0 (d + 2) Y_2 T H2 H RU RV ST NS I0 I1 I2 BO_4 FI RG GU PU MA MN MS OT SC 256 192 320 384 w 256 576 640 704 L Lg x7 zh14
        suffices e : Ev (d + 3, 0, 0, 295, 38, [.val (.ref 64), .val (.int p1), .val (.ref 768), .val (.int v5), .val (.int v6)], [.int x8, .int v5], (126, 120, L, [Y_2, T, H2, H, RU, RV, ST, NS, I0, I1, I2, BO_4, FI, RG, GU, PU, MA, MN, MS, OT, SC], [256, 192, 320, 384, w, 256, 576, 640, 704], Lg)) o from ev_call (fun v μ => (d + 3, 0, 0, 295, 38, [.val (.ref 64), .val (.int p1), .val (.ref 768), .val (.int v5), .val (.int v6)], v.toList ++ [.int v5], μ)) 1 ze15 e (fun n => Eq.refl _)
        exact ev_b 4 (zi7 _ (Option.some.inj zh9).symm ()) (fun n => Eq.refl _)
    · skip
      intro s10
      have ze16 := Option.some.inj h
      subst ze16
      exact ev_rete 2 ho (fun n => Eq.refl _)
  | succ q1 =>
    have h := itn h (Nat.succ_ne_zero q1)
    have ze17 := Option.some.inj h
    subst ze17
    subst ho
    exact ev_thr (fun v μ => (d + 3, 0, 0, 295, 5, [.val (.ref 64), .val (.int p1), .val a_unk, .val a_unk, .val a_unk], v.toList ++ [], μ)) 3 ze2 (fun n => Eq.refl _) (fun n => rfl)
set_option maxRecDepth 1000000 in
set_option maxHeartbeats 4000000 in
theorem R_f_Y_free_3 (d : Nat) (Y T H2 H RV RU ST NS I0 I1 I2 BO FI RG GU PU MA MN MS OT SC : Nat → Nat → Int32) (w r5 : Nat) (L : Nat) (Lg : Int64) (p1 : Int32) {r : Nat × Int32 × (Nat → Nat → Int32) × (Nat → Nat → Int32) × Nat} (h : f_Y_free Y H NS BO 256 r5 p1 = some r) : Ev (d + 3, 1, 8, 295, 0, [.val (.ref 64), .val (.int p1), .val a_unk, .val a_unk, .val a_unk], [], (126, 120, L, [Y, T, H2, H, RV, RU, ST, NS, I0, I1, I2, BO, FI, RG, GU, PU, MA, MN, MS, OT, SC], [256, 192, 384, 320, w, r5, 576, 640, 704], Lg)) ((r.1, a_ov r.1 (.int r.2.1), (126, 120, L, [r.2.2.1, T, H2, H, RV, RU, ST, NS, I0, I1, I2, r.2.2.2.1, FI, RG, GU, PU, MA, MN, MS, OT, SC], [256, 192, 384, 320, w, r.2.2.2.2, 576, 640, 704], Lg)) : AOut) := by
  suffices key : ∀ o : AOut, ((r.1, a_ov r.1 (.int r.2.1), (126, 120, L, [r.2.2.1, T, H2, H, RV, RU, ST, NS, I0, I1, I2, r.2.2.2.1, FI, RG, GU, PU, MA, MN, MS, OT, SC], [256, 192, 384, 320, w, r.2.2.2.2, 576, 640, 704], Lg)) : AOut) = o → Ev (d + 3, 1, 8, 295, 0, [.val (.ref 64), .val (.int p1), .val a_unk, .val a_unk, .val a_unk], [], (126, 120, L, [Y, T, H2, H, RV, RU, ST, NS, I0, I1, I2, BO, FI, RG, GU, PU, MA, MN, MS, OT, SC], [256, 192, 384, 320, w, r5, 576, 640, 704], Lg)) o from key _ rfl
  intro o ho
  obtain ⟨⟨q1, Y_2⟩, zh1, h⟩ := bnd h
  have zh1 : f_Y_needMeeting Y H p1 = some (q1, Y_2) := zh1
  have ze2 := R_f_Y_needMeeting_3 (d + 1) Y T H2 H RV RU ST NS I0 I1 I2 BO FI RG GU PU MA MN MS OT SC w r5 L Lg p1 zh1
  cases q1 with
  | zero =>
    have h := itp h rfl
    suffices e : Ev (d + 3, 0, 0, 295, 5, [.val (.ref 64), .val (.int p1), .val a_unk, .val a_unk, .val a_unk], [], (126, 120, L, [Y_2, T, H2, H, RV, RU, ST, NS, I0, I1, I2, BO, FI, RG, GU, PU, MA, MN, MS, OT, SC], [256, 192, 384, 320, w, r5, 576, 640, 704], Lg)) o from ev_call (fun v μ => (d + 3, 0, 0, 295, 5, [.val (.ref 64), .val (.int p1), .val a_unk, .val a_unk, .val a_unk], v.toList ++ [], μ)) 3 ze2 e (fun n => Eq.refl _)
    obtain ⟨BO_4, zh3, h⟩ := bnd h
    have zh3 : f_Y_lookNow H NS BO = some BO_4 := zh3
    have ze4 := R_f_Y_lookNow_3 (d + 0) Y_2 T H2 H RV RU ST NS I0 I1 I2 BO FI RG GU PU MA MN MS OT SC w r5 L Lg zh3
    suffices e : Ev (d + 3, 0, 0, 295, 9, [.val (.ref 64), .val (.int p1), .val a_unk, .val a_unk, .val a_unk], [.ref 768], (126, 120, L, [Y_2, T, H2, H, RV, RU, ST, NS, I0, I1, I2, BO_4, FI, RG, GU, PU, MA, MN, MS, OT, SC], [256, 192, 384, 320, w, 256, 576, 640, 704], Lg)) o from ev_call (fun v μ => (d + 3, 0, 0, 295, 9, [.val (.ref 64), .val (.int p1), .val a_unk, .val a_unk, .val a_unk], v.toList ++ [], μ)) 2 ze4 e (fun n => Eq.refl _)
    obtain ⟨v9, zh6, h⟩ := bnd h
    suffices e : Ev (d + 3, 0, 0, 295, 15, [.val (.ref 64), .val (.int p1), .val (.ref 768), .val (.int 0), .val (.int 0)], [], (126, 120, L, [Y_2, T, H2, H, RV, RU, ST, NS, I0, I1, I2, BO_4, FI, RG, GU, PU, MA, MN, MS, OT, SC], [256, 192, 384, 320, w, 256, 576, 640, 704], Lg)) o from ev_b 5 e (fun n => Eq.refl _)
    refine ev_loop (δ := Unit) (fun a j => (d + 3, 0, 0, 295, 15, [.val (.ref 64), .val (.int p1), .val (.ref 768), .val (.int a.1), .val (.int a.2)], [], (126, 120, L, [Y_2, T, H2, H, RV, RU, ST, NS, I0, I1, I2, BO_4, FI, RG, GU, PU, MA, MN, MS, OT, SC], [256, 192, 384, 320, w, 256, 576, 640, 704], Lg))) (fun b => ∀ s10 : Value, Ev (d + 3, 0, 0, 295, 46, [.val (.ref 64), .val (.int p1), .val (.ref 768), .val (.int b), .val s10], [], (126, 120, L, [Y_2, T, H2, H, RV, RU, ST, NS, I0, I1, I2, BO_4, FI, RG, GU, PU, MA, MN, MS, OT, SC], [256, 192, 384, 320, w, 256, 576, 640, 704], Lg)) o) ?_ a_F (0, 0) v9 zh6 ?_ ()
    · rintro ⟨v5, v6⟩ zr10 zh9 zi7 zx8 ⟨⟩
      have zh9 : f_Y_free_l15 H BO_4 p1 v5 v6 = some zr10 := zh9
      suffices e : Ev (d + 3, 0, 0, 295, 21, [.val (.ref 64), .val (.int p1), .val (.ref 768), .val (.int v5), .val (.int v6)], [.ref 256, .int v6], (126, 120, L, [Y_2, T, H2, H, RV, RU, ST, NS, I0, I1, I2, BO_4, FI, RG, GU, PU, MA, MN, MS, OT, SC], [256, 192, 384, 320, w, 256, 576, 640, 704], Lg)) o from ev_b 3 e (fun n => Eq.refl _)
      by_cases zc11 : (H 0 1) ≤ v6
      · have zh9 := itp zh9 zc11
        suffices e : Ev (d + 3, 0, 0, 295, 46, [.val (.ref 64), .val (.int p1), .val (.ref 768), .val (.int v5), .val (.int v6)], [], (126, 120, L, [Y_2, T, H2, H, RV, RU, ST, NS, I0, I1, I2, BO_4, FI, RG, GU, PU, MA, MN, MS, OT, SC], [256, 192, 384, 320, w, 256, 576, 640, 704], Lg)) o from ev_t (c := (H 0 1) ≤ v6) _ _ 2  zc11 e (fun n => Eq.refl _)
        exact ev_b 0 (zx8 _ (Option.some.inj zh9).symm (.int v6)) (fun n => Eq.refl _)
      · have zh9 := itn zh9 zc11
        suffices e : Ev (d + 3, 0, 0, 295, 27, [.val (.ref 64), .val (.int p1), .val (.ref 768), .val (.int v5), .val (.int v6)], [], (126, 120, L, [Y_2, T, H2, H, RV, RU, ST, NS, I0, I1, I2, BO_4, FI, RG, GU, PU, MA, MN, MS, OT, SC], [256, 192, 384, 320, w, 256, 576, 640, 704], Lg)) o from ev_f (c := (H 0 1) ≤ v6) _ _ 2  zc11 e (fun n => Eq.refl _)
        obtain ⟨x7, zh12, zh9⟩ := bnd zh9
        have zh12 : f_Board_openHours H BO_4 p1 v6 = some x7 := zh12
        have ze13 := R_f_Board_openHours_1 (d + 1) Y_2 T H2 H RV RU ST NS I0 I1 I2 BO_4 FI RG GU PU MA MN MS OT SC 256 192 384 320 w 576 640 704 L Lg p1 v6 zh12
        suffices e : Ev (d + 3, 0, 0, 295, 35, [.val (.ref 64), .val (.int p1), .val (.ref 768), .val (.int v5), .val (.int v6)], [.int x7, .int v5], (126, 120, L, [Y_2, T, H2, H, RV, RU, ST, NS, I0, I1, I2, BO_4, FI, RG, GU, PU, MA, MN, MS, OT, SC], [256, 192, 384, 320, w, 256, 576, 640, 704], Lg)) o from ev_call (fun v μ => (d + 3, 0, 0, 295, 35, [.val (.ref 64), .val (.int p1), .val (.ref 768), .val (.int v5), .val (.int v6)], v.toList ++ [.int v5], μ)) 5 ze13 e (fun n => Eq.refl _)
        obtain ⟨x8, zh14, zh9⟩ := bnd zh9
        have zh14 : f_Integer_bitCount x7 = some x8 := zh14
        have ze15 := R_f_Integer_bitCount_0 (d + 2) Y_2 T H2 H RV RU ST NS I0 I1 I2 BO_4 FI RG GU PU MA MN MS OT SC 256 192 384 320 w 256 576 640 704 L Lg x7 zh14
        suffices e : Ev (d + 3, 0, 0, 295, 38, [.val (.ref 64), .val (.int p1), .val (.ref 768), .val (.int v5), .val (.int v6)], [.int x8, .int v5], (126, 120, L, [Y_2, T, H2, H, RV, RU, ST, NS, I0, I1, I2, BO_4, FI, RG, GU, PU, MA, MN, MS, OT, SC], [256, 192, 384, 320, w, 256, 576, 640, 704], Lg)) o from ev_call (fun v μ => (d + 3, 0, 0, 295, 38, [.val (.ref 64), .val (.int p1), .val (.ref 768), .val (.int v5), .val (.int v6)], v.toList ++ [.int v5], μ)) 1 ze15 e (fun n => Eq.refl _)
        exact ev_b 4 (zi7 _ (Option.some.inj zh9).symm ()) (fun n => Eq.refl _)
    · skip
      intro s10
      have ze16 := Option.some.inj h
      subst ze16
      exact ev_rete 2 ho (fun n => Eq.refl _)
  | succ q1 =>
    have h := itn h (Nat.succ_ne_zero q1)
    have ze17 := Option.some.inj h
    subst ze17
    subst ho
    exact ev_thr (fun v μ => (d + 3, 0, 0, 295, 5, [.val (.ref 64), .val (.int p1), .val a_unk, .val a_unk, .val a_unk], v.toList ++ [], μ)) 3 ze2 (fun n => Eq.refl _) (fun n => rfl)
set_option maxRecDepth 1000000 in
set_option maxHeartbeats 4000000 in
theorem R_f_State_isFull_0 (d : Nat) (Y T HA HB RA RB ST NS I0 I1 I2 BO FI RG GU PU MA MN MS OT SC : Nat → Nat → Int32) (r0 r1 r2 r3 w r5 r6 r7 r8 : Nat) (L : Nat) (Lg : Int64) {r : Int32} (h : f_State_isFull NS = some r) : Ev (d + 0, 0, 0, 260, 0, [.val (.ref 512)], [], (126, 120, L, [Y, T, HA, HB, RA, RB, ST, NS, I0, I1, I2, BO, FI, RG, GU, PU, MA, MN, MS, OT, SC], [r0, r1, r2, r3, w, r5, r6, r7, r8], Lg)) ((0, some (.int r), (126, 120, L, [Y, T, HA, HB, RA, RB, ST, NS, I0, I1, I2, BO, FI, RG, GU, PU, MA, MN, MS, OT, SC], [r0, r1, r2, r3, w, r5, r6, r7, r8], Lg)) : AOut) := by
  suffices key : ∀ o : AOut, ((0, some (.int r), (126, 120, L, [Y, T, HA, HB, RA, RB, ST, NS, I0, I1, I2, BO, FI, RG, GU, PU, MA, MN, MS, OT, SC], [r0, r1, r2, r3, w, r5, r6, r7, r8], Lg)) : AOut) = o → Ev (d + 0, 0, 0, 260, 0, [.val (.ref 512)], [], (126, 120, L, [Y, T, HA, HB, RA, RB, ST, NS, I0, I1, I2, BO, FI, RG, GU, PU, MA, MN, MS, OT, SC], [r0, r1, r2, r3, w, r5, r6, r7, r8], Lg)) o from key _ rfl
  intro o ho
  by_cases zc1 : (NS 0 4) < 30
  · have h := itp h zc1
    suffices e : Ev (d + 0, 0, 0, 260, 13, [.val (.ref 512)], [], (126, 120, L, [Y, T, HA, HB, RA, RB, ST, NS, I0, I1, I2, BO, FI, RG, GU, PU, MA, MN, MS, OT, SC], [r0, r1, r2, r3, w, r5, r6, r7, r8], Lg)) o from ev_t (c := (NS 0 4) < 30) _ _ 4  zc1 e (fun n => Eq.refl _)
    have ze2 := Option.some.inj h
    subst ze2
    exact ev_rete 2 ho (fun n => Eq.refl _)
  · have h := itn h zc1
    suffices e : Ev (d + 0, 0, 0, 260, 9, [.val (.ref 512)], [], (126, 120, L, [Y, T, HA, HB, RA, RB, ST, NS, I0, I1, I2, BO, FI, RG, GU, PU, MA, MN, MS, OT, SC], [r0, r1, r2, r3, w, r5, r6, r7, r8], Lg)) o from ev_f (c := (NS 0 4) < 30) _ _ 4  zc1 e (fun n => Eq.refl _)
    have ze3 := Option.some.inj h
    subst ze3
    exact ev_rete 3 ho (fun n => Eq.refl _)
set_option maxRecDepth 1000000 in
set_option maxHeartbeats 4000000 in
theorem R_f_Board_countMoved_0 (d : Nat) (Y T H H2 RA RB ST NS I0 I1 I2 BO FI RG GU PU MA MN MS OT SC : Nat → Nat → Int32) (r0 r1 r2 r3 w r6 r7 r8 : Nat) (L : Nat) (Lg : Int64) {r : (Nat → Nat → Int32)} (h : f_Board_countMoved H BO (NS 1) = some r) : Ev (d + 0, 0, 0, 158, 0, [.val (.ref 768), .val (.ref 513), .val a_unk], [], (126, 120, L, [Y, T, H, H2, RA, RB, ST, NS, I0, I1, I2, BO, FI, RG, GU, PU, MA, MN, MS, OT, SC], [r0, r1, r2, r3, w, 192, r6, r7, r8], Lg)) ((0, none, (126, 120, L, [Y, T, H, H2, RA, RB, ST, NS, I0, I1, I2, r, FI, RG, GU, PU, MA, MN, MS, OT, SC], [r0, r1, r2, r3, w, 192, r6, r7, r8], Lg)) : AOut) := by
  suffices key : ∀ o : AOut, ((0, none, (126, 120, L, [Y, T, H, H2, RA, RB, ST, NS, I0, I1, I2, r, FI, RG, GU, PU, MA, MN, MS, OT, SC], [r0, r1, r2, r3, w, 192, r6, r7, r8], Lg)) : AOut) = o → Ev (d + 0, 0, 0, 158, 0, [.val (.ref 768), .val (.ref 513), .val a_unk], [], (126, 120, L, [Y, T, H, H2, RA, RB, ST, NS, I0, I1, I2, BO, FI, RG, GU, PU, MA, MN, MS, OT, SC], [r0, r1, r2, r3, w, 192, r6, r7, r8], Lg)) o from key _ rfl
  intro o ho
  obtain ⟨BO_8, zh2, h⟩ := bnd h
  suffices e : Ev (d + 0, 0, 0, 158, 2, [.val (.ref 768), .val (.ref 513), .val (.int 0)], [], (126, 120, L, [Y, T, H, H2, RA, RB, ST, NS, I0, I1, I2, BO, FI, RG, GU, PU, MA, MN, MS, OT, SC], [r0, r1, r2, r3, w, 192, r6, r7, r8], Lg)) o from ev_b 2 e (fun n => Eq.refl _)
  refine ev_loop (δ := Unit) (fun a j => (d + 0, 0, 0, 158, 2, [.val (.ref 768), .val (.ref 513), .val (.int a.1)], [], (126, 120, L, [Y, T, H, H2, RA, RB, ST, NS, I0, I1, I2, a.2, FI, RG, GU, PU, MA, MN, MS, OT, SC], [r0, r1, r2, r3, w, 192, r6, r7, r8], Lg))) (fun b => ∀ s7 : Value, Ev (d + 0, 0, 0, 158, 41, [.val (.ref 768), .val (.ref 513), .val s7], [], (126, 120, L, [Y, T, H, H2, RA, RB, ST, NS, I0, I1, I2, b, FI, RG, GU, PU, MA, MN, MS, OT, SC], [r0, r1, r2, r3, w, 192, r6, r7, r8], Lg)) o) ?_ a_F (0, BO) BO_8 zh2 ?_ ()
  · rintro ⟨v1, BO_2⟩ zr6 zh5 zi3 zx4 ⟨⟩
    have zh5 : f_Board_countMoved_l2 H (NS 1) v1 BO_2 = some zr6 := zh5
    suffices e : Ev (d + 0, 0, 0, 158, 7, [.val (.ref 768), .val (.ref 513), .val (.int v1)], [.ref 192, .int v1], (126, 120, L, [Y, T, H, H2, RA, RB, ST, NS, I0, I1, I2, BO_2, FI, RG, GU, PU, MA, MN, MS, OT, SC], [r0, r1, r2, r3, w, 192, r6, r7, r8], Lg)) o from ev_b 3 e (fun n => Eq.refl _)
    by_cases zc7 : (H 0 3) ≤ v1
    · have zh5 := itp zh5 zc7
      suffices e : Ev (d + 0, 0, 0, 158, 41, [.val (.ref 768), .val (.ref 513), .val (.int v1)], [], (126, 120, L, [Y, T, H, H2, RA, RB, ST, NS, I0, I1, I2, BO_2, FI, RG, GU, PU, MA, MN, MS, OT, SC], [r0, r1, r2, r3, w, 192, r6, r7, r8], Lg)) o from ev_t (c := (H 0 3) ≤ v1) _ _ 2  zc7 e (fun n => Eq.refl _)
      exact ev_b 0 (zx4 _ (Option.some.inj zh5).symm (.int v1)) (fun n => Eq.refl _)
    · have zh5 := itn zh5 zc7
      suffices e : Ev (d + 0, 0, 0, 158, 13, [.val (.ref 768), .val (.ref 513), .val (.int v1)], [], (126, 120, L, [Y, T, H, H2, RA, RB, ST, NS, I0, I1, I2, BO_2, FI, RG, GU, PU, MA, MN, MS, OT, SC], [r0, r1, r2, r3, w, 192, r6, r7, r8], Lg)) o from ev_f (c := (H 0 3) ≤ v1) _ _ 2  zc7 e (fun n => Eq.refl _)
      obtain ⟨x3, zh8, zh5⟩ := bnd zh5
      have zh8 : rdx (BO_2 1) 10 v1 = some x3 := zh8
      suffices e : Ev (d + 0, 0, 0, 158, 19, [.val (.ref 768), .val (.ref 513), .val (.int v1)], [.int x3], (126, 120, L, [Y, T, H, H2, RA, RB, ST, NS, I0, I1, I2, BO_2, FI, RG, GU, PU, MA, MN, MS, OT, SC], [r0, r1, r2, r3, w, 192, r6, r7, r8], Lg)) o from ev_opt (fun x3 => (d + 0, 0, 0, 158, 19, [.val (.ref 768), .val (.ref 513), .val (.int v1)], [.int x3], (126, 120, L, [Y, T, H, H2, RA, RB, ST, NS, I0, I1, I2, BO_2, FI, RG, GU, PU, MA, MN, MS, OT, SC], [r0, r1, r2, r3, w, 192, r6, r7, r8], Lg))) 4 zh8 e (fun n => Eq.refl _)
      obtain ⟨x4, zh9, zh5⟩ := bnd zh5
      have zh9 : rdx (NS 1) 10 v1 = some x4 := zh9
      suffices e : Ev (d + 0, 0, 0, 158, 22, [.val (.ref 768), .val (.ref 513), .val (.int v1)], [.int x4, .int x3], (126, 120, L, [Y, T, H, H2, RA, RB, ST, NS, I0, I1, I2, BO_2, FI, RG, GU, PU, MA, MN, MS, OT, SC], [r0, r1, r2, r3, w, 192, r6, r7, r8], Lg)) o from ev_opt (fun x4 => (d + 0, 0, 0, 158, 22, [.val (.ref 768), .val (.ref 513), .val (.int v1)], [.int x4, .int x3], (126, 120, L, [Y, T, H, H2, RA, RB, ST, NS, I0, I1, I2, BO_2, FI, RG, GU, PU, MA, MN, MS, OT, SC], [r0, r1, r2, r3, w, 192, r6, r7, r8], Lg))) 3 zh9 e (fun n => Eq.refl _)
      by_cases zc10 : x3 = x4
      · have zh5 := itp zh5 zc10
        suffices e : Ev (d + 0, 0, 0, 158, 35, [.val (.ref 768), .val (.ref 513), .val (.int v1)], [], (126, 120, L, [Y, T, H, H2, RA, RB, ST, NS, I0, I1, I2, BO_2, FI, RG, GU, PU, MA, MN, MS, OT, SC], [r0, r1, r2, r3, w, 192, r6, r7, r8], Lg)) o from ev_t (c := x3 = x4) _ _ 1  zc10 e (fun n => Eq.refl _)
        exact ev_b 2 (zi3 _ (Option.some.inj zh5).symm ()) (fun n => Eq.refl _)
      · have zh5 := itn zh5 zc10
        suffices e : Ev (d + 0, 0, 0, 158, 25, [.val (.ref 768), .val (.ref 513), .val (.int v1)], [], (126, 120, L, [Y, T, H, H2, RA, RB, ST, NS, I0, I1, I2, BO_2, FI, RG, GU, PU, MA, MN, MS, OT, SC], [r0, r1, r2, r3, w, 192, r6, r7, r8], Lg)) o from ev_f (c := x3 = x4) _ _ 1  zc10 e (fun n => Eq.refl _)
        obtain ⟨x5, zh11, zh5⟩ := bnd zh5
        have zh11 : rdx (BO_2 2) 10 v1 = some x5 := zh11
        suffices e : Ev (d + 0, 0, 0, 158, 32, [.val (.ref 768), .val (.ref 513), .val (.int v1)], [.int x5, .int v1, .ref 770], (126, 120, L, [Y, T, H, H2, RA, RB, ST, NS, I0, I1, I2, BO_2, FI, RG, GU, PU, MA, MN, MS, OT, SC], [r0, r1, r2, r3, w, 192, r6, r7, r8], Lg)) o from ev_opt (fun x5 => (d + 0, 0, 0, 158, 32, [.val (.ref 768), .val (.ref 513), .val (.int v1)], [.int x5, .int v1, .ref 770], (126, 120, L, [Y, T, H, H2, RA, RB, ST, NS, I0, I1, I2, BO_2, FI, RG, GU, PU, MA, MN, MS, OT, SC], [r0, r1, r2, r3, w, 192, r6, r7, r8], Lg))) 5 zh11 e (fun n => Eq.refl _)
        obtain ⟨j6, zh12, zh5⟩ := bnd zh5
        have zh12 : ixx 10 v1 = some j6 := zh12
        suffices e : Ev (d + 0, 0, 0, 158, 35, [.val (.ref 768), .val (.ref 513), .val (.int v1)], [], (126, 120, L, [Y, T, H, H2, RA, RB, ST, NS, I0, I1, I2, (u2 BO_2 2 j6 (x5 + 1)), FI, RG, GU, PU, MA, MN, MS, OT, SC], [r0, r1, r2, r3, w, 192, r6, r7, r8], Lg)) o from ev_opt (fun j6 => (d + 0, 0, 0, 158, 35, [.val (.ref 768), .val (.ref 513), .val (.int v1)], [], (126, 120, L, [Y, T, H, H2, RA, RB, ST, NS, I0, I1, I2, (u2 BO_2 2 j6 (x5 + 1)), FI, RG, GU, PU, MA, MN, MS, OT, SC], [r0, r1, r2, r3, w, 192, r6, r7, r8], Lg))) 3 zh12 e (fun n => Eq.refl _)
        exact ev_b 2 (zi3 _ (Option.some.inj zh5).symm ()) (fun n => Eq.refl _)
  · skip
    intro s7
    have ze13 := Option.some.inj h
    subst ze13
    exact ev_rete 1 ho (fun n => Eq.refl _)
set_option maxRecDepth 1000000 in
set_option maxHeartbeats 4000000 in
theorem R_f_State_act_0 (d : Nat) (Y T HA HB RA RB ST NS I0 I1 I2 BO FI RG GU PU MA MN MS OT SC : Nat → Nat → Int32) (r0 r1 r2 r3 w r5 r6 r7 r8 : Nat) (L : Nat) (Lg : Int64) {r : (Nat → Nat → Int32)} (h : f_State_act NS BO = some r) : Ev (d + 1, 0, 0, 261, 0, [.val (.ref 512), .val (.ref 768)], [], (126, 120, L, [Y, T, HA, HB, RA, RB, ST, NS, I0, I1, I2, BO, FI, RG, GU, PU, MA, MN, MS, OT, SC], [r0, r1, r2, r3, w, r5, r6, r7, r8], Lg)) ((0, none, (126, 120, L, [Y, T, HA, HB, RA, RB, ST, r, I0, I1, I2, BO, FI, RG, GU, PU, MA, MN, MS, OT, SC], [r0, r1, r2, r3, w, r5, r6, r7, r8], Lg)) : AOut) := by
  suffices key : ∀ o : AOut, ((0, none, (126, 120, L, [Y, T, HA, HB, RA, RB, ST, r, I0, I1, I2, BO, FI, RG, GU, PU, MA, MN, MS, OT, SC], [r0, r1, r2, r3, w, r5, r6, r7, r8], Lg)) : AOut) = o → Ev (d + 1, 0, 0, 261, 0, [.val (.ref 512), .val (.ref 768)], [], (126, 120, L, [Y, T, HA, HB, RA, RB, ST, NS, I0, I1, I2, BO, FI, RG, GU, PU, MA, MN, MS, OT, SC], [r0, r1, r2, r3, w, r5, r6, r7, r8], Lg)) o from key _ rfl
  intro o ho
  obtain ⟨x1, zh1, h⟩ := bnd h
  have zh1 : f_State_isFull NS = some x1 := zh1
  have ze2 := R_f_State_isFull_0 (d + 0) Y T HA HB RA RB ST NS I0 I1 I2 BO FI RG GU PU MA MN MS OT SC r0 r1 r2 r3 w r5 r6 r7 r8 L Lg zh1
  suffices e : Ev (d + 1, 0, 0, 261, 4, [.val (.ref 512), .val (.ref 768)], [.int x1], (126, 120, L, [Y, T, HA, HB, RA, RB, ST, NS, I0, I1, I2, BO, FI, RG, GU, PU, MA, MN, MS, OT, SC], [r0, r1, r2, r3, w, r5, r6, r7, r8], Lg)) o from ev_call (fun v μ => (d + 1, 0, 0, 261, 4, [.val (.ref 512), .val (.ref 768)], v.toList ++ [], μ)) 2 ze2 e (fun n => Eq.refl _)
  by_cases zc3 : x1 = 0
  · have h := itp h zc3
    suffices e : Ev (d + 1, 0, 0, 261, 8, [.val (.ref 512), .val (.ref 768)], [], (126, 120, L, [Y, T, HA, HB, RA, RB, ST, NS, I0, I1, I2, BO, FI, RG, GU, PU, MA, MN, MS, OT, SC], [r0, r1, r2, r3, w, r5, r6, r7, r8], Lg)) o from ev_t (c := x1 = 0) _ _ 1  zc3 e (fun n => Eq.refl _)
    by_cases zc4 : ((0 : Int32) < 0 ∨ (((NS 0 4) * 10) : Int32) < 0 ∨ (10 : Int32) < 0 ∨ 10 < (0 : Int32).toNatClampNeg + (10 : Int32).toNatClampNeg ∨ 300 < (((NS 0 4) * 10) : Int32).toNatClampNeg + (10 : Int32).toNatClampNeg)
    · exact nos (itp h zc4)
    have h := itn h zc4
    suffices e : Ev (d + 1, 0, 0, 261, 29, [.val (.ref 512), .val (.ref 768)], [], (126, 120, L, [Y, T, HA, HB, RA, RB, ST, (u1 NS 6 (a_cpy (NS 1) (NS 6) (0 : Int32).toNatClampNeg (((NS 0 4) * 10) : Int32).toNatClampNeg (10 : Int32).toNatClampNeg)), I0, I1, I2, BO, FI, RG, GU, PU, MA, MN, MS, OT, SC], [r0, r1, r2, r3, w, r5, r6, r7, r8], Lg)) o from ev_d (c := ((0 : Int32) < 0 ∨ (((NS 0 4) * 10) : Int32) < 0 ∨ (10 : Int32) < 0 ∨ 10 < (0 : Int32).toNatClampNeg + (10 : Int32).toNatClampNeg ∨ 300 < (((NS 0 4) * 10) : Int32).toNatClampNeg + (10 : Int32).toNatClampNeg)) _ 11 zc4 e (fun n => Eq.refl _)
    by_cases zc5 : ((0 : Int32) < 0 ∨ (((u1 NS 6 (a_cpy (NS 1) (NS 6) (0 : Int32).toNatClampNeg (((NS 0 4) * 10) : Int32).toNatClampNeg (10 : Int32).toNatClampNeg)) 0 4) * 10) < 0 ∨ (10 : Int32) < 0 ∨ 10 < (0 : Int32).toNatClampNeg + (10 : Int32).toNatClampNeg ∨ 300 < (((u1 NS 6 (a_cpy (NS 1) (NS 6) (0 : Int32).toNatClampNeg (((NS 0 4) * 10) : Int32).toNatClampNeg (10 : Int32).toNatClampNeg)) 0 4) * 10).toNatClampNeg + (10 : Int32).toNatClampNeg)
    · exact nos (itp h zc5)
    have h := itn h zc5
    suffices e : Ev (d + 1, 0, 0, 261, 50, [.val (.ref 512), .val (.ref 768)], [], (126, 120, L, [Y, T, HA, HB, RA, RB, ST, (u1 (u1 NS 6 (a_cpy (NS 1) (NS 6) (0 : Int32).toNatClampNeg (((NS 0 4) * 10) : Int32).toNatClampNeg (10 : Int32).toNatClampNeg)) 7 (a_cpy ((u1 NS 6 (a_cpy (NS 1) (NS 6) (0 : Int32).toNatClampNeg (((NS 0 4) * 10) : Int32).toNatClampNeg (10 : Int32).toNatClampNeg)) 2) ((u1 NS 6 (a_cpy (NS 1) (NS 6) (0 : Int32).toNatClampNeg (((NS 0 4) * 10) : Int32).toNatClampNeg (10 : Int32).toNatClampNeg)) 7) (0 : Int32).toNatClampNeg (((u1 NS 6 (a_cpy (NS 1) (NS 6) (0 : Int32).toNatClampNeg (((NS 0 4) * 10) : Int32).toNatClampNeg (10 : Int32).toNatClampNeg)) 0 4) * 10).toNatClampNeg (10 : Int32).toNatClampNeg)), I0, I1, I2, BO, FI, RG, GU, PU, MA, MN, MS, OT, SC], [r0, r1, r2, r3, w, r5, r6, r7, r8], Lg)) o from ev_d (c := ((0 : Int32) < 0 ∨ (((u1 NS 6 (a_cpy (NS 1) (NS 6) (0 : Int32).toNatClampNeg (((NS 0 4) * 10) : Int32).toNatClampNeg (10 : Int32).toNatClampNeg)) 0 4) * 10) < 0 ∨ (10 : Int32) < 0 ∨ 10 < (0 : Int32).toNatClampNeg + (10 : Int32).toNatClampNeg ∨ 300 < (((u1 NS 6 (a_cpy (NS 1) (NS 6) (0 : Int32).toNatClampNeg (((NS 0 4) * 10) : Int32).toNatClampNeg (10 : Int32).toNatClampNeg)) 0 4) * 10).toNatClampNeg + (10 : Int32).toNatClampNeg)) _ 11 zc5 e (fun n => Eq.refl _)
    by_cases zc6 : ((0 : Int32) < 0 ∨ (0 : Int32) < 0 ∨ (10 : Int32) < 0 ∨ 10 < (0 : Int32).toNatClampNeg + (10 : Int32).toNatClampNeg ∨ 10 < (0 : Int32).toNatClampNeg + (10 : Int32).toNatClampNeg)
    · exact nos (itp h zc6)
    have h := itn h zc6
    suffices e : Ev (d + 1, 0, 0, 261, 75, [.val (.ref 512), .val (.ref 768)], [], (126, 120, L, [Y, T, HA, HB, RA, RB, ST, (u1 (u2 (u1 (u1 NS 6 (a_cpy (NS 1) (NS 6) (0 : Int32).toNatClampNeg (((NS 0 4) * 10) : Int32).toNatClampNeg (10 : Int32).toNatClampNeg)) 7 (a_cpy ((u1 NS 6 (a_cpy (NS 1) (NS 6) (0 : Int32).toNatClampNeg (((NS 0 4) * 10) : Int32).toNatClampNeg (10 : Int32).toNatClampNeg)) 2) ((u1 NS 6 (a_cpy (NS 1) (NS 6) (0 : Int32).toNatClampNeg (((NS 0 4) * 10) : Int32).toNatClampNeg (10 : Int32).toNatClampNeg)) 7) (0 : Int32).toNatClampNeg (((u1 NS 6 (a_cpy (NS 1) (NS 6) (0 : Int32).toNatClampNeg (((NS 0 4) * 10) : Int32).toNatClampNeg (10 : Int32).toNatClampNeg)) 0 4) * 10).toNatClampNeg (10 : Int32).toNatClampNeg)) 0 4 (((u1 (u1 NS 6 (a_cpy (NS 1) (NS 6) (0 : Int32).toNatClampNeg (((NS 0 4) * 10) : Int32).toNatClampNeg (10 : Int32).toNatClampNeg)) 7 (a_cpy ((u1 NS 6 (a_cpy (NS 1) (NS 6) (0 : Int32).toNatClampNeg (((NS 0 4) * 10) : Int32).toNatClampNeg (10 : Int32).toNatClampNeg)) 2) ((u1 NS 6 (a_cpy (NS 1) (NS 6) (0 : Int32).toNatClampNeg (((NS 0 4) * 10) : Int32).toNatClampNeg (10 : Int32).toNatClampNeg)) 7) (0 : Int32).toNatClampNeg (((u1 NS 6 (a_cpy (NS 1) (NS 6) (0 : Int32).toNatClampNeg (((NS 0 4) * 10) : Int32).toNatClampNeg (10 : Int32).toNatClampNeg)) 0 4) * 10).toNatClampNeg (10 : Int32).toNatClampNeg)) 0 4) + 1)) 1 (a_cpy (BO 1) ((u2 (u1 (u1 NS 6 (a_cpy (NS 1) (NS 6) (0 : Int32).toNatClampNeg (((NS 0 4) * 10) : Int32).toNatClampNeg (10 : Int32).toNatClampNeg)) 7 (a_cpy ((u1 NS 6 (a_cpy (NS 1) (NS 6) (0 : Int32).toNatClampNeg (((NS 0 4) * 10) : Int32).toNatClampNeg (10 : Int32).toNatClampNeg)) 2) ((u1 NS 6 (a_cpy (NS 1) (NS 6) (0 : Int32).toNatClampNeg (((NS 0 4) * 10) : Int32).toNatClampNeg (10 : Int32).toNatClampNeg)) 7) (0 : Int32).toNatClampNeg (((u1 NS 6 (a_cpy (NS 1) (NS 6) (0 : Int32).toNatClampNeg (((NS 0 4) * 10) : Int32).toNatClampNeg (10 : Int32).toNatClampNeg)) 0 4) * 10).toNatClampNeg (10 : Int32).toNatClampNeg)) 0 4 (((u1 (u1 NS 6 (a_cpy (NS 1) (NS 6) (0 : Int32).toNatClampNeg (((NS 0 4) * 10) : Int32).toNatClampNeg (10 : Int32).toNatClampNeg)) 7 (a_cpy ((u1 NS 6 (a_cpy (NS 1) (NS 6) (0 : Int32).toNatClampNeg (((NS 0 4) * 10) : Int32).toNatClampNeg (10 : Int32).toNatClampNeg)) 2) ((u1 NS 6 (a_cpy (NS 1) (NS 6) (0 : Int32).toNatClampNeg (((NS 0 4) * 10) : Int32).toNatClampNeg (10 : Int32).toNatClampNeg)) 7) (0 : Int32).toNatClampNeg (((u1 NS 6 (a_cpy (NS 1) (NS 6) (0 : Int32).toNatClampNeg (((NS 0 4) * 10) : Int32).toNatClampNeg (10 : Int32).toNatClampNeg)) 0 4) * 10).toNatClampNeg (10 : Int32).toNatClampNeg)) 0 4) + 1)) 1) (0 : Int32).toNatClampNeg (0 : Int32).toNatClampNeg (10 : Int32).toNatClampNeg)), I0, I1, I2, BO, FI, RG, GU, PU, MA, MN, MS, OT, SC], [r0, r1, r2, r3, w, r5, r6, r7, r8], Lg)) o from ev_d (c := ((0 : Int32) < 0 ∨ (0 : Int32) < 0 ∨ (10 : Int32) < 0 ∨ 10 < (0 : Int32).toNatClampNeg + (10 : Int32).toNatClampNeg ∨ 10 < (0 : Int32).toNatClampNeg + (10 : Int32).toNatClampNeg)) _ 14 zc6 e (fun n => Eq.refl _)
    by_cases zc7 : ((0 : Int32) < 0 ∨ (0 : Int32) < 0 ∨ (10 : Int32) < 0 ∨ 10 < (0 : Int32).toNatClampNeg + (10 : Int32).toNatClampNeg ∨ 10 < (0 : Int32).toNatClampNeg + (10 : Int32).toNatClampNeg)
    · exact nos (itp h zc7)
    have h := itn h zc7
    suffices e : Ev (d + 1, 0, 0, 261, 90, [.val (.ref 512), .val (.ref 768)], [], (126, 120, L, [Y, T, HA, HB, RA, RB, ST, (u1 (u1 (u2 (u1 (u1 NS 6 (a_cpy (NS 1) (NS 6) (0 : Int32).toNatClampNeg (((NS 0 4) * 10) : Int32).toNatClampNeg (10 : Int32).toNatClampNeg)) 7 (a_cpy ((u1 NS 6 (a_cpy (NS 1) (NS 6) (0 : Int32).toNatClampNeg (((NS 0 4) * 10) : Int32).toNatClampNeg (10 : Int32).toNatClampNeg)) 2) ((u1 NS 6 (a_cpy (NS 1) (NS 6) (0 : Int32).toNatClampNeg (((NS 0 4) * 10) : Int32).toNatClampNeg (10 : Int32).toNatClampNeg)) 7) (0 : Int32).toNatClampNeg (((u1 NS 6 (a_cpy (NS 1) (NS 6) (0 : Int32).toNatClampNeg (((NS 0 4) * 10) : Int32).toNatClampNeg (10 : Int32).toNatClampNeg)) 0 4) * 10).toNatClampNeg (10 : Int32).toNatClampNeg)) 0 4 (((u1 (u1 NS 6 (a_cpy (NS 1) (NS 6) (0 : Int32).toNatClampNeg (((NS 0 4) * 10) : Int32).toNatClampNeg (10 : Int32).toNatClampNeg)) 7 (a_cpy ((u1 NS 6 (a_cpy (NS 1) (NS 6) (0 : Int32).toNatClampNeg (((NS 0 4) * 10) : Int32).toNatClampNeg (10 : Int32).toNatClampNeg)) 2) ((u1 NS 6 (a_cpy (NS 1) (NS 6) (0 : Int32).toNatClampNeg (((NS 0 4) * 10) : Int32).toNatClampNeg (10 : Int32).toNatClampNeg)) 7) (0 : Int32).toNatClampNeg (((u1 NS 6 (a_cpy (NS 1) (NS 6) (0 : Int32).toNatClampNeg (((NS 0 4) * 10) : Int32).toNatClampNeg (10 : Int32).toNatClampNeg)) 0 4) * 10).toNatClampNeg (10 : Int32).toNatClampNeg)) 0 4) + 1)) 1 (a_cpy (BO 1) ((u2 (u1 (u1 NS 6 (a_cpy (NS 1) (NS 6) (0 : Int32).toNatClampNeg (((NS 0 4) * 10) : Int32).toNatClampNeg (10 : Int32).toNatClampNeg)) 7 (a_cpy ((u1 NS 6 (a_cpy (NS 1) (NS 6) (0 : Int32).toNatClampNeg (((NS 0 4) * 10) : Int32).toNatClampNeg (10 : Int32).toNatClampNeg)) 2) ((u1 NS 6 (a_cpy (NS 1) (NS 6) (0 : Int32).toNatClampNeg (((NS 0 4) * 10) : Int32).toNatClampNeg (10 : Int32).toNatClampNeg)) 7) (0 : Int32).toNatClampNeg (((u1 NS 6 (a_cpy (NS 1) (NS 6) (0 : Int32).toNatClampNeg (((NS 0 4) * 10) : Int32).toNatClampNeg (10 : Int32).toNatClampNeg)) 0 4) * 10).toNatClampNeg (10 : Int32).toNatClampNeg)) 0 4 (((u1 (u1 NS 6 (a_cpy (NS 1) (NS 6) (0 : Int32).toNatClampNeg (((NS 0 4) * 10) : Int32).toNatClampNeg (10 : Int32).toNatClampNeg)) 7 (a_cpy ((u1 NS 6 (a_cpy (NS 1) (NS 6) (0 : Int32).toNatClampNeg (((NS 0 4) * 10) : Int32).toNatClampNeg (10 : Int32).toNatClampNeg)) 2) ((u1 NS 6 (a_cpy (NS 1) (NS 6) (0 : Int32).toNatClampNeg (((NS 0 4) * 10) : Int32).toNatClampNeg (10 : Int32).toNatClampNeg)) 7) (0 : Int32).toNatClampNeg (((u1 NS 6 (a_cpy (NS 1) (NS 6) (0 : Int32).toNatClampNeg (((NS 0 4) * 10) : Int32).toNatClampNeg (10 : Int32).toNatClampNeg)) 0 4) * 10).toNatClampNeg (10 : Int32).toNatClampNeg)) 0 4) + 1)) 1) (0 : Int32).toNatClampNeg (0 : Int32).toNatClampNeg (10 : Int32).toNatClampNeg)) 2 (a_cpy (BO 2) ((u1 (u2 (u1 (u1 NS 6 (a_cpy (NS 1) (NS 6) (0 : Int32).toNatClampNeg (((NS 0 4) * 10) : Int32).toNatClampNeg (10 : Int32).toNatClampNeg)) 7 (a_cpy ((u1 NS 6 (a_cpy (NS 1) (NS 6) (0 : Int32).toNatClampNeg (((NS 0 4) * 10) : Int32).toNatClampNeg (10 : Int32).toNatClampNeg)) 2) ((u1 NS 6 (a_cpy (NS 1) (NS 6) (0 : Int32).toNatClampNeg (((NS 0 4) * 10) : Int32).toNatClampNeg (10 : Int32).toNatClampNeg)) 7) (0 : Int32).toNatClampNeg (((u1 NS 6 (a_cpy (NS 1) (NS 6) (0 : Int32).toNatClampNeg (((NS 0 4) * 10) : Int32).toNatClampNeg (10 : Int32).toNatClampNeg)) 0 4) * 10).toNatClampNeg (10 : Int32).toNatClampNeg)) 0 4 (((u1 (u1 NS 6 (a_cpy (NS 1) (NS 6) (0 : Int32).toNatClampNeg (((NS 0 4) * 10) : Int32).toNatClampNeg (10 : Int32).toNatClampNeg)) 7 (a_cpy ((u1 NS 6 (a_cpy (NS 1) (NS 6) (0 : Int32).toNatClampNeg (((NS 0 4) * 10) : Int32).toNatClampNeg (10 : Int32).toNatClampNeg)) 2) ((u1 NS 6 (a_cpy (NS 1) (NS 6) (0 : Int32).toNatClampNeg (((NS 0 4) * 10) : Int32).toNatClampNeg (10 : Int32).toNatClampNeg)) 7) (0 : Int32).toNatClampNeg (((u1 NS 6 (a_cpy (NS 1) (NS 6) (0 : Int32).toNatClampNeg (((NS 0 4) * 10) : Int32).toNatClampNeg (10 : Int32).toNatClampNeg)) 0 4) * 10).toNatClampNeg (10 : Int32).toNatClampNeg)) 0 4) + 1)) 1 (a_cpy (BO 1) ((u2 (u1 (u1 NS 6 (a_cpy (NS 1) (NS 6) (0 : Int32).toNatClampNeg (((NS 0 4) * 10) : Int32).toNatClampNeg (10 : Int32).toNatClampNeg)) 7 (a_cpy ((u1 NS 6 (a_cpy (NS 1) (NS 6) (0 : Int32).toNatClampNeg (((NS 0 4) * 10) : Int32).toNatClampNeg (10 : Int32).toNatClampNeg)) 2) ((u1 NS 6 (a_cpy (NS 1) (NS 6) (0 : Int32).toNatClampNeg (((NS 0 4) * 10) : Int32).toNatClampNeg (10 : Int32).toNatClampNeg)) 7) (0 : Int32).toNatClampNeg (((u1 NS 6 (a_cpy (NS 1) (NS 6) (0 : Int32).toNatClampNeg (((NS 0 4) * 10) : Int32).toNatClampNeg (10 : Int32).toNatClampNeg)) 0 4) * 10).toNatClampNeg (10 : Int32).toNatClampNeg)) 0 4 (((u1 (u1 NS 6 (a_cpy (NS 1) (NS 6) (0 : Int32).toNatClampNeg (((NS 0 4) * 10) : Int32).toNatClampNeg (10 : Int32).toNatClampNeg)) 7 (a_cpy ((u1 NS 6 (a_cpy (NS 1) (NS 6) (0 : Int32).toNatClampNeg (((NS 0 4) * 10) : Int32).toNatClampNeg (10 : Int32).toNatClampNeg)) 2) ((u1 NS 6 (a_cpy (NS 1) (NS 6) (0 : Int32).toNatClampNeg (((NS 0 4) * 10) : Int32).toNatClampNeg (10 : Int32).toNatClampNeg)) 7) (0 : Int32).toNatClampNeg (((u1 NS 6 (a_cpy (NS 1) (NS 6) (0 : Int32).toNatClampNeg (((NS 0 4) * 10) : Int32).toNatClampNeg (10 : Int32).toNatClampNeg)) 0 4) * 10).toNatClampNeg (10 : Int32).toNatClampNeg)) 0 4) + 1)) 1) (0 : Int32).toNatClampNeg (0 : Int32).toNatClampNeg (10 : Int32).toNatClampNeg)) 2) (0 : Int32).toNatClampNeg (0 : Int32).toNatClampNeg (10 : Int32).toNatClampNeg)), I0, I1, I2, BO, FI, RG, GU, PU, MA, MN, MS, OT, SC], [r0, r1, r2, r3, w, r5, r6, r7, r8], Lg)) o from ev_d (c := ((0 : Int32) < 0 ∨ (0 : Int32) < 0 ∨ (10 : Int32) < 0 ∨ 10 < (0 : Int32).toNatClampNeg + (10 : Int32).toNatClampNeg ∨ 10 < (0 : Int32).toNatClampNeg + (10 : Int32).toNatClampNeg)) _ 8 zc7 e (fun n => Eq.refl _)
    have ze8 := Option.some.inj h
    subst ze8
    exact ev_rete 1 ho (fun n => Eq.refl _)
  · have h := itn h zc3
    suffices e : Ev (d + 1, 0, 0, 261, 7, [.val (.ref 512), .val (.ref 768)], [], (126, 120, L, [Y, T, HA, HB, RA, RB, ST, NS, I0, I1, I2, BO, FI, RG, GU, PU, MA, MN, MS, OT, SC], [r0, r1, r2, r3, w, r5, r6, r7, r8], Lg)) o from ev_f (c := x1 = 0) _ _ 1  zc3 e (fun n => Eq.refl _)
    have ze9 := Option.some.inj h
    subst ze9
    exact ev_rete 1 ho (fun n => Eq.refl _)
set_option maxRecDepth 1000000 in
set_option maxHeartbeats 4000000 in
theorem R_f_Y_move_0 (d : Nat) (Y T H H2 RU RV ST NS I0 I1 I2 BO FI RG GU PU MA MN MS OT SC : Nat → Nat → Int32) (w r5 : Nat) (L : Nat) (Lg : Int64) (p1 : Int32) (p2 : Int32) (p3 : Int32) {r : Nat × Int32 × (Nat → Nat → Int32) × (Nat → Nat → Int32) × (Nat → Nat → Int32) × Nat} (h : f_Y_move Y H NS BO 192 r5 p1 p2 p3 = some r) : Ev (d + 3, 3, 24, 296, 0, [.val (.ref 64), .val (.int p1), .val (.int p2), .val (.int p3), .val a_unk, .val a_unk, .val a_unk], [], (126, 120, L, [Y, T, H, H2, RU, RV, ST, NS, I0, I1, I2, BO, FI, RG, GU, PU, MA, MN, MS, OT, SC], [192, 256, 320, 384, w, r5, 576, 640, 704], Lg)) ((r.1, a_ov r.1 (.int r.2.1), (126, 120, L, [r.2.2.1, T, H, H2, RU, RV, ST, r.2.2.2.1, I0, I1, I2, r.2.2.2.2.1, FI, RG, GU, PU, MA, MN, MS, OT, SC], [192, 256, 320, 384, w, r.2.2.2.2.2, 576, 640, 704], Lg)) : AOut) := by
  suffices key : ∀ o : AOut, ((r.1, a_ov r.1 (.int r.2.1), (126, 120, L, [r.2.2.1, T, H, H2, RU, RV, ST, r.2.2.2.1, I0, I1, I2, r.2.2.2.2.1, FI, RG, GU, PU, MA, MN, MS, OT, SC], [192, 256, 320, 384, w, r.2.2.2.2.2, 576, 640, 704], Lg)) : AOut) = o → Ev (d + 3, 3, 24, 296, 0, [.val (.ref 64), .val (.int p1), .val (.int p2), .val (.int p3), .val a_unk, .val a_unk, .val a_unk], [], (126, 120, L, [Y, T, H, H2, RU, RV, ST, NS, I0, I1, I2, BO, FI, RG, GU, PU, MA, MN, MS, OT, SC], [192, 256, 320, 384, w, r5, 576, 640, 704], Lg)) o from key _ rfl
  intro o ho
  obtain ⟨⟨q1, Y_2⟩, zh1, h⟩ := bnd h
  have zh1 : f_Y_needPlace Y H p1 p2 p3 = some (q1, Y_2) := zh1
  have ze2 := R_f_Y_needPlace_0 (d + 0) Y T H H2 RU RV ST NS I0 I1 I2 BO FI RG GU PU MA MN MS OT SC w r5 L Lg p1 p2 p3 zh1
  cases q1 with
  | zero =>
    have h := itp h rfl
    suffices e : Ev (d + 3, 0, 0, 296, 7, [.val (.ref 64), .val (.int p1), .val (.int p2), .val (.int p3), .val a_unk, .val a_unk, .val a_unk], [], (126, 120, L, [Y_2, T, H, H2, RU, RV, ST, NS, I0, I1, I2, BO, FI, RG, GU, PU, MA, MN, MS, OT, SC], [192, 256, 320, 384, w, r5, 576, 640, 704], Lg)) o from ev_call (fun v μ => (d + 3, 0, 0, 296, 7, [.val (.ref 64), .val (.int p1), .val (.int p2), .val (.int p3), .val a_unk, .val a_unk, .val a_unk], v.toList ++ [], μ)) 5 ze2 e (fun n => Eq.refl _)
    obtain ⟨x3, zh3, h⟩ := bnd h
    have zh3 : f_Y_placeOf p2 p3 = some x3 := zh3
    have ze4 := R_f_Y_placeOf_0 (d + 2) Y_2 T H H2 RU RV ST NS I0 I1 I2 BO FI RG GU PU MA MN MS OT SC 192 256 320 384 w r5 576 640 704 L Lg p2 p3 zh3
    suffices e : Ev (d + 3, 0, 0, 296, 12, [.val (.ref 64), .val (.int p1), .val (.int p2), .val (.int p3), .val a_unk, .val a_unk, .val a_unk], [.int x3], (126, 120, L, [Y_2, T, H, H2, RU, RV, ST, NS, I0, I1, I2, BO, FI, RG, GU, PU, MA, MN, MS, OT, SC], [192, 256, 320, 384, w, r5, 576, 640, 704], Lg)) o from ev_call (fun v μ => (d + 3, 0, 0, 296, 12, [.val (.ref 64), .val (.int p1), .val (.int p2), .val (.int p3), .val a_unk, .val a_unk, .val a_unk], v.toList ++ [], μ)) 3 ze4 e (fun n => Eq.refl _)
    obtain ⟨x4, zh5, h⟩ := bnd h
    have zh5 : rdx (NS 1) 10 p1 = some x4 := zh5
    suffices e : Ev (d + 3, 0, 0, 296, 23, [.val (.ref 64), .val (.int p1), .val (.int p2), .val (.int p3), .val (.int x3), .val a_unk, .val a_unk], [.int x4], (126, 120, L, [Y_2, T, H, H2, RU, RV, ST, NS, I0, I1, I2, BO, FI, RG, GU, PU, MA, MN, MS, OT, SC], [192, 256, 320, 384, w, r5, 576, 640, 704], Lg)) o from ev_opt (fun x4 => (d + 3, 0, 0, 296, 23, [.val (.ref 64), .val (.int p1), .val (.int p2), .val (.int p3), .val (.int x3), .val a_unk, .val a_unk], [.int x4], (126, 120, L, [Y_2, T, H, H2, RU, RV, ST, NS, I0, I1, I2, BO, FI, RG, GU, PU, MA, MN, MS, OT, SC], [192, 256, 320, 384, w, r5, 576, 640, 704], Lg))) 6 zh5 e (fun n => Eq.refl _)
    by_cases zc6 : x4 ≠ x3
    · have h := itp h zc6
      suffices e : Ev (d + 3, 0, 0, 296, 30, [.val (.ref 64), .val (.int p1), .val (.int p2), .val (.int p3), .val (.int x3), .val a_unk, .val a_unk], [], (126, 120, L, [Y_2, T, H, H2, RU, RV, ST, NS, I0, I1, I2, BO, FI, RG, GU, PU, MA, MN, MS, OT, SC], [192, 256, 320, 384, w, r5, 576, 640, 704], Lg)) o from ev_t (c := x4 ≠ x3) _ _ 2  zc6 e (fun n => Eq.refl _)
      obtain ⟨x5, zh7, h⟩ := bnd h
      have zh7 : f_State_isFull NS = some x5 := zh7
      have ze8 := R_f_State_isFull_0 (d + 2) Y_2 T H H2 RU RV ST NS I0 I1 I2 BO FI RG GU PU MA MN MS OT SC 192 256 320 384 w r5 576 640 704 L Lg zh7
      suffices e : Ev (d + 3, 0, 0, 296, 37, [.val (.ref 64), .val (.int p1), .val (.int p2), .val (.int p3), .val (.int x3), .val a_unk, .val a_unk], [.int x5], (126, 120, L, [Y_2, T, H, H2, RU, RV, ST, NS, I0, I1, I2, BO, FI, RG, GU, PU, MA, MN, MS, OT, SC], [192, 256, 320, 384, w, r5, 576, 640, 704], Lg)) o from ev_call (fun v μ => (d + 3, 0, 0, 296, 37, [.val (.ref 64), .val (.int p1), .val (.int p2), .val (.int p3), .val (.int x3), .val a_unk, .val a_unk], v.toList ++ [], μ)) 3 ze8 e (fun n => Eq.refl _)
      by_cases zc9 : x5 = 0
      · have h := itp h zc9
        suffices e : Ev (d + 3, 0, 0, 296, 43, [.val (.ref 64), .val (.int p1), .val (.int p2), .val (.int p3), .val (.int x3), .val a_unk, .val a_unk], [], (126, 120, L, [Y_2, T, H, H2, RU, RV, ST, NS, I0, I1, I2, BO, FI, RG, GU, PU, MA, MN, MS, OT, SC], [192, 256, 320, 384, w, r5, 576, 640, 704], Lg)) o from ev_t (c := x5 = 0) _ _ 1  zc9 e (fun n => Eq.refl _)
        suffices e : Ev (d + 3, 0, 0, 296, 47, [.val (.ref 64), .val (.int p1), .val (.int p2), .val (.int p3), .val (.int x3), .val a_unk, .val a_unk], [.ref 192], (126, 120, L, [Y_2, T, H, H2, RU, RV, ST, NS, I0, I1, I2, BO, FI, RG, GU, PU, MA, MN, MS, OT, SC], [192, 256, 320, 384, w, r5, 576, 640, 704], Lg)) o from ev_b 2 e (fun n => Eq.refl _)
        obtain ⟨x6, zh10, h⟩ := bnd h
        have zh10 : f_House_isFixed H p1 = some x6 := zh10
        have ze11 := R_f_House_isFixed_0 (d + 2) Y_2 T H H2 RU RV ST NS I0 I1 I2 BO FI RG GU PU MA MN MS OT SC 192 256 320 384 w r5 576 640 704 L Lg p1 zh10
        suffices e : Ev (d + 3, 0, 0, 296, 51, [.val (.ref 64), .val (.int p1), .val (.int p2), .val (.int p3), .val (.int x3), .val a_unk, .val a_unk], [.int x6], (126, 120, L, [Y_2, T, H, H2, RU, RV, ST, NS, I0, I1, I2, BO, FI, RG, GU, PU, MA, MN, MS, OT, SC], [192, 256, 320, 384, w, r5, 576, 640, 704], Lg)) o from ev_call (fun v μ => (d + 3, 0, 0, 296, 51, [.val (.ref 64), .val (.int p1), .val (.int p2), .val (.int p3), .val (.int x3), .val a_unk, .val a_unk], v.toList ++ [], μ)) 2 ze11 e (fun n => Eq.refl _)
        by_cases zc12 : x6 = 0
        · have h := itp h zc12
          suffices e : Ev (d + 3, 0, 0, 296, 57, [.val (.ref 64), .val (.int p1), .val (.int p2), .val (.int p3), .val (.int x3), .val a_unk, .val a_unk], [], (126, 120, L, [Y_2, T, H, H2, RU, RV, ST, NS, I0, I1, I2, BO, FI, RG, GU, PU, MA, MN, MS, OT, SC], [192, 256, 320, 384, w, r5, 576, 640, 704], Lg)) o from ev_t (c := x6 = 0) _ _ 1  zc12 e (fun n => Eq.refl _)
          obtain ⟨BO_8, zh13, h⟩ := bnd h
          have zh13 : f_Y_lookNow H NS BO = some BO_8 := zh13
          have ze14 := R_f_Y_lookNow_0 (d + 0) Y_2 T H H2 RU RV ST NS I0 I1 I2 BO FI RG GU PU MA MN MS OT SC w r5 L Lg zh13
          suffices e : Ev (d + 3, 0, 0, 296, 61, [.val (.ref 64), .val (.int p1), .val (.int p2), .val (.int p3), .val (.int x3), .val a_unk, .val a_unk], [.ref 768], (126, 120, L, [Y_2, T, H, H2, RU, RV, ST, NS, I0, I1, I2, BO_8, FI, RG, GU, PU, MA, MN, MS, OT, SC], [192, 256, 320, 384, w, 192, 576, 640, 704], Lg)) o from ev_call (fun v μ => (d + 3, 0, 0, 296, 61, [.val (.ref 64), .val (.int p1), .val (.int p2), .val (.int p3), .val (.int x3), .val a_unk, .val a_unk], v.toList ++ [], μ)) 2 ze14 e (fun n => Eq.refl _)
          obtain ⟨x9, zh15, h⟩ := bnd h
          have zh15 : f_Board_clashes H BO_8 p1 x3 = some x9 := zh15
          have ze16 := R_f_Board_clashes_0 (d + 0) Y_2 T H H2 RU RV ST NS I0 I1 I2 BO_8 FI RG GU PU MA MN MS OT SC 192 256 320 384 w 576 640 704 L Lg p1 x3 zh15
          suffices e : Ev (d + 3, 0, 0, 296, 71, [.val (.ref 64), .val (.int p1), .val (.int p2), .val (.int p3), .val (.int x3), .val (.ref 768), .val a_unk], [.int x9], (126, 120, L, [Y_2, T, H, H2, RU, RV, ST, NS, I0, I1, I2, BO_8, FI, RG, GU, PU, MA, MN, MS, OT, SC], [192, 256, 320, 384, w, 192, 576, 640, 704], Lg)) o from ev_call (fun v μ => (d + 3, 0, 0, 296, 71, [.val (.ref 64), .val (.int p1), .val (.int p2), .val (.int p3), .val (.int x3), .val (.ref 768), .val a_unk], v.toList ++ [], μ)) 5 ze16 e (fun n => Eq.refl _)
          by_cases zc17 : x9 = 0
          · have h := itp h zc17
            suffices e : Ev (d + 3, 0, 0, 296, 82, [.val (.ref 64), .val (.int p1), .val (.int p2), .val (.int p3), .val (.int x3), .val (.ref 768), .val (.int x9)], [], (126, 120, L, [Y_2, T, H, H2, RU, RV, ST, NS, I0, I1, I2, BO_8, FI, RG, GU, PU, MA, MN, MS, OT, SC], [192, 256, 320, 384, w, 192, 576, 640, 704], Lg)) o from ev_t (c := x9 = 0) _ _ 3  zc17 e (fun n => Eq.refl _)
            obtain ⟨j10, zh18, h⟩ := bnd h
            have zh18 : ixx 10 p1 = some j10 := zh18
            suffices e : Ev (d + 3, 0, 0, 296, 91, [.val (.ref 64), .val (.int p1), .val (.int p2), .val (.int p3), .val (.int x3), .val (.ref 768), .val (.int x9)], [], (126, 120, L, [Y_2, T, H, H2, RU, RV, ST, NS, I0, I1, I2, (u2 BO_8 1 j10 x3), FI, RG, GU, PU, MA, MN, MS, OT, SC], [192, 256, 320, 384, w, 192, 576, 640, 704], Lg)) o from ev_opt (fun j10 => (d + 3, 0, 0, 296, 91, [.val (.ref 64), .val (.int p1), .val (.int p2), .val (.int p3), .val (.int x3), .val (.ref 768), .val (.int x9)], [], (126, 120, L, [Y_2, T, H, H2, RU, RV, ST, NS, I0, I1, I2, (u2 BO_8 1 j10 x3), FI, RG, GU, PU, MA, MN, MS, OT, SC], [192, 256, 320, 384, w, 192, 576, 640, 704], Lg))) 5 zh18 e (fun n => Eq.refl _)
            obtain ⟨BO_11, zh19, h⟩ := bnd h
            have zh19 : f_Board_countMoved H (u2 BO_8 1 j10 x3) (NS 1) = some BO_11 := zh19
            have ze20 := R_f_Board_countMoved_0 (d + 2) Y_2 T H H2 RU RV ST NS I0 I1 I2 (u2 BO_8 1 j10 x3) FI RG GU PU MA MN MS OT SC 192 256 320 384 w 576 640 704 L Lg zh19
            suffices e : Ev (d + 3, 0, 0, 296, 103, [.val (.ref 64), .val (.int p1), .val (.int p2), .val (.int p3), .val (.int x3), .val (.ref 768), .val (.int x9)], [], (126, 120, L, [Y_2, T, H, H2, RU, RV, ST, NS, I0, I1, I2, BO_11, FI, RG, GU, PU, MA, MN, MS, OT, SC], [192, 256, 320, 384, w, 192, 576, 640, 704], Lg)) o from ev_call (fun v μ => (d + 3, 0, 0, 296, 103, [.val (.ref 64), .val (.int p1), .val (.int p2), .val (.int p3), .val (.int x3), .val (.ref 768), .val (.int x9)], v.toList ++ [], μ)) 5 ze20 e (fun n => Eq.refl _)
            obtain ⟨NS_12, zh21, h⟩ := bnd h
            have zh21 : f_State_act NS BO_11 = some NS_12 := zh21
            have ze22 := R_f_State_act_0 (d + 1) Y_2 T H H2 RU RV ST NS I0 I1 I2 BO_11 FI RG GU PU MA MN MS OT SC 192 256 320 384 w 192 576 640 704 L Lg zh21
            suffices e : Ev (d + 3, 0, 0, 296, 112, [.val (.ref 64), .val (.int p1), .val (.int p2), .val (.int p3), .val (.int x3), .val (.ref 768), .val (.int x9)], [], (126, 120, L, [Y_2, T, H, H2, RU, RV, ST, NS_12, I0, I1, I2, BO_11, FI, RG, GU, PU, MA, MN, MS, OT, SC], [192, 256, 320, 384, w, 192, 576, 640, 704], Lg)) o from ev_call (fun v μ => (d + 3, 0, 0, 296, 112, [.val (.ref 64), .val (.int p1), .val (.int p2), .val (.int p3), .val (.int x3), .val (.ref 768), .val (.int x9)], v.toList ++ [], μ)) 4 ze22 e (fun n => Eq.refl _)
            have ze23 := Option.some.inj h
            subst ze23
            exact ev_rete 2 ho (fun n => Eq.refl _)
          · have h := itn h zc17
            suffices e : Ev (d + 3, 0, 0, 296, 78, [.val (.ref 64), .val (.int p1), .val (.int p2), .val (.int p3), .val (.int x3), .val (.ref 768), .val (.int x9)], [], (126, 120, L, [Y_2, T, H, H2, RU, RV, ST, NS, I0, I1, I2, BO_8, FI, RG, GU, PU, MA, MN, MS, OT, SC], [192, 256, 320, 384, w, 192, 576, 640, 704], Lg)) o from ev_f (c := x9 = 0) _ _ 3  zc17 e (fun n => Eq.refl _)
            have ze24 := Option.some.inj h
            subst ze24
            exact ev_rete 3 ho (fun n => Eq.refl _)
        · have h := itn h zc12
          suffices e : Ev (d + 3, 0, 0, 296, 54, [.val (.ref 64), .val (.int p1), .val (.int p2), .val (.int p3), .val (.int x3), .val a_unk, .val a_unk], [], (126, 120, L, [Y_2, T, H, H2, RU, RV, ST, NS, I0, I1, I2, BO, FI, RG, GU, PU, MA, MN, MS, OT, SC], [192, 256, 320, 384, w, r5, 576, 640, 704], Lg)) o from ev_f (c := x6 = 0) _ _ 1  zc12 e (fun n => Eq.refl _)
          have ze25 := Option.some.inj h
          subst ze25
          exact ev_rete 2 ho (fun n => Eq.refl _)
      · have h := itn h zc9
        suffices e : Ev (d + 3, 0, 0, 296, 40, [.val (.ref 64), .val (.int p1), .val (.int p2), .val (.int p3), .val (.int x3), .val a_unk, .val a_unk], [], (126, 120, L, [Y_2, T, H, H2, RU, RV, ST, NS, I0, I1, I2, BO, FI, RG, GU, PU, MA, MN, MS, OT, SC], [192, 256, 320, 384, w, r5, 576, 640, 704], Lg)) o from ev_f (c := x5 = 0) _ _ 1  zc9 e (fun n => Eq.refl _)
        have ze26 := Option.some.inj h
        subst ze26
        exact ev_rete 2 ho (fun n => Eq.refl _)
    · have h := itn h zc6
      suffices e : Ev (d + 3, 0, 0, 296, 28, [.val (.ref 64), .val (.int p1), .val (.int p2), .val (.int p3), .val (.int x3), .val a_unk, .val a_unk], [], (126, 120, L, [Y_2, T, H, H2, RU, RV, ST, NS, I0, I1, I2, BO, FI, RG, GU, PU, MA, MN, MS, OT, SC], [192, 256, 320, 384, w, r5, 576, 640, 704], Lg)) o from ev_f (c := x4 ≠ x3) _ _ 2  zc6 e (fun n => Eq.refl _)
      have ze27 := Option.some.inj h
      subst ze27
      exact ev_rete 2 ho (fun n => Eq.refl _)
  | succ q1 =>
    have h := itn h (Nat.succ_ne_zero q1)
    have ze28 := Option.some.inj h
    subst ze28
    subst ho
    exact ev_thr (fun v μ => (d + 3, 0, 0, 296, 7, [.val (.ref 64), .val (.int p1), .val (.int p2), .val (.int p3), .val a_unk, .val a_unk, .val a_unk], v.toList ++ [], μ)) 5 ze2 (fun n => Eq.refl _) (fun n => rfl)
