/-! printed by program (gen/emitm.py): the reference's methods run as their functions say -/
set_option maxRecDepth 1000000 in
set_option maxHeartbeats 4000000 in
theorem R_f_Board_sharesPerson_0 (d : Nat) (Y T H H2 RA RB ST NS I0 I1 I2 BO FI RG GU PU MA MN MS OT SC : Nat → Nat → Int32) (r0 r1 r2 r3 w r6 r7 r8 : Nat) (L : Nat) (Lg : Int64) (p1 : Int32) (p2 : Int32) {r : Int32} (h : f_Board_sharesPerson H p1 p2 = some r) : Ev (d + 0, 0, 0, 160, 0, [.val (.ref 768), .val (.int p1), .val (.int p2)], [], (126, 120, L, [Y, T, H, H2, RA, RB, ST, NS, I0, I1, I2, BO, FI, RG, GU, PU, MA, MN, MS, OT, SC], [r0, r1, r2, r3, w, 192, r6, r7, r8], Lg)) ((0, some (.int r), (126, 120, L, [Y, T, H, H2, RA, RB, ST, NS, I0, I1, I2, BO, FI, RG, GU, PU, MA, MN, MS, OT, SC], [r0, r1, r2, r3, w, 192, r6, r7, r8], Lg)) : AOut) := by
  suffices key : ∀ o : AOut, ((0, some (.int r), (126, 120, L, [Y, T, H, H2, RA, RB, ST, NS, I0, I1, I2, BO, FI, RG, GU, PU, MA, MN, MS, OT, SC], [r0, r1, r2, r3, w, 192, r6, r7, r8], Lg)) : AOut) = o → Ev (d + 0, 0, 0, 160, 0, [.val (.ref 768), .val (.int p1), .val (.int p2)], [], (126, 120, L, [Y, T, H, H2, RA, RB, ST, NS, I0, I1, I2, BO, FI, RG, GU, PU, MA, MN, MS, OT, SC], [r0, r1, r2, r3, w, 192, r6, r7, r8], Lg)) o from key _ rfl
  intro o ho
  suffices e : Ev (d + 0, 0, 0, 160, 4, [.val (.ref 768), .val (.int p1), .val (.int p2)], [.ref 192], (126, 120, L, [Y, T, H, H2, RA, RB, ST, NS, I0, I1, I2, BO, FI, RG, GU, PU, MA, MN, MS, OT, SC], [r0, r1, r2, r3, w, 192, r6, r7, r8], Lg)) o from ev_b 2 e (fun n => Eq.refl _)
  obtain ⟨x1, zh1, h⟩ := bnd h
  have zh1 : rdx (H 8) 10 p1 = some x1 := zh1
  suffices e : Ev (d + 0, 0, 0, 160, 9, [.val (.ref 768), .val (.int p1), .val (.int p2)], [.int x1], (126, 120, L, [Y, T, H, H2, RA, RB, ST, NS, I0, I1, I2, BO, FI, RG, GU, PU, MA, MN, MS, OT, SC], [r0, r1, r2, r3, w, 192, r6, r7, r8], Lg)) o from ev_opt (fun x1 => (d + 0, 0, 0, 160, 9, [.val (.ref 768), .val (.int p1), .val (.int p2)], [.int x1], (126, 120, L, [Y, T, H, H2, RA, RB, ST, NS, I0, I1, I2, BO, FI, RG, GU, PU, MA, MN, MS, OT, SC], [r0, r1, r2, r3, w, 192, r6, r7, r8], Lg))) 3 zh1 e (fun n => Eq.refl _)
  suffices e : Ev (d + 0, 0, 0, 160, 13, [.val (.ref 768), .val (.int p1), .val (.int p2)], [.ref 192, .int x1], (126, 120, L, [Y, T, H, H2, RA, RB, ST, NS, I0, I1, I2, BO, FI, RG, GU, PU, MA, MN, MS, OT, SC], [r0, r1, r2, r3, w, 192, r6, r7, r8], Lg)) o from ev_b 2 e (fun n => Eq.refl _)
  obtain ⟨x2, zh2, h⟩ := bnd h
  have zh2 : rdx (H 8) 10 p2 = some x2 := zh2
  suffices e : Ev (d + 0, 0, 0, 160, 18, [.val (.ref 768), .val (.int p1), .val (.int p2)], [.int x2, .int x1], (126, 120, L, [Y, T, H, H2, RA, RB, ST, NS, I0, I1, I2, BO, FI, RG, GU, PU, MA, MN, MS, OT, SC], [r0, r1, r2, r3, w, 192, r6, r7, r8], Lg)) o from ev_opt (fun x2 => (d + 0, 0, 0, 160, 18, [.val (.ref 768), .val (.int p1), .val (.int p2)], [.int x2, .int x1], (126, 120, L, [Y, T, H, H2, RA, RB, ST, NS, I0, I1, I2, BO, FI, RG, GU, PU, MA, MN, MS, OT, SC], [r0, r1, r2, r3, w, 192, r6, r7, r8], Lg))) 3 zh2 e (fun n => Eq.refl _)
  by_cases zc3 : (x1 &&& x2) = 0
  · have h := itp h zc3
    suffices e : Ev (d + 0, 0, 0, 160, 26, [.val (.ref 768), .val (.int p1), .val (.int p2)], [], (126, 120, L, [Y, T, H, H2, RA, RB, ST, NS, I0, I1, I2, BO, FI, RG, GU, PU, MA, MN, MS, OT, SC], [r0, r1, r2, r3, w, 192, r6, r7, r8], Lg)) o from ev_t (c := (x1 &&& x2) = 0) _ _ 2  zc3 e (fun n => Eq.refl _)
    have ze4 := Option.some.inj h
    subst ze4
    exact ev_rete 2 ho (fun n => Eq.refl _)
  · have h := itn h zc3
    suffices e : Ev (d + 0, 0, 0, 160, 22, [.val (.ref 768), .val (.int p1), .val (.int p2)], [], (126, 120, L, [Y, T, H, H2, RA, RB, ST, NS, I0, I1, I2, BO, FI, RG, GU, PU, MA, MN, MS, OT, SC], [r0, r1, r2, r3, w, 192, r6, r7, r8], Lg)) o from ev_f (c := (x1 &&& x2) = 0) _ _ 2  zc3 e (fun n => Eq.refl _)
    have ze5 := Option.some.inj h
    subst ze5
    exact ev_rete 3 ho (fun n => Eq.refl _)
set_option maxRecDepth 1000000 in
set_option maxHeartbeats 4000000 in
theorem R_f_Board_othersThere_0 (d : Nat) (Y T H H2 RA RB ST NS I0 I1 I2 BO FI RG GU PU MA MN MS OT SC : Nat → Nat → Int32) (r0 r1 r2 r3 w r6 r7 r8 : Nat) (L : Nat) (Lg : Int64) (p1 : Int32) (p2 : Int32) {r : Int32} (h : f_Board_othersThere H BO p1 p2 = some r) : Ev (d + 1, 0, 0, 161, 0, [.val (.ref 768), .val (.int p1), .val (.int p2), .val a_unk, .val a_unk, .val a_unk], [], (126, 120, L, [Y, T, H, H2, RA, RB, ST, NS, I0, I1, I2, BO, FI, RG, GU, PU, MA, MN, MS, OT, SC], [r0, r1, r2, r3, w, 192, r6, r7, r8], Lg)) ((0, some (.int r), (126, 120, L, [Y, T, H, H2, RA, RB, ST, NS, I0, I1, I2, BO, FI, RG, GU, PU, MA, MN, MS, OT, SC], [r0, r1, r2, r3, w, 192, r6, r7, r8], Lg)) : AOut) := by
  suffices key : ∀ o : AOut, ((0, some (.int r), (126, 120, L, [Y, T, H, H2, RA, RB, ST, NS, I0, I1, I2, BO, FI, RG, GU, PU, MA, MN, MS, OT, SC], [r0, r1, r2, r3, w, 192, r6, r7, r8], Lg)) : AOut) = o → Ev (d + 1, 0, 0, 161, 0, [.val (.ref 768), .val (.int p1), .val (.int p2), .val a_unk, .val a_unk, .val a_unk], [], (126, 120, L, [Y, T, H, H2, RA, RB, ST, NS, I0, I1, I2, BO, FI, RG, GU, PU, MA, MN, MS, OT, SC], [r0, r1, r2, r3, w, 192, r6, r7, r8], Lg)) o from key _ rfl
  intro o ho
  obtain ⟨zb1, zh2, h⟩ := bnd h
  suffices e : Ev (d + 1, 0, 0, 161, 8, [.val (.ref 768), .val (.int p1), .val (.int p2), .val (.int 0), .val (.int 0), .val (.int 0)], [], (126, 120, L, [Y, T, H, H2, RA, RB, ST, NS, I0, I1, I2, BO, FI, RG, GU, PU, MA, MN, MS, OT, SC], [r0, r1, r2, r3, w, 192, r6, r7, r8], Lg)) o from ev_b 6 e (fun n => Eq.refl _)
  refine ev_loop (δ := Unit) (fun a j => (d + 1, 0, 0, 161, 8, [.val (.ref 768), .val (.int p1), .val (.int p2), .val (.int a.1), .val (.int a.2.1), .val (.int a.2.2)], [], (126, 120, L, [Y, T, H, H2, RA, RB, ST, NS, I0, I1, I2, BO, FI, RG, GU, PU, MA, MN, MS, OT, SC], [r0, r1, r2, r3, w, 192, r6, r7, r8], Lg))) (fun b => ∀ s13 : Value, Ev (d + 1, 0, 0, 161, 97, [.val (.ref 768), .val (.int p1), .val (.int p2), .val (.int b.1), .val (.int b.2), .val s13], [], (126, 120, L, [Y, T, H, H2, RA, RB, ST, NS, I0, I1, I2, BO, FI, RG, GU, PU, MA, MN, MS, OT, SC], [r0, r1, r2, r3, w, 192, r6, r7, r8], Lg)) o) ?_ a_F (0, 0, 0) zb1 zh2 ?_ ()
  · rintro ⟨v1, v2, v3⟩ zr6 zh5 zi3 zx4 ⟨⟩
    have zh5 : f_Board_othersThere_l8 H BO p1 p2 v1 v2 v3 = some zr6 := zh5
    suffices e : Ev (d + 1, 0, 0, 161, 14, [.val (.ref 768), .val (.int p1), .val (.int p2), .val (.int v1), .val (.int v2), .val (.int v3)], [.ref 192, .int v3], (126, 120, L, [Y, T, H, H2, RA, RB, ST, NS, I0, I1, I2, BO, FI, RG, GU, PU, MA, MN, MS, OT, SC], [r0, r1, r2, r3, w, 192, r6, r7, r8], Lg)) o from ev_b 3 e (fun n => Eq.refl _)
    by_cases zc7 : (H 0 3) ≤ v3
    · have zh5 := itp zh5 zc7
      suffices e : Ev (d + 1, 0, 0, 161, 97, [.val (.ref 768), .val (.int p1), .val (.int p2), .val (.int v1), .val (.int v2), .val (.int v3)], [], (126, 120, L, [Y, T, H, H2, RA, RB, ST, NS, I0, I1, I2, BO, FI, RG, GU, PU, MA, MN, MS, OT, SC], [r0, r1, r2, r3, w, 192, r6, r7, r8], Lg)) o from ev_t (c := (H 0 3) ≤ v3) _ _ 2  zc7 e (fun n => Eq.refl _)
      exact ev_b 0 (zx4 _ (Option.some.inj zh5).symm (.int v3)) (fun n => Eq.refl _)
    · have zh5 := itn zh5 zc7
      suffices e : Ev (d + 1, 0, 0, 161, 20, [.val (.ref 768), .val (.int p1), .val (.int p2), .val (.int v1), .val (.int v2), .val (.int v3)], [], (126, 120, L, [Y, T, H, H2, RA, RB, ST, NS, I0, I1, I2, BO, FI, RG, GU, PU, MA, MN, MS, OT, SC], [r0, r1, r2, r3, w, 192, r6, r7, r8], Lg)) o from ev_f (c := (H 0 3) ≤ v3) _ _ 2  zc7 e (fun n => Eq.refl _)
      by_cases zc8 : v3 = p1
      · have zh5 := itp zh5 zc8
        suffices e : Ev (d + 1, 0, 0, 161, 91, [.val (.ref 768), .val (.int p1), .val (.int p2), .val (.int v1), .val (.int v2), .val (.int v3)], [], (126, 120, L, [Y, T, H, H2, RA, RB, ST, NS, I0, I1, I2, BO, FI, RG, GU, PU, MA, MN, MS, OT, SC], [r0, r1, r2, r3, w, 192, r6, r7, r8], Lg)) o from ev_t (c := v3 = p1) _ _ 3  zc8 e (fun n => Eq.refl _)
        exact ev_b 2 (zi3 _ (Option.some.inj zh5).symm ()) (fun n => Eq.refl _)
      · have zh5 := itn zh5 zc8
        suffices e : Ev (d + 1, 0, 0, 161, 26, [.val (.ref 768), .val (.int p1), .val (.int p2), .val (.int v1), .val (.int v2), .val (.int v3)], [], (126, 120, L, [Y, T, H, H2, RA, RB, ST, NS, I0, I1, I2, BO, FI, RG, GU, PU, MA, MN, MS, OT, SC], [r0, r1, r2, r3, w, 192, r6, r7, r8], Lg)) o from ev_f (c := v3 = p1) _ _ 3  zc8 e (fun n => Eq.refl _)
        obtain ⟨x4, zh9, zh5⟩ := bnd zh5
        have zh9 : rdx (BO 1) 10 v3 = some x4 := zh9
        suffices e : Ev (d + 1, 0, 0, 161, 33, [.val (.ref 768), .val (.int p1), .val (.int p2), .val (.int v1), .val (.int v2), .val (.int v3)], [.int x4], (126, 120, L, [Y, T, H, H2, RA, RB, ST, NS, I0, I1, I2, BO, FI, RG, GU, PU, MA, MN, MS, OT, SC], [r0, r1, r2, r3, w, 192, r6, r7, r8], Lg)) o from ev_opt (fun x4 => (d + 1, 0, 0, 161, 33, [.val (.ref 768), .val (.int p1), .val (.int p2), .val (.int v1), .val (.int v2), .val (.int v3)], [.int x4], (126, 120, L, [Y, T, H, H2, RA, RB, ST, NS, I0, I1, I2, BO, FI, RG, GU, PU, MA, MN, MS, OT, SC], [r0, r1, r2, r3, w, 192, r6, r7, r8], Lg))) 4 zh9 e (fun n => Eq.refl _)
        by_cases zc10 : x4 = (-1)
        · have zh5 := itp zh5 zc10
          suffices e : Ev (d + 1, 0, 0, 161, 91, [.val (.ref 768), .val (.int p1), .val (.int p2), .val (.int v1), .val (.int v2), .val (.int v3)], [], (126, 120, L, [Y, T, H, H2, RA, RB, ST, NS, I0, I1, I2, BO, FI, RG, GU, PU, MA, MN, MS, OT, SC], [r0, r1, r2, r3, w, 192, r6, r7, r8], Lg)) o from ev_t (c := x4 = (-1)) _ _ 2  zc10 e (fun n => Eq.refl _)
          exact ev_b 2 (zi3 _ (Option.some.inj zh5).symm ()) (fun n => Eq.refl _)
        · have zh5 := itn zh5 zc10
          suffices e : Ev (d + 1, 0, 0, 161, 37, [.val (.ref 768), .val (.int p1), .val (.int p2), .val (.int v1), .val (.int v2), .val (.int v3)], [], (126, 120, L, [Y, T, H, H2, RA, RB, ST, NS, I0, I1, I2, BO, FI, RG, GU, PU, MA, MN, MS, OT, SC], [r0, r1, r2, r3, w, 192, r6, r7, r8], Lg)) o from ev_f (c := x4 = (-1)) _ _ 2  zc10 e (fun n => Eq.refl _)
          obtain ⟨x5, zh11, zh5⟩ := bnd zh5
          have zh11 : rdx (BO 1) 10 v3 = some x5 := zh11
          suffices e : Ev (d + 1, 0, 0, 161, 44, [.val (.ref 768), .val (.int p1), .val (.int p2), .val (.int v1), .val (.int v2), .val (.int v3)], [.int x5], (126, 120, L, [Y, T, H, H2, RA, RB, ST, NS, I0, I1, I2, BO, FI, RG, GU, PU, MA, MN, MS, OT, SC], [r0, r1, r2, r3, w, 192, r6, r7, r8], Lg)) o from ev_opt (fun x5 => (d + 1, 0, 0, 161, 44, [.val (.ref 768), .val (.int p1), .val (.int p2), .val (.int v1), .val (.int v2), .val (.int v3)], [.int x5], (126, 120, L, [Y, T, H, H2, RA, RB, ST, NS, I0, I1, I2, BO, FI, RG, GU, PU, MA, MN, MS, OT, SC], [r0, r1, r2, r3, w, 192, r6, r7, r8], Lg))) 4 zh11 e (fun n => Eq.refl _)
          obtain ⟨x6, zh12, zh5⟩ := bnd zh5
          have zh12 : f_Y_hourOf x5 = some x6 := zh12
          have ze13 := R_f_Y_hourOf_0 (d + 0) Y T H H2 RA RB ST NS I0 I1 I2 BO FI RG GU PU MA MN MS OT SC r0 r1 r2 r3 w 192 r6 r7 r8 L Lg x5 zh12
          suffices e : Ev (d + 1, 0, 0, 161, 47, [.val (.ref 768), .val (.int p1), .val (.int p2), .val (.int v1), .val (.int v2), .val (.int v3)], [.int x6], (126, 120, L, [Y, T, H, H2, RA, RB, ST, NS, I0, I1, I2, BO, FI, RG, GU, PU, MA, MN, MS, OT, SC], [r0, r1, r2, r3, w, 192, r6, r7, r8], Lg)) o from ev_call (fun v μ => (d + 1, 0, 0, 161, 47, [.val (.ref 768), .val (.int p1), .val (.int p2), .val (.int v1), .val (.int v2), .val (.int v3)], v.toList ++ [], μ)) 1 ze13 e (fun n => Eq.refl _)
          obtain ⟨x7, zh14, zh5⟩ := bnd zh5
          have zh14 : f_Y_hourOf p2 = some x7 := zh14
          have ze15 := R_f_Y_hourOf_0 (d + 0) Y T H H2 RA RB ST NS I0 I1 I2 BO FI RG GU PU MA MN MS OT SC r0 r1 r2 r3 w 192 r6 r7 r8 L Lg p2 zh14
          suffices e : Ev (d + 1, 0, 0, 161, 51, [.val (.ref 768), .val (.int p1), .val (.int p2), .val (.int v1), .val (.int v2), .val (.int v3)], [.int x7, .int x6], (126, 120, L, [Y, T, H, H2, RA, RB, ST, NS, I0, I1, I2, BO, FI, RG, GU, PU, MA, MN, MS, OT, SC], [r0, r1, r2, r3, w, 192, r6, r7, r8], Lg)) o from ev_call (fun v μ => (d + 1, 0, 0, 161, 51, [.val (.ref 768), .val (.int p1), .val (.int p2), .val (.int v1), .val (.int v2), .val (.int v3)], v.toList ++ [.int x6], μ)) 2 ze15 e (fun n => Eq.refl _)
          by_cases zc16 : x6 ≠ x7
          · have zh5 := itp zh5 zc16
            suffices e : Ev (d + 1, 0, 0, 161, 91, [.val (.ref 768), .val (.int p1), .val (.int p2), .val (.int v1), .val (.int v2), .val (.int v3)], [], (126, 120, L, [Y, T, H, H2, RA, RB, ST, NS, I0, I1, I2, BO, FI, RG, GU, PU, MA, MN, MS, OT, SC], [r0, r1, r2, r3, w, 192, r6, r7, r8], Lg)) o from ev_t (c := x6 ≠ x7) _ _ 1  zc16 e (fun n => Eq.refl _)
            exact ev_b 2 (zi3 _ (Option.some.inj zh5).symm ()) (fun n => Eq.refl _)
          · have zh5 := itn zh5 zc16
            suffices e : Ev (d + 1, 0, 0, 161, 54, [.val (.ref 768), .val (.int p1), .val (.int p2), .val (.int v1), .val (.int v2), .val (.int v3)], [], (126, 120, L, [Y, T, H, H2, RA, RB, ST, NS, I0, I1, I2, BO, FI, RG, GU, PU, MA, MN, MS, OT, SC], [r0, r1, r2, r3, w, 192, r6, r7, r8], Lg)) o from ev_f (c := x6 ≠ x7) _ _ 1  zc16 e (fun n => Eq.refl _)
            obtain ⟨x8, zh17, zh5⟩ := bnd zh5
            have zh17 : f_Board_sharesPerson H p1 v3 = some x8 := zh17
            have ze18 := R_f_Board_sharesPerson_0 (d + 0) Y T H H2 RA RB ST NS I0 I1 I2 BO FI RG GU PU MA MN MS OT SC r0 r1 r2 r3 w r6 r7 r8 L Lg p1 v3 zh17
            suffices e : Ev (d + 1, 0, 0, 161, 61, [.val (.ref 768), .val (.int p1), .val (.int p2), .val (.int v1), .val (.int v2), .val (.int v3)], [.int x8], (126, 120, L, [Y, T, H, H2, RA, RB, ST, NS, I0, I1, I2, BO, FI, RG, GU, PU, MA, MN, MS, OT, SC], [r0, r1, r2, r3, w, 192, r6, r7, r8], Lg)) o from ev_call (fun v μ => (d + 1, 0, 0, 161, 61, [.val (.ref 768), .val (.int p1), .val (.int p2), .val (.int v1), .val (.int v2), .val (.int v3)], v.toList ++ [], μ)) 4 ze18 e (fun n => Eq.refl _)
            obtain ⟨zt19, zh20, zh5⟩ := bnd zh5
            have zj21 : ∀ (v9 : Int32), v9 = zt19 → Ev (d + 1, 0, 0, 161, 71, [.val (.ref 768), .val (.int p1), .val (.int p2), .val (.int v9), .val (.int v2), .val (.int v3)], [], (126, 120, L, [Y, T, H, H2, RA, RB, ST, NS, I0, I1, I2, BO, FI, RG, GU, PU, MA, MN, MS, OT, SC], [r0, r1, r2, r3, w, 192, r6, r7, r8], Lg)) o := by
              intro v9 ze22
              subst ze22
              obtain ⟨x10, zh23, zh5⟩ := bnd zh5
              have zh23 : rdx (BO 1) 10 v3 = some x10 := zh23
              suffices e : Ev (d + 1, 0, 0, 161, 78, [.val (.ref 768), .val (.int p1), .val (.int p2), .val (.int v9), .val (.int v2), .val (.int v3)], [.int x10], (126, 120, L, [Y, T, H, H2, RA, RB, ST, NS, I0, I1, I2, BO, FI, RG, GU, PU, MA, MN, MS, OT, SC], [r0, r1, r2, r3, w, 192, r6, r7, r8], Lg)) o from ev_opt (fun x10 => (d + 1, 0, 0, 161, 78, [.val (.ref 768), .val (.int p1), .val (.int p2), .val (.int v9), .val (.int v2), .val (.int v3)], [.int x10], (126, 120, L, [Y, T, H, H2, RA, RB, ST, NS, I0, I1, I2, BO, FI, RG, GU, PU, MA, MN, MS, OT, SC], [r0, r1, r2, r3, w, 192, r6, r7, r8], Lg))) 4 zh23 e (fun n => Eq.refl _)
              by_cases zc24 : x10 ≠ p2
              · have zh5 := itp zh5 zc24
                suffices e : Ev (d + 1, 0, 0, 161, 91, [.val (.ref 768), .val (.int p1), .val (.int p2), .val (.int v9), .val (.int v2), .val (.int v3)], [], (126, 120, L, [Y, T, H, H2, RA, RB, ST, NS, I0, I1, I2, BO, FI, RG, GU, PU, MA, MN, MS, OT, SC], [r0, r1, r2, r3, w, 192, r6, r7, r8], Lg)) o from ev_t (c := x10 ≠ p2) _ _ 2  zc24 e (fun n => Eq.refl _)
                exact ev_b 2 (zi3 _ (Option.some.inj zh5).symm ()) (fun n => Eq.refl _)
              · have zh5 := itn zh5 zc24
                suffices e : Ev (d + 1, 0, 0, 161, 82, [.val (.ref 768), .val (.int p1), .val (.int p2), .val (.int v9), .val (.int v2), .val (.int v3)], [], (126, 120, L, [Y, T, H, H2, RA, RB, ST, NS, I0, I1, I2, BO, FI, RG, GU, PU, MA, MN, MS, OT, SC], [r0, r1, r2, r3, w, 192, r6, r7, r8], Lg)) o from ev_f (c := x10 ≠ p2) _ _ 2  zc24 e (fun n => Eq.refl _)
                exact ev_b 8 (zi3 _ (Option.some.inj zh5).symm ()) (fun n => Eq.refl _)
            by_cases zc25 : x8 = 0
            · have zh20 := itp zh20 zc25
              suffices e : Ev (d + 1, 0, 0, 161, 71, [.val (.ref 768), .val (.int p1), .val (.int p2), .val (.int v1), .val (.int v2), .val (.int v3)], [], (126, 120, L, [Y, T, H, H2, RA, RB, ST, NS, I0, I1, I2, BO, FI, RG, GU, PU, MA, MN, MS, OT, SC], [r0, r1, r2, r3, w, 192, r6, r7, r8], Lg)) o from ev_t (c := x8 = 0) _ _ 1  zc25 e (fun n => Eq.refl _)
              exact ev_b 0 (zj21 v1 (Option.some.inj zh20) ) (fun n => Eq.refl _)
            · have zh20 := itn zh20 zc25
              suffices e : Ev (d + 1, 0, 0, 161, 64, [.val (.ref 768), .val (.int p1), .val (.int p2), .val (.int v1), .val (.int v2), .val (.int v3)], [], (126, 120, L, [Y, T, H, H2, RA, RB, ST, NS, I0, I1, I2, BO, FI, RG, GU, PU, MA, MN, MS, OT, SC], [r0, r1, r2, r3, w, 192, r6, r7, r8], Lg)) o from ev_f (c := x8 = 0) _ _ 1  zc25 e (fun n => Eq.refl _)
              exact ev_b 6 (zj21 (v1 ||| (a_shl 1 v3)) (Option.some.inj zh20) ) (fun n => Eq.refl _)
  · obtain ⟨v11, v12⟩ := zb1
    intro s13
    have ze26 := Option.some.inj h
    subst ze26
    exact ev_rete 6 ho (fun n => Eq.refl _)
set_option maxRecDepth 1000000 in
set_option maxHeartbeats 4000000 in
theorem R_f_Board_isHeldPlace_0 (d : Nat) (Y T H H2 RA RB ST NS I0 I1 I2 BO FI RG GU PU MA MN MS OT SC : Nat → Nat → Int32) (r0 r1 r2 r3 w r6 r7 r8 : Nat) (L : Nat) (Lg : Int64) (p1 : Int32) {r : Int32} (h : f_Board_isHeldPlace BO p1 = some r) : Ev (d + 1, 0, 0, 159, 0, [.val (.ref 768), .val (.int p1)], [], (126, 120, L, [Y, T, H, H2, RA, RB, ST, NS, I0, I1, I2, BO, FI, RG, GU, PU, MA, MN, MS, OT, SC], [r0, r1, r2, r3, w, 192, r6, r7, r8], Lg)) ((0, some (.int r), (126, 120, L, [Y, T, H, H2, RA, RB, ST, NS, I0, I1, I2, BO, FI, RG, GU, PU, MA, MN, MS, OT, SC], [r0, r1, r2, r3, w, 192, r6, r7, r8], Lg)) : AOut) := by
  suffices key : ∀ o : AOut, ((0, some (.int r), (126, 120, L, [Y, T, H, H2, RA, RB, ST, NS, I0, I1, I2, BO, FI, RG, GU, PU, MA, MN, MS, OT, SC], [r0, r1, r2, r3, w, 192, r6, r7, r8], Lg)) : AOut) = o → Ev (d + 1, 0, 0, 159, 0, [.val (.ref 768), .val (.int p1)], [], (126, 120, L, [Y, T, H, H2, RA, RB, ST, NS, I0, I1, I2, BO, FI, RG, GU, PU, MA, MN, MS, OT, SC], [r0, r1, r2, r3, w, 192, r6, r7, r8], Lg)) o from key _ rfl
  intro o ho
  obtain ⟨x1, zh1, h⟩ := bnd h
  have zh1 : f_Y_roomOf p1 = some x1 := zh1
  have ze2 := R_f_Y_roomOf_0 (d + 0) Y T H H2 RA RB ST NS I0 I1 I2 BO FI RG GU PU MA MN MS OT SC r0 r1 r2 r3 w 192 r6 r7 r8 L Lg p1 zh1
  suffices e : Ev (d + 1, 0, 0, 159, 8, [.val (.ref 768), .val (.int p1)], [.int x1, .ref 771], (126, 120, L, [Y, T, H, H2, RA, RB, ST, NS, I0, I1, I2, BO, FI, RG, GU, PU, MA, MN, MS, OT, SC], [r0, r1, r2, r3, w, 192, r6, r7, r8], Lg)) o from ev_call (fun v μ => (d + 1, 0, 0, 159, 8, [.val (.ref 768), .val (.int p1)], v.toList ++ [.ref 771], μ)) 4 ze2 e (fun n => Eq.refl _)
  obtain ⟨x2, zh3, h⟩ := bnd h
  have zh3 : rdx (BO 3) 3 x1 = some x2 := zh3
  suffices e : Ev (d + 1, 0, 0, 159, 9, [.val (.ref 768), .val (.int p1)], [.int x2], (126, 120, L, [Y, T, H, H2, RA, RB, ST, NS, I0, I1, I2, BO, FI, RG, GU, PU, MA, MN, MS, OT, SC], [r0, r1, r2, r3, w, 192, r6, r7, r8], Lg)) o from ev_opt (fun x2 => (d + 1, 0, 0, 159, 9, [.val (.ref 768), .val (.int p1)], [.int x2], (126, 120, L, [Y, T, H, H2, RA, RB, ST, NS, I0, I1, I2, BO, FI, RG, GU, PU, MA, MN, MS, OT, SC], [r0, r1, r2, r3, w, 192, r6, r7, r8], Lg))) 1 zh3 e (fun n => Eq.refl _)
  obtain ⟨x3, zh4, h⟩ := bnd h
  have zh4 : f_Y_hourOf p1 = some x3 := zh4
  have ze5 := R_f_Y_hourOf_0 (d + 0) Y T H H2 RA RB ST NS I0 I1 I2 BO FI RG GU PU MA MN MS OT SC r0 r1 r2 r3 w 192 r6 r7 r8 L Lg p1 zh4
  suffices e : Ev (d + 1, 0, 0, 159, 13, [.val (.ref 768), .val (.int p1)], [.int x3, .int x2], (126, 120, L, [Y, T, H, H2, RA, RB, ST, NS, I0, I1, I2, BO, FI, RG, GU, PU, MA, MN, MS, OT, SC], [r0, r1, r2, r3, w, 192, r6, r7, r8], Lg)) o from ev_call (fun v μ => (d + 1, 0, 0, 159, 13, [.val (.ref 768), .val (.int p1)], v.toList ++ [.int x2], μ)) 2 ze5 e (fun n => Eq.refl _)
  by_cases zc6 : ((a_shr x2 x3) &&& 1) = 0
  · have h := itp h zc6
    suffices e : Ev (d + 1, 0, 0, 159, 23, [.val (.ref 768), .val (.int p1)], [], (126, 120, L, [Y, T, H, H2, RA, RB, ST, NS, I0, I1, I2, BO, FI, RG, GU, PU, MA, MN, MS, OT, SC], [r0, r1, r2, r3, w, 192, r6, r7, r8], Lg)) o from ev_t (c := ((a_shr x2 x3) &&& 1) = 0) _ _ 4  zc6 e (fun n => Eq.refl _)
    have ze7 := Option.some.inj h
    subst ze7
    exact ev_rete 2 ho (fun n => Eq.refl _)
  · have h := itn h zc6
    suffices e : Ev (d + 1, 0, 0, 159, 19, [.val (.ref 768), .val (.int p1)], [], (126, 120, L, [Y, T, H, H2, RA, RB, ST, NS, I0, I1, I2, BO, FI, RG, GU, PU, MA, MN, MS, OT, SC], [r0, r1, r2, r3, w, 192, r6, r7, r8], Lg)) o from ev_f (c := ((a_shr x2 x3) &&& 1) = 0) _ _ 4  zc6 e (fun n => Eq.refl _)
    have ze8 := Option.some.inj h
    subst ze8
    exact ev_rete 3 ho (fun n => Eq.refl _)
set_option maxRecDepth 1000000 in
set_option maxHeartbeats 4000000 in
theorem R_f_Board_clashes_0 (d : Nat) (Y T H H2 RA RB ST NS I0 I1 I2 BO FI RG GU PU MA MN MS OT SC : Nat → Nat → Int32) (r0 r1 r2 r3 w r6 r7 r8 : Nat) (L : Nat) (Lg : Int64) (p1 : Int32) (p2 : Int32) {r : Int32} (h : f_Board_clashes H BO p1 p2 = some r) : Ev (d + 2, 0, 0, 164, 0, [.val (.ref 768), .val (.int p1), .val (.int p2), .val a_unk, .val a_unk], [], (126, 120, L, [Y, T, H, H2, RA, RB, ST, NS, I0, I1, I2, BO, FI, RG, GU, PU, MA, MN, MS, OT, SC], [r0, r1, r2, r3, w, 192, r6, r7, r8], Lg)) ((0, some (.int r), (126, 120, L, [Y, T, H, H2, RA, RB, ST, NS, I0, I1, I2, BO, FI, RG, GU, PU, MA, MN, MS, OT, SC], [r0, r1, r2, r3, w, 192, r6, r7, r8], Lg)) : AOut) := by
  suffices key : ∀ o : AOut, ((0, some (.int r), (126, 120, L, [Y, T, H, H2, RA, RB, ST, NS, I0, I1, I2, BO, FI, RG, GU, PU, MA, MN, MS, OT, SC], [r0, r1, r2, r3, w, 192, r6, r7, r8], Lg)) : AOut) = o → Ev (d + 2, 0, 0, 164, 0, [.val (.ref 768), .val (.int p1), .val (.int p2), .val a_unk, .val a_unk], [], (126, 120, L, [Y, T, H, H2, RA, RB, ST, NS, I0, I1, I2, BO, FI, RG, GU, PU, MA, MN, MS, OT, SC], [r0, r1, r2, r3, w, 192, r6, r7, r8], Lg)) o from key _ rfl
  intro o ho
  obtain ⟨x1, zh1, h⟩ := bnd h
  have zh1 : f_Board_lastingClashes H p1 p2 = some x1 := zh1
  have ze2 := R_f_Board_lastingClashes_0 (d + 0) Y T H H2 RA RB ST NS I0 I1 I2 BO FI RG GU PU MA MN MS OT SC r0 r1 r2 r3 w r6 r7 r8 L Lg p1 p2 zh1
  suffices e : Ev (d + 2, 0, 0, 164, 6, [.val (.ref 768), .val (.int p1), .val (.int p2), .val a_unk, .val a_unk], [.int x1], (126, 120, L, [Y, T, H, H2, RA, RB, ST, NS, I0, I1, I2, BO, FI, RG, GU, PU, MA, MN, MS, OT, SC], [r0, r1, r2, r3, w, 192, r6, r7, r8], Lg)) o from ev_call (fun v μ => (d + 2, 0, 0, 164, 6, [.val (.ref 768), .val (.int p1), .val (.int p2), .val a_unk, .val a_unk], v.toList ++ [], μ)) 4 ze2 e (fun n => Eq.refl _)
  obtain ⟨x2, zh3, h⟩ := bnd h
  have zh3 : f_Board_othersThere H BO p1 p2 = some x2 := zh3
  have ze4 := R_f_Board_othersThere_0 (d + 0) Y T H H2 RA RB ST NS I0 I1 I2 BO FI RG GU PU MA MN MS OT SC r0 r1 r2 r3 w r6 r7 r8 L Lg p1 p2 zh3
  suffices e : Ev (d + 2, 0, 0, 164, 13, [.val (.ref 768), .val (.int p1), .val (.int p2), .val (.int x1), .val a_unk], [.int x2], (126, 120, L, [Y, T, H, H2, RA, RB, ST, NS, I0, I1, I2, BO, FI, RG, GU, PU, MA, MN, MS, OT, SC], [r0, r1, r2, r3, w, 192, r6, r7, r8], Lg)) o from ev_call (fun v μ => (d + 2, 0, 0, 164, 13, [.val (.ref 768), .val (.int p1), .val (.int p2), .val (.int x1), .val a_unk], v.toList ++ [], μ)) 5 ze4 e (fun n => Eq.refl _)
  obtain ⟨zt5, zh6, h⟩ := bnd h
  have zj7 : ∀ (v3 : Int32), v3 = zt5 → Ev (d + 2, 0, 0, 164, 28, [.val (.ref 768), .val (.int p1), .val (.int p2), .val (.int v3), .val (.int x2)], [], (126, 120, L, [Y, T, H, H2, RA, RB, ST, NS, I0, I1, I2, BO, FI, RG, GU, PU, MA, MN, MS, OT, SC], [r0, r1, r2, r3, w, 192, r6, r7, r8], Lg)) o := by
    intro v3 ze8
    subst ze8
    obtain ⟨zt9, zh10, h⟩ := bnd h
    have zj11 : zt9 = .inl () → Ev (d + 2, 0, 0, 164, 44, [.val (.ref 768), .val (.int p1), .val (.int p2), .val (.int v3), .val (.int x2)], [], (126, 120, L, [Y, T, H, H2, RA, RB, ST, NS, I0, I1, I2, BO, FI, RG, GU, PU, MA, MN, MS, OT, SC], [r0, r1, r2, r3, w, 192, r6, r7, r8], Lg)) o := by
      intro ze12
      have h := sum_l h ze12
      have ze13 := Option.some.inj h
      subst ze13
      exact ev_rete 6 ho (fun n => Eq.refl _)
    by_cases zc14 : (a_shr x2 10) ≠ 0
    · have zh10 := itp zh10 zc14
      suffices e : Ev (d + 2, 0, 0, 164, 44, [.val (.ref 768), .val (.int p1), .val (.int p2), .val (.int v3), .val (.int x2)], [], (126, 120, L, [Y, T, H, H2, RA, RB, ST, NS, I0, I1, I2, BO, FI, RG, GU, PU, MA, MN, MS, OT, SC], [r0, r1, r2, r3, w, 192, r6, r7, r8], Lg)) o from ev_t (c := (a_shr x2 10) ≠ 0) _ _ 4  zc14 e (fun n => Eq.refl _)
      exact ev_b 0 (zj11  (Option.some.inj zh10).symm ) (fun n => Eq.refl _)
    · have zh10 := itn zh10 zc14
      suffices e : Ev (d + 2, 0, 0, 164, 36, [.val (.ref 768), .val (.int p1), .val (.int p2), .val (.int v3), .val (.int x2)], [], (126, 120, L, [Y, T, H, H2, RA, RB, ST, NS, I0, I1, I2, BO, FI, RG, GU, PU, MA, MN, MS, OT, SC], [r0, r1, r2, r3, w, 192, r6, r7, r8], Lg)) o from ev_f (c := (a_shr x2 10) ≠ 0) _ _ 4  zc14 e (fun n => Eq.refl _)
      obtain ⟨x4, zh15, zh10⟩ := bnd zh10
      have zh15 : f_Board_isHeldPlace BO p2 = some x4 := zh15
      have ze16 := R_f_Board_isHeldPlace_0 (d + 0) Y T H H2 RA RB ST NS I0 I1 I2 BO FI RG GU PU MA MN MS OT SC r0 r1 r2 r3 w r6 r7 r8 L Lg p2 zh15
      suffices e : Ev (d + 2, 0, 0, 164, 41, [.val (.ref 768), .val (.int p1), .val (.int p2), .val (.int v3), .val (.int x2)], [.int x4], (126, 120, L, [Y, T, H, H2, RA, RB, ST, NS, I0, I1, I2, BO, FI, RG, GU, PU, MA, MN, MS, OT, SC], [r0, r1, r2, r3, w, 192, r6, r7, r8], Lg)) o from ev_call (fun v μ => (d + 2, 0, 0, 164, 41, [.val (.ref 768), .val (.int p1), .val (.int p2), .val (.int v3), .val (.int x2)], v.toList ++ [], μ)) 3 ze16 e (fun n => Eq.refl _)
      by_cases zc17 : x4 = 0
      · have zh10 := itp zh10 zc17
        suffices e : Ev (d + 2, 0, 0, 164, 49, [.val (.ref 768), .val (.int p1), .val (.int p2), .val (.int v3), .val (.int x2)], [], (126, 120, L, [Y, T, H, H2, RA, RB, ST, NS, I0, I1, I2, BO, FI, RG, GU, PU, MA, MN, MS, OT, SC], [r0, r1, r2, r3, w, 192, r6, r7, r8], Lg)) o from ev_t (c := x4 = 0) _ _ 1  zc17 e (fun n => Eq.refl _)
        have zh18 := sum_r h (Option.some.inj zh10).symm
        have ze19 := Option.some.inj zh18
        subst ze19
        exact ev_rete 2 ho (fun n => Eq.refl _)
      · have zh10 := itn zh10 zc17
        suffices e : Ev (d + 2, 0, 0, 164, 44, [.val (.ref 768), .val (.int p1), .val (.int p2), .val (.int v3), .val (.int x2)], [], (126, 120, L, [Y, T, H, H2, RA, RB, ST, NS, I0, I1, I2, BO, FI, RG, GU, PU, MA, MN, MS, OT, SC], [r0, r1, r2, r3, w, 192, r6, r7, r8], Lg)) o from ev_f (c := x4 = 0) _ _ 1  zc17 e (fun n => Eq.refl _)
        exact ev_b 0 (zj11  (Option.some.inj zh10).symm ) (fun n => Eq.refl _)
  by_cases zc20 : (x2 &&& 1023) = 0
  · have zh6 := itp zh6 zc20
    suffices e : Ev (d + 2, 0, 0, 164, 28, [.val (.ref 768), .val (.int p1), .val (.int p2), .val (.int x1), .val (.int x2)], [], (126, 120, L, [Y, T, H, H2, RA, RB, ST, NS, I0, I1, I2, BO, FI, RG, GU, PU, MA, MN, MS, OT, SC], [r0, r1, r2, r3, w, 192, r6, r7, r8], Lg)) o from ev_t (c := (x2 &&& 1023) = 0) _ _ 5  zc20 e (fun n => Eq.refl _)
    exact ev_b 0 (zj7 x1 (Option.some.inj zh6) ) (fun n => Eq.refl _)
  · have zh6 := itn zh6 zc20
    suffices e : Ev (d + 2, 0, 0, 164, 24, [.val (.ref 768), .val (.int p1), .val (.int p2), .val (.int x1), .val (.int x2)], [], (126, 120, L, [Y, T, H, H2, RA, RB, ST, NS, I0, I1, I2, BO, FI, RG, GU, PU, MA, MN, MS, OT, SC], [r0, r1, r2, r3, w, 192, r6, r7, r8], Lg)) o from ev_f (c := (x2 &&& 1023) = 0) _ _ 5  zc20 e (fun n => Eq.refl _)
    exact ev_b 4 (zj7 (x1 ||| 4) (Option.some.inj zh6) ) (fun n => Eq.refl _)
set_option maxRecDepth 1000000 in
set_option maxHeartbeats 4000000 in
theorem R_f_Y_clash_0 (d : Nat) (Y T H H2 RU RV ST NS I0 I1 I2 BO FI RG GU PU MA MN MS OT SC : Nat → Nat → Int32) (w r5 : Nat) (L : Nat) (Lg : Int64) (p1 : Int32) (p2 : Int32) (p3 : Int32) {r : Nat × Int32 × (Nat → Nat → Int32) × (Nat → Nat → Int32) × Nat} (h : f_Y_clash Y H NS BO 192 r5 p1 p2 p3 = some r) : Ev (d + 3, 3, 24, 293, 0, [.val (.ref 64), .val (.int p1), .val (.int p2), .val (.int p3)], [], (126, 120, L, [Y, T, H, H2, RU, RV, ST, NS, I0, I1, I2, BO, FI, RG, GU, PU, MA, MN, MS, OT, SC], [192, 256, 320, 384, w, r5, 576, 640, 704], Lg)) ((r.1, a_ov r.1 (.int r.2.1), (126, 120, L, [r.2.2.1, T, H, H2, RU, RV, ST, NS, I0, I1, I2, r.2.2.2.1, FI, RG, GU, PU, MA, MN, MS, OT, SC], [192, 256, 320, 384, w, r.2.2.2.2, 576, 640, 704], Lg)) : AOut) := by
  suffices key : ∀ o : AOut, ((r.1, a_ov r.1 (.int r.2.1), (126, 120, L, [r.2.2.1, T, H, H2, RU, RV, ST, NS, I0, I1, I2, r.2.2.2.1, FI, RG, GU, PU, MA, MN, MS, OT, SC], [192, 256, 320, 384, w, r.2.2.2.2, 576, 640, 704], Lg)) : AOut) = o → Ev (d + 3, 3, 24, 293, 0, [.val (.ref 64), .val (.int p1), .val (.int p2), .val (.int p3)], [], (126, 120, L, [Y, T, H, H2, RU, RV, ST, NS, I0, I1, I2, BO, FI, RG, GU, PU, MA, MN, MS, OT, SC], [192, 256, 320, 384, w, r5, 576, 640, 704], Lg)) o from key _ rfl
  intro o ho
  obtain ⟨⟨q1, Y_2⟩, zh1, h⟩ := bnd h
  have zh1 : f_Y_needPlace Y H p1 p2 p3 = some (q1, Y_2) := zh1
  have ze2 := R_f_Y_needPlace_0 (d + 0) Y T H H2 RU RV ST NS I0 I1 I2 BO FI RG GU PU MA MN MS OT SC w r5 L Lg p1 p2 p3 zh1
  cases q1 with
  | zero =>
    have h := itp h rfl
    suffices e : Ev (d + 3, 0, 0, 293, 7, [.val (.ref 64), .val (.int p1), .val (.int p2), .val (.int p3)], [], (126, 120, L, [Y_2, T, H, H2, RU, RV, ST, NS, I0, I1, I2, BO, FI, RG, GU, PU, MA, MN, MS, OT, SC], [192, 256, 320, 384, w, r5, 576, 640, 704], Lg)) o from ev_call (fun v μ => (d + 3, 0, 0, 293, 7, [.val (.ref 64), .val (.int p1), .val (.int p2), .val (.int p3)], v.toList ++ [], μ)) 5 ze2 e (fun n => Eq.refl _)
    obtain ⟨BO_4, zh3, h⟩ := bnd h
    have zh3 : f_Y_lookNow H NS BO = some BO_4 := zh3
    have ze4 := R_f_Y_lookNow_0 (d + 0) Y_2 T H H2 RU RV ST NS I0 I1 I2 BO FI RG GU PU MA MN MS OT SC w r5 L Lg zh3
    suffices e : Ev (d + 3, 0, 0, 293, 11, [.val (.ref 64), .val (.int p1), .val (.int p2), .val (.int p3)], [.ref 768], (126, 120, L, [Y_2, T, H, H2, RU, RV, ST, NS, I0, I1, I2, BO_4, FI, RG, GU, PU, MA, MN, MS, OT, SC], [192, 256, 320, 384, w, 192, 576, 640, 704], Lg)) o from ev_call (fun v μ => (d + 3, 0, 0, 293, 11, [.val (.ref 64), .val (.int p1), .val (.int p2), .val (.int p3)], v.toList ++ [], μ)) 2 ze4 e (fun n => Eq.refl _)
    obtain ⟨x5, zh5, h⟩ := bnd h
    have zh5 : f_Y_placeOf p2 p3 = some x5 := zh5
    have ze6 := R_f_Y_placeOf_0 (d + 2) Y_2 T H H2 RU RV ST NS I0 I1 I2 BO_4 FI RG GU PU MA MN MS OT SC 192 256 320 384 w 192 576 640 704 L Lg p2 p3 zh5
    suffices e : Ev (d + 3, 0, 0, 293, 17, [.val (.ref 64), .val (.int p1), .val (.int p2), .val (.int p3)], [.int x5, .int p1, .ref 768], (126, 120, L, [Y_2, T, H, H2, RU, RV, ST, NS, I0, I1, I2, BO_4, FI, RG, GU, PU, MA, MN, MS, OT, SC], [192, 256, 320, 384, w, 192, 576, 640, 704], Lg)) o from ev_call (fun v μ => (d + 3, 0, 0, 293, 17, [.val (.ref 64), .val (.int p1), .val (.int p2), .val (.int p3)], v.toList ++ [.int p1, .ref 768], μ)) 4 ze6 e (fun n => Eq.refl _)
    obtain ⟨x6, zh7, h⟩ := bnd h
    have zh7 : f_Board_clashes H BO_4 p1 x5 = some x6 := zh7
    have ze8 := R_f_Board_clashes_0 (d + 0) Y_2 T H H2 RU RV ST NS I0 I1 I2 BO_4 FI RG GU PU MA MN MS OT SC 192 256 320 384 w 576 640 704 L Lg p1 x5 zh7
    suffices e : Ev (d + 3, 0, 0, 293, 20, [.val (.ref 64), .val (.int p1), .val (.int p2), .val (.int p3)], [.int x6], (126, 120, L, [Y_2, T, H, H2, RU, RV, ST, NS, I0, I1, I2, BO_4, FI, RG, GU, PU, MA, MN, MS, OT, SC], [192, 256, 320, 384, w, 192, 576, 640, 704], Lg)) o from ev_call (fun v μ => (d + 3, 0, 0, 293, 20, [.val (.ref 64), .val (.int p1), .val (.int p2), .val (.int p3)], v.toList ++ [], μ)) 1 ze8 e (fun n => Eq.refl _)
    have ze9 := Option.some.inj h
    subst ze9
    exact ev_rete 1 ho (fun n => Eq.refl _)
  | succ q1 =>
    have h := itn h (Nat.succ_ne_zero q1)
    have ze10 := Option.some.inj h
    subst ze10
    subst ho
    exact ev_thr (fun v μ => (d + 3, 0, 0, 293, 7, [.val (.ref 64), .val (.int p1), .val (.int p2), .val (.int p3)], v.toList ++ [], μ)) 5 ze2 (fun n => Eq.refl _) (fun n => rfl)
set_option maxRecDepth 1000000 in
set_option maxHeartbeats 4000000 in
theorem R_f_Y_needPlace_1 (d : Nat) (Y T H H2 RV RU ST NS I0 I1 I2 BO FI RG GU PU MA MN MS OT SC : Nat → Nat → Int32) (w r5 : Nat) (L : Nat) (Lg : Int64) (p1 : Int32) (p2 : Int32) (p3 : Int32) {r : Nat × (Nat → Nat → Int32)} (h : f_Y_needPlace Y H p1 p2 p3 = some r) : Ev (d + 2, 3, 24, 340, 0, [.val (.ref 64), .val (.int p1), .val (.int p2), .val (.int p3)], [], (126, 120, L, [Y, T, H, H2, RV, RU, ST, NS, I0, I1, I2, BO, FI, RG, GU, PU, MA, MN, MS, OT, SC], [192, 256, 384, 320, w, r5, 576, 640, 704], Lg)) ((r.1, none, (126, 120, L, [r.2, T, H, H2, RV, RU, ST, NS, I0, I1, I2, BO, FI, RG, GU, PU, MA, MN, MS, OT, SC], [192, 256, 384, 320, w, r5, 576, 640, 704], Lg)) : AOut) := by
  suffices key : ∀ o : AOut, ((r.1, none, (126, 120, L, [r.2, T, H, H2, RV, RU, ST, NS, I0, I1, I2, BO, FI, RG, GU, PU, MA, MN, MS, OT, SC], [192, 256, 384, 320, w, r5, 576, 640, 704], Lg)) : AOut) = o → Ev (d + 2, 3, 24, 340, 0, [.val (.ref 64), .val (.int p1), .val (.int p2), .val (.int p3)], [], (126, 120, L, [Y, T, H, H2, RV, RU, ST, NS, I0, I1, I2, BO, FI, RG, GU, PU, MA, MN, MS, OT, SC], [192, 256, 384, 320, w, r5, 576, 640, 704], Lg)) o from key _ rfl
  intro o ho
  obtain ⟨⟨q1, Y_2⟩, zh1, h⟩ := bnd h
  have zh1 : f_Y_needMeeting Y H p1 = some (q1, Y_2) := zh1
  have ze2 := R_f_Y_needMeeting_1 (d + 0) Y T H H2 RV RU ST NS I0 I1 I2 BO FI RG GU PU MA MN MS OT SC w r5 L Lg p1 zh1
  cases q1 with
  | zero =>
    have h := itp h rfl
    suffices e : Ev (d + 2, 2, 16, 340, 5, [.val (.ref 64), .val (.int p1), .val (.int p2), .val (.int p3)], [], (126, 120, L, [Y_2, T, H, H2, RV, RU, ST, NS, I0, I1, I2, BO, FI, RG, GU, PU, MA, MN, MS, OT, SC], [192, 256, 384, 320, w, r5, 576, 640, 704], Lg)) o from ev_call (fun v μ => (d + 2, 2, 16, 340, 5, [.val (.ref 64), .val (.int p1), .val (.int p2), .val (.int p3)], v.toList ++ [], μ)) 3 ze2 e (fun n => Eq.refl _)
    obtain ⟨⟨q3, Y_4⟩, zh3, h⟩ := bnd h
    have zh3 : f_Y_needRoom Y_2 H p3 = some (q3, Y_4) := zh3
    have ze4 := R_f_Y_needRoom_1 (d + 0) Y_2 T H H2 RV RU ST NS I0 I1 I2 BO FI RG GU PU MA MN MS OT SC w r5 L Lg p3 zh3
    cases q3 with
    | zero =>
      have h := itp h rfl
      suffices e : Ev (d + 2, 1, 8, 340, 10, [.val (.ref 64), .val (.int p1), .val (.int p2), .val (.int p3)], [], (126, 120, L, [Y_4, T, H, H2, RV, RU, ST, NS, I0, I1, I2, BO, FI, RG, GU, PU, MA, MN, MS, OT, SC], [192, 256, 384, 320, w, r5, 576, 640, 704], Lg)) o from ev_call (fun v μ => (d + 2, 1, 8, 340, 10, [.val (.ref 64), .val (.int p1), .val (.int p2), .val (.int p3)], v.toList ++ [], μ)) 3 ze4 e (fun n => Eq.refl _)
      obtain ⟨⟨q5, Y_6⟩, zh5, h⟩ := bnd h
      have zh5 : f_Y_needHour Y_4 H p2 = some (q5, Y_6) := zh5
      have ze6 := R_f_Y_needHour_1 (d + 0) Y_4 T H H2 RV RU ST NS I0 I1 I2 BO FI RG GU PU MA MN MS OT SC w r5 L Lg p2 zh5
      cases q5 with
      | zero =>
        have h := itp h rfl
        suffices e : Ev (d + 2, 0, 0, 340, 15, [.val (.ref 64), .val (.int p1), .val (.int p2), .val (.int p3)], [], (126, 120, L, [Y_6, T, H, H2, RV, RU, ST, NS, I0, I1, I2, BO, FI, RG, GU, PU, MA, MN, MS, OT, SC], [192, 256, 384, 320, w, r5, 576, 640, 704], Lg)) o from ev_call (fun v μ => (d + 2, 0, 0, 340, 15, [.val (.ref 64), .val (.int p1), .val (.int p2), .val (.int p3)], v.toList ++ [], μ)) 3 ze6 e (fun n => Eq.refl _)
        have ze7 := Option.some.inj h
        subst ze7
        exact ev_rete 1 ho (fun n => Eq.refl _)
      | succ q5 =>
        have h := itn h (Nat.succ_ne_zero q5)
        have ze8 := Option.some.inj h
        subst ze8
        subst ho
        exact ev_thr (fun v μ => (d + 2, 0, 0, 340, 15, [.val (.ref 64), .val (.int p1), .val (.int p2), .val (.int p3)], v.toList ++ [], μ)) 3 ze6 (fun n => Eq.refl _) (fun n => rfl)
    | succ q3 =>
      have h := itn h (Nat.succ_ne_zero q3)
      have ze9 := Option.some.inj h
      subst ze9
      subst ho
      exact ev_thr (fun v μ => (d + 2, 1, 8, 340, 10, [.val (.ref 64), .val (.int p1), .val (.int p2), .val (.int p3)], v.toList ++ [], μ)) 3 ze4 (fun n => Eq.refl _) (fun n => rfl)
  | succ q1 =>
    have h := itn h (Nat.succ_ne_zero q1)
    have ze10 := Option.some.inj h
    subst ze10
    subst ho
    exact ev_thr (fun v μ => (d + 2, 2, 16, 340, 5, [.val (.ref 64), .val (.int p1), .val (.int p2), .val (.int p3)], v.toList ++ [], μ)) 3 ze2 (fun n => Eq.refl _) (fun n => rfl)
set_option maxRecDepth 1000000 in
set_option maxHeartbeats 4000000 in
theorem R_f_Y_clash_1 (d : Nat) (Y T H H2 RV RU ST NS I0 I1 I2 BO FI RG GU PU MA MN MS OT SC : Nat → Nat → Int32) (w r5 : Nat) (L : Nat) (Lg : Int64) (p1 : Int32) (p2 : Int32) (p3 : Int32) {r : Nat × Int32 × (Nat → Nat → Int32) × (Nat → Nat → Int32) × Nat} (h : f_Y_clash Y H NS BO 192 r5 p1 p2 p3 = some r) : Ev (d + 3, 3, 24, 293, 0, [.val (.ref 64), .val (.int p1), .val (.int p2), .val (.int p3)], [], (126, 120, L, [Y, T, H, H2, RV, RU, ST, NS, I0, I1, I2, BO, FI, RG, GU, PU, MA, MN, MS, OT, SC], [192, 256, 384, 320, w, r5, 576, 640, 704], Lg)) ((r.1, a_ov r.1 (.int r.2.1), (126, 120, L, [r.2.2.1, T, H, H2, RV, RU, ST, NS, I0, I1, I2, r.2.2.2.1, FI, RG, GU, PU, MA, MN, MS, OT, SC], [192, 256, 384, 320, w, r.2.2.2.2, 576, 640, 704], Lg)) : AOut) := by
  suffices key : ∀ o : AOut, ((r.1, a_ov r.1 (.int r.2.1), (126, 120, L, [r.2.2.1, T, H, H2, RV, RU, ST, NS, I0, I1, I2, r.2.2.2.1, FI, RG, GU, PU, MA, MN, MS, OT, SC], [192, 256, 384, 320, w, r.2.2.2.2, 576, 640, 704], Lg)) : AOut) = o → Ev (d + 3, 3, 24, 293, 0, [.val (.ref 64), .val (.int p1), .val (.int p2), .val (.int p3)], [], (126, 120, L, [Y, T, H, H2, RV, RU, ST, NS, I0, I1, I2, BO, FI, RG, GU, PU, MA, MN, MS, OT, SC], [192, 256, 384, 320, w, r5, 576, 640, 704], Lg)) o from key _ rfl
  intro o ho
  obtain ⟨⟨q1, Y_2⟩, zh1, h⟩ := bnd h
  have zh1 : f_Y_needPlace Y H p1 p2 p3 = some (q1, Y_2) := zh1
  have ze2 := R_f_Y_needPlace_1 (d + 0) Y T H H2 RV RU ST NS I0 I1 I2 BO FI RG GU PU MA MN MS OT SC w r5 L Lg p1 p2 p3 zh1
  cases q1 with
  | zero =>
    have h := itp h rfl
    suffices e : Ev (d + 3, 0, 0, 293, 7, [.val (.ref 64), .val (.int p1), .val (.int p2), .val (.int p3)], [], (126, 120, L, [Y_2, T, H, H2, RV, RU, ST, NS, I0, I1, I2, BO, FI, RG, GU, PU, MA, MN, MS, OT, SC], [192, 256, 384, 320, w, r5, 576, 640, 704], Lg)) o from ev_call (fun v μ => (d + 3, 0, 0, 293, 7, [.val (.ref 64), .val (.int p1), .val (.int p2), .val (.int p3)], v.toList ++ [], μ)) 5 ze2 e (fun n => Eq.refl _)
    obtain ⟨BO_4, zh3, h⟩ := bnd h
    have zh3 : f_Y_lookNow H NS BO = some BO_4 := zh3
    have ze4 := R_f_Y_lookNow_1 (d + 0) Y_2 T H H2 RV RU ST NS I0 I1 I2 BO FI RG GU PU MA MN MS OT SC w r5 L Lg zh3
    suffices e : Ev (d + 3, 0, 0, 293, 11, [.val (.ref 64), .val (.int p1), .val (.int p2), .val (.int p3)], [.ref 768], (126, 120, L, [Y_2, T, H, H2, RV, RU, ST, NS, I0, I1, I2, BO_4, FI, RG, GU, PU, MA, MN, MS, OT, SC], [192, 256, 384, 320, w, 192, 576, 640, 704], Lg)) o from ev_call (fun v μ => (d + 3, 0, 0, 293, 11, [.val (.ref 64), .val (.int p1), .val (.int p2), .val (.int p3)], v.toList ++ [], μ)) 2 ze4 e (fun n => Eq.refl _)
    obtain ⟨x5, zh5, h⟩ := bnd h
    have zh5 : f_Y_placeOf p2 p3 = some x5 := zh5
    have ze6 := R_f_Y_placeOf_0 (d + 2) Y_2 T H H2 RV RU ST NS I0 I1 I2 BO_4 FI RG GU PU MA MN MS OT SC 192 256 384 320 w 192 576 640 704 L Lg p2 p3 zh5
    suffices e : Ev (d + 3, 0, 0, 293, 17, [.val (.ref 64), .val (.int p1), .val (.int p2), .val (.int p3)], [.int x5, .int p1, .ref 768], (126, 120, L, [Y_2, T, H, H2, RV, RU, ST, NS, I0, I1, I2, BO_4, FI, RG, GU, PU, MA, MN, MS, OT, SC], [192, 256, 384, 320, w, 192, 576, 640, 704], Lg)) o from ev_call (fun v μ => (d + 3, 0, 0, 293, 17, [.val (.ref 64), .val (.int p1), .val (.int p2), .val (.int p3)], v.toList ++ [.int p1, .ref 768], μ)) 4 ze6 e (fun n => Eq.refl _)
    obtain ⟨x6, zh7, h⟩ := bnd h
    have zh7 : f_Board_clashes H BO_4 p1 x5 = some x6 := zh7
    have ze8 := R_f_Board_clashes_0 (d + 0) Y_2 T H H2 RV RU ST NS I0 I1 I2 BO_4 FI RG GU PU MA MN MS OT SC 192 256 384 320 w 576 640 704 L Lg p1 x5 zh7
    suffices e : Ev (d + 3, 0, 0, 293, 20, [.val (.ref 64), .val (.int p1), .val (.int p2), .val (.int p3)], [.int x6], (126, 120, L, [Y_2, T, H, H2, RV, RU, ST, NS, I0, I1, I2, BO_4, FI, RG, GU, PU, MA, MN, MS, OT, SC], [192, 256, 384, 320, w, 192, 576, 640, 704], Lg)) o from ev_call (fun v μ => (d + 3, 0, 0, 293, 20, [.val (.ref 64), .val (.int p1), .val (.int p2), .val (.int p3)], v.toList ++ [], μ)) 1 ze8 e (fun n => Eq.refl _)
    have ze9 := Option.some.inj h
    subst ze9
    exact ev_rete 1 ho (fun n => Eq.refl _)
  | succ q1 =>
    have h := itn h (Nat.succ_ne_zero q1)
    have ze10 := Option.some.inj h
    subst ze10
    subst ho
    exact ev_thr (fun v μ => (d + 3, 0, 0, 293, 7, [.val (.ref 64), .val (.int p1), .val (.int p2), .val (.int p3)], v.toList ++ [], μ)) 5 ze2 (fun n => Eq.refl _) (fun n => rfl)
set_option maxRecDepth 1000000 in
set_option maxHeartbeats 4000000 in
theorem R_f_Y_needPlace_2 (d : Nat) (Y T H2 H RU RV ST NS I0 I1 I2 BO FI RG GU PU MA MN MS OT SC : Nat → Nat → Int32) (w r5 : Nat) (L : Nat) (Lg : Int64) (p1 : Int32) (p2 : Int32) (p3 : Int32) {r : Nat × (Nat → Nat → Int32)} (h : f_Y_needPlace Y H p1 p2 p3 = some r) : Ev (d + 2, 3, 24, 340, 0, [.val (.ref 64), .val (.int p1), .val (.int p2), .val (.int p3)], [], (126, 120, L, [Y, T, H2, H, RU, RV, ST, NS, I0, I1, I2, BO, FI, RG, GU, PU, MA, MN, MS, OT, SC], [256, 192, 320, 384, w, r5, 576, 640, 704], Lg)) ((r.1, none, (126, 120, L, [r.2, T, H2, H, RU, RV, ST, NS, I0, I1, I2, BO, FI, RG, GU, PU, MA, MN, MS, OT, SC], [256, 192, 320, 384, w, r5, 576, 640, 704], Lg)) : AOut) := by
  suffices key : ∀ o : AOut, ((r.1, none, (126, 120, L, [r.2, T, H2, H, RU, RV, ST, NS, I0, I1, I2, BO, FI, RG, GU, PU, MA, MN, MS, OT, SC], [256, 192, 320, 384, w, r5, 576, 640, 704], Lg)) : AOut) = o → Ev (d + 2, 3, 24, 340, 0, [.val (.ref 64), .val (.int p1), .val (.int p2), .val (.int p3)], [], (126, 120, L, [Y, T, H2, H, RU, RV, ST, NS, I0, I1, I2, BO, FI, RG, GU, PU, MA, MN, MS, OT, SC], [256, 192, 320, 384, w, r5, 576, 640, 704], Lg)) o from key _ rfl
  intro o ho
  obtain ⟨⟨q1, Y_2⟩, zh1, h⟩ := bnd h
  have zh1 : f_Y_needMeeting Y H p1 = some (q1, Y_2) := zh1
  have ze2 := R_f_Y_needMeeting_2 (d + 0) Y T H2 H RU RV ST NS I0 I1 I2 BO FI RG GU PU MA MN MS OT SC w r5 L Lg p1 zh1
  cases q1 with
  | zero =>
    have h := itp h rfl
    suffices e : Ev (d + 2, 2, 16, 340, 5, [.val (.ref 64), .val (.int p1), .val (.int p2), .val (.int p3)], [], (126, 120, L, [Y_2, T, H2, H, RU, RV, ST, NS, I0, I1, I2, BO, FI, RG, GU, PU, MA, MN, MS, OT, SC], [256, 192, 320, 384, w, r5, 576, 640, 704], Lg)) o from ev_call (fun v μ => (d + 2, 2, 16, 340, 5, [.val (.ref 64), .val (.int p1), .val (.int p2), .val (.int p3)], v.toList ++ [], μ)) 3 ze2 e (fun n => Eq.refl _)
    obtain ⟨⟨q3, Y_4⟩, zh3, h⟩ := bnd h
    have zh3 : f_Y_needRoom Y_2 H p3 = some (q3, Y_4) := zh3
    have ze4 := R_f_Y_needRoom_2 (d + 0) Y_2 T H2 H RU RV ST NS I0 I1 I2 BO FI RG GU PU MA MN MS OT SC w r5 L Lg p3 zh3
    cases q3 with
    | zero =>
      have h := itp h rfl
      suffices e : Ev (d + 2, 1, 8, 340, 10, [.val (.ref 64), .val (.int p1), .val (.int p2), .val (.int p3)], [], (126, 120, L, [Y_4, T, H2, H, RU, RV, ST, NS, I0, I1, I2, BO, FI, RG, GU, PU, MA, MN, MS, OT, SC], [256, 192, 320, 384, w, r5, 576, 640, 704], Lg)) o from ev_call (fun v μ => (d + 2, 1, 8, 340, 10, [.val (.ref 64), .val (.int p1), .val (.int p2), .val (.int p3)], v.toList ++ [], μ)) 3 ze4 e (fun n => Eq.refl _)
      obtain ⟨⟨q5, Y_6⟩, zh5, h⟩ := bnd h
      have zh5 : f_Y_needHour Y_4 H p2 = some (q5, Y_6) := zh5
      have ze6 := R_f_Y_needHour_2 (d + 0) Y_4 T H2 H RU RV ST NS I0 I1 I2 BO FI RG GU PU MA MN MS OT SC w r5 L Lg p2 zh5
      cases q5 with
      | zero =>
        have h := itp h rfl
        suffices e : Ev (d + 2, 0, 0, 340, 15, [.val (.ref 64), .val (.int p1), .val (.int p2), .val (.int p3)], [], (126, 120, L, [Y_6, T, H2, H, RU, RV, ST, NS, I0, I1, I2, BO, FI, RG, GU, PU, MA, MN, MS, OT, SC], [256, 192, 320, 384, w, r5, 576, 640, 704], Lg)) o from ev_call (fun v μ => (d + 2, 0, 0, 340, 15, [.val (.ref 64), .val (.int p1), .val (.int p2), .val (.int p3)], v.toList ++ [], μ)) 3 ze6 e (fun n => Eq.refl _)
        have ze7 := Option.some.inj h
        subst ze7
        exact ev_rete 1 ho (fun n => Eq.refl _)
      | succ q5 =>
        have h := itn h (Nat.succ_ne_zero q5)
        have ze8 := Option.some.inj h
        subst ze8
        subst ho
        exact ev_thr (fun v μ => (d + 2, 0, 0, 340, 15, [.val (.ref 64), .val (.int p1), .val (.int p2), .val (.int p3)], v.toList ++ [], μ)) 3 ze6 (fun n => Eq.refl _) (fun n => rfl)
    | succ q3 =>
      have h := itn h (Nat.succ_ne_zero q3)
      have ze9 := Option.some.inj h
      subst ze9
      subst ho
      exact ev_thr (fun v μ => (d + 2, 1, 8, 340, 10, [.val (.ref 64), .val (.int p1), .val (.int p2), .val (.int p3)], v.toList ++ [], μ)) 3 ze4 (fun n => Eq.refl _) (fun n => rfl)
  | succ q1 =>
    have h := itn h (Nat.succ_ne_zero q1)
    have ze10 := Option.some.inj h
    subst ze10
    subst ho
    exact ev_thr (fun v μ => (d + 2, 2, 16, 340, 5, [.val (.ref 64), .val (.int p1), .val (.int p2), .val (.int p3)], v.toList ++ [], μ)) 3 ze2 (fun n => Eq.refl _) (fun n => rfl)
set_option maxRecDepth 1000000 in
set_option maxHeartbeats 4000000 in
theorem R_f_Board_lastingClashes_1 (d : Nat) (Y T H2 H RA RB ST NS I0 I1 I2 BO FI RG GU PU MA MN MS OT SC : Nat → Nat → Int32) (r0 r1 r2 r3 w r6 r7 r8 : Nat) (L : Nat) (Lg : Int64) (p1 : Int32) (p2 : Int32) {r : Int32} (h : f_Board_lastingClashes H p1 p2 = some r) : Ev (d + 1, 0, 0, 163, 0, [.val (.ref 768), .val (.int p1), .val (.int p2), .val a_unk], [], (126, 120, L, [Y, T, H2, H, RA, RB, ST, NS, I0, I1, I2, BO, FI, RG, GU, PU, MA, MN, MS, OT, SC], [r0, r1, r2, r3, w, 256, r6, r7, r8], Lg)) ((0, some (.int r), (126, 120, L, [Y, T, H2, H, RA, RB, ST, NS, I0, I1, I2, BO, FI, RG, GU, PU, MA, MN, MS, OT, SC], [r0, r1, r2, r3, w, 256, r6, r7, r8], Lg)) : AOut) := by
  suffices key : ∀ o : AOut, ((0, some (.int r), (126, 120, L, [Y, T, H2, H, RA, RB, ST, NS, I0, I1, I2, BO, FI, RG, GU, PU, MA, MN, MS, OT, SC], [r0, r1, r2, r3, w, 256, r6, r7, r8], Lg)) : AOut) = o → Ev (d + 1, 0, 0, 163, 0, [.val (.ref 768), .val (.int p1), .val (.int p2), .val a_unk], [], (126, 120, L, [Y, T, H2, H, RA, RB, ST, NS, I0, I1, I2, BO, FI, RG, GU, PU, MA, MN, MS, OT, SC], [r0, r1, r2, r3, w, 256, r6, r7, r8], Lg)) o from key _ rfl
  intro o ho
  suffices e : Ev (d + 1, 0, 0, 163, 4, [.val (.ref 768), .val (.int p1), .val (.int p2), .val a_unk], [.ref 256], (126, 120, L, [Y, T, H2, H, RA, RB, ST, NS, I0, I1, I2, BO, FI, RG, GU, PU, MA, MN, MS, OT, SC], [r0, r1, r2, r3, w, 256, r6, r7, r8], Lg)) o from ev_b 2 e (fun n => Eq.refl _)
  obtain ⟨x1, zh1, h⟩ := bnd h
  have zh1 : f_House_mayHours H p1 = some x1 := zh1
  have ze2 := R_f_House_mayHours_0 (d + 0) Y T H2 H RA RB ST NS I0 I1 I2 BO FI RG GU PU MA MN MS OT SC r0 r1 r2 r3 w 256 r6 r7 r8 L Lg p1 zh1
  suffices e : Ev (d + 1, 0, 0, 163, 8, [.val (.ref 768), .val (.int p1), .val (.int p2), .val a_unk], [.int x1], (126, 120, L, [Y, T, H2, H, RA, RB, ST, NS, I0, I1, I2, BO, FI, RG, GU, PU, MA, MN, MS, OT, SC], [r0, r1, r2, r3, w, 256, r6, r7, r8], Lg)) o from ev_call (fun v μ => (d + 1, 0, 0, 163, 8, [.val (.ref 768), .val (.int p1), .val (.int p2), .val a_unk], v.toList ++ [], μ)) 2 ze2 e (fun n => Eq.refl _)
  obtain ⟨x2, zh3, h⟩ := bnd h
  have zh3 : f_Y_hourOf p2 = some x2 := zh3
  have ze4 := R_f_Y_hourOf_0 (d + 0) Y T H2 H RA RB ST NS I0 I1 I2 BO FI RG GU PU MA MN MS OT SC r0 r1 r2 r3 w 256 r6 r7 r8 L Lg p2 zh3
  suffices e : Ev (d + 1, 0, 0, 163, 12, [.val (.ref 768), .val (.int p1), .val (.int p2), .val a_unk], [.int x2, .int x1], (126, 120, L, [Y, T, H2, H, RA, RB, ST, NS, I0, I1, I2, BO, FI, RG, GU, PU, MA, MN, MS, OT, SC], [r0, r1, r2, r3, w, 256, r6, r7, r8], Lg)) o from ev_call (fun v μ => (d + 1, 0, 0, 163, 12, [.val (.ref 768), .val (.int p1), .val (.int p2), .val a_unk], v.toList ++ [.int x1], μ)) 2 ze4 e (fun n => Eq.refl _)
  obtain ⟨zt5, zh6, h⟩ := bnd h
  have zj7 : ∀ (v3 : Int32), v3 = zt5 → Ev (d + 1, 0, 0, 163, 23, [.val (.ref 768), .val (.int p1), .val (.int p2), .val a_unk], [.int v3], (126, 120, L, [Y, T, H2, H, RA, RB, ST, NS, I0, I1, I2, BO, FI, RG, GU, PU, MA, MN, MS, OT, SC], [r0, r1, r2, r3, w, 256, r6, r7, r8], Lg)) o := by
    intro v3 ze8
    subst ze8
    suffices e : Ev (d + 1, 0, 0, 163, 28, [.val (.ref 768), .val (.int p1), .val (.int p2), .val (.int v3)], [.ref 256], (126, 120, L, [Y, T, H2, H, RA, RB, ST, NS, I0, I1, I2, BO, FI, RG, GU, PU, MA, MN, MS, OT, SC], [r0, r1, r2, r3, w, 256, r6, r7, r8], Lg)) o from ev_b 3 e (fun n => Eq.refl _)
    suffices e : Ev (d + 1, 0, 0, 163, 32, [.val (.ref 768), .val (.int p1), .val (.int p2), .val (.int v3)], [.ref 256, .ref 256], (126, 120, L, [Y, T, H2, H, RA, RB, ST, NS, I0, I1, I2, BO, FI, RG, GU, PU, MA, MN, MS, OT, SC], [r0, r1, r2, r3, w, 256, r6, r7, r8], Lg)) o from ev_b 2 e (fun n => Eq.refl _)
    obtain ⟨x4, zh9, h⟩ := bnd h
    have zh9 : rdx (H 8) 10 p1 = some x4 := zh9
    suffices e : Ev (d + 1, 0, 0, 163, 37, [.val (.ref 768), .val (.int p1), .val (.int p2), .val (.int v3)], [.int x4, .ref 256], (126, 120, L, [Y, T, H2, H, RA, RB, ST, NS, I0, I1, I2, BO, FI, RG, GU, PU, MA, MN, MS, OT, SC], [r0, r1, r2, r3, w, 256, r6, r7, r8], Lg)) o from ev_opt (fun x4 => (d + 1, 0, 0, 163, 37, [.val (.ref 768), .val (.int p1), .val (.int p2), .val (.int v3)], [.int x4, .ref 256], (126, 120, L, [Y, T, H2, H, RA, RB, ST, NS, I0, I1, I2, BO, FI, RG, GU, PU, MA, MN, MS, OT, SC], [r0, r1, r2, r3, w, 256, r6, r7, r8], Lg))) 3 zh9 e (fun n => Eq.refl _)
    obtain ⟨x5, zh10, h⟩ := bnd h
    have zh10 : f_House_busyHoursOf H x4 = some x5 := zh10
    have ze11 := R_f_House_busyHoursOf_0 (d + 0) Y T H2 H RA RB ST NS I0 I1 I2 BO FI RG GU PU MA MN MS OT SC r0 r1 r2 r3 w 256 r6 r7 r8 L Lg x4 zh10
    suffices e : Ev (d + 1, 0, 0, 163, 40, [.val (.ref 768), .val (.int p1), .val (.int p2), .val (.int v3)], [.int x5], (126, 120, L, [Y, T, H2, H, RA, RB, ST, NS, I0, I1, I2, BO, FI, RG, GU, PU, MA, MN, MS, OT, SC], [r0, r1, r2, r3, w, 256, r6, r7, r8], Lg)) o from ev_call (fun v μ => (d + 1, 0, 0, 163, 40, [.val (.ref 768), .val (.int p1), .val (.int p2), .val (.int v3)], v.toList ++ [], μ)) 1 ze11 e (fun n => Eq.refl _)
    obtain ⟨x6, zh12, h⟩ := bnd h
    have zh12 : f_Y_hourOf p2 = some x6 := zh12
    have ze13 := R_f_Y_hourOf_0 (d + 0) Y T H2 H RA RB ST NS I0 I1 I2 BO FI RG GU PU MA MN MS OT SC r0 r1 r2 r3 w 256 r6 r7 r8 L Lg p2 zh12
    suffices e : Ev (d + 1, 0, 0, 163, 44, [.val (.ref 768), .val (.int p1), .val (.int p2), .val (.int v3)], [.int x6, .int x5], (126, 120, L, [Y, T, H2, H, RA, RB, ST, NS, I0, I1, I2, BO, FI, RG, GU, PU, MA, MN, MS, OT, SC], [r0, r1, r2, r3, w, 256, r6, r7, r8], Lg)) o from ev_call (fun v μ => (d + 1, 0, 0, 163, 44, [.val (.ref 768), .val (.int p1), .val (.int p2), .val (.int v3)], v.toList ++ [.int x5], μ)) 2 ze13 e (fun n => Eq.refl _)
    obtain ⟨zt14, zh15, h⟩ := bnd h
    have zj16 : ∀ (v7 : Int32), v7 = zt14 → Ev (d + 1, 0, 0, 163, 54, [.val (.ref 768), .val (.int p1), .val (.int p2), .val (.int v7)], [], (126, 120, L, [Y, T, H2, H, RA, RB, ST, NS, I0, I1, I2, BO, FI, RG, GU, PU, MA, MN, MS, OT, SC], [r0, r1, r2, r3, w, 256, r6, r7, r8], Lg)) o := by
      intro v7 ze17
      subst ze17
      suffices e : Ev (d + 1, 0, 0, 163, 58, [.val (.ref 768), .val (.int p1), .val (.int p2), .val (.int v7)], [.ref 256], (126, 120, L, [Y, T, H2, H, RA, RB, ST, NS, I0, I1, I2, BO, FI, RG, GU, PU, MA, MN, MS, OT, SC], [r0, r1, r2, r3, w, 256, r6, r7, r8], Lg)) o from ev_b 2 e (fun n => Eq.refl _)
      obtain ⟨x8, zh18, h⟩ := bnd h
      have zh18 : rdx (H 8) 10 p1 = some x8 := zh18
      suffices e : Ev (d + 1, 0, 0, 163, 63, [.val (.ref 768), .val (.int p1), .val (.int p2), .val (.int v7)], [.int x8], (126, 120, L, [Y, T, H2, H, RA, RB, ST, NS, I0, I1, I2, BO, FI, RG, GU, PU, MA, MN, MS, OT, SC], [r0, r1, r2, r3, w, 256, r6, r7, r8], Lg)) o from ev_opt (fun x8 => (d + 1, 0, 0, 163, 63, [.val (.ref 768), .val (.int p1), .val (.int p2), .val (.int v7)], [.int x8], (126, 120, L, [Y, T, H2, H, RA, RB, ST, NS, I0, I1, I2, BO, FI, RG, GU, PU, MA, MN, MS, OT, SC], [r0, r1, r2, r3, w, 256, r6, r7, r8], Lg))) 3 zh18 e (fun n => Eq.refl _)
      obtain ⟨x9, zh19, h⟩ := bnd h
      have zh19 : f_Integer_bitCount x8 = some x9 := zh19
      have ze20 := R_f_Integer_bitCount_0 (d + 0) Y T H2 H RA RB ST NS I0 I1 I2 BO FI RG GU PU MA MN MS OT SC r0 r1 r2 r3 w 256 r6 r7 r8 L Lg x8 zh19
      suffices e : Ev (d + 1, 0, 0, 163, 66, [.val (.ref 768), .val (.int p1), .val (.int p2), .val (.int v7)], [.int x9], (126, 120, L, [Y, T, H2, H, RA, RB, ST, NS, I0, I1, I2, BO, FI, RG, GU, PU, MA, MN, MS, OT, SC], [r0, r1, r2, r3, w, 256, r6, r7, r8], Lg)) o from ev_call (fun v μ => (d + 1, 0, 0, 163, 66, [.val (.ref 768), .val (.int p1), .val (.int p2), .val (.int v7)], v.toList ++ [], μ)) 1 ze20 e (fun n => Eq.refl _)
      suffices e : Ev (d + 1, 0, 0, 163, 70, [.val (.ref 768), .val (.int p1), .val (.int p2), .val (.int v7)], [.ref 256, .int x9], (126, 120, L, [Y, T, H2, H, RA, RB, ST, NS, I0, I1, I2, BO, FI, RG, GU, PU, MA, MN, MS, OT, SC], [r0, r1, r2, r3, w, 256, r6, r7, r8], Lg)) o from ev_b 2 e (fun n => Eq.refl _)
      obtain ⟨x10, zh21, h⟩ := bnd h
      have zh21 : f_Y_roomOf p2 = some x10 := zh21
      have ze22 := R_f_Y_roomOf_0 (d + 0) Y T H2 H RA RB ST NS I0 I1 I2 BO FI RG GU PU MA MN MS OT SC r0 r1 r2 r3 w 256 r6 r7 r8 L Lg p2 zh21
      suffices e : Ev (d + 1, 0, 0, 163, 77, [.val (.ref 768), .val (.int p1), .val (.int p2), .val (.int v7)], [.int x10, .ref 257, .int x9], (126, 120, L, [Y, T, H2, H, RA, RB, ST, NS, I0, I1, I2, BO, FI, RG, GU, PU, MA, MN, MS, OT, SC], [r0, r1, r2, r3, w, 256, r6, r7, r8], Lg)) o from ev_call (fun v μ => (d + 1, 0, 0, 163, 77, [.val (.ref 768), .val (.int p1), .val (.int p2), .val (.int v7)], v.toList ++ [.ref 257, .int x9], μ)) 3 ze22 e (fun n => Eq.refl _)
      obtain ⟨x11, zh23, h⟩ := bnd h
      have zh23 : rdx (H 1) 3 x10 = some x11 := zh23
      suffices e : Ev (d + 1, 0, 0, 163, 78, [.val (.ref 768), .val (.int p1), .val (.int p2), .val (.int v7)], [.int x11, .int x9], (126, 120, L, [Y, T, H2, H, RA, RB, ST, NS, I0, I1, I2, BO, FI, RG, GU, PU, MA, MN, MS, OT, SC], [r0, r1, r2, r3, w, 256, r6, r7, r8], Lg)) o from ev_opt (fun x11 => (d + 1, 0, 0, 163, 78, [.val (.ref 768), .val (.int p1), .val (.int p2), .val (.int v7)], [.int x11, .int x9], (126, 120, L, [Y, T, H2, H, RA, RB, ST, NS, I0, I1, I2, BO, FI, RG, GU, PU, MA, MN, MS, OT, SC], [r0, r1, r2, r3, w, 256, r6, r7, r8], Lg))) 1 zh23 e (fun n => Eq.refl _)
      by_cases zc24 : x9 ≤ x11
      · have h := itp h zc24
        suffices e : Ev (d + 1, 0, 0, 163, 86, [.val (.ref 768), .val (.int p1), .val (.int p2), .val (.int v7)], [], (126, 120, L, [Y, T, H2, H, RA, RB, ST, NS, I0, I1, I2, BO, FI, RG, GU, PU, MA, MN, MS, OT, SC], [r0, r1, r2, r3, w, 256, r6, r7, r8], Lg)) o from ev_t (c := x9 ≤ x11) _ _ 1  zc24 e (fun n => Eq.refl _)
        have ze25 := Option.some.inj h
        subst ze25
        exact ev_rete 2 ho (fun n => Eq.refl _)
      · have h := itn h zc24
        suffices e : Ev (d + 1, 0, 0, 163, 81, [.val (.ref 768), .val (.int p1), .val (.int p2), .val (.int v7)], [], (126, 120, L, [Y, T, H2, H, RA, RB, ST, NS, I0, I1, I2, BO, FI, RG, GU, PU, MA, MN, MS, OT, SC], [r0, r1, r2, r3, w, 256, r6, r7, r8], Lg)) o from ev_f (c := x9 ≤ x11) _ _ 1  zc24 e (fun n => Eq.refl _)
        have ze26 := Option.some.inj h
        subst ze26
        exact ev_rete 6 ho (fun n => Eq.refl _)
    by_cases zc27 : ((a_shr x5 x6) &&& 1) = 0
    · have zh15 := itp zh15 zc27
      suffices e : Ev (d + 1, 0, 0, 163, 54, [.val (.ref 768), .val (.int p1), .val (.int p2), .val (.int v3)], [], (126, 120, L, [Y, T, H2, H, RA, RB, ST, NS, I0, I1, I2, BO, FI, RG, GU, PU, MA, MN, MS, OT, SC], [r0, r1, r2, r3, w, 256, r6, r7, r8], Lg)) o from ev_t (c := ((a_shr x5 x6) &&& 1) = 0) _ _ 4  zc27 e (fun n => Eq.refl _)
      exact ev_b 0 (zj16 v3 (Option.some.inj zh15) ) (fun n => Eq.refl _)
    · have zh15 := itn zh15 zc27
      suffices e : Ev (d + 1, 0, 0, 163, 50, [.val (.ref 768), .val (.int p1), .val (.int p2), .val (.int v3)], [], (126, 120, L, [Y, T, H2, H, RA, RB, ST, NS, I0, I1, I2, BO, FI, RG, GU, PU, MA, MN, MS, OT, SC], [r0, r1, r2, r3, w, 256, r6, r7, r8], Lg)) o from ev_f (c := ((a_shr x5 x6) &&& 1) = 0) _ _ 4  zc27 e (fun n => Eq.refl _)
      exact ev_b 4 (zj16 (v3 ||| 2) (Option.some.inj zh15) ) (fun n => Eq.refl _)
  by_cases zc28 : ((a_shr x1 x2) &&& 1) ≠ 0
  · have zh6 := itp zh6 zc28
    suffices e : Ev (d + 1, 0, 0, 163, 22, [.val (.ref 768), .val (.int p1), .val (.int p2), .val a_unk], [], (126, 120, L, [Y, T, H2, H, RA, RB, ST, NS, I0, I1, I2, BO, FI, RG, GU, PU, MA, MN, MS, OT, SC], [r0, r1, r2, r3, w, 256, r6, r7, r8], Lg)) o from ev_t (c := ((a_shr x1 x2) &&& 1) ≠ 0) _ _ 4  zc28 e (fun n => Eq.refl _)
    exact ev_b 1 (zj7 0 (Option.some.inj zh6) ) (fun n => Eq.refl _)
  · have zh6 := itn zh6 zc28
    suffices e : Ev (d + 1, 0, 0, 163, 18, [.val (.ref 768), .val (.int p1), .val (.int p2), .val a_unk], [], (126, 120, L, [Y, T, H2, H, RA, RB, ST, NS, I0, I1, I2, BO, FI, RG, GU, PU, MA, MN, MS, OT, SC], [r0, r1, r2, r3, w, 256, r6, r7, r8], Lg)) o from ev_f (c := ((a_shr x1 x2) &&& 1) ≠ 0) _ _ 4  zc28 e (fun n => Eq.refl _)
    exact ev_b 2 (zj7 1 (Option.some.inj zh6) ) (fun n => Eq.refl _)
set_option maxRecDepth 1000000 in
set_option maxHeartbeats 4000000 in
theorem R_f_Board_sharesPerson_1 (d : Nat) (Y T H2 H RA RB ST NS I0 I1 I2 BO FI RG GU PU MA MN MS OT SC : Nat → Nat → Int32) (r0 r1 r2 r3 w r6 r7 r8 : Nat) (L : Nat) (Lg : Int64) (p1 : Int32) (p2 : Int32) {r : Int32} (h : f_Board_sharesPerson H p1 p2 = some r) : Ev (d + 0, 0, 0, 160, 0, [.val (.ref 768), .val (.int p1), .val (.int p2)], [], (126, 120, L, [Y, T, H2, H, RA, RB, ST, NS, I0, I1, I2, BO, FI, RG, GU, PU, MA, MN, MS, OT, SC], [r0, r1, r2, r3, w, 256, r6, r7, r8], Lg)) ((0, some (.int r), (126, 120, L, [Y, T, H2, H, RA, RB, ST, NS, I0, I1, I2, BO, FI, RG, GU, PU, MA, MN, MS, OT, SC], [r0, r1, r2, r3, w, 256, r6, r7, r8], Lg)) : AOut) := by
  suffices key : ∀ o : AOut, ((0, some (.int r), (126, 120, L, [Y, T, H2, H, RA, RB, ST, NS, I0, I1, I2, BO, FI, RG, GU, PU, MA, MN, MS, OT, SC], [r0, r1, r2, r3, w, 256, r6, r7, r8], Lg)) : AOut) = o → Ev (d + 0, 0, 0, 160, 0, [.val (.ref 768), .val (.int p1), .val (.int p2)], [], (126, 120, L, [Y, T, H2, H, RA, RB, ST, NS, I0, I1, I2, BO, FI, RG, GU, PU, MA, MN, MS, OT, SC], [r0, r1, r2, r3, w, 256, r6, r7, r8], Lg)) o from key _ rfl
  intro o ho
  suffices e : Ev (d + 0, 0, 0, 160, 4, [.val (.ref 768), .val (.int p1), .val (.int p2)], [.ref 256], (126, 120, L, [Y, T, H2, H, RA, RB, ST, NS, I0, I1, I2, BO, FI, RG, GU, PU, MA, MN, MS, OT, SC], [r0, r1, r2, r3, w, 256, r6, r7, r8], Lg)) o from ev_b 2 e (fun n => Eq.refl _)
  obtain ⟨x1, zh1, h⟩ := bnd h
  have zh1 : rdx (H 8) 10 p1 = some x1 := zh1
  suffices e : Ev (d + 0, 0, 0, 160, 9, [.val (.ref 768), .val (.int p1), .val (.int p2)], [.int x1], (126, 120, L, [Y, T, H2, H, RA, RB, ST, NS, I0, I1, I2, BO, FI, RG, GU, PU, MA, MN, MS, OT, SC], [r0, r1, r2, r3, w, 256, r6, r7, r8], Lg)) o from ev_opt (fun x1 => (d + 0, 0, 0, 160, 9, [.val (.ref 768), .val (.int p1), .val (.int p2)], [.int x1], (126, 120, L, [Y, T, H2, H, RA, RB, ST, NS, I0, I1, I2, BO, FI, RG, GU, PU, MA, MN, MS, OT, SC], [r0, r1, r2, r3, w, 256, r6, r7, r8], Lg))) 3 zh1 e (fun n => Eq.refl _)
  suffices e : Ev (d + 0, 0, 0, 160, 13, [.val (.ref 768), .val (.int p1), .val (.int p2)], [.ref 256, .int x1], (126, 120, L, [Y, T, H2, H, RA, RB, ST, NS, I0, I1, I2, BO, FI, RG, GU, PU, MA, MN, MS, OT, SC], [r0, r1, r2, r3, w, 256, r6, r7, r8], Lg)) o from ev_b 2 e (fun n => Eq.refl _)
  obtain ⟨x2, zh2, h⟩ := bnd h
  have zh2 : rdx (H 8) 10 p2 = some x2 := zh2
  suffices e : Ev (d + 0, 0, 0, 160, 18, [.val (.ref 768), .val (.int p1), .val (.int p2)], [.int x2, .int x1], (126, 120, L, [Y, T, H2, H, RA, RB, ST, NS, I0, I1, I2, BO, FI, RG, GU, PU, MA, MN, MS, OT, SC], [r0, r1, r2, r3, w, 256, r6, r7, r8], Lg)) o from ev_opt (fun x2 => (d + 0, 0, 0, 160, 18, [.val (.ref 768), .val (.int p1), .val (.int p2)], [.int x2, .int x1], (126, 120, L, [Y, T, H2, H, RA, RB, ST, NS, I0, I1, I2, BO, FI, RG, GU, PU, MA, MN, MS, OT, SC], [r0, r1, r2, r3, w, 256, r6, r7, r8], Lg))) 3 zh2 e (fun n => Eq.refl _)
  by_cases zc3 : (x1 &&& x2) = 0
  · have h := itp h zc3
    suffices e : Ev (d + 0, 0, 0, 160, 26, [.val (.ref 768), .val (.int p1), .val (.int p2)], [], (126, 120, L, [Y, T, H2, H, RA, RB, ST, NS, I0, I1, I2, BO, FI, RG, GU, PU, MA, MN, MS, OT, SC], [r0, r1, r2, r3, w, 256, r6, r7, r8], Lg)) o from ev_t (c := (x1 &&& x2) = 0) _ _ 2  zc3 e (fun n => Eq.refl _)
    have ze4 := Option.some.inj h
    subst ze4
    exact ev_rete 2 ho (fun n => Eq.refl _)
  · have h := itn h zc3
    suffices e : Ev (d + 0, 0, 0, 160, 22, [.val (.ref 768), .val (.int p1), .val (.int p2)], [], (126, 120, L, [Y, T, H2, H, RA, RB, ST, NS, I0, I1, I2, BO, FI, RG, GU, PU, MA, MN, MS, OT, SC], [r0, r1, r2, r3, w, 256, r6, r7, r8], Lg)) o from ev_f (c := (x1 &&& x2) = 0) _ _ 2  zc3 e (fun n => Eq.refl _)
    have ze5 := Option.some.inj h
    subst ze5
    exact ev_rete 3 ho (fun n => Eq.refl _)
set_option maxRecDepth 1000000 in
set_option maxHeartbeats 4000000 in
theorem R_f_Board_othersThere_1 (d : Nat) (Y T H2 H RA RB ST NS I0 I1 I2 BO FI RG GU PU MA MN MS OT SC : Nat → Nat → Int32) (r0 r1 r2 r3 w r6 r7 r8 : Nat) (L : Nat) (Lg : Int64) (p1 : Int32) (p2 : Int32) {r : Int32} (h : f_Board_othersThere H BO p1 p2 = some r) : Ev (d + 1, 0, 0, 161, 0, [.val (.ref 768), .val (.int p1), .val (.int p2), .val a_unk, .val a_unk, .val a_unk], [], (126, 120, L, [Y, T, H2, H, RA, RB, ST, NS, I0, I1, I2, BO, FI, RG, GU, PU, MA, MN, MS, OT, SC], [r0, r1, r2, r3, w, 256, r6, r7, r8], Lg)) ((0, some (.int r), (126, 120, L, [Y, T, H2, H, RA, RB, ST, NS, I0, I1, I2, BO, FI, RG, GU, PU, MA, MN, MS, OT, SC], [r0, r1, r2, r3, w, 256, r6, r7, r8], Lg)) : AOut) := by
  suffices key : ∀ o : AOut, ((0, some (.int r), (126, 120, L, [Y, T, H2, H, RA, RB, ST, NS, I0, I1, I2, BO, FI, RG, GU, PU, MA, MN, MS, OT, SC], [r0, r1, r2, r3, w, 256, r6, r7, r8], Lg)) : AOut) = o → Ev (d + 1, 0, 0, 161, 0, [.val (.ref 768), .val (.int p1), .val (.int p2), .val a_unk, .val a_unk, .val a_unk], [], (126, 120, L, [Y, T, H2, H, RA, RB, ST, NS, I0, I1, I2, BO, FI, RG, GU, PU, MA, MN, MS, OT, SC], [r0, r1, r2, r3, w, 256, r6, r7, r8], Lg)) o from key _ rfl
  intro o ho
  obtain ⟨zb1, zh2, h⟩ := bnd h
  suffices e : Ev (d + 1, 0, 0, 161, 8, [.val (.ref 768), .val (.int p1), .val (.int p2), .val (.int 0), .val (.int 0), .val (.int 0)], [], (126, 120, L, [Y, T, H2, H, RA, RB, ST, NS, I0, I1, I2, BO, FI, RG, GU, PU, MA, MN, MS, OT, SC], [r0, r1, r2, r3, w, 256, r6, r7, r8], Lg)) o from ev_b 6 e (fun n => Eq.refl _)
  refine ev_loop (δ := Unit) (fun a j => (d + 1, 0, 0, 161, 8, [.val (.ref 768), .val (.int p1), .val (.int p2), .val (.int a.1), .val (.int a.2.1), .val (.int a.2.2)], [], (126, 120, L, [Y, T, H2, H, RA, RB, ST, NS, I0, I1, I2, BO, FI, RG, GU, PU, MA, MN, MS, OT, SC], [r0, r1, r2, r3, w, 256, r6, r7, r8], Lg))) (fun b => ∀ s13 : Value, Ev (d + 1, 0, 0, 161, 97, [.val (.ref 768), .val (.int p1), .val (.int p2), .val (.int b.1), .val (.int b.2), .val s13], [], (126, 120, L, [Y, T, H2, H, RA, RB, ST, NS, I0, I1, I2, BO, FI, RG, GU, PU, MA, MN, MS, OT, SC], [r0, r1, r2, r3, w, 256, r6, r7, r8], Lg)) o) ?_ a_F (0, 0, 0) zb1 zh2 ?_ ()
  · rintro ⟨v1, v2, v3⟩ zr6 zh5 zi3 zx4 ⟨⟩
    have zh5 : f_Board_othersThere_l8 H BO p1 p2 v1 v2 v3 = some zr6 := zh5
    suffices e : Ev (d + 1, 0, 0, 161, 14, [.val (.ref 768), .val (.int p1), .val (.int p2), .val (.int v1), .val (.int v2), .val (.int v3)], [.ref 256, .int v3], (126, 120, L, [Y, T, H2, H, RA, RB, ST, NS, I0, I1, I2, BO, FI, RG, GU, PU, MA, MN, MS, OT, SC], [r0, r1, r2, r3, w, 256, r6, r7, r8], Lg)) o from ev_b 3 e (fun n => Eq.refl _)
    by_cases zc7 : (H 0 3) ≤ v3
    · have zh5 := itp zh5 zc7
      suffices e : Ev (d + 1, 0, 0, 161, 97, [.val (.ref 768), .val (.int p1), .val (.int p2), .val (.int v1), .val (.int v2), .val (.int v3)], [], (126, 120, L, [Y, T, H2, H, RA, RB, ST, NS, I0, I1, I2, BO, FI, RG, GU, PU, MA, MN, MS, OT, SC], [r0, r1, r2, r3, w, 256, r6, r7, r8], Lg)) o from ev_t (c := (H 0 3) ≤ v3) _ _ 2  zc7 e (fun n => Eq.refl _)
      exact ev_b 0 (zx4 _ (Option.some.inj zh5).symm (.int v3)) (fun n => Eq.refl _)
    · have zh5 := itn zh5 zc7
      suffices e : Ev (d + 1, 0, 0, 161, 20, [.val (.ref 768), .val (.int p1), .val (.int p2), .val (.int v1), .val (.int v2), .val (.int v3)], [], (126, 120, L, [Y, T, H2, H, RA, RB, ST, NS, I0, I1, I2, BO, FI, RG, GU, PU, MA, MN, MS, OT, SC], [r0, r1, r2, r3, w, 256, r6, r7, r8], Lg)) o from ev_f (c := (H 0 3) ≤ v3) _ _ 2  zc7 e (fun n => Eq.refl _)
      by_cases zc8 : v3 = p1
      · have zh5 := itp zh5 zc8
        suffices e : Ev (d + 1, 0, 0, 161, 91, [.val (.ref 768), .val (.int p1), .val (.int p2), .val (.int v1), .val (.int v2), .val (.int v3)], [], (126, 120, L, [Y, T, H2, H, RA, RB, ST, NS, I0, I1, I2, BO, FI, RG, GU, PU, MA, MN, MS, OT, SC], [r0, r1, r2, r3, w, 256, r6, r7, r8], Lg)) o from ev_t (c := v3 = p1) _ _ 3  zc8 e (fun n => Eq.refl _)
        exact ev_b 2 (zi3 _ (Option.some.inj zh5).symm ()) (fun n => Eq.refl _)
      · have zh5 := itn zh5 zc8
        suffices e : Ev (d + 1, 0, 0, 161, 26, [.val (.ref 768), .val (.int p1), .val (.int p2), .val (.int v1), .val (.int v2), .val (.int v3)], [], (126, 120, L, [Y, T, H2, H, RA, RB, ST, NS, I0, I1, I2, BO, FI, RG, GU, PU, MA, MN, MS, OT, SC], [r0, r1, r2, r3, w, 256, r6, r7, r8], Lg)) o from ev_f (c := v3 = p1) _ _ 3  zc8 e (fun n => Eq.refl _)
        obtain ⟨x4, zh9, zh5⟩ := bnd zh5
        have zh9 : rdx (BO 1) 10 v3 = some x4 := zh9
        suffices e : Ev (d + 1, 0, 0, 161, 33, [.val (.ref 768), .val (.int p1), .val (.int p2), .val (.int v1), .val (.int v2), .val (.int v3)], [.int x4], (126, 120, L, [Y, T, H2, H, RA, RB, ST, NS, I0, I1, I2, BO, FI, RG, GU, PU, MA, MN, MS, OT, SC], [r0, r1, r2, r3, w, 256, r6, r7, r8], Lg)) o from ev_opt (fun x4 => (d + 1, 0, 0, 161, 33, [.val (.ref 768), .val (.int p1), .val (.int p2), .val (.int v1), .val (.int v2), .val (.int v3)], [.int x4], (126, 120, L, [Y, T, H2, H, RA, RB, ST, NS, I0, I1, I2, BO, FI, RG, GU, PU, MA, MN, MS, OT, SC], [r0, r1, r2, r3, w, 256, r6, r7, r8], Lg))) 4 zh9 e (fun n => Eq.refl _)
        by_cases zc10 : x4 = (-1)
        · have zh5 := itp zh5 zc10
          suffices e : Ev (d + 1, 0, 0, 161, 91, [.val (.ref 768), .val (.int p1), .val (.int p2), .val (.int v1), .val (.int v2), .val (.int v3)], [], (126, 120, L, [Y, T, H2, H, RA, RB, ST, NS, I0, I1, I2, BO, FI, RG, GU, PU, MA, MN, MS, OT, SC], [r0, r1, r2, r3, w, 256, r6, r7, r8], Lg)) o from ev_t (c := x4 = (-1)) _ _ 2  zc10 e (fun n => Eq.refl _)
          exact ev_b 2 (zi3 _ (Option.some.inj zh5).symm ()) (fun n => Eq.refl _)
        · have zh5 := itn zh5 zc10
          suffices e : Ev (d + 1, 0, 0, 161, 37, [.val (.ref 768), .val (.int p1), .val (.int p2), .val (.int v1), .val (.int v2), .val (.int v3)], [], (126, 120, L, [Y, T, H2, H, RA, RB, ST, NS, I0, I1, I2, BO, FI, RG, GU, PU, MA, MN, MS, OT, SC], [r0, r1, r2, r3, w, 256, r6, r7, r8], Lg)) o from ev_f (c := x4 = (-1)) _ _ 2  zc10 e (fun n => Eq.refl _)
          obtain ⟨x5, zh11, zh5⟩ := bnd zh5
          have zh11 : rdx (BO 1) 10 v3 = some x5 := zh11
          suffices e : Ev (d + 1, 0, 0, 161, 44, [.val (.ref 768), .val (.int p1), .val (.int p2), .val (.int v1), .val (.int v2), .val (.int v3)], [.int x5], (126, 120, L, [Y, T, H2, H, RA, RB, ST, NS, I0, I1, I2, BO, FI, RG, GU, PU, MA, MN, MS, OT, SC], [r0, r1, r2, r3, w, 256, r6, r7, r8], Lg)) o from ev_opt (fun x5 => (d + 1, 0, 0, 161, 44, [.val (.ref 768), .val (.int p1), .val (.int p2), .val (.int v1), .val (.int v2), .val (.int v3)], [.int x5], (126, 120, L, [Y, T, H2, H, RA, RB, ST, NS, I0, I1, I2, BO, FI, RG, GU, PU, MA, MN, MS, OT, SC], [r0, r1, r2, r3, w, 256, r6, r7, r8], Lg))) 4 zh11 e (fun n => Eq.refl _)
          obtain ⟨x6, zh12, zh5⟩ := bnd zh5
          have zh12 : f_Y_hourOf x5 = some x6 := zh12
          have ze13 := R_f_Y_hourOf_0 (d + 0) Y T H2 H RA RB ST NS I0 I1 I2 BO FI RG GU PU MA MN MS OT SC r0 r1 r2 r3 w 256 r6 r7 r8 L Lg x5 zh12
          suffices e : Ev (d + 1, 0, 0, 161, 47, [.val (.ref 768), .val (.int p1), .val (.int p2), .val (.int v1), .val (.int v2), .val (.int v3)], [.int x6], (126, 120, L, [Y, T, H2, H, RA, RB, ST, NS, I0, I1, I2, BO, FI, RG, GU, PU, MA, MN, MS, OT, SC], [r0, r1, r2, r3, w, 256, r6, r7, r8], Lg)) o from ev_call (fun v μ => (d + 1, 0, 0, 161, 47, [.val (.ref 768), .val (.int p1), .val (.int p2), .val (.int v1), .val (.int v2), .val (.int v3)], v.toList ++ [], μ)) 1 ze13 e (fun n => Eq.refl _)
          obtain ⟨x7, zh14, zh5⟩ := bnd zh5
          have zh14 : f_Y_hourOf p2 = some x7 := zh14
          have ze15 := R_f_Y_hourOf_0 (d + 0) Y T H2 H RA RB ST NS I0 I1 I2 BO FI RG GU PU MA MN MS OT SC r0 r1 r2 r3 w 256 r6 r7 r8 L Lg p2 zh14
          suffices e : Ev (d + 1, 0, 0, 161, 51, [.val (.ref 768), .val (.int p1), .val (.int p2), .val (.int v1), .val (.int v2), .val (.int v3)], [.int x7, .int x6], (126, 120, L, [Y, T, H2, H, RA, RB, ST, NS, I0, I1, I2, BO, FI, RG, GU, PU, MA, MN, MS, OT, SC], [r0, r1, r2, r3, w, 256, r6, r7, r8], Lg)) o from ev_call (fun v μ => (d + 1, 0, 0, 161, 51, [.val (.ref 768), .val (.int p1), .val (.int p2), .val (.int v1), .val (.int v2), .val (.int v3)], v.toList ++ [.int x6], μ)) 2 ze15 e (fun n => Eq.refl _)
          by_cases zc16 : x6 ≠ x7
          · have zh5 := itp zh5 zc16
            suffices e : Ev (d + 1, 0, 0, 161, 91, [.val (.ref 768), .val (.int p1), .val (.int p2), .val (.int v1), .val (.int v2), .val (.int v3)], [], (126, 120, L, [Y, T, H2, H, RA, RB, ST, NS, I0, I1, I2, BO, FI, RG, GU, PU, MA, MN, MS, OT, SC], [r0, r1, r2, r3, w, 256, r6, r7, r8], Lg)) o from ev_t (c := x6 ≠ x7) _ _ 1  zc16 e (fun n => Eq.refl _)
            exact ev_b 2 (zi3 _ (Option.some.inj zh5).symm ()) (fun n => Eq.refl _)
          · have zh5 := itn zh5 zc16
            suffices e : Ev (d + 1, 0, 0, 161, 54, [.val (.ref 768), .val (.int p1), .val (.int p2), .val (.int v1), .val (.int v2), .val (.int v3)], [], (126, 120, L, [Y, T, H2, H, RA, RB, ST, NS, I0, I1, I2, BO, FI, RG, GU, PU, MA, MN, MS, OT, SC], [r0, r1, r2, r3, w, 256, r6, r7, r8], Lg)) o from ev_f (c := x6 ≠ x7) _ _ 1  zc16 e (fun n => Eq.refl _)
            obtain ⟨x8, zh17, zh5⟩ := bnd zh5
            have zh17 : f_Board_sharesPerson H p1 v3 = some x8 := zh17
            have ze18 := R_f_Board_sharesPerson_1 (d + 0) Y T H2 H RA RB ST NS I0 I1 I2 BO FI RG GU PU MA MN MS OT SC r0 r1 r2 r3 w r6 r7 r8 L Lg p1 v3 zh17
            suffices e : Ev (d + 1, 0, 0, 161, 61, [.val (.ref 768), .val (.int p1), .val (.int p2), .val (.int v1), .val (.int v2), .val (.int v3)], [.int x8], (126, 120, L, [Y, T, H2, H, RA, RB, ST, NS, I0, I1, I2, BO, FI, RG, GU, PU, MA, MN, MS, OT, SC], [r0, r1, r2, r3, w, 256, r6, r7, r8], Lg)) o from ev_call (fun v μ => (d + 1, 0, 0, 161, 61, [.val (.ref 768), .val (.int p1), .val (.int p2), .val (.int v1), .val (.int v2), .val (.int v3)], v.toList ++ [], μ)) 4 ze18 e (fun n => Eq.refl _)
            obtain ⟨zt19, zh20, zh5⟩ := bnd zh5
            have zj21 : ∀ (v9 : Int32), v9 = zt19 → Ev (d + 1, 0, 0, 161, 71, [.val (.ref 768), .val (.int p1), .val (.int p2), .val (.int v9), .val (.int v2), .val (.int v3)], [], (126, 120, L, [Y, T, H2, H, RA, RB, ST, NS, I0, I1, I2, BO, FI, RG, GU, PU, MA, MN, MS, OT, SC], [r0, r1, r2, r3, w, 256, r6, r7, r8], Lg)) o := by
              intro v9 ze22
              subst ze22
              obtain ⟨x10, zh23, zh5⟩ := bnd zh5
              have zh23 : rdx (BO 1) 10 v3 = some x10 := zh23
              suffices e : Ev (d + 1, 0, 0, 161, 78, [.val (.ref 768), .val (.int p1), .val (.int p2), .val (.int v9), .val (.int v2), .val (.int v3)], [.int x10], (126, 120, L, [Y, T, H2, H, RA, RB, ST, NS, I0, I1, I2, BO, FI, RG, GU, PU, MA, MN, MS, OT, SC], [r0, r1, r2, r3, w, 256, r6, r7, r8], Lg)) o from ev_opt (fun x10 => (d + 1, 0, 0, 161, 78, [.val (.ref 768), .val (.int p1), .val (.int p2), .val (.int v9), .val (.int v2), .val (.int v3)], [.int x10], (126, 120, L, [Y, T, H2, H, RA, RB, ST, NS, I0, I1, I2, BO, FI, RG, GU, PU, MA, MN, MS, OT, SC], [r0, r1, r2, r3, w, 256, r6, r7, r8], Lg))) 4 zh23 e (fun n => Eq.refl _)
              by_cases zc24 : x10 ≠ p2
              · have zh5 := itp zh5 zc24
                suffices e : Ev (d + 1, 0, 0, 161, 91, [.val (.ref 768), .val (.int p1), .val (.int p2), .val (.int v9), .val (.int v2), .val (.int v3)], [], (126, 120, L, [Y, T, H2, H, RA, RB, ST, NS, I0, I1, I2, BO, FI, RG, GU, PU, MA, MN, MS, OT, SC], [r0, r1, r2, r3, w, 256, r6, r7, r8], Lg)) o from ev_t (c := x10 ≠ p2) _ _ 2  zc24 e (fun n => Eq.refl _)
                exact ev_b 2 (zi3 _ (Option.some.inj zh5).symm ()) (fun n => Eq.refl _)
              · have zh5 := itn zh5 zc24
                suffices e : Ev (d + 1, 0, 0, 161, 82, [.val (.ref 768), .val (.int p1), .val (.int p2), .val (.int v9), .val (.int v2), .val (.int v3)], [], (126, 120, L, [Y, T, H2, H, RA, RB, ST, NS, I0, I1, I2, BO, FI, RG, GU, PU, MA, MN, MS, OT, SC], [r0, r1, r2, r3, w, 256, r6, r7, r8], Lg)) o from ev_f (c := x10 ≠ p2) _ _ 2  zc24 e (fun n => Eq.refl _)
                exact ev_b 8 (zi3 _ (Option.some.inj zh5).symm ()) (fun n => Eq.refl _)
            by_cases zc25 : x8 = 0
            · have zh20 := itp zh20 zc25
              suffices e : Ev (d + 1, 0, 0, 161, 71, [.val (.ref 768), .val (.int p1), .val (.int p2), .val (.int v1), .val (.int v2), .val (.int v3)], [], (126, 120, L, [Y, T, H2, H, RA, RB, ST, NS, I0, I1, I2, BO, FI, RG, GU, PU, MA, MN, MS, OT, SC], [r0, r1, r2, r3, w, 256, r6, r7, r8], Lg)) o from ev_t (c := x8 = 0) _ _ 1  zc25 e (fun n => Eq.refl _)
              exact ev_b 0 (zj21 v1 (Option.some.inj zh20) ) (fun n => Eq.refl _)
            · have zh20 := itn zh20 zc25
              suffices e : Ev (d + 1, 0, 0, 161, 64, [.val (.ref 768), .val (.int p1), .val (.int p2), .val (.int v1), .val (.int v2), .val (.int v3)], [], (126, 120, L, [Y, T, H2, H, RA, RB, ST, NS, I0, I1, I2, BO, FI, RG, GU, PU, MA, MN, MS, OT, SC], [r0, r1, r2, r3, w, 256, r6, r7, r8], Lg)) o from ev_f (c := x8 = 0) _ _ 1  zc25 e (fun n => Eq.refl _)
              exact ev_b 6 (zj21 (v1 ||| (a_shl 1 v3)) (Option.some.inj zh20) ) (fun n => Eq.refl _)
  · obtain ⟨v11, v12⟩ := zb1
    intro s13
    have ze26 := Option.some.inj h
    subst ze26
    exact ev_rete 6 ho (fun n => Eq.refl _)
set_option maxRecDepth 1000000 in
set_option maxHeartbeats 4000000 in
theorem R_f_Board_isHeldPlace_1 (d : Nat) (Y T H2 H RA RB ST NS I0 I1 I2 BO FI RG GU PU MA MN MS OT SC : Nat → Nat → Int32) (r0 r1 r2 r3 w r6 r7 r8 : Nat) (L : Nat) (Lg : Int64) (p1 : Int32) {r : Int32} (h : f_Board_isHeldPlace BO p1 = some r) : Ev (d + 1, 0, 0, 159, 0, [.val (.ref 768), .val (.int p1)], [], (126, 120, L, [Y, T, H2, H, RA, RB, ST, NS, I0, I1, I2, BO, FI, RG, GU, PU, MA, MN, MS, OT, SC], [r0, r1, r2, r3, w, 256, r6, r7, r8], Lg)) ((0, some (.int r), (126, 120, L, [Y, T, H2, H, RA, RB, ST, NS, I0, I1, I2, BO, FI, RG, GU, PU, MA, MN, MS, OT, SC], [r0, r1, r2, r3, w, 256, r6, r7, r8], Lg)) : AOut) := by
  suffices key : ∀ o : AOut, ((0, some (.int r), (126, 120, L, [Y, T, H2, H, RA, RB, ST, NS, I0, I1, I2, BO, FI, RG, GU, PU, MA, MN, MS, OT, SC], [r0, r1, r2, r3, w, 256, r6, r7, r8], Lg)) : AOut) = o → Ev (d + 1, 0, 0, 159, 0, [.val (.ref 768), .val (.int p1)], [], (126, 120, L, [Y, T, H2, H, RA, RB, ST, NS, I0, I1, I2, BO, FI, RG, GU, PU, MA, MN, MS, OT, SC], [r0, r1, r2, r3, w, 256, r6, r7, r8], Lg)) o from key _ rfl
  intro o ho
  obtain ⟨x1, zh1, h⟩ := bnd h
  have zh1 : f_Y_roomOf p1 = some x1 := zh1
  have ze2 := R_f_Y_roomOf_0 (d + 0) Y T H2 H RA RB ST NS I0 I1 I2 BO FI RG GU PU MA MN MS OT SC r0 r1 r2 r3 w 256 r6 r7 r8 L Lg p1 zh1
  suffices e : Ev (d + 1, 0, 0, 159, 8, [.val (.ref 768), .val (.int p1)], [.int x1, .ref 771], (126, 120, L, [Y, T, H2, H, RA, RB, ST, NS, I0, I1, I2, BO, FI, RG, GU, PU, MA, MN, MS, OT, SC], [r0, r1, r2, r3, w, 256, r6, r7, r8], Lg)) o from ev_call (fun v μ => (d + 1, 0, 0, 159, 8, [.val (.ref 768), .val (.int p1)], v.toList ++ [.ref 771], μ)) 4 ze2 e (fun n => Eq.refl _)
  obtain ⟨x2, zh3, h⟩ := bnd h
  have zh3 : rdx (BO 3) 3 x1 = some x2 := zh3
  suffices e : Ev (d + 1, 0, 0, 159, 9, [.val (.ref 768), .val (.int p1)], [.int x2], (126, 120, L, [Y, T, H2, H, RA, RB, ST, NS, I0, I1, I2, BO, FI, RG, GU, PU, MA, MN, MS, OT, SC], [r0, r1, r2, r3, w, 256, r6, r7, r8], Lg)) o from ev_opt (fun x2 => (d + 1, 0, 0, 159, 9, [.val (.ref 768), .val (.int p1)], [.int x2], (126, 120, L, [Y, T, H2, H, RA, RB, ST, NS, I0, I1, I2, BO, FI, RG, GU, PU, MA, MN, MS, OT, SC], [r0, r1, r2, r3, w, 256, r6, r7, r8], Lg))) 1 zh3 e (fun n => Eq.refl _)
  obtain ⟨x3, zh4, h⟩ := bnd h
  have zh4 : f_Y_hourOf p1 = some x3 := zh4
  have ze5 := R_f_Y_hourOf_0 (d + 0) Y T H2 H RA RB ST NS I0 I1 I2 BO FI RG GU PU MA MN MS OT SC r0 r1 r2 r3 w 256 r6 r7 r8 L Lg p1 zh4
  suffices e : Ev (d + 1, 0, 0, 159, 13, [.val (.ref 768), .val (.int p1)], [.int x3, .int x2], (126, 120, L, [Y, T, H2, H, RA, RB, ST, NS, I0, I1, I2, BO, FI, RG, GU, PU, MA, MN, MS, OT, SC], [r0, r1, r2, r3, w, 256, r6, r7, r8], Lg)) o from ev_call (fun v μ => (d + 1, 0, 0, 159, 13, [.val (.ref 768), .val (.int p1)], v.toList ++ [.int x2], μ)) 2 ze5 e (fun n => Eq.refl _)
  by_cases zc6 : ((a_shr x2 x3) &&& 1) = 0
  · have h := itp h zc6
    suffices e : Ev (d + 1, 0, 0, 159, 23, [.val (.ref 768), .val (.int p1)], [], (126, 120, L, [Y, T, H2, H, RA, RB, ST, NS, I0, I1, I2, BO, FI, RG, GU, PU, MA, MN, MS, OT, SC], [r0, r1, r2, r3, w, 256, r6, r7, r8], Lg)) o from ev_t (c := ((a_shr x2 x3) &&& 1) = 0) _ _ 4  zc6 e (fun n => Eq.refl _)
    have ze7 := Option.some.inj h
    subst ze7
    exact ev_rete 2 ho (fun n => Eq.refl _)
  · have h := itn h zc6
    suffices e : Ev (d + 1, 0, 0, 159, 19, [.val (.ref 768), .val (.int p1)], [], (126, 120, L, [Y, T, H2, H, RA, RB, ST, NS, I0, I1, I2, BO, FI, RG, GU, PU, MA, MN, MS, OT, SC], [r0, r1, r2, r3, w, 256, r6, r7, r8], Lg)) o from ev_f (c := ((a_shr x2 x3) &&& 1) = 0) _ _ 4  zc6 e (fun n => Eq.refl _)
    have ze8 := Option.some.inj h
    subst ze8
    exact ev_rete 3 ho (fun n => Eq.refl _)
set_option maxRecDepth 1000000 in
set_option maxHeartbeats 4000000 in
theorem R_f_Board_clashes_1 (d : Nat) (Y T H2 H RA RB ST NS I0 I1 I2 BO FI RG GU PU MA MN MS OT SC : Nat → Nat → Int32) (r0 r1 r2 r3 w r6 r7 r8 : Nat) (L : Nat) (Lg : Int64) (p1 : Int32) (p2 : Int32) {r : Int32} (h : f_Board_clashes H BO p1 p2 = some r) : Ev (d + 2, 0, 0, 164, 0, [.val (.ref 768), .val (.int p1), .val (.int p2), .val a_unk, .val a_unk], [], (126, 120, L, [Y, T, H2, H, RA, RB, ST, NS, I0, I1, I2, BO, FI, RG, GU, PU, MA, MN, MS, OT, SC], [r0, r1, r2, r3, w, 256, r6, r7, r8], Lg)) ((0, some (.int r), (126, 120, L, [Y, T, H2, H, RA, RB, ST, NS, I0, I1, I2, BO, FI, RG, GU, PU, MA, MN, MS, OT, SC], [r0, r1, r2, r3, w, 256, r6, r7, r8], Lg)) : AOut) := by
  suffices key : ∀ o : AOut, ((0, some (.int r), (126, 120, L, [Y, T, H2, H, RA, RB, ST, NS, I0, I1, I2, BO, FI, RG, GU, PU, MA, MN, MS, OT, SC], [r0, r1, r2, r3, w, 256, r6, r7, r8], Lg)) : AOut) = o → Ev (d + 2, 0, 0, 164, 0, [.val (.ref 768), .val (.int p1), .val (.int p2), .val a_unk, .val a_unk], [], (126, 120, L, [Y, T, H2, H, RA, RB, ST, NS, I0, I1, I2, BO, FI, RG, GU, PU, MA, MN, MS, OT, SC], [r0, r1, r2, r3, w, 256, r6, r7, r8], Lg)) o from key _ rfl
  intro o ho
  obtain ⟨x1, zh1, h⟩ := bnd h
  have zh1 : f_Board_lastingClashes H p1 p2 = some x1 := zh1
  have ze2 := R_f_Board_lastingClashes_1 (d + 0) Y T H2 H RA RB ST NS I0 I1 I2 BO FI RG GU PU MA MN MS OT SC r0 r1 r2 r3 w r6 r7 r8 L Lg p1 p2 zh1
  suffices e : Ev (d + 2, 0, 0, 164, 6, [.val (.ref 768), .val (.int p1), .val (.int p2), .val a_unk, .val a_unk], [.int x1], (126, 120, L, [Y, T, H2, H, RA, RB, ST, NS, I0, I1, I2, BO, FI, RG, GU, PU, MA, MN, MS, OT, SC], [r0, r1, r2, r3, w, 256, r6, r7, r8], Lg)) o from ev_call (fun v μ => (d + 2, 0, 0, 164, 6, [.val (.ref 768), .val (.int p1), .val (.int p2), .val a_unk, .val a_unk], v.toList ++ [], μ)) 4 ze2 e (fun n => Eq.refl _)
  obtain ⟨x2, zh3, h⟩ := bnd h
  have zh3 : f_Board_othersThere H BO p1 p2 = some x2 := zh3
  have ze4 := R_f_Board_othersThere_1 (d + 0) Y T H2 H RA RB ST NS I0 I1 I2 BO FI RG GU PU MA MN MS OT SC r0 r1 r2 r3 w r6 r7 r8 L Lg p1 p2 zh3
  suffices e : Ev (d + 2, 0, 0, 164, 13, [.val (.ref 768), .val (.int p1), .val (.int p2), .val (.int x1), .val a_unk], [.int x2], (126, 120, L, [Y, T, H2, H, RA, RB, ST, NS, I0, I1, I2, BO, FI, RG, GU, PU, MA, MN, MS, OT, SC], [r0, r1, r2, r3, w, 256, r6, r7, r8], Lg)) o from ev_call (fun v μ => (d + 2, 0, 0, 164, 13, [.val (.ref 768), .val (.int p1), .val (.int p2), .val (.int x1), .val a_unk], v.toList ++ [], μ)) 5 ze4 e (fun n => Eq.refl _)
  obtain ⟨zt5, zh6, h⟩ := bnd h
  have zj7 : ∀ (v3 : Int32), v3 = zt5 → Ev (d + 2, 0, 0, 164, 28, [.val (.ref 768), .val (.int p1), .val (.int p2), .val (.int v3), .val (.int x2)], [], (126, 120, L, [Y, T, H2, H, RA, RB, ST, NS, I0, I1, I2, BO, FI, RG, GU, PU, MA, MN, MS, OT, SC], [r0, r1, r2, r3, w, 256, r6, r7, r8], Lg)) o := by
    intro v3 ze8
    subst ze8
    obtain ⟨zt9, zh10, h⟩ := bnd h
    have zj11 : zt9 = .inl () → Ev (d + 2, 0, 0, 164, 44, [.val (.ref 768), .val (.int p1), .val (.int p2), .val (.int v3), .val (.int x2)], [], (126, 120, L, [Y, T, H2, H, RA, RB, ST, NS, I0, I1, I2, BO, FI, RG, GU, PU, MA, MN, MS, OT, SC], [r0, r1, r2, r3, w, 256, r6, r7, r8], Lg)) o := by
      intro ze12
      have h := sum_l h ze12
      have ze13 := Option.some.inj h
      subst ze13
      exact ev_rete 6 ho (fun n => Eq.refl _)
    by_cases zc14 : (a_shr x2 10) ≠ 0
    · have zh10 := itp zh10 zc14
      suffices e : Ev (d + 2, 0, 0, 164, 44, [.val (.ref 768), .val (.int p1), .val (.int p2), .val (.int v3), .val (.int x2)], [], (126, 120, L, [Y, T, H2, H, RA, RB, ST, NS, I0, I1, I2, BO, FI, RG, GU, PU, MA, MN, MS, OT, SC], [r0, r1, r2, r3, w, 256, r6, r7, r8], Lg)) o from ev_t (c := (a_shr x2 10) ≠ 0) _ _ 4  zc14 e (fun n => Eq.refl _)
      exact ev_b 0 (zj11  (Option.some.inj zh10).symm ) (fun n => Eq.refl _)
    · have zh10 := itn zh10 zc14
      suffices e : Ev (d + 2, 0, 0, 164, 36, [.val (.ref 768), .val (.int p1), .val (.int p2), .val (.int v3), .val (.int x2)], [], (126, 120, L, [Y, T, H2, H, RA, RB, ST, NS, I0, I1, I2, BO, FI, RG, GU, PU, MA, MN, MS, OT, SC], [r0, r1, r2, r3, w, 256, r6, r7, r8], Lg)) o from ev_f (c := (a_shr x2 10) ≠ 0) _ _ 4  zc14 e (fun n => Eq.refl _)
      obtain ⟨x4, zh15, zh10⟩ := bnd zh10
      have zh15 : f_Board_isHeldPlace BO p2 = some x4 := zh15
      have ze16 := R_f_Board_isHeldPlace_1 (d + 0) Y T H2 H RA RB ST NS I0 I1 I2 BO FI RG GU PU MA MN MS OT SC r0 r1 r2 r3 w r6 r7 r8 L Lg p2 zh15
      suffices e : Ev (d + 2, 0, 0, 164, 41, [.val (.ref 768), .val (.int p1), .val (.int p2), .val (.int v3), .val (.int x2)], [.int x4], (126, 120, L, [Y, T, H2, H, RA, RB, ST, NS, I0, I1, I2, BO, FI, RG, GU, PU, MA, MN, MS, OT, SC], [r0, r1, r2, r3, w, 256, r6, r7, r8], Lg)) o from ev_call (fun v μ => (d + 2, 0, 0, 164, 41, [.val (.ref 768), .val (.int p1), .val (.int p2), .val (.int v3), .val (.int x2)], v.toList ++ [], μ)) 3 ze16 e (fun n => Eq.refl _)
      by_cases zc17 : x4 = 0
      · have zh10 := itp zh10 zc17
        suffices e : Ev (d + 2, 0, 0, 164, 49, [.val (.ref 768), .val (.int p1), .val (.int p2), .val (.int v3), .val (.int x2)], [], (126, 120, L, [Y, T, H2, H, RA, RB, ST, NS, I0, I1, I2, BO, FI, RG, GU, PU, MA, MN, MS, OT, SC], [r0, r1, r2, r3, w, 256, r6, r7, r8], Lg)) o from ev_t (c := x4 = 0) _ _ 1  zc17 e (fun n => Eq.refl _)
        have zh18 := sum_r h (Option.some.inj zh10).symm
        have ze19 := Option.some.inj zh18
        subst ze19
        exact ev_rete 2 ho (fun n => Eq.refl _)
      · have zh10 := itn zh10 zc17
        suffices e : Ev (d + 2, 0, 0, 164, 44, [.val (.ref 768), .val (.int p1), .val (.int p2), .val (.int v3), .val (.int x2)], [], (126, 120, L, [Y, T, H2, H, RA, RB, ST, NS, I0, I1, I2, BO, FI, RG, GU, PU, MA, MN, MS, OT, SC], [r0, r1, r2, r3, w, 256, r6, r7, r8], Lg)) o from ev_f (c := x4 = 0) _ _ 1  zc17 e (fun n => Eq.refl _)
        exact ev_b 0 (zj11  (Option.some.inj zh10).symm ) (fun n => Eq.refl _)
  by_cases zc20 : (x2 &&& 1023) = 0
  · have zh6 := itp zh6 zc20
    suffices e : Ev (d + 2, 0, 0, 164, 28, [.val (.ref 768), .val (.int p1), .val (.int p2), .val (.int x1), .val (.int x2)], [], (126, 120, L, [Y, T, H2, H, RA, RB, ST, NS, I0, I1, I2, BO, FI, RG, GU, PU, MA, MN, MS, OT, SC], [r0, r1, r2, r3, w, 256, r6, r7, r8], Lg)) o from ev_t (c := (x2 &&& 1023) = 0) _ _ 5  zc20 e (fun n => Eq.refl _)
    exact ev_b 0 (zj7 x1 (Option.some.inj zh6) ) (fun n => Eq.refl _)
  · have zh6 := itn zh6 zc20
    suffices e : Ev (d + 2, 0, 0, 164, 24, [.val (.ref 768), .val (.int p1), .val (.int p2), .val (.int x1), .val (.int x2)], [], (126, 120, L, [Y, T, H2, H, RA, RB, ST, NS, I0, I1, I2, BO, FI, RG, GU, PU, MA, MN, MS, OT, SC], [r0, r1, r2, r3, w, 256, r6, r7, r8], Lg)) o from ev_f (c := (x2 &&& 1023) = 0) _ _ 5  zc20 e (fun n => Eq.refl _)
    exact ev_b 4 (zj7 (x1 ||| 4) (Option.some.inj zh6) ) (fun n => Eq.refl _)
set_option maxRecDepth 1000000 in
set_option maxHeartbeats 4000000 in
theorem R_f_Y_clash_2 (d : Nat) (Y T H2 H RU RV ST NS I0 I1 I2 BO FI RG GU PU MA MN MS OT SC : Nat → Nat → Int32) (w r5 : Nat) (L : Nat) (Lg : Int64) (p1 : Int32) (p2 : Int32) (p3 : Int32) {r : Nat × Int32 × (Nat → Nat → Int32) × (Nat → Nat → Int32) × Nat} (h : f_Y_clash Y H NS BO 256 r5 p1 p2 p3 = some r) : Ev (d + 3, 3, 24, 293, 0, [.val (.ref 64), .val (.int p1), .val (.int p2), .val (.int p3)], [], (126, 120, L, [Y, T, H2, H, RU, RV, ST, NS, I0, I1, I2, BO, FI, RG, GU, PU, MA, MN, MS, OT, SC], [256, 192, 320, 384, w, r5, 576, 640, 704], Lg)) ((r.1, a_ov r.1 (.int r.2.1), (126, 120, L, [r.2.2.1, T, H2, H, RU, RV, ST, NS, I0, I1, I2, r.2.2.2.1, FI, RG, GU, PU, MA, MN, MS, OT, SC], [256, 192, 320, 384, w, r.2.2.2.2, 576, 640, 704], Lg)) : AOut) := by
  suffices key : ∀ o : AOut, ((r.1, a_ov r.1 (.int r.2.1), (126, 120, L, [r.2.2.1, T, H2, H, RU, RV, ST, NS, I0, I1, I2, r.2.2.2.1, FI, RG, GU, PU, MA, MN, MS, OT, SC], [256, 192, 320, 384, w, r.2.2.2.2, 576, 640, 704], Lg)) : AOut) = o → Ev (d + 3, 3, 24, 293, 0, [.val (.ref 64), .val (.int p1), .val (.int p2), .val (.int p3)], [], (126, 120, L, [Y, T, H2, H, RU, RV, ST, NS, I0, I1, I2, BO, FI, RG, GU, PU, MA, MN, MS, OT, SC], [256, 192, 320, 384, w, r5, 576, 640, 704], Lg)) o from key _ rfl
  intro o ho
  obtain ⟨⟨q1, Y_2⟩, zh1, h⟩ := bnd h
  have zh1 : f_Y_needPlace Y H p1 p2 p3 = some (q1, Y_2) := zh1
  have ze2 := R_f_Y_needPlace_2 (d + 0) Y T H2 H RU RV ST NS I0 I1 I2 BO FI RG GU PU MA MN MS OT SC w r5 L Lg p1 p2 p3 zh1
  cases q1 with
  | zero =>
    have h := itp h rfl
    suffices e : Ev (d + 3, 0, 0, 293, 7, [.val (.ref 64), .val (.int p1), .val (.int p2), .val (.int p3)], [], (126, 120, L, [Y_2, T, H2, H, RU, RV, ST, NS, I0, I1, I2, BO, FI, RG, GU, PU, MA, MN, MS, OT, SC], [256, 192, 320, 384, w, r5, 576, 640, 704], Lg)) o from ev_call (fun v μ => (d + 3, 0, 0, 293, 7, [.val (.ref 64), .val (.int p1), .val (.int p2), .val (.int p3)], v.toList ++ [], μ)) 5 ze2 e (fun n => Eq.refl _)
    obtain ⟨BO_4, zh3, h⟩ := bnd h
    have zh3 : f_Y_lookNow H NS BO = some BO_4 := zh3
    have ze4 := R_f_Y_lookNow_2 (d + 0) Y_2 T H2 H RU RV ST NS I0 I1 I2 BO FI RG GU PU MA MN MS OT SC w r5 L Lg zh3
    suffices e : Ev (d + 3, 0, 0, 293, 11, [.val (.ref 64), .val (.int p1), .val (.int p2), .val (.int p3)], [.ref 768], (126, 120, L, [Y_2, T, H2, H, RU, RV, ST, NS, I0, I1, I2, BO_4, FI, RG, GU, PU, MA, MN, MS, OT, SC], [256, 192, 320, 384, w, 256, 576, 640, 704], Lg)) o from ev_call (fun v μ => (d + 3, 0, 0, 293, 11, [.val (.ref 64), .val (.int p1), .val (.int p2), .val (.int p3)], v.toList ++ [], μ)) 2 ze4 e (fun n => Eq.refl _)
    obtain ⟨x5, zh5, h⟩ := bnd h
    have zh5 : f_Y_placeOf p2 p3 = some x5 := zh5
    have ze6 := R_f_Y_placeOf_0 (d + 2) Y_2 T H2 H RU RV ST NS I0 I1 I2 BO_4 FI RG GU PU MA MN MS OT SC 256 192 320 384 w 256 576 640 704 L Lg p2 p3 zh5
    suffices e : Ev (d + 3, 0, 0, 293, 17, [.val (.ref 64), .val (.int p1), .val (.int p2), .val (.int p3)], [.int x5, .int p1, .ref 768], (126, 120, L, [Y_2, T, H2, H, RU, RV, ST, NS, I0, I1, I2, BO_4, FI, RG, GU, PU, MA, MN, MS, OT, SC], [256, 192, 320, 384, w, 256, 576, 640, 704], Lg)) o from ev_call (fun v μ => (d + 3, 0, 0, 293, 17, [.val (.ref 64), .val (.int p1), .val (.int p2), .val (.int p3)], v.toList ++ [.int p1, .ref 768], μ)) 4 ze6 e (fun n => Eq.refl _)
    obtain ⟨x6, zh7, h⟩ := bnd h
    have zh7 : f_Board_clashes H BO_4 p1 x5 = some x6 := zh7
    have ze8 := R_f_Board_clashes_1 (d + 0) Y_2 T H2 H RU RV ST NS I0 I1 I2 BO_4 FI RG GU PU MA MN MS OT SC 256 192 320 384 w 576 640 704 L Lg p1 x5 zh7
    suffices e : Ev (d + 3, 0, 0, 293, 20, [.val (.ref 64), .val (.int p1), .val (.int p2), .val (.int p3)], [.int x6], (126, 120, L, [Y_2, T, H2, H, RU, RV, ST, NS, I0, I1, I2, BO_4, FI, RG, GU, PU, MA, MN, MS, OT, SC], [256, 192, 320, 384, w, 256, 576, 640, 704], Lg)) o from ev_call (fun v μ => (d + 3, 0, 0, 293, 20, [.val (.ref 64), .val (.int p1), .val (.int p2), .val (.int p3)], v.toList ++ [], μ)) 1 ze8 e (fun n => Eq.refl _)
    have ze9 := Option.some.inj h
    subst ze9
    exact ev_rete 1 ho (fun n => Eq.refl _)
  | succ q1 =>
    have h := itn h (Nat.succ_ne_zero q1)
    have ze10 := Option.some.inj h
    subst ze10
    subst ho
    exact ev_thr (fun v μ => (d + 3, 0, 0, 293, 7, [.val (.ref 64), .val (.int p1), .val (.int p2), .val (.int p3)], v.toList ++ [], μ)) 5 ze2 (fun n => Eq.refl _) (fun n => rfl)
set_option maxRecDepth 1000000 in
set_option maxHeartbeats 4000000 in
theorem R_f_Y_needPlace_3 (d : Nat) (Y T H2 H RV RU ST NS I0 I1 I2 BO FI RG GU PU MA MN MS OT SC : Nat → Nat → Int32) (w r5 : Nat) (L : Nat) (Lg : Int64) (p1 : Int32) (p2 : Int32) (p3 : Int32) {r : Nat × (Nat → Nat → Int32)} (h : f_Y_needPlace Y H p1 p2 p3 = some r) : Ev (d + 2, 3, 24, 340, 0, [.val (.ref 64), .val (.int p1), .val (.int p2), .val (.int p3)], [], (126, 120, L, [Y, T, H2, H, RV, RU, ST, NS, I0, I1, I2, BO, FI, RG, GU, PU, MA, MN, MS, OT, SC], [256, 192, 384, 320, w, r5, 576, 640, 704], Lg)) ((r.1, none, (126, 120, L, [r.2, T, H2, H, RV, RU, ST, NS, I0, I1, I2, BO, FI, RG, GU, PU, MA, MN, MS, OT, SC], [256, 192, 384, 320, w, r5, 576, 640, 704], Lg)) : AOut) := by
  suffices key : ∀ o : AOut, ((r.1, none, (126, 120, L, [r.2, T, H2, H, RV, RU, ST, NS, I0, I1, I2, BO, FI, RG, GU, PU, MA, MN, MS, OT, SC], [256, 192, 384, 320, w, r5, 576, 640, 704], Lg)) : AOut) = o → Ev (d + 2, 3, 24, 340, 0, [.val (.ref 64), .val (.int p1), .val (.int p2), .val (.int p3)], [], (126, 120, L, [Y, T, H2, H, RV, RU, ST, NS, I0, I1, I2, BO, FI, RG, GU, PU, MA, MN, MS, OT, SC], [256, 192, 384, 320, w, r5, 576, 640, 704], Lg)) o from key _ rfl
  intro o ho
  obtain ⟨⟨q1, Y_2⟩, zh1, h⟩ := bnd h
  have zh1 : f_Y_needMeeting Y H p1 = some (q1, Y_2) := zh1
  have ze2 := R_f_Y_needMeeting_3 (d + 0) Y T H2 H RV RU ST NS I0 I1 I2 BO FI RG GU PU MA MN MS OT SC w r5 L Lg p1 zh1
  cases q1 with
  | zero =>
    have h := itp h rfl
    suffices e : Ev (d + 2, 2, 16, 340, 5, [.val (.ref 64), .val (.int p1), .val (.int p2), .val (.int p3)], [], (126, 120, L, [Y_2, T, H2, H, RV, RU, ST, NS, I0, I1, I2, BO, FI, RG, GU, PU, MA, MN, MS, OT, SC], [256, 192, 384, 320, w, r5, 576, 640, 704], Lg)) o from ev_call (fun v μ => (d + 2, 2, 16, 340, 5, [.val (.ref 64), .val (.int p1), .val (.int p2), .val (.int p3)], v.toList ++ [], μ)) 3 ze2 e (fun n => Eq.refl _)
    obtain ⟨⟨q3, Y_4⟩, zh3, h⟩ := bnd h
    have zh3 : f_Y_needRoom Y_2 H p3 = some (q3, Y_4) := zh3
    have ze4 := R_f_Y_needRoom_3 (d + 0) Y_2 T H2 H RV RU ST NS I0 I1 I2 BO FI RG GU PU MA MN MS OT SC w r5 L Lg p3 zh3
    cases q3 with
    | zero =>
      have h := itp h rfl
      suffices e : Ev (d + 2, 1, 8, 340, 10, [.val (.ref 64), .val (.int p1), .val (.int p2), .val (.int p3)], [], (126, 120, L, [Y_4, T, H2, H, RV, RU, ST, NS, I0, I1, I2, BO, FI, RG, GU, PU, MA, MN, MS, OT, SC], [256, 192, 384, 320, w, r5, 576, 640, 704], Lg)) o from ev_call (fun v μ => (d + 2, 1, 8, 340, 10, [.val (.ref 64), .val (.int p1), .val (.int p2), .val (.int p3)], v.toList ++ [], μ)) 3 ze4 e (fun n => Eq.refl _)
      obtain ⟨⟨q5, Y_6⟩, zh5, h⟩ := bnd h
      have zh5 : f_Y_needHour Y_4 H p2 = some (q5, Y_6) := zh5
      have ze6 := R_f_Y_needHour_3 (d + 0) Y_4 T H2 H RV RU ST NS I0 I1 I2 BO FI RG GU PU MA MN MS OT SC w r5 L Lg p2 zh5
      cases q5 with
      | zero =>
        have h := itp h rfl
        suffices e : Ev (d + 2, 0, 0, 340, 15, [.val (.ref 64), .val (.int p1), .val (.int p2), .val (.int p3)], [], (126, 120, L, [Y_6, T, H2, H, RV, RU, ST, NS, I0, I1, I2, BO, FI, RG, GU, PU, MA, MN, MS, OT, SC], [256, 192, 384, 320, w, r5, 576, 640, 704], Lg)) o from ev_call (fun v μ => (d + 2, 0, 0, 340, 15, [.val (.ref 64), .val (.int p1), .val (.int p2), .val (.int p3)], v.toList ++ [], μ)) 3 ze6 e (fun n => Eq.refl _)
        have ze7 := Option.some.inj h
        subst ze7
        exact ev_rete 1 ho (fun n => Eq.refl _)
      | succ q5 =>
        have h := itn h (Nat.succ_ne_zero q5)
        have ze8 := Option.some.inj h
        subst ze8
        subst ho
        exact ev_thr (fun v μ => (d + 2, 0, 0, 340, 15, [.val (.ref 64), .val (.int p1), .val (.int p2), .val (.int p3)], v.toList ++ [], μ)) 3 ze6 (fun n => Eq.refl _) (fun n => rfl)
    | succ q3 =>
      have h := itn h (Nat.succ_ne_zero q3)
      have ze9 := Option.some.inj h
      subst ze9
      subst ho
      exact ev_thr (fun v μ => (d + 2, 1, 8, 340, 10, [.val (.ref 64), .val (.int p1), .val (.int p2), .val (.int p3)], v.toList ++ [], μ)) 3 ze4 (fun n => Eq.refl _) (fun n => rfl)
  | succ q1 =>
    have h := itn h (Nat.succ_ne_zero q1)
    have ze10 := Option.some.inj h
    subst ze10
    subst ho
    exact ev_thr (fun v μ => (d + 2, 2, 16, 340, 5, [.val (.ref 64), .val (.int p1), .val (.int p2), .val (.int p3)], v.toList ++ [], μ)) 3 ze2 (fun n => Eq.refl _) (fun n => rfl)
set_option maxRecDepth 1000000 in
set_option maxHeartbeats 4000000 in
theorem R_f_Y_clash_3 (d : Nat) (Y T H2 H RV RU ST NS I0 I1 I2 BO FI RG GU PU MA MN MS OT SC : Nat → Nat → Int32) (w r5 : Nat) (L : Nat) (Lg : Int64) (p1 : Int32) (p2 : Int32) (p3 : Int32) {r : Nat × Int32 × (Nat → Nat → Int32) × (Nat → Nat → Int32) × Nat} (h : f_Y_clash Y H NS BO 256 r5 p1 p2 p3 = some r) : Ev (d + 3, 3, 24, 293, 0, [.val (.ref 64), .val (.int p1), .val (.int p2), .val (.int p3)], [], (126, 120, L, [Y, T, H2, H, RV, RU, ST, NS, I0, I1, I2, BO, FI, RG, GU, PU, MA, MN, MS, OT, SC], [256, 192, 384, 320, w, r5, 576, 640, 704], Lg)) ((r.1, a_ov r.1 (.int r.2.1), (126, 120, L, [r.2.2.1, T, H2, H, RV, RU, ST, NS, I0, I1, I2, r.2.2.2.1, FI, RG, GU, PU, MA, MN, MS, OT, SC], [256, 192, 384, 320, w, r.2.2.2.2, 576, 640, 704], Lg)) : AOut) := by
  suffices key : ∀ o : AOut, ((r.1, a_ov r.1 (.int r.2.1), (126, 120, L, [r.2.2.1, T, H2, H, RV, RU, ST, NS, I0, I1, I2, r.2.2.2.1, FI, RG, GU, PU, MA, MN, MS, OT, SC], [256, 192, 384, 320, w, r.2.2.2.2, 576, 640, 704], Lg)) : AOut) = o → Ev (d + 3, 3, 24, 293, 0, [.val (.ref 64), .val (.int p1), .val (.int p2), .val (.int p3)], [], (126, 120, L, [Y, T, H2, H, RV, RU, ST, NS, I0, I1, I2, BO, FI, RG, GU, PU, MA, MN, MS, OT, SC], [256, 192, 384, 320, w, r5, 576, 640, 704], Lg)) o from key _ rfl
  intro o ho
  obtain ⟨⟨q1, Y_2⟩, zh1, h⟩ := bnd h
  have zh1 : f_Y_needPlace Y H p1 p2 p3 = some (q1, Y_2) := zh1
  have ze2 := R_f_Y_needPlace_3 (d + 0) Y T H2 H RV RU ST NS I0 I1 I2 BO FI RG GU PU MA MN MS OT SC w r5 L Lg p1 p2 p3 zh1
  cases q1 with
  | zero =>
    have h := itp h rfl
    suffices e : Ev (d + 3, 0, 0, 293, 7, [.val (.ref 64), .val (.int p1), .val (.int p2), .val (.int p3)], [], (126, 120, L, [Y_2, T, H2, H, RV, RU, ST, NS, I0, I1, I2, BO, FI, RG, GU, PU, MA, MN, MS, OT, SC], [256, 192, 384, 320, w, r5, 576, 640, 704], Lg)) o from ev_call (fun v μ => (d + 3, 0, 0, 293, 7, [.val (.ref 64), .val (.int p1), .val (.int p2), .val (.int p3)], v.toList ++ [], μ)) 5 ze2 e (fun n => Eq.refl _)
    obtain ⟨BO_4, zh3, h⟩ := bnd h
    have zh3 : f_Y_lookNow H NS BO = some BO_4 := zh3
    have ze4 := R_f_Y_lookNow_3 (d + 0) Y_2 T H2 H RV RU ST NS I0 I1 I2 BO FI RG GU PU MA MN MS OT SC w r5 L Lg zh3
    suffices e : Ev (d + 3, 0, 0, 293, 11, [.val (.ref 64), .val (.int p1), .val (.int p2), .val (.int p3)], [.ref 768], (126, 120, L, [Y_2, T, H2, H, RV, RU, ST, NS, I0, I1, I2, BO_4, FI, RG, GU, PU, MA, MN, MS, OT, SC], [256, 192, 384, 320, w, 256, 576, 640, 704], Lg)) o from ev_call (fun v μ => (d + 3, 0, 0, 293, 11, [.val (.ref 64), .val (.int p1), .val (.int p2), .val (.int p3)], v.toList ++ [], μ)) 2 ze4 e (fun n => Eq.refl _)
    obtain ⟨x5, zh5, h⟩ := bnd h
    have zh5 : f_Y_placeOf p2 p3 = some x5 := zh5
    have ze6 := R_f_Y_placeOf_0 (d + 2) Y_2 T H2 H RV RU ST NS I0 I1 I2 BO_4 FI RG GU PU MA MN MS OT SC 256 192 384 320 w 256 576 640 704 L Lg p2 p3 zh5
    suffices e : Ev (d + 3, 0, 0, 293, 17, [.val (.ref 64), .val (.int p1), .val (.int p2), .val (.int p3)], [.int x5, .int p1, .ref 768], (126, 120, L, [Y_2, T, H2, H, RV, RU, ST, NS, I0, I1, I2, BO_4, FI, RG, GU, PU, MA, MN, MS, OT, SC], [256, 192, 384, 320, w, 256, 576, 640, 704], Lg)) o from ev_call (fun v μ => (d + 3, 0, 0, 293, 17, [.val (.ref 64), .val (.int p1), .val (.int p2), .val (.int p3)], v.toList ++ [.int p1, .ref 768], μ)) 4 ze6 e (fun n => Eq.refl _)
    obtain ⟨x6, zh7, h⟩ := bnd h
    have zh7 : f_Board_clashes H BO_4 p1 x5 = some x6 := zh7
    have ze8 := R_f_Board_clashes_1 (d + 0) Y_2 T H2 H RV RU ST NS I0 I1 I2 BO_4 FI RG GU PU MA MN MS OT SC 256 192 384 320 w 576 640 704 L Lg p1 x5 zh7
    suffices e : Ev (d + 3, 0, 0, 293, 20, [.val (.ref 64), .val (.int p1), .val (.int p2), .val (.int p3)], [.int x6], (126, 120, L, [Y_2, T, H2, H, RV, RU, ST, NS, I0, I1, I2, BO_4, FI, RG, GU, PU, MA, MN, MS, OT, SC], [256, 192, 384, 320, w, 256, 576, 640, 704], Lg)) o from ev_call (fun v μ => (d + 3, 0, 0, 293, 20, [.val (.ref 64), .val (.int p1), .val (.int p2), .val (.int p3)], v.toList ++ [], μ)) 1 ze8 e (fun n => Eq.refl _)
    have ze9 := Option.some.inj h
    subst ze9
    exact ev_rete 1 ho (fun n => Eq.refl _)
  | succ q1 =>
    have h := itn h (Nat.succ_ne_zero q1)
    have ze10 := Option.some.inj h
    subst ze10
    subst ho
    exact ev_thr (fun v μ => (d + 3, 0, 0, 293, 7, [.val (.ref 64), .val (.int p1), .val (.int p2), .val (.int p3)], v.toList ++ [], μ)) 5 ze2 (fun n => Eq.refl _) (fun n => rfl)
set_option maxRecDepth 1000000 in
set_option maxHeartbeats 4000000 in
theorem R_f_Board_openHours_0 (d : Nat) (Y T H H2 RA RB ST NS I0 I1 I2 BO FI RG GU PU MA MN MS OT SC : Nat → Nat → Int32) (r0 r1 r2 r3 w r6 r7 r8 : Nat) (L : Nat) (Lg : Int64) (p1 : Int32) (p2 : Int32) {r : Int32} (h : f_Board_openHours H BO p1 p2 = some r) : Ev (d + 1, 0, 0, 165, 0, [.val (.ref 768), .val (.int p1), .val (.int p2), .val a_unk, .val a_unk, .val a_unk], [], (126, 120, L, [Y, T, H, H2, RA, RB, ST, NS, I0, I1, I2, BO, FI, RG, GU, PU, MA, MN, MS, OT, SC], [r0, r1, r2, r3, w, 192, r6, r7, r8], Lg)) ((0, some (.int r), (126, 120, L, [Y, T, H, H2, RA, RB, ST, NS, I0, I1, I2, BO, FI, RG, GU, PU, MA, MN, MS, OT, SC], [r0, r1, r2, r3, w, 192, r6, r7, r8], Lg)) : AOut) := by
  suffices key : ∀ o : AOut, ((0, some (.int r), (126, 120, L, [Y, T, H, H2, RA, RB, ST, NS, I0, I1, I2, BO, FI, RG, GU, PU, MA, MN, MS, OT, SC], [r0, r1, r2, r3, w, 192, r6, r7, r8], Lg)) : AOut) = o → Ev (d + 1, 0, 0, 165, 0, [.val (.ref 768), .val (.int p1), .val (.int p2), .val a_unk, .val a_unk, .val a_unk], [], (126, 120, L, [Y, T, H, H2, RA, RB, ST, NS, I0, I1, I2, BO, FI, RG, GU, PU, MA, MN, MS, OT, SC], [r0, r1, r2, r3, w, 192, r6, r7, r8], Lg)) o from key _ rfl
  intro o ho
  suffices e : Ev (d + 1, 0, 0, 165, 4, [.val (.ref 768), .val (.int p1), .val (.int p2), .val a_unk, .val a_unk, .val a_unk], [.ref 192], (126, 120, L, [Y, T, H, H2, RA, RB, ST, NS, I0, I1, I2, BO, FI, RG, GU, PU, MA, MN, MS, OT, SC], [r0, r1, r2, r3, w, 192, r6, r7, r8], Lg)) o from ev_b 2 e (fun n => Eq.refl _)
  obtain ⟨x1, zh1, h⟩ := bnd h
  have zh1 : rdx (H 8) 10 p1 = some x1 := zh1
  suffices e : Ev (d + 1, 0, 0, 165, 9, [.val (.ref 768), .val (.int p1), .val (.int p2), .val a_unk, .val a_unk, .val a_unk], [.int x1], (126, 120, L, [Y, T, H, H2, RA, RB, ST, NS, I0, I1, I2, BO, FI, RG, GU, PU, MA, MN, MS, OT, SC], [r0, r1, r2, r3, w, 192, r6, r7, r8], Lg)) o from ev_opt (fun x1 => (d + 1, 0, 0, 165, 9, [.val (.ref 768), .val (.int p1), .val (.int p2), .val a_unk, .val a_unk, .val a_unk], [.int x1], (126, 120, L, [Y, T, H, H2, RA, RB, ST, NS, I0, I1, I2, BO, FI, RG, GU, PU, MA, MN, MS, OT, SC], [r0, r1, r2, r3, w, 192, r6, r7, r8], Lg))) 3 zh1 e (fun n => Eq.refl _)
  obtain ⟨x2, zh2, h⟩ := bnd h
  have zh2 : f_Integer_bitCount x1 = some x2 := zh2
  have ze3 := R_f_Integer_bitCount_0 (d + 0) Y T H H2 RA RB ST NS I0 I1 I2 BO FI RG GU PU MA MN MS OT SC r0 r1 r2 r3 w 192 r6 r7 r8 L Lg x1 zh2
  suffices e : Ev (d + 1, 0, 0, 165, 12, [.val (.ref 768), .val (.int p1), .val (.int p2), .val a_unk, .val a_unk, .val a_unk], [.int x2], (126, 120, L, [Y, T, H, H2, RA, RB, ST, NS, I0, I1, I2, BO, FI, RG, GU, PU, MA, MN, MS, OT, SC], [r0, r1, r2, r3, w, 192, r6, r7, r8], Lg)) o from ev_call (fun v μ => (d + 1, 0, 0, 165, 12, [.val (.ref 768), .val (.int p1), .val (.int p2), .val a_unk, .val a_unk, .val a_unk], v.toList ++ [], μ)) 1 ze3 e (fun n => Eq.refl _)
  suffices e : Ev (d + 1, 0, 0, 165, 16, [.val (.ref 768), .val (.int p1), .val (.int p2), .val a_unk, .val a_unk, .val a_unk], [.ref 192, .int x2], (126, 120, L, [Y, T, H, H2, RA, RB, ST, NS, I0, I1, I2, BO, FI, RG, GU, PU, MA, MN, MS, OT, SC], [r0, r1, r2, r3, w, 192, r6, r7, r8], Lg)) o from ev_b 2 e (fun n => Eq.refl _)
  obtain ⟨x3, zh4, h⟩ := bnd h
  have zh4 : rdx (H 1) 3 p2 = some x3 := zh4
  suffices e : Ev (d + 1, 0, 0, 165, 21, [.val (.ref 768), .val (.int p1), .val (.int p2), .val a_unk, .val a_unk, .val a_unk], [.int x3, .int x2], (126, 120, L, [Y, T, H, H2, RA, RB, ST, NS, I0, I1, I2, BO, FI, RG, GU, PU, MA, MN, MS, OT, SC], [r0, r1, r2, r3, w, 192, r6, r7, r8], Lg)) o from ev_opt (fun x3 => (d + 1, 0, 0, 165, 21, [.val (.ref 768), .val (.int p1), .val (.int p2), .val a_unk, .val a_unk, .val a_unk], [.int x3, .int x2], (126, 120, L, [Y, T, H, H2, RA, RB, ST, NS, I0, I1, I2, BO, FI, RG, GU, PU, MA, MN, MS, OT, SC], [r0, r1, r2, r3, w, 192, r6, r7, r8], Lg))) 3 zh4 e (fun n => Eq.refl _)
  by_cases zc5 : x2 ≤ x3
  · have h := itp h zc5
    suffices e : Ev (d + 1, 0, 0, 165, 26, [.val (.ref 768), .val (.int p1), .val (.int p2), .val a_unk, .val a_unk, .val a_unk], [], (126, 120, L, [Y, T, H, H2, RA, RB, ST, NS, I0, I1, I2, BO, FI, RG, GU, PU, MA, MN, MS, OT, SC], [r0, r1, r2, r3, w, 192, r6, r7, r8], Lg)) o from ev_t (c := x2 ≤ x3) _ _ 1  zc5 e (fun n => Eq.refl _)
    suffices e : Ev (d + 1, 0, 0, 165, 30, [.val (.ref 768), .val (.int p1), .val (.int p2), .val a_unk, .val a_unk, .val a_unk], [.ref 192], (126, 120, L, [Y, T, H, H2, RA, RB, ST, NS, I0, I1, I2, BO, FI, RG, GU, PU, MA, MN, MS, OT, SC], [r0, r1, r2, r3, w, 192, r6, r7, r8], Lg)) o from ev_b 2 e (fun n => Eq.refl _)
    obtain ⟨x4, zh6, h⟩ := bnd h
    have zh6 : rdx (H 10) 10 p1 = some x4 := zh6
    suffices e : Ev (d + 1, 0, 0, 165, 35, [.val (.ref 768), .val (.int p1), .val (.int p2), .val a_unk, .val a_unk, .val a_unk], [.int x4], (126, 120, L, [Y, T, H, H2, RA, RB, ST, NS, I0, I1, I2, BO, FI, RG, GU, PU, MA, MN, MS, OT, SC], [r0, r1, r2, r3, w, 192, r6, r7, r8], Lg)) o from ev_opt (fun x4 => (d + 1, 0, 0, 165, 35, [.val (.ref 768), .val (.int p1), .val (.int p2), .val a_unk, .val a_unk, .val a_unk], [.int x4], (126, 120, L, [Y, T, H, H2, RA, RB, ST, NS, I0, I1, I2, BO, FI, RG, GU, PU, MA, MN, MS, OT, SC], [r0, r1, r2, r3, w, 192, r6, r7, r8], Lg))) 3 zh6 e (fun n => Eq.refl _)
    obtain ⟨x5, zh7, h⟩ := bnd h
    have zh7 : rdx (BO 3) 3 p2 = some x5 := zh7
    suffices e : Ev (d + 1, 0, 0, 165, 41, [.val (.ref 768), .val (.int p1), .val (.int p2), .val a_unk, .val a_unk, .val a_unk], [.int x5, .int x4], (126, 120, L, [Y, T, H, H2, RA, RB, ST, NS, I0, I1, I2, BO, FI, RG, GU, PU, MA, MN, MS, OT, SC], [r0, r1, r2, r3, w, 192, r6, r7, r8], Lg)) o from ev_opt (fun x5 => (d + 1, 0, 0, 165, 41, [.val (.ref 768), .val (.int p1), .val (.int p2), .val a_unk, .val a_unk, .val a_unk], [.int x5, .int x4], (126, 120, L, [Y, T, H, H2, RA, RB, ST, NS, I0, I1, I2, BO, FI, RG, GU, PU, MA, MN, MS, OT, SC], [r0, r1, r2, r3, w, 192, r6, r7, r8], Lg))) 4 zh7 e (fun n => Eq.refl _)
    obtain ⟨v13, zh9, h⟩ := bnd h
    suffices e : Ev (d + 1, 0, 0, 165, 48, [.val (.ref 768), .val (.int p1), .val (.int p2), .val (.int (x4 &&& (x5 ^^^ (-1)))), .val (.int 0), .val a_unk], [], (126, 120, L, [Y, T, H, H2, RA, RB, ST, NS, I0, I1, I2, BO, FI, RG, GU, PU, MA, MN, MS, OT, SC], [r0, r1, r2, r3, w, 192, r6, r7, r8], Lg)) o from ev_b 6 e (fun n => Eq.refl _)
    refine ev_loop (δ := Value) (fun a j => (d + 1, 0, 0, 165, 48, [.val (.ref 768), .val (.int p1), .val (.int p2), .val (.int a.1), .val (.int a.2), .val j], [], (126, 120, L, [Y, T, H, H2, RA, RB, ST, NS, I0, I1, I2, BO, FI, RG, GU, PU, MA, MN, MS, OT, SC], [r0, r1, r2, r3, w, 192, r6, r7, r8], Lg))) (fun b => ∀ s14 : Value, ∀ s15 : Value, Ev (d + 1, 0, 0, 165, 118, [.val (.ref 768), .val (.int p1), .val (.int p2), .val (.int b), .val s14, .val s15], [], (126, 120, L, [Y, T, H, H2, RA, RB, ST, NS, I0, I1, I2, BO, FI, RG, GU, PU, MA, MN, MS, OT, SC], [r0, r1, r2, r3, w, 192, r6, r7, r8], Lg)) o) ?_ a_F ((x4 &&& (x5 ^^^ (-1))), 0) v13 zh9 ?_ a_unk
    · rintro ⟨v6, v7⟩ zr13 zh12 zi10 zx11 s8
      have zh12 : f_Board_openHours_l48 H BO p1 p2 v6 v7 = some zr13 := zh12
      suffices e : Ev (d + 1, 0, 0, 165, 54, [.val (.ref 768), .val (.int p1), .val (.int p2), .val (.int v6), .val (.int v7), .val s8], [.ref 192, .int v7], (126, 120, L, [Y, T, H, H2, RA, RB, ST, NS, I0, I1, I2, BO, FI, RG, GU, PU, MA, MN, MS, OT, SC], [r0, r1, r2, r3, w, 192, r6, r7, r8], Lg)) o from ev_b 3 e (fun n => Eq.refl _)
      by_cases zc14 : (H 0 3) ≤ v7
      · have zh12 := itp zh12 zc14
        suffices e : Ev (d + 1, 0, 0, 165, 118, [.val (.ref 768), .val (.int p1), .val (.int p2), .val (.int v6), .val (.int v7), .val s8], [], (126, 120, L, [Y, T, H, H2, RA, RB, ST, NS, I0, I1, I2, BO, FI, RG, GU, PU, MA, MN, MS, OT, SC], [r0, r1, r2, r3, w, 192, r6, r7, r8], Lg)) o from ev_t (c := (H 0 3) ≤ v7) _ _ 2  zc14 e (fun n => Eq.refl _)
        exact ev_b 0 (zx11 _ (Option.some.inj zh12).symm (.int v7) s8) (fun n => Eq.refl _)
      · have zh12 := itn zh12 zc14
        suffices e : Ev (d + 1, 0, 0, 165, 60, [.val (.ref 768), .val (.int p1), .val (.int p2), .val (.int v6), .val (.int v7), .val s8], [], (126, 120, L, [Y, T, H, H2, RA, RB, ST, NS, I0, I1, I2, BO, FI, RG, GU, PU, MA, MN, MS, OT, SC], [r0, r1, r2, r3, w, 192, r6, r7, r8], Lg)) o from ev_f (c := (H 0 3) ≤ v7) _ _ 2  zc14 e (fun n => Eq.refl _)
        obtain ⟨x9, zh15, zh12⟩ := bnd zh12
        have zh15 : rdx (BO 1) 10 v7 = some x9 := zh15
        suffices e : Ev (d + 1, 0, 0, 165, 67, [.val (.ref 768), .val (.int p1), .val (.int p2), .val (.int v6), .val (.int v7), .val s8], [.int x9], (126, 120, L, [Y, T, H, H2, RA, RB, ST, NS, I0, I1, I2, BO, FI, RG, GU, PU, MA, MN, MS, OT, SC], [r0, r1, r2, r3, w, 192, r6, r7, r8], Lg)) o from ev_opt (fun x9 => (d + 1, 0, 0, 165, 67, [.val (.ref 768), .val (.int p1), .val (.int p2), .val (.int v6), .val (.int v7), .val s8], [.int x9], (126, 120, L, [Y, T, H, H2, RA, RB, ST, NS, I0, I1, I2, BO, FI, RG, GU, PU, MA, MN, MS, OT, SC], [r0, r1, r2, r3, w, 192, r6, r7, r8], Lg))) 4 zh15 e (fun n => Eq.refl _)
        by_cases zc16 : v7 = p1
        · have zh12 := itp zh12 zc16
          suffices e : Ev (d + 1, 0, 0, 165, 112, [.val (.ref 768), .val (.int p1), .val (.int p2), .val (.int v6), .val (.int v7), .val (.int x9)], [], (126, 120, L, [Y, T, H, H2, RA, RB, ST, NS, I0, I1, I2, BO, FI, RG, GU, PU, MA, MN, MS, OT, SC], [r0, r1, r2, r3, w, 192, r6, r7, r8], Lg)) o from ev_t (c := v7 = p1) _ _ 4  zc16 e (fun n => Eq.refl _)
          exact ev_b 2 (zi10 _ (Option.some.inj zh12).symm (.int x9)) (fun n => Eq.refl _)
        · have zh12 := itn zh12 zc16
          suffices e : Ev (d + 1, 0, 0, 165, 75, [.val (.ref 768), .val (.int p1), .val (.int p2), .val (.int v6), .val (.int v7), .val (.int x9)], [], (126, 120, L, [Y, T, H, H2, RA, RB, ST, NS, I0, I1, I2, BO, FI, RG, GU, PU, MA, MN, MS, OT, SC], [r0, r1, r2, r3, w, 192, r6, r7, r8], Lg)) o from ev_f (c := v7 = p1) _ _ 4  zc16 e (fun n => Eq.refl _)
          by_cases zc17 : x9 = (-1)
          · have zh12 := itp zh12 zc17
            suffices e : Ev (d + 1, 0, 0, 165, 112, [.val (.ref 768), .val (.int p1), .val (.int p2), .val (.int v6), .val (.int v7), .val (.int x9)], [], (126, 120, L, [Y, T, H, H2, RA, RB, ST, NS, I0, I1, I2, BO, FI, RG, GU, PU, MA, MN, MS, OT, SC], [r0, r1, r2, r3, w, 192, r6, r7, r8], Lg)) o from ev_t (c := x9 = (-1)) _ _ 3  zc17 e (fun n => Eq.refl _)
            exact ev_b 2 (zi10 _ (Option.some.inj zh12).symm (.int x9)) (fun n => Eq.refl _)
          · have zh12 := itn zh12 zc17
            suffices e : Ev (d + 1, 0, 0, 165, 81, [.val (.ref 768), .val (.int p1), .val (.int p2), .val (.int v6), .val (.int v7), .val (.int x9)], [], (126, 120, L, [Y, T, H, H2, RA, RB, ST, NS, I0, I1, I2, BO, FI, RG, GU, PU, MA, MN, MS, OT, SC], [r0, r1, r2, r3, w, 192, r6, r7, r8], Lg)) o from ev_f (c := x9 = (-1)) _ _ 3  zc17 e (fun n => Eq.refl _)
            obtain ⟨x10, zh18, zh12⟩ := bnd zh12
            have zh18 : f_Y_roomOf x9 = some x10 := zh18
            have ze19 := R_f_Y_roomOf_0 (d + 0) Y T H H2 RA RB ST NS I0 I1 I2 BO FI RG GU PU MA MN MS OT SC r0 r1 r2 r3 w 192 r6 r7 r8 L Lg x9 zh18
            suffices e : Ev (d + 1, 0, 0, 165, 86, [.val (.ref 768), .val (.int p1), .val (.int p2), .val (.int v6), .val (.int v7), .val (.int x9)], [.int x10], (126, 120, L, [Y, T, H, H2, RA, RB, ST, NS, I0, I1, I2, BO, FI, RG, GU, PU, MA, MN, MS, OT, SC], [r0, r1, r2, r3, w, 192, r6, r7, r8], Lg)) o from ev_call (fun v μ => (d + 1, 0, 0, 165, 86, [.val (.ref 768), .val (.int p1), .val (.int p2), .val (.int v6), .val (.int v7), .val (.int x9)], v.toList ++ [], μ)) 2 ze19 e (fun n => Eq.refl _)
            obtain ⟨zt20, zh21, zh12⟩ := bnd zh12
            have zj22 : zt20 = .inl () → Ev (d + 1, 0, 0, 165, 100, [.val (.ref 768), .val (.int p1), .val (.int p2), .val (.int v6), .val (.int v7), .val (.int x9)], [], (126, 120, L, [Y, T, H, H2, RA, RB, ST, NS, I0, I1, I2, BO, FI, RG, GU, PU, MA, MN, MS, OT, SC], [r0, r1, r2, r3, w, 192, r6, r7, r8], Lg)) o := by
              intro ze23
              have zh12 := sum_l zh12 ze23
              obtain ⟨x12, zh24, zh12⟩ := bnd zh12
              have zh24 : f_Y_hourOf x9 = some x12 := zh24
              have ze25 := R_f_Y_hourOf_0 (d + 0) Y T H H2 RA RB ST NS I0 I1 I2 BO FI RG GU PU MA MN MS OT SC r0 r1 r2 r3 w 192 r6 r7 r8 L Lg x9 zh24
              suffices e : Ev (d + 1, 0, 0, 165, 107, [.val (.ref 768), .val (.int p1), .val (.int p2), .val (.int v6), .val (.int v7), .val (.int x9)], [.int x12, .int 1, .int v6], (126, 120, L, [Y, T, H, H2, RA, RB, ST, NS, I0, I1, I2, BO, FI, RG, GU, PU, MA, MN, MS, OT, SC], [r0, r1, r2, r3, w, 192, r6, r7, r8], Lg)) o from ev_call (fun v μ => (d + 1, 0, 0, 165, 107, [.val (.ref 768), .val (.int p1), .val (.int p2), .val (.int v6), .val (.int v7), .val (.int x9)], v.toList ++ [.int 1, .int v6], μ)) 4 ze25 e (fun n => Eq.refl _)
              exact ev_b 7 (zi10 _ (Option.some.inj zh12).symm (.int x9)) (fun n => Eq.refl _)
            by_cases zc26 : x10 = p2
            · have zh21 := itp zh21 zc26
              suffices e : Ev (d + 1, 0, 0, 165, 100, [.val (.ref 768), .val (.int p1), .val (.int p2), .val (.int v6), .val (.int v7), .val (.int x9)], [], (126, 120, L, [Y, T, H, H2, RA, RB, ST, NS, I0, I1, I2, BO, FI, RG, GU, PU, MA, MN, MS, OT, SC], [r0, r1, r2, r3, w, 192, r6, r7, r8], Lg)) o from ev_t (c := x10 = p2) _ _ 2  zc26 e (fun n => Eq.refl _)
              exact ev_b 0 (zj22  (Option.some.inj zh21).symm ) (fun n => Eq.refl _)
            · have zh21 := itn zh21 zc26
              suffices e : Ev (d + 1, 0, 0, 165, 90, [.val (.ref 768), .val (.int p1), .val (.int p2), .val (.int v6), .val (.int v7), .val (.int x9)], [], (126, 120, L, [Y, T, H, H2, RA, RB, ST, NS, I0, I1, I2, BO, FI, RG, GU, PU, MA, MN, MS, OT, SC], [r0, r1, r2, r3, w, 192, r6, r7, r8], Lg)) o from ev_f (c := x10 = p2) _ _ 2  zc26 e (fun n => Eq.refl _)
              obtain ⟨x11, zh27, zh21⟩ := bnd zh21
              have zh27 : f_Board_sharesPerson H p1 v7 = some x11 := zh27
              have ze28 := R_f_Board_sharesPerson_0 (d + 0) Y T H H2 RA RB ST NS I0 I1 I2 BO FI RG GU PU MA MN MS OT SC r0 r1 r2 r3 w r6 r7 r8 L Lg p1 v7 zh27
              suffices e : Ev (d + 1, 0, 0, 165, 97, [.val (.ref 768), .val (.int p1), .val (.int p2), .val (.int v6), .val (.int v7), .val (.int x9)], [.int x11], (126, 120, L, [Y, T, H, H2, RA, RB, ST, NS, I0, I1, I2, BO, FI, RG, GU, PU, MA, MN, MS, OT, SC], [r0, r1, r2, r3, w, 192, r6, r7, r8], Lg)) o from ev_call (fun v μ => (d + 1, 0, 0, 165, 97, [.val (.ref 768), .val (.int p1), .val (.int p2), .val (.int v6), .val (.int v7), .val (.int x9)], v.toList ++ [], μ)) 4 ze28 e (fun n => Eq.refl _)
              by_cases zc29 : x11 = 0
              · have zh21 := itp zh21 zc29
                suffices e : Ev (d + 1, 0, 0, 165, 112, [.val (.ref 768), .val (.int p1), .val (.int p2), .val (.int v6), .val (.int v7), .val (.int x9)], [], (126, 120, L, [Y, T, H, H2, RA, RB, ST, NS, I0, I1, I2, BO, FI, RG, GU, PU, MA, MN, MS, OT, SC], [r0, r1, r2, r3, w, 192, r6, r7, r8], Lg)) o from ev_t (c := x11 = 0) _ _ 1  zc29 e (fun n => Eq.refl _)
                have zh30 := sum_r zh12 (Option.some.inj zh21).symm
                exact ev_b 2 (zi10 _ (Option.some.inj zh30).symm (.int x9)) (fun n => Eq.refl _)
              · have zh21 := itn zh21 zc29
                suffices e : Ev (d + 1, 0, 0, 165, 100, [.val (.ref 768), .val (.int p1), .val (.int p2), .val (.int v6), .val (.int v7), .val (.int x9)], [], (126, 120, L, [Y, T, H, H2, RA, RB, ST, NS, I0, I1, I2, BO, FI, RG, GU, PU, MA, MN, MS, OT, SC], [r0, r1, r2, r3, w, 192, r6, r7, r8], Lg)) o from ev_f (c := x11 = 0) _ _ 1  zc29 e (fun n => Eq.refl _)
                exact ev_b 0 (zj22  (Option.some.inj zh21).symm ) (fun n => Eq.refl _)
    · skip
      intro s14 s15
      have ze31 := Option.some.inj h
      subst ze31
      exact ev_rete 2 ho (fun n => Eq.refl _)
  · have h := itn h zc5
    suffices e : Ev (d + 1, 0, 0, 165, 24, [.val (.ref 768), .val (.int p1), .val (.int p2), .val a_unk, .val a_unk, .val a_unk], [], (126, 120, L, [Y, T, H, H2, RA, RB, ST, NS, I0, I1, I2, BO, FI, RG, GU, PU, MA, MN, MS, OT, SC], [r0, r1, r2, r3, w, 192, r6, r7, r8], Lg)) o from ev_f (c := x2 ≤ x3) _ _ 1  zc5 e (fun n => Eq.refl _)
    have ze32 := Option.some.inj h
    subst ze32
    exact ev_rete 2 ho (fun n => Eq.refl _)
