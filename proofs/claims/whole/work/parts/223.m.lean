/-! printed by program (gen/emitm.py): the reference's methods run as their functions say -/
set_option maxRecDepth 1000000 in
set_option maxHeartbeats 4000000 in
theorem R_f_Y_needPerson_0 (d : Nat) (Y T H H2 RU RV ST NS I0 I1 I2 BO FI RG GU PU MA MN MS OT SC : Nat → Nat → Int32) (w r5 : Nat) (L : Nat) (Lg : Int64) (p1 : Int32) {r : Nat × (Nat → Nat → Int32)} (h : f_Y_needPerson Y H p1 = some r) : Ev (d + 1, 1, 8, 336, 0, [.val (.ref 64), .val (.int p1)], [], (126, 120, L, [Y, T, H, H2, RU, RV, ST, NS, I0, I1, I2, BO, FI, RG, GU, PU, MA, MN, MS, OT, SC], [192, 256, 320, 384, w, r5, 576, 640, 704], Lg)) ((r.1, none, (126, 120, L, [r.2, T, H, H2, RU, RV, ST, NS, I0, I1, I2, BO, FI, RG, GU, PU, MA, MN, MS, OT, SC], [192, 256, 320, 384, w, r5, 576, 640, 704], Lg)) : AOut) := by
  suffices key : ∀ o : AOut, ((r.1, none, (126, 120, L, [r.2, T, H, H2, RU, RV, ST, NS, I0, I1, I2, BO, FI, RG, GU, PU, MA, MN, MS, OT, SC], [192, 256, 320, 384, w, r5, 576, 640, 704], Lg)) : AOut) = o → Ev (d + 1, 1, 8, 336, 0, [.val (.ref 64), .val (.int p1)], [], (126, 120, L, [Y, T, H, H2, RU, RV, ST, NS, I0, I1, I2, BO, FI, RG, GU, PU, MA, MN, MS, OT, SC], [192, 256, 320, 384, w, r5, 576, 640, 704], Lg)) o from key _ rfl
  intro o ho
  suffices e : Ev (d + 1, 1, 8, 336, 6, [.val (.ref 64), .val (.int p1)], [.ref 192, .int p1, .ref 64], (126, 120, L, [Y, T, H, H2, RU, RV, ST, NS, I0, I1, I2, BO, FI, RG, GU, PU, MA, MN, MS, OT, SC], [192, 256, 320, 384, w, r5, 576, 640, 704], Lg)) o from ev_b 4 e (fun n => Eq.refl _)
  obtain ⟨⟨q1, Y_2⟩, zh1, h⟩ := bnd h
  have zh1 : f_Y_needOneOf Y p1 (H 0 2) = some (q1, Y_2) := zh1
  have ze2 := R_f_Y_needOneOf_0 (d + 0) Y T H H2 RU RV ST NS I0 I1 I2 BO FI RG GU PU MA MN MS OT SC w r5 L Lg p1 (H 0 2) zh1
  cases q1 with
  | zero =>
    have h := itp h rfl
    suffices e : Ev (d + 1, 0, 0, 336, 12, [.val (.ref 64), .val (.int p1)], [], (126, 120, L, [Y_2, T, H, H2, RU, RV, ST, NS, I0, I1, I2, BO, FI, RG, GU, PU, MA, MN, MS, OT, SC], [192, 256, 320, 384, w, r5, 576, 640, 704], Lg)) o from ev_call (fun v μ => (d + 1, 0, 0, 336, 12, [.val (.ref 64), .val (.int p1)], v.toList ++ [], μ)) 2 ze2 e (fun n => Eq.refl _)
    have ze3 := Option.some.inj h
    subst ze3
    exact ev_rete 1 ho (fun n => Eq.refl _)
  | succ q1 =>
    have h := itn h (Nat.succ_ne_zero q1)
    have ze4 := Option.some.inj h
    subst ze4
    subst ho
    exact ev_thr (fun v μ => (d + 1, 0, 0, 336, 12, [.val (.ref 64), .val (.int p1)], v.toList ++ [], μ)) 2 ze2 (fun n => Eq.refl _) (fun n => rfl)
set_option maxRecDepth 1000000 in
set_option maxHeartbeats 4000000 in
theorem R_f_House_isMember_0 (d : Nat) (Y T H H2 RA RB ST NS I0 I1 I2 BO FI RG GU PU MA MN MS OT SC : Nat → Nat → Int32) (r0 r1 r2 r3 w r5 r6 r7 r8 : Nat) (L : Nat) (Lg : Int64) (p1 : Int32) (p2 : Int32) {r : Int32} (h : f_House_isMember H p1 p2 = some r) : Ev (d + 0, 0, 0, 221, 0, [.val (.ref 192), .val (.int p1), .val (.int p2)], [], (126, 120, L, [Y, T, H, H2, RA, RB, ST, NS, I0, I1, I2, BO, FI, RG, GU, PU, MA, MN, MS, OT, SC], [r0, r1, r2, r3, w, r5, r6, r7, r8], Lg)) ((0, some (.int r), (126, 120, L, [Y, T, H, H2, RA, RB, ST, NS, I0, I1, I2, BO, FI, RG, GU, PU, MA, MN, MS, OT, SC], [r0, r1, r2, r3, w, r5, r6, r7, r8], Lg)) : AOut) := by
  suffices key : ∀ o : AOut, ((0, some (.int r), (126, 120, L, [Y, T, H, H2, RA, RB, ST, NS, I0, I1, I2, BO, FI, RG, GU, PU, MA, MN, MS, OT, SC], [r0, r1, r2, r3, w, r5, r6, r7, r8], Lg)) : AOut) = o → Ev (d + 0, 0, 0, 221, 0, [.val (.ref 192), .val (.int p1), .val (.int p2)], [], (126, 120, L, [Y, T, H, H2, RA, RB, ST, NS, I0, I1, I2, BO, FI, RG, GU, PU, MA, MN, MS, OT, SC], [r0, r1, r2, r3, w, r5, r6, r7, r8], Lg)) o from key _ rfl
  intro o ho
  obtain ⟨x1, zh1, h⟩ := bnd h
  have zh1 : rdx (H 8) 10 p1 = some x1 := zh1
  suffices e : Ev (d + 0, 0, 0, 221, 6, [.val (.ref 192), .val (.int p1), .val (.int p2)], [.int x1], (126, 120, L, [Y, T, H, H2, RA, RB, ST, NS, I0, I1, I2, BO, FI, RG, GU, PU, MA, MN, MS, OT, SC], [r0, r1, r2, r3, w, r5, r6, r7, r8], Lg)) o from ev_opt (fun x1 => (d + 0, 0, 0, 221, 6, [.val (.ref 192), .val (.int p1), .val (.int p2)], [.int x1], (126, 120, L, [Y, T, H, H2, RA, RB, ST, NS, I0, I1, I2, BO, FI, RG, GU, PU, MA, MN, MS, OT, SC], [r0, r1, r2, r3, w, r5, r6, r7, r8], Lg))) 4 zh1 e (fun n => Eq.refl _)
  by_cases zc2 : ((a_shr x1 p2) &&& 1) = 0
  · have h := itp h zc2
    suffices e : Ev (d + 0, 0, 0, 221, 17, [.val (.ref 192), .val (.int p1), .val (.int p2)], [], (126, 120, L, [Y, T, H, H2, RA, RB, ST, NS, I0, I1, I2, BO, FI, RG, GU, PU, MA, MN, MS, OT, SC], [r0, r1, r2, r3, w, r5, r6, r7, r8], Lg)) o from ev_t (c := ((a_shr x1 p2) &&& 1) = 0) _ _ 5  zc2 e (fun n => Eq.refl _)
    have ze3 := Option.some.inj h
    subst ze3
    exact ev_rete 2 ho (fun n => Eq.refl _)
  · have h := itn h zc2
    suffices e : Ev (d + 0, 0, 0, 221, 13, [.val (.ref 192), .val (.int p1), .val (.int p2)], [], (126, 120, L, [Y, T, H, H2, RA, RB, ST, NS, I0, I1, I2, BO, FI, RG, GU, PU, MA, MN, MS, OT, SC], [r0, r1, r2, r3, w, r5, r6, r7, r8], Lg)) o from ev_f (c := ((a_shr x1 p2) &&& 1) = 0) _ _ 5  zc2 e (fun n => Eq.refl _)
    have ze4 := Option.some.inj h
    subst ze4
    exact ev_rete 3 ho (fun n => Eq.refl _)
set_option maxRecDepth 1000000 in
set_option maxHeartbeats 4000000 in
theorem R_f_House_meetingsOf_0 (d : Nat) (Y T H H2 RA RB ST NS I0 I1 I2 BO FI RG GU PU MA MN MS OT SC : Nat → Nat → Int32) (r0 r1 r2 r3 w r5 r6 r7 r8 : Nat) (L : Nat) (Lg : Int64) (p1 : Int32) {r : Int32} (h : f_House_meetingsOf H p1 = some r) : Ev (d + 1, 0, 0, 222, 0, [.val (.ref 192), .val (.int p1), .val a_unk, .val a_unk], [], (126, 120, L, [Y, T, H, H2, RA, RB, ST, NS, I0, I1, I2, BO, FI, RG, GU, PU, MA, MN, MS, OT, SC], [r0, r1, r2, r3, w, r5, r6, r7, r8], Lg)) ((0, some (.int r), (126, 120, L, [Y, T, H, H2, RA, RB, ST, NS, I0, I1, I2, BO, FI, RG, GU, PU, MA, MN, MS, OT, SC], [r0, r1, r2, r3, w, r5, r6, r7, r8], Lg)) : AOut) := by
  suffices key : ∀ o : AOut, ((0, some (.int r), (126, 120, L, [Y, T, H, H2, RA, RB, ST, NS, I0, I1, I2, BO, FI, RG, GU, PU, MA, MN, MS, OT, SC], [r0, r1, r2, r3, w, r5, r6, r7, r8], Lg)) : AOut) = o → Ev (d + 1, 0, 0, 222, 0, [.val (.ref 192), .val (.int p1), .val a_unk, .val a_unk], [], (126, 120, L, [Y, T, H, H2, RA, RB, ST, NS, I0, I1, I2, BO, FI, RG, GU, PU, MA, MN, MS, OT, SC], [r0, r1, r2, r3, w, r5, r6, r7, r8], Lg)) o from key _ rfl
  intro o ho
  obtain ⟨v4, zh2, h⟩ := bnd h
  suffices e : Ev (d + 1, 0, 0, 222, 4, [.val (.ref 192), .val (.int p1), .val (.int 0), .val (.int 0)], [], (126, 120, L, [Y, T, H, H2, RA, RB, ST, NS, I0, I1, I2, BO, FI, RG, GU, PU, MA, MN, MS, OT, SC], [r0, r1, r2, r3, w, r5, r6, r7, r8], Lg)) o from ev_b 4 e (fun n => Eq.refl _)
  refine ev_loop (δ := Unit) (fun a j => (d + 1, 0, 0, 222, 4, [.val (.ref 192), .val (.int p1), .val (.int a.1), .val (.int a.2)], [], (126, 120, L, [Y, T, H, H2, RA, RB, ST, NS, I0, I1, I2, BO, FI, RG, GU, PU, MA, MN, MS, OT, SC], [r0, r1, r2, r3, w, r5, r6, r7, r8], Lg))) (fun b => ∀ s5 : Value, Ev (d + 1, 0, 0, 222, 33, [.val (.ref 192), .val (.int p1), .val (.int b), .val s5], [], (126, 120, L, [Y, T, H, H2, RA, RB, ST, NS, I0, I1, I2, BO, FI, RG, GU, PU, MA, MN, MS, OT, SC], [r0, r1, r2, r3, w, r5, r6, r7, r8], Lg)) o) ?_ a_F (0, 0) v4 zh2 ?_ ()
  · rintro ⟨v1, v2⟩ zr6 zh5 zi3 zx4 ⟨⟩
    have zh5 : f_House_meetingsOf_l4 H p1 v1 v2 = some zr6 := zh5
    by_cases zc7 : (H 0 3) ≤ v2
    · have zh5 := itp zh5 zc7
      suffices e : Ev (d + 1, 0, 0, 222, 33, [.val (.ref 192), .val (.int p1), .val (.int v1), .val (.int v2)], [], (126, 120, L, [Y, T, H, H2, RA, RB, ST, NS, I0, I1, I2, BO, FI, RG, GU, PU, MA, MN, MS, OT, SC], [r0, r1, r2, r3, w, r5, r6, r7, r8], Lg)) o from ev_t (c := (H 0 3) ≤ v2) _ _ 4  zc7 e (fun n => Eq.refl _)
      exact ev_b 0 (zx4 _ (Option.some.inj zh5).symm (.int v2)) (fun n => Eq.refl _)
    · have zh5 := itn zh5 zc7
      suffices e : Ev (d + 1, 0, 0, 222, 12, [.val (.ref 192), .val (.int p1), .val (.int v1), .val (.int v2)], [], (126, 120, L, [Y, T, H, H2, RA, RB, ST, NS, I0, I1, I2, BO, FI, RG, GU, PU, MA, MN, MS, OT, SC], [r0, r1, r2, r3, w, r5, r6, r7, r8], Lg)) o from ev_f (c := (H 0 3) ≤ v2) _ _ 4  zc7 e (fun n => Eq.refl _)
      obtain ⟨x3, zh8, zh5⟩ := bnd zh5
      have zh8 : f_House_isMember H v2 p1 = some x3 := zh8
      have ze9 := R_f_House_isMember_0 (d + 0) Y T H H2 RA RB ST NS I0 I1 I2 BO FI RG GU PU MA MN MS OT SC r0 r1 r2 r3 w r5 r6 r7 r8 L Lg v2 p1 zh8
      suffices e : Ev (d + 1, 0, 0, 222, 18, [.val (.ref 192), .val (.int p1), .val (.int v1), .val (.int v2)], [.int x3], (126, 120, L, [Y, T, H, H2, RA, RB, ST, NS, I0, I1, I2, BO, FI, RG, GU, PU, MA, MN, MS, OT, SC], [r0, r1, r2, r3, w, r5, r6, r7, r8], Lg)) o from ev_call (fun v μ => (d + 1, 0, 0, 222, 18, [.val (.ref 192), .val (.int p1), .val (.int v1), .val (.int v2)], v.toList ++ [], μ)) 4 ze9 e (fun n => Eq.refl _)
      by_cases zc10 : x3 = 0
      · have zh5 := itp zh5 zc10
        suffices e : Ev (d + 1, 0, 0, 222, 27, [.val (.ref 192), .val (.int p1), .val (.int v1), .val (.int v2)], [], (126, 120, L, [Y, T, H, H2, RA, RB, ST, NS, I0, I1, I2, BO, FI, RG, GU, PU, MA, MN, MS, OT, SC], [r0, r1, r2, r3, w, r5, r6, r7, r8], Lg)) o from ev_t (c := x3 = 0) _ _ 1  zc10 e (fun n => Eq.refl _)
        exact ev_b 2 (zi3 _ (Option.some.inj zh5).symm ()) (fun n => Eq.refl _)
      · have zh5 := itn zh5 zc10
        suffices e : Ev (d + 1, 0, 0, 222, 21, [.val (.ref 192), .val (.int p1), .val (.int v1), .val (.int v2)], [], (126, 120, L, [Y, T, H, H2, RA, RB, ST, NS, I0, I1, I2, BO, FI, RG, GU, PU, MA, MN, MS, OT, SC], [r0, r1, r2, r3, w, r5, r6, r7, r8], Lg)) o from ev_f (c := x3 = 0) _ _ 1  zc10 e (fun n => Eq.refl _)
        exact ev_b 8 (zi3 _ (Option.some.inj zh5).symm ()) (fun n => Eq.refl _)
  · skip
    intro s5
    have ze11 := Option.some.inj h
    subst ze11
    exact ev_rete 2 ho (fun n => Eq.refl _)
set_option maxRecDepth 1000000 in
set_option maxHeartbeats 4000000 in
theorem R_f_Board_bears_0 (d : Nat) (Y T H H2 RA RB ST NS I0 I1 I2 BO FI RG GU PU MA MN MS OT SC : Nat → Nat → Int32) (r0 r1 r2 r3 w r6 r7 r8 : Nat) (L : Nat) (Lg : Int64) (p1 : Int32) {r : Int32} (h : f_Board_bears H BO p1 = some r) : Ev (d + 1, 0, 0, 168, 0, [.val (.ref 768), .val (.int p1), .val a_unk, .val a_unk], [], (126, 120, L, [Y, T, H, H2, RA, RB, ST, NS, I0, I1, I2, BO, FI, RG, GU, PU, MA, MN, MS, OT, SC], [r0, r1, r2, r3, w, 192, r6, r7, r8], Lg)) ((0, some (.int r), (126, 120, L, [Y, T, H, H2, RA, RB, ST, NS, I0, I1, I2, BO, FI, RG, GU, PU, MA, MN, MS, OT, SC], [r0, r1, r2, r3, w, 192, r6, r7, r8], Lg)) : AOut) := by
  suffices key : ∀ o : AOut, ((0, some (.int r), (126, 120, L, [Y, T, H, H2, RA, RB, ST, NS, I0, I1, I2, BO, FI, RG, GU, PU, MA, MN, MS, OT, SC], [r0, r1, r2, r3, w, 192, r6, r7, r8], Lg)) : AOut) = o → Ev (d + 1, 0, 0, 168, 0, [.val (.ref 768), .val (.int p1), .val a_unk, .val a_unk], [], (126, 120, L, [Y, T, H, H2, RA, RB, ST, NS, I0, I1, I2, BO, FI, RG, GU, PU, MA, MN, MS, OT, SC], [r0, r1, r2, r3, w, 192, r6, r7, r8], Lg)) o from key _ rfl
  intro o ho
  obtain ⟨v5, zh2, h⟩ := bnd h
  suffices e : Ev (d + 1, 0, 0, 168, 4, [.val (.ref 768), .val (.int p1), .val (.int 0), .val (.int 0)], [], (126, 120, L, [Y, T, H, H2, RA, RB, ST, NS, I0, I1, I2, BO, FI, RG, GU, PU, MA, MN, MS, OT, SC], [r0, r1, r2, r3, w, 192, r6, r7, r8], Lg)) o from ev_b 4 e (fun n => Eq.refl _)
  refine ev_loop (δ := Unit) (fun a j => (d + 1, 0, 0, 168, 4, [.val (.ref 768), .val (.int p1), .val (.int a.1), .val (.int a.2)], [], (126, 120, L, [Y, T, H, H2, RA, RB, ST, NS, I0, I1, I2, BO, FI, RG, GU, PU, MA, MN, MS, OT, SC], [r0, r1, r2, r3, w, 192, r6, r7, r8], Lg))) (fun b => ∀ s6 : Value, Ev (d + 1, 0, 0, 168, 42, [.val (.ref 768), .val (.int p1), .val (.int b), .val s6], [], (126, 120, L, [Y, T, H, H2, RA, RB, ST, NS, I0, I1, I2, BO, FI, RG, GU, PU, MA, MN, MS, OT, SC], [r0, r1, r2, r3, w, 192, r6, r7, r8], Lg)) o) ?_ a_F (0, 0) v5 zh2 ?_ ()
  · rintro ⟨v1, v2⟩ zr6 zh5 zi3 zx4 ⟨⟩
    have zh5 : f_Board_bears_l4 H BO p1 v1 v2 = some zr6 := zh5
    suffices e : Ev (d + 1, 0, 0, 168, 9, [.val (.ref 768), .val (.int p1), .val (.int v1), .val (.int v2)], [.ref 192, .int v2], (126, 120, L, [Y, T, H, H2, RA, RB, ST, NS, I0, I1, I2, BO, FI, RG, GU, PU, MA, MN, MS, OT, SC], [r0, r1, r2, r3, w, 192, r6, r7, r8], Lg)) o from ev_b 3 e (fun n => Eq.refl _)
    by_cases zc7 : (H 0 3) ≤ v2
    · have zh5 := itp zh5 zc7
      suffices e : Ev (d + 1, 0, 0, 168, 42, [.val (.ref 768), .val (.int p1), .val (.int v1), .val (.int v2)], [], (126, 120, L, [Y, T, H, H2, RA, RB, ST, NS, I0, I1, I2, BO, FI, RG, GU, PU, MA, MN, MS, OT, SC], [r0, r1, r2, r3, w, 192, r6, r7, r8], Lg)) o from ev_t (c := (H 0 3) ≤ v2) _ _ 2  zc7 e (fun n => Eq.refl _)
      exact ev_b 0 (zx4 _ (Option.some.inj zh5).symm (.int v2)) (fun n => Eq.refl _)
    · have zh5 := itn zh5 zc7
      suffices e : Ev (d + 1, 0, 0, 168, 15, [.val (.ref 768), .val (.int p1), .val (.int v1), .val (.int v2)], [], (126, 120, L, [Y, T, H, H2, RA, RB, ST, NS, I0, I1, I2, BO, FI, RG, GU, PU, MA, MN, MS, OT, SC], [r0, r1, r2, r3, w, 192, r6, r7, r8], Lg)) o from ev_f (c := (H 0 3) ≤ v2) _ _ 2  zc7 e (fun n => Eq.refl _)
      suffices e : Ev (d + 1, 0, 0, 168, 19, [.val (.ref 768), .val (.int p1), .val (.int v1), .val (.int v2)], [.ref 192], (126, 120, L, [Y, T, H, H2, RA, RB, ST, NS, I0, I1, I2, BO, FI, RG, GU, PU, MA, MN, MS, OT, SC], [r0, r1, r2, r3, w, 192, r6, r7, r8], Lg)) o from ev_b 2 e (fun n => Eq.refl _)
      obtain ⟨x3, zh8, zh5⟩ := bnd zh5
      have zh8 : f_House_isMember H v2 p1 = some x3 := zh8
      have ze9 := R_f_House_isMember_0 (d + 0) Y T H H2 RA RB ST NS I0 I1 I2 BO FI RG GU PU MA MN MS OT SC r0 r1 r2 r3 w 192 r6 r7 r8 L Lg v2 p1 zh8
      suffices e : Ev (d + 1, 0, 0, 168, 24, [.val (.ref 768), .val (.int p1), .val (.int v1), .val (.int v2)], [.int x3], (126, 120, L, [Y, T, H, H2, RA, RB, ST, NS, I0, I1, I2, BO, FI, RG, GU, PU, MA, MN, MS, OT, SC], [r0, r1, r2, r3, w, 192, r6, r7, r8], Lg)) o from ev_call (fun v μ => (d + 1, 0, 0, 168, 24, [.val (.ref 768), .val (.int p1), .val (.int v1), .val (.int v2)], v.toList ++ [], μ)) 3 ze9 e (fun n => Eq.refl _)
      by_cases zc10 : x3 = 0
      · have zh5 := itp zh5 zc10
        suffices e : Ev (d + 1, 0, 0, 168, 36, [.val (.ref 768), .val (.int p1), .val (.int v1), .val (.int v2)], [], (126, 120, L, [Y, T, H, H2, RA, RB, ST, NS, I0, I1, I2, BO, FI, RG, GU, PU, MA, MN, MS, OT, SC], [r0, r1, r2, r3, w, 192, r6, r7, r8], Lg)) o from ev_t (c := x3 = 0) _ _ 1  zc10 e (fun n => Eq.refl _)
        exact ev_b 2 (zi3 _ (Option.some.inj zh5).symm ()) (fun n => Eq.refl _)
      · have zh5 := itn zh5 zc10
        suffices e : Ev (d + 1, 0, 0, 168, 27, [.val (.ref 768), .val (.int p1), .val (.int v1), .val (.int v2)], [], (126, 120, L, [Y, T, H, H2, RA, RB, ST, NS, I0, I1, I2, BO, FI, RG, GU, PU, MA, MN, MS, OT, SC], [r0, r1, r2, r3, w, 192, r6, r7, r8], Lg)) o from ev_f (c := x3 = 0) _ _ 1  zc10 e (fun n => Eq.refl _)
        obtain ⟨x4, zh11, zh5⟩ := bnd zh5
        have zh11 : rdx (BO 2) 10 v2 = some x4 := zh11
        suffices e : Ev (d + 1, 0, 0, 168, 34, [.val (.ref 768), .val (.int p1), .val (.int v1), .val (.int v2)], [.int x4, .int v1], (126, 120, L, [Y, T, H, H2, RA, RB, ST, NS, I0, I1, I2, BO, FI, RG, GU, PU, MA, MN, MS, OT, SC], [r0, r1, r2, r3, w, 192, r6, r7, r8], Lg)) o from ev_opt (fun x4 => (d + 1, 0, 0, 168, 34, [.val (.ref 768), .val (.int p1), .val (.int v1), .val (.int v2)], [.int x4, .int v1], (126, 120, L, [Y, T, H, H2, RA, RB, ST, NS, I0, I1, I2, BO, FI, RG, GU, PU, MA, MN, MS, OT, SC], [r0, r1, r2, r3, w, 192, r6, r7, r8], Lg))) 5 zh11 e (fun n => Eq.refl _)
        exact ev_b 4 (zi3 _ (Option.some.inj zh5).symm ()) (fun n => Eq.refl _)
  · skip
    intro s6
    have ze12 := Option.some.inj h
    subst ze12
    exact ev_rete 2 ho (fun n => Eq.refl _)
set_option maxRecDepth 1000000 in
set_option maxHeartbeats 4000000 in
theorem R_f_Y_person_0 (d : Nat) (Y T H H2 RU RV ST NS I0 I1 I2 BO FI RG GU PU MA MN MS OT SC : Nat → Nat → Int32) (w r5 : Nat) (L : Nat) (Lg : Int64) (p1 : Int32) (p2 : Int32) {r : Nat × Int32 × (Nat → Nat → Int32) × (Nat → Nat → Int32) × Nat} (h : f_Y_person Y H NS BO r5 192 p1 p2 = some r) : Ev (d + 3, 2, 16, 290, 0, [.val (.ref 64), .val (.int p1), .val (.int p2)], [], (126, 120, L, [Y, T, H, H2, RU, RV, ST, NS, I0, I1, I2, BO, FI, RG, GU, PU, MA, MN, MS, OT, SC], [192, 256, 320, 384, w, r5, 576, 640, 704], Lg)) ((r.1, a_ov r.1 (.int r.2.1), (126, 120, L, [r.2.2.1, T, H, H2, RU, RV, ST, NS, I0, I1, I2, r.2.2.2.1, FI, RG, GU, PU, MA, MN, MS, OT, SC], [192, 256, 320, 384, w, r.2.2.2.2, 576, 640, 704], Lg)) : AOut) := by
  suffices key : ∀ o : AOut, ((r.1, a_ov r.1 (.int r.2.1), (126, 120, L, [r.2.2.1, T, H, H2, RU, RV, ST, NS, I0, I1, I2, r.2.2.2.1, FI, RG, GU, PU, MA, MN, MS, OT, SC], [192, 256, 320, 384, w, r.2.2.2.2, 576, 640, 704], Lg)) : AOut) = o → Ev (d + 3, 2, 16, 290, 0, [.val (.ref 64), .val (.int p1), .val (.int p2)], [], (126, 120, L, [Y, T, H, H2, RU, RV, ST, NS, I0, I1, I2, BO, FI, RG, GU, PU, MA, MN, MS, OT, SC], [192, 256, 320, 384, w, r5, 576, 640, 704], Lg)) o from key _ rfl
  intro o ho
  obtain ⟨⟨q1, Y_2⟩, zh1, h⟩ := bnd h
  have zh1 : f_Y_needPerson Y H p1 = some (q1, Y_2) := zh1
  have ze2 := R_f_Y_needPerson_0 (d + 1) Y T H H2 RU RV ST NS I0 I1 I2 BO FI RG GU PU MA MN MS OT SC w r5 L Lg p1 zh1
  cases q1 with
  | zero =>
    have h := itp h rfl
    suffices e : Ev (d + 3, 1, 8, 290, 5, [.val (.ref 64), .val (.int p1), .val (.int p2)], [], (126, 120, L, [Y_2, T, H, H2, RU, RV, ST, NS, I0, I1, I2, BO, FI, RG, GU, PU, MA, MN, MS, OT, SC], [192, 256, 320, 384, w, r5, 576, 640, 704], Lg)) o from ev_call (fun v μ => (d + 3, 1, 8, 290, 5, [.val (.ref 64), .val (.int p1), .val (.int p2)], v.toList ++ [], μ)) 3 ze2 e (fun n => Eq.refl _)
    obtain ⟨zt3, zh4, h⟩ := bnd h
    have zj5 : ∀ (v3 : Int32), v3 = zt3 → Ev (d + 3, 1, 8, 290, 20, [.val (.ref 64), .val (.int p1), .val (.int p2)], [.int v3, .ref 64], (126, 120, L, [Y_2, T, H, H2, RU, RV, ST, NS, I0, I1, I2, BO, FI, RG, GU, PU, MA, MN, MS, OT, SC], [192, 256, 320, 384, w, r5, 576, 640, 704], Lg)) o := by
      intro v3 ze6
      subst ze6
      obtain ⟨⟨q4, Y_5⟩, zh7, h⟩ := bnd h
      have zh7 : f_Y_refuseUnless Y_2 v3 = some (q4, Y_5) := zh7
      have ze8 := R_f_Y_refuseUnless_0 (d + 2) Y_2 T H H2 RU RV ST NS I0 I1 I2 BO FI RG GU PU MA MN MS OT SC w r5 L Lg v3 zh7
      cases q4 with
      | zero =>
        have h := itp h rfl
        suffices e : Ev (d + 3, 0, 0, 290, 23, [.val (.ref 64), .val (.int p1), .val (.int p2)], [], (126, 120, L, [Y_5, T, H, H2, RU, RV, ST, NS, I0, I1, I2, BO, FI, RG, GU, PU, MA, MN, MS, OT, SC], [192, 256, 320, 384, w, r5, 576, 640, 704], Lg)) o from ev_call (fun v μ => (d + 3, 0, 0, 290, 23, [.val (.ref 64), .val (.int p1), .val (.int p2)], v.toList ++ [], μ)) 1 ze8 e (fun n => Eq.refl _)
        by_cases zc9 : p2 = 0
        · have h := itp h zc9
          suffices e : Ev (d + 3, 0, 0, 290, 56, [.val (.ref 64), .val (.int p1), .val (.int p2)], [], (126, 120, L, [Y_5, T, H, H2, RU, RV, ST, NS, I0, I1, I2, BO, FI, RG, GU, PU, MA, MN, MS, OT, SC], [192, 256, 320, 384, w, r5, 576, 640, 704], Lg)) o from ev_sw [((0 : Int32), 56), ((1 : Int32), 66), ((2 : Int32), 76), ((3 : Int32), 86)] p2 (fun tt => (d + 3, 0, 0, 290, tt, [.val (.ref 64), .val (.int p1), .val (.int p2)], [], (126, 120, L, [Y_5, T, H, H2, RU, RV, ST, NS, I0, I1, I2, BO, FI, RG, GU, PU, MA, MN, MS, OT, SC], [192, 256, 320, 384, w, r5, 576, 640, 704], Lg))) 106 56 2 (fun f => by simp only [a_sw, if_pos zc9]) e (fun n => Eq.refl _)
          suffices e : Ev (d + 3, 0, 0, 290, 60, [.val (.ref 64), .val (.int p1), .val (.int p2)], [.ref 192], (126, 120, L, [Y_5, T, H, H2, RU, RV, ST, NS, I0, I1, I2, BO, FI, RG, GU, PU, MA, MN, MS, OT, SC], [192, 256, 320, 384, w, r5, 576, 640, 704], Lg)) o from ev_b 2 e (fun n => Eq.refl _)
          obtain ⟨x6, zh10, h⟩ := bnd h
          have zh10 : rdx (H 2) 8 p1 = some x6 := zh10
          suffices e : Ev (d + 3, 0, 0, 290, 65, [.val (.ref 64), .val (.int p1), .val (.int p2)], [.int x6], (126, 120, L, [Y_5, T, H, H2, RU, RV, ST, NS, I0, I1, I2, BO, FI, RG, GU, PU, MA, MN, MS, OT, SC], [192, 256, 320, 384, w, r5, 576, 640, 704], Lg)) o from ev_opt (fun x6 => (d + 3, 0, 0, 290, 65, [.val (.ref 64), .val (.int p1), .val (.int p2)], [.int x6], (126, 120, L, [Y_5, T, H, H2, RU, RV, ST, NS, I0, I1, I2, BO, FI, RG, GU, PU, MA, MN, MS, OT, SC], [192, 256, 320, 384, w, r5, 576, 640, 704], Lg))) 3 zh10 e (fun n => Eq.refl _)
          have ze11 := Option.some.inj h
          subst ze11
          exact ev_rete 1 ho (fun n => Eq.refl _)
        have h := itn h zc9
        by_cases zc12 : p2 = 1
        · have h := itp h zc12
          suffices e : Ev (d + 3, 0, 0, 290, 66, [.val (.ref 64), .val (.int p1), .val (.int p2)], [], (126, 120, L, [Y_5, T, H, H2, RU, RV, ST, NS, I0, I1, I2, BO, FI, RG, GU, PU, MA, MN, MS, OT, SC], [192, 256, 320, 384, w, r5, 576, 640, 704], Lg)) o from ev_sw [((0 : Int32), 56), ((1 : Int32), 66), ((2 : Int32), 76), ((3 : Int32), 86)] p2 (fun tt => (d + 3, 0, 0, 290, tt, [.val (.ref 64), .val (.int p1), .val (.int p2)], [], (126, 120, L, [Y_5, T, H, H2, RU, RV, ST, NS, I0, I1, I2, BO, FI, RG, GU, PU, MA, MN, MS, OT, SC], [192, 256, 320, 384, w, r5, 576, 640, 704], Lg))) 106 66 2 (fun f => by simp only [a_sw, if_neg zc9, if_pos zc12]) e (fun n => Eq.refl _)
          suffices e : Ev (d + 3, 0, 0, 290, 70, [.val (.ref 64), .val (.int p1), .val (.int p2)], [.ref 192], (126, 120, L, [Y_5, T, H, H2, RU, RV, ST, NS, I0, I1, I2, BO, FI, RG, GU, PU, MA, MN, MS, OT, SC], [192, 256, 320, 384, w, r5, 576, 640, 704], Lg)) o from ev_b 2 e (fun n => Eq.refl _)
          obtain ⟨x7, zh13, h⟩ := bnd h
          have zh13 : rdx (H 3) 8 p1 = some x7 := zh13
          suffices e : Ev (d + 3, 0, 0, 290, 75, [.val (.ref 64), .val (.int p1), .val (.int p2)], [.int x7], (126, 120, L, [Y_5, T, H, H2, RU, RV, ST, NS, I0, I1, I2, BO, FI, RG, GU, PU, MA, MN, MS, OT, SC], [192, 256, 320, 384, w, r5, 576, 640, 704], Lg)) o from ev_opt (fun x7 => (d + 3, 0, 0, 290, 75, [.val (.ref 64), .val (.int p1), .val (.int p2)], [.int x7], (126, 120, L, [Y_5, T, H, H2, RU, RV, ST, NS, I0, I1, I2, BO, FI, RG, GU, PU, MA, MN, MS, OT, SC], [192, 256, 320, 384, w, r5, 576, 640, 704], Lg))) 3 zh13 e (fun n => Eq.refl _)
          have ze14 := Option.some.inj h
          subst ze14
          exact ev_rete 1 ho (fun n => Eq.refl _)
        have h := itn h zc12
        by_cases zc15 : p2 = 2
        · have h := itp h zc15
          suffices e : Ev (d + 3, 0, 0, 290, 76, [.val (.ref 64), .val (.int p1), .val (.int p2)], [], (126, 120, L, [Y_5, T, H, H2, RU, RV, ST, NS, I0, I1, I2, BO, FI, RG, GU, PU, MA, MN, MS, OT, SC], [192, 256, 320, 384, w, r5, 576, 640, 704], Lg)) o from ev_sw [((0 : Int32), 56), ((1 : Int32), 66), ((2 : Int32), 76), ((3 : Int32), 86)] p2 (fun tt => (d + 3, 0, 0, 290, tt, [.val (.ref 64), .val (.int p1), .val (.int p2)], [], (126, 120, L, [Y_5, T, H, H2, RU, RV, ST, NS, I0, I1, I2, BO, FI, RG, GU, PU, MA, MN, MS, OT, SC], [192, 256, 320, 384, w, r5, 576, 640, 704], Lg))) 106 76 2 (fun f => by simp only [a_sw, if_neg zc9, if_neg zc12, if_pos zc15]) e (fun n => Eq.refl _)
          suffices e : Ev (d + 3, 0, 0, 290, 80, [.val (.ref 64), .val (.int p1), .val (.int p2)], [.ref 192], (126, 120, L, [Y_5, T, H, H2, RU, RV, ST, NS, I0, I1, I2, BO, FI, RG, GU, PU, MA, MN, MS, OT, SC], [192, 256, 320, 384, w, r5, 576, 640, 704], Lg)) o from ev_b 2 e (fun n => Eq.refl _)
          obtain ⟨x8, zh16, h⟩ := bnd h
          have zh16 : rdx (H 4) 8 p1 = some x8 := zh16
          suffices e : Ev (d + 3, 0, 0, 290, 85, [.val (.ref 64), .val (.int p1), .val (.int p2)], [.int x8], (126, 120, L, [Y_5, T, H, H2, RU, RV, ST, NS, I0, I1, I2, BO, FI, RG, GU, PU, MA, MN, MS, OT, SC], [192, 256, 320, 384, w, r5, 576, 640, 704], Lg)) o from ev_opt (fun x8 => (d + 3, 0, 0, 290, 85, [.val (.ref 64), .val (.int p1), .val (.int p2)], [.int x8], (126, 120, L, [Y_5, T, H, H2, RU, RV, ST, NS, I0, I1, I2, BO, FI, RG, GU, PU, MA, MN, MS, OT, SC], [192, 256, 320, 384, w, r5, 576, 640, 704], Lg))) 3 zh16 e (fun n => Eq.refl _)
          have ze17 := Option.some.inj h
          subst ze17
          exact ev_rete 1 ho (fun n => Eq.refl _)
        have h := itn h zc15
        by_cases zc18 : p2 = 3
        · have h := itp h zc18
          suffices e : Ev (d + 3, 0, 0, 290, 86, [.val (.ref 64), .val (.int p1), .val (.int p2)], [], (126, 120, L, [Y_5, T, H, H2, RU, RV, ST, NS, I0, I1, I2, BO, FI, RG, GU, PU, MA, MN, MS, OT, SC], [192, 256, 320, 384, w, r5, 576, 640, 704], Lg)) o from ev_sw [((0 : Int32), 56), ((1 : Int32), 66), ((2 : Int32), 76), ((3 : Int32), 86)] p2 (fun tt => (d + 3, 0, 0, 290, tt, [.val (.ref 64), .val (.int p1), .val (.int p2)], [], (126, 120, L, [Y_5, T, H, H2, RU, RV, ST, NS, I0, I1, I2, BO, FI, RG, GU, PU, MA, MN, MS, OT, SC], [192, 256, 320, 384, w, r5, 576, 640, 704], Lg))) 106 86 2 (fun f => by simp only [a_sw, if_neg zc9, if_neg zc12, if_neg zc15, if_pos zc18]) e (fun n => Eq.refl _)
          obtain ⟨BO_10, zh19, h⟩ := bnd h
          have zh19 : f_Y_lookNow H NS BO = some BO_10 := zh19
          have ze20 := R_f_Y_lookNow_0 (d + 0) Y_5 T H H2 RU RV ST NS I0 I1 I2 BO FI RG GU PU MA MN MS OT SC w r5 L Lg zh19
          suffices e : Ev (d + 3, 0, 0, 290, 90, [.val (.ref 64), .val (.int p1), .val (.int p2)], [.ref 768], (126, 120, L, [Y_5, T, H, H2, RU, RV, ST, NS, I0, I1, I2, BO_10, FI, RG, GU, PU, MA, MN, MS, OT, SC], [192, 256, 320, 384, w, 192, 576, 640, 704], Lg)) o from ev_call (fun v μ => (d + 3, 0, 0, 290, 90, [.val (.ref 64), .val (.int p1), .val (.int p2)], v.toList ++ [], μ)) 2 ze20 e (fun n => Eq.refl _)
          obtain ⟨x11, zh21, h⟩ := bnd h
          have zh21 : f_Board_placed H BO_10 = some x11 := zh21
          have ze22 := R_f_Board_placed_0 (d + 2) Y_5 T H H2 RU RV ST NS I0 I1 I2 BO_10 FI RG GU PU MA MN MS OT SC 192 256 320 384 w 576 640 704 L Lg zh21
          suffices e : Ev (d + 3, 0, 0, 290, 93, [.val (.ref 64), .val (.int p1), .val (.int p2)], [.int x11], (126, 120, L, [Y_5, T, H, H2, RU, RV, ST, NS, I0, I1, I2, BO_10, FI, RG, GU, PU, MA, MN, MS, OT, SC], [192, 256, 320, 384, w, 192, 576, 640, 704], Lg)) o from ev_call (fun v μ => (d + 3, 0, 0, 290, 93, [.val (.ref 64), .val (.int p1), .val (.int p2)], v.toList ++ [], μ)) 1 ze22 e (fun n => Eq.refl _)
          suffices e : Ev (d + 3, 0, 0, 290, 97, [.val (.ref 64), .val (.int p1), .val (.int p2)], [.ref 192, .int x11], (126, 120, L, [Y_5, T, H, H2, RU, RV, ST, NS, I0, I1, I2, BO_10, FI, RG, GU, PU, MA, MN, MS, OT, SC], [192, 256, 320, 384, w, 192, 576, 640, 704], Lg)) o from ev_b 2 e (fun n => Eq.refl _)
          obtain ⟨x12, zh23, h⟩ := bnd h
          have zh23 : f_House_meetingsOf H p1 = some x12 := zh23
          have ze24 := R_f_House_meetingsOf_0 (d + 1) Y_5 T H H2 RU RV ST NS I0 I1 I2 BO_10 FI RG GU PU MA MN MS OT SC 192 256 320 384 w 192 576 640 704 L Lg p1 zh23
          suffices e : Ev (d + 3, 0, 0, 290, 101, [.val (.ref 64), .val (.int p1), .val (.int p2)], [.int x12, .int x11], (126, 120, L, [Y_5, T, H, H2, RU, RV, ST, NS, I0, I1, I2, BO_10, FI, RG, GU, PU, MA, MN, MS, OT, SC], [192, 256, 320, 384, w, 192, 576, 640, 704], Lg)) o from ev_call (fun v μ => (d + 3, 0, 0, 290, 101, [.val (.ref 64), .val (.int p1), .val (.int p2)], v.toList ++ [.int x11], μ)) 2 ze24 e (fun n => Eq.refl _)
          obtain ⟨x13, zh25, h⟩ := bnd h
          have zh25 : f_Integer_bitCount (x11 &&& x12) = some x13 := zh25
          have ze26 := R_f_Integer_bitCount_0 (d + 2) Y_5 T H H2 RU RV ST NS I0 I1 I2 BO_10 FI RG GU PU MA MN MS OT SC 192 256 320 384 w 192 576 640 704 L Lg (x11 &&& x12) zh25
          suffices e : Ev (d + 3, 0, 0, 290, 105, [.val (.ref 64), .val (.int p1), .val (.int p2)], [.int x13], (126, 120, L, [Y_5, T, H, H2, RU, RV, ST, NS, I0, I1, I2, BO_10, FI, RG, GU, PU, MA, MN, MS, OT, SC], [192, 256, 320, 384, w, 192, 576, 640, 704], Lg)) o from ev_call (fun v μ => (d + 3, 0, 0, 290, 105, [.val (.ref 64), .val (.int p1), .val (.int p2)], v.toList ++ [], μ)) 2 ze26 e (fun n => Eq.refl _)
          have ze27 := Option.some.inj h
          subst ze27
          exact ev_rete 1 ho (fun n => Eq.refl _)
        have h := itn h zc18
        suffices e : Ev (d + 3, 0, 0, 290, 106, [.val (.ref 64), .val (.int p1), .val (.int p2)], [], (126, 120, L, [Y_5, T, H, H2, RU, RV, ST, NS, I0, I1, I2, BO, FI, RG, GU, PU, MA, MN, MS, OT, SC], [192, 256, 320, 384, w, r5, 576, 640, 704], Lg)) o from ev_sw [((0 : Int32), 56), ((1 : Int32), 66), ((2 : Int32), 76), ((3 : Int32), 86)] p2 (fun tt => (d + 3, 0, 0, 290, tt, [.val (.ref 64), .val (.int p1), .val (.int p2)], [], (126, 120, L, [Y_5, T, H, H2, RU, RV, ST, NS, I0, I1, I2, BO, FI, RG, GU, PU, MA, MN, MS, OT, SC], [192, 256, 320, 384, w, r5, 576, 640, 704], Lg))) 106 106 2 (fun f => by simp only [a_sw, if_neg zc9, if_neg zc12, if_neg zc15, if_neg zc18]) e (fun n => Eq.refl _)
        obtain ⟨BO_15, zh28, h⟩ := bnd h
        have zh28 : f_Y_lookNow H NS BO = some BO_15 := zh28
        have ze29 := R_f_Y_lookNow_0 (d + 0) Y_5 T H H2 RU RV ST NS I0 I1 I2 BO FI RG GU PU MA MN MS OT SC w r5 L Lg zh28
        suffices e : Ev (d + 3, 0, 0, 290, 110, [.val (.ref 64), .val (.int p1), .val (.int p2)], [.ref 768], (126, 120, L, [Y_5, T, H, H2, RU, RV, ST, NS, I0, I1, I2, BO_15, FI, RG, GU, PU, MA, MN, MS, OT, SC], [192, 256, 320, 384, w, 192, 576, 640, 704], Lg)) o from ev_call (fun v μ => (d + 3, 0, 0, 290, 110, [.val (.ref 64), .val (.int p1), .val (.int p2)], v.toList ++ [], μ)) 2 ze29 e (fun n => Eq.refl _)
        obtain ⟨x16, zh30, h⟩ := bnd h
        have zh30 : f_Board_bears H BO_15 p1 = some x16 := zh30
        have ze31 := R_f_Board_bears_0 (d + 1) Y_5 T H H2 RU RV ST NS I0 I1 I2 BO_15 FI RG GU PU MA MN MS OT SC 192 256 320 384 w 576 640 704 L Lg p1 zh30
        suffices e : Ev (d + 3, 0, 0, 290, 114, [.val (.ref 64), .val (.int p1), .val (.int p2)], [.int x16], (126, 120, L, [Y_5, T, H, H2, RU, RV, ST, NS, I0, I1, I2, BO_15, FI, RG, GU, PU, MA, MN, MS, OT, SC], [192, 256, 320, 384, w, 192, 576, 640, 704], Lg)) o from ev_call (fun v μ => (d + 3, 0, 0, 290, 114, [.val (.ref 64), .val (.int p1), .val (.int p2)], v.toList ++ [], μ)) 2 ze31 e (fun n => Eq.refl _)
        have ze32 := Option.some.inj h
        subst ze32
        exact ev_rete 1 ho (fun n => Eq.refl _)
      | succ q4 =>
        have h := itn h (Nat.succ_ne_zero q4)
        have ze33 := Option.some.inj h
        subst ze33
        subst ho
        exact ev_thr (fun v μ => (d + 3, 0, 0, 290, 23, [.val (.ref 64), .val (.int p1), .val (.int p2)], v.toList ++ [], μ)) 1 ze8 (fun n => Eq.refl _) (fun n => rfl)
    obtain ⟨zt34, zh35, zh4⟩ := bnd zh4
    have zj36 : zt34 = .inl () → Ev (d + 3, 1, 8, 290, 19, [.val (.ref 64), .val (.int p1), .val (.int p2)], [.ref 64], (126, 120, L, [Y_2, T, H, H2, RU, RV, ST, NS, I0, I1, I2, BO, FI, RG, GU, PU, MA, MN, MS, OT, SC], [192, 256, 320, 384, w, r5, 576, 640, 704], Lg)) o := by
      intro ze37
      have zh4 := sum_l zh4 ze37
      exact ev_b 1 (zj5 0 (Option.some.inj zh4) ) (fun n => Eq.refl _)
    by_cases zc38 : p2 < 0
    · have zh35 := itp zh35 zc38
      suffices e : Ev (d + 3, 1, 8, 290, 19, [.val (.ref 64), .val (.int p1), .val (.int p2)], [.ref 64], (126, 120, L, [Y_2, T, H, H2, RU, RV, ST, NS, I0, I1, I2, BO, FI, RG, GU, PU, MA, MN, MS, OT, SC], [192, 256, 320, 384, w, r5, 576, 640, 704], Lg)) o from ev_t (c := p2 < 0) _ _ 3  zc38 e (fun n => Eq.refl _)
      exact ev_b 0 (zj36  (Option.some.inj zh35).symm ) (fun n => Eq.refl _)
    · have zh35 := itn zh35 zc38
      suffices e : Ev (d + 3, 1, 8, 290, 10, [.val (.ref 64), .val (.int p1), .val (.int p2)], [.ref 64], (126, 120, L, [Y_2, T, H, H2, RU, RV, ST, NS, I0, I1, I2, BO, FI, RG, GU, PU, MA, MN, MS, OT, SC], [192, 256, 320, 384, w, r5, 576, 640, 704], Lg)) o from ev_f (c := p2 < 0) _ _ 3  zc38 e (fun n => Eq.refl _)
      by_cases zc39 : 4 < p2
      · have zh35 := itp zh35 zc39
        suffices e : Ev (d + 3, 1, 8, 290, 19, [.val (.ref 64), .val (.int p1), .val (.int p2)], [.ref 64], (126, 120, L, [Y_2, T, H, H2, RU, RV, ST, NS, I0, I1, I2, BO, FI, RG, GU, PU, MA, MN, MS, OT, SC], [192, 256, 320, 384, w, r5, 576, 640, 704], Lg)) o from ev_t (c := 4 < p2) _ _ 3  zc39 e (fun n => Eq.refl _)
        exact ev_b 0 (zj36  (Option.some.inj zh35).symm ) (fun n => Eq.refl _)
      · have zh35 := itn zh35 zc39
        suffices e : Ev (d + 3, 1, 8, 290, 15, [.val (.ref 64), .val (.int p1), .val (.int p2)], [.ref 64], (126, 120, L, [Y_2, T, H, H2, RU, RV, ST, NS, I0, I1, I2, BO, FI, RG, GU, PU, MA, MN, MS, OT, SC], [192, 256, 320, 384, w, r5, 576, 640, 704], Lg)) o from ev_f (c := 4 < p2) _ _ 3  zc39 e (fun n => Eq.refl _)
        have zh40 := sum_r zh4 (Option.some.inj zh35).symm
        exact ev_b 2 (zj5 1 (Option.some.inj zh40) ) (fun n => Eq.refl _)
  | succ q1 =>
    have h := itn h (Nat.succ_ne_zero q1)
    have ze41 := Option.some.inj h
    subst ze41
    subst ho
    exact ev_thr (fun v μ => (d + 3, 1, 8, 290, 5, [.val (.ref 64), .val (.int p1), .val (.int p2)], v.toList ++ [], μ)) 3 ze2 (fun n => Eq.refl _) (fun n => rfl)
set_option maxRecDepth 1000000 in
set_option maxHeartbeats 4000000 in
theorem R_f_Y_needPerson_1 (d : Nat) (Y T H H2 RV RU ST NS I0 I1 I2 BO FI RG GU PU MA MN MS OT SC : Nat → Nat → Int32) (w r5 : Nat) (L : Nat) (Lg : Int64) (p1 : Int32) {r : Nat × (Nat → Nat → Int32)} (h : f_Y_needPerson Y H p1 = some r) : Ev (d + 1, 1, 8, 336, 0, [.val (.ref 64), .val (.int p1)], [], (126, 120, L, [Y, T, H, H2, RV, RU, ST, NS, I0, I1, I2, BO, FI, RG, GU, PU, MA, MN, MS, OT, SC], [192, 256, 384, 320, w, r5, 576, 640, 704], Lg)) ((r.1, none, (126, 120, L, [r.2, T, H, H2, RV, RU, ST, NS, I0, I1, I2, BO, FI, RG, GU, PU, MA, MN, MS, OT, SC], [192, 256, 384, 320, w, r5, 576, 640, 704], Lg)) : AOut) := by
  suffices key : ∀ o : AOut, ((r.1, none, (126, 120, L, [r.2, T, H, H2, RV, RU, ST, NS, I0, I1, I2, BO, FI, RG, GU, PU, MA, MN, MS, OT, SC], [192, 256, 384, 320, w, r5, 576, 640, 704], Lg)) : AOut) = o → Ev (d + 1, 1, 8, 336, 0, [.val (.ref 64), .val (.int p1)], [], (126, 120, L, [Y, T, H, H2, RV, RU, ST, NS, I0, I1, I2, BO, FI, RG, GU, PU, MA, MN, MS, OT, SC], [192, 256, 384, 320, w, r5, 576, 640, 704], Lg)) o from key _ rfl
  intro o ho
  suffices e : Ev (d + 1, 1, 8, 336, 6, [.val (.ref 64), .val (.int p1)], [.ref 192, .int p1, .ref 64], (126, 120, L, [Y, T, H, H2, RV, RU, ST, NS, I0, I1, I2, BO, FI, RG, GU, PU, MA, MN, MS, OT, SC], [192, 256, 384, 320, w, r5, 576, 640, 704], Lg)) o from ev_b 4 e (fun n => Eq.refl _)
  obtain ⟨⟨q1, Y_2⟩, zh1, h⟩ := bnd h
  have zh1 : f_Y_needOneOf Y p1 (H 0 2) = some (q1, Y_2) := zh1
  have ze2 := R_f_Y_needOneOf_1 (d + 0) Y T H H2 RV RU ST NS I0 I1 I2 BO FI RG GU PU MA MN MS OT SC w r5 L Lg p1 (H 0 2) zh1
  cases q1 with
  | zero =>
    have h := itp h rfl
    suffices e : Ev (d + 1, 0, 0, 336, 12, [.val (.ref 64), .val (.int p1)], [], (126, 120, L, [Y_2, T, H, H2, RV, RU, ST, NS, I0, I1, I2, BO, FI, RG, GU, PU, MA, MN, MS, OT, SC], [192, 256, 384, 320, w, r5, 576, 640, 704], Lg)) o from ev_call (fun v μ => (d + 1, 0, 0, 336, 12, [.val (.ref 64), .val (.int p1)], v.toList ++ [], μ)) 2 ze2 e (fun n => Eq.refl _)
    have ze3 := Option.some.inj h
    subst ze3
    exact ev_rete 1 ho (fun n => Eq.refl _)
  | succ q1 =>
    have h := itn h (Nat.succ_ne_zero q1)
    have ze4 := Option.some.inj h
    subst ze4
    subst ho
    exact ev_thr (fun v μ => (d + 1, 0, 0, 336, 12, [.val (.ref 64), .val (.int p1)], v.toList ++ [], μ)) 2 ze2 (fun n => Eq.refl _) (fun n => rfl)
set_option maxRecDepth 1000000 in
set_option maxHeartbeats 4000000 in
theorem R_f_Y_person_1 (d : Nat) (Y T H H2 RV RU ST NS I0 I1 I2 BO FI RG GU PU MA MN MS OT SC : Nat → Nat → Int32) (w r5 : Nat) (L : Nat) (Lg : Int64) (p1 : Int32) (p2 : Int32) {r : Nat × Int32 × (Nat → Nat → Int32) × (Nat → Nat → Int32) × Nat} (h : f_Y_person Y H NS BO r5 192 p1 p2 = some r) : Ev (d + 3, 2, 16, 290, 0, [.val (.ref 64), .val (.int p1), .val (.int p2)], [], (126, 120, L, [Y, T, H, H2, RV, RU, ST, NS, I0, I1, I2, BO, FI, RG, GU, PU, MA, MN, MS, OT, SC], [192, 256, 384, 320, w, r5, 576, 640, 704], Lg)) ((r.1, a_ov r.1 (.int r.2.1), (126, 120, L, [r.2.2.1, T, H, H2, RV, RU, ST, NS, I0, I1, I2, r.2.2.2.1, FI, RG, GU, PU, MA, MN, MS, OT, SC], [192, 256, 384, 320, w, r.2.2.2.2, 576, 640, 704], Lg)) : AOut) := by
  suffices key : ∀ o : AOut, ((r.1, a_ov r.1 (.int r.2.1), (126, 120, L, [r.2.2.1, T, H, H2, RV, RU, ST, NS, I0, I1, I2, r.2.2.2.1, FI, RG, GU, PU, MA, MN, MS, OT, SC], [192, 256, 384, 320, w, r.2.2.2.2, 576, 640, 704], Lg)) : AOut) = o → Ev (d + 3, 2, 16, 290, 0, [.val (.ref 64), .val (.int p1), .val (.int p2)], [], (126, 120, L, [Y, T, H, H2, RV, RU, ST, NS, I0, I1, I2, BO, FI, RG, GU, PU, MA, MN, MS, OT, SC], [192, 256, 384, 320, w, r5, 576, 640, 704], Lg)) o from key _ rfl
  intro o ho
  obtain ⟨⟨q1, Y_2⟩, zh1, h⟩ := bnd h
  have zh1 : f_Y_needPerson Y H p1 = some (q1, Y_2) := zh1
  have ze2 := R_f_Y_needPerson_1 (d + 1) Y T H H2 RV RU ST NS I0 I1 I2 BO FI RG GU PU MA MN MS OT SC w r5 L Lg p1 zh1
  cases q1 with
  | zero =>
    have h := itp h rfl
    suffices e : Ev (d + 3, 1, 8, 290, 5, [.val (.ref 64), .val (.int p1), .val (.int p2)], [], (126, 120, L, [Y_2, T, H, H2, RV, RU, ST, NS, I0, I1, I2, BO, FI, RG, GU, PU, MA, MN, MS, OT, SC], [192, 256, 384, 320, w, r5, 576, 640, 704], Lg)) o from ev_call (fun v μ => (d + 3, 1, 8, 290, 5, [.val (.ref 64), .val (.int p1), .val (.int p2)], v.toList ++ [], μ)) 3 ze2 e (fun n => Eq.refl _)
    obtain ⟨zt3, zh4, h⟩ := bnd h
    have zj5 : ∀ (v3 : Int32), v3 = zt3 → Ev (d + 3, 1, 8, 290, 20, [.val (.ref 64), .val (.int p1), .val (.int p2)], [.int v3, .ref 64], (126, 120, L, [Y_2, T, H, H2, RV, RU, ST, NS, I0, I1, I2, BO, FI, RG, GU, PU, MA, MN, MS, OT, SC], [192, 256, 384, 320, w, r5, 576, 640, 704], Lg)) o := by
      intro v3 ze6
      subst ze6
      obtain ⟨⟨q4, Y_5⟩, zh7, h⟩ := bnd h
      have zh7 : f_Y_refuseUnless Y_2 v3 = some (q4, Y_5) := zh7
      have ze8 := R_f_Y_refuseUnless_1 (d + 2) Y_2 T H H2 RV RU ST NS I0 I1 I2 BO FI RG GU PU MA MN MS OT SC w r5 L Lg v3 zh7
      cases q4 with
      | zero =>
        have h := itp h rfl
        suffices e : Ev (d + 3, 0, 0, 290, 23, [.val (.ref 64), .val (.int p1), .val (.int p2)], [], (126, 120, L, [Y_5, T, H, H2, RV, RU, ST, NS, I0, I1, I2, BO, FI, RG, GU, PU, MA, MN, MS, OT, SC], [192, 256, 384, 320, w, r5, 576, 640, 704], Lg)) o from ev_call (fun v μ => (d + 3, 0, 0, 290, 23, [.val (.ref 64), .val (.int p1), .val (.int p2)], v.toList ++ [], μ)) 1 ze8 e (fun n => Eq.refl _)
        by_cases zc9 : p2 = 0
        · have h := itp h zc9
          suffices e : Ev (d + 3, 0, 0, 290, 56, [.val (.ref 64), .val (.int p1), .val (.int p2)], [], (126, 120, L, [Y_5, T, H, H2, RV, RU, ST, NS, I0, I1, I2, BO, FI, RG, GU, PU, MA, MN, MS, OT, SC], [192, 256, 384, 320, w, r5, 576, 640, 704], Lg)) o from ev_sw [((0 : Int32), 56), ((1 : Int32), 66), ((2 : Int32), 76), ((3 : Int32), 86)] p2 (fun tt => (d + 3, 0, 0, 290, tt, [.val (.ref 64), .val (.int p1), .val (.int p2)], [], (126, 120, L, [Y_5, T, H, H2, RV, RU, ST, NS, I0, I1, I2, BO, FI, RG, GU, PU, MA, MN, MS, OT, SC], [192, 256, 384, 320, w, r5, 576, 640, 704], Lg))) 106 56 2 (fun f => by simp only [a_sw, if_pos zc9]) e (fun n => Eq.refl _)
          suffices e : Ev (d + 3, 0, 0, 290, 60, [.val (.ref 64), .val (.int p1), .val (.int p2)], [.ref 192], (126, 120, L, [Y_5, T, H, H2, RV, RU, ST, NS, I0, I1, I2, BO, FI, RG, GU, PU, MA, MN, MS, OT, SC], [192, 256, 384, 320, w, r5, 576, 640, 704], Lg)) o from ev_b 2 e (fun n => Eq.refl _)
          obtain ⟨x6, zh10, h⟩ := bnd h
          have zh10 : rdx (H 2) 8 p1 = some x6 := zh10
          suffices e : Ev (d + 3, 0, 0, 290, 65, [.val (.ref 64), .val (.int p1), .val (.int p2)], [.int x6], (126, 120, L, [Y_5, T, H, H2, RV, RU, ST, NS, I0, I1, I2, BO, FI, RG, GU, PU, MA, MN, MS, OT, SC], [192, 256, 384, 320, w, r5, 576, 640, 704], Lg)) o from ev_opt (fun x6 => (d + 3, 0, 0, 290, 65, [.val (.ref 64), .val (.int p1), .val (.int p2)], [.int x6], (126, 120, L, [Y_5, T, H, H2, RV, RU, ST, NS, I0, I1, I2, BO, FI, RG, GU, PU, MA, MN, MS, OT, SC], [192, 256, 384, 320, w, r5, 576, 640, 704], Lg))) 3 zh10 e (fun n => Eq.refl _)
          have ze11 := Option.some.inj h
          subst ze11
          exact ev_rete 1 ho (fun n => Eq.refl _)
        have h := itn h zc9
        by_cases zc12 : p2 = 1
        · have h := itp h zc12
          suffices e : Ev (d + 3, 0, 0, 290, 66, [.val (.ref 64), .val (.int p1), .val (.int p2)], [], (126, 120, L, [Y_5, T, H, H2, RV, RU, ST, NS, I0, I1, I2, BO, FI, RG, GU, PU, MA, MN, MS, OT, SC], [192, 256, 384, 320, w, r5, 576, 640, 704], Lg)) o from ev_sw [((0 : Int32), 56), ((1 : Int32), 66), ((2 : Int32), 76), ((3 : Int32), 86)] p2 (fun tt => (d + 3, 0, 0, 290, tt, [.val (.ref 64), .val (.int p1), .val (.int p2)], [], (126, 120, L, [Y_5, T, H, H2, RV, RU, ST, NS, I0, I1, I2, BO, FI, RG, GU, PU, MA, MN, MS, OT, SC], [192, 256, 384, 320, w, r5, 576, 640, 704], Lg))) 106 66 2 (fun f => by simp only [a_sw, if_neg zc9, if_pos zc12]) e (fun n => Eq.refl _)
          suffices e : Ev (d + 3, 0, 0, 290, 70, [.val (.ref 64), .val (.int p1), .val (.int p2)], [.ref 192], (126, 120, L, [Y_5, T, H, H2, RV, RU, ST, NS, I0, I1, I2, BO, FI, RG, GU, PU, MA, MN, MS, OT, SC], [192, 256, 384, 320, w, r5, 576, 640, 704], Lg)) o from ev_b 2 e (fun n => Eq.refl _)
          obtain ⟨x7, zh13, h⟩ := bnd h
          have zh13 : rdx (H 3) 8 p1 = some x7 := zh13
          suffices e : Ev (d + 3, 0, 0, 290, 75, [.val (.ref 64), .val (.int p1), .val (.int p2)], [.int x7], (126, 120, L, [Y_5, T, H, H2, RV, RU, ST, NS, I0, I1, I2, BO, FI, RG, GU, PU, MA, MN, MS, OT, SC], [192, 256, 384, 320, w, r5, 576, 640, 704], Lg)) o from ev_opt (fun x7 => (d + 3, 0, 0, 290, 75, [.val (.ref 64), .val (.int p1), .val (.int p2)], [.int x7], (126, 120, L, [Y_5, T, H, H2, RV, RU, ST, NS, I0, I1, I2, BO, FI, RG, GU, PU, MA, MN, MS, OT, SC], [192, 256, 384, 320, w, r5, 576, 640, 704], Lg))) 3 zh13 e (fun n => Eq.refl _)
          have ze14 := Option.some.inj h
          subst ze14
          exact ev_rete 1 ho (fun n => Eq.refl _)
        have h := itn h zc12
        by_cases zc15 : p2 = 2
        · have h := itp h zc15
          suffices e : Ev (d + 3, 0, 0, 290, 76, [.val (.ref 64), .val (.int p1), .val (.int p2)], [], (126, 120, L, [Y_5, T, H, H2, RV, RU, ST, NS, I0, I1, I2, BO, FI, RG, GU, PU, MA, MN, MS, OT, SC], [192, 256, 384, 320, w, r5, 576, 640, 704], Lg)) o from ev_sw [((0 : Int32), 56), ((1 : Int32), 66), ((2 : Int32), 76), ((3 : Int32), 86)] p2 (fun tt => (d + 3, 0, 0, 290, tt, [.val (.ref 64), .val (.int p1), .val (.int p2)], [], (126, 120, L, [Y_5, T, H, H2, RV, RU, ST, NS, I0, I1, I2, BO, FI, RG, GU, PU, MA, MN, MS, OT, SC], [192, 256, 384, 320, w, r5, 576, 640, 704], Lg))) 106 76 2 (fun f => by simp only [a_sw, if_neg zc9, if_neg zc12, if_pos zc15]) e (fun n => Eq.refl _)
          suffices e : Ev (d + 3, 0, 0, 290, 80, [.val (.ref 64), .val (.int p1), .val (.int p2)], [.ref 192], (126, 120, L, [Y_5, T, H, H2, RV, RU, ST, NS, I0, I1, I2, BO, FI, RG, GU, PU, MA, MN, MS, OT, SC], [192, 256, 384, 320, w, r5, 576, 640, 704], Lg)) o from ev_b 2 e (fun n => Eq.refl _)
          obtain ⟨x8, zh16, h⟩ := bnd h
          have zh16 : rdx (H 4) 8 p1 = some x8 := zh16
          suffices e : Ev (d + 3, 0, 0, 290, 85, [.val (.ref 64), .val (.int p1), .val (.int p2)], [.int x8], (126, 120, L, [Y_5, T, H, H2, RV, RU, ST, NS, I0, I1, I2, BO, FI, RG, GU, PU, MA, MN, MS, OT, SC], [192, 256, 384, 320, w, r5, 576, 640, 704], Lg)) o from ev_opt (fun x8 => (d + 3, 0, 0, 290, 85, [.val (.ref 64), .val (.int p1), .val (.int p2)], [.int x8], (126, 120, L, [Y_5, T, H, H2, RV, RU, ST, NS, I0, I1, I2, BO, FI, RG, GU, PU, MA, MN, MS, OT, SC], [192, 256, 384, 320, w, r5, 576, 640, 704], Lg))) 3 zh16 e (fun n => Eq.refl _)
          have ze17 := Option.some.inj h
          subst ze17
          exact ev_rete 1 ho (fun n => Eq.refl _)
        have h := itn h zc15
        by_cases zc18 : p2 = 3
        · have h := itp h zc18
          suffices e : Ev (d + 3, 0, 0, 290, 86, [.val (.ref 64), .val (.int p1), .val (.int p2)], [], (126, 120, L, [Y_5, T, H, H2, RV, RU, ST, NS, I0, I1, I2, BO, FI, RG, GU, PU, MA, MN, MS, OT, SC], [192, 256, 384, 320, w, r5, 576, 640, 704], Lg)) o from ev_sw [((0 : Int32), 56), ((1 : Int32), 66), ((2 : Int32), 76), ((3 : Int32), 86)] p2 (fun tt => (d + 3, 0, 0, 290, tt, [.val (.ref 64), .val (.int p1), .val (.int p2)], [], (126, 120, L, [Y_5, T, H, H2, RV, RU, ST, NS, I0, I1, I2, BO, FI, RG, GU, PU, MA, MN, MS, OT, SC], [192, 256, 384, 320, w, r5, 576, 640, 704], Lg))) 106 86 2 (fun f => by simp only [a_sw, if_neg zc9, if_neg zc12, if_neg zc15, if_pos zc18]) e (fun n => Eq.refl _)
          obtain ⟨BO_10, zh19, h⟩ := bnd h
          have zh19 : f_Y_lookNow H NS BO = some BO_10 := zh19
          have ze20 := R_f_Y_lookNow_1 (d + 0) Y_5 T H H2 RV RU ST NS I0 I1 I2 BO FI RG GU PU MA MN MS OT SC w r5 L Lg zh19
          suffices e : Ev (d + 3, 0, 0, 290, 90, [.val (.ref 64), .val (.int p1), .val (.int p2)], [.ref 768], (126, 120, L, [Y_5, T, H, H2, RV, RU, ST, NS, I0, I1, I2, BO_10, FI, RG, GU, PU, MA, MN, MS, OT, SC], [192, 256, 384, 320, w, 192, 576, 640, 704], Lg)) o from ev_call (fun v μ => (d + 3, 0, 0, 290, 90, [.val (.ref 64), .val (.int p1), .val (.int p2)], v.toList ++ [], μ)) 2 ze20 e (fun n => Eq.refl _)
          obtain ⟨x11, zh21, h⟩ := bnd h
          have zh21 : f_Board_placed H BO_10 = some x11 := zh21
          have ze22 := R_f_Board_placed_0 (d + 2) Y_5 T H H2 RV RU ST NS I0 I1 I2 BO_10 FI RG GU PU MA MN MS OT SC 192 256 384 320 w 576 640 704 L Lg zh21
          suffices e : Ev (d + 3, 0, 0, 290, 93, [.val (.ref 64), .val (.int p1), .val (.int p2)], [.int x11], (126, 120, L, [Y_5, T, H, H2, RV, RU, ST, NS, I0, I1, I2, BO_10, FI, RG, GU, PU, MA, MN, MS, OT, SC], [192, 256, 384, 320, w, 192, 576, 640, 704], Lg)) o from ev_call (fun v μ => (d + 3, 0, 0, 290, 93, [.val (.ref 64), .val (.int p1), .val (.int p2)], v.toList ++ [], μ)) 1 ze22 e (fun n => Eq.refl _)
          suffices e : Ev (d + 3, 0, 0, 290, 97, [.val (.ref 64), .val (.int p1), .val (.int p2)], [.ref 192, .int x11], (126, 120, L, [Y_5, T, H, H2, RV, RU, ST, NS, I0, I1, I2, BO_10, FI, RG, GU, PU, MA, MN, MS, OT, SC], [192, 256, 384, 320, w, 192, 576, 640, 704], Lg)) o from ev_b 2 e (fun n => Eq.refl _)
          obtain ⟨x12, zh23, h⟩ := bnd h
          have zh23 : f_House_meetingsOf H p1 = some x12 := zh23
          have ze24 := R_f_House_meetingsOf_0 (d + 1) Y_5 T H H2 RV RU ST NS I0 I1 I2 BO_10 FI RG GU PU MA MN MS OT SC 192 256 384 320 w 192 576 640 704 L Lg p1 zh23
          suffices e : Ev (d + 3, 0, 0, 290, 101, [.val (.ref 64), .val (.int p1), .val (.int p2)], [.int x12, .int x11], (126, 120, L, [Y_5, T, H, H2, RV, RU, ST, NS, I0, I1, I2, BO_10, FI, RG, GU, PU, MA, MN, MS, OT, SC], [192, 256, 384, 320, w, 192, 576, 640, 704], Lg)) o from ev_call (fun v μ => (d + 3, 0, 0, 290, 101, [.val (.ref 64), .val (.int p1), .val (.int p2)], v.toList ++ [.int x11], μ)) 2 ze24 e (fun n => Eq.refl _)
          obtain ⟨x13, zh25, h⟩ := bnd h
          have zh25 : f_Integer_bitCount (x11 &&& x12) = some x13 := zh25
          have ze26 := R_f_Integer_bitCount_0 (d + 2) Y_5 T H H2 RV RU ST NS I0 I1 I2 BO_10 FI RG GU PU MA MN MS OT SC 192 256 384 320 w 192 576 640 704 L Lg (x11 &&& x12) zh25
          suffices e : Ev (d + 3, 0, 0, 290, 105, [.val (.ref 64), .val (.int p1), .val (.int p2)], [.int x13], (126, 120, L, [Y_5, T, H, H2, RV, RU, ST, NS, I0, I1, I2, BO_10, FI, RG, GU, PU, MA, MN, MS, OT, SC], [192, 256, 384, 320, w, 192, 576, 640, 704], Lg)) o from ev_call (fun v μ => (d + 3, 0, 0, 290, 105, [.val (.ref 64), .val (.int p1), .val (.int p2)], v.toList ++ [], μ)) 2 ze26 e (fun n => Eq.refl _)
          have ze27 := Option.some.inj h
          subst ze27
          exact ev_rete 1 ho (fun n => Eq.refl _)
        have h := itn h zc18
        suffices e : Ev (d + 3, 0, 0, 290, 106, [.val (.ref 64), .val (.int p1), .val (.int p2)], [], (126, 120, L, [Y_5, T, H, H2, RV, RU, ST, NS, I0, I1, I2, BO, FI, RG, GU, PU, MA, MN, MS, OT, SC], [192, 256, 384, 320, w, r5, 576, 640, 704], Lg)) o from ev_sw [((0 : Int32), 56), ((1 : Int32), 66), ((2 : Int32), 76), ((3 : Int32), 86)] p2 (fun tt => (d + 3, 0, 0, 290, tt, [.val (.ref 64), .val (.int p1), .val (.int p2)], [], (126, 120, L, [Y_5, T, H, H2, RV, RU, ST, NS, I0, I1, I2, BO, FI, RG, GU, PU, MA, MN, MS, OT, SC], [192, 256, 384, 320, w, r5, 576, 640, 704], Lg))) 106 106 2 (fun f => by simp only [a_sw, if_neg zc9, if_neg zc12, if_neg zc15, if_neg zc18]) e (fun n => Eq.refl _)
        obtain ⟨BO_15, zh28, h⟩ := bnd h
        have zh28 : f_Y_lookNow H NS BO = some BO_15 := zh28
        have ze29 := R_f_Y_lookNow_1 (d + 0) Y_5 T H H2 RV RU ST NS I0 I1 I2 BO FI RG GU PU MA MN MS OT SC w r5 L Lg zh28
        suffices e : Ev (d + 3, 0, 0, 290, 110, [.val (.ref 64), .val (.int p1), .val (.int p2)], [.ref 768], (126, 120, L, [Y_5, T, H, H2, RV, RU, ST, NS, I0, I1, I2, BO_15, FI, RG, GU, PU, MA, MN, MS, OT, SC], [192, 256, 384, 320, w, 192, 576, 640, 704], Lg)) o from ev_call (fun v μ => (d + 3, 0, 0, 290, 110, [.val (.ref 64), .val (.int p1), .val (.int p2)], v.toList ++ [], μ)) 2 ze29 e (fun n => Eq.refl _)
        obtain ⟨x16, zh30, h⟩ := bnd h
        have zh30 : f_Board_bears H BO_15 p1 = some x16 := zh30
        have ze31 := R_f_Board_bears_0 (d + 1) Y_5 T H H2 RV RU ST NS I0 I1 I2 BO_15 FI RG GU PU MA MN MS OT SC 192 256 384 320 w 576 640 704 L Lg p1 zh30
        suffices e : Ev (d + 3, 0, 0, 290, 114, [.val (.ref 64), .val (.int p1), .val (.int p2)], [.int x16], (126, 120, L, [Y_5, T, H, H2, RV, RU, ST, NS, I0, I1, I2, BO_15, FI, RG, GU, PU, MA, MN, MS, OT, SC], [192, 256, 384, 320, w, 192, 576, 640, 704], Lg)) o from ev_call (fun v μ => (d + 3, 0, 0, 290, 114, [.val (.ref 64), .val (.int p1), .val (.int p2)], v.toList ++ [], μ)) 2 ze31 e (fun n => Eq.refl _)
        have ze32 := Option.some.inj h
        subst ze32
        exact ev_rete 1 ho (fun n => Eq.refl _)
      | succ q4 =>
        have h := itn h (Nat.succ_ne_zero q4)
        have ze33 := Option.some.inj h
        subst ze33
        subst ho
        exact ev_thr (fun v μ => (d + 3, 0, 0, 290, 23, [.val (.ref 64), .val (.int p1), .val (.int p2)], v.toList ++ [], μ)) 1 ze8 (fun n => Eq.refl _) (fun n => rfl)
    obtain ⟨zt34, zh35, zh4⟩ := bnd zh4
    have zj36 : zt34 = .inl () → Ev (d + 3, 1, 8, 290, 19, [.val (.ref 64), .val (.int p1), .val (.int p2)], [.ref 64], (126, 120, L, [Y_2, T, H, H2, RV, RU, ST, NS, I0, I1, I2, BO, FI, RG, GU, PU, MA, MN, MS, OT, SC], [192, 256, 384, 320, w, r5, 576, 640, 704], Lg)) o := by
      intro ze37
      have zh4 := sum_l zh4 ze37
      exact ev_b 1 (zj5 0 (Option.some.inj zh4) ) (fun n => Eq.refl _)
    by_cases zc38 : p2 < 0
    · have zh35 := itp zh35 zc38
      suffices e : Ev (d + 3, 1, 8, 290, 19, [.val (.ref 64), .val (.int p1), .val (.int p2)], [.ref 64], (126, 120, L, [Y_2, T, H, H2, RV, RU, ST, NS, I0, I1, I2, BO, FI, RG, GU, PU, MA, MN, MS, OT, SC], [192, 256, 384, 320, w, r5, 576, 640, 704], Lg)) o from ev_t (c := p2 < 0) _ _ 3  zc38 e (fun n => Eq.refl _)
      exact ev_b 0 (zj36  (Option.some.inj zh35).symm ) (fun n => Eq.refl _)
    · have zh35 := itn zh35 zc38
      suffices e : Ev (d + 3, 1, 8, 290, 10, [.val (.ref 64), .val (.int p1), .val (.int p2)], [.ref 64], (126, 120, L, [Y_2, T, H, H2, RV, RU, ST, NS, I0, I1, I2, BO, FI, RG, GU, PU, MA, MN, MS, OT, SC], [192, 256, 384, 320, w, r5, 576, 640, 704], Lg)) o from ev_f (c := p2 < 0) _ _ 3  zc38 e (fun n => Eq.refl _)
      by_cases zc39 : 4 < p2
      · have zh35 := itp zh35 zc39
        suffices e : Ev (d + 3, 1, 8, 290, 19, [.val (.ref 64), .val (.int p1), .val (.int p2)], [.ref 64], (126, 120, L, [Y_2, T, H, H2, RV, RU, ST, NS, I0, I1, I2, BO, FI, RG, GU, PU, MA, MN, MS, OT, SC], [192, 256, 384, 320, w, r5, 576, 640, 704], Lg)) o from ev_t (c := 4 < p2) _ _ 3  zc39 e (fun n => Eq.refl _)
        exact ev_b 0 (zj36  (Option.some.inj zh35).symm ) (fun n => Eq.refl _)
      · have zh35 := itn zh35 zc39
        suffices e : Ev (d + 3, 1, 8, 290, 15, [.val (.ref 64), .val (.int p1), .val (.int p2)], [.ref 64], (126, 120, L, [Y_2, T, H, H2, RV, RU, ST, NS, I0, I1, I2, BO, FI, RG, GU, PU, MA, MN, MS, OT, SC], [192, 256, 384, 320, w, r5, 576, 640, 704], Lg)) o from ev_f (c := 4 < p2) _ _ 3  zc39 e (fun n => Eq.refl _)
        have zh40 := sum_r zh4 (Option.some.inj zh35).symm
        exact ev_b 2 (zj5 1 (Option.some.inj zh40) ) (fun n => Eq.refl _)
  | succ q1 =>
    have h := itn h (Nat.succ_ne_zero q1)
    have ze41 := Option.some.inj h
    subst ze41
    subst ho
    exact ev_thr (fun v μ => (d + 3, 1, 8, 290, 5, [.val (.ref 64), .val (.int p1), .val (.int p2)], v.toList ++ [], μ)) 3 ze2 (fun n => Eq.refl _) (fun n => rfl)
set_option maxRecDepth 1000000 in
set_option maxHeartbeats 4000000 in
theorem R_f_Y_needPerson_2 (d : Nat) (Y T H2 H RU RV ST NS I0 I1 I2 BO FI RG GU PU MA MN MS OT SC : Nat → Nat → Int32) (w r5 : Nat) (L : Nat) (Lg : Int64) (p1 : Int32) {r : Nat × (Nat → Nat → Int32)} (h : f_Y_needPerson Y H p1 = some r) : Ev (d + 1, 1, 8, 336, 0, [.val (.ref 64), .val (.int p1)], [], (126, 120, L, [Y, T, H2, H, RU, RV, ST, NS, I0, I1, I2, BO, FI, RG, GU, PU, MA, MN, MS, OT, SC], [256, 192, 320, 384, w, r5, 576, 640, 704], Lg)) ((r.1, none, (126, 120, L, [r.2, T, H2, H, RU, RV, ST, NS, I0, I1, I2, BO, FI, RG, GU, PU, MA, MN, MS, OT, SC], [256, 192, 320, 384, w, r5, 576, 640, 704], Lg)) : AOut) := by
  suffices key : ∀ o : AOut, ((r.1, none, (126, 120, L, [r.2, T, H2, H, RU, RV, ST, NS, I0, I1, I2, BO, FI, RG, GU, PU, MA, MN, MS, OT, SC], [256, 192, 320, 384, w, r5, 576, 640, 704], Lg)) : AOut) = o → Ev (d + 1, 1, 8, 336, 0, [.val (.ref 64), .val (.int p1)], [], (126, 120, L, [Y, T, H2, H, RU, RV, ST, NS, I0, I1, I2, BO, FI, RG, GU, PU, MA, MN, MS, OT, SC], [256, 192, 320, 384, w, r5, 576, 640, 704], Lg)) o from key _ rfl
  intro o ho
  suffices e : Ev (d + 1, 1, 8, 336, 6, [.val (.ref 64), .val (.int p1)], [.ref 256, .int p1, .ref 64], (126, 120, L, [Y, T, H2, H, RU, RV, ST, NS, I0, I1, I2, BO, FI, RG, GU, PU, MA, MN, MS, OT, SC], [256, 192, 320, 384, w, r5, 576, 640, 704], Lg)) o from ev_b 4 e (fun n => Eq.refl _)
  obtain ⟨⟨q1, Y_2⟩, zh1, h⟩ := bnd h
  have zh1 : f_Y_needOneOf Y p1 (H 0 2) = some (q1, Y_2) := zh1
  have ze2 := R_f_Y_needOneOf_2 (d + 0) Y T H2 H RU RV ST NS I0 I1 I2 BO FI RG GU PU MA MN MS OT SC w r5 L Lg p1 (H 0 2) zh1
  cases q1 with
  | zero =>
    have h := itp h rfl
    suffices e : Ev (d + 1, 0, 0, 336, 12, [.val (.ref 64), .val (.int p1)], [], (126, 120, L, [Y_2, T, H2, H, RU, RV, ST, NS, I0, I1, I2, BO, FI, RG, GU, PU, MA, MN, MS, OT, SC], [256, 192, 320, 384, w, r5, 576, 640, 704], Lg)) o from ev_call (fun v μ => (d + 1, 0, 0, 336, 12, [.val (.ref 64), .val (.int p1)], v.toList ++ [], μ)) 2 ze2 e (fun n => Eq.refl _)
    have ze3 := Option.some.inj h
    subst ze3
    exact ev_rete 1 ho (fun n => Eq.refl _)
  | succ q1 =>
    have h := itn h (Nat.succ_ne_zero q1)
    have ze4 := Option.some.inj h
    subst ze4
    subst ho
    exact ev_thr (fun v μ => (d + 1, 0, 0, 336, 12, [.val (.ref 64), .val (.int p1)], v.toList ++ [], μ)) 2 ze2 (fun n => Eq.refl _) (fun n => rfl)
set_option maxRecDepth 1000000 in
set_option maxHeartbeats 4000000 in
theorem R_f_House_isMember_1 (d : Nat) (Y T H2 H RA RB ST NS I0 I1 I2 BO FI RG GU PU MA MN MS OT SC : Nat → Nat → Int32) (r0 r1 r2 r3 w r5 r6 r7 r8 : Nat) (L : Nat) (Lg : Int64) (p1 : Int32) (p2 : Int32) {r : Int32} (h : f_House_isMember H p1 p2 = some r) : Ev (d + 0, 0, 0, 221, 0, [.val (.ref 256), .val (.int p1), .val (.int p2)], [], (126, 120, L, [Y, T, H2, H, RA, RB, ST, NS, I0, I1, I2, BO, FI, RG, GU, PU, MA, MN, MS, OT, SC], [r0, r1, r2, r3, w, r5, r6, r7, r8], Lg)) ((0, some (.int r), (126, 120, L, [Y, T, H2, H, RA, RB, ST, NS, I0, I1, I2, BO, FI, RG, GU, PU, MA, MN, MS, OT, SC], [r0, r1, r2, r3, w, r5, r6, r7, r8], Lg)) : AOut) := by
  suffices key : ∀ o : AOut, ((0, some (.int r), (126, 120, L, [Y, T, H2, H, RA, RB, ST, NS, I0, I1, I2, BO, FI, RG, GU, PU, MA, MN, MS, OT, SC], [r0, r1, r2, r3, w, r5, r6, r7, r8], Lg)) : AOut) = o → Ev (d + 0, 0, 0, 221, 0, [.val (.ref 256), .val (.int p1), .val (.int p2)], [], (126, 120, L, [Y, T, H2, H, RA, RB, ST, NS, I0, I1, I2, BO, FI, RG, GU, PU, MA, MN, MS, OT, SC], [r0, r1, r2, r3, w, r5, r6, r7, r8], Lg)) o from key _ rfl
  intro o ho
  obtain ⟨x1, zh1, h⟩ := bnd h
  have zh1 : rdx (H 8) 10 p1 = some x1 := zh1
  suffices e : Ev (d + 0, 0, 0, 221, 6, [.val (.ref 256), .val (.int p1), .val (.int p2)], [.int x1], (126, 120, L, [Y, T, H2, H, RA, RB, ST, NS, I0, I1, I2, BO, FI, RG, GU, PU, MA, MN, MS, OT, SC], [r0, r1, r2, r3, w, r5, r6, r7, r8], Lg)) o from ev_opt (fun x1 => (d + 0, 0, 0, 221, 6, [.val (.ref 256), .val (.int p1), .val (.int p2)], [.int x1], (126, 120, L, [Y, T, H2, H, RA, RB, ST, NS, I0, I1, I2, BO, FI, RG, GU, PU, MA, MN, MS, OT, SC], [r0, r1, r2, r3, w, r5, r6, r7, r8], Lg))) 4 zh1 e (fun n => Eq.refl _)
  by_cases zc2 : ((a_shr x1 p2) &&& 1) = 0
  · have h := itp h zc2
    suffices e : Ev (d + 0, 0, 0, 221, 17, [.val (.ref 256), .val (.int p1), .val (.int p2)], [], (126, 120, L, [Y, T, H2, H, RA, RB, ST, NS, I0, I1, I2, BO, FI, RG, GU, PU, MA, MN, MS, OT, SC], [r0, r1, r2, r3, w, r5, r6, r7, r8], Lg)) o from ev_t (c := ((a_shr x1 p2) &&& 1) = 0) _ _ 5  zc2 e (fun n => Eq.refl _)
    have ze3 := Option.some.inj h
    subst ze3
    exact ev_rete 2 ho (fun n => Eq.refl _)
  · have h := itn h zc2
    suffices e : Ev (d + 0, 0, 0, 221, 13, [.val (.ref 256), .val (.int p1), .val (.int p2)], [], (126, 120, L, [Y, T, H2, H, RA, RB, ST, NS, I0, I1, I2, BO, FI, RG, GU, PU, MA, MN, MS, OT, SC], [r0, r1, r2, r3, w, r5, r6, r7, r8], Lg)) o from ev_f (c := ((a_shr x1 p2) &&& 1) = 0) _ _ 5  zc2 e (fun n => Eq.refl _)
    have ze4 := Option.some.inj h
    subst ze4
    exact ev_rete 3 ho (fun n => Eq.refl _)
set_option maxRecDepth 1000000 in
set_option maxHeartbeats 4000000 in
theorem R_f_House_meetingsOf_1 (d : Nat) (Y T H2 H RA RB ST NS I0 I1 I2 BO FI RG GU PU MA MN MS OT SC : Nat → Nat → Int32) (r0 r1 r2 r3 w r5 r6 r7 r8 : Nat) (L : Nat) (Lg : Int64) (p1 : Int32) {r : Int32} (h : f_House_meetingsOf H p1 = some r) : Ev (d + 1, 0, 0, 222, 0, [.val (.ref 256), .val (.int p1), .val a_unk, .val a_unk], [], (126, 120, L, [Y, T, H2, H, RA, RB, ST, NS, I0, I1, I2, BO, FI, RG, GU, PU, MA, MN, MS, OT, SC], [r0, r1, r2, r3, w, r5, r6, r7, r8], Lg)) ((0, some (.int r), (126, 120, L, [Y, T, H2, H, RA, RB, ST, NS, I0, I1, I2, BO, FI, RG, GU, PU, MA, MN, MS, OT, SC], [r0, r1, r2, r3, w, r5, r6, r7, r8], Lg)) : AOut) := by
  suffices key : ∀ o : AOut, ((0, some (.int r), (126, 120, L, [Y, T, H2, H, RA, RB, ST, NS, I0, I1, I2, BO, FI, RG, GU, PU, MA, MN, MS, OT, SC], [r0, r1, r2, r3, w, r5, r6, r7, r8], Lg)) : AOut) = o → Ev (d + 1, 0, 0, 222, 0, [.val (.ref 256), .val (.int p1), .val a_unk, .val a_unk], [], (126, 120, L, [Y, T, H2, H, RA, RB, ST, NS, I0, I1, I2, BO, FI, RG, GU, PU, MA, MN, MS, OT, SC], [r0, r1, r2, r3, w, r5, r6, r7, r8], Lg)) o from key _ rfl
  intro o ho
  obtain ⟨v4, zh2, h⟩ := bnd h
  suffices e : Ev (d + 1, 0, 0, 222, 4, [.val (.ref 256), .val (.int p1), .val (.int 0), .val (.int 0)], [], (126, 120, L, [Y, T, H2, H, RA, RB, ST, NS, I0, I1, I2, BO, FI, RG, GU, PU, MA, MN, MS, OT, SC], [r0, r1, r2, r3, w, r5, r6, r7, r8], Lg)) o from ev_b 4 e (fun n => Eq.refl _)
  refine ev_loop (δ := Unit) (fun a j => (d + 1, 0, 0, 222, 4, [.val (.ref 256), .val (.int p1), .val (.int a.1), .val (.int a.2)], [], (126, 120, L, [Y, T, H2, H, RA, RB, ST, NS, I0, I1, I2, BO, FI, RG, GU, PU, MA, MN, MS, OT, SC], [r0, r1, r2, r3, w, r5, r6, r7, r8], Lg))) (fun b => ∀ s5 : Value, Ev (d + 1, 0, 0, 222, 33, [.val (.ref 256), .val (.int p1), .val (.int b), .val s5], [], (126, 120, L, [Y, T, H2, H, RA, RB, ST, NS, I0, I1, I2, BO, FI, RG, GU, PU, MA, MN, MS, OT, SC], [r0, r1, r2, r3, w, r5, r6, r7, r8], Lg)) o) ?_ a_F (0, 0) v4 zh2 ?_ ()
  · rintro ⟨v1, v2⟩ zr6 zh5 zi3 zx4 ⟨⟩
    have zh5 : f_House_meetingsOf_l4 H p1 v1 v2 = some zr6 := zh5
    by_cases zc7 : (H 0 3) ≤ v2
    · have zh5 := itp zh5 zc7
      suffices e : Ev (d + 1, 0, 0, 222, 33, [.val (.ref 256), .val (.int p1), .val (.int v1), .val (.int v2)], [], (126, 120, L, [Y, T, H2, H, RA, RB, ST, NS, I0, I1, I2, BO, FI, RG, GU, PU, MA, MN, MS, OT, SC], [r0, r1, r2, r3, w, r5, r6, r7, r8], Lg)) o from ev_t (c := (H 0 3) ≤ v2) _ _ 4  zc7 e (fun n => Eq.refl _)
      exact ev_b 0 (zx4 _ (Option.some.inj zh5).symm (.int v2)) (fun n => Eq.refl _)
    · have zh5 := itn zh5 zc7
      suffices e : Ev (d + 1, 0, 0, 222, 12, [.val (.ref 256), .val (.int p1), .val (.int v1), .val (.int v2)], [], (126, 120, L, [Y, T, H2, H, RA, RB, ST, NS, I0, I1, I2, BO, FI, RG, GU, PU, MA, MN, MS, OT, SC], [r0, r1, r2, r3, w, r5, r6, r7, r8], Lg)) o from ev_f (c := (H 0 3) ≤ v2) _ _ 4  zc7 e (fun n => Eq.refl _)
      obtain ⟨x3, zh8, zh5⟩ := bnd zh5
      have zh8 : f_House_isMember H v2 p1 = some x3 := zh8
      have ze9 := R_f_House_isMember_1 (d + 0) Y T H2 H RA RB ST NS I0 I1 I2 BO FI RG GU PU MA MN MS OT SC r0 r1 r2 r3 w r5 r6 r7 r8 L Lg v2 p1 zh8
      suffices e : Ev (d + 1, 0, 0, 222, 18, [.val (.ref 256), .val (.int p1), .val (.int v1), .val (.int v2)], [.int x3], (126, 120, L, [Y, T, H2, H, RA, RB, ST, NS, I0, I1, I2, BO, FI, RG, GU, PU, MA, MN, MS, OT, SC], [r0, r1, r2, r3, w, r5, r6, r7, r8], Lg)) o from ev_call (fun v μ => (d + 1, 0, 0, 222, 18, [.val (.ref 256), .val (.int p1), .val (.int v1), .val (.int v2)], v.toList ++ [], μ)) 4 ze9 e (fun n => Eq.refl _)
      by_cases zc10 : x3 = 0
      · have zh5 := itp zh5 zc10
        suffices e : Ev (d + 1, 0, 0, 222, 27, [.val (.ref 256), .val (.int p1), .val (.int v1), .val (.int v2)], [], (126, 120, L, [Y, T, H2, H, RA, RB, ST, NS, I0, I1, I2, BO, FI, RG, GU, PU, MA, MN, MS, OT, SC], [r0, r1, r2, r3, w, r5, r6, r7, r8], Lg)) o from ev_t (c := x3 = 0) _ _ 1  zc10 e (fun n => Eq.refl _)
        exact ev_b 2 (zi3 _ (Option.some.inj zh5).symm ()) (fun n => Eq.refl _)
      · have zh5 := itn zh5 zc10
        suffices e : Ev (d + 1, 0, 0, 222, 21, [.val (.ref 256), .val (.int p1), .val (.int v1), .val (.int v2)], [], (126, 120, L, [Y, T, H2, H, RA, RB, ST, NS, I0, I1, I2, BO, FI, RG, GU, PU, MA, MN, MS, OT, SC], [r0, r1, r2, r3, w, r5, r6, r7, r8], Lg)) o from ev_f (c := x3 = 0) _ _ 1  zc10 e (fun n => Eq.refl _)
        exact ev_b 8 (zi3 _ (Option.some.inj zh5).symm ()) (fun n => Eq.refl _)
  · skip
    intro s5
    have ze11 := Option.some.inj h
    subst ze11
    exact ev_rete 2 ho (fun n => Eq.refl _)
set_option maxRecDepth 1000000 in
set_option maxHeartbeats 4000000 in
theorem R_f_Board_bears_1 (d : Nat) (Y T H2 H RA RB ST NS I0 I1 I2 BO FI RG GU PU MA MN MS OT SC : Nat → Nat → Int32) (r0 r1 r2 r3 w r6 r7 r8 : Nat) (L : Nat) (Lg : Int64) (p1 : Int32) {r : Int32} (h : f_Board_bears H BO p1 = some r) : Ev (d + 1, 0, 0, 168, 0, [.val (.ref 768), .val (.int p1), .val a_unk, .val a_unk], [], (126, 120, L, [Y, T, H2, H, RA, RB, ST, NS, I0, I1, I2, BO, FI, RG, GU, PU, MA, MN, MS, OT, SC], [r0, r1, r2, r3, w, 256, r6, r7, r8], Lg)) ((0, some (.int r), (126, 120, L, [Y, T, H2, H, RA, RB, ST, NS, I0, I1, I2, BO, FI, RG, GU, PU, MA, MN, MS, OT, SC], [r0, r1, r2, r3, w, 256, r6, r7, r8], Lg)) : AOut) := by
  suffices key : ∀ o : AOut, ((0, some (.int r), (126, 120, L, [Y, T, H2, H, RA, RB, ST, NS, I0, I1, I2, BO, FI, RG, GU, PU, MA, MN, MS, OT, SC], [r0, r1, r2, r3, w, 256, r6, r7, r8], Lg)) : AOut) = o → Ev (d + 1, 0, 0, 168, 0, [.val (.ref 768), .val (.int p1), .val a_unk, .val a_unk], [], (126, 120, L, [Y, T, H2, H, RA, RB, ST, NS, I0, I1, I2, BO, FI, RG, GU, PU, MA, MN, MS, OT, SC], [r0, r1, r2, r3, w, 256, r6, r7, r8], Lg)) o from key _ rfl
  intro o ho
  obtain ⟨v5, zh2, h⟩ := bnd h
  suffices e : Ev (d + 1, 0, 0, 168, 4, [.val (.ref 768), .val (.int p1), .val (.int 0), .val (.int 0)], [], (126, 120, L, [Y, T, H2, H, RA, RB, ST, NS, I0, I1, I2, BO, FI, RG, GU, PU, MA, MN, MS, OT, SC], [r0, r1, r2, r3, w, 256, r6, r7, r8], Lg)) o from ev_b 4 e (fun n => Eq.refl _)
  refine ev_loop (δ := Unit) (fun a j => (d + 1, 0, 0, 168, 4, [.val (.ref 768), .val (.int p1), .val (.int a.1), .val (.int a.2)], [], (126, 120, L, [Y, T, H2, H, RA, RB, ST, NS, I0, I1, I2, BO, FI, RG, GU, PU, MA, MN, MS, OT, SC], [r0, r1, r2, r3, w, 256, r6, r7, r8], Lg))) (fun b => ∀ s6 : Value, Ev (d + 1, 0, 0, 168, 42, [.val (.ref 768), .val (.int p1), .val (.int b), .val s6], [], (126, 120, L, [Y, T, H2, H, RA, RB, ST, NS, I0, I1, I2, BO, FI, RG, GU, PU, MA, MN, MS, OT, SC], [r0, r1, r2, r3, w, 256, r6, r7, r8], Lg)) o) ?_ a_F (0, 0) v5 zh2 ?_ ()
  · rintro ⟨v1, v2⟩ zr6 zh5 zi3 zx4 ⟨⟩
    have zh5 : f_Board_bears_l4 H BO p1 v1 v2 = some zr6 := zh5
    suffices e : Ev (d + 1, 0, 0, 168, 9, [.val (.ref 768), .val (.int p1), .val (.int v1), .val (.int v2)], [.ref 256, .int v2], (126, 120, L, [Y, T, H2, H, RA, RB, ST, NS, I0, I1, I2, BO, FI, RG, GU, PU, MA, MN, MS, OT, SC], [r0, r1, r2, r3, w, 256, r6, r7, r8], Lg)) o from ev_b 3 e (fun n => Eq.refl _)
    by_cases zc7 : (H 0 3) ≤ v2
    · have zh5 := itp zh5 zc7
      suffices e : Ev (d + 1, 0, 0, 168, 42, [.val (.ref 768), .val (.int p1), .val (.int v1), .val (.int v2)], [], (126, 120, L, [Y, T, H2, H, RA, RB, ST, NS, I0, I1, I2, BO, FI, RG, GU, PU, MA, MN, MS, OT, SC], [r0, r1, r2, r3, w, 256, r6, r7, r8], Lg)) o from ev_t (c := (H 0 3) ≤ v2) _ _ 2  zc7 e (fun n => Eq.refl _)
      exact ev_b 0 (zx4 _ (Option.some.inj zh5).symm (.int v2)) (fun n => Eq.refl _)
    · have zh5 := itn zh5 zc7
      suffices e : Ev (d + 1, 0, 0, 168, 15, [.val (.ref 768), .val (.int p1), .val (.int v1), .val (.int v2)], [], (126, 120, L, [Y, T, H2, H, RA, RB, ST, NS, I0, I1, I2, BO, FI, RG, GU, PU, MA, MN, MS, OT, SC], [r0, r1, r2, r3, w, 256, r6, r7, r8], Lg)) o from ev_f (c := (H 0 3) ≤ v2) _ _ 2  zc7 e (fun n => Eq.refl _)
      suffices e : Ev (d + 1, 0, 0, 168, 19, [.val (.ref 768), .val (.int p1), .val (.int v1), .val (.int v2)], [.ref 256], (126, 120, L, [Y, T, H2, H, RA, RB, ST, NS, I0, I1, I2, BO, FI, RG, GU, PU, MA, MN, MS, OT, SC], [r0, r1, r2, r3, w, 256, r6, r7, r8], Lg)) o from ev_b 2 e (fun n => Eq.refl _)
      obtain ⟨x3, zh8, zh5⟩ := bnd zh5
      have zh8 : f_House_isMember H v2 p1 = some x3 := zh8
      have ze9 := R_f_House_isMember_1 (d + 0) Y T H2 H RA RB ST NS I0 I1 I2 BO FI RG GU PU MA MN MS OT SC r0 r1 r2 r3 w 256 r6 r7 r8 L Lg v2 p1 zh8
      suffices e : Ev (d + 1, 0, 0, 168, 24, [.val (.ref 768), .val (.int p1), .val (.int v1), .val (.int v2)], [.int x3], (126, 120, L, [Y, T, H2, H, RA, RB, ST, NS, I0, I1, I2, BO, FI, RG, GU, PU, MA, MN, MS, OT, SC], [r0, r1, r2, r3, w, 256, r6, r7, r8], Lg)) o from ev_call (fun v μ => (d + 1, 0, 0, 168, 24, [.val (.ref 768), .val (.int p1), .val (.int v1), .val (.int v2)], v.toList ++ [], μ)) 3 ze9 e (fun n => Eq.refl _)
      by_cases zc10 : x3 = 0
      · have zh5 := itp zh5 zc10
        suffices e : Ev (d + 1, 0, 0, 168, 36, [.val (.ref 768), .val (.int p1), .val (.int v1), .val (.int v2)], [], (126, 120, L, [Y, T, H2, H, RA, RB, ST, NS, I0, I1, I2, BO, FI, RG, GU, PU, MA, MN, MS, OT, SC], [r0, r1, r2, r3, w, 256, r6, r7, r8], Lg)) o from ev_t (c := x3 = 0) _ _ 1  zc10 e (fun n => Eq.refl _)
        exact ev_b 2 (zi3 _ (Option.some.inj zh5).symm ()) (fun n => Eq.refl _)
      · have zh5 := itn zh5 zc10
        suffices e : Ev (d + 1, 0, 0, 168, 27, [.val (.ref 768), .val (.int p1), .val (.int v1), .val (.int v2)], [], (126, 120, L, [Y, T, H2, H, RA, RB, ST, NS, I0, I1, I2, BO, FI, RG, GU, PU, MA, MN, MS, OT, SC], [r0, r1, r2, r3, w, 256, r6, r7, r8], Lg)) o from ev_f (c := x3 = 0) _ _ 1  zc10 e (fun n => Eq.refl _)
        obtain ⟨x4, zh11, zh5⟩ := bnd zh5
        have zh11 : rdx (BO 2) 10 v2 = some x4 := zh11
        suffices e : Ev (d + 1, 0, 0, 168, 34, [.val (.ref 768), .val (.int p1), .val (.int v1), .val (.int v2)], [.int x4, .int v1], (126, 120, L, [Y, T, H2, H, RA, RB, ST, NS, I0, I1, I2, BO, FI, RG, GU, PU, MA, MN, MS, OT, SC], [r0, r1, r2, r3, w, 256, r6, r7, r8], Lg)) o from ev_opt (fun x4 => (d + 1, 0, 0, 168, 34, [.val (.ref 768), .val (.int p1), .val (.int v1), .val (.int v2)], [.int x4, .int v1], (126, 120, L, [Y, T, H2, H, RA, RB, ST, NS, I0, I1, I2, BO, FI, RG, GU, PU, MA, MN, MS, OT, SC], [r0, r1, r2, r3, w, 256, r6, r7, r8], Lg))) 5 zh11 e (fun n => Eq.refl _)
        exact ev_b 4 (zi3 _ (Option.some.inj zh5).symm ()) (fun n => Eq.refl _)
  · skip
    intro s6
    have ze12 := Option.some.inj h
    subst ze12
    exact ev_rete 2 ho (fun n => Eq.refl _)
set_option maxRecDepth 1000000 in
set_option maxHeartbeats 4000000 in
theorem R_f_Y_person_2 (d : Nat) (Y T H2 H RU RV ST NS I0 I1 I2 BO FI RG GU PU MA MN MS OT SC : Nat → Nat → Int32) (w r5 : Nat) (L : Nat) (Lg : Int64) (p1 : Int32) (p2 : Int32) {r : Nat × Int32 × (Nat → Nat → Int32) × (Nat → Nat → Int32) × Nat} (h : f_Y_person Y H NS BO r5 256 p1 p2 = some r) : Ev (d + 3, 2, 16, 290, 0, [.val (.ref 64), .val (.int p1), .val (.int p2)], [], (126, 120, L, [Y, T, H2, H, RU, RV, ST, NS, I0, I1, I2, BO, FI, RG, GU, PU, MA, MN, MS, OT, SC], [256, 192, 320, 384, w, r5, 576, 640, 704], Lg)) ((r.1, a_ov r.1 (.int r.2.1), (126, 120, L, [r.2.2.1, T, H2, H, RU, RV, ST, NS, I0, I1, I2, r.2.2.2.1, FI, RG, GU, PU, MA, MN, MS, OT, SC], [256, 192, 320, 384, w, r.2.2.2.2, 576, 640, 704], Lg)) : AOut) := by
  suffices key : ∀ o : AOut, ((r.1, a_ov r.1 (.int r.2.1), (126, 120, L, [r.2.2.1, T, H2, H, RU, RV, ST, NS, I0, I1, I2, r.2.2.2.1, FI, RG, GU, PU, MA, MN, MS, OT, SC], [256, 192, 320, 384, w, r.2.2.2.2, 576, 640, 704], Lg)) : AOut) = o → Ev (d + 3, 2, 16, 290, 0, [.val (.ref 64), .val (.int p1), .val (.int p2)], [], (126, 120, L, [Y, T, H2, H, RU, RV, ST, NS, I0, I1, I2, BO, FI, RG, GU, PU, MA, MN, MS, OT, SC], [256, 192, 320, 384, w, r5, 576, 640, 704], Lg)) o from key _ rfl
  intro o ho
  obtain ⟨⟨q1, Y_2⟩, zh1, h⟩ := bnd h
  have zh1 : f_Y_needPerson Y H p1 = some (q1, Y_2) := zh1
  have ze2 := R_f_Y_needPerson_2 (d + 1) Y T H2 H RU RV ST NS I0 I1 I2 BO FI RG GU PU MA MN MS OT SC w r5 L Lg p1 zh1
  cases q1 with
  | zero =>
    have h := itp h rfl
    suffices e : Ev (d + 3, 1, 8, 290, 5, [.val (.ref 64), .val (.int p1), .val (.int p2)], [], (126, 120, L, [Y_2, T, H2, H, RU, RV, ST, NS, I0, I1, I2, BO, FI, RG, GU, PU, MA, MN, MS, OT, SC], [256, 192, 320, 384, w, r5, 576, 640, 704], Lg)) o from ev_call (fun v μ => (d + 3, 1, 8, 290, 5, [.val (.ref 64), .val (.int p1), .val (.int p2)], v.toList ++ [], μ)) 3 ze2 e (fun n => Eq.refl _)
    obtain ⟨zt3, zh4, h⟩ := bnd h
    have zj5 : ∀ (v3 : Int32), v3 = zt3 → Ev (d + 3, 1, 8, 290, 20, [.val (.ref 64), .val (.int p1), .val (.int p2)], [.int v3, .ref 64], (126, 120, L, [Y_2, T, H2, H, RU, RV, ST, NS, I0, I1, I2, BO, FI, RG, GU, PU, MA, MN, MS, OT, SC], [256, 192, 320, 384, w, r5, 576, 640, 704], Lg)) o := by
      intro v3 ze6
      subst ze6
      obtain ⟨⟨q4, Y_5⟩, zh7, h⟩ := bnd h
      have zh7 : f_Y_refuseUnless Y_2 v3 = some (q4, Y_5) := zh7
      have ze8 := R_f_Y_refuseUnless_2 (d + 2) Y_2 T H2 H RU RV ST NS I0 I1 I2 BO FI RG GU PU MA MN MS OT SC w r5 L Lg v3 zh7
      cases q4 with
      | zero =>
        have h := itp h rfl
        suffices e : Ev (d + 3, 0, 0, 290, 23, [.val (.ref 64), .val (.int p1), .val (.int p2)], [], (126, 120, L, [Y_5, T, H2, H, RU, RV, ST, NS, I0, I1, I2, BO, FI, RG, GU, PU, MA, MN, MS, OT, SC], [256, 192, 320, 384, w, r5, 576, 640, 704], Lg)) o from ev_call (fun v μ => (d + 3, 0, 0, 290, 23, [.val (.ref 64), .val (.int p1), .val (.int p2)], v.toList ++ [], μ)) 1 ze8 e (fun n => Eq.refl _)
        by_cases zc9 : p2 = 0
        · have h := itp h zc9
          suffices e : Ev (d + 3, 0, 0, 290, 56, [.val (.ref 64), .val (.int p1), .val (.int p2)], [], (126, 120, L, [Y_5, T, H2, H, RU, RV, ST, NS, I0, I1, I2, BO, FI, RG, GU, PU, MA, MN, MS, OT, SC], [256, 192, 320, 384, w, r5, 576, 640, 704], Lg)) o from ev_sw [((0 : Int32), 56), ((1 : Int32), 66), ((2 : Int32), 76), ((3 : Int32), 86)] p2 (fun tt => (d + 3, 0, 0, 290, tt, [.val (.ref 64), .val (.int p1), .val (.int p2)], [], (126, 120, L, [Y_5, T, H2, H, RU, RV, ST, NS, I0, I1, I2, BO, FI, RG, GU, PU, MA, MN, MS, OT, SC], [256, 192, 320, 384, w, r5, 576, 640, 704], Lg))) 106 56 2 (fun f => by simp only [a_sw, if_pos zc9]) e (fun n => Eq.refl _)
          suffices e : Ev (d + 3, 0, 0, 290, 60, [.val (.ref 64), .val (.int p1), .val (.int p2)], [.ref 256], (126, 120, L, [Y_5, T, H2, H, RU, RV, ST, NS, I0, I1, I2, BO, FI, RG, GU, PU, MA, MN, MS, OT, SC], [256, 192, 320, 384, w, r5, 576, 640, 704], Lg)) o from ev_b 2 e (fun n => Eq.refl _)
          obtain ⟨x6, zh10, h⟩ := bnd h
          have zh10 : rdx (H 2) 8 p1 = some x6 := zh10
          suffices e : Ev (d + 3, 0, 0, 290, 65, [.val (.ref 64), .val (.int p1), .val (.int p2)], [.int x6], (126, 120, L, [Y_5, T, H2, H, RU, RV, ST, NS, I0, I1, I2, BO, FI, RG, GU, PU, MA, MN, MS, OT, SC], [256, 192, 320, 384, w, r5, 576, 640, 704], Lg)) o from ev_opt (fun x6 => (d + 3, 0, 0, 290, 65, [.val (.ref 64), .val (.int p1), .val (.int p2)], [.int x6], (126, 120, L, [Y_5, T, H2, H, RU, RV, ST, NS, I0, I1, I2, BO, FI, RG, GU, PU, MA, MN, MS, OT, SC], [256, 192, 320, 384, w, r5, 576, 640, 704], Lg))) 3 zh10 e (fun n => Eq.refl _)
          have ze11 := Option.some.inj h
          subst ze11
          exact ev_rete 1 ho (fun n => Eq.refl _)
        have h := itn h zc9
        by_cases zc12 : p2 = 1
        · have h := itp h zc12
          suffices e : Ev (d + 3, 0, 0, 290, 66, [.val (.ref 64), .val (.int p1), .val (.int p2)], [], (126, 120, L, [Y_5, T, H2, H, RU, RV, ST, NS, I0, I1, I2, BO, FI, RG, GU, PU, MA, MN, MS, OT, SC], [256, 192, 320, 384, w, r5, 576, 640, 704], Lg)) o from ev_sw [((0 : Int32), 56), ((1 : Int32), 66), ((2 : Int32), 76), ((3 : Int32), 86)] p2 (fun tt => (d + 3, 0, 0, 290, tt, [.val (.ref 64), .val (.int p1), .val (.int p2)], [], (126, 120, L, [Y_5, T, H2, H, RU, RV, ST, NS, I0, I1, I2, BO, FI, RG, GU, PU, MA, MN, MS, OT, SC], [256, 192, 320, 384, w, r5, 576, 640, 704], Lg))) 106 66 2 (fun f => by simp only [a_sw, if_neg zc9, if_pos zc12]) e (fun n => Eq.refl _)
          suffices e : Ev (d + 3, 0, 0, 290, 70, [.val (.ref 64), .val (.int p1), .val (.int p2)], [.ref 256], (126, 120, L, [Y_5, T, H2, H, RU, RV, ST, NS, I0, I1, I2, BO, FI, RG, GU, PU, MA, MN, MS, OT, SC], [256, 192, 320, 384, w, r5, 576, 640, 704], Lg)) o from ev_b 2 e (fun n => Eq.refl _)
          obtain ⟨x7, zh13, h⟩ := bnd h
          have zh13 : rdx (H 3) 8 p1 = some x7 := zh13
          suffices e : Ev (d + 3, 0, 0, 290, 75, [.val (.ref 64), .val (.int p1), .val (.int p2)], [.int x7], (126, 120, L, [Y_5, T, H2, H, RU, RV, ST, NS, I0, I1, I2, BO, FI, RG, GU, PU, MA, MN, MS, OT, SC], [256, 192, 320, 384, w, r5, 576, 640, 704], Lg)) o from ev_opt (fun x7 => (d + 3, 0, 0, 290, 75, [.val (.ref 64), .val (.int p1), .val (.int p2)], [.int x7], (126, 120, L, [Y_5, T, H2, H, RU, RV, ST, NS, I0, I1, I2, BO, FI, RG, GU, PU, MA, MN, MS, OT, SC], [256, 192, 320, 384, w, r5, 576, 640, 704], Lg))) 3 zh13 e (fun n => Eq.refl _)
          have ze14 := Option.some.inj h
          subst ze14
          exact ev_rete 1 ho (fun n => Eq.refl _)
        have h := itn h zc12
        by_cases zc15 : p2 = 2
        · have h := itp h zc15
          suffices e : Ev (d + 3, 0, 0, 290, 76, [.val (.ref 64), .val (.int p1), .val (.int p2)], [], (126, 120, L, [Y_5, T, H2, H, RU, RV, ST, NS, I0, I1, I2, BO, FI, RG, GU, PU, MA, MN, MS, OT, SC], [256, 192, 320, 384, w, r5, 576, 640, 704], Lg)) o from ev_sw [((0 : Int32), 56), ((1 : Int32), 66), ((2 : Int32), 76), ((3 : Int32), 86)] p2 (fun tt => (d + 3, 0, 0, 290, tt, [.val (.ref 64), .val (.int p1), .val (.int p2)], [], (126, 120, L, [Y_5, T, H2, H, RU, RV, ST, NS, I0, I1, I2, BO, FI, RG, GU, PU, MA, MN, MS, OT, SC], [256, 192, 320, 384, w, r5, 576, 640, 704], Lg))) 106 76 2 (fun f => by simp only [a_sw, if_neg zc9, if_neg zc12, if_pos zc15]) e (fun n => Eq.refl _)
          suffices e : Ev (d + 3, 0, 0, 290, 80, [.val (.ref 64), .val (.int p1), .val (.int p2)], [.ref 256], (126, 120, L, [Y_5, T, H2, H, RU, RV, ST, NS, I0, I1, I2, BO, FI, RG, GU, PU, MA, MN, MS, OT, SC], [256, 192, 320, 384, w, r5, 576, 640, 704], Lg)) o from ev_b 2 e (fun n => Eq.refl _)
          obtain ⟨x8, zh16, h⟩ := bnd h
          have zh16 : rdx (H 4) 8 p1 = some x8 := zh16
          suffices e : Ev (d + 3, 0, 0, 290, 85, [.val (.ref 64), .val (.int p1), .val (.int p2)], [.int x8], (126, 120, L, [Y_5, T, H2, H, RU, RV, ST, NS, I0, I1, I2, BO, FI, RG, GU, PU, MA, MN, MS, OT, SC], [256, 192, 320, 384, w, r5, 576, 640, 704], Lg)) o from ev_opt (fun x8 => (d + 3, 0, 0, 290, 85, [.val (.ref 64), .val (.int p1), .val (.int p2)], [.int x8], (126, 120, L, [Y_5, T, H2, H, RU, RV, ST, NS, I0, I1, I2, BO, FI, RG, GU, PU, MA, MN, MS, OT, SC], [256, 192, 320, 384, w, r5, 576, 640, 704], Lg))) 3 zh16 e (fun n => Eq.refl _)
          have ze17 := Option.some.inj h
          subst ze17
          exact ev_rete 1 ho (fun n => Eq.refl _)
        have h := itn h zc15
        by_cases zc18 : p2 = 3
        · have h := itp h zc18
          suffices e : Ev (d + 3, 0, 0, 290, 86, [.val (.ref 64), .val (.int p1), .val (.int p2)], [], (126, 120, L, [Y_5, T, H2, H, RU, RV, ST, NS, I0, I1, I2, BO, FI, RG, GU, PU, MA, MN, MS, OT, SC], [256, 192, 320, 384, w, r5, 576, 640, 704], Lg)) o from ev_sw [((0 : Int32), 56), ((1 : Int32), 66), ((2 : Int32), 76), ((3 : Int32), 86)] p2 (fun tt => (d + 3, 0, 0, 290, tt, [.val (.ref 64), .val (.int p1), .val (.int p2)], [], (126, 120, L, [Y_5, T, H2, H, RU, RV, ST, NS, I0, I1, I2, BO, FI, RG, GU, PU, MA, MN, MS, OT, SC], [256, 192, 320, 384, w, r5, 576, 640, 704], Lg))) 106 86 2 (fun f => by simp only [a_sw, if_neg zc9, if_neg zc12, if_neg zc15, if_pos zc18]) e (fun n => Eq.refl _)
          obtain ⟨BO_10, zh19, h⟩ := bnd h
          have zh19 : f_Y_lookNow H NS BO = some BO_10 := zh19
          have ze20 := R_f_Y_lookNow_2 (d + 0) Y_5 T H2 H RU RV ST NS I0 I1 I2 BO FI RG GU PU MA MN MS OT SC w r5 L Lg zh19
          suffices e : Ev (d + 3, 0, 0, 290, 90, [.val (.ref 64), .val (.int p1), .val (.int p2)], [.ref 768], (126, 120, L, [Y_5, T, H2, H, RU, RV, ST, NS, I0, I1, I2, BO_10, FI, RG, GU, PU, MA, MN, MS, OT, SC], [256, 192, 320, 384, w, 256, 576, 640, 704], Lg)) o from ev_call (fun v μ => (d + 3, 0, 0, 290, 90, [.val (.ref 64), .val (.int p1), .val (.int p2)], v.toList ++ [], μ)) 2 ze20 e (fun n => Eq.refl _)
          obtain ⟨x11, zh21, h⟩ := bnd h
          have zh21 : f_Board_placed H BO_10 = some x11 := zh21
          have ze22 := R_f_Board_placed_1 (d + 2) Y_5 T H2 H RU RV ST NS I0 I1 I2 BO_10 FI RG GU PU MA MN MS OT SC 256 192 320 384 w 576 640 704 L Lg zh21
          suffices e : Ev (d + 3, 0, 0, 290, 93, [.val (.ref 64), .val (.int p1), .val (.int p2)], [.int x11], (126, 120, L, [Y_5, T, H2, H, RU, RV, ST, NS, I0, I1, I2, BO_10, FI, RG, GU, PU, MA, MN, MS, OT, SC], [256, 192, 320, 384, w, 256, 576, 640, 704], Lg)) o from ev_call (fun v μ => (d + 3, 0, 0, 290, 93, [.val (.ref 64), .val (.int p1), .val (.int p2)], v.toList ++ [], μ)) 1 ze22 e (fun n => Eq.refl _)
          suffices e : Ev (d + 3, 0, 0, 290, 97, [.val (.ref 64), .val (.int p1), .val (.int p2)], [.ref 256, .int x11], (126, 120, L, [Y_5, T, H2, H, RU, RV, ST, NS, I0, I1, I2, BO_10, FI, RG, GU, PU, MA, MN, MS, OT, SC], [256, 192, 320, 384, w, 256, 576, 640, 704], Lg)) o from ev_b 2 e (fun n => Eq.refl _)
          obtain ⟨x12, zh23, h⟩ := bnd h
          have zh23 : f_House_meetingsOf H p1 = some x12 := zh23
          have ze24 := R_f_House_meetingsOf_1 (d + 1) Y_5 T H2 H RU RV ST NS I0 I1 I2 BO_10 FI RG GU PU MA MN MS OT SC 256 192 320 384 w 256 576 640 704 L Lg p1 zh23
          suffices e : Ev (d + 3, 0, 0, 290, 101, [.val (.ref 64), .val (.int p1), .val (.int p2)], [.int x12, .int x11], (126, 120, L, [Y_5, T, H2, H, RU, RV, ST, NS, I0, I1, I2, BO_10, FI, RG, GU, PU, MA, MN, MS, OT, SC], [256, 192, 320, 384, w, 256, 576, 640, 704], Lg)) o from ev_call (fun v μ => (d + 3, 0, 0, 290, 101, [.val (.ref 64), .val (.int p1), .val (.int p2)], v.toList ++ [.int x11], μ)) 2 ze24 e (fun n => Eq.refl _)
          obtain ⟨x13, zh25, h⟩ := bnd h
          have zh25 : f_Integer_bitCount (x11 &&& x12) = some x13 := zh25
          have ze26 := R_f_Integer_bitCount_0 (d + 2) Y_5 T H2 H RU RV ST NS I0 I1 I2 BO_10 FI RG GU PU MA MN MS OT SC 256 192 320 384 w 256 576 640 704 L Lg (x11 &&& x12) zh25
          suffices e : Ev (d + 3, 0, 0, 290, 105, [.val (.ref 64), .val (.int p1), .val (.int p2)], [.int x13], (126, 120, L, [Y_5, T, H2, H, RU, RV, ST, NS, I0, I1, I2, BO_10, FI, RG, GU, PU, MA, MN, MS, OT, SC], [256, 192, 320, 384, w, 256, 576, 640, 704], Lg)) o from ev_call (fun v μ => (d + 3, 0, 0, 290, 105, [.val (.ref 64), .val (.int p1), .val (.int p2)], v.toList ++ [], μ)) 2 ze26 e (fun n => Eq.refl _)
          have ze27 := Option.some.inj h
          subst ze27
          exact ev_rete 1 ho (fun n => Eq.refl _)
        have h := itn h zc18
        suffices e : Ev (d + 3, 0, 0, 290, 106, [.val (.ref 64), .val (.int p1), .val (.int p2)], [], (126, 120, L, [Y_5, T, H2, H, RU, RV, ST, NS, I0, I1, I2, BO, FI, RG, GU, PU, MA, MN, MS, OT, SC], [256, 192, 320, 384, w, r5, 576, 640, 704], Lg)) o from ev_sw [((0 : Int32), 56), ((1 : Int32), 66), ((2 : Int32), 76), ((3 : Int32), 86)] p2 (fun tt => (d + 3, 0, 0, 290, tt, [.val (.ref 64), .val (.int p1), .val (.int p2)], [], (126, 120, L, [Y_5, T, H2, H, RU, RV, ST, NS, I0, I1, I2, BO, FI, RG, GU, PU, MA, MN, MS, OT, SC], [256, 192, 320, 384, w, r5, 576, 640, 704], Lg))) 106 106 2 (fun f => by simp only [a_sw, if_neg zc9, if_neg zc12, if_neg zc15, if_neg zc18]) e (fun n => Eq.refl _)
        obtain ⟨BO_15, zh28, h⟩ := bnd h
        have zh28 : f_Y_lookNow H NS BO = some BO_15 := zh28
        have ze29 := R_f_Y_lookNow_2 (d + 0) Y_5 T H2 H RU RV ST NS I0 I1 I2 BO FI RG GU PU MA MN MS OT SC w r5 L Lg zh28
        suffices e : Ev (d + 3, 0, 0, 290, 110, [.val (.ref 64), .val (.int p1), .val (.int p2)], [.ref 768], (126, 120, L, [Y_5, T, H2, H, RU, RV, ST, NS, I0, I1, I2, BO_15, FI, RG, GU, PU, MA, MN, MS, OT, SC], [256, 192, 320, 384, w, 256, 576, 640, 704], Lg)) o from ev_call (fun v μ => (d + 3, 0, 0, 290, 110, [.val (.ref 64), .val (.int p1), .val (.int p2)], v.toList ++ [], μ)) 2 ze29 e (fun n => Eq.refl _)
        obtain ⟨x16, zh30, h⟩ := bnd h
        have zh30 : f_Board_bears H BO_15 p1 = some x16 := zh30
        have ze31 := R_f_Board_bears_1 (d + 1) Y_5 T H2 H RU RV ST NS I0 I1 I2 BO_15 FI RG GU PU MA MN MS OT SC 256 192 320 384 w 576 640 704 L Lg p1 zh30
        suffices e : Ev (d + 3, 0, 0, 290, 114, [.val (.ref 64), .val (.int p1), .val (.int p2)], [.int x16], (126, 120, L, [Y_5, T, H2, H, RU, RV, ST, NS, I0, I1, I2, BO_15, FI, RG, GU, PU, MA, MN, MS, OT, SC], [256, 192, 320, 384, w, 256, 576, 640, 704], Lg)) o from ev_call (fun v μ => (d + 3, 0, 0, 290, 114, [.val (.ref 64), .val (.int p1), .val (.int p2)], v.toList ++ [], μ)) 2 ze31 e (fun n => Eq.refl _)
        have ze32 := Option.some.inj h
        subst ze32
        exact ev_rete 1 ho (fun n => Eq.refl _)
      | succ q4 =>
        have h := itn h (Nat.succ_ne_zero q4)
        have ze33 := Option.some.inj h
        subst ze33
        subst ho
        exact ev_thr (fun v μ => (d + 3, 0, 0, 290, 23, [.val (.ref 64), .val (.int p1), .val (.int p2)], v.toList ++ [], μ)) 1 ze8 (fun n => Eq.refl _) (fun n => rfl)
    obtain ⟨zt34, zh35, zh4⟩ := bnd zh4
    have zj36 : zt34 = .inl () → Ev (d + 3, 1, 8, 290, 19, [.val (.ref 64), .val (.int p1), .val (.int p2)], [.ref 64], (126, 120, L, [Y_2, T, H2, H, RU, RV, ST, NS, I0, I1, I2, BO, FI, RG, GU, PU, MA, MN, MS, OT, SC], [256, 192, 320, 384, w, r5, 576, 640, 704], Lg)) o := by
      intro ze37
      have zh4 := sum_l zh4 ze37
      exact ev_b 1 (zj5 0 (Option.some.inj zh4) ) (fun n => Eq.refl _)
    by_cases zc38 : p2 < 0
    · have zh35 := itp zh35 zc38
      suffices e : Ev (d + 3, 1, 8, 290, 19, [.val (.ref 64), .val (.int p1), .val (.int p2)], [.ref 64], (126, 120, L, [Y_2, T, H2, H, RU, RV, ST, NS, I0, I1, I2, BO, FI, RG, GU, PU, MA, MN, MS, OT, SC], [256, 192, 320, 384, w, r5, 576, 640, 704], Lg)) o from ev_t (c := p2 < 0) _ _ 3  zc38 e (fun n => Eq.refl _)
      exact ev_b 0 (zj36  (Option.some.inj zh35).symm ) (fun n => Eq.refl _)
    · have zh35 := itn zh35 zc38
      suffices e : Ev (d + 3, 1, 8, 290, 10, [.val (.ref 64), .val (.int p1), .val (.int p2)], [.ref 64], (126, 120, L, [Y_2, T, H2, H, RU, RV, ST, NS, I0, I1, I2, BO, FI, RG, GU, PU, MA, MN, MS, OT, SC], [256, 192, 320, 384, w, r5, 576, 640, 704], Lg)) o from ev_f (c := p2 < 0) _ _ 3  zc38 e (fun n => Eq.refl _)
      by_cases zc39 : 4 < p2
      · have zh35 := itp zh35 zc39
        suffices e : Ev (d + 3, 1, 8, 290, 19, [.val (.ref 64), .val (.int p1), .val (.int p2)], [.ref 64], (126, 120, L, [Y_2, T, H2, H, RU, RV, ST, NS, I0, I1, I2, BO, FI, RG, GU, PU, MA, MN, MS, OT, SC], [256, 192, 320, 384, w, r5, 576, 640, 704], Lg)) o from ev_t (c := 4 < p2) _ _ 3  zc39 e (fun n => Eq.refl _)
        exact ev_b 0 (zj36  (Option.some.inj zh35).symm ) (fun n => Eq.refl _)
      · have zh35 := itn zh35 zc39
        suffices e : Ev (d + 3, 1, 8, 290, 15, [.val (.ref 64), .val (.int p1), .val (.int p2)], [.ref 64], (126, 120, L, [Y_2, T, H2, H, RU, RV, ST, NS, I0, I1, I2, BO, FI, RG, GU, PU, MA, MN, MS, OT, SC], [256, 192, 320, 384, w, r5, 576, 640, 704], Lg)) o from ev_f (c := 4 < p2) _ _ 3  zc39 e (fun n => Eq.refl _)
        have zh40 := sum_r zh4 (Option.some.inj zh35).symm
        exact ev_b 2 (zj5 1 (Option.some.inj zh40) ) (fun n => Eq.refl _)
  | succ q1 =>
    have h := itn h (Nat.succ_ne_zero q1)
    have ze41 := Option.some.inj h
    subst ze41
    subst ho
    exact ev_thr (fun v μ => (d + 3, 1, 8, 290, 5, [.val (.ref 64), .val (.int p1), .val (.int p2)], v.toList ++ [], μ)) 3 ze2 (fun n => Eq.refl _) (fun n => rfl)
set_option maxRecDepth 1000000 in
set_option maxHeartbeats 4000000 in
theorem R_f_Y_needPerson_3 (d : Nat) (Y T H2 H RV RU ST NS I0 I1 I2 BO FI RG GU PU MA MN MS OT SC : Nat → Nat → Int32) (w r5 : Nat) (L : Nat) (Lg : Int64) (p1 : Int32) {r : Nat × (Nat → Nat → Int32)} (h : f_Y_needPerson Y H p1 = some r) : Ev (d + 1, 1, 8, 336, 0, [.val (.ref 64), .val (.int p1)], [], (126, 120, L, [Y, T, H2, H, RV, RU, ST, NS, I0, I1, I2, BO, FI, RG, GU, PU, MA, MN, MS, OT, SC], [256, 192, 384, 320, w, r5, 576, 640, 704], Lg)) ((r.1, none, (126, 120, L, [r.2, T, H2, H, RV, RU, ST, NS, I0, I1, I2, BO, FI, RG, GU, PU, MA, MN, MS, OT, SC], [256, 192, 384, 320, w, r5, 576, 640, 704], Lg)) : AOut) := by
  suffices key : ∀ o : AOut, ((r.1, none, (126, 120, L, [r.2, T, H2, H, RV, RU, ST, NS, I0, I1, I2, BO, FI, RG, GU, PU, MA, MN, MS, OT, SC], [256, 192, 384, 320, w, r5, 576, 640, 704], Lg)) : AOut) = o → Ev (d + 1, 1, 8, 336, 0, [.val (.ref 64), .val (.int p1)], [], (126, 120, L, [Y, T, H2, H, RV, RU, ST, NS, I0, I1, I2, BO, FI, RG, GU, PU, MA, MN, MS, OT, SC], [256, 192, 384, 320, w, r5, 576, 640, 704], Lg)) o from key _ rfl
  intro o ho
  suffices e : Ev (d + 1, 1, 8, 336, 6, [.val (.ref 64), .val (.int p1)], [.ref 256, .int p1, .ref 64], (126, 120, L, [Y, T, H2, H, RV, RU, ST, NS, I0, I1, I2, BO, FI, RG, GU, PU, MA, MN, MS, OT, SC], [256, 192, 384, 320, w, r5, 576, 640, 704], Lg)) o from ev_b 4 e (fun n => Eq.refl _)
  obtain ⟨⟨q1, Y_2⟩, zh1, h⟩ := bnd h
  have zh1 : f_Y_needOneOf Y p1 (H 0 2) = some (q1, Y_2) := zh1
  have ze2 := R_f_Y_needOneOf_3 (d + 0) Y T H2 H RV RU ST NS I0 I1 I2 BO FI RG GU PU MA MN MS OT SC w r5 L Lg p1 (H 0 2) zh1
  cases q1 with
  | zero =>
    have h := itp h rfl
    suffices e : Ev (d + 1, 0, 0, 336, 12, [.val (.ref 64), .val (.int p1)], [], (126, 120, L, [Y_2, T, H2, H, RV, RU, ST, NS, I0, I1, I2, BO, FI, RG, GU, PU, MA, MN, MS, OT, SC], [256, 192, 384, 320, w, r5, 576, 640, 704], Lg)) o from ev_call (fun v μ => (d + 1, 0, 0, 336, 12, [.val (.ref 64), .val (.int p1)], v.toList ++ [], μ)) 2 ze2 e (fun n => Eq.refl _)
    have ze3 := Option.some.inj h
    subst ze3
    exact ev_rete 1 ho (fun n => Eq.refl _)
  | succ q1 =>
    have h := itn h (Nat.succ_ne_zero q1)
    have ze4 := Option.some.inj h
    subst ze4
    subst ho
    exact ev_thr (fun v μ => (d + 1, 0, 0, 336, 12, [.val (.ref 64), .val (.int p1)], v.toList ++ [], μ)) 2 ze2 (fun n => Eq.refl _) (fun n => rfl)
set_option maxRecDepth 1000000 in
set_option maxHeartbeats 4000000 in
theorem R_f_Y_person_3 (d : Nat) (Y T H2 H RV RU ST NS I0 I1 I2 BO FI RG GU PU MA MN MS OT SC : Nat → Nat → Int32) (w r5 : Nat) (L : Nat) (Lg : Int64) (p1 : Int32) (p2 : Int32) {r : Nat × Int32 × (Nat → Nat → Int32) × (Nat → Nat → Int32) × Nat} (h : f_Y_person Y H NS BO r5 256 p1 p2 = some r) : Ev (d + 3, 2, 16, 290, 0, [.val (.ref 64), .val (.int p1), .val (.int p2)], [], (126, 120, L, [Y, T, H2, H, RV, RU, ST, NS, I0, I1, I2, BO, FI, RG, GU, PU, MA, MN, MS, OT, SC], [256, 192, 384, 320, w, r5, 576, 640, 704], Lg)) ((r.1, a_ov r.1 (.int r.2.1), (126, 120, L, [r.2.2.1, T, H2, H, RV, RU, ST, NS, I0, I1, I2, r.2.2.2.1, FI, RG, GU, PU, MA, MN, MS, OT, SC], [256, 192, 384, 320, w, r.2.2.2.2, 576, 640, 704], Lg)) : AOut) := by
  suffices key : ∀ o : AOut, ((r.1, a_ov r.1 (.int r.2.1), (126, 120, L, [r.2.2.1, T, H2, H, RV, RU, ST, NS, I0, I1, I2, r.2.2.2.1, FI, RG, GU, PU, MA, MN, MS, OT, SC], [256, 192, 384, 320, w, r.2.2.2.2, 576, 640, 704], Lg)) : AOut) = o → Ev (d + 3, 2, 16, 290, 0, [.val (.ref 64), .val (.int p1), .val (.int p2)], [], (126, 120, L, [Y, T, H2, H, RV, RU, ST, NS, I0, I1, I2, BO, FI, RG, GU, PU, MA, MN, MS, OT, SC], [256, 192, 384, 320, w, r5, 576, 640, 704], Lg)) o from key _ rfl
  intro o ho
  obtain ⟨⟨q1, Y_2⟩, zh1, h⟩ := bnd h
  have zh1 : f_Y_needPerson Y H p1 = some (q1, Y_2) := zh1
  have ze2 := R_f_Y_needPerson_3 (d + 1) Y T H2 H RV RU ST NS I0 I1 I2 BO FI RG GU PU MA MN MS OT SC w r5 L Lg p1 zh1
  cases q1 with
  | zero =>
    have h := itp h rfl
    suffices e : Ev (d + 3, 1, 8, 290, 5, [.val (.ref 64), .val (.int p1), .val (.int p2)], [], (126, 120, L, [Y_2, T, H2, H, RV, RU, ST, NS, I0, I1, I2, BO, FI, RG, GU, PU, MA, MN, MS, OT, SC], [256, 192, 384, 320, w, r5, 576, 640, 704], Lg)) o from ev_call (fun v μ => (d + 3, 1, 8, 290, 5, [.val (.ref 64), .val (.int p1), .val (.int p2)], v.toList ++ [], μ)) 3 ze2 e (fun n => Eq.refl _)
    obtain ⟨zt3, zh4, h⟩ := bnd h
    have zj5 : ∀ (v3 : Int32), v3 = zt3 → Ev (d + 3, 1, 8, 290, 20, [.val (.ref 64), .val (.int p1), .val (.int p2)], [.int v3, .ref 64], (126, 120, L, [Y_2, T, H2, H, RV, RU, ST, NS, I0, I1, I2, BO, FI, RG, GU, PU, MA, MN, MS, OT, SC], [256, 192, 384, 320, w, r5, 576, 640, 704], Lg)) o := by
      intro v3 ze6
      subst ze6
      obtain ⟨⟨q4, Y_5⟩, zh7, h⟩ := bnd h
      have zh7 : f_Y_refuseUnless Y_2 v3 = some (q4, Y_5) := zh7
      have ze8 := R_f_Y_refuseUnless_3 (d + 2) Y_2 T H2 H RV RU ST NS I0 I1 I2 BO FI RG GU PU MA MN MS OT SC w r5 L Lg v3 zh7
      cases q4 with
      | zero =>
        have h := itp h rfl
        suffices e : Ev (d + 3, 0, 0, 290, 23, [.val (.ref 64), .val (.int p1), .val (.int p2)], [], (126, 120, L, [Y_5, T, H2, H, RV, RU, ST, NS, I0, I1, I2, BO, FI, RG, GU, PU, MA, MN, MS, OT, SC], [256, 192, 384, 320, w, r5, 576, 640, 704], Lg)) o from ev_call (fun v μ => (d + 3, 0, 0, 290, 23, [.val (.ref 64), .val (.int p1), .val (.int p2)], v.toList ++ [], μ)) 1 ze8 e (fun n => Eq.refl _)
        by_cases zc9 : p2 = 0
        · have h := itp h zc9
          suffices e : Ev (d + 3, 0, 0, 290, 56, [.val (.ref 64), .val (.int p1), .val (.int p2)], [], (126, 120, L, [Y_5, T, H2, H, RV, RU, ST, NS, I0, I1, I2, BO, FI, RG, GU, PU, MA, MN, MS, OT, SC], [256, 192, 384, 320, w, r5, 576, 640, 704], Lg)) o from ev_sw [((0 : Int32), 56), ((1 : Int32), 66), ((2 : Int32), 76), ((3 : Int32), 86)] p2 (fun tt => (d + 3, 0, 0, 290, tt, [.val (.ref 64), .val (.int p1), .val (.int p2)], [], (126, 120, L, [Y_5, T, H2, H, RV, RU, ST, NS, I0, I1, I2, BO, FI, RG, GU, PU, MA, MN, MS, OT, SC], [256, 192, 384, 320, w, r5, 576, 640, 704], Lg))) 106 56 2 (fun f => by simp only [a_sw, if_pos zc9]) e (fun n => Eq.refl _)
          suffices e : Ev (d + 3, 0, 0, 290, 60, [.val (.ref 64), .val (.int p1), .val (.int p2)], [.ref 256], (126, 120, L, [Y_5, T, H2, H, RV, RU, ST, NS, I0, I1, I2, BO, FI, RG, GU, PU, MA, MN, MS, OT, SC], [256, 192, 384, 320, w, r5, 576, 640, 704], Lg)) o from ev_b 2 e (fun n => Eq.refl _)
          obtain ⟨x6, zh10, h⟩ := bnd h
          have zh10 : rdx (H 2) 8 p1 = some x6 := zh10
          suffices e : Ev (d + 3, 0, 0, 290, 65, [.val (.ref 64), .val (.int p1), .val (.int p2)], [.int x6], (126, 120, L, [Y_5, T, H2, H, RV, RU, ST, NS, I0, I1, I2, BO, FI, RG, GU, PU, MA, MN, MS, OT, SC], [256, 192, 384, 320, w, r5, 576, 640, 704], Lg)) o from ev_opt (fun x6 => (d + 3, 0, 0, 290, 65, [.val (.ref 64), .val (.int p1), .val (.int p2)], [.int x6], (126, 120, L, [Y_5, T, H2, H, RV, RU, ST, NS, I0, I1, I2, BO, FI, RG, GU, PU, MA, MN, MS, OT, SC], [256, 192, 384, 320, w, r5, 576, 640, 704], Lg))) 3 zh10 e (fun n => Eq.refl _)
          have ze11 := Option.some.inj h
          subst ze11
          exact ev_rete 1 ho (fun n => Eq.refl _)
        have h := itn h zc9
        by_cases zc12 : p2 = 1
        · have h := itp h zc12
          suffices e : Ev (d + 3, 0, 0, 290, 66, [.val (.ref 64), .val (.int p1), .val (.int p2)], [], (126, 120, L, [Y_5, T, H2, H, RV, RU, ST, NS, I0, I1, I2, BO, FI, RG, GU, PU, MA, MN, MS, OT, SC], [256, 192, 384, 320, w, r5, 576, 640, 704], Lg)) o from ev_sw [((0 : Int32), 56), ((1 : Int32), 66), ((2 : Int32), 76), ((3 : Int32), 86)] p2 (fun tt => (d + 3, 0, 0, 290, tt, [.val (.ref 64), .val (.int p1), .val (.int p2)], [], (126, 120, L, [Y_5, T, H2, H, RV, RU, ST, NS, I0, I1, I2, BO, FI, RG, GU, PU, MA, MN, MS, OT, SC], [256, 192, 384, 320, w, r5, 576, 640, 704], Lg))) 106 66 2 (fun f => by simp only [a_sw, if_neg zc9, if_pos zc12]) e (fun n => Eq.refl _)
          suffices e : Ev (d + 3, 0, 0, 290, 70, [.val (.ref 64), .val (.int p1), .val (.int p2)], [.ref 256], (126, 120, L, [Y_5, T, H2, H, RV, RU, ST, NS, I0, I1, I2, BO, FI, RG, GU, PU, MA, MN, MS, OT, SC], [256, 192, 384, 320, w, r5, 576, 640, 704], Lg)) o from ev_b 2 e (fun n => Eq.refl _)
          obtain ⟨x7, zh13, h⟩ := bnd h
          have zh13 : rdx (H 3) 8 p1 = some x7 := zh13
          suffices e : Ev (d + 3, 0, 0, 290, 75, [.val (.ref 64), .val (.int p1), .val (.int p2)], [.int x7], (126, 120, L, [Y_5, T, H2, H, RV, RU, ST, NS, I0, I1, I2, BO, FI, RG, GU, PU, MA, MN, MS, OT, SC], [256, 192, 384, 320, w, r5, 576, 640, 704], Lg)) o from ev_opt (fun x7 => (d + 3, 0, 0, 290, 75, [.val (.ref 64), .val (.int p1), .val (.int p2)], [.int x7], (126, 120, L, [Y_5, T, H2, H, RV, RU, ST, NS, I0, I1, I2, BO, FI, RG, GU, PU, MA, MN, MS, OT, SC], [256, 192, 384, 320, w, r5, 576, 640, 704], Lg))) 3 zh13 e (fun n => Eq.refl _)
          have ze14 := Option.some.inj h
          subst ze14
          exact ev_rete 1 ho (fun n => Eq.refl _)
        have h := itn h zc12
        by_cases zc15 : p2 = 2
        · have h := itp h zc15
          suffices e : Ev (d + 3, 0, 0, 290, 76, [.val (.ref 64), .val (.int p1), .val (.int p2)], [], (126, 120, L, [Y_5, T, H2, H, RV, RU, ST, NS, I0, I1, I2, BO, FI, RG, GU, PU, MA, MN, MS, OT, SC], [256, 192, 384, 320, w, r5, 576, 640, 704], Lg)) o from ev_sw [((0 : Int32), 56), ((1 : Int32), 66), ((2 : Int32), 76), ((3 : Int32), 86)] p2 (fun tt => (d + 3, 0, 0, 290, tt, [.val (.ref 64), .val (.int p1), .val (.int p2)], [], (126, 120, L, [Y_5, T, H2, H, RV, RU, ST, NS, I0, I1, I2, BO, FI, RG, GU, PU, MA, MN, MS, OT, SC], [256, 192, 384, 320, w, r5, 576, 640, 704], Lg))) 106 76 2 (fun f => by simp only [a_sw, if_neg zc9, if_neg zc12, if_pos zc15]) e (fun n => Eq.refl _)
          suffices e : Ev (d + 3, 0, 0, 290, 80, [.val (.ref 64), .val (.int p1), .val (.int p2)], [.ref 256], (126, 120, L, [Y_5, T, H2, H, RV, RU, ST, NS, I0, I1, I2, BO, FI, RG, GU, PU, MA, MN, MS, OT, SC], [256, 192, 384, 320, w, r5, 576, 640, 704], Lg)) o from ev_b 2 e (fun n => Eq.refl _)
          obtain ⟨x8, zh16, h⟩ := bnd h
          have zh16 : rdx (H 4) 8 p1 = some x8 := zh16
          suffices e : Ev (d + 3, 0, 0, 290, 85, [.val (.ref 64), .val (.int p1), .val (.int p2)], [.int x8], (126, 120, L, [Y_5, T, H2, H, RV, RU, ST, NS, I0, I1, I2, BO, FI, RG, GU, PU, MA, MN, MS, OT, SC], [256, 192, 384, 320, w, r5, 576, 640, 704], Lg)) o from ev_opt (fun x8 => (d + 3, 0, 0, 290, 85, [.val (.ref 64), .val (.int p1), .val (.int p2)], [.int x8], (126, 120, L, [Y_5, T, H2, H, RV, RU, ST, NS, I0, I1, I2, BO, FI, RG, GU, PU, MA, MN, MS, OT, SC], [256, 192, 384, 320, w, r5, 576, 640, 704], Lg))) 3 zh16 e (fun n => Eq.refl _)
          have ze17 := Option.some.inj h
          subst ze17
          exact ev_rete 1 ho (fun n => Eq.refl _)
        have h := itn h zc15
        by_cases zc18 : p2 = 3
        · have h := itp h zc18
          suffices e : Ev (d + 3, 0, 0, 290, 86, [.val (.ref 64), .val (.int p1), .val (.int p2)], [], (126, 120, L, [Y_5, T, H2, H, RV, RU, ST, NS, I0, I1, I2, BO, FI, RG, GU, PU, MA, MN, MS, OT, SC], [256, 192, 384, 320, w, r5, 576, 640, 704], Lg)) o from ev_sw [((0 : Int32), 56), ((1 : Int32), 66), ((2 : Int32), 76), ((3 : Int32), 86)] p2 (fun tt => (d + 3, 0, 0, 290, tt, [.val (.ref 64), .val (.int p1), .val (.int p2)], [], (126, 120, L, [Y_5, T, H2, H, RV, RU, ST, NS, I0, I1, I2, BO, FI, RG, GU, PU, MA, MN, MS, OT, SC], [256, 192, 384, 320, w, r5, 576, 640, 704], Lg))) 106 86 2 (fun f => by simp only [a_sw, if_neg zc9, if_neg zc12, if_neg zc15, if_pos zc18]) e (fun n => Eq.refl _)
          obtain ⟨BO_10, zh19, h⟩ := bnd h
          have zh19 : f_Y_lookNow H NS BO = some BO_10 := zh19
          have ze20 := R_f_Y_lookNow_3 (d + 0) Y_5 T H2 H RV RU ST NS I0 I1 I2 BO FI RG GU PU MA MN MS OT SC w r5 L Lg zh19
          suffices e : Ev (d + 3, 0, 0, 290, 90, [.val (.ref 64), .val (.int p1), .val (.int p2)], [.ref 768], (126, 120, L, [Y_5, T, H2, H, RV, RU, ST, NS, I0, I1, I2, BO_10, FI, RG, GU, PU, MA, MN, MS, OT, SC], [256, 192, 384, 320, w, 256, 576, 640, 704], Lg)) o from ev_call (fun v μ => (d + 3, 0, 0, 290, 90, [.val (.ref 64), .val (.int p1), .val (.int p2)], v.toList ++ [], μ)) 2 ze20 e (fun n => Eq.refl _)
          obtain ⟨x11, zh21, h⟩ := bnd h
          have zh21 : f_Board_placed H BO_10 = some x11 := zh21
          have ze22 := R_f_Board_placed_1 (d + 2) Y_5 T H2 H RV RU ST NS I0 I1 I2 BO_10 FI RG GU PU MA MN MS OT SC 256 192 384 320 w 576 640 704 L Lg zh21
          suffices e : Ev (d + 3, 0, 0, 290, 93, [.val (.ref 64), .val (.int p1), .val (.int p2)], [.int x11], (126, 120, L, [Y_5, T, H2, H, RV, RU, ST, NS, I0, I1, I2, BO_10, FI, RG, GU, PU, MA, MN, MS, OT, SC], [256, 192, 384, 320, w, 256, 576, 640, 704], Lg)) o from ev_call (fun v μ => (d + 3, 0, 0, 290, 93, [.val (.ref 64), .val (.int p1), .val (.int p2)], v.toList ++ [], μ)) 1 ze22 e (fun n => Eq.refl _)
          suffices e : Ev (d + 3, 0, 0, 290, 97, [.val (.ref 64), .val (.int p1), .val (.int p2)], [.ref 256, .int x11], (126, 120, L, [Y_5, T, H2, H, RV, RU, ST, NS, I0, I1, I2, BO_10, FI, RG, GU, PU, MA, MN, MS, OT, SC], [256, 192, 384, 320, w, 256, 576, 640, 704], Lg)) o from ev_b 2 e (fun n => Eq.refl _)
          obtain ⟨x12, zh23, h⟩ := bnd h
          have zh23 : f_House_meetingsOf H p1 = some x12 := zh23
          have ze24 := R_f_House_meetingsOf_1 (d + 1) Y_5 T H2 H RV RU ST NS I0 I1 I2 BO_10 FI RG GU PU MA MN MS OT SC 256 192 384 320 w 256 576 640 704 L Lg p1 zh23
          suffices e : Ev (d + 3, 0, 0, 290, 101, [.val (.ref 64), .val (.int p1), .val (.int p2)], [.int x12, .int x11], (126, 120, L, [Y_5, T, H2, H, RV, RU, ST, NS, I0, I1, I2, BO_10, FI, RG, GU, PU, MA, MN, MS, OT, SC], [256, 192, 384, 320, w, 256, 576, 640, 704], Lg)) o from ev_call (fun v μ => (d + 3, 0, 0, 290, 101, [.val (.ref 64), .val (.int p1), .val (.int p2)], v.toList ++ [.int x11], μ)) 2 ze24 e (fun n => Eq.refl _)
          obtain ⟨x13, zh25, h⟩ := bnd h
          have zh25 : f_Integer_bitCount (x11 &&& x12) = some x13 := zh25
          have ze26 := R_f_Integer_bitCount_0 (d + 2) Y_5 T H2 H RV RU ST NS I0 I1 I2 BO_10 FI RG GU PU MA MN MS OT SC 256 192 384 320 w 256 576 640 704 L Lg (x11 &&& x12) zh25
          suffices e : Ev (d + 3, 0, 0, 290, 105, [.val (.ref 64), .val (.int p1), .val (.int p2)], [.int x13], (126, 120, L, [Y_5, T, H2, H, RV, RU, ST, NS, I0, I1, I2, BO_10, FI, RG, GU, PU, MA, MN, MS, OT, SC], [256, 192, 384, 320, w, 256, 576, 640, 704], Lg)) o from ev_call (fun v μ => (d + 3, 0, 0, 290, 105, [.val (.ref 64), .val (.int p1), .val (.int p2)], v.toList ++ [], μ)) 2 ze26 e (fun n => Eq.refl _)
          have ze27 := Option.some.inj h
          subst ze27
          exact ev_rete 1 ho (fun n => Eq.refl _)
        have h := itn h zc18
        suffices e : Ev (d + 3, 0, 0, 290, 106, [.val (.ref 64), .val (.int p1), .val (.int p2)], [], (126, 120, L, [Y_5, T, H2, H, RV, RU, ST, NS, I0, I1, I2, BO, FI, RG, GU, PU, MA, MN, MS, OT, SC], [256, 192, 384, 320, w, r5, 576, 640, 704], Lg)) o from ev_sw [((0 : Int32), 56), ((1 : Int32), 66), ((2 : Int32), 76), ((3 : Int32), 86)] p2 (fun tt => (d + 3, 0, 0, 290, tt, [.val (.ref 64), .val (.int p1), .val (.int p2)], [], (126, 120, L, [Y_5, T, H2, H, RV, RU, ST, NS, I0, I1, I2, BO, FI, RG, GU, PU, MA, MN, MS, OT, SC], [256, 192, 384, 320, w, r5, 576, 640, 704], Lg))) 106 106 2 (fun f => by simp only [a_sw, if_neg zc9, if_neg zc12, if_neg zc15, if_neg zc18]) e (fun n => Eq.refl _)
        obtain ⟨BO_15, zh28, h⟩ := bnd h
        have zh28 : f_Y_lookNow H NS BO = some BO_15 := zh28
        have ze29 := R_f_Y_lookNow_3 (d + 0) Y_5 T H2 H RV RU ST NS I0 I1 I2 BO FI RG GU PU MA MN MS OT SC w r5 L Lg zh28
        suffices e : Ev (d + 3, 0, 0, 290, 110, [.val (.ref 64), .val (.int p1), .val (.int p2)], [.ref 768], (126, 120, L, [Y_5, T, H2, H, RV, RU, ST, NS, I0, I1, I2, BO_15, FI, RG, GU, PU, MA, MN, MS, OT, SC], [256, 192, 384, 320, w, 256, 576, 640, 704], Lg)) o from ev_call (fun v μ => (d + 3, 0, 0, 290, 110, [.val (.ref 64), .val (.int p1), .val (.int p2)], v.toList ++ [], μ)) 2 ze29 e (fun n => Eq.refl _)
        obtain ⟨x16, zh30, h⟩ := bnd h
        have zh30 : f_Board_bears H BO_15 p1 = some x16 := zh30
        have ze31 := R_f_Board_bears_1 (d + 1) Y_5 T H2 H RV RU ST NS I0 I1 I2 BO_15 FI RG GU PU MA MN MS OT SC 256 192 384 320 w 576 640 704 L Lg p1 zh30
        suffices e : Ev (d + 3, 0, 0, 290, 114, [.val (.ref 64), .val (.int p1), .val (.int p2)], [.int x16], (126, 120, L, [Y_5, T, H2, H, RV, RU, ST, NS, I0, I1, I2, BO_15, FI, RG, GU, PU, MA, MN, MS, OT, SC], [256, 192, 384, 320, w, 256, 576, 640, 704], Lg)) o from ev_call (fun v μ => (d + 3, 0, 0, 290, 114, [.val (.ref 64), .val (.int p1), .val (.int p2)], v.toList ++ [], μ)) 2 ze31 e (fun n => Eq.refl _)
        have ze32 := Option.some.inj h
        subst ze32
        exact ev_rete 1 ho (fun n => Eq.refl _)
      | succ q4 =>
        have h := itn h (Nat.succ_ne_zero q4)
        have ze33 := Option.some.inj h
        subst ze33
        subst ho
        exact ev_thr (fun v μ => (d + 3, 0, 0, 290, 23, [.val (.ref 64), .val (.int p1), .val (.int p2)], v.toList ++ [], μ)) 1 ze8 (fun n => Eq.refl _) (fun n => rfl)
    obtain ⟨zt34, zh35, zh4⟩ := bnd zh4
    have zj36 : zt34 = .inl () → Ev (d + 3, 1, 8, 290, 19, [.val (.ref 64), .val (.int p1), .val (.int p2)], [.ref 64], (126, 120, L, [Y_2, T, H2, H, RV, RU, ST, NS, I0, I1, I2, BO, FI, RG, GU, PU, MA, MN, MS, OT, SC], [256, 192, 384, 320, w, r5, 576, 640, 704], Lg)) o := by
      intro ze37
      have zh4 := sum_l zh4 ze37
      exact ev_b 1 (zj5 0 (Option.some.inj zh4) ) (fun n => Eq.refl _)
    by_cases zc38 : p2 < 0
    · have zh35 := itp zh35 zc38
      suffices e : Ev (d + 3, 1, 8, 290, 19, [.val (.ref 64), .val (.int p1), .val (.int p2)], [.ref 64], (126, 120, L, [Y_2, T, H2, H, RV, RU, ST, NS, I0, I1, I2, BO, FI, RG, GU, PU, MA, MN, MS, OT, SC], [256, 192, 384, 320, w, r5, 576, 640, 704], Lg)) o from ev_t (c := p2 < 0) _ _ 3  zc38 e (fun n => Eq.refl _)
      exact ev_b 0 (zj36  (Option.some.inj zh35).symm ) (fun n => Eq.refl _)
    · have zh35 := itn zh35 zc38
      suffices e : Ev (d + 3, 1, 8, 290, 10, [.val (.ref 64), .val (.int p1), .val (.int p2)], [.ref 64], (126, 120, L, [Y_2, T, H2, H, RV, RU, ST, NS, I0, I1, I2, BO, FI, RG, GU, PU, MA, MN, MS, OT, SC], [256, 192, 384, 320, w, r5, 576, 640, 704], Lg)) o from ev_f (c := p2 < 0) _ _ 3  zc38 e (fun n => Eq.refl _)
      by_cases zc39 : 4 < p2
      · have zh35 := itp zh35 zc39
        suffices e : Ev (d + 3, 1, 8, 290, 19, [.val (.ref 64), .val (.int p1), .val (.int p2)], [.ref 64], (126, 120, L, [Y_2, T, H2, H, RV, RU, ST, NS, I0, I1, I2, BO, FI, RG, GU, PU, MA, MN, MS, OT, SC], [256, 192, 384, 320, w, r5, 576, 640, 704], Lg)) o from ev_t (c := 4 < p2) _ _ 3  zc39 e (fun n => Eq.refl _)
        exact ev_b 0 (zj36  (Option.some.inj zh35).symm ) (fun n => Eq.refl _)
      · have zh35 := itn zh35 zc39
        suffices e : Ev (d + 3, 1, 8, 290, 15, [.val (.ref 64), .val (.int p1), .val (.int p2)], [.ref 64], (126, 120, L, [Y_2, T, H2, H, RV, RU, ST, NS, I0, I1, I2, BO, FI, RG, GU, PU, MA, MN, MS, OT, SC], [256, 192, 384, 320, w, r5, 576, 640, 704], Lg)) o from ev_f (c := 4 < p2) _ _ 3  zc39 e (fun n => Eq.refl _)
        have zh40 := sum_r zh4 (Option.some.inj zh35).symm
        exact ev_b 2 (zj5 1 (Option.some.inj zh40) ) (fun n => Eq.refl _)
  | succ q1 =>
    have h := itn h (Nat.succ_ne_zero q1)
    have ze41 := Option.some.inj h
    subst ze41
    subst ho
    exact ev_thr (fun v μ => (d + 3, 1, 8, 290, 5, [.val (.ref 64), .val (.int p1), .val (.int p2)], v.toList ++ [], μ)) 3 ze2 (fun n => Eq.refl _) (fun n => rfl)
set_option maxRecDepth 1000000 in
set_option maxHeartbeats 4000000 in
theorem R_f_Y_needRoom_0 (d : Nat) (Y T H H2 RU RV ST NS I0 I1 I2 BO FI RG GU PU MA MN MS OT SC : Nat → Nat → Int32) (w r5 : Nat) (L : Nat) (Lg : Int64) (p1 : Int32) {r : Nat × (Nat → Nat → Int32)} (h : f_Y_needRoom Y H p1 = some r) : Ev (d + 1, 1, 8, 337, 0, [.val (.ref 64), .val (.int p1)], [], (126, 120, L, [Y, T, H, H2, RU, RV, ST, NS, I0, I1, I2, BO, FI, RG, GU, PU, MA, MN, MS, OT, SC], [192, 256, 320, 384, w, r5, 576, 640, 704], Lg)) ((r.1, none, (126, 120, L, [r.2, T, H, H2, RU, RV, ST, NS, I0, I1, I2, BO, FI, RG, GU, PU, MA, MN, MS, OT, SC], [192, 256, 320, 384, w, r5, 576, 640, 704], Lg)) : AOut) := by
  suffices key : ∀ o : AOut, ((r.1, none, (126, 120, L, [r.2, T, H, H2, RU, RV, ST, NS, I0, I1, I2, BO, FI, RG, GU, PU, MA, MN, MS, OT, SC], [192, 256, 320, 384, w, r5, 576, 640, 704], Lg)) : AOut) = o → Ev (d + 1, 1, 8, 337, 0, [.val (.ref 64), .val (.int p1)], [], (126, 120, L, [Y, T, H, H2, RU, RV, ST, NS, I0, I1, I2, BO, FI, RG, GU, PU, MA, MN, MS, OT, SC], [192, 256, 320, 384, w, r5, 576, 640, 704], Lg)) o from key _ rfl
  intro o ho
  suffices e : Ev (d + 1, 1, 8, 337, 6, [.val (.ref 64), .val (.int p1)], [.ref 192, .int p1, .ref 64], (126, 120, L, [Y, T, H, H2, RU, RV, ST, NS, I0, I1, I2, BO, FI, RG, GU, PU, MA, MN, MS, OT, SC], [192, 256, 320, 384, w, r5, 576, 640, 704], Lg)) o from ev_b 4 e (fun n => Eq.refl _)
  obtain ⟨⟨q1, Y_2⟩, zh1, h⟩ := bnd h
  have zh1 : f_Y_needOneOf Y p1 (H 0 1) = some (q1, Y_2) := zh1
  have ze2 := R_f_Y_needOneOf_0 (d + 0) Y T H H2 RU RV ST NS I0 I1 I2 BO FI RG GU PU MA MN MS OT SC w r5 L Lg p1 (H 0 1) zh1
  cases q1 with
  | zero =>
    have h := itp h rfl
    suffices e : Ev (d + 1, 0, 0, 337, 12, [.val (.ref 64), .val (.int p1)], [], (126, 120, L, [Y_2, T, H, H2, RU, RV, ST, NS, I0, I1, I2, BO, FI, RG, GU, PU, MA, MN, MS, OT, SC], [192, 256, 320, 384, w, r5, 576, 640, 704], Lg)) o from ev_call (fun v μ => (d + 1, 0, 0, 337, 12, [.val (.ref 64), .val (.int p1)], v.toList ++ [], μ)) 2 ze2 e (fun n => Eq.refl _)
    have ze3 := Option.some.inj h
    subst ze3
    exact ev_rete 1 ho (fun n => Eq.refl _)
  | succ q1 =>
    have h := itn h (Nat.succ_ne_zero q1)
    have ze4 := Option.some.inj h
    subst ze4
    subst ho
    exact ev_thr (fun v μ => (d + 1, 0, 0, 337, 12, [.val (.ref 64), .val (.int p1)], v.toList ++ [], μ)) 2 ze2 (fun n => Eq.refl _) (fun n => rfl)
set_option maxRecDepth 1000000 in
set_option maxHeartbeats 4000000 in
theorem R_f_Y_needHour_0 (d : Nat) (Y T H H2 RU RV ST NS I0 I1 I2 BO FI RG GU PU MA MN MS OT SC : Nat → Nat → Int32) (w r5 : Nat) (L : Nat) (Lg : Int64) (p1 : Int32) {r : Nat × (Nat → Nat → Int32)} (h : f_Y_needHour Y H p1 = some r) : Ev (d + 1, 1, 8, 339, 0, [.val (.ref 64), .val (.int p1)], [], (126, 120, L, [Y, T, H, H2, RU, RV, ST, NS, I0, I1, I2, BO, FI, RG, GU, PU, MA, MN, MS, OT, SC], [192, 256, 320, 384, w, r5, 576, 640, 704], Lg)) ((r.1, none, (126, 120, L, [r.2, T, H, H2, RU, RV, ST, NS, I0, I1, I2, BO, FI, RG, GU, PU, MA, MN, MS, OT, SC], [192, 256, 320, 384, w, r5, 576, 640, 704], Lg)) : AOut) := by
  suffices key : ∀ o : AOut, ((r.1, none, (126, 120, L, [r.2, T, H, H2, RU, RV, ST, NS, I0, I1, I2, BO, FI, RG, GU, PU, MA, MN, MS, OT, SC], [192, 256, 320, 384, w, r5, 576, 640, 704], Lg)) : AOut) = o → Ev (d + 1, 1, 8, 339, 0, [.val (.ref 64), .val (.int p1)], [], (126, 120, L, [Y, T, H, H2, RU, RV, ST, NS, I0, I1, I2, BO, FI, RG, GU, PU, MA, MN, MS, OT, SC], [192, 256, 320, 384, w, r5, 576, 640, 704], Lg)) o from key _ rfl
  intro o ho
  obtain ⟨zt1, zh2, h⟩ := bnd h
  have zj3 : ∀ (v1 : Int32), v1 = zt1 → Ev (d + 1, 1, 8, 339, 21, [.val (.ref 64), .val (.int p1)], [.int v1, .ref 64], (126, 120, L, [Y, T, H, H2, RU, RV, ST, NS, I0, I1, I2, BO, FI, RG, GU, PU, MA, MN, MS, OT, SC], [192, 256, 320, 384, w, r5, 576, 640, 704], Lg)) o := by
    intro v1 ze4
    subst ze4
    obtain ⟨⟨q2, Y_3⟩, zh5, h⟩ := bnd h
    have zh5 : f_Y_refuseUnless Y v1 = some (q2, Y_3) := zh5
    have ze6 := R_f_Y_refuseUnless_0 (d + 0) Y T H H2 RU RV ST NS I0 I1 I2 BO FI RG GU PU MA MN MS OT SC w r5 L Lg v1 zh5
    cases q2 with
    | zero =>
      have h := itp h rfl
      suffices e : Ev (d + 1, 0, 0, 339, 24, [.val (.ref 64), .val (.int p1)], [], (126, 120, L, [Y_3, T, H, H2, RU, RV, ST, NS, I0, I1, I2, BO, FI, RG, GU, PU, MA, MN, MS, OT, SC], [192, 256, 320, 384, w, r5, 576, 640, 704], Lg)) o from ev_call (fun v μ => (d + 1, 0, 0, 339, 24, [.val (.ref 64), .val (.int p1)], v.toList ++ [], μ)) 1 ze6 e (fun n => Eq.refl _)
      have ze7 := Option.some.inj h
      subst ze7
      exact ev_rete 1 ho (fun n => Eq.refl _)
    | succ q2 =>
      have h := itn h (Nat.succ_ne_zero q2)
      have ze8 := Option.some.inj h
      subst ze8
      subst ho
      exact ev_thr (fun v μ => (d + 1, 0, 0, 339, 24, [.val (.ref 64), .val (.int p1)], v.toList ++ [], μ)) 1 ze6 (fun n => Eq.refl _) (fun n => rfl)
  obtain ⟨zt9, zh10, zh2⟩ := bnd zh2
  have zj11 : zt9 = .inl () → Ev (d + 1, 1, 8, 339, 20, [.val (.ref 64), .val (.int p1)], [.ref 64], (126, 120, L, [Y, T, H, H2, RU, RV, ST, NS, I0, I1, I2, BO, FI, RG, GU, PU, MA, MN, MS, OT, SC], [192, 256, 320, 384, w, r5, 576, 640, 704], Lg)) o := by
    intro ze12
    have zh2 := sum_l zh2 ze12
    exact ev_b 1 (zj3 0 (Option.some.inj zh2) ) (fun n => Eq.refl _)
  by_cases zc13 : p1 < 0
  · have zh10 := itp zh10 zc13
    suffices e : Ev (d + 1, 1, 8, 339, 20, [.val (.ref 64), .val (.int p1)], [.ref 64], (126, 120, L, [Y, T, H, H2, RU, RV, ST, NS, I0, I1, I2, BO, FI, RG, GU, PU, MA, MN, MS, OT, SC], [192, 256, 320, 384, w, r5, 576, 640, 704], Lg)) o from ev_t (c := p1 < 0) _ _ 3  zc13 e (fun n => Eq.refl _)
    exact ev_b 0 (zj11  (Option.some.inj zh10).symm ) (fun n => Eq.refl _)
  · have zh10 := itn zh10 zc13
    suffices e : Ev (d + 1, 1, 8, 339, 5, [.val (.ref 64), .val (.int p1)], [.ref 64], (126, 120, L, [Y, T, H, H2, RU, RV, ST, NS, I0, I1, I2, BO, FI, RG, GU, PU, MA, MN, MS, OT, SC], [192, 256, 320, 384, w, r5, 576, 640, 704], Lg)) o from ev_f (c := p1 < 0) _ _ 3  zc13 e (fun n => Eq.refl _)
    suffices e : Ev (d + 1, 1, 8, 339, 10, [.val (.ref 64), .val (.int p1)], [.ref 192, .int p1, .ref 64], (126, 120, L, [Y, T, H, H2, RU, RV, ST, NS, I0, I1, I2, BO, FI, RG, GU, PU, MA, MN, MS, OT, SC], [192, 256, 320, 384, w, r5, 576, 640, 704], Lg)) o from ev_b 3 e (fun n => Eq.refl _)
    by_cases zc14 : (H 0 0) ≤ p1
    · have zh10 := itp zh10 zc14
      suffices e : Ev (d + 1, 1, 8, 339, 20, [.val (.ref 64), .val (.int p1)], [.ref 64], (126, 120, L, [Y, T, H, H2, RU, RV, ST, NS, I0, I1, I2, BO, FI, RG, GU, PU, MA, MN, MS, OT, SC], [192, 256, 320, 384, w, r5, 576, 640, 704], Lg)) o from ev_t (c := (H 0 0) ≤ p1) _ _ 2  zc14 e (fun n => Eq.refl _)
      exact ev_b 0 (zj11  (Option.some.inj zh10).symm ) (fun n => Eq.refl _)
    · have zh10 := itn zh10 zc14
      suffices e : Ev (d + 1, 1, 8, 339, 16, [.val (.ref 64), .val (.int p1)], [.ref 64], (126, 120, L, [Y, T, H, H2, RU, RV, ST, NS, I0, I1, I2, BO, FI, RG, GU, PU, MA, MN, MS, OT, SC], [192, 256, 320, 384, w, r5, 576, 640, 704], Lg)) o from ev_f (c := (H 0 0) ≤ p1) _ _ 2  zc14 e (fun n => Eq.refl _)
      have zh15 := sum_r zh2 (Option.some.inj zh10).symm
      exact ev_b 2 (zj3 1 (Option.some.inj zh15) ) (fun n => Eq.refl _)
