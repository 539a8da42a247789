/-! printed by program (gen/emitm.py): the reference's methods run as their functions say -/
set_option maxRecDepth 1000000 in
set_option maxHeartbeats 4000000 in
theorem R_f_Y_pair_3 (d : Nat) (Y T H2 H RV RU ST NS I0 I1 I2 BO FI RG GU PU MA MN MS OT SC : Nat → Nat → Int32) (w r5 : Nat) (L : Nat) (Lg : Int64) (p1 : Int32) (p2 : Int32) {r : Nat × Int32 × (Nat → Nat → Int32) × (Nat → Nat → Int32) × Nat} (h : f_Y_pair Y H NS BO 256 r5 p1 p2 = some r) : Ev (d + 3, 3, 24, 317, 0, [.val (.ref 64), .val (.int p1), .val (.int p2), .val a_unk], [], (126, 120, L, [Y, T, H2, H, RV, RU, ST, NS, I0, I1, I2, BO, FI, RG, GU, PU, MA, MN, MS, OT, SC], [256, 192, 384, 320, w, r5, 576, 640, 704], Lg)) ((r.1, a_ov r.1 (.int r.2.1), (126, 120, L, [r.2.2.1, T, H2, H, RV, RU, ST, NS, I0, I1, I2, r.2.2.2.1, FI, RG, GU, PU, MA, MN, MS, OT, SC], [256, 192, 384, 320, w, r.2.2.2.2, 576, 640, 704], Lg)) : AOut) := by
  suffices key : ∀ o : AOut, ((r.1, a_ov r.1 (.int r.2.1), (126, 120, L, [r.2.2.1, T, H2, H, RV, RU, ST, NS, I0, I1, I2, r.2.2.2.1, FI, RG, GU, PU, MA, MN, MS, OT, SC], [256, 192, 384, 320, w, r.2.2.2.2, 576, 640, 704], Lg)) : AOut) = o → Ev (d + 3, 3, 24, 317, 0, [.val (.ref 64), .val (.int p1), .val (.int p2), .val a_unk], [], (126, 120, L, [Y, T, H2, H, RV, RU, ST, NS, I0, I1, I2, BO, FI, RG, GU, PU, MA, MN, MS, OT, SC], [256, 192, 384, 320, w, r5, 576, 640, 704], Lg)) o from key _ rfl
  intro o ho
  obtain ⟨⟨q1, Y_2⟩, zh1, h⟩ := bnd h
  have zh1 : f_Y_needPerson Y H p1 = some (q1, Y_2) := zh1
  have ze2 := R_f_Y_needPerson_3 (d + 1) Y T H2 H RV RU ST NS I0 I1 I2 BO FI RG GU PU MA MN MS OT SC w r5 L Lg p1 zh1
  cases q1 with
  | zero =>
    have h := itp h rfl
    suffices e : Ev (d + 3, 2, 16, 317, 5, [.val (.ref 64), .val (.int p1), .val (.int p2), .val a_unk], [], (126, 120, L, [Y_2, T, H2, H, RV, RU, ST, NS, I0, I1, I2, BO, FI, RG, GU, PU, MA, MN, MS, OT, SC], [256, 192, 384, 320, w, r5, 576, 640, 704], Lg)) o from ev_call (fun v μ => (d + 3, 2, 16, 317, 5, [.val (.ref 64), .val (.int p1), .val (.int p2), .val a_unk], v.toList ++ [], μ)) 3 ze2 e (fun n => Eq.refl _)
    obtain ⟨⟨q3, Y_4⟩, zh3, h⟩ := bnd h
    have zh3 : f_Y_needPerson Y_2 H p2 = some (q3, Y_4) := zh3
    have ze4 := R_f_Y_needPerson_3 (d + 1) Y_2 T H2 H RV RU ST NS I0 I1 I2 BO FI RG GU PU MA MN MS OT SC w r5 L Lg p2 zh3
    cases q3 with
    | zero =>
      have h := itp h rfl
      suffices e : Ev (d + 3, 1, 8, 317, 10, [.val (.ref 64), .val (.int p1), .val (.int p2), .val a_unk], [], (126, 120, L, [Y_4, T, H2, H, RV, RU, ST, NS, I0, I1, I2, BO, FI, RG, GU, PU, MA, MN, MS, OT, SC], [256, 192, 384, 320, w, r5, 576, 640, 704], Lg)) o from ev_call (fun v μ => (d + 3, 1, 8, 317, 10, [.val (.ref 64), .val (.int p1), .val (.int p2), .val a_unk], v.toList ++ [], μ)) 3 ze4 e (fun n => Eq.refl _)
      obtain ⟨zt5, zh6, h⟩ := bnd h
      have zj7 : ∀ (v5 : Int32), v5 = zt5 → Ev (d + 3, 1, 8, 317, 21, [.val (.ref 64), .val (.int p1), .val (.int p2), .val a_unk], [.int v5, .ref 64], (126, 120, L, [Y_4, T, H2, H, RV, RU, ST, NS, I0, I1, I2, BO, FI, RG, GU, PU, MA, MN, MS, OT, SC], [256, 192, 384, 320, w, r5, 576, 640, 704], Lg)) o := by
        intro v5 ze8
        subst ze8
        obtain ⟨⟨q6, Y_7⟩, zh9, h⟩ := bnd h
        have zh9 : f_Y_refuseUnless Y_4 v5 = some (q6, Y_7) := zh9
        have ze10 := R_f_Y_refuseUnless_3 (d + 2) Y_4 T H2 H RV RU ST NS I0 I1 I2 BO FI RG GU PU MA MN MS OT SC w r5 L Lg v5 zh9
        cases q6 with
        | zero =>
          have h := itp h rfl
          suffices e : Ev (d + 3, 0, 0, 317, 24, [.val (.ref 64), .val (.int p1), .val (.int p2), .val a_unk], [], (126, 120, L, [Y_7, T, H2, H, RV, RU, ST, NS, I0, I1, I2, BO, FI, RG, GU, PU, MA, MN, MS, OT, SC], [256, 192, 384, 320, w, r5, 576, 640, 704], Lg)) o from ev_call (fun v μ => (d + 3, 0, 0, 317, 24, [.val (.ref 64), .val (.int p1), .val (.int p2), .val a_unk], v.toList ++ [], μ)) 1 ze10 e (fun n => Eq.refl _)
          suffices e : Ev (d + 3, 0, 0, 317, 28, [.val (.ref 64), .val (.int p1), .val (.int p2), .val a_unk], [.ref 256], (126, 120, L, [Y_7, T, H2, H, RV, RU, ST, NS, I0, I1, I2, BO, FI, RG, GU, PU, MA, MN, MS, OT, SC], [256, 192, 384, 320, w, r5, 576, 640, 704], Lg)) o from ev_b 2 e (fun n => Eq.refl _)
          obtain ⟨x8, zh11, h⟩ := bnd h
          have zh11 : f_House_meetingsOf H p1 = some x8 := zh11
          have ze12 := R_f_House_meetingsOf_1 (d + 1) Y_7 T H2 H RV RU ST NS I0 I1 I2 BO FI RG GU PU MA MN MS OT SC 256 192 384 320 w r5 576 640 704 L Lg p1 zh11
          suffices e : Ev (d + 3, 0, 0, 317, 32, [.val (.ref 64), .val (.int p1), .val (.int p2), .val a_unk], [.int x8], (126, 120, L, [Y_7, T, H2, H, RV, RU, ST, NS, I0, I1, I2, BO, FI, RG, GU, PU, MA, MN, MS, OT, SC], [256, 192, 384, 320, w, r5, 576, 640, 704], Lg)) o from ev_call (fun v μ => (d + 3, 0, 0, 317, 32, [.val (.ref 64), .val (.int p1), .val (.int p2), .val a_unk], v.toList ++ [], μ)) 2 ze12 e (fun n => Eq.refl _)
          suffices e : Ev (d + 3, 0, 0, 317, 36, [.val (.ref 64), .val (.int p1), .val (.int p2), .val a_unk], [.ref 256, .int x8], (126, 120, L, [Y_7, T, H2, H, RV, RU, ST, NS, I0, I1, I2, BO, FI, RG, GU, PU, MA, MN, MS, OT, SC], [256, 192, 384, 320, w, r5, 576, 640, 704], Lg)) o from ev_b 2 e (fun n => Eq.refl _)
          obtain ⟨x9, zh13, h⟩ := bnd h
          have zh13 : f_House_meetingsOf H p2 = some x9 := zh13
          have ze14 := R_f_House_meetingsOf_1 (d + 1) Y_7 T H2 H RV RU ST NS I0 I1 I2 BO FI RG GU PU MA MN MS OT SC 256 192 384 320 w r5 576 640 704 L Lg p2 zh13
          suffices e : Ev (d + 3, 0, 0, 317, 40, [.val (.ref 64), .val (.int p1), .val (.int p2), .val a_unk], [.int x9, .int x8], (126, 120, L, [Y_7, T, H2, H, RV, RU, ST, NS, I0, I1, I2, BO, FI, RG, GU, PU, MA, MN, MS, OT, SC], [256, 192, 384, 320, w, r5, 576, 640, 704], Lg)) o from ev_call (fun v μ => (d + 3, 0, 0, 317, 40, [.val (.ref 64), .val (.int p1), .val (.int p2), .val a_unk], v.toList ++ [.int x8], μ)) 2 ze14 e (fun n => Eq.refl _)
          obtain ⟨BO_11, zh15, h⟩ := bnd h
          have zh15 : f_Y_lookNow H NS BO = some BO_11 := zh15
          have ze16 := R_f_Y_lookNow_3 (d + 0) Y_7 T H2 H RV RU ST NS I0 I1 I2 BO FI RG GU PU MA MN MS OT SC w r5 L Lg zh15
          suffices e : Ev (d + 3, 0, 0, 317, 47, [.val (.ref 64), .val (.int p1), .val (.int p2), .val (.int (x8 &&& x9))], [.ref 768, .int (x8 &&& x9)], (126, 120, L, [Y_7, T, H2, H, RV, RU, ST, NS, I0, I1, I2, BO_11, FI, RG, GU, PU, MA, MN, MS, OT, SC], [256, 192, 384, 320, w, 256, 576, 640, 704], Lg)) o from ev_call (fun v μ => (d + 3, 0, 0, 317, 47, [.val (.ref 64), .val (.int p1), .val (.int p2), .val (.int (x8 &&& x9))], v.toList ++ [.int (x8 &&& x9)], μ)) 5 ze16 e (fun n => Eq.refl _)
          obtain ⟨x12, zh17, h⟩ := bnd h
          have zh17 : f_Board_placed H BO_11 = some x12 := zh17
          have ze18 := R_f_Board_placed_1 (d + 2) Y_7 T H2 H RV RU ST NS I0 I1 I2 BO_11 FI RG GU PU MA MN MS OT SC 256 192 384 320 w 576 640 704 L Lg zh17
          suffices e : Ev (d + 3, 0, 0, 317, 50, [.val (.ref 64), .val (.int p1), .val (.int p2), .val (.int (x8 &&& x9))], [.int x12, .int (x8 &&& x9)], (126, 120, L, [Y_7, T, H2, H, RV, RU, ST, NS, I0, I1, I2, BO_11, FI, RG, GU, PU, MA, MN, MS, OT, SC], [256, 192, 384, 320, w, 256, 576, 640, 704], Lg)) o from ev_call (fun v μ => (d + 3, 0, 0, 317, 50, [.val (.ref 64), .val (.int p1), .val (.int p2), .val (.int (x8 &&& x9))], v.toList ++ [.int (x8 &&& x9)], μ)) 1 ze18 e (fun n => Eq.refl _)
          obtain ⟨x13, zh19, h⟩ := bnd h
          have zh19 : f_Integer_bitCount ((x8 &&& x9) &&& x12) = some x13 := zh19
          have ze20 := R_f_Integer_bitCount_0 (d + 2) Y_7 T H2 H RV RU ST NS I0 I1 I2 BO_11 FI RG GU PU MA MN MS OT SC 256 192 384 320 w 256 576 640 704 L Lg ((x8 &&& x9) &&& x12) zh19
          suffices e : Ev (d + 3, 0, 0, 317, 54, [.val (.ref 64), .val (.int p1), .val (.int p2), .val (.int (x8 &&& x9))], [.int x13], (126, 120, L, [Y_7, T, H2, H, RV, RU, ST, NS, I0, I1, I2, BO_11, FI, RG, GU, PU, MA, MN, MS, OT, SC], [256, 192, 384, 320, w, 256, 576, 640, 704], Lg)) o from ev_call (fun v μ => (d + 3, 0, 0, 317, 54, [.val (.ref 64), .val (.int p1), .val (.int p2), .val (.int (x8 &&& x9))], v.toList ++ [], μ)) 2 ze20 e (fun n => Eq.refl _)
          have ze21 := Option.some.inj h
          subst ze21
          exact ev_rete 1 ho (fun n => Eq.refl _)
        | succ q6 =>
          have h := itn h (Nat.succ_ne_zero q6)
          have ze22 := Option.some.inj h
          subst ze22
          subst ho
          exact ev_thr (fun v μ => (d + 3, 0, 0, 317, 24, [.val (.ref 64), .val (.int p1), .val (.int p2), .val a_unk], v.toList ++ [], μ)) 1 ze10 (fun n => Eq.refl _) (fun n => rfl)
      by_cases zc23 : p1 = p2
      · have zh6 := itp zh6 zc23
        suffices e : Ev (d + 3, 1, 8, 317, 20, [.val (.ref 64), .val (.int p1), .val (.int p2), .val a_unk], [.ref 64], (126, 120, L, [Y_4, T, H2, H, RV, RU, ST, NS, I0, I1, I2, BO, FI, RG, GU, PU, MA, MN, MS, OT, SC], [256, 192, 384, 320, w, r5, 576, 640, 704], Lg)) o from ev_t (c := p1 = p2) _ _ 4  zc23 e (fun n => Eq.refl _)
        exact ev_b 1 (zj7 0 (Option.some.inj zh6) ) (fun n => Eq.refl _)
      · have zh6 := itn zh6 zc23
        suffices e : Ev (d + 3, 1, 8, 317, 16, [.val (.ref 64), .val (.int p1), .val (.int p2), .val a_unk], [.ref 64], (126, 120, L, [Y_4, T, H2, H, RV, RU, ST, NS, I0, I1, I2, BO, FI, RG, GU, PU, MA, MN, MS, OT, SC], [256, 192, 384, 320, w, r5, 576, 640, 704], Lg)) o from ev_f (c := p1 = p2) _ _ 4  zc23 e (fun n => Eq.refl _)
        exact ev_b 2 (zj7 1 (Option.some.inj zh6) ) (fun n => Eq.refl _)
    | succ q3 =>
      have h := itn h (Nat.succ_ne_zero q3)
      have ze24 := Option.some.inj h
      subst ze24
      subst ho
      exact ev_thr (fun v μ => (d + 3, 1, 8, 317, 10, [.val (.ref 64), .val (.int p1), .val (.int p2), .val a_unk], v.toList ++ [], μ)) 3 ze4 (fun n => Eq.refl _) (fun n => rfl)
  | succ q1 =>
    have h := itn h (Nat.succ_ne_zero q1)
    have ze25 := Option.some.inj h
    subst ze25
    subst ho
    exact ev_thr (fun v μ => (d + 3, 2, 16, 317, 5, [.val (.ref 64), .val (.int p1), .val (.int p2), .val a_unk], v.toList ++ [], μ)) 3 ze2 (fun n => Eq.refl _) (fun n => rfl)
set_option maxRecDepth 1000000 in
set_option maxHeartbeats 4000000 in
theorem R_f_Board_collectCommon_0 (d : Nat) (Y T H H2 RA RB ST NS I0 I1 I2 BO FI RG GU PU MA MN MS OT SC : Nat → Nat → Int32) (r0 r1 r2 r3 w r6 r7 r8 : Nat) (L : Nat) (Lg : Int64) {r : Int32 × (Nat → Nat → Int32)} (h : f_Board_collectCommon H BO = some r) : Ev (d + 2, 0, 0, 172, 0, [.val (.ref 768), .val a_unk, .val a_unk, .val a_unk, .val a_unk, .val a_unk], [], (126, 120, L, [Y, T, H, H2, RA, RB, ST, NS, I0, I1, I2, BO, FI, RG, GU, PU, MA, MN, MS, OT, SC], [r0, r1, r2, r3, w, 192, r6, r7, r8], Lg)) ((0, some (.int r.1), (126, 120, L, [Y, T, H, H2, RA, RB, ST, NS, I0, I1, I2, r.2, FI, RG, GU, PU, MA, MN, MS, OT, SC], [r0, r1, r2, r3, w, 192, r6, r7, r8], Lg)) : AOut) := by
  suffices key : ∀ o : AOut, ((0, some (.int r.1), (126, 120, L, [Y, T, H, H2, RA, RB, ST, NS, I0, I1, I2, r.2, FI, RG, GU, PU, MA, MN, MS, OT, SC], [r0, r1, r2, r3, w, 192, r6, r7, r8], Lg)) : AOut) = o → Ev (d + 2, 0, 0, 172, 0, [.val (.ref 768), .val a_unk, .val a_unk, .val a_unk, .val a_unk, .val a_unk], [], (126, 120, L, [Y, T, H, H2, RA, RB, ST, NS, I0, I1, I2, BO, FI, RG, GU, PU, MA, MN, MS, OT, SC], [r0, r1, r2, r3, w, 192, r6, r7, r8], Lg)) o from key _ rfl
  intro o ho
  obtain ⟨x1, zh1, h⟩ := bnd h
  have zh1 : f_Board_placed H BO = some x1 := zh1
  have ze2 := R_f_Board_placed_0 (d + 1) Y T H H2 RA RB ST NS I0 I1 I2 BO FI RG GU PU MA MN MS OT SC r0 r1 r2 r3 w r6 r7 r8 L Lg zh1
  suffices e : Ev (d + 2, 0, 0, 172, 6, [.val (.ref 768), .val (.int 0), .val a_unk, .val a_unk, .val a_unk, .val a_unk], [.int x1], (126, 120, L, [Y, T, H, H2, RA, RB, ST, NS, I0, I1, I2, BO, FI, RG, GU, PU, MA, MN, MS, OT, SC], [r0, r1, r2, r3, w, 192, r6, r7, r8], Lg)) o from ev_call (fun v μ => (d + 2, 0, 0, 172, 6, [.val (.ref 768), .val (.int 0), .val a_unk, .val a_unk, .val a_unk, .val a_unk], v.toList ++ [], μ)) 4 ze2 e (fun n => Eq.refl _)
  obtain ⟨zb3, zh4, h⟩ := bnd h
  suffices e : Ev (d + 2, 0, 0, 172, 9, [.val (.ref 768), .val (.int 0), .val (.int x1), .val (.int 0), .val a_unk, .val a_unk], [], (126, 120, L, [Y, T, H, H2, RA, RB, ST, NS, I0, I1, I2, BO, FI, RG, GU, PU, MA, MN, MS, OT, SC], [r0, r1, r2, r3, w, 192, r6, r7, r8], Lg)) o from ev_b 3 e (fun n => Eq.refl _)
  refine ev_loop (δ := Value × Value) (fun a j => (d + 2, 0, 0, 172, 9, [.val (.ref 768), .val (.int a.1), .val (.int x1), .val (.int a.2.1), .val j.1, .val j.2], [], (126, 120, L, [Y, T, H, H2, RA, RB, ST, NS, I0, I1, I2, a.2.2, FI, RG, GU, PU, MA, MN, MS, OT, SC], [r0, r1, r2, r3, w, 192, r6, r7, r8], Lg))) (fun b => ∀ s19 : Value, ∀ s20 : Value, ∀ s21 : Value, Ev (d + 2, 0, 0, 172, 96, [.val (.ref 768), .val (.int b.1), .val (.int x1), .val s19, .val s20, .val s21], [], (126, 120, L, [Y, T, H, H2, RA, RB, ST, NS, I0, I1, I2, b.2, FI, RG, GU, PU, MA, MN, MS, OT, SC], [r0, r1, r2, r3, w, 192, r6, r7, r8], Lg)) o) ?_ a_F (0, 0, BO) zb3 zh4 ?_ (a_unk, a_unk)
  · rintro ⟨v2, v3, BO_6⟩ zr8 zh7 zi5 zx6 ⟨s4, s5⟩
    have zh7 : f_Board_collectCommon_l9 H x1 v2 v3 BO_6 = some zr8 := zh7
    suffices e : Ev (d + 2, 0, 0, 172, 14, [.val (.ref 768), .val (.int v2), .val (.int x1), .val (.int v3), .val s4, .val s5], [.ref 192, .int v3], (126, 120, L, [Y, T, H, H2, RA, RB, ST, NS, I0, I1, I2, BO_6, FI, RG, GU, PU, MA, MN, MS, OT, SC], [r0, r1, r2, r3, w, 192, r6, r7, r8], Lg)) o from ev_b 3 e (fun n => Eq.refl _)
    by_cases zc9 : (H 0 2) ≤ v3
    · have zh7 := itp zh7 zc9
      suffices e : Ev (d + 2, 0, 0, 172, 96, [.val (.ref 768), .val (.int v2), .val (.int x1), .val (.int v3), .val s4, .val s5], [], (126, 120, L, [Y, T, H, H2, RA, RB, ST, NS, I0, I1, I2, BO_6, FI, RG, GU, PU, MA, MN, MS, OT, SC], [r0, r1, r2, r3, w, 192, r6, r7, r8], Lg)) o from ev_t (c := (H 0 2) ≤ v3) _ _ 2  zc9 e (fun n => Eq.refl _)
      exact ev_b 0 (zx6 _ (Option.some.inj zh7).symm (.int v3) s4 s5) (fun n => Eq.refl _)
    · have zh7 := itn zh7 zc9
      suffices e : Ev (d + 2, 0, 0, 172, 20, [.val (.ref 768), .val (.int v2), .val (.int x1), .val (.int v3), .val s4, .val s5], [], (126, 120, L, [Y, T, H, H2, RA, RB, ST, NS, I0, I1, I2, BO_6, FI, RG, GU, PU, MA, MN, MS, OT, SC], [r0, r1, r2, r3, w, 192, r6, r7, r8], Lg)) o from ev_f (c := (H 0 2) ≤ v3) _ _ 2  zc9 e (fun n => Eq.refl _)
      obtain ⟨zb10, zh11, zh7⟩ := bnd zh7
      suffices e : Ev (d + 2, 0, 0, 172, 25, [.val (.ref 768), .val (.int v2), .val (.int x1), .val (.int v3), .val (.int (v3 + 1)), .val s5], [], (126, 120, L, [Y, T, H, H2, RA, RB, ST, NS, I0, I1, I2, BO_6, FI, RG, GU, PU, MA, MN, MS, OT, SC], [r0, r1, r2, r3, w, 192, r6, r7, r8], Lg)) o from ev_b 4 e (fun n => Eq.refl _)
      refine ev_loop (δ := Value) (fun a j => (d + 2, 0, 0, 172, 25, [.val (.ref 768), .val (.int a.1), .val (.int x1), .val (.int v3), .val (.int a.2.1), .val j], [], (126, 120, L, [Y, T, H, H2, RA, RB, ST, NS, I0, I1, I2, a.2.2, FI, RG, GU, PU, MA, MN, MS, OT, SC], [r0, r1, r2, r3, w, 192, r6, r7, r8], Lg))) (fun b => ∀ s15 : Value, ∀ s16 : Value, Ev (d + 2, 0, 0, 172, 90, [.val (.ref 768), .val (.int b.1), .val (.int x1), .val (.int v3), .val s15, .val s16], [], (126, 120, L, [Y, T, H, H2, RA, RB, ST, NS, I0, I1, I2, b.2, FI, RG, GU, PU, MA, MN, MS, OT, SC], [r0, r1, r2, r3, w, 192, r6, r7, r8], Lg)) o) ?_ a_F (v2, (v3 + 1), BO_6) zb10 zh11 ?_ s5
      · rintro ⟨v7, v8, BO_10⟩ zr15 zh14 zi12 zx13 s9
        have zh14 : f_Board_collectCommon_l25 H v3 x1 v7 v8 BO_10 = some zr15 := zh14
        suffices e : Ev (d + 2, 0, 0, 172, 31, [.val (.ref 768), .val (.int v7), .val (.int x1), .val (.int v3), .val (.int v8), .val s9], [.ref 192, .int v8], (126, 120, L, [Y, T, H, H2, RA, RB, ST, NS, I0, I1, I2, BO_10, FI, RG, GU, PU, MA, MN, MS, OT, SC], [r0, r1, r2, r3, w, 192, r6, r7, r8], Lg)) o from ev_b 3 e (fun n => Eq.refl _)
        by_cases zc16 : (H 0 2) ≤ v8
        · have zh14 := itp zh14 zc16
          suffices e : Ev (d + 2, 0, 0, 172, 90, [.val (.ref 768), .val (.int v7), .val (.int x1), .val (.int v3), .val (.int v8), .val s9], [], (126, 120, L, [Y, T, H, H2, RA, RB, ST, NS, I0, I1, I2, BO_10, FI, RG, GU, PU, MA, MN, MS, OT, SC], [r0, r1, r2, r3, w, 192, r6, r7, r8], Lg)) o from ev_t (c := (H 0 2) ≤ v8) _ _ 2  zc16 e (fun n => Eq.refl _)
          exact ev_b 0 (zx13 _ (Option.some.inj zh14).symm (.int v8) s9) (fun n => Eq.refl _)
        · have zh14 := itn zh14 zc16
          suffices e : Ev (d + 2, 0, 0, 172, 37, [.val (.ref 768), .val (.int v7), .val (.int x1), .val (.int v3), .val (.int v8), .val s9], [], (126, 120, L, [Y, T, H, H2, RA, RB, ST, NS, I0, I1, I2, BO_10, FI, RG, GU, PU, MA, MN, MS, OT, SC], [r0, r1, r2, r3, w, 192, r6, r7, r8], Lg)) o from ev_f (c := (H 0 2) ≤ v8) _ _ 2  zc16 e (fun n => Eq.refl _)
          suffices e : Ev (d + 2, 0, 0, 172, 41, [.val (.ref 768), .val (.int v7), .val (.int x1), .val (.int v3), .val (.int v8), .val s9], [.ref 192], (126, 120, L, [Y, T, H, H2, RA, RB, ST, NS, I0, I1, I2, BO_10, FI, RG, GU, PU, MA, MN, MS, OT, SC], [r0, r1, r2, r3, w, 192, r6, r7, r8], Lg)) o from ev_b 2 e (fun n => Eq.refl _)
          obtain ⟨x11, zh17, zh14⟩ := bnd zh14
          have zh17 : f_House_meetingsOf H v3 = some x11 := zh17
          have ze18 := R_f_House_meetingsOf_0 (d + 0) Y T H H2 RA RB ST NS I0 I1 I2 BO_10 FI RG GU PU MA MN MS OT SC r0 r1 r2 r3 w 192 r6 r7 r8 L Lg v3 zh17
          suffices e : Ev (d + 2, 0, 0, 172, 45, [.val (.ref 768), .val (.int v7), .val (.int x1), .val (.int v3), .val (.int v8), .val s9], [.int x11], (126, 120, L, [Y, T, H, H2, RA, RB, ST, NS, I0, I1, I2, BO_10, FI, RG, GU, PU, MA, MN, MS, OT, SC], [r0, r1, r2, r3, w, 192, r6, r7, r8], Lg)) o from ev_call (fun v μ => (d + 2, 0, 0, 172, 45, [.val (.ref 768), .val (.int v7), .val (.int x1), .val (.int v3), .val (.int v8), .val s9], v.toList ++ [], μ)) 2 ze18 e (fun n => Eq.refl _)
          suffices e : Ev (d + 2, 0, 0, 172, 49, [.val (.ref 768), .val (.int v7), .val (.int x1), .val (.int v3), .val (.int v8), .val s9], [.ref 192, .int x11], (126, 120, L, [Y, T, H, H2, RA, RB, ST, NS, I0, I1, I2, BO_10, FI, RG, GU, PU, MA, MN, MS, OT, SC], [r0, r1, r2, r3, w, 192, r6, r7, r8], Lg)) o from ev_b 2 e (fun n => Eq.refl _)
          obtain ⟨x12, zh19, zh14⟩ := bnd zh14
          have zh19 : f_House_meetingsOf H v8 = some x12 := zh19
          have ze20 := R_f_House_meetingsOf_0 (d + 0) Y T H H2 RA RB ST NS I0 I1 I2 BO_10 FI RG GU PU MA MN MS OT SC r0 r1 r2 r3 w 192 r6 r7 r8 L Lg v8 zh19
          suffices e : Ev (d + 2, 0, 0, 172, 54, [.val (.ref 768), .val (.int v7), .val (.int x1), .val (.int v3), .val (.int v8), .val s9], [.int x12, .int x11], (126, 120, L, [Y, T, H, H2, RA, RB, ST, NS, I0, I1, I2, BO_10, FI, RG, GU, PU, MA, MN, MS, OT, SC], [r0, r1, r2, r3, w, 192, r6, r7, r8], Lg)) o from ev_call (fun v μ => (d + 2, 0, 0, 172, 54, [.val (.ref 768), .val (.int v7), .val (.int x1), .val (.int v3), .val (.int v8), .val s9], v.toList ++ [.int x11], μ)) 2 ze20 e (fun n => Eq.refl _)
          by_cases zc21 : ((x11 &&& x12) &&& x1) = 0
          · have zh14 := itp zh14 zc21
            suffices e : Ev (d + 2, 0, 0, 172, 84, [.val (.ref 768), .val (.int v7), .val (.int x1), .val (.int v3), .val (.int v8), .val (.int ((x11 &&& x12) &&& x1))], [], (126, 120, L, [Y, T, H, H2, RA, RB, ST, NS, I0, I1, I2, BO_10, FI, RG, GU, PU, MA, MN, MS, OT, SC], [r0, r1, r2, r3, w, 192, r6, r7, r8], Lg)) o from ev_t (c := ((x11 &&& x12) &&& x1) = 0) _ _ 6  zc21 e (fun n => Eq.refl _)
            exact ev_b 2 (zi12 _ (Option.some.inj zh14).symm (.int ((x11 &&& x12) &&& x1))) (fun n => Eq.refl _)
          · have zh14 := itn zh14 zc21
            suffices e : Ev (d + 2, 0, 0, 172, 64, [.val (.ref 768), .val (.int v7), .val (.int x1), .val (.int v3), .val (.int v8), .val (.int ((x11 &&& x12) &&& x1))], [], (126, 120, L, [Y, T, H, H2, RA, RB, ST, NS, I0, I1, I2, BO_10, FI, RG, GU, PU, MA, MN, MS, OT, SC], [r0, r1, r2, r3, w, 192, r6, r7, r8], Lg)) o from ev_f (c := ((x11 &&& x12) &&& x1) = 0) _ _ 6  zc21 e (fun n => Eq.refl _)
            by_cases zc22 : (Int32.ofNat 64) ≤ v7
            · have zh14 := itp zh14 zc22
              suffices e : Ev (d + 2, 0, 0, 172, 84, [.val (.ref 768), .val (.int v7), .val (.int x1), .val (.int v3), .val (.int v8), .val (.int ((x11 &&& x12) &&& x1))], [], (126, 120, L, [Y, T, H, H2, RA, RB, ST, NS, I0, I1, I2, BO_10, FI, RG, GU, PU, MA, MN, MS, OT, SC], [r0, r1, r2, r3, w, 192, r6, r7, r8], Lg)) o from ev_t (c := (Int32.ofNat 64) ≤ v7) _ _ 5  zc22 e (fun n => Eq.refl _)
              exact ev_b 2 (zi12 _ (Option.some.inj zh14).symm (.int ((x11 &&& x12) &&& x1))) (fun n => Eq.refl _)
            · have zh14 := itn zh14 zc22
              suffices e : Ev (d + 2, 0, 0, 172, 73, [.val (.ref 768), .val (.int v7), .val (.int x1), .val (.int v3), .val (.int v8), .val (.int ((x11 &&& x12) &&& x1))], [], (126, 120, L, [Y, T, H, H2, RA, RB, ST, NS, I0, I1, I2, BO_10, FI, RG, GU, PU, MA, MN, MS, OT, SC], [r0, r1, r2, r3, w, 192, r6, r7, r8], Lg)) o from ev_f (c := (Int32.ofNat 64) ≤ v7) _ _ 5  zc22 e (fun n => Eq.refl _)
              obtain ⟨j13, zh23, zh14⟩ := bnd zh14
              have zh23 : ixx 64 v7 = some j13 := zh23
              suffices e : Ev (d + 2, 0, 0, 172, 81, [.val (.ref 768), .val (.int v7), .val (.int x1), .val (.int v3), .val (.int v8), .val (.int ((x11 &&& x12) &&& x1))], [], (126, 120, L, [Y, T, H, H2, RA, RB, ST, NS, I0, I1, I2, (u2 BO_10 4 j13 ((x11 &&& x12) &&& x1)), FI, RG, GU, PU, MA, MN, MS, OT, SC], [r0, r1, r2, r3, w, 192, r6, r7, r8], Lg)) o from ev_opt (fun j13 => (d + 2, 0, 0, 172, 81, [.val (.ref 768), .val (.int v7), .val (.int x1), .val (.int v3), .val (.int v8), .val (.int ((x11 &&& x12) &&& x1))], [], (126, 120, L, [Y, T, H, H2, RA, RB, ST, NS, I0, I1, I2, (u2 BO_10 4 j13 ((x11 &&& x12) &&& x1)), FI, RG, GU, PU, MA, MN, MS, OT, SC], [r0, r1, r2, r3, w, 192, r6, r7, r8], Lg))) 5 zh23 e (fun n => Eq.refl _)
              exact ev_b 3 (zi12 _ (Option.some.inj zh14).symm (.int ((x11 &&& x12) &&& x1))) (fun n => Eq.refl _)
      · obtain ⟨v14, BO_17⟩ := zb10
        intro s15 s16
        exact ev_b 2 (zi5 _ (Option.some.inj zh7).symm (s15, s16)) (fun n => Eq.refl _)
  · obtain ⟨v18, BO_22⟩ := zb3
    intro s19 s20 s21
    have ze24 := Option.some.inj h
    subst ze24
    exact ev_rete 2 ho (fun n => Eq.refl _)
set_option maxRecDepth 1000000 in
set_option maxHeartbeats 4000000 in
theorem R_f_Board_pairsKeptWithout_0 (d : Nat) (Y T H H2 RA RB ST NS I0 I1 I2 BO FI RG GU PU MA MN MS OT SC : Nat → Nat → Int32) (r0 r1 r2 r3 w r6 r7 r8 : Nat) (L : Nat) (Lg : Int64) (p1 : Int32) (p2 : Int32) {r : Int32} (h : f_Board_pairsKeptWithout BO p1 p2 = some r) : Ev (d + 0, 0, 0, 173, 0, [.val (.ref 768), .val (.int p1), .val (.int p2), .val a_unk], [], (126, 120, L, [Y, T, H, H2, RA, RB, ST, NS, I0, I1, I2, BO, FI, RG, GU, PU, MA, MN, MS, OT, SC], [r0, r1, r2, r3, w, 192, r6, r7, r8], Lg)) ((0, some (.int r), (126, 120, L, [Y, T, H, H2, RA, RB, ST, NS, I0, I1, I2, BO, FI, RG, GU, PU, MA, MN, MS, OT, SC], [r0, r1, r2, r3, w, 192, r6, r7, r8], Lg)) : AOut) := by
  suffices key : ∀ o : AOut, ((0, some (.int r), (126, 120, L, [Y, T, H, H2, RA, RB, ST, NS, I0, I1, I2, BO, FI, RG, GU, PU, MA, MN, MS, OT, SC], [r0, r1, r2, r3, w, 192, r6, r7, r8], Lg)) : AOut) = o → Ev (d + 0, 0, 0, 173, 0, [.val (.ref 768), .val (.int p1), .val (.int p2), .val a_unk], [], (126, 120, L, [Y, T, H, H2, RA, RB, ST, NS, I0, I1, I2, BO, FI, RG, GU, PU, MA, MN, MS, OT, SC], [r0, r1, r2, r3, w, 192, r6, r7, r8], Lg)) o from key _ rfl
  intro o ho
  obtain ⟨zb1, zh2, h⟩ := bnd h
  suffices e : Ev (d + 0, 0, 0, 173, 2, [.val (.ref 768), .val (.int p1), .val (.int p2), .val (.int 0)], [], (126, 120, L, [Y, T, H, H2, RA, RB, ST, NS, I0, I1, I2, BO, FI, RG, GU, PU, MA, MN, MS, OT, SC], [r0, r1, r2, r3, w, 192, r6, r7, r8], Lg)) o from ev_b 2 e (fun n => Eq.refl _)
  refine ev_loop (δ := Unit) (fun a j => (d + 0, 0, 0, 173, 2, [.val (.ref 768), .val (.int p1), .val (.int p2), .val (.int a)], [], (126, 120, L, [Y, T, H, H2, RA, RB, ST, NS, I0, I1, I2, BO, FI, RG, GU, PU, MA, MN, MS, OT, SC], [r0, r1, r2, r3, w, 192, r6, r7, r8], Lg))) (fun b => sumE b (fun b => ∀ s3 : Value, Ev (d + 0, 0, 0, 173, 37, [.val (.ref 768), .val (.int p1), .val (.int p2), .val s3], [], (126, 120, L, [Y, T, H, H2, RA, RB, ST, NS, I0, I1, I2, BO, FI, RG, GU, PU, MA, MN, MS, OT, SC], [r0, r1, r2, r3, w, 192, r6, r7, r8], Lg)) o) (fun b => ((0, some (.int b), (126, 120, L, [Y, T, H, H2, RA, RB, ST, NS, I0, I1, I2, BO, FI, RG, GU, PU, MA, MN, MS, OT, SC], [r0, r1, r2, r3, w, 192, r6, r7, r8], Lg)) : AOut) = o)) ?_ a_F 0 zb1 zh2 ?_ ()
  · rintro v1 zr6 zh5 zi3 zx4 ⟨⟩
    have zh5 : f_Board_pairsKeptWithout_l2 BO p2 p1 v1 = some zr6 := zh5
    by_cases zc7 : p2 ≤ v1
    · have zh5 := itp zh5 zc7
      suffices e : Ev (d + 0, 0, 0, 173, 37, [.val (.ref 768), .val (.int p1), .val (.int p2), .val (.int v1)], [], (126, 120, L, [Y, T, H, H2, RA, RB, ST, NS, I0, I1, I2, BO, FI, RG, GU, PU, MA, MN, MS, OT, SC], [r0, r1, r2, r3, w, 192, r6, r7, r8], Lg)) o from ev_t (c := p2 ≤ v1) _ _ 3  zc7 e (fun n => Eq.refl _)
      exact ev_b 0 (zx4 _ (Option.some.inj zh5).symm (.int v1)) (fun n => Eq.refl _)
    · have zh5 := itn zh5 zc7
      suffices e : Ev (d + 0, 0, 0, 173, 7, [.val (.ref 768), .val (.int p1), .val (.int p2), .val (.int v1)], [], (126, 120, L, [Y, T, H, H2, RA, RB, ST, NS, I0, I1, I2, BO, FI, RG, GU, PU, MA, MN, MS, OT, SC], [r0, r1, r2, r3, w, 192, r6, r7, r8], Lg)) o from ev_f (c := p2 ≤ v1) _ _ 3  zc7 e (fun n => Eq.refl _)
      by_cases zc8 : (Int32.ofNat 64) ≤ v1
      · have zh5 := itp zh5 zc8
        suffices e : Ev (d + 0, 0, 0, 173, 37, [.val (.ref 768), .val (.int p1), .val (.int p2), .val (.int v1)], [], (126, 120, L, [Y, T, H, H2, RA, RB, ST, NS, I0, I1, I2, BO, FI, RG, GU, PU, MA, MN, MS, OT, SC], [r0, r1, r2, r3, w, 192, r6, r7, r8], Lg)) o from ev_t (c := (Int32.ofNat 64) ≤ v1) _ _ 5  zc8 e (fun n => Eq.refl _)
        exact ev_b 0 (zx4 _ (Option.some.inj zh5).symm (.int v1)) (fun n => Eq.refl _)
      · have zh5 := itn zh5 zc8
        suffices e : Ev (d + 0, 0, 0, 173, 16, [.val (.ref 768), .val (.int p1), .val (.int p2), .val (.int v1)], [], (126, 120, L, [Y, T, H, H2, RA, RB, ST, NS, I0, I1, I2, BO, FI, RG, GU, PU, MA, MN, MS, OT, SC], [r0, r1, r2, r3, w, 192, r6, r7, r8], Lg)) o from ev_f (c := (Int32.ofNat 64) ≤ v1) _ _ 5  zc8 e (fun n => Eq.refl _)
        obtain ⟨x2, zh9, zh5⟩ := bnd zh5
        have zh9 : rdx (BO 4) 64 v1 = some x2 := zh9
        suffices e : Ev (d + 0, 0, 0, 173, 22, [.val (.ref 768), .val (.int p1), .val (.int p2), .val (.int v1)], [.int x2], (126, 120, L, [Y, T, H, H2, RA, RB, ST, NS, I0, I1, I2, BO, FI, RG, GU, PU, MA, MN, MS, OT, SC], [r0, r1, r2, r3, w, 192, r6, r7, r8], Lg)) o from ev_opt (fun x2 => (d + 0, 0, 0, 173, 22, [.val (.ref 768), .val (.int p1), .val (.int p2), .val (.int v1)], [.int x2], (126, 120, L, [Y, T, H, H2, RA, RB, ST, NS, I0, I1, I2, BO, FI, RG, GU, PU, MA, MN, MS, OT, SC], [r0, r1, r2, r3, w, 192, r6, r7, r8], Lg))) 4 zh9 e (fun n => Eq.refl _)
        by_cases zc10 : (x2 &&& (p1 ^^^ (-1))) ≠ 0
        · have zh5 := itp zh5 zc10
          suffices e : Ev (d + 0, 0, 0, 173, 31, [.val (.ref 768), .val (.int p1), .val (.int p2), .val (.int v1)], [], (126, 120, L, [Y, T, H, H2, RA, RB, ST, NS, I0, I1, I2, BO, FI, RG, GU, PU, MA, MN, MS, OT, SC], [r0, r1, r2, r3, w, 192, r6, r7, r8], Lg)) o from ev_t (c := (x2 &&& (p1 ^^^ (-1))) ≠ 0) _ _ 5  zc10 e (fun n => Eq.refl _)
          exact ev_b 2 (zi3 _ (Option.some.inj zh5).symm ()) (fun n => Eq.refl _)
        · have zh5 := itn zh5 zc10
          suffices e : Ev (d + 0, 0, 0, 173, 29, [.val (.ref 768), .val (.int p1), .val (.int p2), .val (.int v1)], [], (126, 120, L, [Y, T, H, H2, RA, RB, ST, NS, I0, I1, I2, BO, FI, RG, GU, PU, MA, MN, MS, OT, SC], [r0, r1, r2, r3, w, 192, r6, r7, r8], Lg)) o from ev_f (c := (x2 &&& (p1 ^^^ (-1))) ≠ 0) _ _ 5  zc10 e (fun n => Eq.refl _)
          exact ev_rete 2 (zx4 _ (Option.some.inj zh5).symm) (fun n => Eq.refl _)
  · rcases zb1 with ⟨⟩ | zr6
    · intro s3
      have ze11 := Option.some.inj h
      subst ze11
      exact ev_rete 2 ho (fun n => Eq.refl _)
    · have zh12 : some zr6 = some r := h
      exact (congrArg (fun q => ((0, some (.int q), (126, 120, L, [Y, T, H, H2, RA, RB, ST, NS, I0, I1, I2, BO, FI, RG, GU, PU, MA, MN, MS, OT, SC], [r0, r1, r2, r3, w, 192, r6, r7, r8], Lg)) : AOut)) (Option.some.inj zh12)).trans ho
set_option maxRecDepth 1000000 in
set_option maxHeartbeats 4000000 in
theorem R_f_Board_mostDrops_0 (d : Nat) (Y T H H2 RA RB ST NS I0 I1 I2 BO FI RG GU PU MA MN MS OT SC : Nat → Nat → Int32) (r0 r1 r2 r3 w r6 r7 r8 : Nat) (L : Nat) (Lg : Int64) {r : Int32 × (Nat → Nat → Int32)} (h : f_Board_mostDrops H BO = some r) : Ev (d + 3, 0, 0, 171, 0, [.val (.ref 768), .val a_unk, .val a_unk, .val a_unk, .val a_unk, .val a_unk], [], (126, 120, L, [Y, T, H, H2, RA, RB, ST, NS, I0, I1, I2, BO, FI, RG, GU, PU, MA, MN, MS, OT, SC], [r0, r1, r2, r3, w, 192, r6, r7, r8], Lg)) ((0, some (.int r.1), (126, 120, L, [Y, T, H, H2, RA, RB, ST, NS, I0, I1, I2, r.2, FI, RG, GU, PU, MA, MN, MS, OT, SC], [r0, r1, r2, r3, w, 192, r6, r7, r8], Lg)) : AOut) := by
  suffices key : ∀ o : AOut, ((0, some (.int r.1), (126, 120, L, [Y, T, H, H2, RA, RB, ST, NS, I0, I1, I2, r.2, FI, RG, GU, PU, MA, MN, MS, OT, SC], [r0, r1, r2, r3, w, 192, r6, r7, r8], Lg)) : AOut) = o → Ev (d + 3, 0, 0, 171, 0, [.val (.ref 768), .val a_unk, .val a_unk, .val a_unk, .val a_unk, .val a_unk], [], (126, 120, L, [Y, T, H, H2, RA, RB, ST, NS, I0, I1, I2, BO, FI, RG, GU, PU, MA, MN, MS, OT, SC], [r0, r1, r2, r3, w, 192, r6, r7, r8], Lg)) o from key _ rfl
  intro o ho
  obtain ⟨⟨x1, BO_2⟩, zh1, h⟩ := bnd h
  have zh1 : f_Board_collectCommon H BO = some (x1, BO_2) := zh1
  have ze2 := R_f_Board_collectCommon_0 (d + 0) Y T H H2 RA RB ST NS I0 I1 I2 BO FI RG GU PU MA MN MS OT SC r0 r1 r2 r3 w r6 r7 r8 L Lg zh1
  suffices e : Ev (d + 3, 0, 0, 171, 4, [.val (.ref 768), .val a_unk, .val a_unk, .val a_unk, .val a_unk, .val a_unk], [.int x1], (126, 120, L, [Y, T, H, H2, RA, RB, ST, NS, I0, I1, I2, BO_2, FI, RG, GU, PU, MA, MN, MS, OT, SC], [r0, r1, r2, r3, w, 192, r6, r7, r8], Lg)) o from ev_call (fun v μ => (d + 3, 0, 0, 171, 4, [.val (.ref 768), .val a_unk, .val a_unk, .val a_unk, .val a_unk, .val a_unk], v.toList ++ [], μ)) 2 ze2 e (fun n => Eq.refl _)
  obtain ⟨x3, zh3, h⟩ := bnd h
  have zh3 : f_Board_placed H BO_2 = some x3 := zh3
  have ze4 := R_f_Board_placed_0 (d + 2) Y T H H2 RA RB ST NS I0 I1 I2 BO_2 FI RG GU PU MA MN MS OT SC r0 r1 r2 r3 w r6 r7 r8 L Lg zh3
  suffices e : Ev (d + 3, 0, 0, 171, 9, [.val (.ref 768), .val (.int x1), .val a_unk, .val a_unk, .val a_unk, .val a_unk], [.int x3], (126, 120, L, [Y, T, H, H2, RA, RB, ST, NS, I0, I1, I2, BO_2, FI, RG, GU, PU, MA, MN, MS, OT, SC], [r0, r1, r2, r3, w, 192, r6, r7, r8], Lg)) o from ev_call (fun v μ => (d + 3, 0, 0, 171, 9, [.val (.ref 768), .val (.int x1), .val a_unk, .val a_unk, .val a_unk, .val a_unk], v.toList ++ [], μ)) 3 ze4 e (fun n => Eq.refl _)
  suffices e : Ev (d + 3, 0, 0, 171, 13, [.val (.ref 768), .val (.int x1), .val a_unk, .val a_unk, .val a_unk, .val a_unk], [.ref 192, .int x3], (126, 120, L, [Y, T, H, H2, RA, RB, ST, NS, I0, I1, I2, BO_2, FI, RG, GU, PU, MA, MN, MS, OT, SC], [r0, r1, r2, r3, w, 192, r6, r7, r8], Lg)) o from ev_b 2 e (fun n => Eq.refl _)
  obtain ⟨v11, zh6, h⟩ := bnd h
  suffices e : Ev (d + 3, 0, 0, 171, 25, [.val (.ref 768), .val (.int x1), .val (.int (x3 &&& ((H 0 5) ^^^ (-1)))), .val (.int 0), .val (.int 1), .val a_unk], [], (126, 120, L, [Y, T, H, H2, RA, RB, ST, NS, I0, I1, I2, BO_2, FI, RG, GU, PU, MA, MN, MS, OT, SC], [r0, r1, r2, r3, w, 192, r6, r7, r8], Lg)) o from ev_b 9 e (fun n => Eq.refl _)
  refine ev_loop (δ := Value) (fun a j => (d + 3, 0, 0, 171, 25, [.val (.ref 768), .val (.int x1), .val (.int (x3 &&& ((H 0 5) ^^^ (-1)))), .val (.int a.1), .val (.int a.2), .val j], [], (126, 120, L, [Y, T, H, H2, RA, RB, ST, NS, I0, I1, I2, BO_2, FI, RG, GU, PU, MA, MN, MS, OT, SC], [r0, r1, r2, r3, w, 192, r6, r7, r8], Lg))) (fun b => ∀ s12 : Value, ∀ s13 : Value, Ev (d + 3, 0, 0, 171, 91, [.val (.ref 768), .val (.int x1), .val (.int (x3 &&& ((H 0 5) ^^^ (-1)))), .val (.int b), .val s12, .val s13], [], (126, 120, L, [Y, T, H, H2, RA, RB, ST, NS, I0, I1, I2, BO_2, FI, RG, GU, PU, MA, MN, MS, OT, SC], [r0, r1, r2, r3, w, 192, r6, r7, r8], Lg)) o) ?_ a_F (0, 1) v11 zh6 ?_ a_unk
  · rintro ⟨v4, v5⟩ zr10 zh9 zi7 zx8 s6
    have zh9 : f_Board_mostDrops_l25 H x3 BO_2 x1 v4 v5 = some zr10 := zh9
    suffices e : Ev (d + 3, 0, 0, 171, 32, [.val (.ref 768), .val (.int x1), .val (.int (x3 &&& ((H 0 5) ^^^ (-1)))), .val (.int v4), .val (.int v5), .val s6], [.ref 192, .int 1, .int v5], (126, 120, L, [Y, T, H, H2, RA, RB, ST, NS, I0, I1, I2, BO_2, FI, RG, GU, PU, MA, MN, MS, OT, SC], [r0, r1, r2, r3, w, 192, r6, r7, r8], Lg)) o from ev_b 4 e (fun n => Eq.refl _)
    by_cases zc11 : (a_shl 1 (H 0 3)) ≤ v5
    · have zh9 := itp zh9 zc11
      suffices e : Ev (d + 3, 0, 0, 171, 91, [.val (.ref 768), .val (.int x1), .val (.int (x3 &&& ((H 0 5) ^^^ (-1)))), .val (.int v4), .val (.int v5), .val s6], [], (126, 120, L, [Y, T, H, H2, RA, RB, ST, NS, I0, I1, I2, BO_2, FI, RG, GU, PU, MA, MN, MS, OT, SC], [r0, r1, r2, r3, w, 192, r6, r7, r8], Lg)) o from ev_t (c := (a_shl 1 (H 0 3)) ≤ v5) _ _ 3  zc11 e (fun n => Eq.refl _)
      exact ev_b 0 (zx8 _ (Option.some.inj zh9).symm (.int v5) s6) (fun n => Eq.refl _)
    · have zh9 := itn zh9 zc11
      suffices e : Ev (d + 3, 0, 0, 171, 39, [.val (.ref 768), .val (.int x1), .val (.int (x3 &&& ((H 0 5) ^^^ (-1)))), .val (.int v4), .val (.int v5), .val s6], [], (126, 120, L, [Y, T, H, H2, RA, RB, ST, NS, I0, I1, I2, BO_2, FI, RG, GU, PU, MA, MN, MS, OT, SC], [r0, r1, r2, r3, w, 192, r6, r7, r8], Lg)) o from ev_f (c := (a_shl 1 (H 0 3)) ≤ v5) _ _ 3  zc11 e (fun n => Eq.refl _)
      obtain ⟨x7, zh12, zh9⟩ := bnd zh9
      have zh12 : f_Integer_bitCount v5 = some x7 := zh12
      have ze13 := R_f_Integer_bitCount_0 (d + 2) Y T H H2 RA RB ST NS I0 I1 I2 BO_2 FI RG GU PU MA MN MS OT SC r0 r1 r2 r3 w 192 r6 r7 r8 L Lg v5 zh12
      suffices e : Ev (d + 3, 0, 0, 171, 44, [.val (.ref 768), .val (.int x1), .val (.int (x3 &&& ((H 0 5) ^^^ (-1)))), .val (.int v4), .val (.int v5), .val s6], [.int x7], (126, 120, L, [Y, T, H, H2, RA, RB, ST, NS, I0, I1, I2, BO_2, FI, RG, GU, PU, MA, MN, MS, OT, SC], [r0, r1, r2, r3, w, 192, r6, r7, r8], Lg)) o from ev_call (fun v μ => (d + 3, 0, 0, 171, 44, [.val (.ref 768), .val (.int x1), .val (.int (x3 &&& ((H 0 5) ^^^ (-1)))), .val (.int v4), .val (.int v5), .val s6], v.toList ++ [], μ)) 2 ze13 e (fun n => Eq.refl _)
      obtain ⟨x8, zh14, zh9⟩ := bnd zh9
      have zh14 : f_Integer_bitCount v4 = some x8 := zh14
      have ze15 := R_f_Integer_bitCount_0 (d + 2) Y T H H2 RA RB ST NS I0 I1 I2 BO_2 FI RG GU PU MA MN MS OT SC r0 r1 r2 r3 w 192 r6 r7 r8 L Lg v4 zh14
      suffices e : Ev (d + 3, 0, 0, 171, 48, [.val (.ref 768), .val (.int x1), .val (.int (x3 &&& ((H 0 5) ^^^ (-1)))), .val (.int v4), .val (.int v5), .val s6], [.int x8, .int x7], (126, 120, L, [Y, T, H, H2, RA, RB, ST, NS, I0, I1, I2, BO_2, FI, RG, GU, PU, MA, MN, MS, OT, SC], [r0, r1, r2, r3, w, 192, r6, r7, r8], Lg)) o from ev_call (fun v μ => (d + 3, 0, 0, 171, 48, [.val (.ref 768), .val (.int x1), .val (.int (x3 &&& ((H 0 5) ^^^ (-1)))), .val (.int v4), .val (.int v5), .val s6], v.toList ++ [.int x7], μ)) 2 ze15 e (fun n => Eq.refl _)
      obtain ⟨zt16, zh17, zh9⟩ := bnd zh9
      have zj18 : ∀ (v9 : Int32), v9 = zt16 → Ev (d + 3, 0, 0, 171, 56, [.val (.ref 768), .val (.int x1), .val (.int (x3 &&& ((H 0 5) ^^^ (-1)))), .val (.int v4), .val (.int v5), .val s6], [.int v9], (126, 120, L, [Y, T, H, H2, RA, RB, ST, NS, I0, I1, I2, BO_2, FI, RG, GU, PU, MA, MN, MS, OT, SC], [r0, r1, r2, r3, w, 192, r6, r7, r8], Lg)) o := by
        intro v9 ze19
        subst ze19
        by_cases zc20 : (v5 &&& ((x3 &&& ((H 0 5) ^^^ (-1))) ^^^ (-1))) ≠ 0
        · have zh9 := itp zh9 zc20
          suffices e : Ev (d + 3, 0, 0, 171, 85, [.val (.ref 768), .val (.int x1), .val (.int (x3 &&& ((H 0 5) ^^^ (-1)))), .val (.int v4), .val (.int v5), .val (.int v9)], [], (126, 120, L, [Y, T, H, H2, RA, RB, ST, NS, I0, I1, I2, BO_2, FI, RG, GU, PU, MA, MN, MS, OT, SC], [r0, r1, r2, r3, w, 192, r6, r7, r8], Lg)) o from ev_t (c := (v5 &&& ((x3 &&& ((H 0 5) ^^^ (-1))) ^^^ (-1))) ≠ 0) _ _ 7  zc20 e (fun n => Eq.refl _)
          exact ev_b 2 (zi7 _ (Option.some.inj zh9).symm (.int v9)) (fun n => Eq.refl _)
        · have zh9 := itn zh9 zc20
          suffices e : Ev (d + 3, 0, 0, 171, 67, [.val (.ref 768), .val (.int x1), .val (.int (x3 &&& ((H 0 5) ^^^ (-1)))), .val (.int v4), .val (.int v5), .val (.int v9)], [], (126, 120, L, [Y, T, H, H2, RA, RB, ST, NS, I0, I1, I2, BO_2, FI, RG, GU, PU, MA, MN, MS, OT, SC], [r0, r1, r2, r3, w, 192, r6, r7, r8], Lg)) o from ev_f (c := (v5 &&& ((x3 &&& ((H 0 5) ^^^ (-1))) ^^^ (-1))) ≠ 0) _ _ 7  zc20 e (fun n => Eq.refl _)
          by_cases zc21 : v9 = 0
          · have zh9 := itp zh9 zc21
            suffices e : Ev (d + 3, 0, 0, 171, 85, [.val (.ref 768), .val (.int x1), .val (.int (x3 &&& ((H 0 5) ^^^ (-1)))), .val (.int v4), .val (.int v5), .val (.int v9)], [], (126, 120, L, [Y, T, H, H2, RA, RB, ST, NS, I0, I1, I2, BO_2, FI, RG, GU, PU, MA, MN, MS, OT, SC], [r0, r1, r2, r3, w, 192, r6, r7, r8], Lg)) o from ev_t (c := v9 = 0) _ _ 2  zc21 e (fun n => Eq.refl _)
            exact ev_b 2 (zi7 _ (Option.some.inj zh9).symm (.int v9)) (fun n => Eq.refl _)
          · have zh9 := itn zh9 zc21
            suffices e : Ev (d + 3, 0, 0, 171, 72, [.val (.ref 768), .val (.int x1), .val (.int (x3 &&& ((H 0 5) ^^^ (-1)))), .val (.int v4), .val (.int v5), .val (.int v9)], [], (126, 120, L, [Y, T, H, H2, RA, RB, ST, NS, I0, I1, I2, BO_2, FI, RG, GU, PU, MA, MN, MS, OT, SC], [r0, r1, r2, r3, w, 192, r6, r7, r8], Lg)) o from ev_f (c := v9 = 0) _ _ 2  zc21 e (fun n => Eq.refl _)
            obtain ⟨x10, zh22, zh9⟩ := bnd zh9
            have zh22 : f_Board_pairsKeptWithout BO_2 v5 x1 = some x10 := zh22
            have ze23 := R_f_Board_pairsKeptWithout_0 (d + 2) Y T H H2 RA RB ST NS I0 I1 I2 BO_2 FI RG GU PU MA MN MS OT SC r0 r1 r2 r3 w r6 r7 r8 L Lg v5 x1 zh22
            suffices e : Ev (d + 3, 0, 0, 171, 79, [.val (.ref 768), .val (.int x1), .val (.int (x3 &&& ((H 0 5) ^^^ (-1)))), .val (.int v4), .val (.int v5), .val (.int v9)], [.int x10], (126, 120, L, [Y, T, H, H2, RA, RB, ST, NS, I0, I1, I2, BO_2, FI, RG, GU, PU, MA, MN, MS, OT, SC], [r0, r1, r2, r3, w, 192, r6, r7, r8], Lg)) o from ev_call (fun v μ => (d + 3, 0, 0, 171, 79, [.val (.ref 768), .val (.int x1), .val (.int (x3 &&& ((H 0 5) ^^^ (-1)))), .val (.int v4), .val (.int v5), .val (.int v9)], v.toList ++ [], μ)) 4 ze23 e (fun n => Eq.refl _)
            by_cases zc24 : x10 = 0
            · have zh9 := itp zh9 zc24
              suffices e : Ev (d + 3, 0, 0, 171, 85, [.val (.ref 768), .val (.int x1), .val (.int (x3 &&& ((H 0 5) ^^^ (-1)))), .val (.int v4), .val (.int v5), .val (.int v9)], [], (126, 120, L, [Y, T, H, H2, RA, RB, ST, NS, I0, I1, I2, BO_2, FI, RG, GU, PU, MA, MN, MS, OT, SC], [r0, r1, r2, r3, w, 192, r6, r7, r8], Lg)) o from ev_t (c := x10 = 0) _ _ 1  zc24 e (fun n => Eq.refl _)
              exact ev_b 2 (zi7 _ (Option.some.inj zh9).symm (.int v9)) (fun n => Eq.refl _)
            · have zh9 := itn zh9 zc24
              suffices e : Ev (d + 3, 0, 0, 171, 82, [.val (.ref 768), .val (.int x1), .val (.int (x3 &&& ((H 0 5) ^^^ (-1)))), .val (.int v4), .val (.int v5), .val (.int v9)], [], (126, 120, L, [Y, T, H, H2, RA, RB, ST, NS, I0, I1, I2, BO_2, FI, RG, GU, PU, MA, MN, MS, OT, SC], [r0, r1, r2, r3, w, 192, r6, r7, r8], Lg)) o from ev_f (c := x10 = 0) _ _ 1  zc24 e (fun n => Eq.refl _)
              exact ev_b 4 (zi7 _ (Option.some.inj zh9).symm (.int v9)) (fun n => Eq.refl _)
      by_cases zc25 : x7 ≤ x8
      · have zh17 := itp zh17 zc25
        suffices e : Ev (d + 3, 0, 0, 171, 55, [.val (.ref 768), .val (.int x1), .val (.int (x3 &&& ((H 0 5) ^^^ (-1)))), .val (.int v4), .val (.int v5), .val s6], [], (126, 120, L, [Y, T, H, H2, RA, RB, ST, NS, I0, I1, I2, BO_2, FI, RG, GU, PU, MA, MN, MS, OT, SC], [r0, r1, r2, r3, w, 192, r6, r7, r8], Lg)) o from ev_t (c := x7 ≤ x8) _ _ 1  zc25 e (fun n => Eq.refl _)
        exact ev_b 1 (zj18 0 (Option.some.inj zh17) ) (fun n => Eq.refl _)
      · have zh17 := itn zh17 zc25
        suffices e : Ev (d + 3, 0, 0, 171, 51, [.val (.ref 768), .val (.int x1), .val (.int (x3 &&& ((H 0 5) ^^^ (-1)))), .val (.int v4), .val (.int v5), .val s6], [], (126, 120, L, [Y, T, H, H2, RA, RB, ST, NS, I0, I1, I2, BO_2, FI, RG, GU, PU, MA, MN, MS, OT, SC], [r0, r1, r2, r3, w, 192, r6, r7, r8], Lg)) o from ev_f (c := x7 ≤ x8) _ _ 1  zc25 e (fun n => Eq.refl _)
        exact ev_b 2 (zj18 1 (Option.some.inj zh17) ) (fun n => Eq.refl _)
  · skip
    intro s12 s13
    have ze26 := Option.some.inj h
    subst ze26
    exact ev_rete 2 ho (fun n => Eq.refl _)
set_option maxRecDepth 1000000 in
set_option maxHeartbeats 4000000 in
theorem R_f_Y_drops_0 (d : Nat) (Y T H H2 RU RV ST NS I0 I1 I2 BO FI RG GU PU MA MN MS OT SC : Nat → Nat → Int32) (w r5 : Nat) (L : Nat) (Lg : Int64) {r : Int32 × (Nat → Nat → Int32)} (h : f_Y_drops H NS BO = some r) : Ev (d + 4, 0, 0, 318, 0, [.val (.ref 64)], [], (126, 120, L, [Y, T, H, H2, RU, RV, ST, NS, I0, I1, I2, BO, FI, RG, GU, PU, MA, MN, MS, OT, SC], [192, 256, 320, 384, w, r5, 576, 640, 704], Lg)) ((0, some (.int r.1), (126, 120, L, [Y, T, H, H2, RU, RV, ST, NS, I0, I1, I2, r.2, FI, RG, GU, PU, MA, MN, MS, OT, SC], [192, 256, 320, 384, w, 192, 576, 640, 704], Lg)) : AOut) := by
  suffices key : ∀ o : AOut, ((0, some (.int r.1), (126, 120, L, [Y, T, H, H2, RU, RV, ST, NS, I0, I1, I2, r.2, FI, RG, GU, PU, MA, MN, MS, OT, SC], [192, 256, 320, 384, w, 192, 576, 640, 704], Lg)) : AOut) = o → Ev (d + 4, 0, 0, 318, 0, [.val (.ref 64)], [], (126, 120, L, [Y, T, H, H2, RU, RV, ST, NS, I0, I1, I2, BO, FI, RG, GU, PU, MA, MN, MS, OT, SC], [192, 256, 320, 384, w, r5, 576, 640, 704], Lg)) o from key _ rfl
  intro o ho
  obtain ⟨BO_2, zh1, h⟩ := bnd h
  have zh1 : f_Y_lookNow H NS BO = some BO_2 := zh1
  have ze2 := R_f_Y_lookNow_0 (d + 1) Y T H H2 RU RV ST NS I0 I1 I2 BO FI RG GU PU MA MN MS OT SC w r5 L Lg zh1
  suffices e : Ev (d + 4, 0, 0, 318, 4, [.val (.ref 64)], [.ref 768], (126, 120, L, [Y, T, H, H2, RU, RV, ST, NS, I0, I1, I2, BO_2, FI, RG, GU, PU, MA, MN, MS, OT, SC], [192, 256, 320, 384, w, 192, 576, 640, 704], Lg)) o from ev_call (fun v μ => (d + 4, 0, 0, 318, 4, [.val (.ref 64)], v.toList ++ [], μ)) 2 ze2 e (fun n => Eq.refl _)
  obtain ⟨⟨x3, BO_4⟩, zh3, h⟩ := bnd h
  have zh3 : f_Board_mostDrops H BO_2 = some (x3, BO_4) := zh3
  have ze4 := R_f_Board_mostDrops_0 (d + 0) Y T H H2 RU RV ST NS I0 I1 I2 BO_2 FI RG GU PU MA MN MS OT SC 192 256 320 384 w 576 640 704 L Lg zh3
  suffices e : Ev (d + 4, 0, 0, 318, 7, [.val (.ref 64)], [.int x3], (126, 120, L, [Y, T, H, H2, RU, RV, ST, NS, I0, I1, I2, BO_4, FI, RG, GU, PU, MA, MN, MS, OT, SC], [192, 256, 320, 384, w, 192, 576, 640, 704], Lg)) o from ev_call (fun v μ => (d + 4, 0, 0, 318, 7, [.val (.ref 64)], v.toList ++ [], μ)) 1 ze4 e (fun n => Eq.refl _)
  have ze5 := Option.some.inj h
  subst ze5
  exact ev_rete 1 ho (fun n => Eq.refl _)
set_option maxRecDepth 1000000 in
set_option maxHeartbeats 4000000 in
theorem R_f_Y_drops_1 (d : Nat) (Y T H H2 RV RU ST NS I0 I1 I2 BO FI RG GU PU MA MN MS OT SC : Nat → Nat → Int32) (w r5 : Nat) (L : Nat) (Lg : Int64) {r : Int32 × (Nat → Nat → Int32)} (h : f_Y_drops H NS BO = some r) : Ev (d + 4, 0, 0, 318, 0, [.val (.ref 64)], [], (126, 120, L, [Y, T, H, H2, RV, RU, ST, NS, I0, I1, I2, BO, FI, RG, GU, PU, MA, MN, MS, OT, SC], [192, 256, 384, 320, w, r5, 576, 640, 704], Lg)) ((0, some (.int r.1), (126, 120, L, [Y, T, H, H2, RV, RU, ST, NS, I0, I1, I2, r.2, FI, RG, GU, PU, MA, MN, MS, OT, SC], [192, 256, 384, 320, w, 192, 576, 640, 704], Lg)) : AOut) := by
  suffices key : ∀ o : AOut, ((0, some (.int r.1), (126, 120, L, [Y, T, H, H2, RV, RU, ST, NS, I0, I1, I2, r.2, FI, RG, GU, PU, MA, MN, MS, OT, SC], [192, 256, 384, 320, w, 192, 576, 640, 704], Lg)) : AOut) = o → Ev (d + 4, 0, 0, 318, 0, [.val (.ref 64)], [], (126, 120, L, [Y, T, H, H2, RV, RU, ST, NS, I0, I1, I2, BO, FI, RG, GU, PU, MA, MN, MS, OT, SC], [192, 256, 384, 320, w, r5, 576, 640, 704], Lg)) o from key _ rfl
  intro o ho
  obtain ⟨BO_2, zh1, h⟩ := bnd h
  have zh1 : f_Y_lookNow H NS BO = some BO_2 := zh1
  have ze2 := R_f_Y_lookNow_1 (d + 1) Y T H H2 RV RU ST NS I0 I1 I2 BO FI RG GU PU MA MN MS OT SC w r5 L Lg zh1
  suffices e : Ev (d + 4, 0, 0, 318, 4, [.val (.ref 64)], [.ref 768], (126, 120, L, [Y, T, H, H2, RV, RU, ST, NS, I0, I1, I2, BO_2, FI, RG, GU, PU, MA, MN, MS, OT, SC], [192, 256, 384, 320, w, 192, 576, 640, 704], Lg)) o from ev_call (fun v μ => (d + 4, 0, 0, 318, 4, [.val (.ref 64)], v.toList ++ [], μ)) 2 ze2 e (fun n => Eq.refl _)
  obtain ⟨⟨x3, BO_4⟩, zh3, h⟩ := bnd h
  have zh3 : f_Board_mostDrops H BO_2 = some (x3, BO_4) := zh3
  have ze4 := R_f_Board_mostDrops_0 (d + 0) Y T H H2 RV RU ST NS I0 I1 I2 BO_2 FI RG GU PU MA MN MS OT SC 192 256 384 320 w 576 640 704 L Lg zh3
  suffices e : Ev (d + 4, 0, 0, 318, 7, [.val (.ref 64)], [.int x3], (126, 120, L, [Y, T, H, H2, RV, RU, ST, NS, I0, I1, I2, BO_4, FI, RG, GU, PU, MA, MN, MS, OT, SC], [192, 256, 384, 320, w, 192, 576, 640, 704], Lg)) o from ev_call (fun v μ => (d + 4, 0, 0, 318, 7, [.val (.ref 64)], v.toList ++ [], μ)) 1 ze4 e (fun n => Eq.refl _)
  have ze5 := Option.some.inj h
  subst ze5
  exact ev_rete 1 ho (fun n => Eq.refl _)
set_option maxRecDepth 1000000 in
set_option maxHeartbeats 4000000 in
theorem R_f_Board_collectCommon_1 (d : Nat) (Y T H2 H RA RB ST NS I0 I1 I2 BO FI RG GU PU MA MN MS OT SC : Nat → Nat → Int32) (r0 r1 r2 r3 w r6 r7 r8 : Nat) (L : Nat) (Lg : Int64) {r : Int32 × (Nat → Nat → Int32)} (h : f_Board_collectCommon H BO = some r) : Ev (d + 2, 0, 0, 172, 0, [.val (.ref 768), .val a_unk, .val a_unk, .val a_unk, .val a_unk, .val a_unk], [], (126, 120, L, [Y, T, H2, H, RA, RB, ST, NS, I0, I1, I2, BO, FI, RG, GU, PU, MA, MN, MS, OT, SC], [r0, r1, r2, r3, w, 256, r6, r7, r8], Lg)) ((0, some (.int r.1), (126, 120, L, [Y, T, H2, H, RA, RB, ST, NS, I0, I1, I2, r.2, FI, RG, GU, PU, MA, MN, MS, OT, SC], [r0, r1, r2, r3, w, 256, r6, r7, r8], Lg)) : AOut) := by
  suffices key : ∀ o : AOut, ((0, some (.int r.1), (126, 120, L, [Y, T, H2, H, RA, RB, ST, NS, I0, I1, I2, r.2, FI, RG, GU, PU, MA, MN, MS, OT, SC], [r0, r1, r2, r3, w, 256, r6, r7, r8], Lg)) : AOut) = o → Ev (d + 2, 0, 0, 172, 0, [.val (.ref 768), .val a_unk, .val a_unk, .val a_unk, .val a_unk, .val a_unk], [], (126, 120, L, [Y, T, H2, H, RA, RB, ST, NS, I0, I1, I2, BO, FI, RG, GU, PU, MA, MN, MS, OT, SC], [r0, r1, r2, r3, w, 256, r6, r7, r8], Lg)) o from key _ rfl
  intro o ho
  obtain ⟨x1, zh1, h⟩ := bnd h
  have zh1 : f_Board_placed H BO = some x1 := zh1
  have ze2 := R_f_Board_placed_1 (d + 1) Y T H2 H RA RB ST NS I0 I1 I2 BO FI RG GU PU MA MN MS OT SC r0 r1 r2 r3 w r6 r7 r8 L Lg zh1
  suffices e : Ev (d + 2, 0, 0, 172, 6, [.val (.ref 768), .val (.int 0), .val a_unk, .val a_unk, .val a_unk, .val a_unk], [.int x1], (126, 120, L, [Y, T, H2, H, RA, RB, ST, NS, I0, I1, I2, BO, FI, RG, GU, PU, MA, MN, MS, OT, SC], [r0, r1, r2, r3, w, 256, r6, r7, r8], Lg)) o from ev_call (fun v μ => (d + 2, 0, 0, 172, 6, [.val (.ref 768), .val (.int 0), .val a_unk, .val a_unk, .val a_unk, .val a_unk], v.toList ++ [], μ)) 4 ze2 e (fun n => Eq.refl _)
  obtain ⟨zb3, zh4, h⟩ := bnd h
  suffices e : Ev (d + 2, 0, 0, 172, 9, [.val (.ref 768), .val (.int 0), .val (.int x1), .val (.int 0), .val a_unk, .val a_unk], [], (126, 120, L, [Y, T, H2, H, RA, RB, ST, NS, I0, I1, I2, BO, FI, RG, GU, PU, MA, MN, MS, OT, SC], [r0, r1, r2, r3, w, 256, r6, r7, r8], Lg)) o from ev_b 3 e (fun n => Eq.refl _)
  refine ev_loop (δ := Value × Value) (fun a j => (d + 2, 0, 0, 172, 9, [.val (.ref 768), .val (.int a.1), .val (.int x1), .val (.int a.2.1), .val j.1, .val j.2], [], (126, 120, L, [Y, T, H2, H, RA, RB, ST, NS, I0, I1, I2, a.2.2, FI, RG, GU, PU, MA, MN, MS, OT, SC], [r0, r1, r2, r3, w, 256, r6, r7, r8], Lg))) (fun b => ∀ s19 : Value, ∀ s20 : Value, ∀ s21 : Value, Ev (d + 2, 0, 0, 172, 96, [.val (.ref 768), .val (.int b.1), .val (.int x1), .val s19, .val s20, .val s21], [], (126, 120, L, [Y, T, H2, H, RA, RB, ST, NS, I0, I1, I2, b.2, FI, RG, GU, PU, MA, MN, MS, OT, SC], [r0, r1, r2, r3, w, 256, r6, r7, r8], Lg)) o) ?_ a_F (0, 0, BO) zb3 zh4 ?_ (a_unk, a_unk)
  · rintro ⟨v2, v3, BO_6⟩ zr8 zh7 zi5 zx6 ⟨s4, s5⟩
    have zh7 : f_Board_collectCommon_l9 H x1 v2 v3 BO_6 = some zr8 := zh7
    suffices e : Ev (d + 2, 0, 0, 172, 14, [.val (.ref 768), .val (.int v2), .val (.int x1), .val (.int v3), .val s4, .val s5], [.ref 256, .int v3], (126, 120, L, [Y, T, H2, H, RA, RB, ST, NS, I0, I1, I2, BO_6, FI, RG, GU, PU, MA, MN, MS, OT, SC], [r0, r1, r2, r3, w, 256, r6, r7, r8], Lg)) o from ev_b 3 e (fun n => Eq.refl _)
    by_cases zc9 : (H 0 2) ≤ v3
    · have zh7 := itp zh7 zc9
      suffices e : Ev (d + 2, 0, 0, 172, 96, [.val (.ref 768), .val (.int v2), .val (.int x1), .val (.int v3), .val s4, .val s5], [], (126, 120, L, [Y, T, H2, H, RA, RB, ST, NS, I0, I1, I2, BO_6, FI, RG, GU, PU, MA, MN, MS, OT, SC], [r0, r1, r2, r3, w, 256, r6, r7, r8], Lg)) o from ev_t (c := (H 0 2) ≤ v3) _ _ 2  zc9 e (fun n => Eq.refl _)
      exact ev_b 0 (zx6 _ (Option.some.inj zh7).symm (.int v3) s4 s5) (fun n => Eq.refl _)
    · have zh7 := itn zh7 zc9
      suffices e : Ev (d + 2, 0, 0, 172, 20, [.val (.ref 768), .val (.int v2), .val (.int x1), .val (.int v3), .val s4, .val s5], [], (126, 120, L, [Y, T, H2, H, RA, RB, ST, NS, I0, I1, I2, BO_6, FI, RG, GU, PU, MA, MN, MS, OT, SC], [r0, r1, r2, r3, w, 256, r6, r7, r8], Lg)) o from ev_f (c := (H 0 2) ≤ v3) _ _ 2  zc9 e (fun n => Eq.refl _)
      obtain ⟨zb10, zh11, zh7⟩ := bnd zh7
      suffices e : Ev (d + 2, 0, 0, 172, 25, [.val (.ref 768), .val (.int v2), .val (.int x1), .val (.int v3), .val (.int (v3 + 1)), .val s5], [], (126, 120, L, [Y, T, H2, H, RA, RB, ST, NS, I0, I1, I2, BO_6, FI, RG, GU, PU, MA, MN, MS, OT, SC], [r0, r1, r2, r3, w, 256, r6, r7, r8], Lg)) o from ev_b 4 e (fun n => Eq.refl _)
      refine ev_loop (δ := Value) (fun a j => (d + 2, 0, 0, 172, 25, [.val (.ref 768), .val (.int a.1), .val (.int x1), .val (.int v3), .val (.int a.2.1), .val j], [], (126, 120, L, [Y, T, H2, H, RA, RB, ST, NS, I0, I1, I2, a.2.2, FI, RG, GU, PU, MA, MN, MS, OT, SC], [r0, r1, r2, r3, w, 256, r6, r7, r8], Lg))) (fun b => ∀ s15 : Value, ∀ s16 : Value, Ev (d + 2, 0, 0, 172, 90, [.val (.ref 768), .val (.int b.1), .val (.int x1), .val (.int v3), .val s15, .val s16], [], (126, 120, L, [Y, T, H2, H, RA, RB, ST, NS, I0, I1, I2, b.2, FI, RG, GU, PU, MA, MN, MS, OT, SC], [r0, r1, r2, r3, w, 256, r6, r7, r8], Lg)) o) ?_ a_F (v2, (v3 + 1), BO_6) zb10 zh11 ?_ s5
      · rintro ⟨v7, v8, BO_10⟩ zr15 zh14 zi12 zx13 s9
        have zh14 : f_Board_collectCommon_l25 H v3 x1 v7 v8 BO_10 = some zr15 := zh14
        suffices e : Ev (d + 2, 0, 0, 172, 31, [.val (.ref 768), .val (.int v7), .val (.int x1), .val (.int v3), .val (.int v8), .val s9], [.ref 256, .int v8], (126, 120, L, [Y, T, H2, H, RA, RB, ST, NS, I0, I1, I2, BO_10, FI, RG, GU, PU, MA, MN, MS, OT, SC], [r0, r1, r2, r3, w, 256, r6, r7, r8], Lg)) o from ev_b 3 e (fun n => Eq.refl _)
        by_cases zc16 : (H 0 2) ≤ v8
        · have zh14 := itp zh14 zc16
          suffices e : Ev (d + 2, 0, 0, 172, 90, [.val (.ref 768), .val (.int v7), .val (.int x1), .val (.int v3), .val (.int v8), .val s9], [], (126, 120, L, [Y, T, H2, H, RA, RB, ST, NS, I0, I1, I2, BO_10, FI, RG, GU, PU, MA, MN, MS, OT, SC], [r0, r1, r2, r3, w, 256, r6, r7, r8], Lg)) o from ev_t (c := (H 0 2) ≤ v8) _ _ 2  zc16 e (fun n => Eq.refl _)
          exact ev_b 0 (zx13 _ (Option.some.inj zh14).symm (.int v8) s9) (fun n => Eq.refl _)
        · have zh14 := itn zh14 zc16
          suffices e : Ev (d + 2, 0, 0, 172, 37, [.val (.ref 768), .val (.int v7), .val (.int x1), .val (.int v3), .val (.int v8), .val s9], [], (126, 120, L, [Y, T, H2, H, RA, RB, ST, NS, I0, I1, I2, BO_10, FI, RG, GU, PU, MA, MN, MS, OT, SC], [r0, r1, r2, r3, w, 256, r6, r7, r8], Lg)) o from ev_f (c := (H 0 2) ≤ v8) _ _ 2  zc16 e (fun n => Eq.refl _)
          suffices e : Ev (d + 2, 0, 0, 172, 41, [.val (.ref 768), .val (.int v7), .val (.int x1), .val (.int v3), .val (.int v8), .val s9], [.ref 256], (126, 120, L, [Y, T, H2, H, RA, RB, ST, NS, I0, I1, I2, BO_10, FI, RG, GU, PU, MA, MN, MS, OT, SC], [r0, r1, r2, r3, w, 256, r6, r7, r8], Lg)) o from ev_b 2 e (fun n => Eq.refl _)
          obtain ⟨x11, zh17, zh14⟩ := bnd zh14
          have zh17 : f_House_meetingsOf H v3 = some x11 := zh17
          have ze18 := R_f_House_meetingsOf_1 (d + 0) Y T H2 H RA RB ST NS I0 I1 I2 BO_10 FI RG GU PU MA MN MS OT SC r0 r1 r2 r3 w 256 r6 r7 r8 L Lg v3 zh17
          suffices e : Ev (d + 2, 0, 0, 172, 45, [.val (.ref 768), .val (.int v7), .val (.int x1), .val (.int v3), .val (.int v8), .val s9], [.int x11], (126, 120, L, [Y, T, H2, H, RA, RB, ST, NS, I0, I1, I2, BO_10, FI, RG, GU, PU, MA, MN, MS, OT, SC], [r0, r1, r2, r3, w, 256, r6, r7, r8], Lg)) o from ev_call (fun v μ => (d + 2, 0, 0, 172, 45, [.val (.ref 768), .val (.int v7), .val (.int x1), .val (.int v3), .val (.int v8), .val s9], v.toList ++ [], μ)) 2 ze18 e (fun n => Eq.refl _)
          suffices e : Ev (d + 2, 0, 0, 172, 49, [.val (.ref 768), .val (.int v7), .val (.int x1), .val (.int v3), .val (.int v8), .val s9], [.ref 256, .int x11], (126, 120, L, [Y, T, H2, H, RA, RB, ST, NS, I0, I1, I2, BO_10, FI, RG, GU, PU, MA, MN, MS, OT, SC], [r0, r1, r2, r3, w, 256, r6, r7, r8], Lg)) o from ev_b 2 e (fun n => Eq.refl _)
          obtain ⟨x12, zh19, zh14⟩ := bnd zh14
          have zh19 : f_House_meetingsOf H v8 = some x12 := zh19
          have ze20 := R_f_House_meetingsOf_1 (d + 0) Y T H2 H RA RB ST NS I0 I1 I2 BO_10 FI RG GU PU MA MN MS OT SC r0 r1 r2 r3 w 256 r6 r7 r8 L Lg v8 zh19
          suffices e : Ev (d + 2, 0, 0, 172, 54, [.val (.ref 768), .val (.int v7), .val (.int x1), .val (.int v3), .val (.int v8), .val s9], [.int x12, .int x11], (126, 120, L, [Y, T, H2, H, RA, RB, ST, NS, I0, I1, I2, BO_10, FI, RG, GU, PU, MA, MN, MS, OT, SC], [r0, r1, r2, r3, w, 256, r6, r7, r8], Lg)) o from ev_call (fun v μ => (d + 2, 0, 0, 172, 54, [.val (.ref 768), .val (.int v7), .val (.int x1), .val (.int v3), .val (.int v8), .val s9], v.toList ++ [.int x11], μ)) 2 ze20 e (fun n => Eq.refl _)
          by_cases zc21 : ((x11 &&& x12) &&& x1) = 0
          · have zh14 := itp zh14 zc21
            suffices e : Ev (d + 2, 0, 0, 172, 84, [.val (.ref 768), .val (.int v7), .val (.int x1), .val (.int v3), .val (.int v8), .val (.int ((x11 &&& x12) &&& x1))], [], (126, 120, L, [Y, T, H2, H, RA, RB, ST, NS, I0, I1, I2, BO_10, FI, RG, GU, PU, MA, MN, MS, OT, SC], [r0, r1, r2, r3, w, 256, r6, r7, r8], Lg)) o from ev_t (c := ((x11 &&& x12) &&& x1) = 0) _ _ 6  zc21 e (fun n => Eq.refl _)
            exact ev_b 2 (zi12 _ (Option.some.inj zh14).symm (.int ((x11 &&& x12) &&& x1))) (fun n => Eq.refl _)
          · have zh14 := itn zh14 zc21
            suffices e : Ev (d + 2, 0, 0, 172, 64, [.val (.ref 768), .val (.int v7), .val (.int x1), .val (.int v3), .val (.int v8), .val (.int ((x11 &&& x12) &&& x1))], [], (126, 120, L, [Y, T, H2, H, RA, RB, ST, NS, I0, I1, I2, BO_10, FI, RG, GU, PU, MA, MN, MS, OT, SC], [r0, r1, r2, r3, w, 256, r6, r7, r8], Lg)) o from ev_f (c := ((x11 &&& x12) &&& x1) = 0) _ _ 6  zc21 e (fun n => Eq.refl _)
            by_cases zc22 : (Int32.ofNat 64) ≤ v7
            · have zh14 := itp zh14 zc22
              suffices e : Ev (d + 2, 0, 0, 172, 84, [.val (.ref 768), .val (.int v7), .val (.int x1), .val (.int v3), .val (.int v8), .val (.int ((x11 &&& x12) &&& x1))], [], (126, 120, L, [Y, T, H2, H, RA, RB, ST, NS, I0, I1, I2, BO_10, FI, RG, GU, PU, MA, MN, MS, OT, SC], [r0, r1, r2, r3, w, 256, r6, r7, r8], Lg)) o from ev_t (c := (Int32.ofNat 64) ≤ v7) _ _ 5  zc22 e (fun n => Eq.refl _)
              exact ev_b 2 (zi12 _ (Option.some.inj zh14).symm (.int ((x11 &&& x12) &&& x1))) (fun n => Eq.refl _)
            · have zh14 := itn zh14 zc22
              suffices e : Ev (d + 2, 0, 0, 172, 73, [.val (.ref 768), .val (.int v7), .val (.int x1), .val (.int v3), .val (.int v8), .val (.int ((x11 &&& x12) &&& x1))], [], (126, 120, L, [Y, T, H2, H, RA, RB, ST, NS, I0, I1, I2, BO_10, FI, RG, GU, PU, MA, MN, MS, OT, SC], [r0, r1, r2, r3, w, 256, r6, r7, r8], Lg)) o from ev_f (c := (Int32.ofNat 64) ≤ v7) _ _ 5  zc22 e (fun n => Eq.refl _)
              obtain ⟨j13, zh23, zh14⟩ := bnd zh14
              have zh23 : ixx 64 v7 = some j13 := zh23
              suffices e : Ev (d + 2, 0, 0, 172, 81, [.val (.ref 768), .val (.int v7), .val (.int x1), .val (.int v3), .val (.int v8), .val (.int ((x11 &&& x12) &&& x1))], [], (126, 120, L, [Y, T, H2, H, RA, RB, ST, NS, I0, I1, I2, (u2 BO_10 4 j13 ((x11 &&& x12) &&& x1)), FI, RG, GU, PU, MA, MN, MS, OT, SC], [r0, r1, r2, r3, w, 256, r6, r7, r8], Lg)) o from ev_opt (fun j13 => (d + 2, 0, 0, 172, 81, [.val (.ref 768), .val (.int v7), .val (.int x1), .val (.int v3), .val (.int v8), .val (.int ((x11 &&& x12) &&& x1))], [], (126, 120, L, [Y, T, H2, H, RA, RB, ST, NS, I0, I1, I2, (u2 BO_10 4 j13 ((x11 &&& x12) &&& x1)), FI, RG, GU, PU, MA, MN, MS, OT, SC], [r0, r1, r2, r3, w, 256, r6, r7, r8], Lg))) 5 zh23 e (fun n => Eq.refl _)
              exact ev_b 3 (zi12 _ (Option.some.inj zh14).symm (.int ((x11 &&& x12) &&& x1))) (fun n => Eq.refl _)
      · obtain ⟨v14, BO_17⟩ := zb10
        intro s15 s16
        exact ev_b 2 (zi5 _ (Option.some.inj zh7).symm (s15, s16)) (fun n => Eq.refl _)
  · obtain ⟨v18, BO_22⟩ := zb3
    intro s19 s20 s21
    have ze24 := Option.some.inj h
    subst ze24
    exact ev_rete 2 ho (fun n => Eq.refl _)
set_option maxRecDepth 1000000 in
set_option maxHeartbeats 4000000 in
theorem R_f_Board_pairsKeptWithout_1 (d : Nat) (Y T H2 H RA RB ST NS I0 I1 I2 BO FI RG GU PU MA MN MS OT SC : Nat → Nat → Int32) (r0 r1 r2 r3 w r6 r7 r8 : Nat) (L : Nat) (Lg : Int64) (p1 : Int32) (p2 : Int32) {r : Int32} (h : f_Board_pairsKeptWithout BO p1 p2 = some r) : Ev (d + 0, 0, 0, 173, 0, [.val (.ref 768), .val (.int p1), .val (.int p2), .val a_unk], [], (126, 120, L, [Y, T, H2, H, RA, RB, ST, NS, I0, I1, I2, BO, FI, RG, GU, PU, MA, MN, MS, OT, SC], [r0, r1, r2, r3, w, 256, r6, r7, r8], Lg)) ((0, some (.int r), (126, 120, L, [Y, T, H2, H, RA, RB, ST, NS, I0, I1, I2, BO, FI, RG, GU, PU, MA, MN, MS, OT, SC], [r0, r1, r2, r3, w, 256, r6, r7, r8], Lg)) : AOut) := by
  suffices key : ∀ o : AOut, ((0, some (.int r), (126, 120, L, [Y, T, H2, H, RA, RB, ST, NS, I0, I1, I2, BO, FI, RG, GU, PU, MA, MN, MS, OT, SC], [r0, r1, r2, r3, w, 256, r6, r7, r8], Lg)) : AOut) = o → Ev (d + 0, 0, 0, 173, 0, [.val (.ref 768), .val (.int p1), .val (.int p2), .val a_unk], [], (126, 120, L, [Y, T, H2, H, RA, RB, ST, NS, I0, I1, I2, BO, FI, RG, GU, PU, MA, MN, MS, OT, SC], [r0, r1, r2, r3, w, 256, r6, r7, r8], Lg)) o from key _ rfl
  intro o ho
  obtain ⟨zb1, zh2, h⟩ := bnd h
  suffices e : Ev (d + 0, 0, 0, 173, 2, [.val (.ref 768), .val (.int p1), .val (.int p2), .val (.int 0)], [], (126, 120, L, [Y, T, H2, H, RA, RB, ST, NS, I0, I1, I2, BO, FI, RG, GU, PU, MA, MN, MS, OT, SC], [r0, r1, r2, r3, w, 256, r6, r7, r8], Lg)) o from ev_b 2 e (fun n => Eq.refl _)
  refine ev_loop (δ := Unit) (fun a j => (d + 0, 0, 0, 173, 2, [.val (.ref 768), .val (.int p1), .val (.int p2), .val (.int a)], [], (126, 120, L, [Y, T, H2, H, RA, RB, ST, NS, I0, I1, I2, BO, FI, RG, GU, PU, MA, MN, MS, OT, SC], [r0, r1, r2, r3, w, 256, r6, r7, r8], Lg))) (fun b => sumE b (fun b => ∀ s3 : Value, Ev (d + 0, 0, 0, 173, 37, [.val (.ref 768), .val (.int p1), .val (.int p2), .val s3], [], (126, 120, L, [Y, T, H2, H, RA, RB, ST, NS, I0, I1, I2, BO, FI, RG, GU, PU, MA, MN, MS, OT, SC], [r0, r1, r2, r3, w, 256, r6, r7, r8], Lg)) o) (fun b => ((0, some (.int b), (126, 120, L, [Y, T, H2, H, RA, RB, ST, NS, I0, I1, I2, BO, FI, RG, GU, PU, MA, MN, MS, OT, SC], [r0, r1, r2, r3, w, 256, r6, r7, r8], Lg)) : AOut) = o)) ?_ a_F 0 zb1 zh2 ?_ ()
  · rintro v1 zr6 zh5 zi3 zx4 ⟨⟩
    have zh5 : f_Board_pairsKeptWithout_l2 BO p2 p1 v1 = some zr6 := zh5
    by_cases zc7 : p2 ≤ v1
    · have zh5 := itp zh5 zc7
      suffices e : Ev (d + 0, 0, 0, 173, 37, [.val (.ref 768), .val (.int p1), .val (.int p2), .val (.int v1)], [], (126, 120, L, [Y, T, H2, H, RA, RB, ST, NS, I0, I1, I2, BO, FI, RG, GU, PU, MA, MN, MS, OT, SC], [r0, r1, r2, r3, w, 256, r6, r7, r8], Lg)) o from ev_t (c := p2 ≤ v1) _ _ 3  zc7 e (fun n => Eq.refl _)
      exact ev_b 0 (zx4 _ (Option.some.inj zh5).symm (.int v1)) (fun n => Eq.refl _)
    · have zh5 := itn zh5 zc7
      suffices e : Ev (d + 0, 0, 0, 173, 7, [.val (.ref 768), .val (.int p1), .val (.int p2), .val (.int v1)], [], (126, 120, L, [Y, T, H2, H, RA, RB, ST, NS, I0, I1, I2, BO, FI, RG, GU, PU, MA, MN, MS, OT, SC], [r0, r1, r2, r3, w, 256, r6, r7, r8], Lg)) o from ev_f (c := p2 ≤ v1) _ _ 3  zc7 e (fun n => Eq.refl _)
      by_cases zc8 : (Int32.ofNat 64) ≤ v1
      · have zh5 := itp zh5 zc8
        suffices e : Ev (d + 0, 0, 0, 173, 37, [.val (.ref 768), .val (.int p1), .val (.int p2), .val (.int v1)], [], (126, 120, L, [Y, T, H2, H, RA, RB, ST, NS, I0, I1, I2, BO, FI, RG, GU, PU, MA, MN, MS, OT, SC], [r0, r1, r2, r3, w, 256, r6, r7, r8], Lg)) o from ev_t (c := (Int32.ofNat 64) ≤ v1) _ _ 5  zc8 e (fun n => Eq.refl _)
        exact ev_b 0 (zx4 _ (Option.some.inj zh5).symm (.int v1)) (fun n => Eq.refl _)
      · have zh5 := itn zh5 zc8
        suffices e : Ev (d + 0, 0, 0, 173, 16, [.val (.ref 768), .val (.int p1), .val (.int p2), .val (.int v1)], [], (126, 120, L, [Y, T, H2, H, RA, RB, ST, NS, I0, I1, I2, BO, FI, RG, GU, PU, MA, MN, MS, OT, SC], [r0, r1, r2, r3, w, 256, r6, r7, r8], Lg)) o from ev_f (c := (Int32.ofNat 64) ≤ v1) _ _ 5  zc8 e (fun n => Eq.refl _)
        obtain ⟨x2, zh9, zh5⟩ := bnd zh5
        have zh9 : rdx (BO 4) 64 v1 = some x2 := zh9
        suffices e : Ev (d + 0, 0, 0, 173, 22, [.val (.ref 768), .val (.int p1), .val (.int p2), .val (.int v1)], [.int x2], (126, 120, L, [Y, T, H2, H, RA, RB, ST, NS, I0, I1, I2, BO, FI, RG, GU, PU, MA, MN, MS, OT, SC], [r0, r1, r2, r3, w, 256, r6, r7, r8], Lg)) o from ev_opt (fun x2 => (d + 0, 0, 0, 173, 22, [.val (.ref 768), .val (.int p1), .val (.int p2), .val (.int v1)], [.int x2], (126, 120, L, [Y, T, H2, H, RA, RB, ST, NS, I0, I1, I2, BO, FI, RG, GU, PU, MA, MN, MS, OT, SC], [r0, r1, r2, r3, w, 256, r6, r7, r8], Lg))) 4 zh9 e (fun n => Eq.refl _)
        by_cases zc10 : (x2 &&& (p1 ^^^ (-1))) ≠ 0
        · have zh5 := itp zh5 zc10
          suffices e : Ev (d + 0, 0, 0, 173, 31, [.val (.ref 768), .val (.int p1), .val (.int p2), .val (.int v1)], [], (126, 120, L, [Y, T, H2, H, RA, RB, ST, NS, I0, I1, I2, BO, FI, RG, GU, PU, MA, MN, MS, OT, SC], [r0, r1, r2, r3, w, 256, r6, r7, r8], Lg)) o from ev_t (c := (x2 &&& (p1 ^^^ (-1))) ≠ 0) _ _ 5  zc10 e (fun n => Eq.refl _)
          exact ev_b 2 (zi3 _ (Option.some.inj zh5).symm ()) (fun n => Eq.refl _)
        · have zh5 := itn zh5 zc10
          suffices e : Ev (d + 0, 0, 0, 173, 29, [.val (.ref 768), .val (.int p1), .val (.int p2), .val (.int v1)], [], (126, 120, L, [Y, T, H2, H, RA, RB, ST, NS, I0, I1, I2, BO, FI, RG, GU, PU, MA, MN, MS, OT, SC], [r0, r1, r2, r3, w, 256, r6, r7, r8], Lg)) o from ev_f (c := (x2 &&& (p1 ^^^ (-1))) ≠ 0) _ _ 5  zc10 e (fun n => Eq.refl _)
          exact ev_rete 2 (zx4 _ (Option.some.inj zh5).symm) (fun n => Eq.refl _)
  · rcases zb1 with ⟨⟩ | zr6
    · intro s3
      have ze11 := Option.some.inj h
      subst ze11
      exact ev_rete 2 ho (fun n => Eq.refl _)
    · have zh12 : some zr6 = some r := h
      exact (congrArg (fun q => ((0, some (.int q), (126, 120, L, [Y, T, H2, H, RA, RB, ST, NS, I0, I1, I2, BO, FI, RG, GU, PU, MA, MN, MS, OT, SC], [r0, r1, r2, r3, w, 256, r6, r7, r8], Lg)) : AOut)) (Option.some.inj zh12)).trans ho
set_option maxRecDepth 1000000 in
set_option maxHeartbeats 4000000 in
theorem R_f_Board_mostDrops_1 (d : Nat) (Y T H2 H RA RB ST NS I0 I1 I2 BO FI RG GU PU MA MN MS OT SC : Nat → Nat → Int32) (r0 r1 r2 r3 w r6 r7 r8 : Nat) (L : Nat) (Lg : Int64) {r : Int32 × (Nat → Nat → Int32)} (h : f_Board_mostDrops H BO = some r) : Ev (d + 3, 0, 0, 171, 0, [.val (.ref 768), .val a_unk, .val a_unk, .val a_unk, .val a_unk, .val a_unk], [], (126, 120, L, [Y, T, H2, H, RA, RB, ST, NS, I0, I1, I2, BO, FI, RG, GU, PU, MA, MN, MS, OT, SC], [r0, r1, r2, r3, w, 256, r6, r7, r8], Lg)) ((0, some (.int r.1), (126, 120, L, [Y, T, H2, H, RA, RB, ST, NS, I0, I1, I2, r.2, FI, RG, GU, PU, MA, MN, MS, OT, SC], [r0, r1, r2, r3, w, 256, r6, r7, r8], Lg)) : AOut) := by
  suffices key : ∀ o : AOut, ((0, some (.int r.1), (126, 120, L, [Y, T, H2, H, RA, RB, ST, NS, I0, I1, I2, r.2, FI, RG, GU, PU, MA, MN, MS, OT, SC], [r0, r1, r2, r3, w, 256, r6, r7, r8], Lg)) : AOut) = o → Ev (d + 3, 0, 0, 171, 0, [.val (.ref 768), .val a_unk, .val a_unk, .val a_unk, .val a_unk, .val a_unk], [], (126, 120, L, [Y, T, H2, H, RA, RB, ST, NS, I0, I1, I2, BO, FI, RG, GU, PU, MA, MN, MS, OT, SC], [r0, r1, r2, r3, w, 256, r6, r7, r8], Lg)) o from key _ rfl
  intro o ho
  obtain ⟨⟨x1, BO_2⟩, zh1, h⟩ := bnd h
  have zh1 : f_Board_collectCommon H BO = some (x1, BO_2) := zh1
  have ze2 := R_f_Board_collectCommon_1 (d + 0) Y T H2 H RA RB ST NS I0 I1 I2 BO FI RG GU PU MA MN MS OT SC r0 r1 r2 r3 w r6 r7 r8 L Lg zh1
  suffices e : Ev (d + 3, 0, 0, 171, 4, [.val (.ref 768), .val a_unk, .val a_unk, .val a_unk, .val a_unk, .val a_unk], [.int x1], (126, 120, L, [Y, T, H2, H, RA, RB, ST, NS, I0, I1, I2, BO_2, FI, RG, GU, PU, MA, MN, MS, OT, SC], [r0, r1, r2, r3, w, 256, r6, r7, r8], Lg)) o from ev_call (fun v μ => (d + 3, 0, 0, 171, 4, [.val (.ref 768), .val a_unk, .val a_unk, .val a_unk, .val a_unk, .val a_unk], v.toList ++ [], μ)) 2 ze2 e (fun n => Eq.refl _)
  obtain ⟨x3, zh3, h⟩ := bnd h
  have zh3 : f_Board_placed H BO_2 = some x3 := zh3
  have ze4 := R_f_Board_placed_1 (d + 2) Y T H2 H RA RB ST NS I0 I1 I2 BO_2 FI RG GU PU MA MN MS OT SC r0 r1 r2 r3 w r6 r7 r8 L Lg zh3
  suffices e : Ev (d + 3, 0, 0, 171, 9, [.val (.ref 768), .val (.int x1), .val a_unk, .val a_unk, .val a_unk, .val a_unk], [.int x3], (126, 120, L, [Y, T, H2, H, RA, RB, ST, NS, I0, I1, I2, BO_2, FI, RG, GU, PU, MA, MN, MS, OT, SC], [r0, r1, r2, r3, w, 256, r6, r7, r8], Lg)) o from ev_call (fun v μ => (d + 3, 0, 0, 171, 9, [.val (.ref 768), .val (.int x1), .val a_unk, .val a_unk, .val a_unk, .val a_unk], v.toList ++ [], μ)) 3 ze4 e (fun n => Eq.refl _)
  suffices e : Ev (d + 3, 0, 0, 171, 13, [.val (.ref 768), .val (.int x1), .val a_unk, .val a_unk, .val a_unk, .val a_unk], [.ref 256, .int x3], (126, 120, L, [Y, T, H2, H, RA, RB, ST, NS, I0, I1, I2, BO_2, FI, RG, GU, PU, MA, MN, MS, OT, SC], [r0, r1, r2, r3, w, 256, r6, r7, r8], Lg)) o from ev_b 2 e (fun n => Eq.refl _)
  obtain ⟨v11, zh6, h⟩ := bnd h
  suffices e : Ev (d + 3, 0, 0, 171, 25, [.val (.ref 768), .val (.int x1), .val (.int (x3 &&& ((H 0 5) ^^^ (-1)))), .val (.int 0), .val (.int 1), .val a_unk], [], (126, 120, L, [Y, T, H2, H, RA, RB, ST, NS, I0, I1, I2, BO_2, FI, RG, GU, PU, MA, MN, MS, OT, SC], [r0, r1, r2, r3, w, 256, r6, r7, r8], Lg)) o from ev_b 9 e (fun n => Eq.refl _)
  refine ev_loop (δ := Value) (fun a j => (d + 3, 0, 0, 171, 25, [.val (.ref 768), .val (.int x1), .val (.int (x3 &&& ((H 0 5) ^^^ (-1)))), .val (.int a.1), .val (.int a.2), .val j], [], (126, 120, L, [Y, T, H2, H, RA, RB, ST, NS, I0, I1, I2, BO_2, FI, RG, GU, PU, MA, MN, MS, OT, SC], [r0, r1, r2, r3, w, 256, r6, r7, r8], Lg))) (fun b => ∀ s12 : Value, ∀ s13 : Value, Ev (d + 3, 0, 0, 171, 91, [.val (.ref 768), .val (.int x1), .val (.int (x3 &&& ((H 0 5) ^^^ (-1)))), .val (.int b), .val s12, .val s13], [], (126, 120, L, [Y, T, H2, H, RA, RB, ST, NS, I0, I1, I2, BO_2, FI, RG, GU, PU, MA, MN, MS, OT, SC], [r0, r1, r2, r3, w, 256, r6, r7, r8], Lg)) o) ?_ a_F (0, 1) v11 zh6 ?_ a_unk
  · rintro ⟨v4, v5⟩ zr10 zh9 zi7 zx8 s6
    have zh9 : f_Board_mostDrops_l25 H x3 BO_2 x1 v4 v5 = some zr10 := zh9
    suffices e : Ev (d + 3, 0, 0, 171, 32, [.val (.ref 768), .val (.int x1), .val (.int (x3 &&& ((H 0 5) ^^^ (-1)))), .val (.int v4), .val (.int v5), .val s6], [.ref 256, .int 1, .int v5], (126, 120, L, [Y, T, H2, H, RA, RB, ST, NS, I0, I1, I2, BO_2, FI, RG, GU, PU, MA, MN, MS, OT, SC], [r0, r1, r2, r3, w, 256, r6, r7, r8], Lg)) o from ev_b 4 e (fun n => Eq.refl _)
    by_cases zc11 : (a_shl 1 (H 0 3)) ≤ v5
    · have zh9 := itp zh9 zc11
      suffices e : Ev (d + 3, 0, 0, 171, 91, [.val (.ref 768), .val (.int x1), .val (.int (x3 &&& ((H 0 5) ^^^ (-1)))), .val (.int v4), .val (.int v5), .val s6], [], (126, 120, L, [Y, T, H2, H, RA, RB, ST, NS, I0, I1, I2, BO_2, FI, RG, GU, PU, MA, MN, MS, OT, SC], [r0, r1, r2, r3, w, 256, r6, r7, r8], Lg)) o from ev_t (c := (a_shl 1 (H 0 3)) ≤ v5) _ _ 3  zc11 e (fun n => Eq.refl _)
      exact ev_b 0 (zx8 _ (Option.some.inj zh9).symm (.int v5) s6) (fun n => Eq.refl _)
    · have zh9 := itn zh9 zc11
      suffices e : Ev (d + 3, 0, 0, 171, 39, [.val (.ref 768), .val (.int x1), .val (.int (x3 &&& ((H 0 5) ^^^ (-1)))), .val (.int v4), .val (.int v5), .val s6], [], (126, 120, L, [Y, T, H2, H, RA, RB, ST, NS, I0, I1, I2, BO_2, FI, RG, GU, PU, MA, MN, MS, OT, SC], [r0, r1, r2, r3, w, 256, r6, r7, r8], Lg)) o from ev_f (c := (a_shl 1 (H 0 3)) ≤ v5) _ _ 3  zc11 e (fun n => Eq.refl _)
      obtain ⟨x7, zh12, zh9⟩ := bnd zh9
      have zh12 : f_Integer_bitCount v5 = some x7 := zh12
      have ze13 := R_f_Integer_bitCount_0 (d + 2) Y T H2 H RA RB ST NS I0 I1 I2 BO_2 FI RG GU PU MA MN MS OT SC r0 r1 r2 r3 w 256 r6 r7 r8 L Lg v5 zh12
      suffices e : Ev (d + 3, 0, 0, 171, 44, [.val (.ref 768), .val (.int x1), .val (.int (x3 &&& ((H 0 5) ^^^ (-1)))), .val (.int v4), .val (.int v5), .val s6], [.int x7], (126, 120, L, [Y, T, H2, H, RA, RB, ST, NS, I0, I1, I2, BO_2, FI, RG, GU, PU, MA, MN, MS, OT, SC], [r0, r1, r2, r3, w, 256, r6, r7, r8], Lg)) o from ev_call (fun v μ => (d + 3, 0, 0, 171, 44, [.val (.ref 768), .val (.int x1), .val (.int (x3 &&& ((H 0 5) ^^^ (-1)))), .val (.int v4), .val (.int v5), .val s6], v.toList ++ [], μ)) 2 ze13 e (fun n => Eq.refl _)
      obtain ⟨x8, zh14, zh9⟩ := bnd zh9
      have zh14 : f_Integer_bitCount v4 = some x8 := zh14
      have ze15 := R_f_Integer_bitCount_0 (d + 2) Y T H2 H RA RB ST NS I0 I1 I2 BO_2 FI RG GU PU MA MN MS OT SC r0 r1 r2 r3 w 256 r6 r7 r8 L Lg v4 zh14
      suffices e : Ev (d + 3, 0, 0, 171, 48, [.val (.ref 768), .val (.int x1), .val (.int (x3 &&& ((H 0 5) ^^^ (-1)))), .val (.int v4), .val (.int v5), .val s6], [.int x8, .int x7], (126, 120, L, [Y, T, H2, H, RA, RB, ST, NS, I0, I1, I2, BO_2, FI, RG, GU, PU, MA, MN, MS, OT, SC], [r0, r1, r2, r3, w, 256, r6, r7, r8], Lg)) o from ev_call (fun v μ => (d + 3, 0, 0, 171, 48, [.val (.ref 768), .val (.int x1), .val (.int (x3 &&& ((H 0 5) ^^^ (-1)))), .val (.int v4), .val (.int v5), .val s6], v.toList ++ [.int x7], μ)) 2 ze15 e (fun n => Eq.refl _)
      obtain ⟨zt16, zh17, zh9⟩ := bnd zh9
      have zj18 : ∀ (v9 : Int32), v9 = zt16 → Ev (d + 3, 0, 0, 171, 56, [.val (.ref 768), .val (.int x1), .val (.int (x3 &&& ((H 0 5) ^^^ (-1)))), .val (.int v4), .val (.int v5), .val s6], [.int v9], (126, 120, L, [Y, T, H2, H, RA, RB, ST, NS, I0, I1, I2, BO_2, FI, RG, GU, PU, MA, MN, MS, OT, SC], [r0, r1, r2, r3, w, 256, r6, r7, r8], Lg)) o := by
        intro v9 ze19
        subst ze19
        by_cases zc20 : (v5 &&& ((x3 &&& ((H 0 5) ^^^ (-1))) ^^^ (-1))) ≠ 0
        · have zh9 := itp zh9 zc20
          suffices e : Ev (d + 3, 0, 0, 171, 85, [.val (.ref 768), .val (.int x1), .val (.int (x3 &&& ((H 0 5) ^^^ (-1)))), .val (.int v4), .val (.int v5), .val (.int v9)], [], (126, 120, L, [Y, T, H2, H, RA, RB, ST, NS, I0, I1, I2, BO_2, FI, RG, GU, PU, MA, MN, MS, OT, SC], [r0, r1, r2, r3, w, 256, r6, r7, r8], Lg)) o from ev_t (c := (v5 &&& ((x3 &&& ((H 0 5) ^^^ (-1))) ^^^ (-1))) ≠ 0) _ _ 7  zc20 e (fun n => Eq.refl _)
          exact ev_b 2 (zi7 _ (Option.some.inj zh9).symm (.int v9)) (fun n => Eq.refl _)
        · have zh9 := itn zh9 zc20
          suffices e : Ev (d + 3, 0, 0, 171, 67, [.val (.ref 768), .val (.int x1), .val (.int (x3 &&& ((H 0 5) ^^^ (-1)))), .val (.int v4), .val (.int v5), .val (.int v9)], [], (126, 120, L, [Y, T, H2, H, RA, RB, ST, NS, I0, I1, I2, BO_2, FI, RG, GU, PU, MA, MN, MS, OT, SC], [r0, r1, r2, r3, w, 256, r6, r7, r8], Lg)) o from ev_f (c := (v5 &&& ((x3 &&& ((H 0 5) ^^^ (-1))) ^^^ (-1))) ≠ 0) _ _ 7  zc20 e (fun n => Eq.refl _)
          by_cases zc21 : v9 = 0
          · have zh9 := itp zh9 zc21
            suffices e : Ev (d + 3, 0, 0, 171, 85, [.val (.ref 768), .val (.int x1), .val (.int (x3 &&& ((H 0 5) ^^^ (-1)))), .val (.int v4), .val (.int v5), .val (.int v9)], [], (126, 120, L, [Y, T, H2, H, RA, RB, ST, NS, I0, I1, I2, BO_2, FI, RG, GU, PU, MA, MN, MS, OT, SC], [r0, r1, r2, r3, w, 256, r6, r7, r8], Lg)) o from ev_t (c := v9 = 0) _ _ 2  zc21 e (fun n => Eq.refl _)
            exact ev_b 2 (zi7 _ (Option.some.inj zh9).symm (.int v9)) (fun n => Eq.refl _)
          · have zh9 := itn zh9 zc21
            suffices e : Ev (d + 3, 0, 0, 171, 72, [.val (.ref 768), .val (.int x1), .val (.int (x3 &&& ((H 0 5) ^^^ (-1)))), .val (.int v4), .val (.int v5), .val (.int v9)], [], (126, 120, L, [Y, T, H2, H, RA, RB, ST, NS, I0, I1, I2, BO_2, FI, RG, GU, PU, MA, MN, MS, OT, SC], [r0, r1, r2, r3, w, 256, r6, r7, r8], Lg)) o from ev_f (c := v9 = 0) _ _ 2  zc21 e (fun n => Eq.refl _)
            obtain ⟨x10, zh22, zh9⟩ := bnd zh9
            have zh22 : f_Board_pairsKeptWithout BO_2 v5 x1 = some x10 := zh22
            have ze23 := R_f_Board_pairsKeptWithout_1 (d + 2) Y T H2 H RA RB ST NS I0 I1 I2 BO_2 FI RG GU PU MA MN MS OT SC r0 r1 r2 r3 w r6 r7 r8 L Lg v5 x1 zh22
            suffices e : Ev (d + 3, 0, 0, 171, 79, [.val (.ref 768), .val (.int x1), .val (.int (x3 &&& ((H 0 5) ^^^ (-1)))), .val (.int v4), .val (.int v5), .val (.int v9)], [.int x10], (126, 120, L, [Y, T, H2, H, RA, RB, ST, NS, I0, I1, I2, BO_2, FI, RG, GU, PU, MA, MN, MS, OT, SC], [r0, r1, r2, r3, w, 256, r6, r7, r8], Lg)) o from ev_call (fun v μ => (d + 3, 0, 0, 171, 79, [.val (.ref 768), .val (.int x1), .val (.int (x3 &&& ((H 0 5) ^^^ (-1)))), .val (.int v4), .val (.int v5), .val (.int v9)], v.toList ++ [], μ)) 4 ze23 e (fun n => Eq.refl _)
            by_cases zc24 : x10 = 0
            · have zh9 := itp zh9 zc24
              suffices e : Ev (d + 3, 0, 0, 171, 85, [.val (.ref 768), .val (.int x1), .val (.int (x3 &&& ((H 0 5) ^^^ (-1)))), .val (.int v4), .val (.int v5), .val (.int v9)], [], (126, 120, L, [Y, T, H2, H, RA, RB, ST, NS, I0, I1, I2, BO_2, FI, RG, GU, PU, MA, MN, MS, OT, SC], [r0, r1, r2, r3, w, 256, r6, r7, r8], Lg)) o from ev_t (c := x10 = 0) _ _ 1  zc24 e (fun n => Eq.refl _)
              exact ev_b 2 (zi7 _ (Option.some.inj zh9).symm (.int v9)) (fun n => Eq.refl _)
            · have zh9 := itn zh9 zc24
              suffices e : Ev (d + 3, 0, 0, 171, 82, [.val (.ref 768), .val (.int x1), .val (.int (x3 &&& ((H 0 5) ^^^ (-1)))), .val (.int v4), .val (.int v5), .val (.int v9)], [], (126, 120, L, [Y, T, H2, H, RA, RB, ST, NS, I0, I1, I2, BO_2, FI, RG, GU, PU, MA, MN, MS, OT, SC], [r0, r1, r2, r3, w, 256, r6, r7, r8], Lg)) o from ev_f (c := x10 = 0) _ _ 1  zc24 e (fun n => Eq.refl _)
              exact ev_b 4 (zi7 _ (Option.some.inj zh9).symm (.int v9)) (fun n => Eq.refl _)
      by_cases zc25 : x7 ≤ x8
      · have zh17 := itp zh17 zc25
        suffices e : Ev (d + 3, 0, 0, 171, 55, [.val (.ref 768), .val (.int x1), .val (.int (x3 &&& ((H 0 5) ^^^ (-1)))), .val (.int v4), .val (.int v5), .val s6], [], (126, 120, L, [Y, T, H2, H, RA, RB, ST, NS, I0, I1, I2, BO_2, FI, RG, GU, PU, MA, MN, MS, OT, SC], [r0, r1, r2, r3, w, 256, r6, r7, r8], Lg)) o from ev_t (c := x7 ≤ x8) _ _ 1  zc25 e (fun n => Eq.refl _)
        exact ev_b 1 (zj18 0 (Option.some.inj zh17) ) (fun n => Eq.refl _)
      · have zh17 := itn zh17 zc25
        suffices e : Ev (d + 3, 0, 0, 171, 51, [.val (.ref 768), .val (.int x1), .val (.int (x3 &&& ((H 0 5) ^^^ (-1)))), .val (.int v4), .val (.int v5), .val s6], [], (126, 120, L, [Y, T, H2, H, RA, RB, ST, NS, I0, I1, I2, BO_2, FI, RG, GU, PU, MA, MN, MS, OT, SC], [r0, r1, r2, r3, w, 256, r6, r7, r8], Lg)) o from ev_f (c := x7 ≤ x8) _ _ 1  zc25 e (fun n => Eq.refl _)
        exact ev_b 2 (zj18 1 (Option.some.inj zh17) ) (fun n => Eq.refl _)
  · skip
    intro s12 s13
    have ze26 := Option.some.inj h
    subst ze26
    exact ev_rete 2 ho (fun n => Eq.refl _)
set_option maxRecDepth 1000000 in
set_option maxHeartbeats 4000000 in
theorem R_f_Y_drops_2 (d : Nat) (Y T H2 H RU RV ST NS I0 I1 I2 BO FI RG GU PU MA MN MS OT SC : Nat → Nat → Int32) (w r5 : Nat) (L : Nat) (Lg : Int64) {r : Int32 × (Nat → Nat → Int32)} (h : f_Y_drops H NS BO = some r) : Ev (d + 4, 0, 0, 318, 0, [.val (.ref 64)], [], (126, 120, L, [Y, T, H2, H, RU, RV, ST, NS, I0, I1, I2, BO, FI, RG, GU, PU, MA, MN, MS, OT, SC], [256, 192, 320, 384, w, r5, 576, 640, 704], Lg)) ((0, some (.int r.1), (126, 120, L, [Y, T, H2, H, RU, RV, ST, NS, I0, I1, I2, r.2, FI, RG, GU, PU, MA, MN, MS, OT, SC], [256, 192, 320, 384, w, 256, 576, 640, 704], Lg)) : AOut) := by
  suffices key : ∀ o : AOut, ((0, some (.int r.1), (126, 120, L, [Y, T, H2, H, RU, RV, ST, NS, I0, I1, I2, r.2, FI, RG, GU, PU, MA, MN, MS, OT, SC], [256, 192, 320, 384, w, 256, 576, 640, 704], Lg)) : AOut) = o → Ev (d + 4, 0, 0, 318, 0, [.val (.ref 64)], [], (126, 120, L, [Y, T, H2, H, RU, RV, ST, NS, I0, I1, I2, BO, FI, RG, GU, PU, MA, MN, MS, OT, SC], [256, 192, 320, 384, w, r5, 576, 640, 704], Lg)) o from key _ rfl
  intro o ho
  obtain ⟨BO_2, zh1, h⟩ := bnd h
  have zh1 : f_Y_lookNow H NS BO = some BO_2 := zh1
  have ze2 := R_f_Y_lookNow_2 (d + 1) Y T H2 H RU RV ST NS I0 I1 I2 BO FI RG GU PU MA MN MS OT SC w r5 L Lg zh1
  suffices e : Ev (d + 4, 0, 0, 318, 4, [.val (.ref 64)], [.ref 768], (126, 120, L, [Y, T, H2, H, RU, RV, ST, NS, I0, I1, I2, BO_2, FI, RG, GU, PU, MA, MN, MS, OT, SC], [256, 192, 320, 384, w, 256, 576, 640, 704], Lg)) o from ev_call (fun v μ => (d + 4, 0, 0, 318, 4, [.val (.ref 64)], v.toList ++ [], μ)) 2 ze2 e (fun n => Eq.refl _)
  obtain ⟨⟨x3, BO_4⟩, zh3, h⟩ := bnd h
  have zh3 : f_Board_mostDrops H BO_2 = some (x3, BO_4) := zh3
  have ze4 := R_f_Board_mostDrops_1 (d + 0) Y T H2 H RU RV ST NS I0 I1 I2 BO_2 FI RG GU PU MA MN MS OT SC 256 192 320 384 w 576 640 704 L Lg zh3
  suffices e : Ev (d + 4, 0, 0, 318, 7, [.val (.ref 64)], [.int x3], (126, 120, L, [Y, T, H2, H, RU, RV, ST, NS, I0, I1, I2, BO_4, FI, RG, GU, PU, MA, MN, MS, OT, SC], [256, 192, 320, 384, w, 256, 576, 640, 704], Lg)) o from ev_call (fun v μ => (d + 4, 0, 0, 318, 7, [.val (.ref 64)], v.toList ++ [], μ)) 1 ze4 e (fun n => Eq.refl _)
  have ze5 := Option.some.inj h
  subst ze5
  exact ev_rete 1 ho (fun n => Eq.refl _)
set_option maxRecDepth 1000000 in
set_option maxHeartbeats 4000000 in
theorem R_f_Y_drops_3 (d : Nat) (Y T H2 H RV RU ST NS I0 I1 I2 BO FI RG GU PU MA MN MS OT SC : Nat → Nat → Int32) (w r5 : Nat) (L : Nat) (Lg : Int64) {r : Int32 × (Nat → Nat → Int32)} (h : f_Y_drops H NS BO = some r) : Ev (d + 4, 0, 0, 318, 0, [.val (.ref 64)], [], (126, 120, L, [Y, T, H2, H, RV, RU, ST, NS, I0, I1, I2, BO, FI, RG, GU, PU, MA, MN, MS, OT, SC], [256, 192, 384, 320, w, r5, 576, 640, 704], Lg)) ((0, some (.int r.1), (126, 120, L, [Y, T, H2, H, RV, RU, ST, NS, I0, I1, I2, r.2, FI, RG, GU, PU, MA, MN, MS, OT, SC], [256, 192, 384, 320, w, 256, 576, 640, 704], Lg)) : AOut) := by
  suffices key : ∀ o : AOut, ((0, some (.int r.1), (126, 120, L, [Y, T, H2, H, RV, RU, ST, NS, I0, I1, I2, r.2, FI, RG, GU, PU, MA, MN, MS, OT, SC], [256, 192, 384, 320, w, 256, 576, 640, 704], Lg)) : AOut) = o → Ev (d + 4, 0, 0, 318, 0, [.val (.ref 64)], [], (126, 120, L, [Y, T, H2, H, RV, RU, ST, NS, I0, I1, I2, BO, FI, RG, GU, PU, MA, MN, MS, OT, SC], [256, 192, 384, 320, w, r5, 576, 640, 704], Lg)) o from key _ rfl
  intro o ho
  obtain ⟨BO_2, zh1, h⟩ := bnd h
  have zh1 : f_Y_lookNow H NS BO = some BO_2 := zh1
  have ze2 := R_f_Y_lookNow_3 (d + 1) Y T H2 H RV RU ST NS I0 I1 I2 BO FI RG GU PU MA MN MS OT SC w r5 L Lg zh1
  suffices e : Ev (d + 4, 0, 0, 318, 4, [.val (.ref 64)], [.ref 768], (126, 120, L, [Y, T, H2, H, RV, RU, ST, NS, I0, I1, I2, BO_2, FI, RG, GU, PU, MA, MN, MS, OT, SC], [256, 192, 384, 320, w, 256, 576, 640, 704], Lg)) o from ev_call (fun v μ => (d + 4, 0, 0, 318, 4, [.val (.ref 64)], v.toList ++ [], μ)) 2 ze2 e (fun n => Eq.refl _)
  obtain ⟨⟨x3, BO_4⟩, zh3, h⟩ := bnd h
  have zh3 : f_Board_mostDrops H BO_2 = some (x3, BO_4) := zh3
  have ze4 := R_f_Board_mostDrops_1 (d + 0) Y T H2 H RV RU ST NS I0 I1 I2 BO_2 FI RG GU PU MA MN MS OT SC 256 192 384 320 w 576 640 704 L Lg zh3
  suffices e : Ev (d + 4, 0, 0, 318, 7, [.val (.ref 64)], [.int x3], (126, 120, L, [Y, T, H2, H, RV, RU, ST, NS, I0, I1, I2, BO_4, FI, RG, GU, PU, MA, MN, MS, OT, SC], [256, 192, 384, 320, w, 256, 576, 640, 704], Lg)) o from ev_call (fun v μ => (d + 4, 0, 0, 318, 7, [.val (.ref 64)], v.toList ++ [], μ)) 1 ze4 e (fun n => Eq.refl _)
  have ze5 := Option.some.inj h
  subst ze5
  exact ev_rete 1 ho (fun n => Eq.refl _)
set_option maxRecDepth 1000000 in
set_option maxHeartbeats 4000000 in
theorem R_f_House_allPeople_0 (d : Nat) (Y T H H2 RA RB ST NS I0 I1 I2 BO FI RG GU PU MA MN MS OT SC : Nat → Nat → Int32) (r0 r1 r2 r3 w r5 r6 r7 r8 : Nat) (L : Nat) (Lg : Int64) {r : Int32} (h : f_House_allPeople H = some r) : Ev (d + 0, 0, 0, 217, 0, [.val (.ref 192)], [], (126, 120, L, [Y, T, H, H2, RA, RB, ST, NS, I0, I1, I2, BO, FI, RG, GU, PU, MA, MN, MS, OT, SC], [r0, r1, r2, r3, w, r5, r6, r7, r8], Lg)) ((0, some (.int r), (126, 120, L, [Y, T, H, H2, RA, RB, ST, NS, I0, I1, I2, BO, FI, RG, GU, PU, MA, MN, MS, OT, SC], [r0, r1, r2, r3, w, r5, r6, r7, r8], Lg)) : AOut) := by
  suffices key : ∀ o : AOut, ((0, some (.int r), (126, 120, L, [Y, T, H, H2, RA, RB, ST, NS, I0, I1, I2, BO, FI, RG, GU, PU, MA, MN, MS, OT, SC], [r0, r1, r2, r3, w, r5, r6, r7, r8], Lg)) : AOut) = o → Ev (d + 0, 0, 0, 217, 0, [.val (.ref 192)], [], (126, 120, L, [Y, T, H, H2, RA, RB, ST, NS, I0, I1, I2, BO, FI, RG, GU, PU, MA, MN, MS, OT, SC], [r0, r1, r2, r3, w, r5, r6, r7, r8], Lg)) o from key _ rfl
  intro o ho
  have ze1 := Option.some.inj h
  subst ze1
  exact ev_rete 7 ho (fun n => Eq.refl _)
set_option maxRecDepth 1000000 in
set_option maxHeartbeats 4000000 in
theorem R_f_Y_needPeople_0 (d : Nat) (Y T H H2 RU RV ST NS I0 I1 I2 BO FI RG GU PU MA MN MS OT SC : Nat → Nat → Int32) (w r5 : Nat) (L : Nat) (Lg : Int64) (p1 : Int32) {r : Nat × (Nat → Nat → Int32)} (h : f_Y_needPeople Y H p1 = some r) : Ev (d + 1, 1, 8, 341, 0, [.val (.ref 64), .val (.int p1)], [], (126, 120, L, [Y, T, H, H2, RU, RV, ST, NS, I0, I1, I2, BO, FI, RG, GU, PU, MA, MN, MS, OT, SC], [192, 256, 320, 384, w, r5, 576, 640, 704], Lg)) ((r.1, none, (126, 120, L, [r.2, T, H, H2, RU, RV, ST, NS, I0, I1, I2, BO, FI, RG, GU, PU, MA, MN, MS, OT, SC], [192, 256, 320, 384, w, r5, 576, 640, 704], Lg)) : AOut) := by
  suffices key : ∀ o : AOut, ((r.1, none, (126, 120, L, [r.2, T, H, H2, RU, RV, ST, NS, I0, I1, I2, BO, FI, RG, GU, PU, MA, MN, MS, OT, SC], [192, 256, 320, 384, w, r5, 576, 640, 704], Lg)) : AOut) = o → Ev (d + 1, 1, 8, 341, 0, [.val (.ref 64), .val (.int p1)], [], (126, 120, L, [Y, T, H, H2, RU, RV, ST, NS, I0, I1, I2, BO, FI, RG, GU, PU, MA, MN, MS, OT, SC], [192, 256, 320, 384, w, r5, 576, 640, 704], Lg)) o from key _ rfl
  intro o ho
  suffices e : Ev (d + 1, 1, 8, 341, 6, [.val (.ref 64), .val (.int p1)], [.ref 192, .int p1, .ref 64], (126, 120, L, [Y, T, H, H2, RU, RV, ST, NS, I0, I1, I2, BO, FI, RG, GU, PU, MA, MN, MS, OT, SC], [192, 256, 320, 384, w, r5, 576, 640, 704], Lg)) o from ev_b 4 e (fun n => Eq.refl _)
  obtain ⟨x1, zh1, h⟩ := bnd h
  have zh1 : f_House_allPeople H = some x1 := zh1
  have ze2 := R_f_House_allPeople_0 (d + 0) Y T H H2 RU RV ST NS I0 I1 I2 BO FI RG GU PU MA MN MS OT SC 192 256 320 384 w r5 576 640 704 L Lg zh1
  suffices e : Ev (d + 1, 1, 8, 341, 9, [.val (.ref 64), .val (.int p1)], [.int x1, .int p1, .ref 64], (126, 120, L, [Y, T, H, H2, RU, RV, ST, NS, I0, I1, I2, BO, FI, RG, GU, PU, MA, MN, MS, OT, SC], [192, 256, 320, 384, w, r5, 576, 640, 704], Lg)) o from ev_call (fun v μ => (d + 1, 1, 8, 341, 9, [.val (.ref 64), .val (.int p1)], v.toList ++ [.int p1, .ref 64], μ)) 1 ze2 e (fun n => Eq.refl _)
  obtain ⟨zt3, zh4, h⟩ := bnd h
  have zj5 : ∀ (v2 : Int32), v2 = zt3 → Ev (d + 1, 1, 8, 341, 20, [.val (.ref 64), .val (.int p1)], [.int v2, .ref 64], (126, 120, L, [Y, T, H, H2, RU, RV, ST, NS, I0, I1, I2, BO, FI, RG, GU, PU, MA, MN, MS, OT, SC], [192, 256, 320, 384, w, r5, 576, 640, 704], Lg)) o := by
    intro v2 ze6
    subst ze6
    obtain ⟨⟨q3, Y_4⟩, zh7, h⟩ := bnd h
    have zh7 : f_Y_refuseUnless Y v2 = some (q3, Y_4) := zh7
    have ze8 := R_f_Y_refuseUnless_0 (d + 0) Y T H H2 RU RV ST NS I0 I1 I2 BO FI RG GU PU MA MN MS OT SC w r5 L Lg v2 zh7
    cases q3 with
    | zero =>
      have h := itp h rfl
      suffices e : Ev (d + 1, 0, 0, 341, 23, [.val (.ref 64), .val (.int p1)], [], (126, 120, L, [Y_4, T, H, H2, RU, RV, ST, NS, I0, I1, I2, BO, FI, RG, GU, PU, MA, MN, MS, OT, SC], [192, 256, 320, 384, w, r5, 576, 640, 704], Lg)) o from ev_call (fun v μ => (d + 1, 0, 0, 341, 23, [.val (.ref 64), .val (.int p1)], v.toList ++ [], μ)) 1 ze8 e (fun n => Eq.refl _)
      have ze9 := Option.some.inj h
      subst ze9
      exact ev_rete 1 ho (fun n => Eq.refl _)
    | succ q3 =>
      have h := itn h (Nat.succ_ne_zero q3)
      have ze10 := Option.some.inj h
      subst ze10
      subst ho
      exact ev_thr (fun v μ => (d + 1, 0, 0, 341, 23, [.val (.ref 64), .val (.int p1)], v.toList ++ [], μ)) 1 ze8 (fun n => Eq.refl _) (fun n => rfl)
  by_cases zc11 : (p1 &&& (x1 ^^^ (-1))) ≠ 0
  · have zh4 := itp zh4 zc11
    suffices e : Ev (d + 1, 1, 8, 341, 19, [.val (.ref 64), .val (.int p1)], [.ref 64], (126, 120, L, [Y, T, H, H2, RU, RV, ST, NS, I0, I1, I2, BO, FI, RG, GU, PU, MA, MN, MS, OT, SC], [192, 256, 320, 384, w, r5, 576, 640, 704], Lg)) o from ev_t (c := (p1 &&& (x1 ^^^ (-1))) ≠ 0) _ _ 4  zc11 e (fun n => Eq.refl _)
    exact ev_b 1 (zj5 0 (Option.some.inj zh4) ) (fun n => Eq.refl _)
  · have zh4 := itn zh4 zc11
    suffices e : Ev (d + 1, 1, 8, 341, 15, [.val (.ref 64), .val (.int p1)], [.ref 64], (126, 120, L, [Y, T, H, H2, RU, RV, ST, NS, I0, I1, I2, BO, FI, RG, GU, PU, MA, MN, MS, OT, SC], [192, 256, 320, 384, w, r5, 576, 640, 704], Lg)) o from ev_f (c := (p1 &&& (x1 ^^^ (-1))) ≠ 0) _ _ 4  zc11 e (fun n => Eq.refl _)
    exact ev_b 2 (zj5 1 (Option.some.inj zh4) ) (fun n => Eq.refl _)
set_option maxRecDepth 1000000 in
set_option maxHeartbeats 4000000 in
theorem R_f_Board_idleHours_0 (d : Nat) (Y T H H2 RA RB ST NS I0 I1 I2 BO FI RG GU PU MA MN MS OT SC : Nat → Nat → Int32) (r0 r1 r2 r3 w r6 r7 r8 : Nat) (L : Nat) (Lg : Int64) (p1 : Int32) {r : Int32} (h : f_Board_idleHours H BO p1 = some r) : Ev (d + 1, 0, 0, 170, 0, [.val (.ref 768), .val (.int p1), .val a_unk, .val a_unk], [], (126, 120, L, [Y, T, H, H2, RA, RB, ST, NS, I0, I1, I2, BO, FI, RG, GU, PU, MA, MN, MS, OT, SC], [r0, r1, r2, r3, w, 192, r6, r7, r8], Lg)) ((0, some (.int r), (126, 120, L, [Y, T, H, H2, RA, RB, ST, NS, I0, I1, I2, BO, FI, RG, GU, PU, MA, MN, MS, OT, SC], [r0, r1, r2, r3, w, 192, r6, r7, r8], Lg)) : AOut) := by
  suffices key : ∀ o : AOut, ((0, some (.int r), (126, 120, L, [Y, T, H, H2, RA, RB, ST, NS, I0, I1, I2, BO, FI, RG, GU, PU, MA, MN, MS, OT, SC], [r0, r1, r2, r3, w, 192, r6, r7, r8], Lg)) : AOut) = o → Ev (d + 1, 0, 0, 170, 0, [.val (.ref 768), .val (.int p1), .val a_unk, .val a_unk], [], (126, 120, L, [Y, T, H, H2, RA, RB, ST, NS, I0, I1, I2, BO, FI, RG, GU, PU, MA, MN, MS, OT, SC], [r0, r1, r2, r3, w, 192, r6, r7, r8], Lg)) o from key _ rfl
  intro o ho
  suffices e : Ev (d + 1, 0, 0, 170, 5, [.val (.ref 768), .val (.int p1), .val a_unk, .val a_unk], [.ref 192, .int 1], (126, 120, L, [Y, T, H, H2, RA, RB, ST, NS, I0, I1, I2, BO, FI, RG, GU, PU, MA, MN, MS, OT, SC], [r0, r1, r2, r3, w, 192, r6, r7, r8], Lg)) o from ev_b 3 e (fun n => Eq.refl _)
  suffices e : Ev (d + 1, 0, 0, 170, 15, [.val (.ref 768), .val (.int p1), .val a_unk, .val a_unk], [.ref 192, .int ((a_shl 1 (H 0 0)) - 1)], (126, 120, L, [Y, T, H, H2, RA, RB, ST, NS, I0, I1, I2, BO, FI, RG, GU, PU, MA, MN, MS, OT, SC], [r0, r1, r2, r3, w, 192, r6, r7, r8], Lg)) o from ev_b 6 e (fun n => Eq.refl _)
  obtain ⟨x1, zh1, h⟩ := bnd h
  have zh1 : f_House_busyHoursOf H p1 = some x1 := zh1
  have ze2 := R_f_House_busyHoursOf_1 (d + 0) Y T H H2 RA RB ST NS I0 I1 I2 BO FI RG GU PU MA MN MS OT SC r0 r1 r2 r3 w 192 r6 r7 r8 L Lg p1 zh1
  suffices e : Ev (d + 1, 0, 0, 170, 19, [.val (.ref 768), .val (.int p1), .val a_unk, .val a_unk], [.int x1, .int ((a_shl 1 (H 0 0)) - 1)], (126, 120, L, [Y, T, H, H2, RA, RB, ST, NS, I0, I1, I2, BO, FI, RG, GU, PU, MA, MN, MS, OT, SC], [r0, r1, r2, r3, w, 192, r6, r7, r8], Lg)) o from ev_call (fun v μ => (d + 1, 0, 0, 170, 19, [.val (.ref 768), .val (.int p1), .val a_unk, .val a_unk], v.toList ++ [.int ((a_shl 1 (H 0 0)) - 1)], μ)) 2 ze2 e (fun n => Eq.refl _)
  obtain ⟨v8, zh4, h⟩ := bnd h
  suffices e : Ev (d + 1, 0, 0, 170, 25, [.val (.ref 768), .val (.int p1), .val (.int (((a_shl 1 (H 0 0)) - 1) &&& (x1 ^^^ (-1)))), .val (.int 0)], [], (126, 120, L, [Y, T, H, H2, RA, RB, ST, NS, I0, I1, I2, BO, FI, RG, GU, PU, MA, MN, MS, OT, SC], [r0, r1, r2, r3, w, 192, r6, r7, r8], Lg)) o from ev_b 6 e (fun n => Eq.refl _)
  refine ev_loop (δ := Unit) (fun a j => (d + 1, 0, 0, 170, 25, [.val (.ref 768), .val (.int p1), .val (.int a.1), .val (.int a.2)], [], (126, 120, L, [Y, T, H, H2, RA, RB, ST, NS, I0, I1, I2, BO, FI, RG, GU, PU, MA, MN, MS, OT, SC], [r0, r1, r2, r3, w, 192, r6, r7, r8], Lg))) (fun b => ∀ s9 : Value, Ev (d + 1, 0, 0, 170, 82, [.val (.ref 768), .val (.int p1), .val (.int b), .val s9], [], (126, 120, L, [Y, T, H, H2, RA, RB, ST, NS, I0, I1, I2, BO, FI, RG, GU, PU, MA, MN, MS, OT, SC], [r0, r1, r2, r3, w, 192, r6, r7, r8], Lg)) o) ?_ a_F ((((a_shl 1 (H 0 0)) - 1) &&& (x1 ^^^ (-1))), 0) v8 zh4 ?_ ()
  · rintro ⟨v2, v3⟩ zr8 zh7 zi5 zx6 ⟨⟩
    have zh7 : f_Board_idleHours_l25 H BO p1 v2 v3 = some zr8 := zh7
    suffices e : Ev (d + 1, 0, 0, 170, 30, [.val (.ref 768), .val (.int p1), .val (.int v2), .val (.int v3)], [.ref 192, .int v3], (126, 120, L, [Y, T, H, H2, RA, RB, ST, NS, I0, I1, I2, BO, FI, RG, GU, PU, MA, MN, MS, OT, SC], [r0, r1, r2, r3, w, 192, r6, r7, r8], Lg)) o from ev_b 3 e (fun n => Eq.refl _)
    by_cases zc9 : (H 0 3) ≤ v3
    · have zh7 := itp zh7 zc9
      suffices e : Ev (d + 1, 0, 0, 170, 82, [.val (.ref 768), .val (.int p1), .val (.int v2), .val (.int v3)], [], (126, 120, L, [Y, T, H, H2, RA, RB, ST, NS, I0, I1, I2, BO, FI, RG, GU, PU, MA, MN, MS, OT, SC], [r0, r1, r2, r3, w, 192, r6, r7, r8], Lg)) o from ev_t (c := (H 0 3) ≤ v3) _ _ 2  zc9 e (fun n => Eq.refl _)
      exact ev_b 0 (zx6 _ (Option.some.inj zh7).symm (.int v3)) (fun n => Eq.refl _)
    · have zh7 := itn zh7 zc9
      suffices e : Ev (d + 1, 0, 0, 170, 36, [.val (.ref 768), .val (.int p1), .val (.int v2), .val (.int v3)], [], (126, 120, L, [Y, T, H, H2, RA, RB, ST, NS, I0, I1, I2, BO, FI, RG, GU, PU, MA, MN, MS, OT, SC], [r0, r1, r2, r3, w, 192, r6, r7, r8], Lg)) o from ev_f (c := (H 0 3) ≤ v3) _ _ 2  zc9 e (fun n => Eq.refl _)
      obtain ⟨x4, zh10, zh7⟩ := bnd zh7
      have zh10 : rdx (BO 1) 10 v3 = some x4 := zh10
      suffices e : Ev (d + 1, 0, 0, 170, 42, [.val (.ref 768), .val (.int p1), .val (.int v2), .val (.int v3)], [.int x4], (126, 120, L, [Y, T, H, H2, RA, RB, ST, NS, I0, I1, I2, BO, FI, RG, GU, PU, MA, MN, MS, OT, SC], [r0, r1, r2, r3, w, 192, r6, r7, r8], Lg)) o from ev_opt (fun x4 => (d + 1, 0, 0, 170, 42, [.val (.ref 768), .val (.int p1), .val (.int v2), .val (.int v3)], [.int x4], (126, 120, L, [Y, T, H, H2, RA, RB, ST, NS, I0, I1, I2, BO, FI, RG, GU, PU, MA, MN, MS, OT, SC], [r0, r1, r2, r3, w, 192, r6, r7, r8], Lg))) 4 zh10 e (fun n => Eq.refl _)
      by_cases zc11 : x4 = (-1)
      · have zh7 := itp zh7 zc11
        suffices e : Ev (d + 1, 0, 0, 170, 76, [.val (.ref 768), .val (.int p1), .val (.int v2), .val (.int v3)], [], (126, 120, L, [Y, T, H, H2, RA, RB, ST, NS, I0, I1, I2, BO, FI, RG, GU, PU, MA, MN, MS, OT, SC], [r0, r1, r2, r3, w, 192, r6, r7, r8], Lg)) o from ev_t (c := x4 = (-1)) _ _ 2  zc11 e (fun n => Eq.refl _)
        exact ev_b 2 (zi5 _ (Option.some.inj zh7).symm ()) (fun n => Eq.refl _)
      · have zh7 := itn zh7 zc11
        suffices e : Ev (d + 1, 0, 0, 170, 46, [.val (.ref 768), .val (.int p1), .val (.int v2), .val (.int v3)], [], (126, 120, L, [Y, T, H, H2, RA, RB, ST, NS, I0, I1, I2, BO, FI, RG, GU, PU, MA, MN, MS, OT, SC], [r0, r1, r2, r3, w, 192, r6, r7, r8], Lg)) o from ev_f (c := x4 = (-1)) _ _ 2  zc11 e (fun n => Eq.refl _)
        suffices e : Ev (d + 1, 0, 0, 170, 50, [.val (.ref 768), .val (.int p1), .val (.int v2), .val (.int v3)], [.ref 192], (126, 120, L, [Y, T, H, H2, RA, RB, ST, NS, I0, I1, I2, BO, FI, RG, GU, PU, MA, MN, MS, OT, SC], [r0, r1, r2, r3, w, 192, r6, r7, r8], Lg)) o from ev_b 2 e (fun n => Eq.refl _)
        obtain ⟨x5, zh12, zh7⟩ := bnd zh7
        have zh12 : rdx (H 8) 10 v3 = some x5 := zh12
        suffices e : Ev (d + 1, 0, 0, 170, 55, [.val (.ref 768), .val (.int p1), .val (.int v2), .val (.int v3)], [.int x5], (126, 120, L, [Y, T, H, H2, RA, RB, ST, NS, I0, I1, I2, BO, FI, RG, GU, PU, MA, MN, MS, OT, SC], [r0, r1, r2, r3, w, 192, r6, r7, r8], Lg)) o from ev_opt (fun x5 => (d + 1, 0, 0, 170, 55, [.val (.ref 768), .val (.int p1), .val (.int v2), .val (.int v3)], [.int x5], (126, 120, L, [Y, T, H, H2, RA, RB, ST, NS, I0, I1, I2, BO, FI, RG, GU, PU, MA, MN, MS, OT, SC], [r0, r1, r2, r3, w, 192, r6, r7, r8], Lg))) 3 zh12 e (fun n => Eq.refl _)
        by_cases zc13 : (x5 &&& p1) = 0
        · have zh7 := itp zh7 zc13
          suffices e : Ev (d + 1, 0, 0, 170, 76, [.val (.ref 768), .val (.int p1), .val (.int v2), .val (.int v3)], [], (126, 120, L, [Y, T, H, H2, RA, RB, ST, NS, I0, I1, I2, BO, FI, RG, GU, PU, MA, MN, MS, OT, SC], [r0, r1, r2, r3, w, 192, r6, r7, r8], Lg)) o from ev_t (c := (x5 &&& p1) = 0) _ _ 3  zc13 e (fun n => Eq.refl _)
          exact ev_b 2 (zi5 _ (Option.some.inj zh7).symm ()) (fun n => Eq.refl _)
        · have zh7 := itn zh7 zc13
          suffices e : Ev (d + 1, 0, 0, 170, 60, [.val (.ref 768), .val (.int p1), .val (.int v2), .val (.int v3)], [], (126, 120, L, [Y, T, H, H2, RA, RB, ST, NS, I0, I1, I2, BO, FI, RG, GU, PU, MA, MN, MS, OT, SC], [r0, r1, r2, r3, w, 192, r6, r7, r8], Lg)) o from ev_f (c := (x5 &&& p1) = 0) _ _ 3  zc13 e (fun n => Eq.refl _)
          obtain ⟨x6, zh14, zh7⟩ := bnd zh7
          have zh14 : rdx (BO 1) 10 v3 = some x6 := zh14
          suffices e : Ev (d + 1, 0, 0, 170, 68, [.val (.ref 768), .val (.int p1), .val (.int v2), .val (.int v3)], [.int x6, .int 1, .int v2], (126, 120, L, [Y, T, H, H2, RA, RB, ST, NS, I0, I1, I2, BO, FI, RG, GU, PU, MA, MN, MS, OT, SC], [r0, r1, r2, r3, w, 192, r6, r7, r8], Lg)) o from ev_opt (fun x6 => (d + 1, 0, 0, 170, 68, [.val (.ref 768), .val (.int p1), .val (.int v2), .val (.int v3)], [.int x6, .int 1, .int v2], (126, 120, L, [Y, T, H, H2, RA, RB, ST, NS, I0, I1, I2, BO, FI, RG, GU, PU, MA, MN, MS, OT, SC], [r0, r1, r2, r3, w, 192, r6, r7, r8], Lg))) 6 zh14 e (fun n => Eq.refl _)
          obtain ⟨x7, zh15, zh7⟩ := bnd zh7
          have zh15 : f_Y_hourOf x6 = some x7 := zh15
          have ze16 := R_f_Y_hourOf_0 (d + 0) Y T H H2 RA RB ST NS I0 I1 I2 BO FI RG GU PU MA MN MS OT SC r0 r1 r2 r3 w 192 r6 r7 r8 L Lg x6 zh15
          suffices e : Ev (d + 1, 0, 0, 170, 71, [.val (.ref 768), .val (.int p1), .val (.int v2), .val (.int v3)], [.int x7, .int 1, .int v2], (126, 120, L, [Y, T, H, H2, RA, RB, ST, NS, I0, I1, I2, BO, FI, RG, GU, PU, MA, MN, MS, OT, SC], [r0, r1, r2, r3, w, 192, r6, r7, r8], Lg)) o from ev_call (fun v μ => (d + 1, 0, 0, 170, 71, [.val (.ref 768), .val (.int p1), .val (.int v2), .val (.int v3)], v.toList ++ [.int 1, .int v2], μ)) 1 ze16 e (fun n => Eq.refl _)
          exact ev_b 7 (zi5 _ (Option.some.inj zh7).symm ()) (fun n => Eq.refl _)
  · skip
    intro s9
    have ze17 := Option.some.inj h
    subst ze17
    exact ev_rete 2 ho (fun n => Eq.refl _)
set_option maxRecDepth 1000000 in
set_option maxHeartbeats 4000000 in
theorem R_f_Y_gap_0 (d : Nat) (Y T H H2 RU RV ST NS I0 I1 I2 BO FI RG GU PU MA MN MS OT SC : Nat → Nat → Int32) (w r5 : Nat) (L : Nat) (Lg : Int64) (p1 : Int32) {r : Nat × Int32 × (Nat → Nat → Int32) × (Nat → Nat → Int32) × Nat} (h : f_Y_gap Y H NS BO 192 r5 p1 = some r) : Ev (d + 3, 1, 8, 319, 0, [.val (.ref 64), .val (.int p1)], [], (126, 120, L, [Y, T, H, H2, RU, RV, ST, NS, I0, I1, I2, BO, FI, RG, GU, PU, MA, MN, MS, OT, SC], [192, 256, 320, 384, w, r5, 576, 640, 704], Lg)) ((r.1, a_ov r.1 (.int r.2.1), (126, 120, L, [r.2.2.1, T, H, H2, RU, RV, ST, NS, I0, I1, I2, r.2.2.2.1, FI, RG, GU, PU, MA, MN, MS, OT, SC], [192, 256, 320, 384, w, r.2.2.2.2, 576, 640, 704], Lg)) : AOut) := by
  suffices key : ∀ o : AOut, ((r.1, a_ov r.1 (.int r.2.1), (126, 120, L, [r.2.2.1, T, H, H2, RU, RV, ST, NS, I0, I1, I2, r.2.2.2.1, FI, RG, GU, PU, MA, MN, MS, OT, SC], [192, 256, 320, 384, w, r.2.2.2.2, 576, 640, 704], Lg)) : AOut) = o → Ev (d + 3, 1, 8, 319, 0, [.val (.ref 64), .val (.int p1)], [], (126, 120, L, [Y, T, H, H2, RU, RV, ST, NS, I0, I1, I2, BO, FI, RG, GU, PU, MA, MN, MS, OT, SC], [192, 256, 320, 384, w, r5, 576, 640, 704], Lg)) o from key _ rfl
  intro o ho
  obtain ⟨⟨q1, Y_2⟩, zh1, h⟩ := bnd h
  have zh1 : f_Y_needPeople Y H p1 = some (q1, Y_2) := zh1
  have ze2 := R_f_Y_needPeople_0 (d + 1) Y T H H2 RU RV ST NS I0 I1 I2 BO FI RG GU PU MA MN MS OT SC w r5 L Lg p1 zh1
  cases q1 with
  | zero =>
    have h := itp h rfl
    suffices e : Ev (d + 3, 0, 0, 319, 5, [.val (.ref 64), .val (.int p1)], [], (126, 120, L, [Y_2, T, H, H2, RU, RV, ST, NS, I0, I1, I2, BO, FI, RG, GU, PU, MA, MN, MS, OT, SC], [192, 256, 320, 384, w, r5, 576, 640, 704], Lg)) o from ev_call (fun v μ => (d + 3, 0, 0, 319, 5, [.val (.ref 64), .val (.int p1)], v.toList ++ [], μ)) 3 ze2 e (fun n => Eq.refl _)
    obtain ⟨BO_4, zh3, h⟩ := bnd h
    have zh3 : f_Y_lookNow H NS BO = some BO_4 := zh3
    have ze4 := R_f_Y_lookNow_0 (d + 0) Y_2 T H H2 RU RV ST NS I0 I1 I2 BO FI RG GU PU MA MN MS OT SC w r5 L Lg zh3
    suffices e : Ev (d + 3, 0, 0, 319, 9, [.val (.ref 64), .val (.int p1)], [.ref 768], (126, 120, L, [Y_2, T, H, H2, RU, RV, ST, NS, I0, I1, I2, BO_4, FI, RG, GU, PU, MA, MN, MS, OT, SC], [192, 256, 320, 384, w, 192, 576, 640, 704], Lg)) o from ev_call (fun v μ => (d + 3, 0, 0, 319, 9, [.val (.ref 64), .val (.int p1)], v.toList ++ [], μ)) 2 ze4 e (fun n => Eq.refl _)
    obtain ⟨x5, zh5, h⟩ := bnd h
    have zh5 : f_Board_idleHours H BO_4 p1 = some x5 := zh5
    have ze6 := R_f_Board_idleHours_0 (d + 1) Y_2 T H H2 RU RV ST NS I0 I1 I2 BO_4 FI RG GU PU MA MN MS OT SC 192 256 320 384 w 576 640 704 L Lg p1 zh5
    suffices e : Ev (d + 3, 0, 0, 319, 13, [.val (.ref 64), .val (.int p1)], [.int x5], (126, 120, L, [Y_2, T, H, H2, RU, RV, ST, NS, I0, I1, I2, BO_4, FI, RG, GU, PU, MA, MN, MS, OT, SC], [192, 256, 320, 384, w, 192, 576, 640, 704], Lg)) o from ev_call (fun v μ => (d + 3, 0, 0, 319, 13, [.val (.ref 64), .val (.int p1)], v.toList ++ [], μ)) 2 ze6 e (fun n => Eq.refl _)
    have ze7 := Option.some.inj h
    subst ze7
    exact ev_rete 1 ho (fun n => Eq.refl _)
  | succ q1 =>
    have h := itn h (Nat.succ_ne_zero q1)
    have ze8 := Option.some.inj h
    subst ze8
    subst ho
    exact ev_thr (fun v μ => (d + 3, 0, 0, 319, 5, [.val (.ref 64), .val (.int p1)], v.toList ++ [], μ)) 3 ze2 (fun n => Eq.refl _) (fun n => rfl)
set_option maxRecDepth 1000000 in
set_option maxHeartbeats 4000000 in
theorem R_f_Y_needPeople_1 (d : Nat) (Y T H H2 RV RU ST NS I0 I1 I2 BO FI RG GU PU MA MN MS OT SC : Nat → Nat → Int32) (w r5 : Nat) (L : Nat) (Lg : Int64) (p1 : Int32) {r : Nat × (Nat → Nat → Int32)} (h : f_Y_needPeople Y H p1 = some r) : Ev (d + 1, 1, 8, 341, 0, [.val (.ref 64), .val (.int p1)], [], (126, 120, L, [Y, T, H, H2, RV, RU, ST, NS, I0, I1, I2, BO, FI, RG, GU, PU, MA, MN, MS, OT, SC], [192, 256, 384, 320, w, r5, 576, 640, 704], Lg)) ((r.1, none, (126, 120, L, [r.2, T, H, H2, RV, RU, ST, NS, I0, I1, I2, BO, FI, RG, GU, PU, MA, MN, MS, OT, SC], [192, 256, 384, 320, w, r5, 576, 640, 704], Lg)) : AOut) := by
  suffices key : ∀ o : AOut, ((r.1, none, (126, 120, L, [r.2, T, H, H2, RV, RU, ST, NS, I0, I1, I2, BO, FI, RG, GU, PU, MA, MN, MS, OT, SC], [192, 256, 384, 320, w, r5, 576, 640, 704], Lg)) : AOut) = o → Ev (d + 1, 1, 8, 341, 0, [.val (.ref 64), .val (.int p1)], [], (126, 120, L, [Y, T, H, H2, RV, RU, ST, NS, I0, I1, I2, BO, FI, RG, GU, PU, MA, MN, MS, OT, SC], [192, 256, 384, 320, w, r5, 576, 640, 704], Lg)) o from key _ rfl
  intro o ho
  suffices e : Ev (d + 1, 1, 8, 341, 6, [.val (.ref 64), .val (.int p1)], [.ref 192, .int p1, .ref 64], (126, 120, L, [Y, T, H, H2, RV, RU, ST, NS, I0, I1, I2, BO, FI, RG, GU, PU, MA, MN, MS, OT, SC], [192, 256, 384, 320, w, r5, 576, 640, 704], Lg)) o from ev_b 4 e (fun n => Eq.refl _)
  obtain ⟨x1, zh1, h⟩ := bnd h
  have zh1 : f_House_allPeople H = some x1 := zh1
  have ze2 := R_f_House_allPeople_0 (d + 0) Y T H H2 RV RU ST NS I0 I1 I2 BO FI RG GU PU MA MN MS OT SC 192 256 384 320 w r5 576 640 704 L Lg zh1
  suffices e : Ev (d + 1, 1, 8, 341, 9, [.val (.ref 64), .val (.int p1)], [.int x1, .int p1, .ref 64], (126, 120, L, [Y, T, H, H2, RV, RU, ST, NS, I0, I1, I2, BO, FI, RG, GU, PU, MA, MN, MS, OT, SC], [192, 256, 384, 320, w, r5, 576, 640, 704], Lg)) o from ev_call (fun v μ => (d + 1, 1, 8, 341, 9, [.val (.ref 64), .val (.int p1)], v.toList ++ [.int p1, .ref 64], μ)) 1 ze2 e (fun n => Eq.refl _)
  obtain ⟨zt3, zh4, h⟩ := bnd h
  have zj5 : ∀ (v2 : Int32), v2 = zt3 → Ev (d + 1, 1, 8, 341, 20, [.val (.ref 64), .val (.int p1)], [.int v2, .ref 64], (126, 120, L, [Y, T, H, H2, RV, RU, ST, NS, I0, I1, I2, BO, FI, RG, GU, PU, MA, MN, MS, OT, SC], [192, 256, 384, 320, w, r5, 576, 640, 704], Lg)) o := by
    intro v2 ze6
    subst ze6
    obtain ⟨⟨q3, Y_4⟩, zh7, h⟩ := bnd h
    have zh7 : f_Y_refuseUnless Y v2 = some (q3, Y_4) := zh7
    have ze8 := R_f_Y_refuseUnless_1 (d + 0) Y T H H2 RV RU ST NS I0 I1 I2 BO FI RG GU PU MA MN MS OT SC w r5 L Lg v2 zh7
    cases q3 with
    | zero =>
      have h := itp h rfl
      suffices e : Ev (d + 1, 0, 0, 341, 23, [.val (.ref 64), .val (.int p1)], [], (126, 120, L, [Y_4, T, H, H2, RV, RU, ST, NS, I0, I1, I2, BO, FI, RG, GU, PU, MA, MN, MS, OT, SC], [192, 256, 384, 320, w, r5, 576, 640, 704], Lg)) o from ev_call (fun v μ => (d + 1, 0, 0, 341, 23, [.val (.ref 64), .val (.int p1)], v.toList ++ [], μ)) 1 ze8 e (fun n => Eq.refl _)
      have ze9 := Option.some.inj h
      subst ze9
      exact ev_rete 1 ho (fun n => Eq.refl _)
    | succ q3 =>
      have h := itn h (Nat.succ_ne_zero q3)
      have ze10 := Option.some.inj h
      subst ze10
      subst ho
      exact ev_thr (fun v μ => (d + 1, 0, 0, 341, 23, [.val (.ref 64), .val (.int p1)], v.toList ++ [], μ)) 1 ze8 (fun n => Eq.refl _) (fun n => rfl)
  by_cases zc11 : (p1 &&& (x1 ^^^ (-1))) ≠ 0
  · have zh4 := itp zh4 zc11
    suffices e : Ev (d + 1, 1, 8, 341, 19, [.val (.ref 64), .val (.int p1)], [.ref 64], (126, 120, L, [Y, T, H, H2, RV, RU, ST, NS, I0, I1, I2, BO, FI, RG, GU, PU, MA, MN, MS, OT, SC], [192, 256, 384, 320, w, r5, 576, 640, 704], Lg)) o from ev_t (c := (p1 &&& (x1 ^^^ (-1))) ≠ 0) _ _ 4  zc11 e (fun n => Eq.refl _)
    exact ev_b 1 (zj5 0 (Option.some.inj zh4) ) (fun n => Eq.refl _)
  · have zh4 := itn zh4 zc11
    suffices e : Ev (d + 1, 1, 8, 341, 15, [.val (.ref 64), .val (.int p1)], [.ref 64], (126, 120, L, [Y, T, H, H2, RV, RU, ST, NS, I0, I1, I2, BO, FI, RG, GU, PU, MA, MN, MS, OT, SC], [192, 256, 384, 320, w, r5, 576, 640, 704], Lg)) o from ev_f (c := (p1 &&& (x1 ^^^ (-1))) ≠ 0) _ _ 4  zc11 e (fun n => Eq.refl _)
    exact ev_b 2 (zj5 1 (Option.some.inj zh4) ) (fun n => Eq.refl _)
set_option maxRecDepth 1000000 in
set_option maxHeartbeats 4000000 in
theorem R_f_Y_gap_1 (d : Nat) (Y T H H2 RV RU ST NS I0 I1 I2 BO FI RG GU PU MA MN MS OT SC : Nat → Nat → Int32) (w r5 : Nat) (L : Nat) (Lg : Int64) (p1 : Int32) {r : Nat × Int32 × (Nat → Nat → Int32) × (Nat → Nat → Int32) × Nat} (h : f_Y_gap Y H NS BO 192 r5 p1 = some r) : Ev (d + 3, 1, 8, 319, 0, [.val (.ref 64), .val (.int p1)], [], (126, 120, L, [Y, T, H, H2, RV, RU, ST, NS, I0, I1, I2, BO, FI, RG, GU, PU, MA, MN, MS, OT, SC], [192, 256, 384, 320, w, r5, 576, 640, 704], Lg)) ((r.1, a_ov r.1 (.int r.2.1), (126, 120, L, [r.2.2.1, T, H, H2, RV, RU, ST, NS, I0, I1, I2, r.2.2.2.1, FI, RG, GU, PU, MA, MN, MS, OT, SC], [192, 256, 384, 320, w, r.2.2.2.2, 576, 640, 704], Lg)) : AOut) := by
  suffices key : ∀ o : AOut, ((r.1, a_ov r.1 (.int r.2.1), (126, 120, L, [r.2.2.1, T, H, H2, RV, RU, ST, NS, I0, I1, I2, r.2.2.2.1, FI, RG, GU, PU, MA, MN, MS, OT, SC], [192, 256, 384, 320, w, r.2.2.2.2, 576, 640, 704], Lg)) : AOut) = o → Ev (d + 3, 1, 8, 319, 0, [.val (.ref 64), .val (.int p1)], [], (126, 120, L, [Y, T, H, H2, RV, RU, ST, NS, I0, I1, I2, BO, FI, RG, GU, PU, MA, MN, MS, OT, SC], [192, 256, 384, 320, w, r5, 576, 640, 704], Lg)) o from key _ rfl
  intro o ho
  obtain ⟨⟨q1, Y_2⟩, zh1, h⟩ := bnd h
  have zh1 : f_Y_needPeople Y H p1 = some (q1, Y_2) := zh1
  have ze2 := R_f_Y_needPeople_1 (d + 1) Y T H H2 RV RU ST NS I0 I1 I2 BO FI RG GU PU MA MN MS OT SC w r5 L Lg p1 zh1
  cases q1 with
  | zero =>
    have h := itp h rfl
    suffices e : Ev (d + 3, 0, 0, 319, 5, [.val (.ref 64), .val (.int p1)], [], (126, 120, L, [Y_2, T, H, H2, RV, RU, ST, NS, I0, I1, I2, BO, FI, RG, GU, PU, MA, MN, MS, OT, SC], [192, 256, 384, 320, w, r5, 576, 640, 704], Lg)) o from ev_call (fun v μ => (d + 3, 0, 0, 319, 5, [.val (.ref 64), .val (.int p1)], v.toList ++ [], μ)) 3 ze2 e (fun n => Eq.refl _)
    obtain ⟨BO_4, zh3, h⟩ := bnd h
    have zh3 : f_Y_lookNow H NS BO = some BO_4 := zh3
    have ze4 := R_f_Y_lookNow_1 (d + 0) Y_2 T H H2 RV RU ST NS I0 I1 I2 BO FI RG GU PU MA MN MS OT SC w r5 L Lg zh3
    suffices e : Ev (d + 3, 0, 0, 319, 9, [.val (.ref 64), .val (.int p1)], [.ref 768], (126, 120, L, [Y_2, T, H, H2, RV, RU, ST, NS, I0, I1, I2, BO_4, FI, RG, GU, PU, MA, MN, MS, OT, SC], [192, 256, 384, 320, w, 192, 576, 640, 704], Lg)) o from ev_call (fun v μ => (d + 3, 0, 0, 319, 9, [.val (.ref 64), .val (.int p1)], v.toList ++ [], μ)) 2 ze4 e (fun n => Eq.refl _)
    obtain ⟨x5, zh5, h⟩ := bnd h
    have zh5 : f_Board_idleHours H BO_4 p1 = some x5 := zh5
    have ze6 := R_f_Board_idleHours_0 (d + 1) Y_2 T H H2 RV RU ST NS I0 I1 I2 BO_4 FI RG GU PU MA MN MS OT SC 192 256 384 320 w 576 640 704 L Lg p1 zh5
    suffices e : Ev (d + 3, 0, 0, 319, 13, [.val (.ref 64), .val (.int p1)], [.int x5], (126, 120, L, [Y_2, T, H, H2, RV, RU, ST, NS, I0, I1, I2, BO_4, FI, RG, GU, PU, MA, MN, MS, OT, SC], [192, 256, 384, 320, w, 192, 576, 640, 704], Lg)) o from ev_call (fun v μ => (d + 3, 0, 0, 319, 13, [.val (.ref 64), .val (.int p1)], v.toList ++ [], μ)) 2 ze6 e (fun n => Eq.refl _)
    have ze7 := Option.some.inj h
    subst ze7
    exact ev_rete 1 ho (fun n => Eq.refl _)
  | succ q1 =>
    have h := itn h (Nat.succ_ne_zero q1)
    have ze8 := Option.some.inj h
    subst ze8
    subst ho
    exact ev_thr (fun v μ => (d + 3, 0, 0, 319, 5, [.val (.ref 64), .val (.int p1)], v.toList ++ [], μ)) 3 ze2 (fun n => Eq.refl _) (fun n => rfl)
set_option maxRecDepth 1000000 in
set_option maxHeartbeats 4000000 in
theorem R_f_House_allPeople_1 (d : Nat) (Y T H2 H RA RB ST NS I0 I1 I2 BO FI RG GU PU MA MN MS OT SC : Nat → Nat → Int32) (r0 r1 r2 r3 w r5 r6 r7 r8 : Nat) (L : Nat) (Lg : Int64) {r : Int32} (h : f_House_allPeople H = some r) : Ev (d + 0, 0, 0, 217, 0, [.val (.ref 256)], [], (126, 120, L, [Y, T, H2, H, RA, RB, ST, NS, I0, I1, I2, BO, FI, RG, GU, PU, MA, MN, MS, OT, SC], [r0, r1, r2, r3, w, r5, r6, r7, r8], Lg)) ((0, some (.int r), (126, 120, L, [Y, T, H2, H, RA, RB, ST, NS, I0, I1, I2, BO, FI, RG, GU, PU, MA, MN, MS, OT, SC], [r0, r1, r2, r3, w, r5, r6, r7, r8], Lg)) : AOut) := by
  suffices key : ∀ o : AOut, ((0, some (.int r), (126, 120, L, [Y, T, H2, H, RA, RB, ST, NS, I0, I1, I2, BO, FI, RG, GU, PU, MA, MN, MS, OT, SC], [r0, r1, r2, r3, w, r5, r6, r7, r8], Lg)) : AOut) = o → Ev (d + 0, 0, 0, 217, 0, [.val (.ref 256)], [], (126, 120, L, [Y, T, H2, H, RA, RB, ST, NS, I0, I1, I2, BO, FI, RG, GU, PU, MA, MN, MS, OT, SC], [r0, r1, r2, r3, w, r5, r6, r7, r8], Lg)) o from key _ rfl
  intro o ho
  have ze1 := Option.some.inj h
  subst ze1
  exact ev_rete 7 ho (fun n => Eq.refl _)
set_option maxRecDepth 1000000 in
set_option maxHeartbeats 4000000 in
theorem R_f_Y_needPeople_2 (d : Nat) (Y T H2 H RU RV ST NS I0 I1 I2 BO FI RG GU PU MA MN MS OT SC : Nat → Nat → Int32) (w r5 : Nat) (L : Nat) (Lg : Int64) (p1 : Int32) {r : Nat × (Nat → Nat → Int32)} (h : f_Y_needPeople Y H p1 = some r) : Ev (d + 1, 1, 8, 341, 0, [.val (.ref 64), .val (.int p1)], [], (126, 120, L, [Y, T, H2, H, RU, RV, ST, NS, I0, I1, I2, BO, FI, RG, GU, PU, MA, MN, MS, OT, SC], [256, 192, 320, 384, w, r5, 576, 640, 704], Lg)) ((r.1, none, (126, 120, L, [r.2, T, H2, H, RU, RV, ST, NS, I0, I1, I2, BO, FI, RG, GU, PU, MA, MN, MS, OT, SC], [256, 192, 320, 384, w, r5, 576, 640, 704], Lg)) : AOut) := by
  suffices key : ∀ o : AOut, ((r.1, none, (126, 120, L, [r.2, T, H2, H, RU, RV, ST, NS, I0, I1, I2, BO, FI, RG, GU, PU, MA, MN, MS, OT, SC], [256, 192, 320, 384, w, r5, 576, 640, 704], Lg)) : AOut) = o → Ev (d + 1, 1, 8, 341, 0, [.val (.ref 64), .val (.int p1)], [], (126, 120, L, [Y, T, H2, H, RU, RV, ST, NS, I0, I1, I2, BO, FI, RG, GU, PU, MA, MN, MS, OT, SC], [256, 192, 320, 384, w, r5, 576, 640, 704], Lg)) o from key _ rfl
  intro o ho
  suffices e : Ev (d + 1, 1, 8, 341, 6, [.val (.ref 64), .val (.int p1)], [.ref 256, .int p1, .ref 64], (126, 120, L, [Y, T, H2, H, RU, RV, ST, NS, I0, I1, I2, BO, FI, RG, GU, PU, MA, MN, MS, OT, SC], [256, 192, 320, 384, w, r5, 576, 640, 704], Lg)) o from ev_b 4 e (fun n => Eq.refl _)
  obtain ⟨x1, zh1, h⟩ := bnd h
  have zh1 : f_House_allPeople H = some x1 := zh1
  have ze2 := R_f_House_allPeople_1 (d + 0) Y T H2 H RU RV ST NS I0 I1 I2 BO FI RG GU PU MA MN MS OT SC 256 192 320 384 w r5 576 640 704 L Lg zh1
  suffices e : Ev (d + 1, 1, 8, 341, 9, [.val (.ref 64), .val (.int p1)], [.int x1, .int p1, .ref 64], (126, 120, L, [Y, T, H2, H, RU, RV, ST, NS, I0, I1, I2, BO, FI, RG, GU, PU, MA, MN, MS, OT, SC], [256, 192, 320, 384, w, r5, 576, 640, 704], Lg)) o from ev_call (fun v μ => (d + 1, 1, 8, 341, 9, [.val (.ref 64), .val (.int p1)], v.toList ++ [.int p1, .ref 64], μ)) 1 ze2 e (fun n => Eq.refl _)
  obtain ⟨zt3, zh4, h⟩ := bnd h
  have zj5 : ∀ (v2 : Int32), v2 = zt3 → Ev (d + 1, 1, 8, 341, 20, [.val (.ref 64), .val (.int p1)], [.int v2, .ref 64], (126, 120, L, [Y, T, H2, H, RU, RV, ST, NS, I0, I1, I2, BO, FI, RG, GU, PU, MA, MN, MS, OT, SC], [256, 192, 320, 384, w, r5, 576, 640, 704], Lg)) o := by
    intro v2 ze6
    subst ze6
    obtain ⟨⟨q3, Y_4⟩, zh7, h⟩ := bnd h
    have zh7 : f_Y_refuseUnless Y v2 = some (q3, Y_4) := zh7
    have ze8 := R_f_Y_refuseUnless_2 (d + 0) Y T H2 H RU RV ST NS I0 I1 I2 BO FI RG GU PU MA MN MS OT SC w r5 L Lg v2 zh7
    cases q3 with
    | zero =>
      have h := itp h rfl
      suffices e : Ev (d + 1, 0, 0, 341, 23, [.val (.ref 64), .val (.int p1)], [], (126, 120, L, [Y_4, T, H2, H, RU, RV, ST, NS, I0, I1, I2, BO, FI, RG, GU, PU, MA, MN, MS, OT, SC], [256, 192, 320, 384, w, r5, 576, 640, 704], Lg)) o from ev_call (fun v μ => (d + 1, 0, 0, 341, 23, [.val (.ref 64), .val (.int p1)], v.toList ++ [], μ)) 1 ze8 e (fun n => Eq.refl _)
      have ze9 := Option.some.inj h
      subst ze9
      exact ev_rete 1 ho (fun n => Eq.refl _)
    | succ q3 =>
      have h := itn h (Nat.succ_ne_zero q3)
      have ze10 := Option.some.inj h
      subst ze10
      subst ho
      exact ev_thr (fun v μ => (d + 1, 0, 0, 341, 23, [.val (.ref 64), .val (.int p1)], v.toList ++ [], μ)) 1 ze8 (fun n => Eq.refl _) (fun n => rfl)
  by_cases zc11 : (p1 &&& (x1 ^^^ (-1))) ≠ 0
  · have zh4 := itp zh4 zc11
    suffices e : Ev (d + 1, 1, 8, 341, 19, [.val (.ref 64), .val (.int p1)], [.ref 64], (126, 120, L, [Y, T, H2, H, RU, RV, ST, NS, I0, I1, I2, BO, FI, RG, GU, PU, MA, MN, MS, OT, SC], [256, 192, 320, 384, w, r5, 576, 640, 704], Lg)) o from ev_t (c := (p1 &&& (x1 ^^^ (-1))) ≠ 0) _ _ 4  zc11 e (fun n => Eq.refl _)
    exact ev_b 1 (zj5 0 (Option.some.inj zh4) ) (fun n => Eq.refl _)
  · have zh4 := itn zh4 zc11
    suffices e : Ev (d + 1, 1, 8, 341, 15, [.val (.ref 64), .val (.int p1)], [.ref 64], (126, 120, L, [Y, T, H2, H, RU, RV, ST, NS, I0, I1, I2, BO, FI, RG, GU, PU, MA, MN, MS, OT, SC], [256, 192, 320, 384, w, r5, 576, 640, 704], Lg)) o from ev_f (c := (p1 &&& (x1 ^^^ (-1))) ≠ 0) _ _ 4  zc11 e (fun n => Eq.refl _)
    exact ev_b 2 (zj5 1 (Option.some.inj zh4) ) (fun n => Eq.refl _)
